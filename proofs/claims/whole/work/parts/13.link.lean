/-! 13.link (by program): the pure function of each method, its rows, its contract -/
-- HealLink.queue (II)I
def fX11_queue (x0_9 : Int32) (x0_10 : Int32) (p1 : Int32) (p2 : Int32) : Int32 × Int32 × Int32 := (if p2 < 1 then ((-1), x0_9, x0_10) else (if 20 < p2 then ((-1), x0_9, x0_10) else (if (x0_10 + p2) ≤ 30 then (x0_10 + p2, x0_9 ||| ((p1 &&& (((1 : Int32) <<< (p2 &&& 31)) - 1)) <<< (x0_10 &&& 31)), x0_10 + p2) else ((-1), x0_9, x0_10))))
theorem dX11_queue_0 : decode cX11_queue 0 = .ok (.iload_n 2, 1) := by decide +kernel
theorem dX11_queue_1 : decode cX11_queue 1 = .ok (.iconst 1, 1) := by decide +kernel
theorem dX11_queue_2 : decode cX11_queue 2 = .ok (.if_icmp .lt 20, 3) := by decide +kernel
theorem dX11_queue_5 : decode cX11_queue 5 = .ok (.iload_n 2, 1) := by decide +kernel
theorem dX11_queue_6 : decode cX11_queue 6 = .ok (.bipush 20, 2) := by decide +kernel
theorem dX11_queue_8 : decode cX11_queue 8 = .ok (.if_icmp .gt 14, 3) := by decide +kernel
theorem dX11_queue_11 : decode cX11_queue 11 = .ok (.aload_n 0, 1) := by decide +kernel
theorem dX11_queue_12 : decode cX11_queue 12 = .ok (.getfield 84, 3) := by decide +kernel
theorem dX11_queue_15 : decode cX11_queue 15 = .ok (.iload_n 2, 1) := by decide +kernel
theorem dX11_queue_16 : decode cX11_queue 16 = .ok (.iadd, 1) := by decide +kernel
theorem dX11_queue_17 : decode cX11_queue 17 = .ok (.bipush 30, 2) := by decide +kernel
theorem dX11_queue_19 : decode cX11_queue 19 = .ok (.if_icmp .le 5, 3) := by decide +kernel
theorem dX11_queue_22 : decode cX11_queue 22 = .ok (.iconst (-1), 1) := by decide +kernel
theorem dX11_queue_23 : decode cX11_queue 23 = .ok (.ireturn, 1) := by decide +kernel
theorem dX11_queue_24 : decode cX11_queue 24 = .ok (.aload_n 0, 1) := by decide +kernel
theorem dX11_queue_25 : decode cX11_queue 25 = .ok (.dup, 1) := by decide +kernel
theorem dX11_queue_26 : decode cX11_queue 26 = .ok (.getfield 80, 3) := by decide +kernel
theorem dX11_queue_29 : decode cX11_queue 29 = .ok (.iload_n 1, 1) := by decide +kernel
theorem dX11_queue_30 : decode cX11_queue 30 = .ok (.iconst 1, 1) := by decide +kernel
theorem dX11_queue_31 : decode cX11_queue 31 = .ok (.iload_n 2, 1) := by decide +kernel
theorem dX11_queue_32 : decode cX11_queue 32 = .ok (.ishl, 1) := by decide +kernel
theorem dX11_queue_33 : decode cX11_queue 33 = .ok (.iconst 1, 1) := by decide +kernel
theorem dX11_queue_34 : decode cX11_queue 34 = .ok (.isub, 1) := by decide +kernel
theorem dX11_queue_35 : decode cX11_queue 35 = .ok (.iand, 1) := by decide +kernel
theorem dX11_queue_36 : decode cX11_queue 36 = .ok (.aload_n 0, 1) := by decide +kernel
theorem dX11_queue_37 : decode cX11_queue 37 = .ok (.getfield 84, 3) := by decide +kernel
theorem dX11_queue_40 : decode cX11_queue 40 = .ok (.ishl, 1) := by decide +kernel
theorem dX11_queue_41 : decode cX11_queue 41 = .ok (.ior, 1) := by decide +kernel
theorem dX11_queue_42 : decode cX11_queue 42 = .ok (.putfield 80, 3) := by decide +kernel
theorem dX11_queue_45 : decode cX11_queue 45 = .ok (.aload_n 0, 1) := by decide +kernel
theorem dX11_queue_46 : decode cX11_queue 46 = .ok (.dup, 1) := by decide +kernel
theorem dX11_queue_47 : decode cX11_queue 47 = .ok (.getfield 84, 3) := by decide +kernel
theorem dX11_queue_50 : decode cX11_queue 50 = .ok (.iload_n 2, 1) := by decide +kernel
theorem dX11_queue_51 : decode cX11_queue 51 = .ok (.iadd, 1) := by decide +kernel
theorem dX11_queue_52 : decode cX11_queue 52 = .ok (.putfield 84, 3) := by decide +kernel
theorem dX11_queue_55 : decode cX11_queue 55 = .ok (.aload_n 0, 1) := by decide +kernel
theorem dX11_queue_56 : decode cX11_queue 56 = .ok (.getfield 84, 3) := by decide +kernel
theorem dX11_queue_59 : decode cX11_queue 59 = .ok (.ireturn, 1) := by decide +kernel
set_option maxHeartbeats 4000000 in
set_option maxRecDepth 100000 in
theorem kX11_queue {l : Launch} {D : va_G} {cy : Nat → ClassId} {N : Nat} {q : Nat → Nat} {m0 : Nat → Value} {a0 : Nat → vp_A} {sz : Nat} (hN : 105 ≤ N) (hsh : SH q m0) {x0_9 : Int32} (h_x0_9 : m0 9 = .int x0_9) {x0_10 : Int32} (h_x0_10 : m0 10 = .int x0_10) (p1 : Int32) (p2 : Int32) : gMi l yX11_queue cX11_queue 3 (some .int) ({ frames := 0, cells := 0, slots := 0, locals := 0 } : Room) D cy N q m0 a0 sz [.ref (q 0), .int p1, .int p2] (fun r m' a' => r = (fX11_queue x0_9 x0_10 p1 p2).1 ∧ m' 9 = .int ((fX11_queue x0_9 x0_10 p1 p2).2.1) ∧ m' 10 = .int ((fX11_queue x0_9 x0_10 p1 p2).2.2) ∧ (∀ j, nel j [9, 10] = false → m' j = m0 j) ∧ a' = a0) := by
  generalize hs0 : fX11_queue x0_9 x0_10 p1 p2 = X0
  refine g_ofi (by decide) (Nat.le_of_ble_eq_true rfl) ?_
  intro p e s M args below meth c hx hb hr hG hown hin hlocks hml hW hS ls hl
  unfold fX11_queue at hs0
  have hoff : ∀ j, nel j [9, 10] = false → m0 j = m0 j := off0
  refine lv_iload_n hx hb dX11_queue_0 rfl (lv_at hl 2 rfl) ?_
  refine lv_iconst (v := 1) hx hb dX11_queue_1 (by decide) ?_
  refine lv_icmp_lt (tgt := 22) hx hb dX11_queue_2 (by decide) (fun c1 => ?_) (fun c1 => ?_)
  · rw [if_pos c1] at hs0
    refine lv_iconst (v := (-1)) hx hb dX11_queue_22 (by decide) ?_
    subst hs0
    exact W.zret hx hb hr rfl (fun t ht hw => ⟨⟨_, (m0, a0), rfl, ⟨rfl, h_x0_9, h_x0_10, hoff, rfl⟩, g_end hW ht hw⟩, hS.F ht⟩) hS.2.2 dX11_queue_23 hlocks
  · rw [if_neg c1] at hs0
    refine lv_iload_n hx hb dX11_queue_5 rfl (lv_at hl 2 rfl) ?_
    refine lv_bipush (v := 20) hx hb dX11_queue_6 (by decide) ?_
    refine lv_icmp_gt (tgt := 22) hx hb dX11_queue_8 (by decide) (fun c2 => ?_) (fun c2 => ?_)
    · rw [if_pos c2] at hs0
      refine lv_iconst (v := (-1)) hx hb dX11_queue_22 (by decide) ?_
      subst hs0
      exact W.zret hx hb hr rfl (fun t ht hw => ⟨⟨_, (m0, a0), rfl, ⟨rfl, h_x0_9, h_x0_10, hoff, rfl⟩, g_end hW ht hw⟩, hS.F ht⟩) hS.2.2 dX11_queue_23 hlocks
    · rw [if_neg c2] at hs0
      refine lv_aload_n hx hb dX11_queue_11 rfl (lv_at hl 0 rfl) ?_
      refine gf11_10 hx hb hG hown hW (o := 0) (ltN hN 0 rfl) gk0 (v := .int x0_10) h_x0_10 gx212 dX11_queue_12 ?_
      refine lv_iload_n hx hb dX11_queue_15 rfl (lv_at hl 2 rfl) ?_
      refine lv_iadd hx hb dX11_queue_16 ?_
      refine lv_bipush (v := 30) hx hb dX11_queue_17 (by decide) ?_
      refine lv_icmp_le (tgt := 24) hx hb dX11_queue_19 (by decide) (fun c3 => ?_) (fun c3 => ?_)
      · rw [if_pos c3] at hs0
        refine lv_aload_n hx hb dX11_queue_24 rfl (lv_at hl 0 rfl) ?_
        refine lv_dup hx hb dX11_queue_25 rfl ?_
        refine gf11_9 hx hb hG hown hW (o := 0) (ltN hN 0 rfl) gk0 (v := .int x0_9) h_x0_9 gx211 dX11_queue_26 ?_
        refine lv_iload_n hx hb dX11_queue_29 rfl (lv_at hl 1 rfl) ?_
        refine lv_iconst (v := 1) hx hb dX11_queue_30 (by decide) ?_
        refine lv_iload_n hx hb dX11_queue_31 rfl (lv_at hl 2 rfl) ?_
        refine lv_ishl hx hb dX11_queue_32 ?_
        refine lv_iconst (v := 1) hx hb dX11_queue_33 (by decide) ?_
        refine lv_isub hx hb dX11_queue_34 ?_
        refine lv_iand hx hb dX11_queue_35 ?_
        refine lv_aload_n hx hb dX11_queue_36 rfl (lv_at hl 0 rfl) ?_
        refine gf11_10 hx hb hG hown hW (o := 0) (ltN hN 0 rfl) gk0 (v := .int x0_10) h_x0_10 gx212 dX11_queue_37 ?_
        refine lv_ishl hx hb dX11_queue_40 ?_
        refine lv_ior hx hb dX11_queue_41 ?_
        refine gp11_9 hx hb hG hown hW hS (o := 0) (ltN hN 0 rfl) gk0 (v := (x0_9 ||| ((p1 &&& (((1 : Int32) <<< (p2 &&& 31)) - 1)) <<< (x0_10 &&& 31)))) gx211 dX11_queue_42 (fun m4 H locs hm4 ho4 hW hS => ?_)
        have ho4 := off1 ho4
        have w_x0_9 : m4 9 = .int (x0_9 ||| ((p1 &&& (((1 : Int32) <<< (p2 &&& 31)) - 1)) <<< (x0_10 &&& 31))) := hm4
        have w_x0_10 : m4 10 = .int x0_10 := (ho4 10 rfl).trans h_x0_10
        have hoff := offm hoff ho4 (by decide +kernel)
        have hsh := SH.off hsh ho4 (by decide +kernel)
        refine lv_aload_n hx hb dX11_queue_45 rfl (lv_at hl 0 rfl) ?_
        refine lv_dup hx hb dX11_queue_46 rfl ?_
        refine gf11_10 hx hb hG hown hW (o := 0) (ltN hN 0 rfl) gk0 (v := .int x0_10) w_x0_10 gx212 dX11_queue_47 ?_
        refine lv_iload_n hx hb dX11_queue_50 rfl (lv_at hl 2 rfl) ?_
        refine lv_iadd hx hb dX11_queue_51 ?_
        refine gp11_10 hx hb hG hown hW hS (o := 0) (ltN hN 0 rfl) gk0 (v := (x0_10 + p2)) gx212 dX11_queue_52 (fun m5 H locs hm5 ho5 hW hS => ?_)
        have ho5 := off1 ho5
        have w_x0_9 : m5 9 = .int (x0_9 ||| ((p1 &&& (((1 : Int32) <<< (p2 &&& 31)) - 1)) <<< (x0_10 &&& 31))) := (ho5 9 rfl).trans w_x0_9
        have w_x0_10 : m5 10 = .int (x0_10 + p2) := hm5
        have hoff := offm hoff ho5 (by decide +kernel)
        have hsh := SH.off hsh ho5 (by decide +kernel)
        refine lv_aload_n hx hb dX11_queue_55 rfl (lv_at hl 0 rfl) ?_
        refine gf11_10 hx hb hG hown hW (o := 0) (ltN hN 0 rfl) gk0 (v := .int (x0_10 + p2)) w_x0_10 gx212 dX11_queue_56 ?_
        subst hs0
        exact W.zret hx hb hr rfl (fun t ht hw => ⟨⟨_, (m5, a0), rfl, ⟨rfl, w_x0_9, w_x0_10, hoff, rfl⟩, g_end hW ht hw⟩, hS.F ht⟩) hS.2.2 dX11_queue_59 hlocks
      · rw [if_neg c3] at hs0
        refine lv_iconst (v := (-1)) hx hb dX11_queue_22 (by decide) ?_
        subst hs0
        exact W.zret hx hb hr rfl (fun t ht hw => ⟨⟨_, (m0, a0), rfl, ⟨rfl, h_x0_9, h_x0_10, hoff, rfl⟩, g_end hW ht hw⟩, hS.F ht⟩) hS.2.2 dX11_queue_23 hlocks
-- HealLink.of (I)I
def fX11_of (x0_8 : Int64) (x0_10 : Int32) (x24_0 : Int32) (xkr_0 : Int32) (xkr_1 : Int32) (xkr_2 : Int32) (xkr_3 : Int32) (p1 : Int32) : Int32 := (if p1 = 0 then (fX7_labelOf x0_8) else (if p1 = 1 then (fX7_valueOf x0_8) else (if p1 = 2 then (fX7_acksOf x0_8) else (if p1 = 3 then (if (fX7_takenOf x0_8) = 0 then 0 else 1) else (if p1 = 4 then (fX7_lastOf x0_8) else (if p1 = 5 then (fX7_packetsIn x0_8) else (if p1 = 6 then (fX7_lettersIn x0_8) else (if p1 = 7 then x0_10 else (if p1 = 8 then xkr_0 else (if p1 = 9 then xkr_1 else (if p1 = 10 then xkr_2 else (if p1 = 11 then xkr_3 else (if p1 = 12 then x24_0 else (-1))))))))))))))
theorem dX11_of_0 : decode cX11_of 0 = .ok (.iload_n 1, 1) := by decide +kernel
theorem dX11_of_1 : decode cX11_of 1 = .ok (.tableswitch 176 0 12 #[67, 75, 83, 91, 107, 115, 123, 131, 136, 144, 152, 160, 168], 67) := by decide +kernel
theorem dX11_of_68 : decode cX11_of 68 = .ok (.aload_n 0, 1) := by decide +kernel
theorem dX11_of_69 : decode cX11_of 69 = .ok (.getfield 64, 3) := by decide +kernel
theorem dX11_of_72 : decode cX11_of 72 = .ok (.invokestatic 189, 3) := by decide +kernel
theorem dX11_of_75 : decode cX11_of 75 = .ok (.ireturn, 1) := by decide +kernel
theorem dX11_of_76 : decode cX11_of 76 = .ok (.aload_n 0, 1) := by decide +kernel
theorem dX11_of_77 : decode cX11_of 77 = .ok (.getfield 64, 3) := by decide +kernel
theorem dX11_of_80 : decode cX11_of 80 = .ok (.invokestatic 192, 3) := by decide +kernel
theorem dX11_of_83 : decode cX11_of 83 = .ok (.ireturn, 1) := by decide +kernel
theorem dX11_of_84 : decode cX11_of 84 = .ok (.aload_n 0, 1) := by decide +kernel
theorem dX11_of_85 : decode cX11_of 85 = .ok (.getfield 64, 3) := by decide +kernel
theorem dX11_of_88 : decode cX11_of 88 = .ok (.invokestatic 195, 3) := by decide +kernel
theorem dX11_of_91 : decode cX11_of 91 = .ok (.ireturn, 1) := by decide +kernel
theorem dX11_of_92 : decode cX11_of 92 = .ok (.aload_n 0, 1) := by decide +kernel
theorem dX11_of_93 : decode cX11_of 93 = .ok (.getfield 64, 3) := by decide +kernel
theorem dX11_of_96 : decode cX11_of 96 = .ok (.invokestatic 198, 3) := by decide +kernel
theorem dX11_of_99 : decode cX11_of 99 = .ok (.ifCond .eq 7, 3) := by decide +kernel
theorem dX11_of_102 : decode cX11_of 102 = .ok (.iconst 1, 1) := by decide +kernel
theorem dX11_of_103 : decode cX11_of 103 = .ok (.goto 4, 3) := by decide +kernel
theorem dX11_of_106 : decode cX11_of 106 = .ok (.iconst 0, 1) := by decide +kernel
theorem dX11_of_107 : decode cX11_of 107 = .ok (.ireturn, 1) := by decide +kernel
theorem dX11_of_108 : decode cX11_of 108 = .ok (.aload_n 0, 1) := by decide +kernel
theorem dX11_of_109 : decode cX11_of 109 = .ok (.getfield 64, 3) := by decide +kernel
theorem dX11_of_112 : decode cX11_of 112 = .ok (.invokestatic 117, 3) := by decide +kernel
theorem dX11_of_115 : decode cX11_of 115 = .ok (.ireturn, 1) := by decide +kernel
theorem dX11_of_116 : decode cX11_of 116 = .ok (.aload_n 0, 1) := by decide +kernel
theorem dX11_of_117 : decode cX11_of 117 = .ok (.getfield 64, 3) := by decide +kernel
theorem dX11_of_120 : decode cX11_of 120 = .ok (.invokestatic 138, 3) := by decide +kernel
theorem dX11_of_123 : decode cX11_of 123 = .ok (.ireturn, 1) := by decide +kernel
theorem dX11_of_124 : decode cX11_of 124 = .ok (.aload_n 0, 1) := by decide +kernel
theorem dX11_of_125 : decode cX11_of 125 = .ok (.getfield 64, 3) := by decide +kernel
theorem dX11_of_128 : decode cX11_of 128 = .ok (.invokestatic 151, 3) := by decide +kernel
theorem dX11_of_131 : decode cX11_of 131 = .ok (.ireturn, 1) := by decide +kernel
theorem dX11_of_132 : decode cX11_of 132 = .ok (.aload_n 0, 1) := by decide +kernel
theorem dX11_of_133 : decode cX11_of 133 = .ok (.getfield 84, 3) := by decide +kernel
theorem dX11_of_136 : decode cX11_of 136 = .ok (.ireturn, 1) := by decide +kernel
theorem dX11_of_137 : decode cX11_of 137 = .ok (.aload_n 0, 1) := by decide +kernel
theorem dX11_of_138 : decode cX11_of 138 = .ok (.getfield 56, 3) := by decide +kernel
theorem dX11_of_141 : decode cX11_of 141 = .ok (.getfield 145, 3) := by decide +kernel
theorem dX11_of_144 : decode cX11_of 144 = .ok (.ireturn, 1) := by decide +kernel
theorem dX11_of_145 : decode cX11_of 145 = .ok (.aload_n 0, 1) := by decide +kernel
theorem dX11_of_146 : decode cX11_of 146 = .ok (.getfield 56, 3) := by decide +kernel
theorem dX11_of_149 : decode cX11_of 149 = .ok (.getfield 202, 3) := by decide +kernel
theorem dX11_of_152 : decode cX11_of 152 = .ok (.ireturn, 1) := by decide +kernel
theorem dX11_of_153 : decode cX11_of 153 = .ok (.aload_n 0, 1) := by decide +kernel
theorem dX11_of_154 : decode cX11_of 154 = .ok (.getfield 56, 3) := by decide +kernel
theorem dX11_of_157 : decode cX11_of 157 = .ok (.getfield 106, 3) := by decide +kernel
theorem dX11_of_160 : decode cX11_of 160 = .ok (.ireturn, 1) := by decide +kernel
theorem dX11_of_161 : decode cX11_of 161 = .ok (.aload_n 0, 1) := by decide +kernel
theorem dX11_of_162 : decode cX11_of 162 = .ok (.getfield 56, 3) := by decide +kernel
theorem dX11_of_165 : decode cX11_of 165 = .ok (.getfield 125, 3) := by decide +kernel
theorem dX11_of_168 : decode cX11_of 168 = .ok (.ireturn, 1) := by decide +kernel
theorem dX11_of_169 : decode cX11_of 169 = .ok (.aload_n 0, 1) := by decide +kernel
theorem dX11_of_170 : decode cX11_of 170 = .ok (.getfield 40, 3) := by decide +kernel
theorem dX11_of_173 : decode cX11_of 173 = .ok (.getfield 205, 3) := by decide +kernel
theorem dX11_of_176 : decode cX11_of 176 = .ok (.ireturn, 1) := by decide +kernel
theorem dX11_of_177 : decode cX11_of 177 = .ok (.iconst (-1), 1) := by decide +kernel
theorem dX11_of_178 : decode cX11_of 178 = .ok (.ireturn, 1) := by decide +kernel
set_option maxHeartbeats 4000000 in
set_option maxRecDepth 100000 in
theorem kX11_of {l : Launch} {D : va_G} {cy : Nat → ClassId} {N : Nat} {q : Nat → Nat} {m0 : Nat → Value} {a0 : Nat → vp_A} {sz : Nat} (hN : 105 ≤ N) (hsh : SH q m0) {kr : Nat} (hkr : kr < N) (hgk : gk kr = 7) (hrf : m0 7 = .ref (q kr)) {x0_8 : Int64} (h_x0_8 : m0 8 = .long x0_8) {x0_10 : Int32} (h_x0_10 : m0 10 = .int x0_10) {x24_0 : Int32} (h_x24_0 : m0 2400 = .int x24_0) {xkr_0 : Int32} (h_xkr_0 : m0 (100 * kr + 0) = .int xkr_0) {xkr_1 : Int32} (h_xkr_1 : m0 (100 * kr + 1) = .int xkr_1) {xkr_2 : Int32} (h_xkr_2 : m0 (100 * kr + 2) = .int xkr_2) {xkr_3 : Int32} (h_xkr_3 : m0 (100 * kr + 3) = .int xkr_3) (p1 : Int32) : gMi l yX11_of cX11_of 2 (some .int) ({ frames := 2, cells := 0, slots := 0, locals := 44 } : Room) D cy N q m0 a0 sz [.ref (q 0), .int p1] (fun r m' a' => r = (fX11_of x0_8 x0_10 x24_0 xkr_0 xkr_1 xkr_2 xkr_3 p1) ∧ m' = m0 ∧ a' = a0) := by
  generalize hs0 : fX11_of x0_8 x0_10 x24_0 xkr_0 xkr_1 xkr_2 xkr_3 p1 = X0
  refine g_ofi (by decide) (Nat.le_of_ble_eq_true rfl) ?_
  intro p e s M args below meth c hx hb hr hG hown hin hlocks hml hW hS ls hl
  unfold fX11_of at hs0
  refine lv_iload_n hx hb dX11_of_0 rfl (lv_at hl 1 rfl) ?_
  by_cases c1 : p1 = 0
  · rw [if_pos c1] at hs0
    refine lv_tableIn (tgt := 68) hx hb dX11_of_1 (by rw [c1]; decide) (by rw [c1]; decide) (by rw [c1]; rfl) (by decide) ?_
    refine lv_aload_n hx hb dX11_of_68 rfl (lv_at hl 0 rfl) ?_
    refine gf11_8 hx hb hG hown hW (o := 0) (ltN hN 0 rfl) gk0 (v := .long x0_8) h_x0_8 gx41 dX11_of_69 ?_
    refine g_SiR (n := 1) hx hb hml hown hG hW hS [.long x0_8] (kX7_labelOf hN x0_8) rfl (gd_S gx593 gx468 gx39 gx469) rfl rfl (by decide) ⟨Nat.le_of_ble_eq_true rfl, Nat.le_of_ble_eq_true rfl⟩ rfl hl (Nat.le_of_ble_eq_true rfl) ⟨Nat.zero_le _, Nat.zero_le _⟩ dX11_of_72 (fun H locs hW hS => ?_)
    subst hs0
    exact W.zret hx hb hr rfl (fun t ht hw => ⟨⟨_, (m0, a0), rfl, ⟨rfl, rfl, rfl⟩, g_end hW ht hw⟩, hS.F ht⟩) hS.2.2 dX11_of_75 hlocks
  · rw [if_neg c1] at hs0
    by_cases c3 : p1 = 1
    · rw [if_pos c3] at hs0
      refine lv_tableIn (tgt := 76) hx hb dX11_of_1 (by rw [c3]; decide) (by rw [c3]; decide) (by rw [c3]; rfl) (by decide) ?_
      refine lv_aload_n hx hb dX11_of_76 rfl (lv_at hl 0 rfl) ?_
      refine gf11_8 hx hb hG hown hW (o := 0) (ltN hN 0 rfl) gk0 (v := .long x0_8) h_x0_8 gx41 dX11_of_77 ?_
      refine g_SiR (n := 1) hx hb hml hown hG hW hS [.long x0_8] (kX7_valueOf hN x0_8) rfl (gd_S gx416 gx417 gx39 gx418) rfl rfl (by decide) ⟨Nat.le_of_ble_eq_true rfl, Nat.le_of_ble_eq_true rfl⟩ rfl hl (Nat.le_of_ble_eq_true rfl) ⟨Nat.zero_le _, Nat.zero_le _⟩ dX11_of_80 (fun H locs hW hS => ?_)
      subst hs0
      exact W.zret hx hb hr rfl (fun t ht hw => ⟨⟨_, (m0, a0), rfl, ⟨rfl, rfl, rfl⟩, g_end hW ht hw⟩, hS.F ht⟩) hS.2.2 dX11_of_83 hlocks
    · rw [if_neg c3] at hs0
      by_cases c5 : p1 = 2
      · rw [if_pos c5] at hs0
        refine lv_tableIn (tgt := 84) hx hb dX11_of_1 (by rw [c5]; decide) (by rw [c5]; decide) (by rw [c5]; rfl) (by decide) ?_
        refine lv_aload_n hx hb dX11_of_84 rfl (lv_at hl 0 rfl) ?_
        refine gf11_8 hx hb hG hown hW (o := 0) (ltN hN 0 rfl) gk0 (v := .long x0_8) h_x0_8 gx41 dX11_of_85 ?_
        refine g_SiR (n := 1) hx hb hml hown hG hW hS [.long x0_8] (kX7_acksOf hN x0_8) rfl (gd_S gx594 gx475 gx39 gx476) rfl rfl (by decide) ⟨Nat.le_of_ble_eq_true rfl, Nat.le_of_ble_eq_true rfl⟩ rfl hl (Nat.le_of_ble_eq_true rfl) ⟨Nat.zero_le _, Nat.zero_le _⟩ dX11_of_88 (fun H locs hW hS => ?_)
        subst hs0
        exact W.zret hx hb hr rfl (fun t ht hw => ⟨⟨_, (m0, a0), rfl, ⟨rfl, rfl, rfl⟩, g_end hW ht hw⟩, hS.F ht⟩) hS.2.2 dX11_of_91 hlocks
      · rw [if_neg c5] at hs0
        by_cases c7 : p1 = 3
        · rw [if_pos c7] at hs0
          refine lv_tableIn (tgt := 92) hx hb dX11_of_1 (by rw [c7]; decide) (by rw [c7]; decide) (by rw [c7]; rfl) (by decide) ?_
          refine lv_aload_n hx hb dX11_of_92 rfl (lv_at hl 0 rfl) ?_
          refine gf11_8 hx hb hG hown hW (o := 0) (ltN hN 0 rfl) gk0 (v := .long x0_8) h_x0_8 gx41 dX11_of_93 ?_
          refine g_SiR (n := 1) hx hb hml hown hG hW hS [.long x0_8] (kX7_takenOf hN x0_8) rfl (gd_S gx595 gx454 gx39 gx455) rfl rfl (by decide) ⟨Nat.le_of_ble_eq_true rfl, Nat.le_of_ble_eq_true rfl⟩ rfl hl (Nat.le_of_ble_eq_true rfl) ⟨Nat.zero_le _, Nat.zero_le _⟩ dX11_of_96 (fun H locs hW hS => ?_)
          refine lv_if_eq (tgt := 106) hx hb dX11_of_99 (by decide) (fun c9 => ?_) (fun c9 => ?_)
          · rw [if_pos c9] at hs0
            refine lv_iconst (v := 0) hx hb dX11_of_106 (by decide) ?_
            subst hs0
            exact W.zret hx hb hr rfl (fun t ht hw => ⟨⟨_, (m0, a0), rfl, ⟨rfl, rfl, rfl⟩, g_end hW ht hw⟩, hS.F ht⟩) hS.2.2 dX11_of_107 hlocks
          · rw [if_neg c9] at hs0
            refine lv_iconst (v := 1) hx hb dX11_of_102 (by decide) ?_
            refine lv_goto (tgt := 107) hx hb dX11_of_103 (by decide) ?_
            subst hs0
            exact W.zret hx hb hr rfl (fun t ht hw => ⟨⟨_, (m0, a0), rfl, ⟨rfl, rfl, rfl⟩, g_end hW ht hw⟩, hS.F ht⟩) hS.2.2 dX11_of_107 hlocks
        · rw [if_neg c7] at hs0
          by_cases c10 : p1 = 4
          · rw [if_pos c10] at hs0
            refine lv_tableIn (tgt := 108) hx hb dX11_of_1 (by rw [c10]; decide) (by rw [c10]; decide) (by rw [c10]; rfl) (by decide) ?_
            refine lv_aload_n hx hb dX11_of_108 rfl (lv_at hl 0 rfl) ?_
            refine gf11_8 hx hb hG hown hW (o := 0) (ltN hN 0 rfl) gk0 (v := .long x0_8) h_x0_8 gx41 dX11_of_109 ?_
            refine g_SiR (n := 1) hx hb hml hown hG hW hS [.long x0_8] (kX7_lastOf hN x0_8) rfl (gd_S gx293 gx294 gx39 gx295) rfl rfl (by decide) ⟨Nat.le_of_ble_eq_true rfl, Nat.le_of_ble_eq_true rfl⟩ rfl hl (Nat.le_of_ble_eq_true rfl) ⟨Nat.zero_le _, Nat.zero_le _⟩ dX11_of_112 (fun H locs hW hS => ?_)
            subst hs0
            exact W.zret hx hb hr rfl (fun t ht hw => ⟨⟨_, (m0, a0), rfl, ⟨rfl, rfl, rfl⟩, g_end hW ht hw⟩, hS.F ht⟩) hS.2.2 dX11_of_115 hlocks
          · rw [if_neg c10] at hs0
            by_cases c12 : p1 = 5
            · rw [if_pos c12] at hs0
              refine lv_tableIn (tgt := 116) hx hb dX11_of_1 (by rw [c12]; decide) (by rw [c12]; decide) (by rw [c12]; rfl) (by decide) ?_
              refine lv_aload_n hx hb dX11_of_116 rfl (lv_at hl 0 rfl) ?_
              refine gf11_8 hx hb hG hown hW (o := 0) (ltN hN 0 rfl) gk0 (v := .long x0_8) h_x0_8 gx41 dX11_of_117 ?_
              refine g_SiR (n := 1) hx hb hml hown hG hW hS [.long x0_8] (kX7_packetsIn hN x0_8) rfl (gd_S gx342 gx343 gx39 gx344) rfl rfl (by decide) ⟨Nat.le_of_ble_eq_true rfl, Nat.le_of_ble_eq_true rfl⟩ rfl hl (Nat.le_of_ble_eq_true rfl) ⟨Nat.zero_le _, Nat.zero_le _⟩ dX11_of_120 (fun H locs hW hS => ?_)
              subst hs0
              exact W.zret hx hb hr rfl (fun t ht hw => ⟨⟨_, (m0, a0), rfl, ⟨rfl, rfl, rfl⟩, g_end hW ht hw⟩, hS.F ht⟩) hS.2.2 dX11_of_123 hlocks
            · rw [if_neg c12] at hs0
              by_cases c14 : p1 = 6
              · rw [if_pos c14] at hs0
                refine lv_tableIn (tgt := 124) hx hb dX11_of_1 (by rw [c14]; decide) (by rw [c14]; decide) (by rw [c14]; rfl) (by decide) ?_
                refine lv_aload_n hx hb dX11_of_124 rfl (lv_at hl 0 rfl) ?_
                refine gf11_8 hx hb hG hown hW (o := 0) (ltN hN 0 rfl) gk0 (v := .long x0_8) h_x0_8 gx41 dX11_of_125 ?_
                refine g_SiR (n := 1) hx hb hml hown hG hW hS [.long x0_8] (kX7_lettersIn hN x0_8) rfl (gd_S gx371 gx372 gx39 gx373) rfl rfl (by decide) ⟨Nat.le_of_ble_eq_true rfl, Nat.le_of_ble_eq_true rfl⟩ rfl hl (Nat.le_of_ble_eq_true rfl) ⟨Nat.zero_le _, Nat.zero_le _⟩ dX11_of_128 (fun H locs hW hS => ?_)
                subst hs0
                exact W.zret hx hb hr rfl (fun t ht hw => ⟨⟨_, (m0, a0), rfl, ⟨rfl, rfl, rfl⟩, g_end hW ht hw⟩, hS.F ht⟩) hS.2.2 dX11_of_131 hlocks
              · rw [if_neg c14] at hs0
                by_cases c16 : p1 = 7
                · rw [if_pos c16] at hs0
                  refine lv_tableIn (tgt := 132) hx hb dX11_of_1 (by rw [c16]; decide) (by rw [c16]; decide) (by rw [c16]; rfl) (by decide) ?_
                  refine lv_aload_n hx hb dX11_of_132 rfl (lv_at hl 0 rfl) ?_
                  refine gf11_10 hx hb hG hown hW (o := 0) (ltN hN 0 rfl) gk0 (v := .int x0_10) h_x0_10 gx212 dX11_of_133 ?_
                  subst hs0
                  exact W.zret hx hb hr rfl (fun t ht hw => ⟨⟨_, (m0, a0), rfl, ⟨rfl, rfl, rfl⟩, g_end hW ht hw⟩, hS.F ht⟩) hS.2.2 dX11_of_136 hlocks
                · rw [if_neg c16] at hs0
                  by_cases c17 : p1 = 8
                  · rw [if_pos c17] at hs0
                    refine lv_tableIn (tgt := 137) hx hb dX11_of_1 (by rw [c17]; decide) (by rw [c17]; decide) (by rw [c17]; rfl) (by decide) ?_
                    refine lv_aload_n hx hb dX11_of_137 rfl (lv_at hl 0 rfl) ?_
                    refine gf11_7 hx hb hG hown hW (o := 0) (ltN hN 0 rfl) gk0 (v := .ref (q kr)) hrf gx40 dX11_of_138 ?_
                    refine gf7_0 hx hb hG hown hW (o := kr) hkr hgk (v := .int xkr_0) h_xkr_0 gx338 dX11_of_141 ?_
                    subst hs0
                    exact W.zret hx hb hr rfl (fun t ht hw => ⟨⟨_, (m0, a0), rfl, ⟨rfl, rfl, rfl⟩, g_end hW ht hw⟩, hS.F ht⟩) hS.2.2 dX11_of_144 hlocks
                  · rw [if_neg c17] at hs0
                    by_cases c18 : p1 = 9
                    · rw [if_pos c18] at hs0
                      refine lv_tableIn (tgt := 145) hx hb dX11_of_1 (by rw [c18]; decide) (by rw [c18]; decide) (by rw [c18]; rfl) (by decide) ?_
                      refine lv_aload_n hx hb dX11_of_145 rfl (lv_at hl 0 rfl) ?_
                      refine gf11_7 hx hb hG hown hW (o := 0) (ltN hN 0 rfl) gk0 (v := .ref (q kr)) hrf gx40 dX11_of_146 ?_
                      refine gf7_1 hx hb hG hown hW (o := kr) hkr hgk (v := .int xkr_1) h_xkr_1 gx591 dX11_of_149 ?_
                      subst hs0
                      exact W.zret hx hb hr rfl (fun t ht hw => ⟨⟨_, (m0, a0), rfl, ⟨rfl, rfl, rfl⟩, g_end hW ht hw⟩, hS.F ht⟩) hS.2.2 dX11_of_152 hlocks
                    · rw [if_neg c18] at hs0
                      by_cases c19 : p1 = 10
                      · rw [if_pos c19] at hs0
                        refine lv_tableIn (tgt := 153) hx hb dX11_of_1 (by rw [c19]; decide) (by rw [c19]; decide) (by rw [c19]; rfl) (by decide) ?_
                        refine lv_aload_n hx hb dX11_of_153 rfl (lv_at hl 0 rfl) ?_
                        refine gf11_7 hx hb hG hown hW (o := 0) (ltN hN 0 rfl) gk0 (v := .ref (q kr)) hrf gx40 dX11_of_154 ?_
                        refine gf7_2 hx hb hG hown hW (o := kr) hkr hgk (v := .int xkr_2) h_xkr_2 gx262 dX11_of_157 ?_
                        subst hs0
                        exact W.zret hx hb hr rfl (fun t ht hw => ⟨⟨_, (m0, a0), rfl, ⟨rfl, rfl, rfl⟩, g_end hW ht hw⟩, hS.F ht⟩) hS.2.2 dX11_of_160 hlocks
                      · rw [if_neg c19] at hs0
                        by_cases c20 : p1 = 11
                        · rw [if_pos c20] at hs0
                          refine lv_tableIn (tgt := 161) hx hb dX11_of_1 (by rw [c20]; decide) (by rw [c20]; decide) (by rw [c20]; rfl) (by decide) ?_
                          refine lv_aload_n hx hb dX11_of_161 rfl (lv_at hl 0 rfl) ?_
                          refine gf11_7 hx hb hG hown hW (o := 0) (ltN hN 0 rfl) gk0 (v := .ref (q kr)) hrf gx40 dX11_of_162 ?_
                          refine gf7_3 hx hb hG hown hW (o := kr) hkr hgk (v := .int xkr_3) h_xkr_3 gx311 dX11_of_165 ?_
                          subst hs0
                          exact W.zret hx hb hr rfl (fun t ht hw => ⟨⟨_, (m0, a0), rfl, ⟨rfl, rfl, rfl⟩, g_end hW ht hw⟩, hS.F ht⟩) hS.2.2 dX11_of_168 hlocks
                        · rw [if_neg c20] at hs0
                          by_cases c21 : p1 = 12
                          · rw [if_pos c21] at hs0
                            refine lv_tableIn (tgt := 169) hx hb dX11_of_1 (by rw [c21]; decide) (by rw [c21]; decide) (by rw [c21]; rfl) (by decide) ?_
                            refine lv_aload_n hx hb dX11_of_169 rfl (lv_at hl 0 rfl) ?_
                            refine gf11_5 hx hb hG hown hW (o := 0) (ltN hN 0 rfl) gk0 (v := .ref (q 24)) (sh0_5 hsh) gx32 dX11_of_170 ?_
                            refine gf10_0 hx hb hG hown hW (o := 24) (ltN hN 24 rfl) gk24 (v := .int x24_0) h_x24_0 gx592 dX11_of_173 ?_
                            subst hs0
                            exact W.zret hx hb hr rfl (fun t ht hw => ⟨⟨_, (m0, a0), rfl, ⟨rfl, rfl, rfl⟩, g_end hW ht hw⟩, hS.F ht⟩) hS.2.2 dX11_of_176 hlocks
                          · rw [if_neg c21] at hs0
                            have n1 := ti_ne (n := 0) c1 (by decide)
                            have n3 := ti_ne (n := 1) c3 (by decide)
                            have n5 := ti_ne (n := 2) c5 (by decide)
                            have n7 := ti_ne (n := 3) c7 (by decide)
                            have n10 := ti_ne (n := 4) c10 (by decide)
                            have n12 := ti_ne (n := 5) c12 (by decide)
                            have n14 := ti_ne (n := 6) c14 (by decide)
                            have n16 := ti_ne (n := 7) c16 (by decide)
                            have n17 := ti_ne (n := 8) c17 (by decide)
                            have n18 := ti_ne (n := 9) c18 (by decide)
                            have n19 := ti_ne (n := 10) c19 (by decide)
                            have n20 := ti_ne (n := 11) c20 (by decide)
                            have n21 := ti_ne (n := 12) c21 (by decide)
                            refine lv_tableOut (tgt := 177) hx hb dX11_of_1 (by omega) (by decide) ?_
                            refine lv_iconst (v := (-1)) hx hb dX11_of_177 (by decide) ?_
                            subst hs0
                            exact W.zret hx hb hr rfl (fun t ht hw => ⟨⟨_, (m0, a0), rfl, ⟨rfl, rfl, rfl⟩, g_end hW ht hw⟩, hS.F ht⟩) hS.2.2 dX11_of_178 hlocks
-- HealLink.count (I)I
def fX11_count (A1 : Nat → Int32) (p1 : Int32) : Option (Int32) := (if p1 < 0 then some (-1) else (if p1 < 8 then (if inb p1 8 = true then some (A1 p1.toNatClampNeg) else none) else some (-1)))
theorem dX11_count_0 : decode cX11_count 0 = .ok (.iload_n 1, 1) := by decide +kernel
theorem dX11_count_1 : decode cX11_count 1 = .ok (.ifCond .lt 12, 3) := by decide +kernel
theorem dX11_count_4 : decode cX11_count 4 = .ok (.iload_n 1, 1) := by decide +kernel
theorem dX11_count_5 : decode cX11_count 5 = .ok (.aload_n 0, 1) := by decide +kernel
theorem dX11_count_6 : decode cX11_count 6 = .ok (.getfield 7, 3) := by decide +kernel
theorem dX11_count_9 : decode cX11_count 9 = .ok (.arraylength, 1) := by decide +kernel
theorem dX11_count_10 : decode cX11_count 10 = .ok (.if_icmp .lt 7, 3) := by decide +kernel
theorem dX11_count_13 : decode cX11_count 13 = .ok (.iconst (-1), 1) := by decide +kernel
theorem dX11_count_14 : decode cX11_count 14 = .ok (.goto 9, 3) := by decide +kernel
theorem dX11_count_17 : decode cX11_count 17 = .ok (.aload_n 0, 1) := by decide +kernel
theorem dX11_count_18 : decode cX11_count 18 = .ok (.getfield 7, 3) := by decide +kernel
theorem dX11_count_21 : decode cX11_count 21 = .ok (.iload_n 1, 1) := by decide +kernel
theorem dX11_count_22 : decode cX11_count 22 = .ok (.iaload, 1) := by decide +kernel
theorem dX11_count_23 : decode cX11_count 23 = .ok (.ireturn, 1) := by decide +kernel
set_option maxHeartbeats 4000000 in
set_option maxRecDepth 100000 in
theorem kX11_count {l : Launch} {D : va_G} {cy : Nat → ClassId} {N : Nat} {q : Nat → Nat} {m0 : Nat → Value} {a0 : Nat → vp_A} {sz : Nat} (hN : 105 ≤ N) (hsh : SH q m0) {A1 : Nat → Int32} (h_A1 : a0 1 = (8, .inl A1)) (p1 : Int32) {X0 : Int32} (hs0 : fX11_count A1 p1 = some X0) : gMi l yX11_count cX11_count 2 (some .int) ({ frames := 0, cells := 0, slots := 0, locals := 0 } : Room) D cy N q m0 a0 sz [.ref (q 0), .int p1] (fun r m' a' => r = X0 ∧ m' = m0 ∧ a' = a0) := by
  refine g_ofi (by decide) (Nat.le_of_ble_eq_true rfl) ?_
  intro p e s M args below meth c hx hb hr hG hown hin hlocks hml hW hS ls hl
  unfold fX11_count at hs0
  refine lv_iload_n hx hb dX11_count_0 rfl (lv_at hl 1 rfl) ?_
  refine lv_if_lt (tgt := 13) hx hb dX11_count_1 (by decide) (fun c1 => ?_) (fun c1 => ?_)
  · rw [if_pos c1] at hs0
    refine lv_iconst (v := (-1)) hx hb dX11_count_13 (by decide) ?_
    refine lv_goto (tgt := 23) hx hb dX11_count_14 (by decide) ?_
    have hs0 := Option.some.inj hs0
    subst hs0
    exact W.zret hx hb hr rfl (fun t ht hw => ⟨⟨_, (m0, a0), rfl, ⟨rfl, rfl, rfl⟩, g_end hW ht hw⟩, hS.F ht⟩) hS.2.2 dX11_count_23 hlocks
  · rw [if_neg c1] at hs0
    refine lv_iload_n hx hb dX11_count_4 rfl (lv_at hl 1 rfl) ?_
    refine lv_aload_n hx hb dX11_count_5 rfl (lv_at hl 0 rfl) ?_
    refine gf11_0 hx hb hG hown hW (o := 0) (ltN hN 0 rfl) gk0 (v := .ref (q 1)) (sh0_0 hsh) gx15 dX11_count_6 ?_
    refine g_alen hx hb hW (o := 1) (t := 1) (ltN hN 1 rfl) gk1 (by decide) h_A1 (v := 8) rfl dX11_count_9 ?_
    refine lv_icmp_lt (tgt := 17) hx hb dX11_count_10 (by decide) (fun c2 => ?_) (fun c2 => ?_)
    · rw [if_pos c2] at hs0
      refine lv_aload_n hx hb dX11_count_17 rfl (lv_at hl 0 rfl) ?_
      refine gf11_0 hx hb hG hown hW (o := 0) (ltN hN 0 rfl) gk0 (v := .ref (q 1)) (sh0_0 hsh) gx15 dX11_count_18 ?_
      refine lv_iload_n hx hb dX11_count_21 rfl (lv_at hl 1 rfl) ?_
      obtain ⟨hi3, hs0⟩ := oif hs0
      refine g_iald hx hb hW (o := 1) (ltN hN 1 rfl) gk1 h_A1 (vin hi3) dX11_count_22 ?_
      have hs0 := Option.some.inj hs0
      subst hs0
      exact W.zret hx hb hr rfl (fun t ht hw => ⟨⟨_, (m0, a0), rfl, ⟨rfl, rfl, rfl⟩, g_end hW ht hw⟩, hS.F ht⟩) hS.2.2 dX11_count_23 hlocks
    · rw [if_neg c2] at hs0
      refine lv_iconst (v := (-1)) hx hb dX11_count_13 (by decide) ?_
      refine lv_goto (tgt := 23) hx hb dX11_count_14 (by decide) ?_
      have hs0 := Option.some.inj hs0
      subst hs0
      exact W.zret hx hb hr rfl (fun t ht hw => ⟨⟨_, (m0, a0), rfl, ⟨rfl, rfl, rfl⟩, g_end hW ht hw⟩, hS.F ht⟩) hS.2.2 dX11_count_23 hlocks
-- HealLink.takeFromQueue ()V
def fX11_takeFromQueue (x0_9 : Int32) (x0_10 : Int32) : Int32 × Int32 := (if x0_10 ≤ 0 then (x0_9, x0_10) else ((x0_9.toUInt32 >>> ((1 : Int32).toUInt32 &&& Int32.toUInt32 31)).toInt32, x0_10 - 1))
theorem dX11_takeFromQueue_0 : decode cX11_takeFromQueue 0 = .ok (.aload_n 0, 1) := by decide +kernel
theorem dX11_takeFromQueue_1 : decode cX11_takeFromQueue 1 = .ok (.getfield 84, 3) := by decide +kernel
theorem dX11_takeFromQueue_4 : decode cX11_takeFromQueue 4 = .ok (.ifCond .le 23, 3) := by decide +kernel
theorem dX11_takeFromQueue_7 : decode cX11_takeFromQueue 7 = .ok (.aload_n 0, 1) := by decide +kernel
theorem dX11_takeFromQueue_8 : decode cX11_takeFromQueue 8 = .ok (.dup, 1) := by decide +kernel
theorem dX11_takeFromQueue_9 : decode cX11_takeFromQueue 9 = .ok (.getfield 80, 3) := by decide +kernel
theorem dX11_takeFromQueue_12 : decode cX11_takeFromQueue 12 = .ok (.iconst 1, 1) := by decide +kernel
theorem dX11_takeFromQueue_13 : decode cX11_takeFromQueue 13 = .ok (.iushr, 1) := by decide +kernel
theorem dX11_takeFromQueue_14 : decode cX11_takeFromQueue 14 = .ok (.putfield 80, 3) := by decide +kernel
theorem dX11_takeFromQueue_17 : decode cX11_takeFromQueue 17 = .ok (.aload_n 0, 1) := by decide +kernel
theorem dX11_takeFromQueue_18 : decode cX11_takeFromQueue 18 = .ok (.dup, 1) := by decide +kernel
theorem dX11_takeFromQueue_19 : decode cX11_takeFromQueue 19 = .ok (.getfield 84, 3) := by decide +kernel
theorem dX11_takeFromQueue_22 : decode cX11_takeFromQueue 22 = .ok (.iconst 1, 1) := by decide +kernel
theorem dX11_takeFromQueue_23 : decode cX11_takeFromQueue 23 = .ok (.isub, 1) := by decide +kernel
theorem dX11_takeFromQueue_24 : decode cX11_takeFromQueue 24 = .ok (.putfield 84, 3) := by decide +kernel
theorem dX11_takeFromQueue_27 : decode cX11_takeFromQueue 27 = .ok (.return_, 1) := by decide +kernel
set_option maxHeartbeats 4000000 in
set_option maxRecDepth 100000 in
theorem kX11_takeFromQueue {l : Launch} {D : va_G} {cy : Nat → ClassId} {N : Nat} {q : Nat → Nat} {m0 : Nat → Value} {a0 : Nat → vp_A} {sz : Nat} (hN : 105 ≤ N) (hsh : SH q m0) {x0_9 : Int32} (h_x0_9 : m0 9 = .int x0_9) {x0_10 : Int32} (h_x0_10 : m0 10 = .int x0_10) : gMv l yX11_takeFromQueue cX11_takeFromQueue 1 none ({ frames := 0, cells := 0, slots := 0, locals := 0 } : Room) D cy N q m0 a0 sz [.ref (q 0)] (fun m' a' => m' 9 = .int ((fX11_takeFromQueue x0_9 x0_10).1) ∧ m' 10 = .int ((fX11_takeFromQueue x0_9 x0_10).2) ∧ (∀ j, nel j [9, 10] = false → m' j = m0 j) ∧ a' = a0) := by
  generalize hs0 : fX11_takeFromQueue x0_9 x0_10 = X0
  refine g_ofv (by decide) (Nat.le_of_ble_eq_true rfl) ?_
  intro p e s M args below meth c hx hb hr hG hown hin hlocks hml hW hS ls hl
  unfold fX11_takeFromQueue at hs0
  have hoff : ∀ j, nel j [9, 10] = false → m0 j = m0 j := off0
  refine lv_aload_n hx hb dX11_takeFromQueue_0 rfl (lv_at hl 0 rfl) ?_
  refine gf11_10 hx hb hG hown hW (o := 0) (ltN hN 0 rfl) gk0 (v := .int x0_10) h_x0_10 gx212 dX11_takeFromQueue_1 ?_
  refine lv_if_le (tgt := 27) hx hb dX11_takeFromQueue_4 (by decide) (fun c1 => ?_) (fun c1 => ?_)
  · rw [if_pos c1] at hs0
    subst hs0
    exact W.vret hx hb hr (fun t ht hw => ⟨⟨(m0, a0), rfl, ⟨h_x0_9, h_x0_10, hoff, rfl⟩, g_end hW ht hw⟩, hS.F ht⟩) hS.2.2 dX11_takeFromQueue_27 hlocks
  · rw [if_neg c1] at hs0
    refine lv_aload_n hx hb dX11_takeFromQueue_7 rfl (lv_at hl 0 rfl) ?_
    refine lv_dup hx hb dX11_takeFromQueue_8 rfl ?_
    refine gf11_9 hx hb hG hown hW (o := 0) (ltN hN 0 rfl) gk0 (v := .int x0_9) h_x0_9 gx211 dX11_takeFromQueue_9 ?_
    refine lv_iconst (v := 1) hx hb dX11_takeFromQueue_12 (by decide) ?_
    refine lv_iushr hx hb dX11_takeFromQueue_13 rfl ?_
    refine gp11_9 hx hb hG hown hW hS (o := 0) (ltN hN 0 rfl) gk0 (v := ((x0_9.toUInt32 >>> ((1 : Int32).toUInt32 &&& Int32.toUInt32 31)).toInt32)) gx211 dX11_takeFromQueue_14 (fun m2 H locs hm2 ho2 hW hS => ?_)
    have ho2 := off1 ho2
    have w_x0_9 : m2 9 = .int ((x0_9.toUInt32 >>> ((1 : Int32).toUInt32 &&& Int32.toUInt32 31)).toInt32) := hm2
    have w_x0_10 : m2 10 = .int x0_10 := (ho2 10 rfl).trans h_x0_10
    have hoff := offm hoff ho2 (by decide +kernel)
    have hsh := SH.off hsh ho2 (by decide +kernel)
    refine lv_aload_n hx hb dX11_takeFromQueue_17 rfl (lv_at hl 0 rfl) ?_
    refine lv_dup hx hb dX11_takeFromQueue_18 rfl ?_
    refine gf11_10 hx hb hG hown hW (o := 0) (ltN hN 0 rfl) gk0 (v := .int x0_10) w_x0_10 gx212 dX11_takeFromQueue_19 ?_
    refine lv_iconst (v := 1) hx hb dX11_takeFromQueue_22 (by decide) ?_
    refine lv_isub hx hb dX11_takeFromQueue_23 ?_
    refine gp11_10 hx hb hG hown hW hS (o := 0) (ltN hN 0 rfl) gk0 (v := (x0_10 - 1)) gx212 dX11_takeFromQueue_24 (fun m3 H locs hm3 ho3 hW hS => ?_)
    have ho3 := off1 ho3
    have w_x0_9 : m3 9 = .int ((x0_9.toUInt32 >>> ((1 : Int32).toUInt32 &&& Int32.toUInt32 31)).toInt32) := (ho3 9 rfl).trans w_x0_9
    have w_x0_10 : m3 10 = .int (x0_10 - 1) := hm3
    have hoff := offm hoff ho3 (by decide +kernel)
    have hsh := SH.off hsh ho3 (by decide +kernel)
    subst hs0
    exact W.vret hx hb hr (fun t ht hw => ⟨⟨(m3, a0), rfl, ⟨w_x0_9, w_x0_10, hoff, rfl⟩, g_end hW ht hw⟩, hS.F ht⟩) hS.2.2 dX11_takeFromQueue_27 hlocks
-- HealLink.badOnes ()I
def fX11_badOnes (A1 : Nat → Int32) : Option (Int32) := some (((A1 (2 : Int32).toNatClampNeg) + (A1 (3 : Int32).toNatClampNeg)) + (A1 (4 : Int32).toNatClampNeg))
theorem dX11_badOnes_0 : decode cX11_badOnes 0 = .ok (.aload_n 0, 1) := by decide +kernel
theorem dX11_badOnes_1 : decode cX11_badOnes 1 = .ok (.getfield 7, 3) := by decide +kernel
theorem dX11_badOnes_4 : decode cX11_badOnes 4 = .ok (.iconst 2, 1) := by decide +kernel
theorem dX11_badOnes_5 : decode cX11_badOnes 5 = .ok (.iaload, 1) := by decide +kernel
theorem dX11_badOnes_6 : decode cX11_badOnes 6 = .ok (.aload_n 0, 1) := by decide +kernel
theorem dX11_badOnes_7 : decode cX11_badOnes 7 = .ok (.getfield 7, 3) := by decide +kernel
theorem dX11_badOnes_10 : decode cX11_badOnes 10 = .ok (.iconst 3, 1) := by decide +kernel
theorem dX11_badOnes_11 : decode cX11_badOnes 11 = .ok (.iaload, 1) := by decide +kernel
theorem dX11_badOnes_12 : decode cX11_badOnes 12 = .ok (.iadd, 1) := by decide +kernel
theorem dX11_badOnes_13 : decode cX11_badOnes 13 = .ok (.aload_n 0, 1) := by decide +kernel
theorem dX11_badOnes_14 : decode cX11_badOnes 14 = .ok (.getfield 7, 3) := by decide +kernel
theorem dX11_badOnes_17 : decode cX11_badOnes 17 = .ok (.iconst 4, 1) := by decide +kernel
theorem dX11_badOnes_18 : decode cX11_badOnes 18 = .ok (.iaload, 1) := by decide +kernel
theorem dX11_badOnes_19 : decode cX11_badOnes 19 = .ok (.iadd, 1) := by decide +kernel
theorem dX11_badOnes_20 : decode cX11_badOnes 20 = .ok (.ireturn, 1) := by decide +kernel
set_option maxHeartbeats 4000000 in
set_option maxRecDepth 100000 in
theorem kX11_badOnes {l : Launch} {D : va_G} {cy : Nat → ClassId} {N : Nat} {q : Nat → Nat} {m0 : Nat → Value} {a0 : Nat → vp_A} {sz : Nat} (hN : 105 ≤ N) (hsh : SH q m0) {A1 : Nat → Int32} (h_A1 : a0 1 = (8, .inl A1)) {X0 : Int32} (hs0 : fX11_badOnes A1 = some X0) : gMi l yX11_badOnes cX11_badOnes 1 (some .int) ({ frames := 0, cells := 0, slots := 0, locals := 0 } : Room) D cy N q m0 a0 sz [.ref (q 0)] (fun r m' a' => r = X0 ∧ m' = m0 ∧ a' = a0) := by
  refine g_ofi (by decide) (Nat.le_of_ble_eq_true rfl) ?_
  intro p e s M args below meth c hx hb hr hG hown hin hlocks hml hW hS ls hl
  unfold fX11_badOnes at hs0
  refine lv_aload_n hx hb dX11_badOnes_0 rfl (lv_at hl 0 rfl) ?_
  refine gf11_0 hx hb hG hown hW (o := 0) (ltN hN 0 rfl) gk0 (v := .ref (q 1)) (sh0_0 hsh) gx15 dX11_badOnes_1 ?_
  refine lv_iconst (v := 2) hx hb dX11_badOnes_4 (by decide) ?_
  refine g_iald hx hb hW (o := 1) (ltN hN 1 rfl) gk1 h_A1 (vin (by decide)) dX11_badOnes_5 ?_
  refine lv_aload_n hx hb dX11_badOnes_6 rfl (lv_at hl 0 rfl) ?_
  refine gf11_0 hx hb hG hown hW (o := 0) (ltN hN 0 rfl) gk0 (v := .ref (q 1)) (sh0_0 hsh) gx15 dX11_badOnes_7 ?_
  refine lv_iconst (v := 3) hx hb dX11_badOnes_10 (by decide) ?_
  refine g_iald hx hb hW (o := 1) (ltN hN 1 rfl) gk1 h_A1 (vin (by decide)) dX11_badOnes_11 ?_
  refine lv_iadd hx hb dX11_badOnes_12 ?_
  refine lv_aload_n hx hb dX11_badOnes_13 rfl (lv_at hl 0 rfl) ?_
  refine gf11_0 hx hb hG hown hW (o := 0) (ltN hN 0 rfl) gk0 (v := .ref (q 1)) (sh0_0 hsh) gx15 dX11_badOnes_14 ?_
  refine lv_iconst (v := 4) hx hb dX11_badOnes_17 (by decide) ?_
  refine g_iald hx hb hW (o := 1) (ltN hN 1 rfl) gk1 h_A1 (vin (by decide)) dX11_badOnes_18 ?_
  refine lv_iadd hx hb dX11_badOnes_19 ?_
  have hs0 := Option.some.inj hs0
  subst hs0
  exact W.zret hx hb hr rfl (fun t ht hw => ⟨⟨_, (m0, a0), rfl, ⟨rfl, rfl, rfl⟩, g_end hW ht hw⟩, hS.F ht⟩) hS.2.2 dX11_badOnes_20 hlocks
-- HealLink.put (II)I
def fX11_put (x0_8 : Int64) (p1 : Int32) (p2 : Int32) : Int32 × Int64 := ((fX7_digit x0_8 p1), (fX7_withDigit x0_8 p1 p2))
theorem dX11_put_0 : decode cX11_put 0 = .ok (.aload_n 0, 1) := by decide +kernel
theorem dX11_put_1 : decode cX11_put 1 = .ok (.getfield 64, 3) := by decide +kernel
theorem dX11_put_4 : decode cX11_put 4 = .ok (.iload_n 1, 1) := by decide +kernel
theorem dX11_put_5 : decode cX11_put 5 = .ok (.invokestatic 141, 3) := by decide +kernel
theorem dX11_put_8 : decode cX11_put 8 = .ok (.istore_n 3, 1) := by decide +kernel
theorem dX11_put_9 : decode cX11_put 9 = .ok (.aload_n 0, 1) := by decide +kernel
theorem dX11_put_10 : decode cX11_put 10 = .ok (.aload_n 0, 1) := by decide +kernel
theorem dX11_put_11 : decode cX11_put 11 = .ok (.getfield 64, 3) := by decide +kernel
theorem dX11_put_14 : decode cX11_put 14 = .ok (.iload_n 1, 1) := by decide +kernel
theorem dX11_put_15 : decode cX11_put 15 = .ok (.iload_n 2, 1) := by decide +kernel
theorem dX11_put_16 : decode cX11_put 16 = .ok (.invokestatic 299, 3) := by decide +kernel
theorem dX11_put_19 : decode cX11_put 19 = .ok (.putfield 64, 3) := by decide +kernel
theorem dX11_put_22 : decode cX11_put 22 = .ok (.iload_n 3, 1) := by decide +kernel
theorem dX11_put_23 : decode cX11_put 23 = .ok (.ireturn, 1) := by decide +kernel
set_option maxHeartbeats 4000000 in
set_option maxRecDepth 100000 in
theorem kX11_put {l : Launch} {D : va_G} {cy : Nat → ClassId} {N : Nat} {q : Nat → Nat} {m0 : Nat → Value} {a0 : Nat → vp_A} {sz : Nat} (hN : 105 ≤ N) (hsh : SH q m0) {x0_8 : Int64} (h_x0_8 : m0 8 = .long x0_8) (p1 : Int32) (p2 : Int32) : gMi l yX11_put cX11_put 4 (some .int) ({ frames := 1, cells := 0, slots := 0, locals := 23 } : Room) D cy N q m0 a0 sz [.ref (q 0), .int p1, .int p2] (fun r m' a' => r = (fX11_put x0_8 p1 p2).1 ∧ m' 8 = .long ((fX11_put x0_8 p1 p2).2) ∧ (∀ j, nel j [8] = false → m' j = m0 j) ∧ a' = a0) := by
  generalize hs0 : fX11_put x0_8 p1 p2 = X0
  refine g_ofi (by decide) (Nat.le_of_ble_eq_true rfl) ?_
  intro p e s M args below meth c hx hb hr hG hown hin hlocks hml hW hS ls hl
  unfold fX11_put at hs0
  have hoff : ∀ j, nel j [8] = false → m0 j = m0 j := off0
  refine lv_aload_n hx hb dX11_put_0 rfl (lv_at hl 0 rfl) ?_
  refine gf11_8 hx hb hG hown hW (o := 0) (ltN hN 0 rfl) gk0 (v := .long x0_8) h_x0_8 gx41 dX11_put_1 ?_
  refine lv_iload_n hx hb dX11_put_4 rfl (lv_at hl 1 rfl) ?_
  refine g_SiR (n := 2) hx hb hml hown hG hW hS [.long x0_8, .int p1] (kX7_digit hN x0_8 p1) rfl (gd_S gx319 gx320 gx39 gx321) rfl rfl (by decide) ⟨Nat.le_of_ble_eq_true rfl, Nat.le_of_ble_eq_true rfl⟩ rfl hl (Nat.le_of_ble_eq_true rfl) ⟨Nat.zero_le _, Nat.zero_le _⟩ dX11_put_5 (fun H locs hW hS => ?_)
  refine lv_istore_n (lv' := [(3, .int (fX7_digit x0_8 p1)), (0, .ref (q 0)), (1, .int p1), (2, .int p2)]) hx hb dX11_put_8 rfl hl (by decide) rfl (fun ls hl => ?_)
  refine lv_aload_n hx hb dX11_put_9 rfl (lv_at hl 1 rfl) ?_
  refine lv_aload_n hx hb dX11_put_10 rfl (lv_at hl 1 rfl) ?_
  refine gf11_8 hx hb hG hown hW (o := 0) (ltN hN 0 rfl) gk0 (v := .long x0_8) h_x0_8 gx41 dX11_put_11 ?_
  refine lv_iload_n hx hb dX11_put_14 rfl (lv_at hl 2 rfl) ?_
  refine lv_iload_n hx hb dX11_put_15 rfl (lv_at hl 3 rfl) ?_
  refine g_SlR (n := 3) hx hb hml hown hG hW hS [.long x0_8, .int p1, .int p2] (kX7_withDigit hN x0_8 p1 p2) rfl (gd_S gx322 gx323 gx39 gx324) rfl rfl (by decide) ⟨Nat.le_of_ble_eq_true rfl, Nat.le_of_ble_eq_true rfl⟩ rfl hl (Nat.le_of_ble_eq_true rfl) ⟨Nat.zero_le _, Nat.zero_le _⟩ dX11_put_16 (fun H locs hW hS => ?_)
  refine gp11_8 hx hb hG hown hW hS (o := 0) (ltN hN 0 rfl) gk0 (v := (fX7_withDigit x0_8 p1 p2)) gx41 dX11_put_19 (fun m3 H locs hm3 ho3 hW hS => ?_)
  have ho3 := off1 ho3
  have w_x0_8 : m3 8 = .long (fX7_withDigit x0_8 p1 p2) := hm3
  have hoff := offm hoff ho3 (by decide +kernel)
  have hsh := SH.off hsh ho3 (by decide +kernel)
  refine lv_iload_n hx hb dX11_put_22 rfl (lv_at hl 0 rfl) ?_
  subst hs0
  exact W.zret hx hb hr rfl (fun t ht hw => ⟨⟨_, (m3, a0), rfl, ⟨rfl, w_x0_8, hoff, rfl⟩, g_end hW ht hw⟩, hS.F ht⟩) hS.2.2 dX11_put_23 hlocks
-- HealLink.end (I)I
def fX11_end (x24_0 : Int32) (p1 : Int32) : Int32 × Int32 := (if p1 < 0 then ((-1), x24_0) else (if p1 ≤ x24_0 then (p1, p1) else ((-1), x24_0)))
theorem dX11_end_0 : decode cX11_end 0 = .ok (.iload_n 1, 1) := by decide +kernel
theorem dX11_end_1 : decode cX11_end 1 = .ok (.ifCond .lt 14, 3) := by decide +kernel
theorem dX11_end_4 : decode cX11_end 4 = .ok (.iload_n 1, 1) := by decide +kernel
theorem dX11_end_5 : decode cX11_end 5 = .ok (.aload_n 0, 1) := by decide +kernel
theorem dX11_end_6 : decode cX11_end 6 = .ok (.getfield 40, 3) := by decide +kernel
theorem dX11_end_9 : decode cX11_end 9 = .ok (.getfield 205, 3) := by decide +kernel
theorem dX11_end_12 : decode cX11_end 12 = .ok (.if_icmp .le 5, 3) := by decide +kernel
theorem dX11_end_15 : decode cX11_end 15 = .ok (.iconst (-1), 1) := by decide +kernel
theorem dX11_end_16 : decode cX11_end 16 = .ok (.ireturn, 1) := by decide +kernel
theorem dX11_end_17 : decode cX11_end 17 = .ok (.aload_n 0, 1) := by decide +kernel
theorem dX11_end_18 : decode cX11_end 18 = .ok (.getfield 40, 3) := by decide +kernel
theorem dX11_end_21 : decode cX11_end 21 = .ok (.iload_n 1, 1) := by decide +kernel
theorem dX11_end_22 : decode cX11_end 22 = .ok (.putfield 205, 3) := by decide +kernel
theorem dX11_end_25 : decode cX11_end 25 = .ok (.iload_n 1, 1) := by decide +kernel
theorem dX11_end_26 : decode cX11_end 26 = .ok (.ireturn, 1) := by decide +kernel
set_option maxHeartbeats 4000000 in
set_option maxRecDepth 100000 in
theorem kX11_end {l : Launch} {D : va_G} {cy : Nat → ClassId} {N : Nat} {q : Nat → Nat} {m0 : Nat → Value} {a0 : Nat → vp_A} {sz : Nat} (hN : 105 ≤ N) (hsh : SH q m0) {x24_0 : Int32} (h_x24_0 : m0 2400 = .int x24_0) (p1 : Int32) : gMi l yX11_end cX11_end 2 (some .int) ({ frames := 0, cells := 0, slots := 0, locals := 0 } : Room) D cy N q m0 a0 sz [.ref (q 0), .int p1] (fun r m' a' => r = (fX11_end x24_0 p1).1 ∧ m' 2400 = .int ((fX11_end x24_0 p1).2) ∧ (∀ j, nel j [2400] = false → m' j = m0 j) ∧ a' = a0) := by
  generalize hs0 : fX11_end x24_0 p1 = X0
  refine g_ofi (by decide) (Nat.le_of_ble_eq_true rfl) ?_
  intro p e s M args below meth c hx hb hr hG hown hin hlocks hml hW hS ls hl
  unfold fX11_end at hs0
  have hoff : ∀ j, nel j [2400] = false → m0 j = m0 j := off0
  refine lv_iload_n hx hb dX11_end_0 rfl (lv_at hl 1 rfl) ?_
  refine lv_if_lt (tgt := 15) hx hb dX11_end_1 (by decide) (fun c1 => ?_) (fun c1 => ?_)
  · rw [if_pos c1] at hs0
    refine lv_iconst (v := (-1)) hx hb dX11_end_15 (by decide) ?_
    subst hs0
    exact W.zret hx hb hr rfl (fun t ht hw => ⟨⟨_, (m0, a0), rfl, ⟨rfl, h_x24_0, hoff, rfl⟩, g_end hW ht hw⟩, hS.F ht⟩) hS.2.2 dX11_end_16 hlocks
  · rw [if_neg c1] at hs0
    refine lv_iload_n hx hb dX11_end_4 rfl (lv_at hl 1 rfl) ?_
    refine lv_aload_n hx hb dX11_end_5 rfl (lv_at hl 0 rfl) ?_
    refine gf11_5 hx hb hG hown hW (o := 0) (ltN hN 0 rfl) gk0 (v := .ref (q 24)) (sh0_5 hsh) gx32 dX11_end_6 ?_
    refine gf10_0 hx hb hG hown hW (o := 24) (ltN hN 24 rfl) gk24 (v := .int x24_0) h_x24_0 gx592 dX11_end_9 ?_
    refine lv_icmp_le (tgt := 17) hx hb dX11_end_12 (by decide) (fun c2 => ?_) (fun c2 => ?_)
    · rw [if_pos c2] at hs0
      refine lv_aload_n hx hb dX11_end_17 rfl (lv_at hl 0 rfl) ?_
      refine gf11_5 hx hb hG hown hW (o := 0) (ltN hN 0 rfl) gk0 (v := .ref (q 24)) (sh0_5 hsh) gx32 dX11_end_18 ?_
      refine lv_iload_n hx hb dX11_end_21 rfl (lv_at hl 1 rfl) ?_
      refine gp10_0 hx hb hG hown hW hS (o := 24) (ltN hN 24 rfl) gk24 (v := p1) gx592 dX11_end_22 (fun m3 H locs hm3 ho3 hW hS => ?_)
      have ho3 := off1 ho3
      have w_x24_0 : m3 2400 = .int p1 := hm3
      have hoff := offm hoff ho3 (by decide +kernel)
      have hsh := SH.off hsh ho3 (by decide +kernel)
      refine lv_iload_n hx hb dX11_end_25 rfl (lv_at hl 1 rfl) ?_
      subst hs0
      exact W.zret hx hb hr rfl (fun t ht hw => ⟨⟨_, (m3, a0), rfl, ⟨rfl, w_x24_0, hoff, rfl⟩, g_end hW ht hw⟩, hS.F ht⟩) hS.2.2 dX11_end_26 hlocks
    · rw [if_neg c2] at hs0
      refine lv_iconst (v := (-1)) hx hb dX11_end_15 (by decide) ?_
      subst hs0
      exact W.zret hx hb hr rfl (fun t ht hw => ⟨⟨_, (m0, a0), rfl, ⟨rfl, h_x24_0, hoff, rfl⟩, g_end hW ht hw⟩, hS.F ht⟩) hS.2.2 dX11_end_16 hlocks
-- HealLink.image ()Z
def fX11_image (x0_8 : Int64) (x0_9 : Int32) (x0_10 : Int32) (x0_11 : Int32) (x0_12 : Int64) (x0_13 : Int32) (x0_14 : Int32) : Option (Int32 × Int32 × Int64 × Int32 × Int32) := some (1, 1, x0_8, x0_9, x0_10)
theorem dX11_image_0 : decode cX11_image 0 = .ok (.aload_n 0, 1) := by decide +kernel
theorem dX11_image_1 : decode cX11_image 1 = .ok (.iconst 1, 1) := by decide +kernel
theorem dX11_image_2 : decode cX11_image 2 = .ok (.putfield 87, 3) := by decide +kernel
theorem dX11_image_5 : decode cX11_image 5 = .ok (.aload_n 0, 1) := by decide +kernel
theorem dX11_image_6 : decode cX11_image 6 = .ok (.aload_n 0, 1) := by decide +kernel
theorem dX11_image_7 : decode cX11_image 7 = .ok (.getfield 64, 3) := by decide +kernel
theorem dX11_image_10 : decode cX11_image 10 = .ok (.putfield 290, 3) := by decide +kernel
theorem dX11_image_13 : decode cX11_image 13 = .ok (.aload_n 0, 1) := by decide +kernel
theorem dX11_image_14 : decode cX11_image 14 = .ok (.aload_n 0, 1) := by decide +kernel
theorem dX11_image_15 : decode cX11_image 15 = .ok (.getfield 80, 3) := by decide +kernel
theorem dX11_image_18 : decode cX11_image 18 = .ok (.putfield 293, 3) := by decide +kernel
theorem dX11_image_21 : decode cX11_image 21 = .ok (.aload_n 0, 1) := by decide +kernel
theorem dX11_image_22 : decode cX11_image 22 = .ok (.aload_n 0, 1) := by decide +kernel
theorem dX11_image_23 : decode cX11_image 23 = .ok (.getfield 84, 3) := by decide +kernel
theorem dX11_image_26 : decode cX11_image 26 = .ok (.putfield 296, 3) := by decide +kernel
theorem dX11_image_29 : decode cX11_image 29 = .ok (.iconst 1, 1) := by decide +kernel
theorem dX11_image_30 : decode cX11_image 30 = .ok (.ireturn, 1) := by decide +kernel
set_option maxHeartbeats 4000000 in
set_option maxRecDepth 100000 in
theorem kX11_image {l : Launch} {D : va_G} {cy : Nat → ClassId} {N : Nat} {q : Nat → Nat} {m0 : Nat → Value} {a0 : Nat → vp_A} {sz : Nat} (hN : 105 ≤ N) (hsh : SH q m0) {x0_8 : Int64} (h_x0_8 : m0 8 = .long x0_8) {x0_9 : Int32} (h_x0_9 : m0 9 = .int x0_9) {x0_10 : Int32} (h_x0_10 : m0 10 = .int x0_10) {x0_11 : Int32} (h_x0_11 : m0 11 = .int x0_11) {x0_12 : Int64} (h_x0_12 : m0 12 = .long x0_12) {x0_13 : Int32} (h_x0_13 : m0 13 = .int x0_13) {x0_14 : Int32} (h_x0_14 : m0 14 = .int x0_14) {X0 : Int32 × Int32 × Int64 × Int32 × Int32} (hs0 : fX11_image x0_8 x0_9 x0_10 x0_11 x0_12 x0_13 x0_14 = some X0) : gMi l yX11_image cX11_image 1 (some .boolean) ({ frames := 0, cells := 0, slots := 0, locals := 0 } : Room) D cy N q m0 a0 sz [.ref (q 0)] (fun r m' a' => r = X0.1 ∧ m' 11 = .int X0.2.1 ∧ m' 12 = .long X0.2.2.1 ∧ m' 13 = .int X0.2.2.2.1 ∧ m' 14 = .int X0.2.2.2.2 ∧ (∀ j, nel j [11, 12, 13, 14] = false → m' j = m0 j) ∧ a' = a0) := by
  refine g_ofi (by decide) (Nat.le_of_ble_eq_true rfl) ?_
  intro p e s M args below meth c hx hb hr hG hown hin hlocks hml hW hS ls hl
  unfold fX11_image at hs0
  have hoff : ∀ j, nel j [11, 12, 13, 14] = false → m0 j = m0 j := off0
  refine lv_aload_n hx hb dX11_image_0 rfl (lv_at hl 0 rfl) ?_
  refine lv_iconst (v := 1) hx hb dX11_image_1 (by decide) ?_
  refine gp11_11 hx hb hG hown hW hS (o := 0) (ltN hN 0 rfl) gk0 (v := 1) (by decide) gx213 dX11_image_2 (fun m1 H locs hm1 ho1 hW hS => ?_)
  have ho1 := off1 ho1
  have w_x0_11 : m1 11 = .int 1 := hm1
  have w_x0_12 : m1 12 = .long x0_12 := (ho1 12 rfl).trans h_x0_12
  have w_x0_13 : m1 13 = .int x0_13 := (ho1 13 rfl).trans h_x0_13
  have w_x0_14 : m1 14 = .int x0_14 := (ho1 14 rfl).trans h_x0_14
  have hoff := offm hoff ho1 (by decide +kernel)
  have hsh := SH.off hsh ho1 (by decide +kernel)
  refine lv_aload_n hx hb dX11_image_5 rfl (lv_at hl 0 rfl) ?_
  refine lv_aload_n hx hb dX11_image_6 rfl (lv_at hl 0 rfl) ?_
  refine gf11_8 hx hb hG hown hW (o := 0) (ltN hN 0 rfl) gk0 (v := .long x0_8) ((hoff 8 rfl).trans h_x0_8) gx41 dX11_image_7 ?_
  refine gp11_12 hx hb hG hown hW hS (o := 0) (ltN hN 0 rfl) gk0 (v := x0_8) gx1378 dX11_image_10 (fun m2 H locs hm2 ho2 hW hS => ?_)
  have ho2 := off1 ho2
  have w_x0_11 : m2 11 = .int 1 := (ho2 11 rfl).trans w_x0_11
  have w_x0_12 : m2 12 = .long x0_8 := hm2
  have w_x0_13 : m2 13 = .int x0_13 := (ho2 13 rfl).trans w_x0_13
  have w_x0_14 : m2 14 = .int x0_14 := (ho2 14 rfl).trans w_x0_14
  have hoff := offm hoff ho2 (by decide +kernel)
  have hsh := SH.off hsh ho2 (by decide +kernel)
  refine lv_aload_n hx hb dX11_image_13 rfl (lv_at hl 0 rfl) ?_
  refine lv_aload_n hx hb dX11_image_14 rfl (lv_at hl 0 rfl) ?_
  refine gf11_9 hx hb hG hown hW (o := 0) (ltN hN 0 rfl) gk0 (v := .int x0_9) ((hoff 9 rfl).trans h_x0_9) gx211 dX11_image_15 ?_
  refine gp11_13 hx hb hG hown hW hS (o := 0) (ltN hN 0 rfl) gk0 (v := x0_9) gx1379 dX11_image_18 (fun m3 H locs hm3 ho3 hW hS => ?_)
  have ho3 := off1 ho3
  have w_x0_11 : m3 11 = .int 1 := (ho3 11 rfl).trans w_x0_11
  have w_x0_12 : m3 12 = .long x0_8 := (ho3 12 rfl).trans w_x0_12
  have w_x0_13 : m3 13 = .int x0_9 := hm3
  have w_x0_14 : m3 14 = .int x0_14 := (ho3 14 rfl).trans w_x0_14
  have hoff := offm hoff ho3 (by decide +kernel)
  have hsh := SH.off hsh ho3 (by decide +kernel)
  refine lv_aload_n hx hb dX11_image_21 rfl (lv_at hl 0 rfl) ?_
  refine lv_aload_n hx hb dX11_image_22 rfl (lv_at hl 0 rfl) ?_
  refine gf11_10 hx hb hG hown hW (o := 0) (ltN hN 0 rfl) gk0 (v := .int x0_10) ((hoff 10 rfl).trans h_x0_10) gx212 dX11_image_23 ?_
  refine gp11_14 hx hb hG hown hW hS (o := 0) (ltN hN 0 rfl) gk0 (v := x0_10) gx1380 dX11_image_26 (fun m4 H locs hm4 ho4 hW hS => ?_)
  have ho4 := off1 ho4
  have w_x0_11 : m4 11 = .int 1 := (ho4 11 rfl).trans w_x0_11
  have w_x0_12 : m4 12 = .long x0_8 := (ho4 12 rfl).trans w_x0_12
  have w_x0_13 : m4 13 = .int x0_9 := (ho4 13 rfl).trans w_x0_13
  have w_x0_14 : m4 14 = .int x0_10 := hm4
  have hoff := offm hoff ho4 (by decide +kernel)
  have hsh := SH.off hsh ho4 (by decide +kernel)
  refine lv_iconst (v := 1) hx hb dX11_image_29 (by decide) ?_
  have hs0 := Option.some.inj hs0
  subst hs0
  exact W.zret hx hb hr rfl (fun t ht hw => ⟨⟨_, (m4, a0), rfl, ⟨rfl, w_x0_11, w_x0_12, w_x0_13, w_x0_14, hoff, rfl⟩, g_end hW ht hw⟩, hS.F ht⟩) hS.2.2 dX11_image_30 hlocks
-- HealLink.back ()Z
def fX11_back (x0_11 : Int32) (x0_12 : Int64) (x0_13 : Int32) (x0_14 : Int32) (x0_8 : Int64) (x0_9 : Int32) (x0_10 : Int32) : Int32 × Int64 × Int32 × Int32 := (if x0_11 = 0 then (0, x0_8, x0_9, x0_10) else (1, x0_12, x0_13, x0_14))
theorem dX11_back_0 : decode cX11_back 0 = .ok (.aload_n 0, 1) := by decide +kernel
theorem dX11_back_1 : decode cX11_back 1 = .ok (.getfield 87, 3) := by decide +kernel
theorem dX11_back_4 : decode cX11_back 4 = .ok (.ifCond .ne 5, 3) := by decide +kernel
theorem dX11_back_7 : decode cX11_back 7 = .ok (.iconst 0, 1) := by decide +kernel
theorem dX11_back_8 : decode cX11_back 8 = .ok (.ireturn, 1) := by decide +kernel
theorem dX11_back_9 : decode cX11_back 9 = .ok (.aload_n 0, 1) := by decide +kernel
theorem dX11_back_10 : decode cX11_back 10 = .ok (.aload_n 0, 1) := by decide +kernel
theorem dX11_back_11 : decode cX11_back 11 = .ok (.getfield 290, 3) := by decide +kernel
theorem dX11_back_14 : decode cX11_back 14 = .ok (.putfield 64, 3) := by decide +kernel
theorem dX11_back_17 : decode cX11_back 17 = .ok (.aload_n 0, 1) := by decide +kernel
theorem dX11_back_18 : decode cX11_back 18 = .ok (.aload_n 0, 1) := by decide +kernel
theorem dX11_back_19 : decode cX11_back 19 = .ok (.getfield 293, 3) := by decide +kernel
theorem dX11_back_22 : decode cX11_back 22 = .ok (.putfield 80, 3) := by decide +kernel
theorem dX11_back_25 : decode cX11_back 25 = .ok (.aload_n 0, 1) := by decide +kernel
theorem dX11_back_26 : decode cX11_back 26 = .ok (.aload_n 0, 1) := by decide +kernel
theorem dX11_back_27 : decode cX11_back 27 = .ok (.getfield 296, 3) := by decide +kernel
theorem dX11_back_30 : decode cX11_back 30 = .ok (.putfield 84, 3) := by decide +kernel
theorem dX11_back_33 : decode cX11_back 33 = .ok (.iconst 1, 1) := by decide +kernel
theorem dX11_back_34 : decode cX11_back 34 = .ok (.ireturn, 1) := by decide +kernel
set_option maxHeartbeats 4000000 in
set_option maxRecDepth 100000 in
theorem kX11_back {l : Launch} {D : va_G} {cy : Nat → ClassId} {N : Nat} {q : Nat → Nat} {m0 : Nat → Value} {a0 : Nat → vp_A} {sz : Nat} (hN : 105 ≤ N) (hsh : SH q m0) {x0_11 : Int32} (h_x0_11 : m0 11 = .int x0_11) {x0_12 : Int64} (h_x0_12 : m0 12 = .long x0_12) {x0_13 : Int32} (h_x0_13 : m0 13 = .int x0_13) {x0_14 : Int32} (h_x0_14 : m0 14 = .int x0_14) {x0_8 : Int64} (h_x0_8 : m0 8 = .long x0_8) {x0_9 : Int32} (h_x0_9 : m0 9 = .int x0_9) {x0_10 : Int32} (h_x0_10 : m0 10 = .int x0_10) : gMi l yX11_back cX11_back 1 (some .boolean) ({ frames := 0, cells := 0, slots := 0, locals := 0 } : Room) D cy N q m0 a0 sz [.ref (q 0)] (fun r m' a' => r = (fX11_back x0_11 x0_12 x0_13 x0_14 x0_8 x0_9 x0_10).1 ∧ m' 8 = .long ((fX11_back x0_11 x0_12 x0_13 x0_14 x0_8 x0_9 x0_10).2.1) ∧ m' 9 = .int ((fX11_back x0_11 x0_12 x0_13 x0_14 x0_8 x0_9 x0_10).2.2.1) ∧ m' 10 = .int ((fX11_back x0_11 x0_12 x0_13 x0_14 x0_8 x0_9 x0_10).2.2.2) ∧ (∀ j, nel j [8, 9, 10] = false → m' j = m0 j) ∧ a' = a0) := by
  generalize hs0 : fX11_back x0_11 x0_12 x0_13 x0_14 x0_8 x0_9 x0_10 = X0
  refine g_ofi (by decide) (Nat.le_of_ble_eq_true rfl) ?_
  intro p e s M args below meth c hx hb hr hG hown hin hlocks hml hW hS ls hl
  unfold fX11_back at hs0
  have hoff : ∀ j, nel j [8, 9, 10] = false → m0 j = m0 j := off0
  refine lv_aload_n hx hb dX11_back_0 rfl (lv_at hl 0 rfl) ?_
  refine gf11_11 hx hb hG hown hW (o := 0) (ltN hN 0 rfl) gk0 (v := .int x0_11) ((hoff 11 rfl).trans h_x0_11) gx213 dX11_back_1 ?_
  refine lv_if_ne (tgt := 9) hx hb dX11_back_4 (by decide) (fun c1 => ?_) (fun c1 => ?_)
  · rw [if_neg c1] at hs0
    refine lv_aload_n hx hb dX11_back_9 rfl (lv_at hl 0 rfl) ?_
    refine lv_aload_n hx hb dX11_back_10 rfl (lv_at hl 0 rfl) ?_
    refine gf11_12 hx hb hG hown hW (o := 0) (ltN hN 0 rfl) gk0 (v := .long x0_12) ((hoff 12 rfl).trans h_x0_12) gx1378 dX11_back_11 ?_
    refine gp11_8 hx hb hG hown hW hS (o := 0) (ltN hN 0 rfl) gk0 (v := x0_12) gx41 dX11_back_14 (fun m2 H locs hm2 ho2 hW hS => ?_)
    have ho2 := off1 ho2
    have w_x0_8 : m2 8 = .long x0_12 := hm2
    have w_x0_9 : m2 9 = .int x0_9 := (ho2 9 rfl).trans h_x0_9
    have w_x0_10 : m2 10 = .int x0_10 := (ho2 10 rfl).trans h_x0_10
    have hoff := offm hoff ho2 (by decide +kernel)
    have hsh := SH.off hsh ho2 (by decide +kernel)
    refine lv_aload_n hx hb dX11_back_17 rfl (lv_at hl 0 rfl) ?_
    refine lv_aload_n hx hb dX11_back_18 rfl (lv_at hl 0 rfl) ?_
    refine gf11_13 hx hb hG hown hW (o := 0) (ltN hN 0 rfl) gk0 (v := .int x0_13) ((hoff 13 rfl).trans h_x0_13) gx1379 dX11_back_19 ?_
    refine gp11_9 hx hb hG hown hW hS (o := 0) (ltN hN 0 rfl) gk0 (v := x0_13) gx211 dX11_back_22 (fun m3 H locs hm3 ho3 hW hS => ?_)
    have ho3 := off1 ho3
    have w_x0_8 : m3 8 = .long x0_12 := (ho3 8 rfl).trans w_x0_8
    have w_x0_9 : m3 9 = .int x0_13 := hm3
    have w_x0_10 : m3 10 = .int x0_10 := (ho3 10 rfl).trans w_x0_10
    have hoff := offm hoff ho3 (by decide +kernel)
    have hsh := SH.off hsh ho3 (by decide +kernel)
    refine lv_aload_n hx hb dX11_back_25 rfl (lv_at hl 0 rfl) ?_
    refine lv_aload_n hx hb dX11_back_26 rfl (lv_at hl 0 rfl) ?_
    refine gf11_14 hx hb hG hown hW (o := 0) (ltN hN 0 rfl) gk0 (v := .int x0_14) ((hoff 14 rfl).trans h_x0_14) gx1380 dX11_back_27 ?_
    refine gp11_10 hx hb hG hown hW hS (o := 0) (ltN hN 0 rfl) gk0 (v := x0_14) gx212 dX11_back_30 (fun m4 H locs hm4 ho4 hW hS => ?_)
    have ho4 := off1 ho4
    have w_x0_8 : m4 8 = .long x0_12 := (ho4 8 rfl).trans w_x0_8
    have w_x0_9 : m4 9 = .int x0_13 := (ho4 9 rfl).trans w_x0_9
    have w_x0_10 : m4 10 = .int x0_14 := hm4
    have hoff := offm hoff ho4 (by decide +kernel)
    have hsh := SH.off hsh ho4 (by decide +kernel)
    refine lv_iconst (v := 1) hx hb dX11_back_33 (by decide) ?_
    subst hs0
    exact W.zret hx hb hr rfl (fun t ht hw => ⟨⟨_, (m4, a0), rfl, ⟨rfl, w_x0_8, w_x0_9, w_x0_10, hoff, rfl⟩, g_end hW ht hw⟩, hS.F ht⟩) hS.2.2 dX11_back_34 hlocks
  · rw [if_pos c1] at hs0
    refine lv_iconst (v := 0) hx hb dX11_back_7 (by decide) ?_
    subst hs0
    exact W.zret hx hb hr rfl (fun t ht hw => ⟨⟨_, (m0, a0), rfl, ⟨rfl, h_x0_8, h_x0_9, h_x0_10, hoff, rfl⟩, g_end hW ht hw⟩, hS.F ht⟩) hS.2.2 dX11_back_8 hlocks
-- HealLink.row (II)I
def fX11_row_J26 (x2_0 : Int32) (x2_1 : Int64) (x5_0 : Int32) (x5_1 : Int64) (v2j4 : Int32) : Int32 := (if v2j4 = (-1) then x5_0 else (fX6_valueAt x5_0 x5_1 v2j4))
def fX11_row_J26_2 (x2_0 : Int32) (x2_1 : Int64) (x5_0 : Int32) (x5_1 : Int64) (v2j5 : Int32) : Int32 := (if v2j5 = (-1) then x2_0 else (fX6_valueAt x2_0 x2_1 v2j5))
def fX11_row (x2_0 : Int32) (x2_1 : Int64) (x5_0 : Int32) (x5_1 : Int64) (p1 : Int32) (p2 : Int32) : Int32 := (if p1 < 0 then (-1) else (if p1 ≤ 1 then (if p1 = 0 then fX11_row_J26_2 x2_0 x2_1 x5_0 x5_1 p2 else fX11_row_J26 x2_0 x2_1 x5_0 x5_1 p2) else (-1)))
theorem dX11_row_0 : decode cX11_row 0 = .ok (.iload_n 1, 1) := by decide +kernel
theorem dX11_row_1 : decode cX11_row 1 = .ok (.ifCond .lt 8, 3) := by decide +kernel
theorem dX11_row_4 : decode cX11_row 4 = .ok (.iload_n 1, 1) := by decide +kernel
theorem dX11_row_5 : decode cX11_row 5 = .ok (.iconst 1, 1) := by decide +kernel
theorem dX11_row_6 : decode cX11_row 6 = .ok (.if_icmp .le 5, 3) := by decide +kernel
theorem dX11_row_9 : decode cX11_row 9 = .ok (.iconst (-1), 1) := by decide +kernel
theorem dX11_row_10 : decode cX11_row 10 = .ok (.ireturn, 1) := by decide +kernel
theorem dX11_row_11 : decode cX11_row 11 = .ok (.iload_n 1, 1) := by decide +kernel
theorem dX11_row_12 : decode cX11_row 12 = .ok (.ifCond .ne 10, 3) := by decide +kernel
theorem dX11_row_15 : decode cX11_row 15 = .ok (.aload_n 0, 1) := by decide +kernel
theorem dX11_row_16 : decode cX11_row 16 = .ok (.getfield 16, 3) := by decide +kernel
theorem dX11_row_19 : decode cX11_row 19 = .ok (.goto 7, 3) := by decide +kernel
theorem dX11_row_22 : decode cX11_row 22 = .ok (.aload_n 0, 1) := by decide +kernel
theorem dX11_row_23 : decode cX11_row 23 = .ok (.getfield 20, 3) := by decide +kernel
theorem dX11_row_26 : decode cX11_row 26 = .ok (.astore_n 3, 1) := by decide +kernel
theorem dX11_row_27 : decode cX11_row 27 = .ok (.iload_n 2, 1) := by decide +kernel
theorem dX11_row_28 : decode cX11_row 28 = .ok (.iconst (-1), 1) := by decide +kernel
theorem dX11_row_29 : decode cX11_row 29 = .ok (.if_icmp .ne 10, 3) := by decide +kernel
theorem dX11_row_32 : decode cX11_row 32 = .ok (.aload_n 3, 1) := by decide +kernel
theorem dX11_row_33 : decode cX11_row 33 = .ok (.getfield 268, 3) := by decide +kernel
theorem dX11_row_36 : decode cX11_row 36 = .ok (.goto 8, 3) := by decide +kernel
theorem dX11_row_39 : decode cX11_row 39 = .ok (.aload_n 3, 1) := by decide +kernel
theorem dX11_row_40 : decode cX11_row 40 = .ok (.iload_n 2, 1) := by decide +kernel
theorem dX11_row_41 : decode cX11_row 41 = .ok (.invokevirtual 273, 3) := by decide +kernel
theorem dX11_row_44 : decode cX11_row 44 = .ok (.ireturn, 1) := by decide +kernel
set_option maxHeartbeats 4000000 in
set_option maxRecDepth 100000 in
theorem kX11_row {l : Launch} {D : va_G} {cy : Nat → ClassId} {N : Nat} {q : Nat → Nat} {m0 : Nat → Value} {a0 : Nat → vp_A} {sz : Nat} (hN : 105 ≤ N) (hsh : SH q m0) {x2_0 : Int32} (h_x2_0 : m0 200 = .int x2_0) {x2_1 : Int64} (h_x2_1 : m0 201 = .long x2_1) {x5_0 : Int32} (h_x5_0 : m0 500 = .int x5_0) {x5_1 : Int64} (h_x5_1 : m0 501 = .long x5_1) (p1 : Int32) (p2 : Int32) : gMi l yX11_row cX11_row 4 (some .int) ({ frames := 1, cells := 0, slots := 0, locals := 21 } : Room) D cy N q m0 a0 sz [.ref (q 0), .int p1, .int p2] (fun r m' a' => r = (fX11_row x2_0 x2_1 x5_0 x5_1 p1 p2) ∧ m' = m0 ∧ a' = a0) := by
  generalize hs0 : fX11_row x2_0 x2_1 x5_0 x5_1 p1 p2 = X0
  refine g_ofi (by decide) (Nat.le_of_ble_eq_true rfl) ?_
  intro p e s M args below meth c hx hb hr hG hown hin hlocks hml hW hS ls hl
  unfold fX11_row at hs0
  have hJ26_0 : ∀ (v2j4 : Int32) (H : Heap) (locs : List Loc) (ls : Array Slot) (hl : lv_has ls 4 [(2, .int v2j4)]) (hs0 : fX11_row_J26 x2_0 x2_1 x5_0 x5_1 v2j4 = X0) (hW : GW D cy (gA N q s.heap.size) N q m0 a0 s H) (hS : va_S (gA N q s.heap.size) s.heap H locs), W p l e ({ frames := 1, cells := 0, slots := 0, locals := 21 } : Room) s M args below meth c H locs 0 0 (MQ below (va_Qi (fun (r : Int32) (u : (Nat → Value) × (Nat → vp_A)) => r = X0 ∧ u.1 = m0 ∧ u.2 = a0) (gB D cy N q s.heap.size) (gA N q s.heap.size)) args s 0 0 (gA N q s.heap.size)) (F0 M 26 ls [.ref (q 5)]) := by
    intro v2j4 H locs ls hl hs0 hW hS
    unfold fX11_row_J26 at hs0
    refine lv_astore_n (lv' := [(3, .ref (q 5)), (2, .int v2j4)]) hx hb dX11_row_26 rfl hl (by decide) rfl (fun ls hl => ?_)
    refine lv_iload_n hx hb dX11_row_27 rfl (lv_at hl 1 rfl) ?_
    refine lv_iconst (v := (-1)) hx hb dX11_row_28 (by decide) ?_
    refine lv_icmp_ne (tgt := 39) hx hb dX11_row_29 (by decide) (fun c6 => ?_) (fun c6 => ?_)
    · rw [if_neg c6] at hs0
      refine lv_aload_n hx hb dX11_row_39 rfl (lv_at hl 0 rfl) ?_
      refine lv_iload_n hx hb dX11_row_40 rfl (lv_at hl 1 rfl) ?_
      refine g_ViR (n := 1) hx hb hml hown hG hW hS [.int v2j4] (kX6_valueAt_5 hN h_x5_0 h_x5_1 v2j4) (ltN hN 5 rfl) gk5 (by decide) rfl rfl (gd_V gx1097 gx1085 gx1086 gx18 gx1087) rfl rfl (by decide) ⟨Nat.le_of_ble_eq_true rfl, Nat.le_of_ble_eq_true rfl⟩ rfl hl (Nat.le_of_ble_eq_true rfl) ⟨Nat.zero_le _, Nat.zero_le _⟩ dX11_row_41 (fun H locs hW hS => ?_)
      subst hs0
      exact W.zret hx hb hr rfl (fun t ht hw => ⟨⟨_, (m0, a0), rfl, ⟨rfl, rfl, rfl⟩, g_end hW ht hw⟩, hS.F ht⟩) hS.2.2 dX11_row_44 hlocks
    · rw [if_pos c6] at hs0
      refine lv_aload_n hx hb dX11_row_32 rfl (lv_at hl 0 rfl) ?_
      refine gf6_0 hx hb hG hown hW (o := 5) (ltN hN 5 rfl) gk5 (v := .int x5_0) h_x5_0 gx1076 dX11_row_33 ?_
      refine lv_goto (tgt := 44) hx hb dX11_row_36 (by decide) ?_
      subst hs0
      exact W.zret hx hb hr rfl (fun t ht hw => ⟨⟨_, (m0, a0), rfl, ⟨rfl, rfl, rfl⟩, g_end hW ht hw⟩, hS.F ht⟩) hS.2.2 dX11_row_44 hlocks
  have hJ26_2_0 : ∀ (v2j5 : Int32) (H : Heap) (locs : List Loc) (ls : Array Slot) (hl : lv_has ls 4 [(2, .int v2j5)]) (hs0 : fX11_row_J26_2 x2_0 x2_1 x5_0 x5_1 v2j5 = X0) (hW : GW D cy (gA N q s.heap.size) N q m0 a0 s H) (hS : va_S (gA N q s.heap.size) s.heap H locs), W p l e ({ frames := 1, cells := 0, slots := 0, locals := 21 } : Room) s M args below meth c H locs 0 0 (MQ below (va_Qi (fun (r : Int32) (u : (Nat → Value) × (Nat → vp_A)) => r = X0 ∧ u.1 = m0 ∧ u.2 = a0) (gB D cy N q s.heap.size) (gA N q s.heap.size)) args s 0 0 (gA N q s.heap.size)) (F0 M 26 ls [.ref (q 2)]) := by
    intro v2j5 H locs ls hl hs0 hW hS
    unfold fX11_row_J26_2 at hs0
    refine lv_astore_n (lv' := [(3, .ref (q 2)), (2, .int v2j5)]) hx hb dX11_row_26 rfl hl (by decide) rfl (fun ls hl => ?_)
    refine lv_iload_n hx hb dX11_row_27 rfl (lv_at hl 1 rfl) ?_
    refine lv_iconst (v := (-1)) hx hb dX11_row_28 (by decide) ?_
    refine lv_icmp_ne (tgt := 39) hx hb dX11_row_29 (by decide) (fun c8 => ?_) (fun c8 => ?_)
    · rw [if_neg c8] at hs0
      refine lv_aload_n hx hb dX11_row_39 rfl (lv_at hl 0 rfl) ?_
      refine lv_iload_n hx hb dX11_row_40 rfl (lv_at hl 1 rfl) ?_
      refine g_ViR (n := 1) hx hb hml hown hG hW hS [.int v2j5] (kX6_valueAt_2 hN h_x2_0 h_x2_1 v2j5) (ltN hN 2 rfl) gk2 (by decide) rfl rfl (gd_V gx1097 gx1085 gx1086 gx18 gx1087) rfl rfl (by decide) ⟨Nat.le_of_ble_eq_true rfl, Nat.le_of_ble_eq_true rfl⟩ rfl hl (Nat.le_of_ble_eq_true rfl) ⟨Nat.zero_le _, Nat.zero_le _⟩ dX11_row_41 (fun H locs hW hS => ?_)
      subst hs0
      exact W.zret hx hb hr rfl (fun t ht hw => ⟨⟨_, (m0, a0), rfl, ⟨rfl, rfl, rfl⟩, g_end hW ht hw⟩, hS.F ht⟩) hS.2.2 dX11_row_44 hlocks
    · rw [if_pos c8] at hs0
      refine lv_aload_n hx hb dX11_row_32 rfl (lv_at hl 0 rfl) ?_
      refine gf6_0 hx hb hG hown hW (o := 2) (ltN hN 2 rfl) gk2 (v := .int x2_0) h_x2_0 gx1076 dX11_row_33 ?_
      refine lv_goto (tgt := 44) hx hb dX11_row_36 (by decide) ?_
      subst hs0
      exact W.zret hx hb hr rfl (fun t ht hw => ⟨⟨_, (m0, a0), rfl, ⟨rfl, rfl, rfl⟩, g_end hW ht hw⟩, hS.F ht⟩) hS.2.2 dX11_row_44 hlocks
  refine lv_iload_n hx hb dX11_row_0 rfl (lv_at hl 1 rfl) ?_
  refine lv_if_lt (tgt := 9) hx hb dX11_row_1 (by decide) (fun c1 => ?_) (fun c1 => ?_)
  · rw [if_pos c1] at hs0
    refine lv_iconst (v := (-1)) hx hb dX11_row_9 (by decide) ?_
    subst hs0
    exact W.zret hx hb hr rfl (fun t ht hw => ⟨⟨_, (m0, a0), rfl, ⟨rfl, rfl, rfl⟩, g_end hW ht hw⟩, hS.F ht⟩) hS.2.2 dX11_row_10 hlocks
  · rw [if_neg c1] at hs0
    refine lv_iload_n hx hb dX11_row_4 rfl (lv_at hl 1 rfl) ?_
    refine lv_iconst (v := 1) hx hb dX11_row_5 (by decide) ?_
    refine lv_icmp_le (tgt := 11) hx hb dX11_row_6 (by decide) (fun c2 => ?_) (fun c2 => ?_)
    · rw [if_pos c2] at hs0
      refine lv_iload_n hx hb dX11_row_11 rfl (lv_at hl 1 rfl) ?_
      refine lv_if_ne (tgt := 22) hx hb dX11_row_12 (by decide) (fun c3 => ?_) (fun c3 => ?_)
      · rw [if_neg c3] at hs0
        refine lv_aload_n hx hb dX11_row_22 rfl (lv_at hl 0 rfl) ?_
        refine gf11_2 hx hb hG hown hW (o := 0) (ltN hN 0 rfl) gk0 (v := .ref (q 5)) (sh0_2 hsh) gx20 dX11_row_23 ?_
        exact hJ26_0 p2 _ _ ls (lv_sub hl [2] rfl) hs0 hW hS
      · rw [if_pos c3] at hs0
        refine lv_aload_n hx hb dX11_row_15 rfl (lv_at hl 0 rfl) ?_
        refine gf11_1 hx hb hG hown hW (o := 0) (ltN hN 0 rfl) gk0 (v := .ref (q 2)) (sh0_1 hsh) gx19 dX11_row_16 ?_
        refine lv_goto (tgt := 26) hx hb dX11_row_19 (by decide) ?_
        exact hJ26_2_0 p2 _ _ ls (lv_sub hl [2] rfl) hs0 hW hS
    · rw [if_neg c2] at hs0
      refine lv_iconst (v := (-1)) hx hb dX11_row_9 (by decide) ?_
      subst hs0
      exact W.zret hx hb hr rfl (fun t ht hw => ⟨⟨_, (m0, a0), rfl, ⟨rfl, rfl, rfl⟩, g_end hW ht hw⟩, hS.F ht⟩) hS.2.2 dX11_row_10 hlocks
-- HealLink.struck ()I
def fX11_struck (F : Nat) (x2_0 : Int32) (x2_1 : Int64) (x5_0 : Int32) (x5_1 : Int64) (A4 : Nat → Int32) : Option (Int32 × (Nat → Int32)) := ((fX6_commonWith F x2_0 x2_1 x5_0 x5_1 A4).bind (fun r1 => some ((x2_0 + x5_0) - (2 * r1.1), r1.2)))
theorem dX11_struck_0 : decode cX11_struck 0 = .ok (.aload_n 0, 1) := by decide +kernel
theorem dX11_struck_1 : decode cX11_struck 1 = .ok (.getfield 16, 3) := by decide +kernel
theorem dX11_struck_4 : decode cX11_struck 4 = .ok (.getfield 268, 3) := by decide +kernel
theorem dX11_struck_7 : decode cX11_struck 7 = .ok (.aload_n 0, 1) := by decide +kernel
theorem dX11_struck_8 : decode cX11_struck 8 = .ok (.getfield 20, 3) := by decide +kernel
theorem dX11_struck_11 : decode cX11_struck 11 = .ok (.getfield 268, 3) := by decide +kernel
theorem dX11_struck_14 : decode cX11_struck 14 = .ok (.iadd, 1) := by decide +kernel
theorem dX11_struck_15 : decode cX11_struck 15 = .ok (.iconst 2, 1) := by decide +kernel
theorem dX11_struck_16 : decode cX11_struck 16 = .ok (.aload_n 0, 1) := by decide +kernel
theorem dX11_struck_17 : decode cX11_struck 17 = .ok (.getfield 16, 3) := by decide +kernel
theorem dX11_struck_20 : decode cX11_struck 20 = .ok (.aload_n 0, 1) := by decide +kernel
theorem dX11_struck_21 : decode cX11_struck 21 = .ok (.getfield 20, 3) := by decide +kernel
theorem dX11_struck_24 : decode cX11_struck 24 = .ok (.invokevirtual 269, 3) := by decide +kernel
theorem dX11_struck_27 : decode cX11_struck 27 = .ok (.imul, 1) := by decide +kernel
theorem dX11_struck_28 : decode cX11_struck 28 = .ok (.isub, 1) := by decide +kernel
theorem dX11_struck_29 : decode cX11_struck 29 = .ok (.ireturn, 1) := by decide +kernel
set_option maxHeartbeats 4000000 in
set_option maxRecDepth 100000 in
theorem kX11_struck {l : Launch} {D : va_G} {cy : Nat → ClassId} {N : Nat} {q : Nat → Nat} {m0 : Nat → Value} {a0 : Nat → vp_A} {sz : Nat} (hN : 105 ≤ N) (hsh : SH q m0) {x2_0 : Int32} (h_x2_0 : m0 200 = .int x2_0) {x2_1 : Int64} (h_x2_1 : m0 201 = .long x2_1) {x5_0 : Int32} (h_x5_0 : m0 500 = .int x5_0) {x5_1 : Int64} (h_x5_1 : m0 501 = .long x5_1) {A4 : Nat → Int32} (h_A4 : a0 4 = (41, .inl A4)) (F : Nat) {X0 : Int32 × (Nat → Int32)} (hs0 : fX11_struck F x2_0 x2_1 x5_0 x5_1 A4 = some X0) : gMi l yX11_struck cX11_struck 1 (some .int) ({ frames := 3, cells := 0, slots := 0, locals := 69 } : Room) D cy N q m0 a0 sz [.ref (q 0)] (fun r m' a' => r = X0.1 ∧ m' = m0 ∧ a' 4 = (41, .inl X0.2) ∧ (∀ j, nel j [4] = false → a' j = a0 j)) := by
  refine g_ofi (by decide) (Nat.le_of_ble_eq_true rfl) ?_
  intro p e s M args below meth c hx hb hr hG hown hin hlocks hml hW hS ls hl
  unfold fX11_struck at hs0
  have hoffa : ∀ j, nel j [4] = false → a0 j = a0 j := off0
  refine lv_aload_n hx hb dX11_struck_0 rfl (lv_at hl 0 rfl) ?_
  refine gf11_1 hx hb hG hown hW (o := 0) (ltN hN 0 rfl) gk0 (v := .ref (q 2)) (sh0_1 hsh) gx19 dX11_struck_1 ?_
  refine gf6_0 hx hb hG hown hW (o := 2) (ltN hN 2 rfl) gk2 (v := .int x2_0) h_x2_0 gx1076 dX11_struck_4 ?_
  refine lv_aload_n hx hb dX11_struck_7 rfl (lv_at hl 0 rfl) ?_
  refine gf11_2 hx hb hG hown hW (o := 0) (ltN hN 0 rfl) gk0 (v := .ref (q 5)) (sh0_2 hsh) gx20 dX11_struck_8 ?_
  refine gf6_0 hx hb hG hown hW (o := 5) (ltN hN 5 rfl) gk5 (v := .int x5_0) h_x5_0 gx1076 dX11_struck_11 ?_
  refine lv_iadd hx hb dX11_struck_14 ?_
  refine lv_iconst (v := 2) hx hb dX11_struck_15 (by decide) ?_
  refine lv_aload_n hx hb dX11_struck_16 rfl (lv_at hl 0 rfl) ?_
  refine gf11_1 hx hb hG hown hW (o := 0) (ltN hN 0 rfl) gk0 (v := .ref (q 2)) (sh0_1 hsh) gx19 dX11_struck_17 ?_
  refine lv_aload_n hx hb dX11_struck_20 rfl (lv_at hl 0 rfl) ?_
  refine gf11_2 hx hb hG hown hW (o := 0) (ltN hN 0 rfl) gk0 (v := .ref (q 5)) (sh0_2 hsh) gx20 dX11_struck_21 ?_
  obtain ⟨r1, hf1, hs0⟩ := obind hs0
  refine g_Vi (n := 1) hx hb hml hown hG hW hS [.ref (q 5)] (kX6_commonWith_2 hN hsh h_x2_0 h_x2_1 h_x5_0 h_x5_1 h_A4 F hf1) (ltN hN 2 rfl) gk2 (by decide) rfl rfl (gd_V gx1077 gx1078 gx1079 gx18 gx1080) rfl rfl (by decide) ⟨Nat.le_of_ble_eq_true rfl, Nat.le_of_ble_eq_true rfl⟩ rfl hl (Nat.le_of_ble_eq_true rfl) ⟨Nat.zero_le _, Nat.zero_le _⟩ dX11_struck_24 (fun x1 m1 a1 H locs hp1 hW hS => ?_)
  obtain ⟨hx1, hm1, hp1_A4, hoa1⟩ := hp1
  subst hx1
  rw [hm1] at hW
  have w_A4 : a1 4 = (41, .inl r1.2) := hp1_A4
  have hoffa := offm hoffa hoa1 (by decide +kernel)
  refine lv_imul hx hb dX11_struck_27 ?_
  refine lv_isub hx hb dX11_struck_28 ?_
  have hs0 := Option.some.inj hs0
  subst hs0
  exact W.zret hx hb hr rfl (fun t ht hw => ⟨⟨_, (m0, a1), rfl, ⟨rfl, rfl, w_A4, hoffa⟩, g_end hW ht hw⟩, hS.F ht⟩) hS.2.2 dX11_struck_29 hlocks
-- HealLink.feed (JJJ)I
def fX11_feed (F : Nat) (x24_0 : Int32) (A26 : Nat → Int32) (p1 : Int64) (p3 : Int64) (p5 : Int64) : Option (Int32 × Int32 × (Nat → Int32)) := (if (fX10_hasRoom x24_0 24) = 0 then some ((-1), x24_0, A26) else ((fX10_append F x24_0 A26 p1).bind (fun r3 => ((fX10_append F r3.1 r3.2 p3).bind (fun r4 => ((fX10_append F r4.1 r4.2 p5).bind (fun r5 => some (r5.1, r5.1, r5.2))))))))
theorem dX11_feed_0 : decode cX11_feed 0 = .ok (.aload_n 0, 1) := by decide +kernel
theorem dX11_feed_1 : decode cX11_feed 1 = .ok (.getfield 40, 3) := by decide +kernel
theorem dX11_feed_4 : decode cX11_feed 4 = .ok (.bipush 24, 2) := by decide +kernel
theorem dX11_feed_6 : decode cX11_feed 6 = .ok (.invokevirtual 276, 3) := by decide +kernel
theorem dX11_feed_9 : decode cX11_feed 9 = .ok (.ifCond .ne 5, 3) := by decide +kernel
theorem dX11_feed_12 : decode cX11_feed 12 = .ok (.iconst (-1), 1) := by decide +kernel
theorem dX11_feed_13 : decode cX11_feed 13 = .ok (.ireturn, 1) := by decide +kernel
theorem dX11_feed_14 : decode cX11_feed 14 = .ok (.aload_n 0, 1) := by decide +kernel
theorem dX11_feed_15 : decode cX11_feed 15 = .ok (.getfield 40, 3) := by decide +kernel
theorem dX11_feed_18 : decode cX11_feed 18 = .ok (.lload_n 1, 1) := by decide +kernel
theorem dX11_feed_19 : decode cX11_feed 19 = .ok (.invokevirtual 279, 3) := by decide +kernel
theorem dX11_feed_22 : decode cX11_feed 22 = .ok (.aload_n 0, 1) := by decide +kernel
theorem dX11_feed_23 : decode cX11_feed 23 = .ok (.getfield 40, 3) := by decide +kernel
theorem dX11_feed_26 : decode cX11_feed 26 = .ok (.lload_n 3, 1) := by decide +kernel
theorem dX11_feed_27 : decode cX11_feed 27 = .ok (.invokevirtual 279, 3) := by decide +kernel
theorem dX11_feed_30 : decode cX11_feed 30 = .ok (.aload_n 0, 1) := by decide +kernel
theorem dX11_feed_31 : decode cX11_feed 31 = .ok (.getfield 40, 3) := by decide +kernel
theorem dX11_feed_34 : decode cX11_feed 34 = .ok (.lload 5, 2) := by decide +kernel
theorem dX11_feed_36 : decode cX11_feed 36 = .ok (.invokevirtual 279, 3) := by decide +kernel
theorem dX11_feed_39 : decode cX11_feed 39 = .ok (.aload_n 0, 1) := by decide +kernel
theorem dX11_feed_40 : decode cX11_feed 40 = .ok (.getfield 40, 3) := by decide +kernel
theorem dX11_feed_43 : decode cX11_feed 43 = .ok (.getfield 205, 3) := by decide +kernel
theorem dX11_feed_46 : decode cX11_feed 46 = .ok (.ireturn, 1) := by decide +kernel
set_option maxHeartbeats 4000000 in
set_option maxRecDepth 100000 in
theorem kX11_feed {l : Launch} {D : va_G} {cy : Nat → ClassId} {N : Nat} {q : Nat → Nat} {m0 : Nat → Value} {a0 : Nat → vp_A} {sz : Nat} (hN : 105 ≤ N) (hsh : SH q m0) {x24_0 : Int32} (h_x24_0 : m0 2400 = .int x24_0) {A26 : Nat → Int32} (h_A26 : a0 26 = (264, .inl A26)) (F : Nat) (p1 : Int64) (p3 : Int64) (p5 : Int64) {X0 : Int32 × Int32 × (Nat → Int32)} (hs0 : fX11_feed F x24_0 A26 p1 p3 p5 = some X0) : gMi l yX11_feed cX11_feed 7 (some .int) ({ frames := 2, cells := 0, slots := 0, locals := 45 } : Room) D cy N q m0 a0 sz [.ref (q 0), .long p1, .long p3, .long p5] (fun r m' a' => r = X0.1 ∧ m' 2400 = .int X0.2.1 ∧ (∀ j, nel j [2400] = false → m' j = m0 j) ∧ a' 26 = (264, .inl X0.2.2) ∧ (∀ j, nel j [26] = false → a' j = a0 j)) := by
  refine g_ofi (by decide) (Nat.le_of_ble_eq_true rfl) ?_
  intro p e s M args below meth c hx hb hr hG hown hin hlocks hml hW hS ls hl
  unfold fX11_feed at hs0
  have hoff : ∀ j, nel j [2400] = false → m0 j = m0 j := off0
  have hoffa : ∀ j, nel j [26] = false → a0 j = a0 j := off0
  refine lv_aload_n hx hb dX11_feed_0 rfl (lv_at hl 0 rfl) ?_
  refine gf11_5 hx hb hG hown hW (o := 0) (ltN hN 0 rfl) gk0 (v := .ref (q 24)) (sh0_5 hsh) gx32 dX11_feed_1 ?_
  refine lv_bipush (v := 24) hx hb dX11_feed_4 (by decide) ?_
  refine g_ViR (n := 1) hx hb hml hown hG hW hS [.int 24] (kX10_hasRoom hN h_x24_0 24) (ltN hN 24 rfl) gk24 (by decide) rfl rfl (gd_V gx1106 gx1107 gx1108 gx31 gx1109) rfl rfl (by decide) ⟨Nat.le_of_ble_eq_true rfl, Nat.le_of_ble_eq_true rfl⟩ rfl hl (Nat.le_of_ble_eq_true rfl) ⟨Nat.zero_le _, Nat.zero_le _⟩ dX11_feed_6 (fun H locs hW hS => ?_)
  refine lv_if_ne (tgt := 14) hx hb dX11_feed_9 (by decide) (fun c2 => ?_) (fun c2 => ?_)
  · rw [if_neg c2] at hs0
    refine lv_aload_n hx hb dX11_feed_14 rfl (lv_at hl 0 rfl) ?_
    refine gf11_5 hx hb hG hown hW (o := 0) (ltN hN 0 rfl) gk0 (v := .ref (q 24)) (sh0_5 hsh) gx32 dX11_feed_15 ?_
    refine lv_lload_n hx hb dX11_feed_18 rfl (lv_at hl 1 rfl) ?_
    obtain ⟨r3, hf3, hs0⟩ := obind hs0
    refine g_Vv (n := 1) hx hb hml hown hG hW hS [.long p1] (kX10_append hN hsh h_x24_0 h_A26 F p1 hf3) (ltN hN 24 rfl) gk24 (by decide) rfl rfl (gd_V gx1111 gx1112 gx1113 gx31 gx1114) rfl rfl (by decide) ⟨Nat.le_of_ble_eq_true rfl, Nat.le_of_ble_eq_true rfl⟩ rfl hl (Nat.le_of_ble_eq_true rfl) ⟨Nat.zero_le _, Nat.zero_le _⟩ dX11_feed_19 (fun m3 a3 H locs hp3 hW hS => ?_)
    obtain ⟨hp3_x24_0, ho3, hp3_A26, hoa3⟩ := hp3
    have w_x24_0 : m3 2400 = .int r3.1 := hp3_x24_0
    have hoff := offm hoff ho3 (by decide +kernel)
    have hsh := SH.off hsh ho3 (by decide +kernel)
    have w_A26 : a3 26 = (264, .inl r3.2) := hp3_A26
    have hoffa := offm hoffa hoa3 (by decide +kernel)
    refine lv_aload_n hx hb dX11_feed_22 rfl (lv_at hl 0 rfl) ?_
    refine gf11_5 hx hb hG hown hW (o := 0) (ltN hN 0 rfl) gk0 (v := .ref (q 24)) (sh0_5 hsh) gx32 dX11_feed_23 ?_
    refine lv_lload_n hx hb dX11_feed_26 rfl (lv_at hl 2 rfl) ?_
    obtain ⟨r4, hf4, hs0⟩ := obind hs0
    refine g_Vv (n := 1) hx hb hml hown hG hW hS [.long p3] (kX10_append hN hsh w_x24_0 w_A26 F p3 hf4) (ltN hN 24 rfl) gk24 (by decide) rfl rfl (gd_V gx1111 gx1112 gx1113 gx31 gx1114) rfl rfl (by decide) ⟨Nat.le_of_ble_eq_true rfl, Nat.le_of_ble_eq_true rfl⟩ rfl hl (Nat.le_of_ble_eq_true rfl) ⟨Nat.zero_le _, Nat.zero_le _⟩ dX11_feed_27 (fun m4 a4 H locs hp4 hW hS => ?_)
    obtain ⟨hp4_x24_0, ho4, hp4_A26, hoa4⟩ := hp4
    have w_x24_0 : m4 2400 = .int r4.1 := hp4_x24_0
    have hoff := offm hoff ho4 (by decide +kernel)
    have hsh := SH.off hsh ho4 (by decide +kernel)
    have w_A26 : a4 26 = (264, .inl r4.2) := hp4_A26
    have hoffa := offm hoffa hoa4 (by decide +kernel)
    refine lv_aload_n hx hb dX11_feed_30 rfl (lv_at hl 0 rfl) ?_
    refine gf11_5 hx hb hG hown hW (o := 0) (ltN hN 0 rfl) gk0 (v := .ref (q 24)) (sh0_5 hsh) gx32 dX11_feed_31 ?_
    refine lv_lload hx hb dX11_feed_34 (lv_at hl 3 rfl) ?_
    obtain ⟨r5, hf5, hs0⟩ := obind hs0
    refine g_Vv (n := 1) hx hb hml hown hG hW hS [.long p5] (kX10_append hN hsh w_x24_0 w_A26 F p5 hf5) (ltN hN 24 rfl) gk24 (by decide) rfl rfl (gd_V gx1111 gx1112 gx1113 gx31 gx1114) rfl rfl (by decide) ⟨Nat.le_of_ble_eq_true rfl, Nat.le_of_ble_eq_true rfl⟩ rfl hl (Nat.le_of_ble_eq_true rfl) ⟨Nat.zero_le _, Nat.zero_le _⟩ dX11_feed_36 (fun m5 a5 H locs hp5 hW hS => ?_)
    obtain ⟨hp5_x24_0, ho5, hp5_A26, hoa5⟩ := hp5
    have w_x24_0 : m5 2400 = .int r5.1 := hp5_x24_0
    have hoff := offm hoff ho5 (by decide +kernel)
    have hsh := SH.off hsh ho5 (by decide +kernel)
    have w_A26 : a5 26 = (264, .inl r5.2) := hp5_A26
    have hoffa := offm hoffa hoa5 (by decide +kernel)
    refine lv_aload_n hx hb dX11_feed_39 rfl (lv_at hl 0 rfl) ?_
    refine gf11_5 hx hb hG hown hW (o := 0) (ltN hN 0 rfl) gk0 (v := .ref (q 24)) (sh0_5 hsh) gx32 dX11_feed_40 ?_
    refine gf10_0 hx hb hG hown hW (o := 24) (ltN hN 24 rfl) gk24 (v := .int r5.1) w_x24_0 gx592 dX11_feed_43 ?_
    have hs0 := Option.some.inj hs0
    subst hs0
    exact W.zret hx hb hr rfl (fun t ht hw => ⟨⟨_, (m5, a5), rfl, ⟨rfl, w_x24_0, hoff, w_A26, hoffa⟩, g_end hW ht hw⟩, hS.F ht⟩) hS.2.2 dX11_feed_46 hlocks
  · rw [if_pos c2] at hs0
    refine lv_iconst (v := (-1)) hx hb dX11_feed_12 (by decide) ?_
    have hs0 := Option.some.inj hs0
    subst hs0
    exact W.zret hx hb hr rfl (fun t ht hw => ⟨⟨_, (m0, a0), rfl, ⟨rfl, h_x24_0, hoff, h_A26, hoffa⟩, g_end hW ht hw⟩, hS.F ht⟩) hS.2.2 dX11_feed_13 hlocks
-- HealLink.sender (IIIZ)Z
def fX11_sender (xkr_1 : Int32) (xkr_2 : Int32) (x0_8 : Int64) (p1 : Int32) (p2 : Int32) (p3 : Int32) (p4 : Int32) : Int32 × Int64 := (if (fX7_hasKind xkr_1 p1 p2) = 0 then (0, x0_8) else (if p3 < 0 then (0, x0_8) else (if p3 < xkr_2 then (1, (fX7_withSender x0_8 p1 p2 p3 p4)) else (0, x0_8))))
theorem dX11_sender_0 : decode cX11_sender 0 = .ok (.aload_n 0, 1) := by decide +kernel
theorem dX11_sender_1 : decode cX11_sender 1 = .ok (.getfield 56, 3) := by decide +kernel
theorem dX11_sender_4 : decode cX11_sender 4 = .ok (.iload_n 1, 1) := by decide +kernel
theorem dX11_sender_5 : decode cX11_sender 5 = .ok (.iload_n 2, 1) := by decide +kernel
theorem dX11_sender_6 : decode cX11_sender 6 = .ok (.invokevirtual 103, 3) := by decide +kernel
theorem dX11_sender_9 : decode cX11_sender 9 = .ok (.ifCond .eq 18, 3) := by decide +kernel
theorem dX11_sender_12 : decode cX11_sender 12 = .ok (.iload_n 3, 1) := by decide +kernel
theorem dX11_sender_13 : decode cX11_sender 13 = .ok (.ifCond .lt 14, 3) := by decide +kernel
theorem dX11_sender_16 : decode cX11_sender 16 = .ok (.iload_n 3, 1) := by decide +kernel
theorem dX11_sender_17 : decode cX11_sender 17 = .ok (.aload_n 0, 1) := by decide +kernel
theorem dX11_sender_18 : decode cX11_sender 18 = .ok (.getfield 56, 3) := by decide +kernel
theorem dX11_sender_21 : decode cX11_sender 21 = .ok (.getfield 106, 3) := by decide +kernel
theorem dX11_sender_24 : decode cX11_sender 24 = .ok (.if_icmp .lt 5, 3) := by decide +kernel
theorem dX11_sender_27 : decode cX11_sender 27 = .ok (.iconst 0, 1) := by decide +kernel
theorem dX11_sender_28 : decode cX11_sender 28 = .ok (.ireturn, 1) := by decide +kernel
theorem dX11_sender_29 : decode cX11_sender 29 = .ok (.aload_n 0, 1) := by decide +kernel
theorem dX11_sender_30 : decode cX11_sender 30 = .ok (.aload_n 0, 1) := by decide +kernel
theorem dX11_sender_31 : decode cX11_sender 31 = .ok (.getfield 64, 3) := by decide +kernel
theorem dX11_sender_34 : decode cX11_sender 34 = .ok (.iload_n 1, 1) := by decide +kernel
theorem dX11_sender_35 : decode cX11_sender 35 = .ok (.iload_n 2, 1) := by decide +kernel
theorem dX11_sender_36 : decode cX11_sender 36 = .ok (.iload_n 3, 1) := by decide +kernel
theorem dX11_sender_37 : decode cX11_sender 37 = .ok (.iload 4, 2) := by decide +kernel
theorem dX11_sender_39 : decode cX11_sender 39 = .ok (.invokestatic 109, 3) := by decide +kernel
theorem dX11_sender_42 : decode cX11_sender 42 = .ok (.putfield 64, 3) := by decide +kernel
theorem dX11_sender_45 : decode cX11_sender 45 = .ok (.iconst 1, 1) := by decide +kernel
theorem dX11_sender_46 : decode cX11_sender 46 = .ok (.ireturn, 1) := by decide +kernel
set_option maxHeartbeats 4000000 in
set_option maxRecDepth 100000 in
theorem kX11_sender {l : Launch} {D : va_G} {cy : Nat → ClassId} {N : Nat} {q : Nat → Nat} {m0 : Nat → Value} {a0 : Nat → vp_A} {sz : Nat} (hN : 105 ≤ N) (hsh : SH q m0) {kr : Nat} (hkr : kr < N) (hgk : gk kr = 7) (hrf : m0 7 = .ref (q kr)) {xkr_1 : Int32} (h_xkr_1 : m0 (100 * kr + 1) = .int xkr_1) {xkr_2 : Int32} (h_xkr_2 : m0 (100 * kr + 2) = .int xkr_2) {x0_8 : Int64} (h_x0_8 : m0 8 = .long x0_8) (p1 : Int32) (p2 : Int32) (p3 : Int32) (p4 : Int32) : gMi l yX11_sender cX11_sender 5 (some .boolean) ({ frames := 2, cells := 0, slots := 0, locals := 43 } : Room) D cy N q m0 a0 sz [.ref (q 0), .int p1, .int p2, .int p3, .int p4] (fun r m' a' => r = (fX11_sender xkr_1 xkr_2 x0_8 p1 p2 p3 p4).1 ∧ m' 8 = .long ((fX11_sender xkr_1 xkr_2 x0_8 p1 p2 p3 p4).2) ∧ (∀ j, nel j [8] = false → m' j = m0 j) ∧ a' = a0) := by
  generalize hs0 : fX11_sender xkr_1 xkr_2 x0_8 p1 p2 p3 p4 = X0
  refine g_ofi (by decide) (Nat.le_of_ble_eq_true rfl) ?_
  intro p e s M args below meth c hx hb hr hG hown hin hlocks hml hW hS ls hl
  unfold fX11_sender at hs0
  have hoff : ∀ j, nel j [8] = false → m0 j = m0 j := off0
  refine lv_aload_n hx hb dX11_sender_0 rfl (lv_at hl 0 rfl) ?_
  refine gf11_7 hx hb hG hown hW (o := 0) (ltN hN 0 rfl) gk0 (v := .ref (q kr)) ((hoff 7 rfl).trans hrf) gx40 dX11_sender_1 ?_
  refine lv_iload_n hx hb dX11_sender_4 rfl (lv_at hl 1 rfl) ?_
  refine lv_iload_n hx hb dX11_sender_5 rfl (lv_at hl 2 rfl) ?_
  refine g_ViR (n := 2) hx hb hml hown hG hW hS [.int p1, .int p2] (kX7_hasKind hN hkr hgk ((off_kr hoff hgk 1 rfl (by decide)).trans h_xkr_1) p1 p2) hkr hgk (by decide) rfl rfl (gd_V gx263 gx264 gx265 gx39 gx266) rfl rfl (by decide) ⟨Nat.le_of_ble_eq_true rfl, Nat.le_of_ble_eq_true rfl⟩ rfl hl (Nat.le_of_ble_eq_true rfl) ⟨Nat.zero_le _, Nat.zero_le _⟩ dX11_sender_6 (fun H locs hW hS => ?_)
  refine lv_if_eq (tgt := 27) hx hb dX11_sender_9 (by decide) (fun c2 => ?_) (fun c2 => ?_)
  · rw [if_pos c2] at hs0
    refine lv_iconst (v := 0) hx hb dX11_sender_27 (by decide) ?_
    subst hs0
    exact W.zret hx hb hr rfl (fun t ht hw => ⟨⟨_, (m0, a0), rfl, ⟨rfl, h_x0_8, hoff, rfl⟩, g_end hW ht hw⟩, hS.F ht⟩) hS.2.2 dX11_sender_28 hlocks
  · rw [if_neg c2] at hs0
    refine lv_iload_n hx hb dX11_sender_12 rfl (lv_at hl 3 rfl) ?_
    refine lv_if_lt (tgt := 27) hx hb dX11_sender_13 (by decide) (fun c3 => ?_) (fun c3 => ?_)
    · rw [if_pos c3] at hs0
      refine lv_iconst (v := 0) hx hb dX11_sender_27 (by decide) ?_
      subst hs0
      exact W.zret hx hb hr rfl (fun t ht hw => ⟨⟨_, (m0, a0), rfl, ⟨rfl, h_x0_8, hoff, rfl⟩, g_end hW ht hw⟩, hS.F ht⟩) hS.2.2 dX11_sender_28 hlocks
    · rw [if_neg c3] at hs0
      refine lv_iload_n hx hb dX11_sender_16 rfl (lv_at hl 3 rfl) ?_
      refine lv_aload_n hx hb dX11_sender_17 rfl (lv_at hl 0 rfl) ?_
      refine gf11_7 hx hb hG hown hW (o := 0) (ltN hN 0 rfl) gk0 (v := .ref (q kr)) ((hoff 7 rfl).trans hrf) gx40 dX11_sender_18 ?_
      refine gf7_2 hx hb hG hown hW (o := kr) hkr hgk (v := .int xkr_2) ((off_kr hoff hgk 2 rfl (by decide)).trans h_xkr_2) gx262 dX11_sender_21 ?_
      refine lv_icmp_lt (tgt := 29) hx hb dX11_sender_24 (by decide) (fun c4 => ?_) (fun c4 => ?_)
      · rw [if_pos c4] at hs0
        refine lv_aload_n hx hb dX11_sender_29 rfl (lv_at hl 0 rfl) ?_
        refine lv_aload_n hx hb dX11_sender_30 rfl (lv_at hl 0 rfl) ?_
        refine gf11_8 hx hb hG hown hW (o := 0) (ltN hN 0 rfl) gk0 (v := .long x0_8) h_x0_8 gx41 dX11_sender_31 ?_
        refine lv_iload_n hx hb dX11_sender_34 rfl (lv_at hl 1 rfl) ?_
        refine lv_iload_n hx hb dX11_sender_35 rfl (lv_at hl 2 rfl) ?_
        refine lv_iload_n hx hb dX11_sender_36 rfl (lv_at hl 3 rfl) ?_
        refine lv_iload hx hb dX11_sender_37 (lv_at hl 4 rfl) ?_
        refine g_SlR (n := 5) hx hb hml hown hG hW hS [.long x0_8, .int p1, .int p2, .int p3, .int p4] (kX7_withSender hN x0_8 p1 p2 p3 p4) rfl (gd_S gx271 gx272 gx39 gx273) rfl rfl (by decide) ⟨Nat.le_of_ble_eq_true rfl, Nat.le_of_ble_eq_true rfl⟩ rfl hl (Nat.le_of_ble_eq_true rfl) ⟨Nat.zero_le _, Nat.zero_le _⟩ dX11_sender_39 (fun H locs hW hS => ?_)
        refine gp11_8 hx hb hG hown hW hS (o := 0) (ltN hN 0 rfl) gk0 (v := (fX7_withSender x0_8 p1 p2 p3 p4)) gx41 dX11_sender_42 (fun m6 H locs hm6 ho6 hW hS => ?_)
        have ho6 := off1 ho6
        have w_x0_8 : m6 8 = .long (fX7_withSender x0_8 p1 p2 p3 p4) := hm6
        have hoff := offm hoff ho6 (by decide +kernel)
        have hsh := SH.off hsh ho6 (by decide +kernel)
        refine lv_iconst (v := 1) hx hb dX11_sender_45 (by decide) ?_
        subst hs0
        exact W.zret hx hb hr rfl (fun t ht hw => ⟨⟨_, (m6, a0), rfl, ⟨rfl, w_x0_8, hoff, rfl⟩, g_end hW ht hw⟩, hS.F ht⟩) hS.2.2 dX11_sender_46 hlocks
      · rw [if_neg c4] at hs0
        refine lv_iconst (v := 0) hx hb dX11_sender_27 (by decide) ?_
        subst hs0
        exact W.zret hx hb hr rfl (fun t ht hw => ⟨⟨_, (m0, a0), rfl, ⟨rfl, h_x0_8, hoff, rfl⟩, g_end hW ht hw⟩, hS.F ht⟩) hS.2.2 dX11_sender_28 hlocks
-- HealLink.last (I)I
def fX11_last (xkr_1 : Int32) (x0_8 : Int64) (p1 : Int32) : Int32 × Int64 := (if (fX7_hasLabel xkr_1 p1) = 0 then ((-1), x0_8) else ((fX7_lastOf x0_8), (fX7_withLast x0_8 p1)))
theorem dX11_last_0 : decode cX11_last 0 = .ok (.aload_n 0, 1) := by decide +kernel
theorem dX11_last_1 : decode cX11_last 1 = .ok (.getfield 56, 3) := by decide +kernel
theorem dX11_last_4 : decode cX11_last 4 = .ok (.iload_n 1, 1) := by decide +kernel
theorem dX11_last_5 : decode cX11_last 5 = .ok (.invokevirtual 113, 3) := by decide +kernel
theorem dX11_last_8 : decode cX11_last 8 = .ok (.ifCond .ne 5, 3) := by decide +kernel
theorem dX11_last_11 : decode cX11_last 11 = .ok (.iconst (-1), 1) := by decide +kernel
theorem dX11_last_12 : decode cX11_last 12 = .ok (.ireturn, 1) := by decide +kernel
theorem dX11_last_13 : decode cX11_last 13 = .ok (.aload_n 0, 1) := by decide +kernel
theorem dX11_last_14 : decode cX11_last 14 = .ok (.getfield 64, 3) := by decide +kernel
theorem dX11_last_17 : decode cX11_last 17 = .ok (.invokestatic 117, 3) := by decide +kernel
theorem dX11_last_20 : decode cX11_last 20 = .ok (.istore_n 2, 1) := by decide +kernel
theorem dX11_last_21 : decode cX11_last 21 = .ok (.aload_n 0, 1) := by decide +kernel
theorem dX11_last_22 : decode cX11_last 22 = .ok (.aload_n 0, 1) := by decide +kernel
theorem dX11_last_23 : decode cX11_last 23 = .ok (.getfield 64, 3) := by decide +kernel
theorem dX11_last_26 : decode cX11_last 26 = .ok (.iload_n 1, 1) := by decide +kernel
theorem dX11_last_27 : decode cX11_last 27 = .ok (.invokestatic 121, 3) := by decide +kernel
theorem dX11_last_30 : decode cX11_last 30 = .ok (.putfield 64, 3) := by decide +kernel
theorem dX11_last_33 : decode cX11_last 33 = .ok (.iload_n 2, 1) := by decide +kernel
theorem dX11_last_34 : decode cX11_last 34 = .ok (.ireturn, 1) := by decide +kernel
set_option maxHeartbeats 4000000 in
set_option maxRecDepth 100000 in
theorem kX11_last {l : Launch} {D : va_G} {cy : Nat → ClassId} {N : Nat} {q : Nat → Nat} {m0 : Nat → Value} {a0 : Nat → vp_A} {sz : Nat} (hN : 105 ≤ N) (hsh : SH q m0) {kr : Nat} (hkr : kr < N) (hgk : gk kr = 7) (hrf : m0 7 = .ref (q kr)) {xkr_1 : Int32} (h_xkr_1 : m0 (100 * kr + 1) = .int xkr_1) {x0_8 : Int64} (h_x0_8 : m0 8 = .long x0_8) (p1 : Int32) : gMi l yX11_last cX11_last 3 (some .int) ({ frames := 1, cells := 0, slots := 0, locals := 22 } : Room) D cy N q m0 a0 sz [.ref (q 0), .int p1] (fun r m' a' => r = (fX11_last xkr_1 x0_8 p1).1 ∧ m' 8 = .long ((fX11_last xkr_1 x0_8 p1).2) ∧ (∀ j, nel j [8] = false → m' j = m0 j) ∧ a' = a0) := by
  generalize hs0 : fX11_last xkr_1 x0_8 p1 = X0
  refine g_ofi (by decide) (Nat.le_of_ble_eq_true rfl) ?_
  intro p e s M args below meth c hx hb hr hG hown hin hlocks hml hW hS ls hl
  unfold fX11_last at hs0
  have hoff : ∀ j, nel j [8] = false → m0 j = m0 j := off0
  refine lv_aload_n hx hb dX11_last_0 rfl (lv_at hl 0 rfl) ?_
  refine gf11_7 hx hb hG hown hW (o := 0) (ltN hN 0 rfl) gk0 (v := .ref (q kr)) ((hoff 7 rfl).trans hrf) gx40 dX11_last_1 ?_
  refine lv_iload_n hx hb dX11_last_4 rfl (lv_at hl 1 rfl) ?_
  refine g_ViR (n := 1) hx hb hml hown hG hW hS [.int p1] (kX7_hasLabel hN hkr hgk ((off_kr hoff hgk 1 rfl (by decide)).trans h_xkr_1) p1) hkr hgk (by decide) rfl rfl (gd_V gx292 gx268 gx269 gx39 gx270) rfl rfl (by decide) ⟨Nat.le_of_ble_eq_true rfl, Nat.le_of_ble_eq_true rfl⟩ rfl hl (Nat.le_of_ble_eq_true rfl) ⟨Nat.zero_le _, Nat.zero_le _⟩ dX11_last_5 (fun H locs hW hS => ?_)
  refine lv_if_ne (tgt := 13) hx hb dX11_last_8 (by decide) (fun c2 => ?_) (fun c2 => ?_)
  · rw [if_neg c2] at hs0
    refine lv_aload_n hx hb dX11_last_13 rfl (lv_at hl 0 rfl) ?_
    refine gf11_8 hx hb hG hown hW (o := 0) (ltN hN 0 rfl) gk0 (v := .long x0_8) h_x0_8 gx41 dX11_last_14 ?_
    refine g_SiR (n := 1) hx hb hml hown hG hW hS [.long x0_8] (kX7_lastOf hN x0_8) rfl (gd_S gx293 gx294 gx39 gx295) rfl rfl (by decide) ⟨Nat.le_of_ble_eq_true rfl, Nat.le_of_ble_eq_true rfl⟩ rfl hl (Nat.le_of_ble_eq_true rfl) ⟨Nat.zero_le _, Nat.zero_le _⟩ dX11_last_17 (fun H locs hW hS => ?_)
    refine lv_istore_n (lv' := [(2, .int (fX7_lastOf x0_8)), (0, .ref (q 0)), (1, .int p1)]) hx hb dX11_last_20 rfl hl (by decide) rfl (fun ls hl => ?_)
    refine lv_aload_n hx hb dX11_last_21 rfl (lv_at hl 1 rfl) ?_
    refine lv_aload_n hx hb dX11_last_22 rfl (lv_at hl 1 rfl) ?_
    refine gf11_8 hx hb hG hown hW (o := 0) (ltN hN 0 rfl) gk0 (v := .long x0_8) h_x0_8 gx41 dX11_last_23 ?_
    refine lv_iload_n hx hb dX11_last_26 rfl (lv_at hl 2 rfl) ?_
    refine g_SlR (n := 2) hx hb hml hown hG hW hS [.long x0_8, .int p1] (kX7_withLast hN x0_8 p1) rfl (gd_S gx296 gx297 gx39 gx298) rfl rfl (by decide) ⟨Nat.le_of_ble_eq_true rfl, Nat.le_of_ble_eq_true rfl⟩ rfl hl (Nat.le_of_ble_eq_true rfl) ⟨Nat.zero_le _, Nat.zero_le _⟩ dX11_last_27 (fun H locs hW hS => ?_)
    refine gp11_8 hx hb hG hown hW hS (o := 0) (ltN hN 0 rfl) gk0 (v := (fX7_withLast x0_8 p1)) gx41 dX11_last_30 (fun m5 H locs hm5 ho5 hW hS => ?_)
    have ho5 := off1 ho5
    have w_x0_8 : m5 8 = .long (fX7_withLast x0_8 p1) := hm5
    have hoff := offm hoff ho5 (by decide +kernel)
    have hsh := SH.off hsh ho5 (by decide +kernel)
    refine lv_iload_n hx hb dX11_last_33 rfl (lv_at hl 0 rfl) ?_
    subst hs0
    exact W.zret hx hb hr rfl (fun t ht hw => ⟨⟨_, (m5, a0), rfl, ⟨rfl, w_x0_8, hoff, rfl⟩, g_end hW ht hw⟩, hS.F ht⟩) hS.2.2 dX11_last_34 hlocks
  · rw [if_pos c2] at hs0
    refine lv_iconst (v := (-1)) hx hb dX11_last_11 (by decide) ?_
    subst hs0
    exact W.zret hx hb hr rfl (fun t ht hw => ⟨⟨_, (m0, a0), rfl, ⟨rfl, h_x0_8, hoff, rfl⟩, g_end hW ht hw⟩, hS.F ht⟩) hS.2.2 dX11_last_12 hlocks
-- HealLink.seen (III)I
def fX11_seen (xkr_1 : Int32) (xkr_3 : Int32) (x0_8 : Int64) (p1 : Int32) (p2 : Int32) (p3 : Int32) : Int32 × Int64 := (if (fX7_hasKind xkr_1 p1 p2) = 0 then ((-1), x0_8) else (if p3 < 0 then ((-1), x0_8) else (if p3 < xkr_3 then ((fX11_put x0_8 (fX7_seenAt ((2 * p1) + p2)) p3).1, (fX11_put x0_8 (fX7_seenAt ((2 * p1) + p2)) p3).2) else ((-1), x0_8))))
theorem dX11_seen_0 : decode cX11_seen 0 = .ok (.aload_n 0, 1) := by decide +kernel
theorem dX11_seen_1 : decode cX11_seen 1 = .ok (.getfield 56, 3) := by decide +kernel
theorem dX11_seen_4 : decode cX11_seen 4 = .ok (.iload_n 1, 1) := by decide +kernel
theorem dX11_seen_5 : decode cX11_seen 5 = .ok (.iload_n 2, 1) := by decide +kernel
theorem dX11_seen_6 : decode cX11_seen 6 = .ok (.invokevirtual 103, 3) := by decide +kernel
theorem dX11_seen_9 : decode cX11_seen 9 = .ok (.ifCond .eq 18, 3) := by decide +kernel
theorem dX11_seen_12 : decode cX11_seen 12 = .ok (.iload_n 3, 1) := by decide +kernel
theorem dX11_seen_13 : decode cX11_seen 13 = .ok (.ifCond .lt 14, 3) := by decide +kernel
theorem dX11_seen_16 : decode cX11_seen 16 = .ok (.iload_n 3, 1) := by decide +kernel
theorem dX11_seen_17 : decode cX11_seen 17 = .ok (.aload_n 0, 1) := by decide +kernel
theorem dX11_seen_18 : decode cX11_seen 18 = .ok (.getfield 56, 3) := by decide +kernel
theorem dX11_seen_21 : decode cX11_seen 21 = .ok (.getfield 125, 3) := by decide +kernel
theorem dX11_seen_24 : decode cX11_seen 24 = .ok (.if_icmp .lt 5, 3) := by decide +kernel
theorem dX11_seen_27 : decode cX11_seen 27 = .ok (.iconst (-1), 1) := by decide +kernel
theorem dX11_seen_28 : decode cX11_seen 28 = .ok (.ireturn, 1) := by decide +kernel
theorem dX11_seen_29 : decode cX11_seen 29 = .ok (.aload_n 0, 1) := by decide +kernel
theorem dX11_seen_30 : decode cX11_seen 30 = .ok (.iconst 2, 1) := by decide +kernel
theorem dX11_seen_31 : decode cX11_seen 31 = .ok (.iload_n 1, 1) := by decide +kernel
theorem dX11_seen_32 : decode cX11_seen 32 = .ok (.imul, 1) := by decide +kernel
theorem dX11_seen_33 : decode cX11_seen 33 = .ok (.iload_n 2, 1) := by decide +kernel
theorem dX11_seen_34 : decode cX11_seen 34 = .ok (.iadd, 1) := by decide +kernel
theorem dX11_seen_35 : decode cX11_seen 35 = .ok (.invokestatic 128, 3) := by decide +kernel
theorem dX11_seen_38 : decode cX11_seen 38 = .ok (.iload_n 3, 1) := by decide +kernel
theorem dX11_seen_39 : decode cX11_seen 39 = .ok (.invokevirtual 131, 3) := by decide +kernel
theorem dX11_seen_42 : decode cX11_seen 42 = .ok (.ireturn, 1) := by decide +kernel
set_option maxHeartbeats 4000000 in
set_option maxRecDepth 100000 in
theorem kX11_seen {l : Launch} {D : va_G} {cy : Nat → ClassId} {N : Nat} {q : Nat → Nat} {m0 : Nat → Value} {a0 : Nat → vp_A} {sz : Nat} (hN : 105 ≤ N) (hsh : SH q m0) {kr : Nat} (hkr : kr < N) (hgk : gk kr = 7) (hrf : m0 7 = .ref (q kr)) {xkr_1 : Int32} (h_xkr_1 : m0 (100 * kr + 1) = .int xkr_1) {xkr_3 : Int32} (h_xkr_3 : m0 (100 * kr + 3) = .int xkr_3) {x0_8 : Int64} (h_x0_8 : m0 8 = .long x0_8) (p1 : Int32) (p2 : Int32) (p3 : Int32) : gMi l yX11_seen cX11_seen 4 (some .int) ({ frames := 2, cells := 0, slots := 0, locals := 46 } : Room) D cy N q m0 a0 sz [.ref (q 0), .int p1, .int p2, .int p3] (fun r m' a' => r = (fX11_seen xkr_1 xkr_3 x0_8 p1 p2 p3).1 ∧ m' 8 = .long ((fX11_seen xkr_1 xkr_3 x0_8 p1 p2 p3).2) ∧ (∀ j, nel j [8] = false → m' j = m0 j) ∧ a' = a0) := by
  generalize hs0 : fX11_seen xkr_1 xkr_3 x0_8 p1 p2 p3 = X0
  refine g_ofi (by decide) (Nat.le_of_ble_eq_true rfl) ?_
  intro p e s M args below meth c hx hb hr hG hown hin hlocks hml hW hS ls hl
  unfold fX11_seen at hs0
  have hoff : ∀ j, nel j [8] = false → m0 j = m0 j := off0
  refine lv_aload_n hx hb dX11_seen_0 rfl (lv_at hl 0 rfl) ?_
  refine gf11_7 hx hb hG hown hW (o := 0) (ltN hN 0 rfl) gk0 (v := .ref (q kr)) ((hoff 7 rfl).trans hrf) gx40 dX11_seen_1 ?_
  refine lv_iload_n hx hb dX11_seen_4 rfl (lv_at hl 1 rfl) ?_
  refine lv_iload_n hx hb dX11_seen_5 rfl (lv_at hl 2 rfl) ?_
  refine g_ViR (n := 2) hx hb hml hown hG hW hS [.int p1, .int p2] (kX7_hasKind hN hkr hgk ((off_kr hoff hgk 1 rfl (by decide)).trans h_xkr_1) p1 p2) hkr hgk (by decide) rfl rfl (gd_V gx263 gx264 gx265 gx39 gx266) rfl rfl (by decide) ⟨Nat.le_of_ble_eq_true rfl, Nat.le_of_ble_eq_true rfl⟩ rfl hl (Nat.le_of_ble_eq_true rfl) ⟨Nat.zero_le _, Nat.zero_le _⟩ dX11_seen_6 (fun H locs hW hS => ?_)
  refine lv_if_eq (tgt := 27) hx hb dX11_seen_9 (by decide) (fun c2 => ?_) (fun c2 => ?_)
  · rw [if_pos c2] at hs0
    refine lv_iconst (v := (-1)) hx hb dX11_seen_27 (by decide) ?_
    subst hs0
    exact W.zret hx hb hr rfl (fun t ht hw => ⟨⟨_, (m0, a0), rfl, ⟨rfl, h_x0_8, hoff, rfl⟩, g_end hW ht hw⟩, hS.F ht⟩) hS.2.2 dX11_seen_28 hlocks
  · rw [if_neg c2] at hs0
    refine lv_iload_n hx hb dX11_seen_12 rfl (lv_at hl 3 rfl) ?_
    refine lv_if_lt (tgt := 27) hx hb dX11_seen_13 (by decide) (fun c3 => ?_) (fun c3 => ?_)
    · rw [if_pos c3] at hs0
      refine lv_iconst (v := (-1)) hx hb dX11_seen_27 (by decide) ?_
      subst hs0
      exact W.zret hx hb hr rfl (fun t ht hw => ⟨⟨_, (m0, a0), rfl, ⟨rfl, h_x0_8, hoff, rfl⟩, g_end hW ht hw⟩, hS.F ht⟩) hS.2.2 dX11_seen_28 hlocks
    · rw [if_neg c3] at hs0
      refine lv_iload_n hx hb dX11_seen_16 rfl (lv_at hl 3 rfl) ?_
      refine lv_aload_n hx hb dX11_seen_17 rfl (lv_at hl 0 rfl) ?_
      refine gf11_7 hx hb hG hown hW (o := 0) (ltN hN 0 rfl) gk0 (v := .ref (q kr)) ((hoff 7 rfl).trans hrf) gx40 dX11_seen_18 ?_
      refine gf7_3 hx hb hG hown hW (o := kr) hkr hgk (v := .int xkr_3) ((off_kr hoff hgk 3 rfl (by decide)).trans h_xkr_3) gx311 dX11_seen_21 ?_
      refine lv_icmp_lt (tgt := 29) hx hb dX11_seen_24 (by decide) (fun c4 => ?_) (fun c4 => ?_)
      · rw [if_pos c4] at hs0
        refine lv_aload_n hx hb dX11_seen_29 rfl (lv_at hl 0 rfl) ?_
        refine lv_iconst (v := 2) hx hb dX11_seen_30 (by decide) ?_
        refine lv_iload_n hx hb dX11_seen_31 rfl (lv_at hl 1 rfl) ?_
        refine lv_imul hx hb dX11_seen_32 ?_
        refine lv_iload_n hx hb dX11_seen_33 rfl (lv_at hl 2 rfl) ?_
        refine lv_iadd hx hb dX11_seen_34 ?_
        refine g_SiR (n := 1) hx hb hml hown hG hW hS [.int ((2 * p1) + p2)] (kX7_seenAt hN ((2 * p1) + p2)) rfl (gd_S gx312 gx313 gx39 gx314) rfl rfl (by decide) ⟨Nat.le_of_ble_eq_true rfl, Nat.le_of_ble_eq_true rfl⟩ rfl hl (Nat.le_of_ble_eq_true rfl) ⟨Nat.zero_le _, Nat.zero_le _⟩ dX11_seen_35 (fun H locs hW hS => ?_)
        refine lv_iload_n hx hb dX11_seen_38 rfl (lv_at hl 3 rfl) ?_
        refine g_Vi (n := 2) hx hb hml hown hG hW hS [.int (fX7_seenAt ((2 * p1) + p2)), .int p3] (kX11_put hN hsh h_x0_8 (fX7_seenAt ((2 * p1) + p2)) p3) (ltN hN 0 rfl) gk0 (by decide) rfl rfl (gd_V gx315 gx316 gx317 gx2 gx318) rfl rfl (by decide) ⟨Nat.le_of_ble_eq_true rfl, Nat.le_of_ble_eq_true rfl⟩ rfl hl (Nat.le_of_ble_eq_true rfl) ⟨Nat.zero_le _, Nat.zero_le _⟩ dX11_seen_39 (fun x6 m6 a6 H locs hp6 hW hS => ?_)
        obtain ⟨hx6, hp6_x0_8, ho6, ha6⟩ := hp6
        subst hx6
        rw [ha6] at hW
        have w_x0_8 : m6 8 = .long ((fX11_put x0_8 (fX7_seenAt ((2 * p1) + p2)) p3).2) := hp6_x0_8
        have hoff := offm hoff ho6 (by decide +kernel)
        have hsh := SH.off hsh ho6 (by decide +kernel)
        subst hs0
        exact W.zret hx hb hr rfl (fun t ht hw => ⟨⟨_, (m6, a0), rfl, ⟨rfl, w_x0_8, hoff, rfl⟩, g_end hW ht hw⟩, hS.F ht⟩) hS.2.2 dX11_seen_42 hlocks
      · rw [if_neg c4] at hs0
        refine lv_iconst (v := (-1)) hx hb dX11_seen_27 (by decide) ?_
        subst hs0
        exact W.zret hx hb hr rfl (fun t ht hw => ⟨⟨_, (m0, a0), rfl, ⟨rfl, h_x0_8, hoff, rfl⟩, g_end hW ht hw⟩, hS.F ht⟩) hS.2.2 dX11_seen_28 hlocks
-- HealLink.packets (III)I
def fX11_packets (xkr_0 : Int32) (xkr_1 : Int32) (x0_8 : Int64) (p1 : Int32) (p2 : Int32) (p3 : Int32) : Int32 × Int64 := (if (fX7_hasKind xkr_1 p1 p2) = 0 then ((-1), x0_8) else (if 0 ≤ p3 then (if p3 ≤ (xkr_0 - ((fX7_packetsIn x0_8) - (fX7_digit x0_8 (fX7_packetsAt ((2 * p1) + p2))))) then ((fX11_put x0_8 (fX7_packetsAt ((2 * p1) + p2)) p3).1, (fX11_put x0_8 (fX7_packetsAt ((2 * p1) + p2)) p3).2) else ((-1), x0_8)) else ((-1), x0_8)))
theorem dX11_packets_0 : decode cX11_packets 0 = .ok (.aload_n 0, 1) := by decide +kernel
theorem dX11_packets_1 : decode cX11_packets 1 = .ok (.getfield 56, 3) := by decide +kernel
theorem dX11_packets_4 : decode cX11_packets 4 = .ok (.iload_n 1, 1) := by decide +kernel
theorem dX11_packets_5 : decode cX11_packets 5 = .ok (.iload_n 2, 1) := by decide +kernel
theorem dX11_packets_6 : decode cX11_packets 6 = .ok (.invokevirtual 103, 3) := by decide +kernel
theorem dX11_packets_9 : decode cX11_packets 9 = .ok (.ifCond .eq 7, 3) := by decide +kernel
theorem dX11_packets_12 : decode cX11_packets 12 = .ok (.iload_n 3, 1) := by decide +kernel
theorem dX11_packets_13 : decode cX11_packets 13 = .ok (.ifCond .ge 5, 3) := by decide +kernel
theorem dX11_packets_16 : decode cX11_packets 16 = .ok (.iconst (-1), 1) := by decide +kernel
theorem dX11_packets_17 : decode cX11_packets 17 = .ok (.ireturn, 1) := by decide +kernel
theorem dX11_packets_18 : decode cX11_packets 18 = .ok (.iconst 2, 1) := by decide +kernel
theorem dX11_packets_19 : decode cX11_packets 19 = .ok (.iload_n 1, 1) := by decide +kernel
theorem dX11_packets_20 : decode cX11_packets 20 = .ok (.imul, 1) := by decide +kernel
theorem dX11_packets_21 : decode cX11_packets 21 = .ok (.iload_n 2, 1) := by decide +kernel
theorem dX11_packets_22 : decode cX11_packets 22 = .ok (.iadd, 1) := by decide +kernel
theorem dX11_packets_23 : decode cX11_packets 23 = .ok (.invokestatic 135, 3) := by decide +kernel
theorem dX11_packets_26 : decode cX11_packets 26 = .ok (.istore 4, 2) := by decide +kernel
theorem dX11_packets_28 : decode cX11_packets 28 = .ok (.aload_n 0, 1) := by decide +kernel
theorem dX11_packets_29 : decode cX11_packets 29 = .ok (.getfield 64, 3) := by decide +kernel
theorem dX11_packets_32 : decode cX11_packets 32 = .ok (.invokestatic 138, 3) := by decide +kernel
theorem dX11_packets_35 : decode cX11_packets 35 = .ok (.aload_n 0, 1) := by decide +kernel
theorem dX11_packets_36 : decode cX11_packets 36 = .ok (.getfield 64, 3) := by decide +kernel
theorem dX11_packets_39 : decode cX11_packets 39 = .ok (.iload 4, 2) := by decide +kernel
theorem dX11_packets_41 : decode cX11_packets 41 = .ok (.invokestatic 141, 3) := by decide +kernel
theorem dX11_packets_44 : decode cX11_packets 44 = .ok (.isub, 1) := by decide +kernel
theorem dX11_packets_45 : decode cX11_packets 45 = .ok (.istore 5, 2) := by decide +kernel
theorem dX11_packets_47 : decode cX11_packets 47 = .ok (.iload_n 3, 1) := by decide +kernel
theorem dX11_packets_48 : decode cX11_packets 48 = .ok (.aload_n 0, 1) := by decide +kernel
theorem dX11_packets_49 : decode cX11_packets 49 = .ok (.getfield 56, 3) := by decide +kernel
theorem dX11_packets_52 : decode cX11_packets 52 = .ok (.getfield 145, 3) := by decide +kernel
theorem dX11_packets_55 : decode cX11_packets 55 = .ok (.iload 5, 2) := by decide +kernel
theorem dX11_packets_57 : decode cX11_packets 57 = .ok (.isub, 1) := by decide +kernel
theorem dX11_packets_58 : decode cX11_packets 58 = .ok (.if_icmp .le 7, 3) := by decide +kernel
theorem dX11_packets_61 : decode cX11_packets 61 = .ok (.iconst (-1), 1) := by decide +kernel
theorem dX11_packets_62 : decode cX11_packets 62 = .ok (.goto 10, 3) := by decide +kernel
theorem dX11_packets_65 : decode cX11_packets 65 = .ok (.aload_n 0, 1) := by decide +kernel
theorem dX11_packets_66 : decode cX11_packets 66 = .ok (.iload 4, 2) := by decide +kernel
theorem dX11_packets_68 : decode cX11_packets 68 = .ok (.iload_n 3, 1) := by decide +kernel
theorem dX11_packets_69 : decode cX11_packets 69 = .ok (.invokevirtual 131, 3) := by decide +kernel
theorem dX11_packets_72 : decode cX11_packets 72 = .ok (.ireturn, 1) := by decide +kernel
set_option maxHeartbeats 4000000 in
set_option maxRecDepth 100000 in
theorem kX11_packets {l : Launch} {D : va_G} {cy : Nat → ClassId} {N : Nat} {q : Nat → Nat} {m0 : Nat → Value} {a0 : Nat → vp_A} {sz : Nat} (hN : 105 ≤ N) (hsh : SH q m0) {kr : Nat} (hkr : kr < N) (hgk : gk kr = 7) (hrf : m0 7 = .ref (q kr)) {xkr_0 : Int32} (h_xkr_0 : m0 (100 * kr + 0) = .int xkr_0) {xkr_1 : Int32} (h_xkr_1 : m0 (100 * kr + 1) = .int xkr_1) {x0_8 : Int64} (h_x0_8 : m0 8 = .long x0_8) (p1 : Int32) (p2 : Int32) (p3 : Int32) : gMi l yX11_packets cX11_packets 6 (some .int) ({ frames := 2, cells := 0, slots := 0, locals := 46 } : Room) D cy N q m0 a0 sz [.ref (q 0), .int p1, .int p2, .int p3] (fun r m' a' => r = (fX11_packets xkr_0 xkr_1 x0_8 p1 p2 p3).1 ∧ m' 8 = .long ((fX11_packets xkr_0 xkr_1 x0_8 p1 p2 p3).2) ∧ (∀ j, nel j [8] = false → m' j = m0 j) ∧ a' = a0) := by
  generalize hs0 : fX11_packets xkr_0 xkr_1 x0_8 p1 p2 p3 = X0
  refine g_ofi (by decide) (Nat.le_of_ble_eq_true rfl) ?_
  intro p e s M args below meth c hx hb hr hG hown hin hlocks hml hW hS ls hl
  unfold fX11_packets at hs0
  have hoff : ∀ j, nel j [8] = false → m0 j = m0 j := off0
  refine lv_aload_n hx hb dX11_packets_0 rfl (lv_at hl 0 rfl) ?_
  refine gf11_7 hx hb hG hown hW (o := 0) (ltN hN 0 rfl) gk0 (v := .ref (q kr)) ((hoff 7 rfl).trans hrf) gx40 dX11_packets_1 ?_
  refine lv_iload_n hx hb dX11_packets_4 rfl (lv_at hl 1 rfl) ?_
  refine lv_iload_n hx hb dX11_packets_5 rfl (lv_at hl 2 rfl) ?_
  refine g_ViR (n := 2) hx hb hml hown hG hW hS [.int p1, .int p2] (kX7_hasKind hN hkr hgk ((off_kr hoff hgk 1 rfl (by decide)).trans h_xkr_1) p1 p2) hkr hgk (by decide) rfl rfl (gd_V gx263 gx264 gx265 gx39 gx266) rfl rfl (by decide) ⟨Nat.le_of_ble_eq_true rfl, Nat.le_of_ble_eq_true rfl⟩ rfl hl (Nat.le_of_ble_eq_true rfl) ⟨Nat.zero_le _, Nat.zero_le _⟩ dX11_packets_6 (fun H locs hW hS => ?_)
  refine lv_if_eq (tgt := 16) hx hb dX11_packets_9 (by decide) (fun c2 => ?_) (fun c2 => ?_)
  · rw [if_pos c2] at hs0
    refine lv_iconst (v := (-1)) hx hb dX11_packets_16 (by decide) ?_
    subst hs0
    exact W.zret hx hb hr rfl (fun t ht hw => ⟨⟨_, (m0, a0), rfl, ⟨rfl, h_x0_8, hoff, rfl⟩, g_end hW ht hw⟩, hS.F ht⟩) hS.2.2 dX11_packets_17 hlocks
  · rw [if_neg c2] at hs0
    refine lv_iload_n hx hb dX11_packets_12 rfl (lv_at hl 3 rfl) ?_
    refine lv_if_ge (tgt := 18) hx hb dX11_packets_13 (by decide) (fun c3 => ?_) (fun c3 => ?_)
    · rw [if_pos c3] at hs0
      refine lv_iconst (v := 2) hx hb dX11_packets_18 (by decide) ?_
      refine lv_iload_n hx hb dX11_packets_19 rfl (lv_at hl 1 rfl) ?_
      refine lv_imul hx hb dX11_packets_20 ?_
      refine lv_iload_n hx hb dX11_packets_21 rfl (lv_at hl 2 rfl) ?_
      refine lv_iadd hx hb dX11_packets_22 ?_
      refine g_SiR (n := 1) hx hb hml hown hG hW hS [.int ((2 * p1) + p2)] (kX7_packetsAt hN ((2 * p1) + p2)) rfl (gd_S gx339 gx340 gx39 gx341) rfl rfl (by decide) ⟨Nat.le_of_ble_eq_true rfl, Nat.le_of_ble_eq_true rfl⟩ rfl hl (Nat.le_of_ble_eq_true rfl) ⟨Nat.zero_le _, Nat.zero_le _⟩ dX11_packets_23 (fun H locs hW hS => ?_)
      refine lv_istore (lv' := [(4, .int (fX7_packetsAt ((2 * p1) + p2))), (0, .ref (q 0)), (1, .int p1), (2, .int p2), (3, .int p3)]) hx hb dX11_packets_26 hl (by decide) rfl (fun ls hl => ?_)
      refine lv_aload_n hx hb dX11_packets_28 rfl (lv_at hl 1 rfl) ?_
      refine gf11_8 hx hb hG hown hW (o := 0) (ltN hN 0 rfl) gk0 (v := .long x0_8) h_x0_8 gx41 dX11_packets_29 ?_
      refine g_SiR (n := 1) hx hb hml hown hG hW hS [.long x0_8] (kX7_packetsIn hN x0_8) rfl (gd_S gx342 gx343 gx39 gx344) rfl rfl (by decide) ⟨Nat.le_of_ble_eq_true rfl, Nat.le_of_ble_eq_true rfl⟩ rfl hl (Nat.le_of_ble_eq_true rfl) ⟨Nat.zero_le _, Nat.zero_le _⟩ dX11_packets_32 (fun H locs hW hS => ?_)
      refine lv_aload_n hx hb dX11_packets_35 rfl (lv_at hl 1 rfl) ?_
      refine gf11_8 hx hb hG hown hW (o := 0) (ltN hN 0 rfl) gk0 (v := .long x0_8) h_x0_8 gx41 dX11_packets_36 ?_
      refine lv_iload hx hb dX11_packets_39 (lv_at hl 0 rfl) ?_
      refine g_SiR (n := 2) hx hb hml hown hG hW hS [.long x0_8, .int (fX7_packetsAt ((2 * p1) + p2))] (kX7_digit hN x0_8 (fX7_packetsAt ((2 * p1) + p2))) rfl (gd_S gx319 gx320 gx39 gx321) rfl rfl (by decide) ⟨Nat.le_of_ble_eq_true rfl, Nat.le_of_ble_eq_true rfl⟩ rfl hl (Nat.le_of_ble_eq_true rfl) ⟨Nat.zero_le _, Nat.zero_le _⟩ dX11_packets_41 (fun H locs hW hS => ?_)
      refine lv_isub hx hb dX11_packets_44 ?_
      refine lv_istore (lv' := [(5, .int ((fX7_packetsIn x0_8) - (fX7_digit x0_8 (fX7_packetsAt ((2 * p1) + p2))))), (4, .int (fX7_packetsAt ((2 * p1) + p2))), (0, .ref (q 0)), (1, .int p1), (2, .int p2), (3, .int p3)]) hx hb dX11_packets_45 hl (by decide) rfl (fun ls hl => ?_)
      refine lv_iload_n hx hb dX11_packets_47 rfl (lv_at hl 5 rfl) ?_
      refine lv_aload_n hx hb dX11_packets_48 rfl (lv_at hl 2 rfl) ?_
      refine gf11_7 hx hb hG hown hW (o := 0) (ltN hN 0 rfl) gk0 (v := .ref (q kr)) ((hoff 7 rfl).trans hrf) gx40 dX11_packets_49 ?_
      refine gf7_0 hx hb hG hown hW (o := kr) hkr hgk (v := .int xkr_0) ((off_kr hoff hgk 0 rfl (by decide)).trans h_xkr_0) gx338 dX11_packets_52 ?_
      refine lv_iload hx hb dX11_packets_55 (lv_at hl 0 rfl) ?_
      refine lv_isub hx hb dX11_packets_57 ?_
      refine lv_icmp_le (tgt := 65) hx hb dX11_packets_58 (by decide) (fun c7 => ?_) (fun c7 => ?_)
      · rw [if_pos c7] at hs0
        refine lv_aload_n hx hb dX11_packets_65 rfl (lv_at hl 2 rfl) ?_
        refine lv_iload hx hb dX11_packets_66 (lv_at hl 1 rfl) ?_
        refine lv_iload_n hx hb dX11_packets_68 rfl (lv_at hl 5 rfl) ?_
        refine g_Vi (n := 2) hx hb hml hown hG hW hS [.int (fX7_packetsAt ((2 * p1) + p2)), .int p3] (kX11_put hN hsh h_x0_8 (fX7_packetsAt ((2 * p1) + p2)) p3) (ltN hN 0 rfl) gk0 (by decide) rfl rfl (gd_V gx315 gx316 gx317 gx2 gx318) rfl rfl (by decide) ⟨Nat.le_of_ble_eq_true rfl, Nat.le_of_ble_eq_true rfl⟩ rfl hl (Nat.le_of_ble_eq_true rfl) ⟨Nat.zero_le _, Nat.zero_le _⟩ dX11_packets_69 (fun x8 m8 a8 H locs hp8 hW hS => ?_)
        obtain ⟨hx8, hp8_x0_8, ho8, ha8⟩ := hp8
        subst hx8
        rw [ha8] at hW
        have w_x0_8 : m8 8 = .long ((fX11_put x0_8 (fX7_packetsAt ((2 * p1) + p2)) p3).2) := hp8_x0_8
        have hoff := offm hoff ho8 (by decide +kernel)
        have hsh := SH.off hsh ho8 (by decide +kernel)
        subst hs0
        exact W.zret hx hb hr rfl (fun t ht hw => ⟨⟨_, (m8, a0), rfl, ⟨rfl, w_x0_8, hoff, rfl⟩, g_end hW ht hw⟩, hS.F ht⟩) hS.2.2 dX11_packets_72 hlocks
      · rw [if_neg c7] at hs0
        refine lv_iconst (v := (-1)) hx hb dX11_packets_61 (by decide) ?_
        refine lv_goto (tgt := 72) hx hb dX11_packets_62 (by decide) ?_
        subst hs0
        exact W.zret hx hb hr rfl (fun t ht hw => ⟨⟨_, (m0, a0), rfl, ⟨rfl, h_x0_8, hoff, rfl⟩, g_end hW ht hw⟩, hS.F ht⟩) hS.2.2 dX11_packets_72 hlocks
    · rw [if_neg c3] at hs0
      refine lv_iconst (v := (-1)) hx hb dX11_packets_16 (by decide) ?_
      subst hs0
      exact W.zret hx hb hr rfl (fun t ht hw => ⟨⟨_, (m0, a0), rfl, ⟨rfl, h_x0_8, hoff, rfl⟩, g_end hW ht hw⟩, hS.F ht⟩) hS.2.2 dX11_packets_17 hlocks
-- HealLink.letters (II)I
def fX11_letters (xkr_0 : Int32) (xkr_1 : Int32) (x0_8 : Int64) (p1 : Int32) (p2 : Int32) : Int32 × Int64 := (if (fX7_hasLabel xkr_1 p1) = 0 then ((-1), x0_8) else (if 0 ≤ p2 then (if p2 ≤ (xkr_0 - ((fX7_lettersIn x0_8) - (fX7_digit x0_8 (fX7_lettersAt p1)))) then ((fX11_put x0_8 (fX7_lettersAt p1) p2).1, (fX11_put x0_8 (fX7_lettersAt p1) p2).2) else ((-1), x0_8)) else ((-1), x0_8)))
theorem dX11_letters_0 : decode cX11_letters 0 = .ok (.aload_n 0, 1) := by decide +kernel
theorem dX11_letters_1 : decode cX11_letters 1 = .ok (.getfield 56, 3) := by decide +kernel
theorem dX11_letters_4 : decode cX11_letters 4 = .ok (.iload_n 1, 1) := by decide +kernel
theorem dX11_letters_5 : decode cX11_letters 5 = .ok (.invokevirtual 113, 3) := by decide +kernel
theorem dX11_letters_8 : decode cX11_letters 8 = .ok (.ifCond .eq 7, 3) := by decide +kernel
theorem dX11_letters_11 : decode cX11_letters 11 = .ok (.iload_n 2, 1) := by decide +kernel
theorem dX11_letters_12 : decode cX11_letters 12 = .ok (.ifCond .ge 5, 3) := by decide +kernel
theorem dX11_letters_15 : decode cX11_letters 15 = .ok (.iconst (-1), 1) := by decide +kernel
theorem dX11_letters_16 : decode cX11_letters 16 = .ok (.ireturn, 1) := by decide +kernel
theorem dX11_letters_17 : decode cX11_letters 17 = .ok (.iload_n 1, 1) := by decide +kernel
theorem dX11_letters_18 : decode cX11_letters 18 = .ok (.invokestatic 148, 3) := by decide +kernel
theorem dX11_letters_21 : decode cX11_letters 21 = .ok (.istore_n 3, 1) := by decide +kernel
theorem dX11_letters_22 : decode cX11_letters 22 = .ok (.aload_n 0, 1) := by decide +kernel
theorem dX11_letters_23 : decode cX11_letters 23 = .ok (.getfield 64, 3) := by decide +kernel
theorem dX11_letters_26 : decode cX11_letters 26 = .ok (.invokestatic 151, 3) := by decide +kernel
theorem dX11_letters_29 : decode cX11_letters 29 = .ok (.aload_n 0, 1) := by decide +kernel
theorem dX11_letters_30 : decode cX11_letters 30 = .ok (.getfield 64, 3) := by decide +kernel
theorem dX11_letters_33 : decode cX11_letters 33 = .ok (.iload_n 3, 1) := by decide +kernel
theorem dX11_letters_34 : decode cX11_letters 34 = .ok (.invokestatic 141, 3) := by decide +kernel
theorem dX11_letters_37 : decode cX11_letters 37 = .ok (.isub, 1) := by decide +kernel
theorem dX11_letters_38 : decode cX11_letters 38 = .ok (.istore 4, 2) := by decide +kernel
theorem dX11_letters_40 : decode cX11_letters 40 = .ok (.iload_n 2, 1) := by decide +kernel
theorem dX11_letters_41 : decode cX11_letters 41 = .ok (.aload_n 0, 1) := by decide +kernel
theorem dX11_letters_42 : decode cX11_letters 42 = .ok (.getfield 56, 3) := by decide +kernel
theorem dX11_letters_45 : decode cX11_letters 45 = .ok (.getfield 145, 3) := by decide +kernel
theorem dX11_letters_48 : decode cX11_letters 48 = .ok (.iload 4, 2) := by decide +kernel
theorem dX11_letters_50 : decode cX11_letters 50 = .ok (.isub, 1) := by decide +kernel
theorem dX11_letters_51 : decode cX11_letters 51 = .ok (.if_icmp .le 7, 3) := by decide +kernel
theorem dX11_letters_54 : decode cX11_letters 54 = .ok (.iconst (-1), 1) := by decide +kernel
theorem dX11_letters_55 : decode cX11_letters 55 = .ok (.goto 9, 3) := by decide +kernel
theorem dX11_letters_58 : decode cX11_letters 58 = .ok (.aload_n 0, 1) := by decide +kernel
theorem dX11_letters_59 : decode cX11_letters 59 = .ok (.iload_n 3, 1) := by decide +kernel
theorem dX11_letters_60 : decode cX11_letters 60 = .ok (.iload_n 2, 1) := by decide +kernel
theorem dX11_letters_61 : decode cX11_letters 61 = .ok (.invokevirtual 131, 3) := by decide +kernel
theorem dX11_letters_64 : decode cX11_letters 64 = .ok (.ireturn, 1) := by decide +kernel
set_option maxHeartbeats 4000000 in
set_option maxRecDepth 100000 in
theorem kX11_letters {l : Launch} {D : va_G} {cy : Nat → ClassId} {N : Nat} {q : Nat → Nat} {m0 : Nat → Value} {a0 : Nat → vp_A} {sz : Nat} (hN : 105 ≤ N) (hsh : SH q m0) {kr : Nat} (hkr : kr < N) (hgk : gk kr = 7) (hrf : m0 7 = .ref (q kr)) {xkr_0 : Int32} (h_xkr_0 : m0 (100 * kr + 0) = .int xkr_0) {xkr_1 : Int32} (h_xkr_1 : m0 (100 * kr + 1) = .int xkr_1) {x0_8 : Int64} (h_x0_8 : m0 8 = .long x0_8) (p1 : Int32) (p2 : Int32) : gMi l yX11_letters cX11_letters 5 (some .int) ({ frames := 2, cells := 0, slots := 0, locals := 46 } : Room) D cy N q m0 a0 sz [.ref (q 0), .int p1, .int p2] (fun r m' a' => r = (fX11_letters xkr_0 xkr_1 x0_8 p1 p2).1 ∧ m' 8 = .long ((fX11_letters xkr_0 xkr_1 x0_8 p1 p2).2) ∧ (∀ j, nel j [8] = false → m' j = m0 j) ∧ a' = a0) := by
  generalize hs0 : fX11_letters xkr_0 xkr_1 x0_8 p1 p2 = X0
  refine g_ofi (by decide) (Nat.le_of_ble_eq_true rfl) ?_
  intro p e s M args below meth c hx hb hr hG hown hin hlocks hml hW hS ls hl
  unfold fX11_letters at hs0
  have hoff : ∀ j, nel j [8] = false → m0 j = m0 j := off0
  refine lv_aload_n hx hb dX11_letters_0 rfl (lv_at hl 0 rfl) ?_
  refine gf11_7 hx hb hG hown hW (o := 0) (ltN hN 0 rfl) gk0 (v := .ref (q kr)) ((hoff 7 rfl).trans hrf) gx40 dX11_letters_1 ?_
  refine lv_iload_n hx hb dX11_letters_4 rfl (lv_at hl 1 rfl) ?_
  refine g_ViR (n := 1) hx hb hml hown hG hW hS [.int p1] (kX7_hasLabel hN hkr hgk ((off_kr hoff hgk 1 rfl (by decide)).trans h_xkr_1) p1) hkr hgk (by decide) rfl rfl (gd_V gx292 gx268 gx269 gx39 gx270) rfl rfl (by decide) ⟨Nat.le_of_ble_eq_true rfl, Nat.le_of_ble_eq_true rfl⟩ rfl hl (Nat.le_of_ble_eq_true rfl) ⟨Nat.zero_le _, Nat.zero_le _⟩ dX11_letters_5 (fun H locs hW hS => ?_)
  refine lv_if_eq (tgt := 15) hx hb dX11_letters_8 (by decide) (fun c2 => ?_) (fun c2 => ?_)
  · rw [if_pos c2] at hs0
    refine lv_iconst (v := (-1)) hx hb dX11_letters_15 (by decide) ?_
    subst hs0
    exact W.zret hx hb hr rfl (fun t ht hw => ⟨⟨_, (m0, a0), rfl, ⟨rfl, h_x0_8, hoff, rfl⟩, g_end hW ht hw⟩, hS.F ht⟩) hS.2.2 dX11_letters_16 hlocks
  · rw [if_neg c2] at hs0
    refine lv_iload_n hx hb dX11_letters_11 rfl (lv_at hl 2 rfl) ?_
    refine lv_if_ge (tgt := 17) hx hb dX11_letters_12 (by decide) (fun c3 => ?_) (fun c3 => ?_)
    · rw [if_pos c3] at hs0
      refine lv_iload_n hx hb dX11_letters_17 rfl (lv_at hl 1 rfl) ?_
      refine g_SiR (n := 1) hx hb hml hown hG hW hS [.int p1] (kX7_lettersAt hN p1) rfl (gd_S gx368 gx369 gx39 gx370) rfl rfl (by decide) ⟨Nat.le_of_ble_eq_true rfl, Nat.le_of_ble_eq_true rfl⟩ rfl hl (Nat.le_of_ble_eq_true rfl) ⟨Nat.zero_le _, Nat.zero_le _⟩ dX11_letters_18 (fun H locs hW hS => ?_)
      refine lv_istore_n (lv' := [(3, .int (fX7_lettersAt p1)), (0, .ref (q 0)), (1, .int p1), (2, .int p2)]) hx hb dX11_letters_21 rfl hl (by decide) rfl (fun ls hl => ?_)
      refine lv_aload_n hx hb dX11_letters_22 rfl (lv_at hl 1 rfl) ?_
      refine gf11_8 hx hb hG hown hW (o := 0) (ltN hN 0 rfl) gk0 (v := .long x0_8) h_x0_8 gx41 dX11_letters_23 ?_
      refine g_SiR (n := 1) hx hb hml hown hG hW hS [.long x0_8] (kX7_lettersIn hN x0_8) rfl (gd_S gx371 gx372 gx39 gx373) rfl rfl (by decide) ⟨Nat.le_of_ble_eq_true rfl, Nat.le_of_ble_eq_true rfl⟩ rfl hl (Nat.le_of_ble_eq_true rfl) ⟨Nat.zero_le _, Nat.zero_le _⟩ dX11_letters_26 (fun H locs hW hS => ?_)
      refine lv_aload_n hx hb dX11_letters_29 rfl (lv_at hl 1 rfl) ?_
      refine gf11_8 hx hb hG hown hW (o := 0) (ltN hN 0 rfl) gk0 (v := .long x0_8) h_x0_8 gx41 dX11_letters_30 ?_
      refine lv_iload_n hx hb dX11_letters_33 rfl (lv_at hl 0 rfl) ?_
      refine g_SiR (n := 2) hx hb hml hown hG hW hS [.long x0_8, .int (fX7_lettersAt p1)] (kX7_digit hN x0_8 (fX7_lettersAt p1)) rfl (gd_S gx319 gx320 gx39 gx321) rfl rfl (by decide) ⟨Nat.le_of_ble_eq_true rfl, Nat.le_of_ble_eq_true rfl⟩ rfl hl (Nat.le_of_ble_eq_true rfl) ⟨Nat.zero_le _, Nat.zero_le _⟩ dX11_letters_34 (fun H locs hW hS => ?_)
      refine lv_isub hx hb dX11_letters_37 ?_
      refine lv_istore (lv' := [(4, .int ((fX7_lettersIn x0_8) - (fX7_digit x0_8 (fX7_lettersAt p1)))), (3, .int (fX7_lettersAt p1)), (0, .ref (q 0)), (1, .int p1), (2, .int p2)]) hx hb dX11_letters_38 hl (by decide) rfl (fun ls hl => ?_)
      refine lv_iload_n hx hb dX11_letters_40 rfl (lv_at hl 4 rfl) ?_
      refine lv_aload_n hx hb dX11_letters_41 rfl (lv_at hl 2 rfl) ?_
      refine gf11_7 hx hb hG hown hW (o := 0) (ltN hN 0 rfl) gk0 (v := .ref (q kr)) ((hoff 7 rfl).trans hrf) gx40 dX11_letters_42 ?_
      refine gf7_0 hx hb hG hown hW (o := kr) hkr hgk (v := .int xkr_0) ((off_kr hoff hgk 0 rfl (by decide)).trans h_xkr_0) gx338 dX11_letters_45 ?_
      refine lv_iload hx hb dX11_letters_48 (lv_at hl 0 rfl) ?_
      refine lv_isub hx hb dX11_letters_50 ?_
      refine lv_icmp_le (tgt := 58) hx hb dX11_letters_51 (by decide) (fun c7 => ?_) (fun c7 => ?_)
      · rw [if_pos c7] at hs0
        refine lv_aload_n hx hb dX11_letters_58 rfl (lv_at hl 2 rfl) ?_
        refine lv_iload_n hx hb dX11_letters_59 rfl (lv_at hl 1 rfl) ?_
        refine lv_iload_n hx hb dX11_letters_60 rfl (lv_at hl 4 rfl) ?_
        refine g_Vi (n := 2) hx hb hml hown hG hW hS [.int (fX7_lettersAt p1), .int p2] (kX11_put hN hsh h_x0_8 (fX7_lettersAt p1) p2) (ltN hN 0 rfl) gk0 (by decide) rfl rfl (gd_V gx315 gx316 gx317 gx2 gx318) rfl rfl (by decide) ⟨Nat.le_of_ble_eq_true rfl, Nat.le_of_ble_eq_true rfl⟩ rfl hl (Nat.le_of_ble_eq_true rfl) ⟨Nat.zero_le _, Nat.zero_le _⟩ dX11_letters_61 (fun x8 m8 a8 H locs hp8 hW hS => ?_)
        obtain ⟨hx8, hp8_x0_8, ho8, ha8⟩ := hp8
        subst hx8
        rw [ha8] at hW
        have w_x0_8 : m8 8 = .long ((fX11_put x0_8 (fX7_lettersAt p1) p2).2) := hp8_x0_8
        have hoff := offm hoff ho8 (by decide +kernel)
        have hsh := SH.off hsh ho8 (by decide +kernel)
        subst hs0
        exact W.zret hx hb hr rfl (fun t ht hw => ⟨⟨_, (m8, a0), rfl, ⟨rfl, w_x0_8, hoff, rfl⟩, g_end hW ht hw⟩, hS.F ht⟩) hS.2.2 dX11_letters_64 hlocks
      · rw [if_neg c7] at hs0
        refine lv_iconst (v := (-1)) hx hb dX11_letters_54 (by decide) ?_
        refine lv_goto (tgt := 64) hx hb dX11_letters_55 (by decide) ?_
        subst hs0
        exact W.zret hx hb hr rfl (fun t ht hw => ⟨⟨_, (m0, a0), rfl, ⟨rfl, h_x0_8, hoff, rfl⟩, g_end hW ht hw⟩, hS.F ht⟩) hS.2.2 dX11_letters_64 hlocks
    · rw [if_neg c3] at hs0
      refine lv_iconst (v := (-1)) hx hb dX11_letters_15 (by decide) ?_
      subst hs0
      exact W.zret hx hb hr rfl (fun t ht hw => ⟨⟨_, (m0, a0), rfl, ⟨rfl, h_x0_8, hoff, rfl⟩, g_end hW ht hw⟩, hS.F ht⟩) hS.2.2 dX11_letters_16 hlocks
-- HealLink.perform (I)I
def fX11_perform_J220 (xkr_0 : Int32) (xkr_1 : Int32) (xkr_2 : Int32) (xkr_3 : Int32) (v6j34 : Int32) (s0j34 : Int32) (s1j34 : Int32) (s2j34 : Int32) (x0_8j34 : Int64) (x0_9j34 : Int32) (x0_10j34 : Int32) (x2_0j34 : Int32) (x2_1j34 : Int64) (x5_0j34 : Int32) (x5_1j34 : Int64) (A1j34 : Nat → Int32) : Option (Int32 × Int64 × Int32 × Int32 × Int32 × Int64 × Int32 × Int64 × (Nat → Int32)) := (if inb s2j34 8 = true then some (v6j34, x0_8j34, x0_9j34, x0_10j34, x2_0j34, x2_1j34, x5_0j34, x5_1j34, upd A1j34 s2j34.toNatClampNeg (s1j34 + s0j34)) else none)
def fX11_perform_J194 (xkr_0 : Int32) (xkr_1 : Int32) (xkr_2 : Int32) (xkr_3 : Int32) (v4j26 : Int64) (v6j26 : Int32) (s0j26 : Int32) (s1j26 : Int32) (s2j26 : Int32) (x0_8j26 : Int64) (x0_9j26 : Int32) (x0_10j26 : Int32) (x2_0j26 : Int32) (x2_1j26 : Int64) (x5_0j26 : Int32) (x5_1j26 : Int64) (A1j26 : Nat → Int32) : Option (Int32 × Int64 × Int32 × Int32 × Int32 × Int64 × Int32 × Int64 × (Nat → Int32)) := (if inb s2j26 8 = true then (if (lg_cmp (v4j26 &&& (144115188075855872 : Int64)) 0) = 0 then fX11_perform_J220 xkr_0 xkr_1 xkr_2 xkr_3 v6j26 0 ((upd A1j26 s2j26.toNatClampNeg (s1j26 + s0j26)) (7 : Int32).toNatClampNeg) 7 x0_8j26 x0_9j26 x0_10j26 x2_0j26 x2_1j26 x5_0j26 x5_1j26 (upd A1j26 s2j26.toNatClampNeg (s1j26 + s0j26)) else fX11_perform_J220 xkr_0 xkr_1 xkr_2 xkr_3 v6j26 1 ((upd A1j26 s2j26.toNatClampNeg (s1j26 + s0j26)) (7 : Int32).toNatClampNeg) 7 x0_8j26 x0_9j26 x0_10j26 x2_0j26 x2_1j26 x5_0j26 x5_1j26 (upd A1j26 s2j26.toNatClampNeg (s1j26 + s0j26))) else none)
def fX11_perform_J170 (xkr_0 : Int32) (xkr_1 : Int32) (xkr_2 : Int32) (xkr_3 : Int32) (v4j16 : Int64) (v6j16 : Int32) (x0_8j16 : Int64) (x0_9j16 : Int32) (x0_10j16 : Int32) (x2_0j16 : Int32) (x2_1j16 : Int64) (x5_0j16 : Int32) (x5_1j16 : Int64) (A1j16 : Nat → Int32) : Option (Int32 × Int64 × Int32 × Int32 × Int32 × Int64 × Int32 × Int64 × (Nat → Int32)) := (if (lg_cmp (v4j16 &&& (72057594037927936 : Int64)) 0) = 0 then fX11_perform_J194 xkr_0 xkr_1 xkr_2 xkr_3 v4j16 v6j16 0 (A1j16 (6 : Int32).toNatClampNeg) 6 x0_8j16 x0_9j16 x0_10j16 x2_0j16 x2_1j16 x5_0j16 x5_1j16 A1j16 else fX11_perform_J194 xkr_0 xkr_1 xkr_2 xkr_3 v4j16 v6j16 1 (A1j16 (6 : Int32).toNatClampNeg) 6 x0_8j16 x0_9j16 x0_10j16 x2_0j16 x2_1j16 x5_0j16 x5_1j16 A1j16)
def fX11_perform_J156 (xkr_0 : Int32) (xkr_1 : Int32) (xkr_2 : Int32) (xkr_3 : Int32) (v3j24 : Int32) (v4j24 : Int64) (v6j24 : Int32) (s0j24 : Int32) (s1j24 : Int32) (s2j24 : Int32) (x0_8j24 : Int64) (x0_9j24 : Int32) (x0_10j24 : Int32) (x2_0j24 : Int32) (x2_1j24 : Int64) (x5_0j24 : Int32) (x5_1j24 : Int64) (A1j24 : Nat → Int32) : Option (Int32 × Int64 × Int32 × Int32 × Int32 × Int64 × Int32 × Int64 × (Nat → Int32)) := (if inb s2j24 8 = true then fX11_perform_J170 xkr_0 xkr_1 xkr_2 xkr_3 v4j24 v6j24 x0_8j24 ((fX11_takeFromQueue x0_9j24 x0_10j24).1) ((fX11_takeFromQueue x0_9j24 x0_10j24).2) ((fX6_add x2_0j24 x2_1j24 v3j24).1) ((fX6_add x2_0j24 x2_1j24 v3j24).2) x5_0j24 x5_1j24 (upd A1j24 s2j24.toNatClampNeg (s1j24 + s0j24)) else none)
def fX11_perform_J128 (xkr_0 : Int32) (xkr_1 : Int32) (xkr_2 : Int32) (xkr_3 : Int32) (v3j14 : Int32) (v4j14 : Int64) (v6j14 : Int32) (x0_8j14 : Int64) (x0_9j14 : Int32) (x0_10j14 : Int32) (x2_0j14 : Int32) (x2_1j14 : Int64) (x5_0j14 : Int32) (x5_1j14 : Int64) (A1j14 : Nat → Int32) : Option (Int32 × Int64 × Int32 × Int32 × Int32 × Int64 × Int32 × Int64 × (Nat → Int32)) := (if v6j14 = 5 then fX11_perform_J156 xkr_0 xkr_1 xkr_2 xkr_3 v3j14 v4j14 v6j14 1 ((upd A1j14 (5 : Int32).toNatClampNeg ((A1j14 (5 : Int32).toNatClampNeg) + 1)) (4 : Int32).toNatClampNeg) 4 x0_8j14 x0_9j14 x0_10j14 x2_0j14 x2_1j14 x5_0j14 x5_1j14 (upd A1j14 (5 : Int32).toNatClampNeg ((A1j14 (5 : Int32).toNatClampNeg) + 1)) else fX11_perform_J156 xkr_0 xkr_1 xkr_2 xkr_3 v3j14 v4j14 v6j14 0 ((upd A1j14 (5 : Int32).toNatClampNeg ((A1j14 (5 : Int32).toNatClampNeg) + 1)) (4 : Int32).toNatClampNeg) 4 x0_8j14 x0_9j14 x0_10j14 x2_0j14 x2_1j14 x5_0j14 x5_1j14 (upd A1j14 (5 : Int32).toNatClampNeg ((A1j14 (5 : Int32).toNatClampNeg) + 1)))
def fX11_perform_J89 (xkr_0 : Int32) (xkr_1 : Int32) (xkr_2 : Int32) (xkr_3 : Int32) (v1j10 : Int32) (v4j10 : Int64) (v6j10 : Int32) (x0_8j10 : Int64) (x0_9j10 : Int32) (x0_10j10 : Int32) (x2_0j10 : Int32) (x2_1j10 : Int64) (x5_0j10 : Int32) (x5_1j10 : Int64) (A1j10 : Nat → Int32) : Option (Int32 × Int64 × Int32 × Int32 × Int32 × Int64 × Int32 × Int64 × (Nat → Int32)) := (if inb v6j10 8 = true then (if inb v6j10 8 = true then fX11_perform_J170 xkr_0 xkr_1 xkr_2 xkr_3 v4j10 v6j10 x0_8j10 x0_9j10 x0_10j10 x2_0j10 x2_1j10 ((fX6_add x5_0j10 x5_1j10 ((fX0_kindOf v1j10) &&& (1 : Int32))).1) ((fX6_add x5_0j10 x5_1j10 ((fX0_kindOf v1j10) &&& (1 : Int32))).2) (upd A1j10 v6j10.toNatClampNeg ((A1j10 v6j10.toNatClampNeg) + 1)) else none) else none)
def fX11_perform_J17 (xkr_0 : Int32) (xkr_1 : Int32) (xkr_2 : Int32) (xkr_3 : Int32) (v1j2 : Int32) (s0j2 : Int32) (x0_8j2 : Int64) (x0_9j2 : Int32) (x0_10j2 : Int32) (x2_0j2 : Int32) (x2_1j2 : Int64) (x5_0j2 : Int32) (x5_1j2 : Int64) (A1j2 : Nat → Int32) : Option (Int32 × Int64 × Int32 × Int32 × Int32 × Int64 × Int32 × Int64 × (Nat → Int32)) := (if (fX7_outcomeOf (fX7_after xkr_0 xkr_1 xkr_2 xkr_3 x0_8j2 (fX0_withTold v1j2 s0j2))) = 1 then fX11_perform_J89 xkr_0 xkr_1 xkr_2 xkr_3 v1j2 (fX7_after xkr_0 xkr_1 xkr_2 xkr_3 x0_8j2 (fX0_withTold v1j2 s0j2)) (fX7_outcomeOf (fX7_after xkr_0 xkr_1 xkr_2 xkr_3 x0_8j2 (fX0_withTold v1j2 s0j2))) ((fX7_after xkr_0 xkr_1 xkr_2 xkr_3 x0_8j2 (fX0_withTold v1j2 s0j2)) &&& (562949953421311 : Int64)) x0_9j2 x0_10j2 x2_0j2 x2_1j2 x5_0j2 x5_1j2 (upd A1j2 (0 : Int32).toNatClampNeg ((A1j2 (0 : Int32).toNatClampNeg) + 1)) else (if (fX7_outcomeOf (fX7_after xkr_0 xkr_1 xkr_2 xkr_3 x0_8j2 (fX0_withTold v1j2 s0j2))) = 2 then fX11_perform_J89 xkr_0 xkr_1 xkr_2 xkr_3 v1j2 (fX7_after xkr_0 xkr_1 xkr_2 xkr_3 x0_8j2 (fX0_withTold v1j2 s0j2)) (fX7_outcomeOf (fX7_after xkr_0 xkr_1 xkr_2 xkr_3 x0_8j2 (fX0_withTold v1j2 s0j2))) ((fX7_after xkr_0 xkr_1 xkr_2 xkr_3 x0_8j2 (fX0_withTold v1j2 s0j2)) &&& (562949953421311 : Int64)) x0_9j2 x0_10j2 x2_0j2 x2_1j2 x5_0j2 x5_1j2 (upd A1j2 (0 : Int32).toNatClampNeg ((A1j2 (0 : Int32).toNatClampNeg) + 1)) else (if (fX7_outcomeOf (fX7_after xkr_0 xkr_1 xkr_2 xkr_3 x0_8j2 (fX0_withTold v1j2 s0j2))) = 3 then fX11_perform_J89 xkr_0 xkr_1 xkr_2 xkr_3 v1j2 (fX7_after xkr_0 xkr_1 xkr_2 xkr_3 x0_8j2 (fX0_withTold v1j2 s0j2)) (fX7_outcomeOf (fX7_after xkr_0 xkr_1 xkr_2 xkr_3 x0_8j2 (fX0_withTold v1j2 s0j2))) ((fX7_after xkr_0 xkr_1 xkr_2 xkr_3 x0_8j2 (fX0_withTold v1j2 s0j2)) &&& (562949953421311 : Int64)) x0_9j2 x0_10j2 x2_0j2 x2_1j2 x5_0j2 x5_1j2 (upd A1j2 (0 : Int32).toNatClampNeg ((A1j2 (0 : Int32).toNatClampNeg) + 1)) else (if (fX7_outcomeOf (fX7_after xkr_0 xkr_1 xkr_2 xkr_3 x0_8j2 (fX0_withTold v1j2 s0j2))) = 4 then fX11_perform_J128 xkr_0 xkr_1 xkr_2 xkr_3 (fX7_valueOf x0_8j2) (fX7_after xkr_0 xkr_1 xkr_2 xkr_3 x0_8j2 (fX0_withTold v1j2 s0j2)) (fX7_outcomeOf (fX7_after xkr_0 xkr_1 xkr_2 xkr_3 x0_8j2 (fX0_withTold v1j2 s0j2))) ((fX7_after xkr_0 xkr_1 xkr_2 xkr_3 x0_8j2 (fX0_withTold v1j2 s0j2)) &&& (562949953421311 : Int64)) x0_9j2 x0_10j2 x2_0j2 x2_1j2 x5_0j2 x5_1j2 (upd A1j2 (0 : Int32).toNatClampNeg ((A1j2 (0 : Int32).toNatClampNeg) + 1)) else (if (fX7_outcomeOf (fX7_after xkr_0 xkr_1 xkr_2 xkr_3 x0_8j2 (fX0_withTold v1j2 s0j2))) = 5 then fX11_perform_J128 xkr_0 xkr_1 xkr_2 xkr_3 (fX7_valueOf x0_8j2) (fX7_after xkr_0 xkr_1 xkr_2 xkr_3 x0_8j2 (fX0_withTold v1j2 s0j2)) (fX7_outcomeOf (fX7_after xkr_0 xkr_1 xkr_2 xkr_3 x0_8j2 (fX0_withTold v1j2 s0j2))) ((fX7_after xkr_0 xkr_1 xkr_2 xkr_3 x0_8j2 (fX0_withTold v1j2 s0j2)) &&& (562949953421311 : Int64)) x0_9j2 x0_10j2 x2_0j2 x2_1j2 x5_0j2 x5_1j2 (upd A1j2 (0 : Int32).toNatClampNeg ((A1j2 (0 : Int32).toNatClampNeg) + 1)) else fX11_perform_J170 xkr_0 xkr_1 xkr_2 xkr_3 (fX7_after xkr_0 xkr_1 xkr_2 xkr_3 x0_8j2 (fX0_withTold v1j2 s0j2)) (fX7_outcomeOf (fX7_after xkr_0 xkr_1 xkr_2 xkr_3 x0_8j2 (fX0_withTold v1j2 s0j2))) ((fX7_after xkr_0 xkr_1 xkr_2 xkr_3 x0_8j2 (fX0_withTold v1j2 s0j2)) &&& (562949953421311 : Int64)) x0_9j2 x0_10j2 x2_0j2 x2_1j2 x5_0j2 x5_1j2 (upd A1j2 (0 : Int32).toNatClampNeg ((A1j2 (0 : Int32).toNatClampNeg) + 1)))))))
def fX11_perform (xkr_0 : Int32) (xkr_1 : Int32) (xkr_2 : Int32) (xkr_3 : Int32) (x0_8 : Int64) (x0_9 : Int32) (x0_10 : Int32) (x2_0 : Int32) (x2_1 : Int64) (x5_0 : Int32) (x5_1 : Int64) (A1 : Nat → Int32) (p1 : Int32) : Option (Int32 × Int64 × Int32 × Int32 × Int32 × Int64 × Int32 × Int64 × (Nat → Int32)) := (if x0_10 ≤ 0 then fX11_perform_J17 xkr_0 xkr_1 xkr_2 xkr_3 p1 0 x0_8 x0_9 x0_10 x2_0 x2_1 x5_0 x5_1 A1 else fX11_perform_J17 xkr_0 xkr_1 xkr_2 xkr_3 p1 (x0_9 &&& (1 : Int32)) x0_8 x0_9 x0_10 x2_0 x2_1 x5_0 x5_1 A1)
theorem dX11_perform_0 : decode cX11_perform 0 = .ok (.aload_n 0, 1) := by decide +kernel
theorem dX11_perform_1 : decode cX11_perform 1 = .ok (.getfield 84, 3) := by decide +kernel
theorem dX11_perform_4 : decode cX11_perform 4 = .ok (.ifCond .le 12, 3) := by decide +kernel
theorem dX11_perform_7 : decode cX11_perform 7 = .ok (.aload_n 0, 1) := by decide +kernel
theorem dX11_perform_8 : decode cX11_perform 8 = .ok (.getfield 80, 3) := by decide +kernel
theorem dX11_perform_11 : decode cX11_perform 11 = .ok (.iconst 1, 1) := by decide +kernel
theorem dX11_perform_12 : decode cX11_perform 12 = .ok (.iand, 1) := by decide +kernel
theorem dX11_perform_13 : decode cX11_perform 13 = .ok (.goto 4, 3) := by decide +kernel
theorem dX11_perform_16 : decode cX11_perform 16 = .ok (.iconst 0, 1) := by decide +kernel
theorem dX11_perform_17 : decode cX11_perform 17 = .ok (.istore_n 2, 1) := by decide +kernel
theorem dX11_perform_18 : decode cX11_perform 18 = .ok (.aload_n 0, 1) := by decide +kernel
theorem dX11_perform_19 : decode cX11_perform 19 = .ok (.getfield 64, 3) := by decide +kernel
theorem dX11_perform_22 : decode cX11_perform 22 = .ok (.invokestatic 192, 3) := by decide +kernel
theorem dX11_perform_25 : decode cX11_perform 25 = .ok (.istore_n 3, 1) := by decide +kernel
theorem dX11_perform_26 : decode cX11_perform 26 = .ok (.aload_n 0, 1) := by decide +kernel
theorem dX11_perform_27 : decode cX11_perform 27 = .ok (.getfield 56, 3) := by decide +kernel
theorem dX11_perform_30 : decode cX11_perform 30 = .ok (.aload_n 0, 1) := by decide +kernel
theorem dX11_perform_31 : decode cX11_perform 31 = .ok (.getfield 64, 3) := by decide +kernel
theorem dX11_perform_34 : decode cX11_perform 34 = .ok (.iload_n 1, 1) := by decide +kernel
theorem dX11_perform_35 : decode cX11_perform 35 = .ok (.iload_n 2, 1) := by decide +kernel
theorem dX11_perform_36 : decode cX11_perform 36 = .ok (.invokestatic 303, 3) := by decide +kernel
theorem dX11_perform_39 : decode cX11_perform 39 = .ok (.invokevirtual 306, 3) := by decide +kernel
theorem dX11_perform_42 : decode cX11_perform 42 = .ok (.lstore 4, 2) := by decide +kernel
theorem dX11_perform_44 : decode cX11_perform 44 = .ok (.lload 4, 2) := by decide +kernel
theorem dX11_perform_46 : decode cX11_perform 46 = .ok (.invokestatic 309, 3) := by decide +kernel
theorem dX11_perform_49 : decode cX11_perform 49 = .ok (.istore 6, 2) := by decide +kernel
theorem dX11_perform_51 : decode cX11_perform 51 = .ok (.aload_n 0, 1) := by decide +kernel
theorem dX11_perform_52 : decode cX11_perform 52 = .ok (.lload 4, 2) := by decide +kernel
theorem dX11_perform_54 : decode cX11_perform 54 = .ok (.ldc2_w 312, 3) := by decide +kernel
theorem dX11_perform_57 : decode cX11_perform 57 = .ok (.land, 1) := by decide +kernel
theorem dX11_perform_58 : decode cX11_perform 58 = .ok (.putfield 64, 3) := by decide +kernel
theorem dX11_perform_61 : decode cX11_perform 61 = .ok (.aload_n 0, 1) := by decide +kernel
theorem dX11_perform_62 : decode cX11_perform 62 = .ok (.getfield 7, 3) := by decide +kernel
theorem dX11_perform_65 : decode cX11_perform 65 = .ok (.iconst 0, 1) := by decide +kernel
theorem dX11_perform_66 : decode cX11_perform 66 = .ok (.dup2, 1) := by decide +kernel
theorem dX11_perform_67 : decode cX11_perform 67 = .ok (.iaload, 1) := by decide +kernel
theorem dX11_perform_68 : decode cX11_perform 68 = .ok (.iconst 1, 1) := by decide +kernel
theorem dX11_perform_69 : decode cX11_perform 69 = .ok (.iadd, 1) := by decide +kernel
theorem dX11_perform_70 : decode cX11_perform 70 = .ok (.iastore, 1) := by decide +kernel
theorem dX11_perform_71 : decode cX11_perform 71 = .ok (.iload 6, 2) := by decide +kernel
theorem dX11_perform_73 : decode cX11_perform 73 = .ok (.iconst 1, 1) := by decide +kernel
theorem dX11_perform_74 : decode cX11_perform 74 = .ok (.if_icmp .eq 15, 3) := by decide +kernel
theorem dX11_perform_77 : decode cX11_perform 77 = .ok (.iload 6, 2) := by decide +kernel
theorem dX11_perform_79 : decode cX11_perform 79 = .ok (.iconst 2, 1) := by decide +kernel
theorem dX11_perform_80 : decode cX11_perform 80 = .ok (.if_icmp .eq 9, 3) := by decide +kernel
theorem dX11_perform_83 : decode cX11_perform 83 = .ok (.iload 6, 2) := by decide +kernel
theorem dX11_perform_85 : decode cX11_perform 85 = .ok (.iconst 3, 1) := by decide +kernel
theorem dX11_perform_86 : decode cX11_perform 86 = .ok (.if_icmp .ne 30, 3) := by decide +kernel
theorem dX11_perform_89 : decode cX11_perform 89 = .ok (.aload_n 0, 1) := by decide +kernel
theorem dX11_perform_90 : decode cX11_perform 90 = .ok (.getfield 7, 3) := by decide +kernel
theorem dX11_perform_93 : decode cX11_perform 93 = .ok (.iload 6, 2) := by decide +kernel
theorem dX11_perform_95 : decode cX11_perform 95 = .ok (.dup2, 1) := by decide +kernel
theorem dX11_perform_96 : decode cX11_perform 96 = .ok (.iaload, 1) := by decide +kernel
theorem dX11_perform_97 : decode cX11_perform 97 = .ok (.iconst 1, 1) := by decide +kernel
theorem dX11_perform_98 : decode cX11_perform 98 = .ok (.iadd, 1) := by decide +kernel
theorem dX11_perform_99 : decode cX11_perform 99 = .ok (.iastore, 1) := by decide +kernel
theorem dX11_perform_100 : decode cX11_perform 100 = .ok (.aload_n 0, 1) := by decide +kernel
theorem dX11_perform_101 : decode cX11_perform 101 = .ok (.getfield 20, 3) := by decide +kernel
theorem dX11_perform_104 : decode cX11_perform 104 = .ok (.iload_n 1, 1) := by decide +kernel
theorem dX11_perform_105 : decode cX11_perform 105 = .ok (.invokestatic 314, 3) := by decide +kernel
theorem dX11_perform_108 : decode cX11_perform 108 = .ok (.iconst 1, 1) := by decide +kernel
theorem dX11_perform_109 : decode cX11_perform 109 = .ok (.iand, 1) := by decide +kernel
theorem dX11_perform_110 : decode cX11_perform 110 = .ok (.invokevirtual 317, 3) := by decide +kernel
theorem dX11_perform_113 : decode cX11_perform 113 = .ok (.goto 57, 3) := by decide +kernel
theorem dX11_perform_116 : decode cX11_perform 116 = .ok (.iload 6, 2) := by decide +kernel
theorem dX11_perform_118 : decode cX11_perform 118 = .ok (.iconst 4, 1) := by decide +kernel
theorem dX11_perform_119 : decode cX11_perform 119 = .ok (.if_icmp .eq 9, 3) := by decide +kernel
theorem dX11_perform_122 : decode cX11_perform 122 = .ok (.iload 6, 2) := by decide +kernel
theorem dX11_perform_124 : decode cX11_perform 124 = .ok (.iconst 5, 1) := by decide +kernel
theorem dX11_perform_125 : decode cX11_perform 125 = .ok (.if_icmp .ne 45, 3) := by decide +kernel
theorem dX11_perform_128 : decode cX11_perform 128 = .ok (.aload_n 0, 1) := by decide +kernel
theorem dX11_perform_129 : decode cX11_perform 129 = .ok (.getfield 7, 3) := by decide +kernel
theorem dX11_perform_132 : decode cX11_perform 132 = .ok (.iconst 5, 1) := by decide +kernel
theorem dX11_perform_133 : decode cX11_perform 133 = .ok (.dup2, 1) := by decide +kernel
theorem dX11_perform_134 : decode cX11_perform 134 = .ok (.iaload, 1) := by decide +kernel
theorem dX11_perform_135 : decode cX11_perform 135 = .ok (.iconst 1, 1) := by decide +kernel
theorem dX11_perform_136 : decode cX11_perform 136 = .ok (.iadd, 1) := by decide +kernel
theorem dX11_perform_137 : decode cX11_perform 137 = .ok (.iastore, 1) := by decide +kernel
theorem dX11_perform_138 : decode cX11_perform 138 = .ok (.aload_n 0, 1) := by decide +kernel
theorem dX11_perform_139 : decode cX11_perform 139 = .ok (.getfield 7, 3) := by decide +kernel
theorem dX11_perform_142 : decode cX11_perform 142 = .ok (.iconst 4, 1) := by decide +kernel
theorem dX11_perform_143 : decode cX11_perform 143 = .ok (.dup2, 1) := by decide +kernel
theorem dX11_perform_144 : decode cX11_perform 144 = .ok (.iaload, 1) := by decide +kernel
theorem dX11_perform_145 : decode cX11_perform 145 = .ok (.iload 6, 2) := by decide +kernel
theorem dX11_perform_147 : decode cX11_perform 147 = .ok (.iconst 5, 1) := by decide +kernel
theorem dX11_perform_148 : decode cX11_perform 148 = .ok (.if_icmp .ne 7, 3) := by decide +kernel
theorem dX11_perform_151 : decode cX11_perform 151 = .ok (.iconst 1, 1) := by decide +kernel
theorem dX11_perform_152 : decode cX11_perform 152 = .ok (.goto 4, 3) := by decide +kernel
theorem dX11_perform_155 : decode cX11_perform 155 = .ok (.iconst 0, 1) := by decide +kernel
theorem dX11_perform_156 : decode cX11_perform 156 = .ok (.iadd, 1) := by decide +kernel
theorem dX11_perform_157 : decode cX11_perform 157 = .ok (.iastore, 1) := by decide +kernel
theorem dX11_perform_158 : decode cX11_perform 158 = .ok (.aload_n 0, 1) := by decide +kernel
theorem dX11_perform_159 : decode cX11_perform 159 = .ok (.getfield 16, 3) := by decide +kernel
theorem dX11_perform_162 : decode cX11_perform 162 = .ok (.iload_n 3, 1) := by decide +kernel
theorem dX11_perform_163 : decode cX11_perform 163 = .ok (.invokevirtual 317, 3) := by decide +kernel
theorem dX11_perform_166 : decode cX11_perform 166 = .ok (.aload_n 0, 1) := by decide +kernel
theorem dX11_perform_167 : decode cX11_perform 167 = .ok (.invokevirtual 321, 3) := by decide +kernel
theorem dX11_perform_170 : decode cX11_perform 170 = .ok (.aload_n 0, 1) := by decide +kernel
theorem dX11_perform_171 : decode cX11_perform 171 = .ok (.getfield 7, 3) := by decide +kernel
theorem dX11_perform_174 : decode cX11_perform 174 = .ok (.bipush 6, 2) := by decide +kernel
theorem dX11_perform_176 : decode cX11_perform 176 = .ok (.dup2, 1) := by decide +kernel
theorem dX11_perform_177 : decode cX11_perform 177 = .ok (.iaload, 1) := by decide +kernel
theorem dX11_perform_178 : decode cX11_perform 178 = .ok (.lload 4, 2) := by decide +kernel
theorem dX11_perform_180 : decode cX11_perform 180 = .ok (.ldc2_w 324, 3) := by decide +kernel
theorem dX11_perform_183 : decode cX11_perform 183 = .ok (.land, 1) := by decide +kernel
theorem dX11_perform_184 : decode cX11_perform 184 = .ok (.lconst 0, 1) := by decide +kernel
theorem dX11_perform_185 : decode cX11_perform 185 = .ok (.lcmp, 1) := by decide +kernel
theorem dX11_perform_186 : decode cX11_perform 186 = .ok (.ifCond .eq 7, 3) := by decide +kernel
theorem dX11_perform_189 : decode cX11_perform 189 = .ok (.iconst 1, 1) := by decide +kernel
theorem dX11_perform_190 : decode cX11_perform 190 = .ok (.goto 4, 3) := by decide +kernel
theorem dX11_perform_193 : decode cX11_perform 193 = .ok (.iconst 0, 1) := by decide +kernel
theorem dX11_perform_194 : decode cX11_perform 194 = .ok (.iadd, 1) := by decide +kernel
theorem dX11_perform_195 : decode cX11_perform 195 = .ok (.iastore, 1) := by decide +kernel
theorem dX11_perform_196 : decode cX11_perform 196 = .ok (.aload_n 0, 1) := by decide +kernel
theorem dX11_perform_197 : decode cX11_perform 197 = .ok (.getfield 7, 3) := by decide +kernel
theorem dX11_perform_200 : decode cX11_perform 200 = .ok (.bipush 7, 2) := by decide +kernel
theorem dX11_perform_202 : decode cX11_perform 202 = .ok (.dup2, 1) := by decide +kernel
theorem dX11_perform_203 : decode cX11_perform 203 = .ok (.iaload, 1) := by decide +kernel
theorem dX11_perform_204 : decode cX11_perform 204 = .ok (.lload 4, 2) := by decide +kernel
theorem dX11_perform_206 : decode cX11_perform 206 = .ok (.ldc2_w 326, 3) := by decide +kernel
theorem dX11_perform_209 : decode cX11_perform 209 = .ok (.land, 1) := by decide +kernel
theorem dX11_perform_210 : decode cX11_perform 210 = .ok (.lconst 0, 1) := by decide +kernel
theorem dX11_perform_211 : decode cX11_perform 211 = .ok (.lcmp, 1) := by decide +kernel
theorem dX11_perform_212 : decode cX11_perform 212 = .ok (.ifCond .eq 7, 3) := by decide +kernel
theorem dX11_perform_215 : decode cX11_perform 215 = .ok (.iconst 1, 1) := by decide +kernel
theorem dX11_perform_216 : decode cX11_perform 216 = .ok (.goto 4, 3) := by decide +kernel
theorem dX11_perform_219 : decode cX11_perform 219 = .ok (.iconst 0, 1) := by decide +kernel
theorem dX11_perform_220 : decode cX11_perform 220 = .ok (.iadd, 1) := by decide +kernel
theorem dX11_perform_221 : decode cX11_perform 221 = .ok (.iastore, 1) := by decide +kernel
theorem dX11_perform_222 : decode cX11_perform 222 = .ok (.iload 6, 2) := by decide +kernel
theorem dX11_perform_224 : decode cX11_perform 224 = .ok (.ireturn, 1) := by decide +kernel
set_option maxHeartbeats 4000000 in
set_option maxRecDepth 100000 in
theorem kX11_perform {l : Launch} {D : va_G} {cy : Nat → ClassId} {N : Nat} {q : Nat → Nat} {m0 : Nat → Value} {a0 : Nat → vp_A} {sz : Nat} (hN : 105 ≤ N) (hsh : SH q m0) {kr : Nat} (hkr : kr < N) (hgk : gk kr = 7) (hrf : m0 7 = .ref (q kr)) {xkr_0 : Int32} (h_xkr_0 : m0 (100 * kr + 0) = .int xkr_0) {xkr_1 : Int32} (h_xkr_1 : m0 (100 * kr + 1) = .int xkr_1) {xkr_2 : Int32} (h_xkr_2 : m0 (100 * kr + 2) = .int xkr_2) {xkr_3 : Int32} (h_xkr_3 : m0 (100 * kr + 3) = .int xkr_3) {x0_8 : Int64} (h_x0_8 : m0 8 = .long x0_8) {x0_9 : Int32} (h_x0_9 : m0 9 = .int x0_9) {x0_10 : Int32} (h_x0_10 : m0 10 = .int x0_10) {x2_0 : Int32} (h_x2_0 : m0 200 = .int x2_0) {x2_1 : Int64} (h_x2_1 : m0 201 = .long x2_1) {x5_0 : Int32} (h_x5_0 : m0 500 = .int x5_0) {x5_1 : Int64} (h_x5_1 : m0 501 = .long x5_1) {A1 : Nat → Int32} (h_A1 : a0 1 = (8, .inl A1)) (p1 : Int32) {X0 : Int32 × Int64 × Int32 × Int32 × Int32 × Int64 × Int32 × Int64 × (Nat → Int32)} (hs0 : fX11_perform xkr_0 xkr_1 xkr_2 xkr_3 x0_8 x0_9 x0_10 x2_0 x2_1 x5_0 x5_1 A1 p1 = some X0) : gMi l yX11_perform cX11_perform 7 (some .int) ({ frames := 4, cells := 0, slots := 0, locals := 97 } : Room) D cy N q m0 a0 sz [.ref (q 0), .int p1] (fun r m' a' => r = X0.1 ∧ m' 8 = .long X0.2.1 ∧ m' 9 = .int X0.2.2.1 ∧ m' 10 = .int X0.2.2.2.1 ∧ m' 200 = .int X0.2.2.2.2.1 ∧ m' 201 = .long X0.2.2.2.2.2.1 ∧ m' 500 = .int X0.2.2.2.2.2.2.1 ∧ m' 501 = .long X0.2.2.2.2.2.2.2.1 ∧ (∀ j, nel j [8, 9, 10, 200, 201, 500, 501] = false → m' j = m0 j) ∧ a' 1 = (8, .inl X0.2.2.2.2.2.2.2.2) ∧ (∀ j, nel j [1] = false → a' j = a0 j)) := by
  refine g_ofi (by decide) (Nat.le_of_ble_eq_true rfl) ?_
  intro p e s M args below meth c hx hb hr hG hown hin hlocks hml hW hS ls hl
  unfold fX11_perform at hs0
  have hoff : ∀ j, nel j [8, 9, 10, 200, 201, 500, 501] = false → m0 j = m0 j := off0
  have hoffa : ∀ j, nel j [1] = false → a0 j = a0 j := off0
  have hJ220_0 : ∀ (v6j34 : Int32) (s0j34 : Int32) (s1j34 : Int32) (s2j34 : Int32) (x0_8j34 : Int64) (x0_9j34 : Int32) (x0_10j34 : Int32) (x2_0j34 : Int32) (x2_1j34 : Int64) (x5_0j34 : Int32) (x5_1j34 : Int64) (A1j34 : Nat → Int32) (m : Nat → Value) (a : Nat → vp_A) (H : Heap) (locs : List Loc) (w_x0_8 : m 8 = .long x0_8j34) (w_x0_9 : m 9 = .int x0_9j34) (w_x0_10 : m 10 = .int x0_10j34) (w_x2_0 : m 200 = .int x2_0j34) (w_x2_1 : m 201 = .long x2_1j34) (w_x5_0 : m 500 = .int x5_0j34) (w_x5_1 : m 501 = .long x5_1j34) (hoff : ∀ j, nel j [8, 9, 10, 200, 201, 500, 501] = false → m j = m0 j) (hsh : SH q m) (w_A1 : a 1 = (8, .inl A1j34)) (hoffa : ∀ j, nel j [1] = false → a j = a0 j) (ls : Array Slot) (hl : lv_has ls 7 [(6, .int v6j34)]) (hs0 : fX11_perform_J220 xkr_0 xkr_1 xkr_2 xkr_3 v6j34 s0j34 s1j34 s2j34 x0_8j34 x0_9j34 x0_10j34 x2_0j34 x2_1j34 x5_0j34 x5_1j34 A1j34 = some X0) (hW : GW D cy (gA N q s.heap.size) N q m a s H) (hS : va_S (gA N q s.heap.size) s.heap H locs), W p l e ({ frames := 4, cells := 0, slots := 0, locals := 97 } : Room) s M args below meth c H locs 0 0 (MQ below (va_Qi (fun (r : Int32) (u : (Nat → Value) × (Nat → vp_A)) => r = X0.1 ∧ u.1 8 = .long X0.2.1 ∧ u.1 9 = .int X0.2.2.1 ∧ u.1 10 = .int X0.2.2.2.1 ∧ u.1 200 = .int X0.2.2.2.2.1 ∧ u.1 201 = .long X0.2.2.2.2.2.1 ∧ u.1 500 = .int X0.2.2.2.2.2.2.1 ∧ u.1 501 = .long X0.2.2.2.2.2.2.2.1 ∧ (∀ j, nel j [8, 9, 10, 200, 201, 500, 501] = false → u.1 j = m0 j) ∧ u.2 1 = (8, .inl X0.2.2.2.2.2.2.2.2) ∧ (∀ j, nel j [1] = false → u.2 j = a0 j)) (gB D cy N q s.heap.size) (gA N q s.heap.size)) args s 0 0 (gA N q s.heap.size)) (F0 M 220 ls [.int s0j34, .int s1j34, .int s2j34, .ref (q 1)]) := by
    intro v6j34 s0j34 s1j34 s2j34 x0_8j34 x0_9j34 x0_10j34 x2_0j34 x2_1j34 x5_0j34 x5_1j34 A1j34 m a H locs w_x0_8 w_x0_9 w_x0_10 w_x2_0 w_x2_1 w_x5_0 w_x5_1 hoff hsh w_A1 hoffa ls hl hs0 hW hS
    unfold fX11_perform_J220 at hs0
    refine lv_iadd hx hb dX11_perform_220 ?_
    obtain ⟨hi35, hs0⟩ := oif hs0
    refine g_iast hx hb hW hS (o := 1) (ltN hN 1 rfl) gk1 w_A1 (vin hi35) dX11_perform_221 (fun a36 H locs ha36 ho36 hW hS => ?_)
    have ho36 := off1 ho36
    have w_A1 : a36 1 = (8, .inl (upd A1j34 s2j34.toNatClampNeg (s1j34 + s0j34))) := ha36
    have hoffa := offm hoffa ho36 (by decide +kernel)
    refine lv_iload hx hb dX11_perform_222 (lv_at hl 0 rfl) ?_
    have hs0 := Option.some.inj hs0
    subst hs0
    exact W.zret hx hb hr rfl (fun t ht hw => ⟨⟨_, (m, a36), rfl, ⟨rfl, w_x0_8, w_x0_9, w_x0_10, w_x2_0, w_x2_1, w_x5_0, w_x5_1, hoff, w_A1, hoffa⟩, g_end hW ht hw⟩, hS.F ht⟩) hS.2.2 dX11_perform_224 hlocks
  have hJ194_0 : ∀ (v4j26 : Int64) (v6j26 : Int32) (s0j26 : Int32) (s1j26 : Int32) (s2j26 : Int32) (x0_8j26 : Int64) (x0_9j26 : Int32) (x0_10j26 : Int32) (x2_0j26 : Int32) (x2_1j26 : Int64) (x5_0j26 : Int32) (x5_1j26 : Int64) (A1j26 : Nat → Int32) (m : Nat → Value) (a : Nat → vp_A) (H : Heap) (locs : List Loc) (w_x0_8 : m 8 = .long x0_8j26) (w_x0_9 : m 9 = .int x0_9j26) (w_x0_10 : m 10 = .int x0_10j26) (w_x2_0 : m 200 = .int x2_0j26) (w_x2_1 : m 201 = .long x2_1j26) (w_x5_0 : m 500 = .int x5_0j26) (w_x5_1 : m 501 = .long x5_1j26) (hoff : ∀ j, nel j [8, 9, 10, 200, 201, 500, 501] = false → m j = m0 j) (hsh : SH q m) (w_A1 : a 1 = (8, .inl A1j26)) (hoffa : ∀ j, nel j [1] = false → a j = a0 j) (ls : Array Slot) (hl : lv_has ls 7 [(0, .ref (q 0)), (4, .long v4j26), (6, .int v6j26)]) (hs0 : fX11_perform_J194 xkr_0 xkr_1 xkr_2 xkr_3 v4j26 v6j26 s0j26 s1j26 s2j26 x0_8j26 x0_9j26 x0_10j26 x2_0j26 x2_1j26 x5_0j26 x5_1j26 A1j26 = some X0) (hW : GW D cy (gA N q s.heap.size) N q m a s H) (hS : va_S (gA N q s.heap.size) s.heap H locs), W p l e ({ frames := 4, cells := 0, slots := 0, locals := 97 } : Room) s M args below meth c H locs 0 0 (MQ below (va_Qi (fun (r : Int32) (u : (Nat → Value) × (Nat → vp_A)) => r = X0.1 ∧ u.1 8 = .long X0.2.1 ∧ u.1 9 = .int X0.2.2.1 ∧ u.1 10 = .int X0.2.2.2.1 ∧ u.1 200 = .int X0.2.2.2.2.1 ∧ u.1 201 = .long X0.2.2.2.2.2.1 ∧ u.1 500 = .int X0.2.2.2.2.2.2.1 ∧ u.1 501 = .long X0.2.2.2.2.2.2.2.1 ∧ (∀ j, nel j [8, 9, 10, 200, 201, 500, 501] = false → u.1 j = m0 j) ∧ u.2 1 = (8, .inl X0.2.2.2.2.2.2.2.2) ∧ (∀ j, nel j [1] = false → u.2 j = a0 j)) (gB D cy N q s.heap.size) (gA N q s.heap.size)) args s 0 0 (gA N q s.heap.size)) (F0 M 194 ls [.int s0j26, .int s1j26, .int s2j26, .ref (q 1)]) := by
    intro v4j26 v6j26 s0j26 s1j26 s2j26 x0_8j26 x0_9j26 x0_10j26 x2_0j26 x2_1j26 x5_0j26 x5_1j26 A1j26 m a H locs w_x0_8 w_x0_9 w_x0_10 w_x2_0 w_x2_1 w_x5_0 w_x5_1 hoff hsh w_A1 hoffa ls hl hs0 hW hS
    unfold fX11_perform_J194 at hs0
    refine lv_iadd hx hb dX11_perform_194 ?_
    obtain ⟨hi31, hs0⟩ := oif hs0
    refine g_iast hx hb hW hS (o := 1) (ltN hN 1 rfl) gk1 w_A1 (vin hi31) dX11_perform_195 (fun a32 H locs ha32 ho32 hW hS => ?_)
    have ho32 := off1 ho32
    have w_A1 : a32 1 = (8, .inl (upd A1j26 s2j26.toNatClampNeg (s1j26 + s0j26))) := ha32
    have hoffa := offm hoffa ho32 (by decide +kernel)
    refine lv_aload_n hx hb dX11_perform_196 rfl (lv_at hl 0 rfl) ?_
    refine gf11_0 hx hb hG hown hW (o := 0) (ltN hN 0 rfl) gk0 (v := .ref (q 1)) (sh0_0 hsh) gx15 dX11_perform_197 ?_
    refine lv_bipush (v := 7) hx hb dX11_perform_200 (by decide) ?_
    refine lv_dup2_11 hx hb dX11_perform_202 rfl rfl ?_
    refine g_iald hx hb hW (o := 1) (ltN hN 1 rfl) gk1 w_A1 (vin (by decide)) dX11_perform_203 ?_
    refine lv_lload hx hb dX11_perform_204 (lv_at hl 1 rfl) ?_
    refine lv_ldc2 (v := 144115188075855872) hx hb hown (hG _ gx415) dX11_perform_206 ?_
    refine lv_land hx hb dX11_perform_209 ?_
    refine lv_lconst (v := 0) hx hb dX11_perform_210 (by decide) ?_
    refine W.lcmp hx hb dX11_perform_211 ?_
    refine lv_if_eq (tgt := 219) hx hb dX11_perform_212 (by decide) (fun c33 => ?_) (fun c33 => ?_)
    · rw [if_pos c33] at hs0
      refine lv_iconst (v := 0) hx hb dX11_perform_219 (by decide) ?_
      exact hJ220_0 v6j26 0 ((upd A1j26 s2j26.toNatClampNeg (s1j26 + s0j26)) (7 : Int32).toNatClampNeg) 7 x0_8j26 x0_9j26 x0_10j26 x2_0j26 x2_1j26 x5_0j26 x5_1j26 (upd A1j26 s2j26.toNatClampNeg (s1j26 + s0j26)) m a32 _ _ w_x0_8 w_x0_9 w_x0_10 w_x2_0 w_x2_1 w_x5_0 w_x5_1 hoff hsh w_A1 hoffa ls (lv_sub hl [2] rfl) hs0 hW hS
    · rw [if_neg c33] at hs0
      refine lv_iconst (v := 1) hx hb dX11_perform_215 (by decide) ?_
      refine lv_goto (tgt := 220) hx hb dX11_perform_216 (by decide) ?_
      exact hJ220_0 v6j26 1 ((upd A1j26 s2j26.toNatClampNeg (s1j26 + s0j26)) (7 : Int32).toNatClampNeg) 7 x0_8j26 x0_9j26 x0_10j26 x2_0j26 x2_1j26 x5_0j26 x5_1j26 (upd A1j26 s2j26.toNatClampNeg (s1j26 + s0j26)) m a32 _ _ w_x0_8 w_x0_9 w_x0_10 w_x2_0 w_x2_1 w_x5_0 w_x5_1 hoff hsh w_A1 hoffa ls (lv_sub hl [2] rfl) hs0 hW hS
  have hJ170_0 : ∀ (v4j16 : Int64) (v6j16 : Int32) (x0_8j16 : Int64) (x0_9j16 : Int32) (x0_10j16 : Int32) (x2_0j16 : Int32) (x2_1j16 : Int64) (x5_0j16 : Int32) (x5_1j16 : Int64) (A1j16 : Nat → Int32) (m : Nat → Value) (a : Nat → vp_A) (H : Heap) (locs : List Loc) (w_x0_8 : m 8 = .long x0_8j16) (w_x0_9 : m 9 = .int x0_9j16) (w_x0_10 : m 10 = .int x0_10j16) (w_x2_0 : m 200 = .int x2_0j16) (w_x2_1 : m 201 = .long x2_1j16) (w_x5_0 : m 500 = .int x5_0j16) (w_x5_1 : m 501 = .long x5_1j16) (hoff : ∀ j, nel j [8, 9, 10, 200, 201, 500, 501] = false → m j = m0 j) (hsh : SH q m) (w_A1 : a 1 = (8, .inl A1j16)) (hoffa : ∀ j, nel j [1] = false → a j = a0 j) (ls : Array Slot) (hl : lv_has ls 7 [(0, .ref (q 0)), (4, .long v4j16), (6, .int v6j16)]) (hs0 : fX11_perform_J170 xkr_0 xkr_1 xkr_2 xkr_3 v4j16 v6j16 x0_8j16 x0_9j16 x0_10j16 x2_0j16 x2_1j16 x5_0j16 x5_1j16 A1j16 = some X0) (hW : GW D cy (gA N q s.heap.size) N q m a s H) (hS : va_S (gA N q s.heap.size) s.heap H locs), W p l e ({ frames := 4, cells := 0, slots := 0, locals := 97 } : Room) s M args below meth c H locs 0 0 (MQ below (va_Qi (fun (r : Int32) (u : (Nat → Value) × (Nat → vp_A)) => r = X0.1 ∧ u.1 8 = .long X0.2.1 ∧ u.1 9 = .int X0.2.2.1 ∧ u.1 10 = .int X0.2.2.2.1 ∧ u.1 200 = .int X0.2.2.2.2.1 ∧ u.1 201 = .long X0.2.2.2.2.2.1 ∧ u.1 500 = .int X0.2.2.2.2.2.2.1 ∧ u.1 501 = .long X0.2.2.2.2.2.2.2.1 ∧ (∀ j, nel j [8, 9, 10, 200, 201, 500, 501] = false → u.1 j = m0 j) ∧ u.2 1 = (8, .inl X0.2.2.2.2.2.2.2.2) ∧ (∀ j, nel j [1] = false → u.2 j = a0 j)) (gB D cy N q s.heap.size) (gA N q s.heap.size)) args s 0 0 (gA N q s.heap.size)) (F0 M 170 ls []) := by
    intro v4j16 v6j16 x0_8j16 x0_9j16 x0_10j16 x2_0j16 x2_1j16 x5_0j16 x5_1j16 A1j16 m a H locs w_x0_8 w_x0_9 w_x0_10 w_x2_0 w_x2_1 w_x5_0 w_x5_1 hoff hsh w_A1 hoffa ls hl hs0 hW hS
    unfold fX11_perform_J170 at hs0
    refine lv_aload_n hx hb dX11_perform_170 rfl (lv_at hl 0 rfl) ?_
    refine gf11_0 hx hb hG hown hW (o := 0) (ltN hN 0 rfl) gk0 (v := .ref (q 1)) (sh0_0 hsh) gx15 dX11_perform_171 ?_
    refine lv_bipush (v := 6) hx hb dX11_perform_174 (by decide) ?_
    refine lv_dup2_11 hx hb dX11_perform_176 rfl rfl ?_
    refine g_iald hx hb hW (o := 1) (ltN hN 1 rfl) gk1 w_A1 (vin (by decide)) dX11_perform_177 ?_
    refine lv_lload hx hb dX11_perform_178 (lv_at hl 1 rfl) ?_
    refine lv_ldc2 (v := 72057594037927936) hx hb hown (hG _ gx414) dX11_perform_180 ?_
    refine lv_land hx hb dX11_perform_183 ?_
    refine lv_lconst (v := 0) hx hb dX11_perform_184 (by decide) ?_
    refine W.lcmp hx hb dX11_perform_185 ?_
    refine lv_if_eq (tgt := 193) hx hb dX11_perform_186 (by decide) (fun c25 => ?_) (fun c25 => ?_)
    · rw [if_pos c25] at hs0
      refine lv_iconst (v := 0) hx hb dX11_perform_193 (by decide) ?_
      exact hJ194_0 v4j16 v6j16 0 (A1j16 (6 : Int32).toNatClampNeg) 6 x0_8j16 x0_9j16 x0_10j16 x2_0j16 x2_1j16 x5_0j16 x5_1j16 A1j16 m a _ _ w_x0_8 w_x0_9 w_x0_10 w_x2_0 w_x2_1 w_x5_0 w_x5_1 hoff hsh w_A1 hoffa ls (lv_sub hl [0, 1, 2] rfl) hs0 hW hS
    · rw [if_neg c25] at hs0
      refine lv_iconst (v := 1) hx hb dX11_perform_189 (by decide) ?_
      refine lv_goto (tgt := 194) hx hb dX11_perform_190 (by decide) ?_
      exact hJ194_0 v4j16 v6j16 1 (A1j16 (6 : Int32).toNatClampNeg) 6 x0_8j16 x0_9j16 x0_10j16 x2_0j16 x2_1j16 x5_0j16 x5_1j16 A1j16 m a _ _ w_x0_8 w_x0_9 w_x0_10 w_x2_0 w_x2_1 w_x5_0 w_x5_1 hoff hsh w_A1 hoffa ls (lv_sub hl [0, 1, 2] rfl) hs0 hW hS
  have hJ156_0 : ∀ (v3j24 : Int32) (v4j24 : Int64) (v6j24 : Int32) (s0j24 : Int32) (s1j24 : Int32) (s2j24 : Int32) (x0_8j24 : Int64) (x0_9j24 : Int32) (x0_10j24 : Int32) (x2_0j24 : Int32) (x2_1j24 : Int64) (x5_0j24 : Int32) (x5_1j24 : Int64) (A1j24 : Nat → Int32) (m : Nat → Value) (a : Nat → vp_A) (H : Heap) (locs : List Loc) (w_x0_8 : m 8 = .long x0_8j24) (w_x0_9 : m 9 = .int x0_9j24) (w_x0_10 : m 10 = .int x0_10j24) (w_x2_0 : m 200 = .int x2_0j24) (w_x2_1 : m 201 = .long x2_1j24) (w_x5_0 : m 500 = .int x5_0j24) (w_x5_1 : m 501 = .long x5_1j24) (hoff : ∀ j, nel j [8, 9, 10, 200, 201, 500, 501] = false → m j = m0 j) (hsh : SH q m) (w_A1 : a 1 = (8, .inl A1j24)) (hoffa : ∀ j, nel j [1] = false → a j = a0 j) (ls : Array Slot) (hl : lv_has ls 7 [(0, .ref (q 0)), (3, .int v3j24), (4, .long v4j24), (6, .int v6j24)]) (hs0 : fX11_perform_J156 xkr_0 xkr_1 xkr_2 xkr_3 v3j24 v4j24 v6j24 s0j24 s1j24 s2j24 x0_8j24 x0_9j24 x0_10j24 x2_0j24 x2_1j24 x5_0j24 x5_1j24 A1j24 = some X0) (hW : GW D cy (gA N q s.heap.size) N q m a s H) (hS : va_S (gA N q s.heap.size) s.heap H locs), W p l e ({ frames := 4, cells := 0, slots := 0, locals := 97 } : Room) s M args below meth c H locs 0 0 (MQ below (va_Qi (fun (r : Int32) (u : (Nat → Value) × (Nat → vp_A)) => r = X0.1 ∧ u.1 8 = .long X0.2.1 ∧ u.1 9 = .int X0.2.2.1 ∧ u.1 10 = .int X0.2.2.2.1 ∧ u.1 200 = .int X0.2.2.2.2.1 ∧ u.1 201 = .long X0.2.2.2.2.2.1 ∧ u.1 500 = .int X0.2.2.2.2.2.2.1 ∧ u.1 501 = .long X0.2.2.2.2.2.2.2.1 ∧ (∀ j, nel j [8, 9, 10, 200, 201, 500, 501] = false → u.1 j = m0 j) ∧ u.2 1 = (8, .inl X0.2.2.2.2.2.2.2.2) ∧ (∀ j, nel j [1] = false → u.2 j = a0 j)) (gB D cy N q s.heap.size) (gA N q s.heap.size)) args s 0 0 (gA N q s.heap.size)) (F0 M 156 ls [.int s0j24, .int s1j24, .int s2j24, .ref (q 1)]) := by
    intro v3j24 v4j24 v6j24 s0j24 s1j24 s2j24 x0_8j24 x0_9j24 x0_10j24 x2_0j24 x2_1j24 x5_0j24 x5_1j24 A1j24 m a H locs w_x0_8 w_x0_9 w_x0_10 w_x2_0 w_x2_1 w_x5_0 w_x5_1 hoff hsh w_A1 hoffa ls hl hs0 hW hS
    unfold fX11_perform_J156 at hs0
    refine lv_iadd hx hb dX11_perform_156 ?_
    obtain ⟨hi27, hs0⟩ := oif hs0
    refine g_iast hx hb hW hS (o := 1) (ltN hN 1 rfl) gk1 w_A1 (vin hi27) dX11_perform_157 (fun a28 H locs ha28 ho28 hW hS => ?_)
    have ho28 := off1 ho28
    have w_A1 : a28 1 = (8, .inl (upd A1j24 s2j24.toNatClampNeg (s1j24 + s0j24))) := ha28
    have hoffa := offm hoffa ho28 (by decide +kernel)
    refine lv_aload_n hx hb dX11_perform_158 rfl (lv_at hl 0 rfl) ?_
    refine gf11_1 hx hb hG hown hW (o := 0) (ltN hN 0 rfl) gk0 (v := .ref (q 2)) (sh0_1 hsh) gx19 dX11_perform_159 ?_
    refine lv_iload_n hx hb dX11_perform_162 rfl (lv_at hl 1 rfl) ?_
    refine g_Vv (n := 1) hx hb hml hown hG hW hS [.int v3j24] (kX6_add_2 hN hsh w_x2_0 w_x2_1 v3j24) (ltN hN 2 rfl) gk2 (by decide) rfl rfl (gd_V gx482 gx483 gx484 gx18 gx485) rfl rfl (by decide) ⟨Nat.le_of_ble_eq_true rfl, Nat.le_of_ble_eq_true rfl⟩ rfl hl (Nat.le_of_ble_eq_true rfl) ⟨Nat.zero_le _, Nat.zero_le _⟩ dX11_perform_163 (fun m29 a29 H locs hp29 hW hS => ?_)
    obtain ⟨hp29_x2_0, hp29_x2_1, ho29, ha29⟩ := hp29
    rw [ha29] at hW
    have w_x0_8 : m29 8 = .long x0_8j24 := (ho29 8 rfl).trans w_x0_8
    have w_x0_9 : m29 9 = .int x0_9j24 := (ho29 9 rfl).trans w_x0_9
    have w_x0_10 : m29 10 = .int x0_10j24 := (ho29 10 rfl).trans w_x0_10
    have w_x2_0 : m29 200 = .int ((fX6_add x2_0j24 x2_1j24 v3j24).1) := hp29_x2_0
    have w_x2_1 : m29 201 = .long ((fX6_add x2_0j24 x2_1j24 v3j24).2) := hp29_x2_1
    have w_x5_0 : m29 500 = .int x5_0j24 := (ho29 500 rfl).trans w_x5_0
    have w_x5_1 : m29 501 = .long x5_1j24 := (ho29 501 rfl).trans w_x5_1
    have hoff := offm hoff ho29 (by decide +kernel)
    have hsh := SH.off hsh ho29 (by decide +kernel)
    refine lv_aload_n hx hb dX11_perform_166 rfl (lv_at hl 0 rfl) ?_
    refine g_Vv (n := 0) hx hb hml hown hG hW hS [] (kX11_takeFromQueue hN hsh w_x0_9 w_x0_10) (ltN hN 0 rfl) gk0 (by decide) rfl rfl (gd_V gx489 gx490 gx491 gx2 gx492) rfl rfl (by decide) ⟨Nat.le_of_ble_eq_true rfl, Nat.le_of_ble_eq_true rfl⟩ rfl hl (Nat.le_of_ble_eq_true rfl) ⟨Nat.zero_le _, Nat.zero_le _⟩ dX11_perform_167 (fun m30 a30 H locs hp30 hW hS => ?_)
    obtain ⟨hp30_x0_9, hp30_x0_10, ho30, ha30⟩ := hp30
    rw [ha30] at hW
    have w_x0_8 : m30 8 = .long x0_8j24 := (ho30 8 rfl).trans w_x0_8
    have w_x0_9 : m30 9 = .int ((fX11_takeFromQueue x0_9j24 x0_10j24).1) := hp30_x0_9
    have w_x0_10 : m30 10 = .int ((fX11_takeFromQueue x0_9j24 x0_10j24).2) := hp30_x0_10
    have w_x2_0 : m30 200 = .int ((fX6_add x2_0j24 x2_1j24 v3j24).1) := (ho30 200 rfl).trans w_x2_0
    have w_x2_1 : m30 201 = .long ((fX6_add x2_0j24 x2_1j24 v3j24).2) := (ho30 201 rfl).trans w_x2_1
    have w_x5_0 : m30 500 = .int x5_0j24 := (ho30 500 rfl).trans w_x5_0
    have w_x5_1 : m30 501 = .long x5_1j24 := (ho30 501 rfl).trans w_x5_1
    have hoff := offm hoff ho30 (by decide +kernel)
    have hsh := SH.off hsh ho30 (by decide +kernel)
    exact hJ170_0 v4j24 v6j24 x0_8j24 ((fX11_takeFromQueue x0_9j24 x0_10j24).1) ((fX11_takeFromQueue x0_9j24 x0_10j24).2) ((fX6_add x2_0j24 x2_1j24 v3j24).1) ((fX6_add x2_0j24 x2_1j24 v3j24).2) x5_0j24 x5_1j24 (upd A1j24 s2j24.toNatClampNeg (s1j24 + s0j24)) m30 a28 _ _ w_x0_8 w_x0_9 w_x0_10 w_x2_0 w_x2_1 w_x5_0 w_x5_1 hoff hsh w_A1 hoffa ls (lv_sub hl [0, 2, 3] rfl) hs0 hW hS
  have hJ128_0 : ∀ (v3j14 : Int32) (v4j14 : Int64) (v6j14 : Int32) (x0_8j14 : Int64) (x0_9j14 : Int32) (x0_10j14 : Int32) (x2_0j14 : Int32) (x2_1j14 : Int64) (x5_0j14 : Int32) (x5_1j14 : Int64) (A1j14 : Nat → Int32) (m : Nat → Value) (a : Nat → vp_A) (H : Heap) (locs : List Loc) (w_x0_8 : m 8 = .long x0_8j14) (w_x0_9 : m 9 = .int x0_9j14) (w_x0_10 : m 10 = .int x0_10j14) (w_x2_0 : m 200 = .int x2_0j14) (w_x2_1 : m 201 = .long x2_1j14) (w_x5_0 : m 500 = .int x5_0j14) (w_x5_1 : m 501 = .long x5_1j14) (hoff : ∀ j, nel j [8, 9, 10, 200, 201, 500, 501] = false → m j = m0 j) (hsh : SH q m) (w_A1 : a 1 = (8, .inl A1j14)) (hoffa : ∀ j, nel j [1] = false → a j = a0 j) (ls : Array Slot) (hl : lv_has ls 7 [(0, .ref (q 0)), (3, .int v3j14), (4, .long v4j14), (6, .int v6j14)]) (hs0 : fX11_perform_J128 xkr_0 xkr_1 xkr_2 xkr_3 v3j14 v4j14 v6j14 x0_8j14 x0_9j14 x0_10j14 x2_0j14 x2_1j14 x5_0j14 x5_1j14 A1j14 = some X0) (hW : GW D cy (gA N q s.heap.size) N q m a s H) (hS : va_S (gA N q s.heap.size) s.heap H locs), W p l e ({ frames := 4, cells := 0, slots := 0, locals := 97 } : Room) s M args below meth c H locs 0 0 (MQ below (va_Qi (fun (r : Int32) (u : (Nat → Value) × (Nat → vp_A)) => r = X0.1 ∧ u.1 8 = .long X0.2.1 ∧ u.1 9 = .int X0.2.2.1 ∧ u.1 10 = .int X0.2.2.2.1 ∧ u.1 200 = .int X0.2.2.2.2.1 ∧ u.1 201 = .long X0.2.2.2.2.2.1 ∧ u.1 500 = .int X0.2.2.2.2.2.2.1 ∧ u.1 501 = .long X0.2.2.2.2.2.2.2.1 ∧ (∀ j, nel j [8, 9, 10, 200, 201, 500, 501] = false → u.1 j = m0 j) ∧ u.2 1 = (8, .inl X0.2.2.2.2.2.2.2.2) ∧ (∀ j, nel j [1] = false → u.2 j = a0 j)) (gB D cy N q s.heap.size) (gA N q s.heap.size)) args s 0 0 (gA N q s.heap.size)) (F0 M 128 ls []) := by
    intro v3j14 v4j14 v6j14 x0_8j14 x0_9j14 x0_10j14 x2_0j14 x2_1j14 x5_0j14 x5_1j14 A1j14 m a H locs w_x0_8 w_x0_9 w_x0_10 w_x2_0 w_x2_1 w_x5_0 w_x5_1 hoff hsh w_A1 hoffa ls hl hs0 hW hS
    unfold fX11_perform_J128 at hs0
    refine lv_aload_n hx hb dX11_perform_128 rfl (lv_at hl 0 rfl) ?_
    refine gf11_0 hx hb hG hown hW (o := 0) (ltN hN 0 rfl) gk0 (v := .ref (q 1)) (sh0_0 hsh) gx15 dX11_perform_129 ?_
    refine lv_iconst (v := 5) hx hb dX11_perform_132 (by decide) ?_
    refine lv_dup2_11 hx hb dX11_perform_133 rfl rfl ?_
    refine g_iald hx hb hW (o := 1) (ltN hN 1 rfl) gk1 w_A1 (vin (by decide)) dX11_perform_134 ?_
    refine lv_iconst (v := 1) hx hb dX11_perform_135 (by decide) ?_
    refine lv_iadd hx hb dX11_perform_136 ?_
    refine g_iast hx hb hW hS (o := 1) (ltN hN 1 rfl) gk1 w_A1 (vin (by decide)) dX11_perform_137 (fun a22 H locs ha22 ho22 hW hS => ?_)
    have ho22 := off1 ho22
    have w_A1 : a22 1 = (8, .inl (upd A1j14 (5 : Int32).toNatClampNeg ((A1j14 (5 : Int32).toNatClampNeg) + 1))) := ha22
    have hoffa := offm hoffa ho22 (by decide +kernel)
    refine lv_aload_n hx hb dX11_perform_138 rfl (lv_at hl 0 rfl) ?_
    refine gf11_0 hx hb hG hown hW (o := 0) (ltN hN 0 rfl) gk0 (v := .ref (q 1)) (sh0_0 hsh) gx15 dX11_perform_139 ?_
    refine lv_iconst (v := 4) hx hb dX11_perform_142 (by decide) ?_
    refine lv_dup2_11 hx hb dX11_perform_143 rfl rfl ?_
    refine g_iald hx hb hW (o := 1) (ltN hN 1 rfl) gk1 w_A1 (vin (by decide)) dX11_perform_144 ?_
    refine lv_iload hx hb dX11_perform_145 (lv_at hl 3 rfl) ?_
    refine lv_iconst (v := 5) hx hb dX11_perform_147 (by decide) ?_
    refine lv_icmp_ne (tgt := 155) hx hb dX11_perform_148 (by decide) (fun c23 => ?_) (fun c23 => ?_)
    · rw [if_neg c23] at hs0
      refine lv_iconst (v := 0) hx hb dX11_perform_155 (by decide) ?_
      exact hJ156_0 v3j14 v4j14 v6j14 0 ((upd A1j14 (5 : Int32).toNatClampNeg ((A1j14 (5 : Int32).toNatClampNeg) + 1)) (4 : Int32).toNatClampNeg) 4 x0_8j14 x0_9j14 x0_10j14 x2_0j14 x2_1j14 x5_0j14 x5_1j14 (upd A1j14 (5 : Int32).toNatClampNeg ((A1j14 (5 : Int32).toNatClampNeg) + 1)) m a22 _ _ w_x0_8 w_x0_9 w_x0_10 w_x2_0 w_x2_1 w_x5_0 w_x5_1 hoff hsh w_A1 hoffa ls (lv_sub hl [0, 1, 2, 3] rfl) hs0 hW hS
    · rw [if_pos c23] at hs0
      refine lv_iconst (v := 1) hx hb dX11_perform_151 (by decide) ?_
      refine lv_goto (tgt := 156) hx hb dX11_perform_152 (by decide) ?_
      exact hJ156_0 v3j14 v4j14 v6j14 1 ((upd A1j14 (5 : Int32).toNatClampNeg ((A1j14 (5 : Int32).toNatClampNeg) + 1)) (4 : Int32).toNatClampNeg) 4 x0_8j14 x0_9j14 x0_10j14 x2_0j14 x2_1j14 x5_0j14 x5_1j14 (upd A1j14 (5 : Int32).toNatClampNeg ((A1j14 (5 : Int32).toNatClampNeg) + 1)) m a22 _ _ w_x0_8 w_x0_9 w_x0_10 w_x2_0 w_x2_1 w_x5_0 w_x5_1 hoff hsh w_A1 hoffa ls (lv_sub hl [0, 1, 2, 3] rfl) hs0 hW hS
  have hJ89_0 : ∀ (v1j10 : Int32) (v4j10 : Int64) (v6j10 : Int32) (x0_8j10 : Int64) (x0_9j10 : Int32) (x0_10j10 : Int32) (x2_0j10 : Int32) (x2_1j10 : Int64) (x5_0j10 : Int32) (x5_1j10 : Int64) (A1j10 : Nat → Int32) (m : Nat → Value) (a : Nat → vp_A) (H : Heap) (locs : List Loc) (w_x0_8 : m 8 = .long x0_8j10) (w_x0_9 : m 9 = .int x0_9j10) (w_x0_10 : m 10 = .int x0_10j10) (w_x2_0 : m 200 = .int x2_0j10) (w_x2_1 : m 201 = .long x2_1j10) (w_x5_0 : m 500 = .int x5_0j10) (w_x5_1 : m 501 = .long x5_1j10) (hoff : ∀ j, nel j [8, 9, 10, 200, 201, 500, 501] = false → m j = m0 j) (hsh : SH q m) (w_A1 : a 1 = (8, .inl A1j10)) (hoffa : ∀ j, nel j [1] = false → a j = a0 j) (ls : Array Slot) (hl : lv_has ls 7 [(0, .ref (q 0)), (1, .int v1j10), (4, .long v4j10), (6, .int v6j10)]) (hs0 : fX11_perform_J89 xkr_0 xkr_1 xkr_2 xkr_3 v1j10 v4j10 v6j10 x0_8j10 x0_9j10 x0_10j10 x2_0j10 x2_1j10 x5_0j10 x5_1j10 A1j10 = some X0) (hW : GW D cy (gA N q s.heap.size) N q m a s H) (hS : va_S (gA N q s.heap.size) s.heap H locs), W p l e ({ frames := 4, cells := 0, slots := 0, locals := 97 } : Room) s M args below meth c H locs 0 0 (MQ below (va_Qi (fun (r : Int32) (u : (Nat → Value) × (Nat → vp_A)) => r = X0.1 ∧ u.1 8 = .long X0.2.1 ∧ u.1 9 = .int X0.2.2.1 ∧ u.1 10 = .int X0.2.2.2.1 ∧ u.1 200 = .int X0.2.2.2.2.1 ∧ u.1 201 = .long X0.2.2.2.2.2.1 ∧ u.1 500 = .int X0.2.2.2.2.2.2.1 ∧ u.1 501 = .long X0.2.2.2.2.2.2.2.1 ∧ (∀ j, nel j [8, 9, 10, 200, 201, 500, 501] = false → u.1 j = m0 j) ∧ u.2 1 = (8, .inl X0.2.2.2.2.2.2.2.2) ∧ (∀ j, nel j [1] = false → u.2 j = a0 j)) (gB D cy N q s.heap.size) (gA N q s.heap.size)) args s 0 0 (gA N q s.heap.size)) (F0 M 89 ls []) := by
    intro v1j10 v4j10 v6j10 x0_8j10 x0_9j10 x0_10j10 x2_0j10 x2_1j10 x5_0j10 x5_1j10 A1j10 m a H locs w_x0_8 w_x0_9 w_x0_10 w_x2_0 w_x2_1 w_x5_0 w_x5_1 hoff hsh w_A1 hoffa ls hl hs0 hW hS
    unfold fX11_perform_J89 at hs0
    refine lv_aload_n hx hb dX11_perform_89 rfl (lv_at hl 0 rfl) ?_
    refine gf11_0 hx hb hG hown hW (o := 0) (ltN hN 0 rfl) gk0 (v := .ref (q 1)) (sh0_0 hsh) gx15 dX11_perform_90 ?_
    refine lv_iload hx hb dX11_perform_93 (lv_at hl 3 rfl) ?_
    refine lv_dup2_11 hx hb dX11_perform_95 rfl rfl ?_
    obtain ⟨hi17, hs0⟩ := oif hs0
    refine g_iald hx hb hW (o := 1) (ltN hN 1 rfl) gk1 w_A1 (vin hi17) dX11_perform_96 ?_
    refine lv_iconst (v := 1) hx hb dX11_perform_97 (by decide) ?_
    refine lv_iadd hx hb dX11_perform_98 ?_
    obtain ⟨hi18, hs0⟩ := oif hs0
    refine g_iast hx hb hW hS (o := 1) (ltN hN 1 rfl) gk1 w_A1 (vin hi18) dX11_perform_99 (fun a19 H locs ha19 ho19 hW hS => ?_)
    have ho19 := off1 ho19
    have w_A1 : a19 1 = (8, .inl (upd A1j10 v6j10.toNatClampNeg ((A1j10 v6j10.toNatClampNeg) + 1))) := ha19
    have hoffa := offm hoffa ho19 (by decide +kernel)
    refine lv_aload_n hx hb dX11_perform_100 rfl (lv_at hl 0 rfl) ?_
    refine gf11_2 hx hb hG hown hW (o := 0) (ltN hN 0 rfl) gk0 (v := .ref (q 5)) (sh0_2 hsh) gx20 dX11_perform_101 ?_
    refine lv_iload_n hx hb dX11_perform_104 rfl (lv_at hl 1 rfl) ?_
    refine g_SiR (n := 1) hx hb hml hown hG hW hS [.int v1j10] (kX0_kindOf hN v1j10) rfl (gd_S gx481 gx429 gx23 gx430) rfl rfl (by decide) ⟨Nat.le_of_ble_eq_true rfl, Nat.le_of_ble_eq_true rfl⟩ rfl hl (Nat.le_of_ble_eq_true rfl) ⟨Nat.zero_le _, Nat.zero_le _⟩ dX11_perform_105 (fun H locs hW hS => ?_)
    refine lv_iconst (v := 1) hx hb dX11_perform_108 (by decide) ?_
    refine lv_iand hx hb dX11_perform_109 ?_
    refine g_Vv (n := 1) hx hb hml hown hG hW hS [.int ((fX0_kindOf v1j10) &&& (1 : Int32))] (kX6_add_5 hN hsh w_x5_0 w_x5_1 ((fX0_kindOf v1j10) &&& (1 : Int32))) (ltN hN 5 rfl) gk5 (by decide) rfl rfl (gd_V gx482 gx483 gx484 gx18 gx485) rfl rfl (by decide) ⟨Nat.le_of_ble_eq_true rfl, Nat.le_of_ble_eq_true rfl⟩ rfl hl (Nat.le_of_ble_eq_true rfl) ⟨Nat.zero_le _, Nat.zero_le _⟩ dX11_perform_110 (fun m21 a21 H locs hp21 hW hS => ?_)
    obtain ⟨hp21_x5_0, hp21_x5_1, ho21, ha21⟩ := hp21
    rw [ha21] at hW
    have w_x0_8 : m21 8 = .long x0_8j10 := (ho21 8 rfl).trans w_x0_8
    have w_x0_9 : m21 9 = .int x0_9j10 := (ho21 9 rfl).trans w_x0_9
    have w_x0_10 : m21 10 = .int x0_10j10 := (ho21 10 rfl).trans w_x0_10
    have w_x2_0 : m21 200 = .int x2_0j10 := (ho21 200 rfl).trans w_x2_0
    have w_x2_1 : m21 201 = .long x2_1j10 := (ho21 201 rfl).trans w_x2_1
    have w_x5_0 : m21 500 = .int ((fX6_add x5_0j10 x5_1j10 ((fX0_kindOf v1j10) &&& (1 : Int32))).1) := hp21_x5_0
    have w_x5_1 : m21 501 = .long ((fX6_add x5_0j10 x5_1j10 ((fX0_kindOf v1j10) &&& (1 : Int32))).2) := hp21_x5_1
    have hoff := offm hoff ho21 (by decide +kernel)
    have hsh := SH.off hsh ho21 (by decide +kernel)
    refine lv_goto (tgt := 170) hx hb dX11_perform_113 (by decide) ?_
    exact hJ170_0 v4j10 v6j10 x0_8j10 x0_9j10 x0_10j10 x2_0j10 x2_1j10 ((fX6_add x5_0j10 x5_1j10 ((fX0_kindOf v1j10) &&& (1 : Int32))).1) ((fX6_add x5_0j10 x5_1j10 ((fX0_kindOf v1j10) &&& (1 : Int32))).2) (upd A1j10 v6j10.toNatClampNeg ((A1j10 v6j10.toNatClampNeg) + 1)) m21 a19 _ _ w_x0_8 w_x0_9 w_x0_10 w_x2_0 w_x2_1 w_x5_0 w_x5_1 hoff hsh w_A1 hoffa ls (lv_sub hl [0, 2, 3] rfl) hs0 hW hS
  have hJ17_0 : ∀ (v1j2 : Int32) (s0j2 : Int32) (x0_8j2 : Int64) (x0_9j2 : Int32) (x0_10j2 : Int32) (x2_0j2 : Int32) (x2_1j2 : Int64) (x5_0j2 : Int32) (x5_1j2 : Int64) (A1j2 : Nat → Int32) (m : Nat → Value) (a : Nat → vp_A) (H : Heap) (locs : List Loc) (w_x0_8 : m 8 = .long x0_8j2) (w_x0_9 : m 9 = .int x0_9j2) (w_x0_10 : m 10 = .int x0_10j2) (w_x2_0 : m 200 = .int x2_0j2) (w_x2_1 : m 201 = .long x2_1j2) (w_x5_0 : m 500 = .int x5_0j2) (w_x5_1 : m 501 = .long x5_1j2) (hoff : ∀ j, nel j [8, 9, 10, 200, 201, 500, 501] = false → m j = m0 j) (hsh : SH q m) (w_A1 : a 1 = (8, .inl A1j2)) (hoffa : ∀ j, nel j [1] = false → a j = a0 j) (ls : Array Slot) (hl : lv_has ls 7 [(0, .ref (q 0)), (1, .int v1j2)]) (hs0 : fX11_perform_J17 xkr_0 xkr_1 xkr_2 xkr_3 v1j2 s0j2 x0_8j2 x0_9j2 x0_10j2 x2_0j2 x2_1j2 x5_0j2 x5_1j2 A1j2 = some X0) (hW : GW D cy (gA N q s.heap.size) N q m a s H) (hS : va_S (gA N q s.heap.size) s.heap H locs), W p l e ({ frames := 4, cells := 0, slots := 0, locals := 97 } : Room) s M args below meth c H locs 0 0 (MQ below (va_Qi (fun (r : Int32) (u : (Nat → Value) × (Nat → vp_A)) => r = X0.1 ∧ u.1 8 = .long X0.2.1 ∧ u.1 9 = .int X0.2.2.1 ∧ u.1 10 = .int X0.2.2.2.1 ∧ u.1 200 = .int X0.2.2.2.2.1 ∧ u.1 201 = .long X0.2.2.2.2.2.1 ∧ u.1 500 = .int X0.2.2.2.2.2.2.1 ∧ u.1 501 = .long X0.2.2.2.2.2.2.2.1 ∧ (∀ j, nel j [8, 9, 10, 200, 201, 500, 501] = false → u.1 j = m0 j) ∧ u.2 1 = (8, .inl X0.2.2.2.2.2.2.2.2) ∧ (∀ j, nel j [1] = false → u.2 j = a0 j)) (gB D cy N q s.heap.size) (gA N q s.heap.size)) args s 0 0 (gA N q s.heap.size)) (F0 M 17 ls [.int s0j2]) := by
    intro v1j2 s0j2 x0_8j2 x0_9j2 x0_10j2 x2_0j2 x2_1j2 x5_0j2 x5_1j2 A1j2 m a H locs w_x0_8 w_x0_9 w_x0_10 w_x2_0 w_x2_1 w_x5_0 w_x5_1 hoff hsh w_A1 hoffa ls hl hs0 hW hS
    unfold fX11_perform_J17 at hs0
    refine lv_istore_n (lv' := [(2, .int s0j2), (0, .ref (q 0)), (1, .int v1j2)]) hx hb dX11_perform_17 rfl hl (by decide) rfl (fun ls hl => ?_)
    refine lv_aload_n hx hb dX11_perform_18 rfl (lv_at hl 1 rfl) ?_
    refine gf11_8 hx hb hG hown hW (o := 0) (ltN hN 0 rfl) gk0 (v := .long x0_8j2) w_x0_8 gx41 dX11_perform_19 ?_
    refine g_SiR (n := 1) hx hb hml hown hG hW hS [.long x0_8j2] (kX7_valueOf hN x0_8j2) rfl (gd_S gx416 gx417 gx39 gx418) rfl rfl (by decide) ⟨Nat.le_of_ble_eq_true rfl, Nat.le_of_ble_eq_true rfl⟩ rfl hl (Nat.le_of_ble_eq_true rfl) ⟨Nat.zero_le _, Nat.zero_le _⟩ dX11_perform_22 (fun H locs hW hS => ?_)
    refine lv_istore_n (lv' := [(3, .int (fX7_valueOf x0_8j2)), (2, .int s0j2), (0, .ref (q 0)), (1, .int v1j2)]) hx hb dX11_perform_25 rfl hl (by decide) rfl (fun ls hl => ?_)
    refine lv_aload_n hx hb dX11_perform_26 rfl (lv_at hl 2 rfl) ?_
    refine gf11_7 hx hb hG hown hW (o := 0) (ltN hN 0 rfl) gk0 (v := .ref (q kr)) ((hoff 7 rfl).trans hrf) gx40 dX11_perform_27 ?_
    refine lv_aload_n hx hb dX11_perform_30 rfl (lv_at hl 2 rfl) ?_
    refine gf11_8 hx hb hG hown hW (o := 0) (ltN hN 0 rfl) gk0 (v := .long x0_8j2) w_x0_8 gx41 dX11_perform_31 ?_
    refine lv_iload_n hx hb dX11_perform_34 rfl (lv_at hl 3 rfl) ?_
    refine lv_iload_n hx hb dX11_perform_35 rfl (lv_at hl 1 rfl) ?_
    refine g_SiR (n := 2) hx hb hml hown hG hW hS [.int v1j2, .int s0j2] (kX0_withTold hN v1j2 s0j2) rfl (gd_S gx419 gx420 gx23 gx421) rfl rfl (by decide) ⟨Nat.le_of_ble_eq_true rfl, Nat.le_of_ble_eq_true rfl⟩ rfl hl (Nat.le_of_ble_eq_true rfl) ⟨Nat.zero_le _, Nat.zero_le _⟩ dX11_perform_36 (fun H locs hW hS => ?_)
    refine g_VlR (n := 2) hx hb hml hown hG hW hS [.long x0_8j2, .int (fX0_withTold v1j2 s0j2)] (kX7_after hN hkr hgk ((off_kr hoff hgk 0 rfl (by decide)).trans h_xkr_0) ((off_kr hoff hgk 1 rfl (by decide)).trans h_xkr_1) ((off_kr hoff hgk 2 rfl (by decide)).trans h_xkr_2) ((off_kr hoff hgk 3 rfl (by decide)).trans h_xkr_3) x0_8j2 (fX0_withTold v1j2 s0j2)) hkr hgk (by decide) rfl rfl (gd_V gx422 gx423 gx424 gx39 gx425) rfl rfl (by decide) ⟨Nat.le_of_ble_eq_true rfl, Nat.le_of_ble_eq_true rfl⟩ rfl hl (Nat.le_of_ble_eq_true rfl) ⟨Nat.zero_le _, Nat.zero_le _⟩ dX11_perform_39 (fun H locs hW hS => ?_)
    refine lv_lstore (lv' := [(4, .long (fX7_after xkr_0 xkr_1 xkr_2 xkr_3 x0_8j2 (fX0_withTold v1j2 s0j2))), (3, .int (fX7_valueOf x0_8j2)), (2, .int s0j2), (0, .ref (q 0)), (1, .int v1j2)]) hx hb dX11_perform_42 hl (by decide) rfl (fun ls hl => ?_)
    refine lv_lload hx hb dX11_perform_44 (lv_at hl 0 rfl) ?_
    refine g_SiR (n := 1) hx hb hml hown hG hW hS [.long (fX7_after xkr_0 xkr_1 xkr_2 xkr_3 x0_8j2 (fX0_withTold v1j2 s0j2))] (kX7_outcomeOf hN (fX7_after xkr_0 xkr_1 xkr_2 xkr_3 x0_8j2 (fX0_withTold v1j2 s0j2))) rfl (gd_S gx478 gx479 gx39 gx480) rfl rfl (by decide) ⟨Nat.le_of_ble_eq_true rfl, Nat.le_of_ble_eq_true rfl⟩ rfl hl (Nat.le_of_ble_eq_true rfl) ⟨Nat.zero_le _, Nat.zero_le _⟩ dX11_perform_46 (fun H locs hW hS => ?_)
    refine lv_istore (lv' := [(6, .int (fX7_outcomeOf (fX7_after xkr_0 xkr_1 xkr_2 xkr_3 x0_8j2 (fX0_withTold v1j2 s0j2)))), (4, .long (fX7_after xkr_0 xkr_1 xkr_2 xkr_3 x0_8j2 (fX0_withTold v1j2 s0j2))), (3, .int (fX7_valueOf x0_8j2)), (2, .int s0j2), (0, .ref (q 0)), (1, .int v1j2)]) hx hb dX11_perform_49 hl (by decide) rfl (fun ls hl => ?_)
    refine lv_aload_n hx hb dX11_perform_51 rfl (lv_at hl 4 rfl) ?_
    refine lv_lload hx hb dX11_perform_52 (lv_at hl 1 rfl) ?_
    refine lv_ldc2 (v := 562949953421311) hx hb hown (hG _ gx413) dX11_perform_54 ?_
    refine lv_land hx hb dX11_perform_57 ?_
    refine gp11_8 hx hb hG hown hW hS (o := 0) (ltN hN 0 rfl) gk0 (v := ((fX7_after xkr_0 xkr_1 xkr_2 xkr_3 x0_8j2 (fX0_withTold v1j2 s0j2)) &&& (562949953421311 : Int64))) gx41 dX11_perform_58 (fun m7 H locs hm7 ho7 hW hS => ?_)
    have ho7 := off1 ho7
    have w_x0_8 : m7 8 = .long ((fX7_after xkr_0 xkr_1 xkr_2 xkr_3 x0_8j2 (fX0_withTold v1j2 s0j2)) &&& (562949953421311 : Int64)) := hm7
    have w_x0_9 : m7 9 = .int x0_9j2 := (ho7 9 rfl).trans w_x0_9
    have w_x0_10 : m7 10 = .int x0_10j2 := (ho7 10 rfl).trans w_x0_10
    have w_x2_0 : m7 200 = .int x2_0j2 := (ho7 200 rfl).trans w_x2_0
    have w_x2_1 : m7 201 = .long x2_1j2 := (ho7 201 rfl).trans w_x2_1
    have w_x5_0 : m7 500 = .int x5_0j2 := (ho7 500 rfl).trans w_x5_0
    have w_x5_1 : m7 501 = .long x5_1j2 := (ho7 501 rfl).trans w_x5_1
    have hoff := offm hoff ho7 (by decide +kernel)
    have hsh := SH.off hsh ho7 (by decide +kernel)
    refine lv_aload_n hx hb dX11_perform_61 rfl (lv_at hl 4 rfl) ?_
    refine gf11_0 hx hb hG hown hW (o := 0) (ltN hN 0 rfl) gk0 (v := .ref (q 1)) (sh0_0 hsh) gx15 dX11_perform_62 ?_
    refine lv_iconst (v := 0) hx hb dX11_perform_65 (by decide) ?_
    refine lv_dup2_11 hx hb dX11_perform_66 rfl rfl ?_
    refine g_iald hx hb hW (o := 1) (ltN hN 1 rfl) gk1 w_A1 (vin (by decide)) dX11_perform_67 ?_
    refine lv_iconst (v := 1) hx hb dX11_perform_68 (by decide) ?_
    refine lv_iadd hx hb dX11_perform_69 ?_
    refine g_iast hx hb hW hS (o := 1) (ltN hN 1 rfl) gk1 w_A1 (vin (by decide)) dX11_perform_70 (fun a8 H locs ha8 ho8 hW hS => ?_)
    have ho8 := off1 ho8
    have w_A1 : a8 1 = (8, .inl (upd A1j2 (0 : Int32).toNatClampNeg ((A1j2 (0 : Int32).toNatClampNeg) + 1))) := ha8
    have hoffa := offm hoffa ho8 (by decide +kernel)
    refine lv_iload hx hb dX11_perform_71 (lv_at hl 0 rfl) ?_
    refine lv_iconst (v := 1) hx hb dX11_perform_73 (by decide) ?_
    refine lv_icmp_eq (tgt := 89) hx hb dX11_perform_74 (by decide) (fun c9 => ?_) (fun c9 => ?_)
    · rw [if_pos c9] at hs0
      exact hJ89_0 v1j2 (fX7_after xkr_0 xkr_1 xkr_2 xkr_3 x0_8j2 (fX0_withTold v1j2 s0j2)) (fX7_outcomeOf (fX7_after xkr_0 xkr_1 xkr_2 xkr_3 x0_8j2 (fX0_withTold v1j2 s0j2))) ((fX7_after xkr_0 xkr_1 xkr_2 xkr_3 x0_8j2 (fX0_withTold v1j2 s0j2)) &&& (562949953421311 : Int64)) x0_9j2 x0_10j2 x2_0j2 x2_1j2 x5_0j2 x5_1j2 (upd A1j2 (0 : Int32).toNatClampNeg ((A1j2 (0 : Int32).toNatClampNeg) + 1)) m7 a8 _ _ w_x0_8 w_x0_9 w_x0_10 w_x2_0 w_x2_1 w_x5_0 w_x5_1 hoff hsh w_A1 hoffa ls (lv_sub hl [4, 5, 1, 0] rfl) hs0 hW hS
    · rw [if_neg c9] at hs0
      refine lv_iload hx hb dX11_perform_77 (lv_at hl 0 rfl) ?_
      refine lv_iconst (v := 2) hx hb dX11_perform_79 (by decide) ?_
      refine lv_icmp_eq (tgt := 89) hx hb dX11_perform_80 (by decide) (fun c11 => ?_) (fun c11 => ?_)
      · rw [if_pos c11] at hs0
        exact hJ89_0 v1j2 (fX7_after xkr_0 xkr_1 xkr_2 xkr_3 x0_8j2 (fX0_withTold v1j2 s0j2)) (fX7_outcomeOf (fX7_after xkr_0 xkr_1 xkr_2 xkr_3 x0_8j2 (fX0_withTold v1j2 s0j2))) ((fX7_after xkr_0 xkr_1 xkr_2 xkr_3 x0_8j2 (fX0_withTold v1j2 s0j2)) &&& (562949953421311 : Int64)) x0_9j2 x0_10j2 x2_0j2 x2_1j2 x5_0j2 x5_1j2 (upd A1j2 (0 : Int32).toNatClampNeg ((A1j2 (0 : Int32).toNatClampNeg) + 1)) m7 a8 _ _ w_x0_8 w_x0_9 w_x0_10 w_x2_0 w_x2_1 w_x5_0 w_x5_1 hoff hsh w_A1 hoffa ls (lv_sub hl [4, 5, 1, 0] rfl) hs0 hW hS
      · rw [if_neg c11] at hs0
        refine lv_iload hx hb dX11_perform_83 (lv_at hl 0 rfl) ?_
        refine lv_iconst (v := 3) hx hb dX11_perform_85 (by decide) ?_
        refine lv_icmp_ne (tgt := 116) hx hb dX11_perform_86 (by decide) (fun c12 => ?_) (fun c12 => ?_)
        · rw [if_neg c12] at hs0
          refine lv_iload hx hb dX11_perform_116 (lv_at hl 0 rfl) ?_
          refine lv_iconst (v := 4) hx hb dX11_perform_118 (by decide) ?_
          refine lv_icmp_eq (tgt := 128) hx hb dX11_perform_119 (by decide) (fun c13 => ?_) (fun c13 => ?_)
          · rw [if_pos c13] at hs0
            exact hJ128_0 (fX7_valueOf x0_8j2) (fX7_after xkr_0 xkr_1 xkr_2 xkr_3 x0_8j2 (fX0_withTold v1j2 s0j2)) (fX7_outcomeOf (fX7_after xkr_0 xkr_1 xkr_2 xkr_3 x0_8j2 (fX0_withTold v1j2 s0j2))) ((fX7_after xkr_0 xkr_1 xkr_2 xkr_3 x0_8j2 (fX0_withTold v1j2 s0j2)) &&& (562949953421311 : Int64)) x0_9j2 x0_10j2 x2_0j2 x2_1j2 x5_0j2 x5_1j2 (upd A1j2 (0 : Int32).toNatClampNeg ((A1j2 (0 : Int32).toNatClampNeg) + 1)) m7 a8 _ _ w_x0_8 w_x0_9 w_x0_10 w_x2_0 w_x2_1 w_x5_0 w_x5_1 hoff hsh w_A1 hoffa ls (lv_sub hl [4, 2, 1, 0] rfl) hs0 hW hS
          · rw [if_neg c13] at hs0
            refine lv_iload hx hb dX11_perform_122 (lv_at hl 0 rfl) ?_
            refine lv_iconst (v := 5) hx hb dX11_perform_124 (by decide) ?_
            refine lv_icmp_ne (tgt := 170) hx hb dX11_perform_125 (by decide) (fun c15 => ?_) (fun c15 => ?_)
            · rw [if_neg c15] at hs0
              exact hJ170_0 (fX7_after xkr_0 xkr_1 xkr_2 xkr_3 x0_8j2 (fX0_withTold v1j2 s0j2)) (fX7_outcomeOf (fX7_after xkr_0 xkr_1 xkr_2 xkr_3 x0_8j2 (fX0_withTold v1j2 s0j2))) ((fX7_after xkr_0 xkr_1 xkr_2 xkr_3 x0_8j2 (fX0_withTold v1j2 s0j2)) &&& (562949953421311 : Int64)) x0_9j2 x0_10j2 x2_0j2 x2_1j2 x5_0j2 x5_1j2 (upd A1j2 (0 : Int32).toNatClampNeg ((A1j2 (0 : Int32).toNatClampNeg) + 1)) m7 a8 _ _ w_x0_8 w_x0_9 w_x0_10 w_x2_0 w_x2_1 w_x5_0 w_x5_1 hoff hsh w_A1 hoffa ls (lv_sub hl [4, 1, 0] rfl) hs0 hW hS
            · rw [if_pos c15] at hs0
              exact hJ128_0 (fX7_valueOf x0_8j2) (fX7_after xkr_0 xkr_1 xkr_2 xkr_3 x0_8j2 (fX0_withTold v1j2 s0j2)) (fX7_outcomeOf (fX7_after xkr_0 xkr_1 xkr_2 xkr_3 x0_8j2 (fX0_withTold v1j2 s0j2))) ((fX7_after xkr_0 xkr_1 xkr_2 xkr_3 x0_8j2 (fX0_withTold v1j2 s0j2)) &&& (562949953421311 : Int64)) x0_9j2 x0_10j2 x2_0j2 x2_1j2 x5_0j2 x5_1j2 (upd A1j2 (0 : Int32).toNatClampNeg ((A1j2 (0 : Int32).toNatClampNeg) + 1)) m7 a8 _ _ w_x0_8 w_x0_9 w_x0_10 w_x2_0 w_x2_1 w_x5_0 w_x5_1 hoff hsh w_A1 hoffa ls (lv_sub hl [4, 2, 1, 0] rfl) hs0 hW hS
        · rw [if_pos c12] at hs0
          exact hJ89_0 v1j2 (fX7_after xkr_0 xkr_1 xkr_2 xkr_3 x0_8j2 (fX0_withTold v1j2 s0j2)) (fX7_outcomeOf (fX7_after xkr_0 xkr_1 xkr_2 xkr_3 x0_8j2 (fX0_withTold v1j2 s0j2))) ((fX7_after xkr_0 xkr_1 xkr_2 xkr_3 x0_8j2 (fX0_withTold v1j2 s0j2)) &&& (562949953421311 : Int64)) x0_9j2 x0_10j2 x2_0j2 x2_1j2 x5_0j2 x5_1j2 (upd A1j2 (0 : Int32).toNatClampNeg ((A1j2 (0 : Int32).toNatClampNeg) + 1)) m7 a8 _ _ w_x0_8 w_x0_9 w_x0_10 w_x2_0 w_x2_1 w_x5_0 w_x5_1 hoff hsh w_A1 hoffa ls (lv_sub hl [4, 5, 1, 0] rfl) hs0 hW hS
  refine lv_aload_n hx hb dX11_perform_0 rfl (lv_at hl 0 rfl) ?_
  refine gf11_10 hx hb hG hown hW (o := 0) (ltN hN 0 rfl) gk0 (v := .int x0_10) h_x0_10 gx212 dX11_perform_1 ?_
  refine lv_if_le (tgt := 16) hx hb dX11_perform_4 (by decide) (fun c1 => ?_) (fun c1 => ?_)
  · rw [if_pos c1] at hs0
    refine lv_iconst (v := 0) hx hb dX11_perform_16 (by decide) ?_
    exact hJ17_0 p1 0 x0_8 x0_9 x0_10 x2_0 x2_1 x5_0 x5_1 A1 m0 a0 _ _ h_x0_8 h_x0_9 h_x0_10 h_x2_0 h_x2_1 h_x5_0 h_x5_1 hoff hsh h_A1 hoffa ls (lv_sub hl [0, 1] rfl) hs0 hW hS
  · rw [if_neg c1] at hs0
    refine lv_aload_n hx hb dX11_perform_7 rfl (lv_at hl 0 rfl) ?_
    refine gf11_9 hx hb hG hown hW (o := 0) (ltN hN 0 rfl) gk0 (v := .int x0_9) h_x0_9 gx211 dX11_perform_8 ?_
    refine lv_iconst (v := 1) hx hb dX11_perform_11 (by decide) ?_
    refine lv_iand hx hb dX11_perform_12 ?_
    refine lv_goto (tgt := 17) hx hb dX11_perform_13 (by decide) ?_
    exact hJ17_0 p1 (x0_9 &&& (1 : Int32)) x0_8 x0_9 x0_10 x2_0 x2_1 x5_0 x5_1 A1 m0 a0 _ _ h_x0_8 h_x0_9 h_x0_10 h_x2_0 h_x2_1 h_x5_0 h_x5_1 hoff hsh h_A1 hoffa ls (lv_sub hl [0, 1] rfl) hs0 hW hS
-- HealLink.act (III)I
def fX11_act (xkr_0 : Int32) (xkr_1 : Int32) (xkr_2 : Int32) (xkr_3 : Int32) (x0_8 : Int64) (x0_9 : Int32) (x0_10 : Int32) (x2_0 : Int32) (x2_1 : Int64) (x5_0 : Int32) (x5_1 : Int64) (A1 : Nat → Int32) (p1 : Int32) (p2 : Int32) (p3 : Int32) : Option (Int32 × Int64 × Int32 × Int32 × Int32 × Int64 × Int32 × Int64 × (Nat → Int32)) := (if (fX7_offers xkr_1 x0_8 p1 p2 p3) = 0 then some ((-1), x0_8, x0_9, x0_10, x2_0, x2_1, x5_0, x5_1, A1) else ((fX11_perform xkr_0 xkr_1 xkr_2 xkr_3 x0_8 x0_9 x0_10 x2_0 x2_1 x5_0 x5_1 A1 (fX0_codeOf p1 p2 p3)).bind (fun r4 => some (r4.1, r4.2.1, r4.2.2.1, r4.2.2.2.1, r4.2.2.2.2.1, r4.2.2.2.2.2.1, r4.2.2.2.2.2.2.1, r4.2.2.2.2.2.2.2.1, r4.2.2.2.2.2.2.2.2))))
theorem dX11_act_0 : decode cX11_act 0 = .ok (.aload_n 0, 1) := by decide +kernel
theorem dX11_act_1 : decode cX11_act 1 = .ok (.getfield 56, 3) := by decide +kernel
theorem dX11_act_4 : decode cX11_act 4 = .ok (.aload_n 0, 1) := by decide +kernel
theorem dX11_act_5 : decode cX11_act 5 = .ok (.getfield 64, 3) := by decide +kernel
theorem dX11_act_8 : decode cX11_act 8 = .ok (.iload_n 1, 1) := by decide +kernel
theorem dX11_act_9 : decode cX11_act 9 = .ok (.iload_n 2, 1) := by decide +kernel
theorem dX11_act_10 : decode cX11_act 10 = .ok (.iload_n 3, 1) := by decide +kernel
theorem dX11_act_11 : decode cX11_act 11 = .ok (.invokevirtual 154, 3) := by decide +kernel
theorem dX11_act_14 : decode cX11_act 14 = .ok (.ifCond .ne 5, 3) := by decide +kernel
theorem dX11_act_17 : decode cX11_act 17 = .ok (.iconst (-1), 1) := by decide +kernel
theorem dX11_act_18 : decode cX11_act 18 = .ok (.ireturn, 1) := by decide +kernel
theorem dX11_act_19 : decode cX11_act 19 = .ok (.aload_n 0, 1) := by decide +kernel
theorem dX11_act_20 : decode cX11_act 20 = .ok (.iload_n 1, 1) := by decide +kernel
theorem dX11_act_21 : decode cX11_act 21 = .ok (.iload_n 2, 1) := by decide +kernel
theorem dX11_act_22 : decode cX11_act 22 = .ok (.iload_n 3, 1) := by decide +kernel
theorem dX11_act_23 : decode cX11_act 23 = .ok (.invokestatic 158, 3) := by decide +kernel
theorem dX11_act_26 : decode cX11_act 26 = .ok (.invokevirtual 162, 3) := by decide +kernel
theorem dX11_act_29 : decode cX11_act 29 = .ok (.ireturn, 1) := by decide +kernel
set_option maxHeartbeats 4000000 in
set_option maxRecDepth 100000 in
theorem kX11_act {l : Launch} {D : va_G} {cy : Nat → ClassId} {N : Nat} {q : Nat → Nat} {m0 : Nat → Value} {a0 : Nat → vp_A} {sz : Nat} (hN : 105 ≤ N) (hsh : SH q m0) {kr : Nat} (hkr : kr < N) (hgk : gk kr = 7) (hrf : m0 7 = .ref (q kr)) {xkr_0 : Int32} (h_xkr_0 : m0 (100 * kr + 0) = .int xkr_0) {xkr_1 : Int32} (h_xkr_1 : m0 (100 * kr + 1) = .int xkr_1) {xkr_2 : Int32} (h_xkr_2 : m0 (100 * kr + 2) = .int xkr_2) {xkr_3 : Int32} (h_xkr_3 : m0 (100 * kr + 3) = .int xkr_3) {x0_8 : Int64} (h_x0_8 : m0 8 = .long x0_8) {x0_9 : Int32} (h_x0_9 : m0 9 = .int x0_9) {x0_10 : Int32} (h_x0_10 : m0 10 = .int x0_10) {x2_0 : Int32} (h_x2_0 : m0 200 = .int x2_0) {x2_1 : Int64} (h_x2_1 : m0 201 = .long x2_1) {x5_0 : Int32} (h_x5_0 : m0 500 = .int x5_0) {x5_1 : Int64} (h_x5_1 : m0 501 = .long x5_1) {A1 : Nat → Int32} (h_A1 : a0 1 = (8, .inl A1)) (p1 : Int32) (p2 : Int32) (p3 : Int32) {X0 : Int32 × Int64 × Int32 × Int32 × Int32 × Int64 × Int32 × Int64 × (Nat → Int32)} (hs0 : fX11_act xkr_0 xkr_1 xkr_2 xkr_3 x0_8 x0_9 x0_10 x2_0 x2_1 x5_0 x5_1 A1 p1 p2 p3 = some X0) : gMi l yX11_act cX11_act 4 (some .int) ({ frames := 5, cells := 0, slots := 0, locals := 123 } : Room) D cy N q m0 a0 sz [.ref (q 0), .int p1, .int p2, .int p3] (fun r m' a' => r = X0.1 ∧ m' 8 = .long X0.2.1 ∧ m' 9 = .int X0.2.2.1 ∧ m' 10 = .int X0.2.2.2.1 ∧ m' 200 = .int X0.2.2.2.2.1 ∧ m' 201 = .long X0.2.2.2.2.2.1 ∧ m' 500 = .int X0.2.2.2.2.2.2.1 ∧ m' 501 = .long X0.2.2.2.2.2.2.2.1 ∧ (∀ j, nel j [8, 9, 10, 200, 201, 500, 501] = false → m' j = m0 j) ∧ a' 1 = (8, .inl X0.2.2.2.2.2.2.2.2) ∧ (∀ j, nel j [1] = false → a' j = a0 j)) := by
  refine g_ofi (by decide) (Nat.le_of_ble_eq_true rfl) ?_
  intro p e s M args below meth c hx hb hr hG hown hin hlocks hml hW hS ls hl
  unfold fX11_act at hs0
  have hoff : ∀ j, nel j [8, 9, 10, 200, 201, 500, 501] = false → m0 j = m0 j := off0
  have hoffa : ∀ j, nel j [1] = false → a0 j = a0 j := off0
  refine lv_aload_n hx hb dX11_act_0 rfl (lv_at hl 0 rfl) ?_
  refine gf11_7 hx hb hG hown hW (o := 0) (ltN hN 0 rfl) gk0 (v := .ref (q kr)) ((hoff 7 rfl).trans hrf) gx40 dX11_act_1 ?_
  refine lv_aload_n hx hb dX11_act_4 rfl (lv_at hl 0 rfl) ?_
  refine gf11_8 hx hb hG hown hW (o := 0) (ltN hN 0 rfl) gk0 (v := .long x0_8) h_x0_8 gx41 dX11_act_5 ?_
  refine lv_iload_n hx hb dX11_act_8 rfl (lv_at hl 1 rfl) ?_
  refine lv_iload_n hx hb dX11_act_9 rfl (lv_at hl 2 rfl) ?_
  refine lv_iload_n hx hb dX11_act_10 rfl (lv_at hl 3 rfl) ?_
  refine g_ViR (n := 4) hx hb hml hown hG hW hS [.long x0_8, .int p1, .int p2, .int p3] (kX7_offers hN hkr hgk ((off_kr hoff hgk 1 rfl (by decide)).trans h_xkr_1) x0_8 p1 p2 p3) hkr hgk (by decide) rfl rfl (gd_V gx398 gx399 gx400 gx39 gx401) rfl rfl (by decide) ⟨Nat.le_of_ble_eq_true rfl, Nat.le_of_ble_eq_true rfl⟩ rfl hl (Nat.le_of_ble_eq_true rfl) ⟨Nat.zero_le _, Nat.zero_le _⟩ dX11_act_11 (fun H locs hW hS => ?_)
  refine lv_if_ne (tgt := 19) hx hb dX11_act_14 (by decide) (fun c2 => ?_) (fun c2 => ?_)
  · rw [if_neg c2] at hs0
    refine lv_aload_n hx hb dX11_act_19 rfl (lv_at hl 0 rfl) ?_
    refine lv_iload_n hx hb dX11_act_20 rfl (lv_at hl 1 rfl) ?_
    refine lv_iload_n hx hb dX11_act_21 rfl (lv_at hl 2 rfl) ?_
    refine lv_iload_n hx hb dX11_act_22 rfl (lv_at hl 3 rfl) ?_
    refine g_SiR (n := 3) hx hb hml hown hG hW hS [.int p1, .int p2, .int p3] (kX0_codeOf hN p1 p2 p3) rfl (gd_S gx406 gx407 gx23 gx408) rfl rfl (by decide) ⟨Nat.le_of_ble_eq_true rfl, Nat.le_of_ble_eq_true rfl⟩ rfl hl (Nat.le_of_ble_eq_true rfl) ⟨Nat.zero_le _, Nat.zero_le _⟩ dX11_act_23 (fun H locs hW hS => ?_)
    obtain ⟨r4, hf4, hs0⟩ := obind hs0
    refine g_Vi (n := 1) hx hb hml hown hG hW hS [.int (fX0_codeOf p1 p2 p3)] (kX11_perform hN hsh hkr hgk ((hoff 7 rfl).trans hrf) ((off_kr hoff hgk 0 rfl (by decide)).trans h_xkr_0) ((off_kr hoff hgk 1 rfl (by decide)).trans h_xkr_1) ((off_kr hoff hgk 2 rfl (by decide)).trans h_xkr_2) ((off_kr hoff hgk 3 rfl (by decide)).trans h_xkr_3) h_x0_8 h_x0_9 h_x0_10 h_x2_0 h_x2_1 h_x5_0 h_x5_1 h_A1 (fX0_codeOf p1 p2 p3) hf4) (ltN hN 0 rfl) gk0 (by decide) rfl rfl (gd_V gx409 gx410 gx411 gx2 gx412) rfl rfl (by decide) ⟨Nat.le_of_ble_eq_true rfl, Nat.le_of_ble_eq_true rfl⟩ rfl hl (Nat.le_of_ble_eq_true rfl) ⟨Nat.zero_le _, Nat.zero_le _⟩ dX11_act_26 (fun x4 m4 a4 H locs hp4 hW hS => ?_)
    obtain ⟨hx4, hp4_x0_8, hp4_x0_9, hp4_x0_10, hp4_x2_0, hp4_x2_1, hp4_x5_0, hp4_x5_1, ho4, hp4_A1, hoa4⟩ := hp4
    subst hx4
    have w_x0_8 : m4 8 = .long r4.2.1 := hp4_x0_8
    have w_x0_9 : m4 9 = .int r4.2.2.1 := hp4_x0_9
    have w_x0_10 : m4 10 = .int r4.2.2.2.1 := hp4_x0_10
    have w_x2_0 : m4 200 = .int r4.2.2.2.2.1 := hp4_x2_0
    have w_x2_1 : m4 201 = .long r4.2.2.2.2.2.1 := hp4_x2_1
    have w_x5_0 : m4 500 = .int r4.2.2.2.2.2.2.1 := hp4_x5_0
    have w_x5_1 : m4 501 = .long r4.2.2.2.2.2.2.2.1 := hp4_x5_1
    have hoff := offm hoff ho4 (by decide +kernel)
    have hsh := SH.off hsh ho4 (by decide +kernel)
    have w_A1 : a4 1 = (8, .inl r4.2.2.2.2.2.2.2.2) := hp4_A1
    have hoffa := offm hoffa hoa4 (by decide +kernel)
    have hs0 := Option.some.inj hs0
    subst hs0
    exact W.zret hx hb hr rfl (fun t ht hw => ⟨⟨_, (m4, a4), rfl, ⟨rfl, w_x0_8, w_x0_9, w_x0_10, w_x2_0, w_x2_1, w_x5_0, w_x5_1, hoff, w_A1, hoffa⟩, g_end hW ht hw⟩, hS.F ht⟩) hS.2.2 dX11_act_29 hlocks
  · rw [if_pos c2] at hs0
    refine lv_iconst (v := (-1)) hx hb dX11_act_17 (by decide) ?_
    have hs0 := Option.some.inj hs0
    subst hs0
    exact W.zret hx hb hr rfl (fun t ht hw => ⟨⟨_, (m0, a0), rfl, ⟨rfl, h_x0_8, h_x0_9, h_x0_10, h_x2_0, h_x2_1, h_x5_0, h_x5_1, hoff, h_A1, hoffa⟩, g_end hW ht hw⟩, hS.F ht⟩) hS.2.2 dX11_act_18 hlocks
-- HealLink.run (IIZ)I
def fX11_run_J110 (F : Nat) (xkr_0 : Int32) (xkr_1 : Int32) (xkr_2 : Int32) (xkr_3 : Int32) (v1 : Int32) (v3 : Int32) (v4 : Int32) (v5j10 : Int32) (v6j10 : Int32) (x0_8j10 : Int64) (x0_9j10 : Int32) (x0_10j10 : Int32) (x2_0j10 : Int32) (x2_1j10 : Int64) (x5_0j10 : Int32) (x5_1j10 : Int64) (x8_1j10 : Int32) (x8_2j10 : Int32) (A1j10 : Nat → Int32) (A10j10 : Nat → Int32) : Option ((Int64 × Int32 × Int32 × Int32 × Int64 × Int32 × Int64 × Int32 × Int32 × (Nat → Int32) × (Nat → Int32)) ⊕ (Int32 × Int32 × Int64 × Int32 × Int32 × Int32 × Int64 × Int32 × Int64 × Int32 × Int32 × (Nat → Int32) × (Nat → Int32))) := some (Sum.inr (v5j10, v6j10 + 1, x0_8j10, x0_9j10, x0_10j10, x2_0j10, x2_1j10, x5_0j10, x5_1j10, x8_1j10, x8_2j10, A1j10, A10j10))
def fX11_run_J80 (F : Nat) (xkr_0 : Int32) (xkr_1 : Int32) (xkr_2 : Int32) (xkr_3 : Int32) (v1 : Int32) (v3 : Int32) (v4 : Int32) (v5j8 : Int32) (v6j8 : Int32) (s0j8 : Int32) (x0_8j8 : Int64) (x0_9j8 : Int32) (x0_10j8 : Int32) (x2_0j8 : Int32) (x2_1j8 : Int64) (x5_0j8 : Int32) (x5_1j8 : Int64) (x8_1j8 : Int32) (x8_2j8 : Int32) (A1j8 : Nat → Int32) (A10j8 : Nat → Int32) : Option ((Int64 × Int32 × Int32 × Int32 × Int64 × Int32 × Int64 × Int32 × Int32 × (Nat → Int32) × (Nat → Int32)) ⊕ (Int32 × Int32 × Int64 × Int32 × Int32 × Int32 × Int64 × Int32 × Int64 × Int32 × Int32 × (Nat → Int32) × (Nat → Int32))) := (if s0j8 ≤ 0 then fX11_run_J110 F xkr_0 xkr_1 xkr_2 xkr_3 v1 v3 v4 v5j8 v6j8 x0_8j8 x0_9j8 x0_10j8 x2_0j8 x2_1j8 x5_0j8 x5_1j8 x8_1j8 x8_2j8 A1j8 A10j8 else (if ¬ s0j8 = 0 then ((fX11_perform xkr_0 xkr_1 xkr_2 xkr_3 x0_8j8 x0_9j8 x0_10j8 x2_0j8 x2_1j8 x5_0j8 x5_1j8 A1j8 (cAt 10 A10j8 (((v5j8.toUInt32 >>> ((8 : Int32).toUInt32 &&& Int32.toUInt32 31)).toInt32) - ((v5j8.toUInt32 >>> ((8 : Int32).toUInt32 &&& Int32.toUInt32 31)).toInt32) / s0j8 * s0j8))).bind (fun r13 => fX11_run_J110 F xkr_0 xkr_1 xkr_2 xkr_3 v1 v3 v4 v5j8 v6j8 r13.2.1 r13.2.2.1 r13.2.2.2.1 r13.2.2.2.2.1 r13.2.2.2.2.2.1 r13.2.2.2.2.2.2.1 r13.2.2.2.2.2.2.2.1 x8_1j8 x8_2j8 r13.2.2.2.2.2.2.2.2 A10j8)) else none))
def fX11_run_S26 (F : Nat) (xkr_0 : Int32) (xkr_1 : Int32) (xkr_2 : Int32) (xkr_3 : Int32) (v1 : Int32) (v3 : Int32) (v4 : Int32) (v5 : Int32) (v6 : Int32) (x0_8 : Int64) (x0_9 : Int32) (x0_10 : Int32) (x2_0 : Int32) (x2_1 : Int64) (x5_0 : Int32) (x5_1 : Int64) (x8_1 : Int32) (x8_2 : Int32) (A1 : Nat → Int32) (A10 : Nat → Int32) : Option ((Int64 × Int32 × Int32 × Int32 × Int64 × Int32 × Int64 × Int32 × Int32 × (Nat → Int32) × (Nat → Int32)) ⊕ (Int32 × Int32 × Int64 × Int32 × Int32 × Int32 × Int64 × Int32 × Int64 × Int32 × Int32 × (Nat → Int32) × (Nat → Int32))) := (if v1 ≤ v6 then some (Sum.inl (x0_8, x0_9, x0_10, x2_0, x2_1, x5_0, x5_1, x8_1, x8_2, A1, A10)) else ((fX0_list F xkr_1 xkr_2 x8_1 x8_2 A10 x0_8 0).bind (fun r6 => (if v3 = 0 then fX11_run_J80 F xkr_0 xkr_1 xkr_2 xkr_3 v1 v3 v4 ((v5 * 1103515245) + 12345) v6 r6.2.1 x0_8 x0_9 x0_10 x2_0 x2_1 x5_0 x5_1 r6.1 r6.2.1 A1 r6.2.2 else fX11_run_J80 F xkr_0 xkr_1 xkr_2 xkr_3 v1 v3 v4 ((v5 * 1103515245) + 12345) v6 r6.1 x0_8 x0_9 x0_10 x2_0 x2_1 x5_0 x5_1 r6.1 r6.2.1 A1 r6.2.2))))
def fX11_run (F : Nat) (xkr_0 : Int32) (xkr_1 : Int32) (xkr_2 : Int32) (xkr_3 : Int32) (x0_8 : Int64) (x0_9 : Int32) (x0_10 : Int32) (x2_0 : Int32) (x2_1 : Int64) (x5_0 : Int32) (x5_1 : Int64) (x8_1 : Int32) (x8_2 : Int32) (A1 : Nat → Int32) (A10 : Nat → Int32) (p1 : Int32) (p2 : Int32) (p3 : Int32) : Option (Int32 × Int64 × Int32 × Int32 × Int32 × Int64 × Int32 × Int64 × Int32 × Int32 × (Nat → Int32) × (Nat → Int32)) := (if p1 < 1 then some ((-1), x0_8, x0_9, x0_10, x2_0, x2_1, x5_0, x5_1, x8_1, x8_2, A1, A10) else (if p1 ≤ 200 then ((fX11_badOnes A1).bind (fun r3 => (gloop (fun u4 : (Int32 × Int32 × Int64 × Int32 × Int32 × Int32 × Int64 × Int32 × Int64 × Int32 × Int32 × (Nat → Int32) × (Nat → Int32)) => fX11_run_S26 F xkr_0 xkr_1 xkr_2 xkr_3 p1 p3 r3 u4.1 u4.2.1 u4.2.2.1 u4.2.2.2.1 u4.2.2.2.2.1 u4.2.2.2.2.2.1 u4.2.2.2.2.2.2.1 u4.2.2.2.2.2.2.2.1 u4.2.2.2.2.2.2.2.2.1 u4.2.2.2.2.2.2.2.2.2.1 u4.2.2.2.2.2.2.2.2.2.2.1 u4.2.2.2.2.2.2.2.2.2.2.2.1 u4.2.2.2.2.2.2.2.2.2.2.2.2) F (p2, 0, x0_8, x0_9, x0_10, x2_0, x2_1, x5_0, x5_1, x8_1, x8_2, A1, A10)).bind (fun t4_116 => ((fX11_badOnes t4_116.2.2.2.2.2.2.2.2.2.1).bind (fun r14 => some (r14 - r3, t4_116.1, t4_116.2.1, t4_116.2.2.1, t4_116.2.2.2.1, t4_116.2.2.2.2.1, t4_116.2.2.2.2.2.1, t4_116.2.2.2.2.2.2.1, t4_116.2.2.2.2.2.2.2.1, t4_116.2.2.2.2.2.2.2.2.1, t4_116.2.2.2.2.2.2.2.2.2.1, t4_116.2.2.2.2.2.2.2.2.2.2)))))) else some ((-1), x0_8, x0_9, x0_10, x2_0, x2_1, x5_0, x5_1, x8_1, x8_2, A1, A10)))
theorem dX11_run_0 : decode cX11_run 0 = .ok (.iload_n 1, 1) := by decide +kernel
theorem dX11_run_1 : decode cX11_run 1 = .ok (.iconst 1, 1) := by decide +kernel
theorem dX11_run_2 : decode cX11_run 2 = .ok (.if_icmp .lt 10, 3) := by decide +kernel
theorem dX11_run_5 : decode cX11_run 5 = .ok (.iload_n 1, 1) := by decide +kernel
theorem dX11_run_6 : decode cX11_run 6 = .ok (.sipush 200, 3) := by decide +kernel
theorem dX11_run_9 : decode cX11_run 9 = .ok (.if_icmp .le 5, 3) := by decide +kernel
theorem dX11_run_12 : decode cX11_run 12 = .ok (.iconst (-1), 1) := by decide +kernel
theorem dX11_run_13 : decode cX11_run 13 = .ok (.ireturn, 1) := by decide +kernel
theorem dX11_run_14 : decode cX11_run 14 = .ok (.aload_n 0, 1) := by decide +kernel
theorem dX11_run_15 : decode cX11_run 15 = .ok (.invokevirtual 165, 3) := by decide +kernel
theorem dX11_run_18 : decode cX11_run 18 = .ok (.istore 4, 2) := by decide +kernel
theorem dX11_run_20 : decode cX11_run 20 = .ok (.iload_n 2, 1) := by decide +kernel
theorem dX11_run_21 : decode cX11_run 21 = .ok (.istore 5, 2) := by decide +kernel
theorem dX11_run_23 : decode cX11_run 23 = .ok (.iconst 0, 1) := by decide +kernel
theorem dX11_run_24 : decode cX11_run 24 = .ok (.istore 6, 2) := by decide +kernel
theorem dX11_run_26 : decode cX11_run 26 = .ok (.iload 6, 2) := by decide +kernel
theorem dX11_run_28 : decode cX11_run 28 = .ok (.iload_n 1, 1) := by decide +kernel
theorem dX11_run_29 : decode cX11_run 29 = .ok (.if_icmp .ge 87, 3) := by decide +kernel
theorem dX11_run_32 : decode cX11_run 32 = .ok (.iload 5, 2) := by decide +kernel
theorem dX11_run_34 : decode cX11_run 34 = .ok (.ldc 169, 2) := by decide +kernel
theorem dX11_run_36 : decode cX11_run 36 = .ok (.imul, 1) := by decide +kernel
theorem dX11_run_37 : decode cX11_run 37 = .ok (.sipush 12345, 3) := by decide +kernel
theorem dX11_run_40 : decode cX11_run 40 = .ok (.iadd, 1) := by decide +kernel
theorem dX11_run_41 : decode cX11_run 41 = .ok (.istore 5, 2) := by decide +kernel
theorem dX11_run_43 : decode cX11_run 43 = .ok (.aload_n 0, 1) := by decide +kernel
theorem dX11_run_44 : decode cX11_run 44 = .ok (.getfield 26, 3) := by decide +kernel
theorem dX11_run_47 : decode cX11_run 47 = .ok (.aload_n 0, 1) := by decide +kernel
theorem dX11_run_48 : decode cX11_run 48 = .ok (.getfield 56, 3) := by decide +kernel
theorem dX11_run_51 : decode cX11_run 51 = .ok (.aload_n 0, 1) := by decide +kernel
theorem dX11_run_52 : decode cX11_run 52 = .ok (.getfield 64, 3) := by decide +kernel
theorem dX11_run_55 : decode cX11_run 55 = .ok (.iconst 0, 1) := by decide +kernel
theorem dX11_run_56 : decode cX11_run 56 = .ok (.invokevirtual 170, 3) := by decide +kernel
theorem dX11_run_59 : decode cX11_run 59 = .ok (.iload_n 3, 1) := by decide +kernel
theorem dX11_run_60 : decode cX11_run 60 = .ok (.ifCond .eq 13, 3) := by decide +kernel
theorem dX11_run_63 : decode cX11_run 63 = .ok (.aload_n 0, 1) := by decide +kernel
theorem dX11_run_64 : decode cX11_run 64 = .ok (.getfield 26, 3) := by decide +kernel
theorem dX11_run_67 : decode cX11_run 67 = .ok (.getfield 174, 3) := by decide +kernel
theorem dX11_run_70 : decode cX11_run 70 = .ok (.goto 10, 3) := by decide +kernel
theorem dX11_run_73 : decode cX11_run 73 = .ok (.aload_n 0, 1) := by decide +kernel
theorem dX11_run_74 : decode cX11_run 74 = .ok (.getfield 26, 3) := by decide +kernel
theorem dX11_run_77 : decode cX11_run 77 = .ok (.getfield 177, 3) := by decide +kernel
theorem dX11_run_80 : decode cX11_run 80 = .ok (.istore 7, 2) := by decide +kernel
theorem dX11_run_82 : decode cX11_run 82 = .ok (.iload 7, 2) := by decide +kernel
theorem dX11_run_84 : decode cX11_run 84 = .ok (.ifCond .le 26, 3) := by decide +kernel
theorem dX11_run_87 : decode cX11_run 87 = .ok (.aload_n 0, 1) := by decide +kernel
theorem dX11_run_88 : decode cX11_run 88 = .ok (.aload_n 0, 1) := by decide +kernel
theorem dX11_run_89 : decode cX11_run 89 = .ok (.getfield 26, 3) := by decide +kernel
theorem dX11_run_92 : decode cX11_run 92 = .ok (.getfield 180, 3) := by decide +kernel
theorem dX11_run_95 : decode cX11_run 95 = .ok (.iload 5, 2) := by decide +kernel
theorem dX11_run_97 : decode cX11_run 97 = .ok (.bipush 8, 2) := by decide +kernel
theorem dX11_run_99 : decode cX11_run 99 = .ok (.iushr, 1) := by decide +kernel
theorem dX11_run_100 : decode cX11_run 100 = .ok (.iload 7, 2) := by decide +kernel
theorem dX11_run_102 : decode cX11_run 102 = .ok (.irem, 1) := by decide +kernel
theorem dX11_run_103 : decode cX11_run 103 = .ok (.invokevirtual 184, 3) := by decide +kernel
theorem dX11_run_106 : decode cX11_run 106 = .ok (.invokevirtual 162, 3) := by decide +kernel
theorem dX11_run_109 : decode cX11_run 109 = .ok (.pop, 1) := by decide +kernel
theorem dX11_run_110 : decode cX11_run 110 = .ok (.iinc 6 1, 3) := by decide +kernel
theorem dX11_run_113 : decode cX11_run 113 = .ok (.goto (-87), 3) := by decide +kernel
theorem dX11_run_116 : decode cX11_run 116 = .ok (.aload_n 0, 1) := by decide +kernel
theorem dX11_run_117 : decode cX11_run 117 = .ok (.invokevirtual 165, 3) := by decide +kernel
theorem dX11_run_120 : decode cX11_run 120 = .ok (.iload 4, 2) := by decide +kernel
theorem dX11_run_122 : decode cX11_run 122 = .ok (.isub, 1) := by decide +kernel
theorem dX11_run_123 : decode cX11_run 123 = .ok (.ireturn, 1) := by decide +kernel
set_option maxHeartbeats 4000000 in
set_option maxRecDepth 100000 in
theorem kX11_run {l : Launch} {D : va_G} {cy : Nat → ClassId} {N : Nat} {q : Nat → Nat} {m0 : Nat → Value} {a0 : Nat → vp_A} {sz : Nat} (hN : 105 ≤ N) (hsh : SH q m0) {kr : Nat} (hkr : kr < N) (hgk : gk kr = 7) (hrf : m0 7 = .ref (q kr)) {xkr_0 : Int32} (h_xkr_0 : m0 (100 * kr + 0) = .int xkr_0) {xkr_1 : Int32} (h_xkr_1 : m0 (100 * kr + 1) = .int xkr_1) {xkr_2 : Int32} (h_xkr_2 : m0 (100 * kr + 2) = .int xkr_2) {xkr_3 : Int32} (h_xkr_3 : m0 (100 * kr + 3) = .int xkr_3) {x0_8 : Int64} (h_x0_8 : m0 8 = .long x0_8) {x0_9 : Int32} (h_x0_9 : m0 9 = .int x0_9) {x0_10 : Int32} (h_x0_10 : m0 10 = .int x0_10) {x2_0 : Int32} (h_x2_0 : m0 200 = .int x2_0) {x2_1 : Int64} (h_x2_1 : m0 201 = .long x2_1) {x5_0 : Int32} (h_x5_0 : m0 500 = .int x5_0) {x5_1 : Int64} (h_x5_1 : m0 501 = .long x5_1) {x8_1 : Int32} (h_x8_1 : m0 801 = .int x8_1) {x8_2 : Int32} (h_x8_2 : m0 802 = .int x8_2) {A1 : Nat → Int32} (h_A1 : a0 1 = (8, .inl A1)) {A10 : Nat → Int32} (h_A10 : a0 10 = (10, .inl A10)) (F : Nat) (p1 : Int32) (p2 : Int32) (p3 : Int32) {X0 : Int32 × Int64 × Int32 × Int32 × Int32 × Int64 × Int32 × Int64 × Int32 × Int32 × (Nat → Int32) × (Nat → Int32)} (hs0 : fX11_run F xkr_0 xkr_1 xkr_2 xkr_3 x0_8 x0_9 x0_10 x2_0 x2_1 x5_0 x5_1 x8_1 x8_2 A1 A10 p1 p2 p3 = some X0) : gMi l yX11_run cX11_run 8 (some .int) ({ frames := 5, cells := 0, slots := 0, locals := 123 } : Room) D cy N q m0 a0 sz [.ref (q 0), .int p1, .int p2, .int p3] (fun r m' a' => r = X0.1 ∧ m' 8 = .long X0.2.1 ∧ m' 9 = .int X0.2.2.1 ∧ m' 10 = .int X0.2.2.2.1 ∧ m' 200 = .int X0.2.2.2.2.1 ∧ m' 201 = .long X0.2.2.2.2.2.1 ∧ m' 500 = .int X0.2.2.2.2.2.2.1 ∧ m' 501 = .long X0.2.2.2.2.2.2.2.1 ∧ m' 801 = .int X0.2.2.2.2.2.2.2.2.1 ∧ m' 802 = .int X0.2.2.2.2.2.2.2.2.2.1 ∧ (∀ j, nel j [8, 9, 10, 200, 201, 500, 501, 801, 802] = false → m' j = m0 j) ∧ a' 1 = (8, .inl X0.2.2.2.2.2.2.2.2.2.2.1) ∧ a' 10 = (10, .inl X0.2.2.2.2.2.2.2.2.2.2.2) ∧ (∀ j, nel j [1, 10] = false → a' j = a0 j)) := by
  refine g_ofi (by decide) (Nat.le_of_ble_eq_true rfl) ?_
  intro p e s M args below meth c hx hb hr hG hown hin hlocks hml hW hS ls hl
  unfold fX11_run at hs0
  have hoff : ∀ j, nel j [8, 9, 10, 200, 201, 500, 501, 801, 802] = false → m0 j = m0 j := off0
  have hoffa : ∀ j, nel j [1, 10] = false → a0 j = a0 j := off0
  refine lv_iload_n hx hb dX11_run_0 rfl (lv_at hl 1 rfl) ?_
  refine lv_iconst (v := 1) hx hb dX11_run_1 (by decide) ?_
  refine lv_icmp_lt (tgt := 12) hx hb dX11_run_2 (by decide) (fun c1 => ?_) (fun c1 => ?_)
  · rw [if_pos c1] at hs0
    refine lv_iconst (v := (-1)) hx hb dX11_run_12 (by decide) ?_
    have hs0 := Option.some.inj hs0
    subst hs0
    exact W.zret hx hb hr rfl (fun t ht hw => ⟨⟨_, (m0, a0), rfl, ⟨rfl, h_x0_8, h_x0_9, h_x0_10, h_x2_0, h_x2_1, h_x5_0, h_x5_1, h_x8_1, h_x8_2, hoff, h_A1, h_A10, hoffa⟩, g_end hW ht hw⟩, hS.F ht⟩) hS.2.2 dX11_run_13 hlocks
  · rw [if_neg c1] at hs0
    refine lv_iload_n hx hb dX11_run_5 rfl (lv_at hl 1 rfl) ?_
    refine lv_sipush (v := 200) hx hb dX11_run_6 (by decide) ?_
    refine lv_icmp_le (tgt := 14) hx hb dX11_run_9 (by decide) (fun c2 => ?_) (fun c2 => ?_)
    · rw [if_pos c2] at hs0
      refine lv_aload_n hx hb dX11_run_14 rfl (lv_at hl 0 rfl) ?_
      obtain ⟨r3, hf3, hs0⟩ := obind hs0
      refine g_ViR (n := 0) hx hb hml hown hG hW hS [] (kX11_badOnes hN hsh h_A1 hf3) (ltN hN 0 rfl) gk0 (by decide) rfl rfl (gd_V gx535 gx536 gx537 gx2 gx538) rfl rfl (by decide) ⟨Nat.le_of_ble_eq_true rfl, Nat.le_of_ble_eq_true rfl⟩ rfl hl (Nat.le_of_ble_eq_true rfl) ⟨Nat.zero_le _, Nat.zero_le _⟩ dX11_run_15 (fun H locs hW hS => ?_)
      refine lv_istore (lv' := [(4, .int r3), (0, .ref (q 0)), (1, .int p1), (2, .int p2), (3, .int p3)]) hx hb dX11_run_18 hl (by decide) rfl (fun ls hl => ?_)
      refine lv_iload_n hx hb dX11_run_20 rfl (lv_at hl 3 rfl) ?_
      refine lv_istore (lv' := [(5, .int p2), (4, .int r3), (0, .ref (q 0)), (1, .int p1), (2, .int p2), (3, .int p3)]) hx hb dX11_run_21 hl (by decide) rfl (fun ls hl => ?_)
      refine lv_iconst (v := 0) hx hb dX11_run_23 (by decide) ?_
      refine lv_istore (lv' := [(6, .int 0), (5, .int p2), (4, .int r3), (0, .ref (q 0)), (1, .int p1), (2, .int p2), (3, .int p3)]) hx hb dX11_run_24 hl (by decide) rfl (fun ls hl => ?_)
      obtain ⟨r4, hg4, hs0⟩ := obind hs0
      have hE1_116 : ∀ (t4_116 : Int64 × Int32 × Int32 × Int32 × Int64 × Int32 × Int64 × Int32 × Int32 × (Nat → Int32) × (Nat → Int32)) (hr4 : t4_116 = r4) (m : Nat → Value) (a : Nat → vp_A) (H : Heap) (locs : List Loc) (w_x0_8 : m 8 = .long t4_116.1) (w_x0_9 : m 9 = .int t4_116.2.1) (w_x0_10 : m 10 = .int t4_116.2.2.1) (w_x2_0 : m 200 = .int t4_116.2.2.2.1) (w_x2_1 : m 201 = .long t4_116.2.2.2.2.1) (w_x5_0 : m 500 = .int t4_116.2.2.2.2.2.1) (w_x5_1 : m 501 = .long t4_116.2.2.2.2.2.2.1) (w_x8_1 : m 801 = .int t4_116.2.2.2.2.2.2.2.1) (w_x8_2 : m 802 = .int t4_116.2.2.2.2.2.2.2.2.1) (hoff : ∀ j, nel j [8, 9, 10, 200, 201, 500, 501, 801, 802] = false → m j = m0 j) (hsh : SH q m) (w_A1 : a 1 = (8, .inl t4_116.2.2.2.2.2.2.2.2.2.1)) (w_A10 : a 10 = (10, .inl t4_116.2.2.2.2.2.2.2.2.2.2)) (hoffa : ∀ j, nel j [1, 10] = false → a j = a0 j) (ls : Array Slot) (hl : lv_has ls 8 [(0, .ref (q 0)), (4, .int r3)]) (hW : GW D cy (gA N q s.heap.size) N q m a s H) (hS : va_S (gA N q s.heap.size) s.heap H locs), W p l e ({ frames := 5, cells := 0, slots := 0, locals := 123 } : Room) s M args below meth c H locs 0 0 (MQ below (va_Qi (fun (r : Int32) (u : (Nat → Value) × (Nat → vp_A)) => r = X0.1 ∧ u.1 8 = .long X0.2.1 ∧ u.1 9 = .int X0.2.2.1 ∧ u.1 10 = .int X0.2.2.2.1 ∧ u.1 200 = .int X0.2.2.2.2.1 ∧ u.1 201 = .long X0.2.2.2.2.2.1 ∧ u.1 500 = .int X0.2.2.2.2.2.2.1 ∧ u.1 501 = .long X0.2.2.2.2.2.2.2.1 ∧ u.1 801 = .int X0.2.2.2.2.2.2.2.2.1 ∧ u.1 802 = .int X0.2.2.2.2.2.2.2.2.2.1 ∧ (∀ j, nel j [8, 9, 10, 200, 201, 500, 501, 801, 802] = false → u.1 j = m0 j) ∧ u.2 1 = (8, .inl X0.2.2.2.2.2.2.2.2.2.2.1) ∧ u.2 10 = (10, .inl X0.2.2.2.2.2.2.2.2.2.2.2) ∧ (∀ j, nel j [1, 10] = false → u.2 j = a0 j)) (gB D cy N q s.heap.size) (gA N q s.heap.size)) args s 0 0 (gA N q s.heap.size)) (F0 M 116 ls []) := by
        intro t4_116 hr4 m a H locs w_x0_8 w_x0_9 w_x0_10 w_x2_0 w_x2_1 w_x5_0 w_x5_1 w_x8_1 w_x8_2 hoff hsh w_A1 w_A10 hoffa ls hl hW hS
        subst hr4
        refine lv_aload_n hx hb dX11_run_116 rfl (lv_at hl 0 rfl) ?_
        obtain ⟨r14, hf14, hs0⟩ := obind hs0
        refine g_ViR (n := 0) hx hb hml hown hG hW hS [] (kX11_badOnes hN hsh w_A1 hf14) (ltN hN 0 rfl) gk0 (by decide) rfl rfl (gd_V gx535 gx536 gx537 gx2 gx538) rfl rfl (by decide) ⟨Nat.le_of_ble_eq_true rfl, Nat.le_of_ble_eq_true rfl⟩ rfl hl (Nat.le_of_ble_eq_true rfl) ⟨Nat.zero_le _, Nat.zero_le _⟩ dX11_run_117 (fun H locs hW hS => ?_)
        refine lv_iload hx hb dX11_run_120 (lv_at hl 1 rfl) ?_
        refine lv_isub hx hb dX11_run_122 ?_
        have hs0 := Option.some.inj hs0
        subst hs0
        exact W.zret hx hb hr rfl (fun t ht hw => ⟨⟨_, (m, a), rfl, ⟨rfl, w_x0_8, w_x0_9, w_x0_10, w_x2_0, w_x2_1, w_x5_0, w_x5_1, w_x8_1, w_x8_2, hoff, w_A1, w_A10, hoffa⟩, g_end hW ht hw⟩, hS.F ht⟩) hS.2.2 dX11_run_123 hlocks
      have hL1 : ∀ (n : Nat) (v5k4 : Int32) (v6k4 : Int32) (x0_8k4 : Int64) (x0_9k4 : Int32) (x0_10k4 : Int32) (x2_0k4 : Int32) (x2_1k4 : Int64) (x5_0k4 : Int32) (x5_1k4 : Int64) (x8_1k4 : Int32) (x8_2k4 : Int32) (A1k4 : Nat → Int32) (A10k4 : Nat → Int32) (m : Nat → Value) (a : Nat → vp_A) (H : Heap) (locs : List Loc) (w_x0_8 : m 8 = .long x0_8k4) (w_x0_9 : m 9 = .int x0_9k4) (w_x0_10 : m 10 = .int x0_10k4) (w_x2_0 : m 200 = .int x2_0k4) (w_x2_1 : m 201 = .long x2_1k4) (w_x5_0 : m 500 = .int x5_0k4) (w_x5_1 : m 501 = .long x5_1k4) (w_x8_1 : m 801 = .int x8_1k4) (w_x8_2 : m 802 = .int x8_2k4) (hoff : ∀ j, nel j [8, 9, 10, 200, 201, 500, 501, 801, 802] = false → m j = m0 j) (hsh : SH q m) (w_A1 : a 1 = (8, .inl A1k4)) (w_A10 : a 10 = (10, .inl A10k4)) (hoffa : ∀ j, nel j [1, 10] = false → a j = a0 j) (ls : Array Slot) (hl : lv_has ls 8 [(0, .ref (q 0)), (1, .int p1), (3, .int p3), (4, .int r3), (5, .int v5k4), (6, .int v6k4)]) (hg4 : gloop (fun u4 : (Int32 × Int32 × Int64 × Int32 × Int32 × Int32 × Int64 × Int32 × Int64 × Int32 × Int32 × (Nat → Int32) × (Nat → Int32)) => fX11_run_S26 F xkr_0 xkr_1 xkr_2 xkr_3 p1 p3 r3 u4.1 u4.2.1 u4.2.2.1 u4.2.2.2.1 u4.2.2.2.2.1 u4.2.2.2.2.2.1 u4.2.2.2.2.2.2.1 u4.2.2.2.2.2.2.2.1 u4.2.2.2.2.2.2.2.2.1 u4.2.2.2.2.2.2.2.2.2.1 u4.2.2.2.2.2.2.2.2.2.2.1 u4.2.2.2.2.2.2.2.2.2.2.2.1 u4.2.2.2.2.2.2.2.2.2.2.2.2) n (v5k4, v6k4, x0_8k4, x0_9k4, x0_10k4, x2_0k4, x2_1k4, x5_0k4, x5_1k4, x8_1k4, x8_2k4, A1k4, A10k4) = some r4) (hW : GW D cy (gA N q s.heap.size) N q m a s H) (hS : va_S (gA N q s.heap.size) s.heap H locs), W p l e ({ frames := 5, cells := 0, slots := 0, locals := 123 } : Room) s M args below meth c H locs 0 0 (MQ below (va_Qi (fun (r : Int32) (u : (Nat → Value) × (Nat → vp_A)) => r = X0.1 ∧ u.1 8 = .long X0.2.1 ∧ u.1 9 = .int X0.2.2.1 ∧ u.1 10 = .int X0.2.2.2.1 ∧ u.1 200 = .int X0.2.2.2.2.1 ∧ u.1 201 = .long X0.2.2.2.2.2.1 ∧ u.1 500 = .int X0.2.2.2.2.2.2.1 ∧ u.1 501 = .long X0.2.2.2.2.2.2.2.1 ∧ u.1 801 = .int X0.2.2.2.2.2.2.2.2.1 ∧ u.1 802 = .int X0.2.2.2.2.2.2.2.2.2.1 ∧ (∀ j, nel j [8, 9, 10, 200, 201, 500, 501, 801, 802] = false → u.1 j = m0 j) ∧ u.2 1 = (8, .inl X0.2.2.2.2.2.2.2.2.2.2.1) ∧ u.2 10 = (10, .inl X0.2.2.2.2.2.2.2.2.2.2.2) ∧ (∀ j, nel j [1, 10] = false → u.2 j = a0 j)) (gB D cy N q s.heap.size) (gA N q s.heap.size)) args s 0 0 (gA N q s.heap.size)) (F0 M 26 ls []) := by
        intro n
        induction n with
        | zero => intro v5k4 v6k4 x0_8k4 x0_9k4 x0_10k4 x2_0k4 x2_1k4 x5_0k4 x5_1k4 x8_1k4 x8_2k4 A1k4 A10k4 m a H locs w_x0_8 w_x0_9 w_x0_10 w_x2_0 w_x2_1 w_x5_0 w_x5_1 w_x8_1 w_x8_2 hoff hsh w_A1 w_A10 hoffa ls hl hg4 hW hS; exact (gl_zero hg4).elim
        | succ n ih1 =>
          intro v5k4 v6k4 x0_8k4 x0_9k4 x0_10k4 x2_0k4 x2_1k4 x5_0k4 x5_1k4 x8_1k4 x8_2k4 A1k4 A10k4 m a H locs w_x0_8 w_x0_9 w_x0_10 w_x2_0 w_x2_1 w_x5_0 w_x5_1 w_x8_1 w_x8_2 hoff hsh w_A1 w_A10 hoffa ls hl hg4 hW hS
          obtain ⟨X1, hs1, hXl1, hXr1⟩ := gl_succ hg4
          have hs1 : fX11_run_S26 F xkr_0 xkr_1 xkr_2 xkr_3 p1 p3 r3 v5k4 v6k4 x0_8k4 x0_9k4 x0_10k4 x2_0k4 x2_1k4 x5_0k4 x5_1k4 x8_1k4 x8_2k4 A1k4 A10k4 = some X1 := hs1
          unfold fX11_run_S26 at hs1
          have hJ110_1 : ∀ (v5j20 : Int32) (v6j20 : Int32) (x0_8j20 : Int64) (x0_9j20 : Int32) (x0_10j20 : Int32) (x2_0j20 : Int32) (x2_1j20 : Int64) (x5_0j20 : Int32) (x5_1j20 : Int64) (x8_1j20 : Int32) (x8_2j20 : Int32) (A1j20 : Nat → Int32) (A10j20 : Nat → Int32) (m : Nat → Value) (a : Nat → vp_A) (H : Heap) (locs : List Loc) (w_x0_8 : m 8 = .long x0_8j20) (w_x0_9 : m 9 = .int x0_9j20) (w_x0_10 : m 10 = .int x0_10j20) (w_x2_0 : m 200 = .int x2_0j20) (w_x2_1 : m 201 = .long x2_1j20) (w_x5_0 : m 500 = .int x5_0j20) (w_x5_1 : m 501 = .long x5_1j20) (w_x8_1 : m 801 = .int x8_1j20) (w_x8_2 : m 802 = .int x8_2j20) (hoff : ∀ j, nel j [8, 9, 10, 200, 201, 500, 501, 801, 802] = false → m j = m0 j) (hsh : SH q m) (w_A1 : a 1 = (8, .inl A1j20)) (w_A10 : a 10 = (10, .inl A10j20)) (hoffa : ∀ j, nel j [1, 10] = false → a j = a0 j) (ls : Array Slot) (hl : lv_has ls 8 [(0, .ref (q 0)), (1, .int p1), (3, .int p3), (4, .int r3), (5, .int v5j20), (6, .int v6j20)]) (hs1 : fX11_run_J110 F xkr_0 xkr_1 xkr_2 xkr_3 p1 p3 r3 v5j20 v6j20 x0_8j20 x0_9j20 x0_10j20 x2_0j20 x2_1j20 x5_0j20 x5_1j20 x8_1j20 x8_2j20 A1j20 A10j20 = some X1) (hW : GW D cy (gA N q s.heap.size) N q m a s H) (hS : va_S (gA N q s.heap.size) s.heap H locs), W p l e ({ frames := 5, cells := 0, slots := 0, locals := 123 } : Room) s M args below meth c H locs 0 0 (MQ below (va_Qi (fun (r : Int32) (u : (Nat → Value) × (Nat → vp_A)) => r = X0.1 ∧ u.1 8 = .long X0.2.1 ∧ u.1 9 = .int X0.2.2.1 ∧ u.1 10 = .int X0.2.2.2.1 ∧ u.1 200 = .int X0.2.2.2.2.1 ∧ u.1 201 = .long X0.2.2.2.2.2.1 ∧ u.1 500 = .int X0.2.2.2.2.2.2.1 ∧ u.1 501 = .long X0.2.2.2.2.2.2.2.1 ∧ u.1 801 = .int X0.2.2.2.2.2.2.2.2.1 ∧ u.1 802 = .int X0.2.2.2.2.2.2.2.2.2.1 ∧ (∀ j, nel j [8, 9, 10, 200, 201, 500, 501, 801, 802] = false → u.1 j = m0 j) ∧ u.2 1 = (8, .inl X0.2.2.2.2.2.2.2.2.2.2.1) ∧ u.2 10 = (10, .inl X0.2.2.2.2.2.2.2.2.2.2.2) ∧ (∀ j, nel j [1, 10] = false → u.2 j = a0 j)) (gB D cy N q s.heap.size) (gA N q s.heap.size)) args s 0 0 (gA N q s.heap.size)) (F0 M 110 ls []) := by
            intro v5j20 v6j20 x0_8j20 x0_9j20 x0_10j20 x2_0j20 x2_1j20 x5_0j20 x5_1j20 x8_1j20 x8_2j20 A1j20 A10j20 m a H locs w_x0_8 w_x0_9 w_x0_10 w_x2_0 w_x2_1 w_x5_0 w_x5_1 w_x8_1 w_x8_2 hoff hsh w_A1 w_A10 hoffa ls hl hs1 hW hS
            unfold fX11_run_J110 at hs1
            refine lv_iinc (v := v6j20 + 1) (lv' := [(6, .int (v6j20 + 1)), (0, .ref (q 0)), (1, .int p1), (3, .int p3), (4, .int r3), (5, .int v5j20)]) hx hb dX11_run_110 hl (k := 5) rfl rfl (by decide) rfl (fun ls hl => ?_)
            refine lv_goto (tgt := 26) hx hb dX11_run_113 (by decide) ?_
            exact ih1 v5j20 (v6j20 + 1) x0_8j20 x0_9j20 x0_10j20 x2_0j20 x2_1j20 x5_0j20 x5_1j20 x8_1j20 x8_2j20 A1j20 A10j20 m a _ _ w_x0_8 w_x0_9 w_x0_10 w_x2_0 w_x2_1 w_x5_0 w_x5_1 w_x8_1 w_x8_2 hoff hsh w_A1 w_A10 hoffa ls (lv_sub hl [1, 2, 3, 4, 5, 0] rfl) (hXr1 _ (Option.some.inj hs1).symm) hW hS
          have hJ80_1 : ∀ (v5j18 : Int32) (v6j18 : Int32) (s0j18 : Int32) (x0_8j18 : Int64) (x0_9j18 : Int32) (x0_10j18 : Int32) (x2_0j18 : Int32) (x2_1j18 : Int64) (x5_0j18 : Int32) (x5_1j18 : Int64) (x8_1j18 : Int32) (x8_2j18 : Int32) (A1j18 : Nat → Int32) (A10j18 : Nat → Int32) (m : Nat → Value) (a : Nat → vp_A) (H : Heap) (locs : List Loc) (w_x0_8 : m 8 = .long x0_8j18) (w_x0_9 : m 9 = .int x0_9j18) (w_x0_10 : m 10 = .int x0_10j18) (w_x2_0 : m 200 = .int x2_0j18) (w_x2_1 : m 201 = .long x2_1j18) (w_x5_0 : m 500 = .int x5_0j18) (w_x5_1 : m 501 = .long x5_1j18) (w_x8_1 : m 801 = .int x8_1j18) (w_x8_2 : m 802 = .int x8_2j18) (hoff : ∀ j, nel j [8, 9, 10, 200, 201, 500, 501, 801, 802] = false → m j = m0 j) (hsh : SH q m) (w_A1 : a 1 = (8, .inl A1j18)) (w_A10 : a 10 = (10, .inl A10j18)) (hoffa : ∀ j, nel j [1, 10] = false → a j = a0 j) (ls : Array Slot) (hl : lv_has ls 8 [(0, .ref (q 0)), (1, .int p1), (3, .int p3), (4, .int r3), (5, .int v5j18), (6, .int v6j18)]) (hs1 : fX11_run_J80 F xkr_0 xkr_1 xkr_2 xkr_3 p1 p3 r3 v5j18 v6j18 s0j18 x0_8j18 x0_9j18 x0_10j18 x2_0j18 x2_1j18 x5_0j18 x5_1j18 x8_1j18 x8_2j18 A1j18 A10j18 = some X1) (hW : GW D cy (gA N q s.heap.size) N q m a s H) (hS : va_S (gA N q s.heap.size) s.heap H locs), W p l e ({ frames := 5, cells := 0, slots := 0, locals := 123 } : Room) s M args below meth c H locs 0 0 (MQ below (va_Qi (fun (r : Int32) (u : (Nat → Value) × (Nat → vp_A)) => r = X0.1 ∧ u.1 8 = .long X0.2.1 ∧ u.1 9 = .int X0.2.2.1 ∧ u.1 10 = .int X0.2.2.2.1 ∧ u.1 200 = .int X0.2.2.2.2.1 ∧ u.1 201 = .long X0.2.2.2.2.2.1 ∧ u.1 500 = .int X0.2.2.2.2.2.2.1 ∧ u.1 501 = .long X0.2.2.2.2.2.2.2.1 ∧ u.1 801 = .int X0.2.2.2.2.2.2.2.2.1 ∧ u.1 802 = .int X0.2.2.2.2.2.2.2.2.2.1 ∧ (∀ j, nel j [8, 9, 10, 200, 201, 500, 501, 801, 802] = false → u.1 j = m0 j) ∧ u.2 1 = (8, .inl X0.2.2.2.2.2.2.2.2.2.2.1) ∧ u.2 10 = (10, .inl X0.2.2.2.2.2.2.2.2.2.2.2) ∧ (∀ j, nel j [1, 10] = false → u.2 j = a0 j)) (gB D cy N q s.heap.size) (gA N q s.heap.size)) args s 0 0 (gA N q s.heap.size)) (F0 M 80 ls [.int s0j18]) := by
            intro v5j18 v6j18 s0j18 x0_8j18 x0_9j18 x0_10j18 x2_0j18 x2_1j18 x5_0j18 x5_1j18 x8_1j18 x8_2j18 A1j18 A10j18 m a H locs w_x0_8 w_x0_9 w_x0_10 w_x2_0 w_x2_1 w_x5_0 w_x5_1 w_x8_1 w_x8_2 hoff hsh w_A1 w_A10 hoffa ls hl hs1 hW hS
            unfold fX11_run_J80 at hs1
            refine lv_istore (lv' := [(7, .int s0j18), (0, .ref (q 0)), (1, .int p1), (3, .int p3), (4, .int r3), (5, .int v5j18), (6, .int v6j18)]) hx hb dX11_run_80 hl (by decide) rfl (fun ls hl => ?_)
            refine lv_iload hx hb dX11_run_82 (lv_at hl 0 rfl) ?_
            refine lv_if_le (tgt := 110) hx hb dX11_run_84 (by decide) (fun c19 => ?_) (fun c19 => ?_)
            · rw [if_pos c19] at hs1
              exact hJ110_1 v5j18 v6j18 x0_8j18 x0_9j18 x0_10j18 x2_0j18 x2_1j18 x5_0j18 x5_1j18 x8_1j18 x8_2j18 A1j18 A10j18 m a _ _ w_x0_8 w_x0_9 w_x0_10 w_x2_0 w_x2_1 w_x5_0 w_x5_1 w_x8_1 w_x8_2 hoff hsh w_A1 w_A10 hoffa ls (lv_sub hl [1, 2, 3, 4, 5, 6] rfl) hs1 hW hS
            · rw [if_neg c19] at hs1
              refine lv_aload_n hx hb dX11_run_87 rfl (lv_at hl 1 rfl) ?_
              refine lv_aload_n hx hb dX11_run_88 rfl (lv_at hl 1 rfl) ?_
              refine gf11_3 hx hb hG hown hW (o := 0) (ltN hN 0 rfl) gk0 (v := .ref (q 8)) (sh0_3 hsh) gx24 dX11_run_89 ?_
              refine gf0_0 hx hb hG hown hW (o := 8) (ltN hN 8 rfl) gk8 (v := .ref (q 9)) (sh8_0 hsh) gx534 dX11_run_92 ?_
              refine lv_iload hx hb dX11_run_95 (lv_at hl 5 rfl) ?_
              refine lv_bipush (v := 8) hx hb dX11_run_97 (by decide) ?_
              refine lv_iushr hx hb dX11_run_99 rfl ?_
              refine lv_iload hx hb dX11_run_100 (lv_at hl 0 rfl) ?_
              obtain ⟨hz21, hs1⟩ := oif hs1
              refine lv_irem hx hb dX11_run_102 hz21 ?_
              refine g_ViR (n := 1) hx hb hml hown hG hW hS [.int (((v5j18.toUInt32 >>> ((8 : Int32).toUInt32 &&& Int32.toUInt32 31)).toInt32) - ((v5j18.toUInt32 >>> ((8 : Int32).toUInt32 &&& Int32.toUInt32 31)).toInt32) / s0j18 * s0j18)] (kX2_at (ltN hN 9 rfl) gk9 (ltN hN 10 rfl) gk10 (sh9_0 hsh) (by decide) w_A10 (((v5j18.toUInt32 >>> ((8 : Int32).toUInt32 &&& Int32.toUInt32 31)).toInt32) - ((v5j18.toUInt32 >>> ((8 : Int32).toUInt32 &&& Int32.toUInt32 31)).toInt32) / s0j18 * s0j18)) (ltN hN 9 rfl) gk9 (by decide) rfl rfl (gd_V gx563 gx564 gx565 gx47 gx566) rfl rfl (by decide) ⟨Nat.le_of_ble_eq_true rfl, Nat.le_of_ble_eq_true rfl⟩ rfl hl (Nat.le_of_ble_eq_true rfl) ⟨Nat.zero_le _, Nat.zero_le _⟩ dX11_run_103 (fun H locs hW hS => ?_)
              obtain ⟨r23, hf23, hs1⟩ := obind hs1
              refine g_Vi (n := 1) hx hb hml hown hG hW hS [.int (cAt 10 A10j18 (((v5j18.toUInt32 >>> ((8 : Int32).toUInt32 &&& Int32.toUInt32 31)).toInt32) - ((v5j18.toUInt32 >>> ((8 : Int32).toUInt32 &&& Int32.toUInt32 31)).toInt32) / s0j18 * s0j18))] (kX11_perform hN hsh hkr hgk ((hoff 7 rfl).trans hrf) ((off_kr hoff hgk 0 rfl (by decide)).trans h_xkr_0) ((off_kr hoff hgk 1 rfl (by decide)).trans h_xkr_1) ((off_kr hoff hgk 2 rfl (by decide)).trans h_xkr_2) ((off_kr hoff hgk 3 rfl (by decide)).trans h_xkr_3) w_x0_8 w_x0_9 w_x0_10 w_x2_0 w_x2_1 w_x5_0 w_x5_1 w_A1 (cAt 10 A10j18 (((v5j18.toUInt32 >>> ((8 : Int32).toUInt32 &&& Int32.toUInt32 31)).toInt32) - ((v5j18.toUInt32 >>> ((8 : Int32).toUInt32 &&& Int32.toUInt32 31)).toInt32) / s0j18 * s0j18)) hf23) (ltN hN 0 rfl) gk0 (by decide) rfl rfl (gd_V gx409 gx410 gx411 gx2 gx412) rfl rfl (by decide) ⟨Nat.le_of_ble_eq_true rfl, Nat.le_of_ble_eq_true rfl⟩ rfl hl (Nat.le_of_ble_eq_true rfl) ⟨Nat.zero_le _, Nat.zero_le _⟩ dX11_run_106 (fun x23 m23 a23 H locs hp23 hW hS => ?_)
              obtain ⟨hx23, hp23_x0_8, hp23_x0_9, hp23_x0_10, hp23_x2_0, hp23_x2_1, hp23_x5_0, hp23_x5_1, ho23, hp23_A1, hoa23⟩ := hp23
              subst hx23
              have w_x0_8 : m23 8 = .long r23.2.1 := hp23_x0_8
              have w_x0_9 : m23 9 = .int r23.2.2.1 := hp23_x0_9
              have w_x0_10 : m23 10 = .int r23.2.2.2.1 := hp23_x0_10
              have w_x2_0 : m23 200 = .int r23.2.2.2.2.1 := hp23_x2_0
              have w_x2_1 : m23 201 = .long r23.2.2.2.2.2.1 := hp23_x2_1
              have w_x5_0 : m23 500 = .int r23.2.2.2.2.2.2.1 := hp23_x5_0
              have w_x5_1 : m23 501 = .long r23.2.2.2.2.2.2.2.1 := hp23_x5_1
              have w_x8_1 : m23 801 = .int x8_1j18 := (ho23 801 rfl).trans w_x8_1
              have w_x8_2 : m23 802 = .int x8_2j18 := (ho23 802 rfl).trans w_x8_2
              have hoff := offm hoff ho23 (by decide +kernel)
              have hsh := SH.off hsh ho23 (by decide +kernel)
              have w_A1 : a23 1 = (8, .inl r23.2.2.2.2.2.2.2.2) := hp23_A1
              have w_A10 : a23 10 = (10, .inl A10j18) := (hoa23 10 rfl).trans w_A10
              have hoffa := offm hoffa hoa23 (by decide +kernel)
              refine lv_pop hx hb dX11_run_109 rfl ?_
              exact hJ110_1 v5j18 v6j18 r23.2.1 r23.2.2.1 r23.2.2.2.1 r23.2.2.2.2.1 r23.2.2.2.2.2.1 r23.2.2.2.2.2.2.1 r23.2.2.2.2.2.2.2.1 x8_1j18 x8_2j18 r23.2.2.2.2.2.2.2.2 A10j18 m23 a23 _ _ w_x0_8 w_x0_9 w_x0_10 w_x2_0 w_x2_1 w_x5_0 w_x5_1 w_x8_1 w_x8_2 hoff hsh w_A1 w_A10 hoffa ls (lv_sub hl [1, 2, 3, 4, 5, 6] rfl) hs1 hW hS
          refine lv_iload hx hb dX11_run_26 (lv_at hl 5 rfl) ?_
          refine lv_iload_n hx hb dX11_run_28 rfl (lv_at hl 1 rfl) ?_
          refine lv_icmp_ge (tgt := 116) hx hb dX11_run_29 (by decide) (fun c15 => ?_) (fun c15 => ?_)
          · rw [if_pos c15] at hs1
            exact hE1_116 (x0_8k4, x0_9k4, x0_10k4, x2_0k4, x2_1k4, x5_0k4, x5_1k4, x8_1k4, x8_2k4, A1k4, A10k4) (hXl1 _ (Option.some.inj hs1).symm) m a _ _ w_x0_8 w_x0_9 w_x0_10 w_x2_0 w_x2_1 w_x5_0 w_x5_1 w_x8_1 w_x8_2 hoff hsh w_A1 w_A10 hoffa ls (lv_sub hl [0, 3] rfl) hW hS
          · rw [if_neg c15] at hs1
            refine lv_iload hx hb dX11_run_32 (lv_at hl 4 rfl) ?_
            refine lv_ldc (v := 1103515245) hx hb hown (hG _ gx531) dX11_run_34 ?_
            refine lv_imul hx hb dX11_run_36 ?_
            refine lv_sipush (v := 12345) hx hb dX11_run_37 (by decide) ?_
            refine lv_iadd hx hb dX11_run_40 ?_
            refine lv_istore (lv' := [(5, .int ((v5k4 * 1103515245) + 12345)), (0, .ref (q 0)), (1, .int p1), (3, .int p3), (4, .int r3), (6, .int v6k4)]) hx hb dX11_run_41 hl (by decide) rfl (fun ls hl => ?_)
            refine lv_aload_n hx hb dX11_run_43 rfl (lv_at hl 1 rfl) ?_
            refine gf11_3 hx hb hG hown hW (o := 0) (ltN hN 0 rfl) gk0 (v := .ref (q 8)) (sh0_3 hsh) gx24 dX11_run_44 ?_
            refine lv_aload_n hx hb dX11_run_47 rfl (lv_at hl 1 rfl) ?_
            refine gf11_7 hx hb hG hown hW (o := 0) (ltN hN 0 rfl) gk0 (v := .ref (q kr)) ((hoff 7 rfl).trans hrf) gx40 dX11_run_48 ?_
            refine lv_aload_n hx hb dX11_run_51 rfl (lv_at hl 1 rfl) ?_
            refine gf11_8 hx hb hG hown hW (o := 0) (ltN hN 0 rfl) gk0 (v := .long x0_8k4) w_x0_8 gx41 dX11_run_52 ?_
            refine lv_iconst (v := 0) hx hb dX11_run_55 (by decide) ?_
            obtain ⟨r16, hf16, hs1⟩ := obind hs1
            refine g_Vv (n := 3) hx hb hml hown hG hW hS [.ref (q kr), .long x0_8k4, .int 0] (kX0_list_8 hN hsh hkr hgk ((off_kr hoff hgk 1 rfl (by decide)).trans h_xkr_1) ((off_kr hoff hgk 2 rfl (by decide)).trans h_xkr_2) w_x8_1 w_x8_2 w_A10 F x0_8k4 0 hf16) (ltN hN 8 rfl) gk8 (by decide) rfl rfl (gd_V gx539 gx540 gx541 gx23 gx542) rfl rfl (by decide) ⟨Nat.le_of_ble_eq_true rfl, Nat.le_of_ble_eq_true rfl⟩ rfl hl (Nat.le_of_ble_eq_true rfl) ⟨Nat.zero_le _, Nat.zero_le _⟩ dX11_run_56 (fun m16 a16 H locs hp16 hW hS => ?_)
            obtain ⟨hp16_x8_1, hp16_x8_2, ho16, hp16_A10, hoa16⟩ := hp16
            have w_x0_8 : m16 8 = .long x0_8k4 := (ho16 8 rfl).trans w_x0_8
            have w_x0_9 : m16 9 = .int x0_9k4 := (ho16 9 rfl).trans w_x0_9
            have w_x0_10 : m16 10 = .int x0_10k4 := (ho16 10 rfl).trans w_x0_10
            have w_x2_0 : m16 200 = .int x2_0k4 := (ho16 200 rfl).trans w_x2_0
            have w_x2_1 : m16 201 = .long x2_1k4 := (ho16 201 rfl).trans w_x2_1
            have w_x5_0 : m16 500 = .int x5_0k4 := (ho16 500 rfl).trans w_x5_0
            have w_x5_1 : m16 501 = .long x5_1k4 := (ho16 501 rfl).trans w_x5_1
            have w_x8_1 : m16 801 = .int r16.1 := hp16_x8_1
            have w_x8_2 : m16 802 = .int r16.2.1 := hp16_x8_2
            have hoff := offm hoff ho16 (by decide +kernel)
            have hsh := SH.off hsh ho16 (by decide +kernel)
            have w_A1 : a16 1 = (8, .inl A1k4) := (hoa16 1 rfl).trans w_A1
            have w_A10 : a16 10 = (10, .inl r16.2.2) := hp16_A10
            have hoffa := offm hoffa hoa16 (by decide +kernel)
            refine lv_iload_n hx hb dX11_run_59 rfl (lv_at hl 3 rfl) ?_
            refine lv_if_eq (tgt := 73) hx hb dX11_run_60 (by decide) (fun c17 => ?_) (fun c17 => ?_)
            · rw [if_pos c17] at hs1
              refine lv_aload_n hx hb dX11_run_73 rfl (lv_at hl 1 rfl) ?_
              refine gf11_3 hx hb hG hown hW (o := 0) (ltN hN 0 rfl) gk0 (v := .ref (q 8)) (sh0_3 hsh) gx24 dX11_run_74 ?_
              refine gf0_2 hx hb hG hown hW (o := 8) (ltN hN 8 rfl) gk8 (v := .int r16.2.1) w_x8_2 gx533 dX11_run_77 ?_
              exact hJ80_1 ((v5k4 * 1103515245) + 12345) v6k4 r16.2.1 x0_8k4 x0_9k4 x0_10k4 x2_0k4 x2_1k4 x5_0k4 x5_1k4 r16.1 r16.2.1 A1k4 r16.2.2 m16 a16 _ _ w_x0_8 w_x0_9 w_x0_10 w_x2_0 w_x2_1 w_x5_0 w_x5_1 w_x8_1 w_x8_2 hoff hsh w_A1 w_A10 hoffa ls (lv_sub hl [1, 2, 3, 4, 0, 5] rfl) hs1 hW hS
            · rw [if_neg c17] at hs1
              refine lv_aload_n hx hb dX11_run_63 rfl (lv_at hl 1 rfl) ?_
              refine gf11_3 hx hb hG hown hW (o := 0) (ltN hN 0 rfl) gk0 (v := .ref (q 8)) (sh0_3 hsh) gx24 dX11_run_64 ?_
              refine gf0_1 hx hb hG hown hW (o := 8) (ltN hN 8 rfl) gk8 (v := .int r16.1) w_x8_1 gx532 dX11_run_67 ?_
              refine lv_goto (tgt := 80) hx hb dX11_run_70 (by decide) ?_
              exact hJ80_1 ((v5k4 * 1103515245) + 12345) v6k4 r16.1 x0_8k4 x0_9k4 x0_10k4 x2_0k4 x2_1k4 x5_0k4 x5_1k4 r16.1 r16.2.1 A1k4 r16.2.2 m16 a16 _ _ w_x0_8 w_x0_9 w_x0_10 w_x2_0 w_x2_1 w_x5_0 w_x5_1 w_x8_1 w_x8_2 hoff hsh w_A1 w_A10 hoffa ls (lv_sub hl [1, 2, 3, 4, 0, 5] rfl) hs1 hW hS
      exact hL1 F p2 0 x0_8 x0_9 x0_10 x2_0 x2_1 x5_0 x5_1 x8_1 x8_2 A1 A10 m0 a0 _ _ h_x0_8 h_x0_9 h_x0_10 h_x2_0 h_x2_1 h_x5_0 h_x5_1 h_x8_1 h_x8_2 hoff hsh h_A1 h_A10 hoffa ls (lv_sub hl [3, 4, 6, 2, 1, 0] rfl) hg4 hW hS
    · rw [if_neg c2] at hs0
      refine lv_iconst (v := (-1)) hx hb dX11_run_12 (by decide) ?_
      have hs0 := Option.some.inj hs0
      subst hs0
      exact W.zret hx hb hr rfl (fun t ht hw => ⟨⟨_, (m0, a0), rfl, ⟨rfl, h_x0_8, h_x0_9, h_x0_10, h_x2_0, h_x2_1, h_x5_0, h_x5_1, h_x8_1, h_x8_2, hoff, h_A1, h_A10, hoffa⟩, g_end hW ht hw⟩, hS.F ht⟩) hS.2.2 dX11_run_13 hlocks
-- HealLink.possible (II)I
def fX11_possible (F : Nat) (x0_8 : Int64) (xkr_1 : Int32) (xkr_2 : Int32) (x8_1 : Int32) (x8_2 : Int32) (A10 : Nat → Int32) (p1 : Int32) (p2 : Int32) : Option (Int32 × Int32 × Int32 × (Nat → Int32)) := (if p2 < 0 then some ((-1), x8_1, x8_2, A10) else (if p2 ≤ 2 then ((fX0_list F xkr_1 xkr_2 x8_1 x8_2 A10 x0_8 0).bind (fun r3 => (if p1 = (-1) then some (r3.1, r3.1, r3.2.1, r3.2.2) else (if p1 < 0 then some ((-1), r3.1, r3.2.1, r3.2.2) else (if p1 < r3.1 then some ((fX0_part (cAt 10 r3.2.2 p1) p2), r3.1, r3.2.1, r3.2.2) else some ((-1), r3.1, r3.2.1, r3.2.2)))))) else some ((-1), x8_1, x8_2, A10)))
theorem dX11_possible_0 : decode cX11_possible 0 = .ok (.iload_n 2, 1) := by decide +kernel
theorem dX11_possible_1 : decode cX11_possible 1 = .ok (.ifCond .lt 8, 3) := by decide +kernel
theorem dX11_possible_4 : decode cX11_possible 4 = .ok (.iload_n 2, 1) := by decide +kernel
theorem dX11_possible_5 : decode cX11_possible 5 = .ok (.iconst 2, 1) := by decide +kernel
theorem dX11_possible_6 : decode cX11_possible 6 = .ok (.if_icmp .le 5, 3) := by decide +kernel
theorem dX11_possible_9 : decode cX11_possible 9 = .ok (.iconst (-1), 1) := by decide +kernel
theorem dX11_possible_10 : decode cX11_possible 10 = .ok (.ireturn, 1) := by decide +kernel
theorem dX11_possible_11 : decode cX11_possible 11 = .ok (.aload_n 0, 1) := by decide +kernel
theorem dX11_possible_12 : decode cX11_possible 12 = .ok (.getfield 26, 3) := by decide +kernel
theorem dX11_possible_15 : decode cX11_possible 15 = .ok (.aload_n 0, 1) := by decide +kernel
theorem dX11_possible_16 : decode cX11_possible 16 = .ok (.getfield 56, 3) := by decide +kernel
theorem dX11_possible_19 : decode cX11_possible 19 = .ok (.aload_n 0, 1) := by decide +kernel
theorem dX11_possible_20 : decode cX11_possible 20 = .ok (.getfield 64, 3) := by decide +kernel
theorem dX11_possible_23 : decode cX11_possible 23 = .ok (.iconst 0, 1) := by decide +kernel
theorem dX11_possible_24 : decode cX11_possible 24 = .ok (.invokevirtual 170, 3) := by decide +kernel
theorem dX11_possible_27 : decode cX11_possible 27 = .ok (.iload_n 1, 1) := by decide +kernel
theorem dX11_possible_28 : decode cX11_possible 28 = .ok (.iconst (-1), 1) := by decide +kernel
theorem dX11_possible_29 : decode cX11_possible 29 = .ok (.if_icmp .ne 11, 3) := by decide +kernel
theorem dX11_possible_32 : decode cX11_possible 32 = .ok (.aload_n 0, 1) := by decide +kernel
theorem dX11_possible_33 : decode cX11_possible 33 = .ok (.getfield 26, 3) := by decide +kernel
theorem dX11_possible_36 : decode cX11_possible 36 = .ok (.getfield 174, 3) := by decide +kernel
theorem dX11_possible_39 : decode cX11_possible 39 = .ok (.ireturn, 1) := by decide +kernel
theorem dX11_possible_40 : decode cX11_possible 40 = .ok (.iload_n 1, 1) := by decide +kernel
theorem dX11_possible_41 : decode cX11_possible 41 = .ok (.ifCond .lt 14, 3) := by decide +kernel
theorem dX11_possible_44 : decode cX11_possible 44 = .ok (.iload_n 1, 1) := by decide +kernel
theorem dX11_possible_45 : decode cX11_possible 45 = .ok (.aload_n 0, 1) := by decide +kernel
theorem dX11_possible_46 : decode cX11_possible 46 = .ok (.getfield 26, 3) := by decide +kernel
theorem dX11_possible_49 : decode cX11_possible 49 = .ok (.getfield 174, 3) := by decide +kernel
theorem dX11_possible_52 : decode cX11_possible 52 = .ok (.if_icmp .lt 7, 3) := by decide +kernel
theorem dX11_possible_55 : decode cX11_possible 55 = .ok (.iconst (-1), 1) := by decide +kernel
theorem dX11_possible_56 : decode cX11_possible 56 = .ok (.goto 18, 3) := by decide +kernel
theorem dX11_possible_59 : decode cX11_possible 59 = .ok (.aload_n 0, 1) := by decide +kernel
theorem dX11_possible_60 : decode cX11_possible 60 = .ok (.getfield 26, 3) := by decide +kernel
theorem dX11_possible_63 : decode cX11_possible 63 = .ok (.getfield 180, 3) := by decide +kernel
theorem dX11_possible_66 : decode cX11_possible 66 = .ok (.iload_n 1, 1) := by decide +kernel
theorem dX11_possible_67 : decode cX11_possible 67 = .ok (.invokevirtual 184, 3) := by decide +kernel
theorem dX11_possible_70 : decode cX11_possible 70 = .ok (.iload_n 2, 1) := by decide +kernel
theorem dX11_possible_71 : decode cX11_possible 71 = .ok (.invokestatic 217, 3) := by decide +kernel
theorem dX11_possible_74 : decode cX11_possible 74 = .ok (.ireturn, 1) := by decide +kernel
set_option maxHeartbeats 4000000 in
set_option maxRecDepth 100000 in
theorem kX11_possible {l : Launch} {D : va_G} {cy : Nat → ClassId} {N : Nat} {q : Nat → Nat} {m0 : Nat → Value} {a0 : Nat → vp_A} {sz : Nat} (hN : 105 ≤ N) (hsh : SH q m0) {kr : Nat} (hkr : kr < N) (hgk : gk kr = 7) (hrf : m0 7 = .ref (q kr)) {x0_8 : Int64} (h_x0_8 : m0 8 = .long x0_8) {xkr_1 : Int32} (h_xkr_1 : m0 (100 * kr + 1) = .int xkr_1) {xkr_2 : Int32} (h_xkr_2 : m0 (100 * kr + 2) = .int xkr_2) {x8_1 : Int32} (h_x8_1 : m0 801 = .int x8_1) {x8_2 : Int32} (h_x8_2 : m0 802 = .int x8_2) {A10 : Nat → Int32} (h_A10 : a0 10 = (10, .inl A10)) (F : Nat) (p1 : Int32) (p2 : Int32) {X0 : Int32 × Int32 × Int32 × (Nat → Int32)} (hs0 : fX11_possible F x0_8 xkr_1 xkr_2 x8_1 x8_2 A10 p1 p2 = some X0) : gMi l yX11_possible cX11_possible 3 (some .int) ({ frames := 4, cells := 0, slots := 0, locals := 93 } : Room) D cy N q m0 a0 sz [.ref (q 0), .int p1, .int p2] (fun r m' a' => r = X0.1 ∧ m' 801 = .int X0.2.1 ∧ m' 802 = .int X0.2.2.1 ∧ (∀ j, nel j [801, 802] = false → m' j = m0 j) ∧ a' 10 = (10, .inl X0.2.2.2) ∧ (∀ j, nel j [10] = false → a' j = a0 j)) := by
  refine g_ofi (by decide) (Nat.le_of_ble_eq_true rfl) ?_
  intro p e s M args below meth c hx hb hr hG hown hin hlocks hml hW hS ls hl
  unfold fX11_possible at hs0
  have hoff : ∀ j, nel j [801, 802] = false → m0 j = m0 j := off0
  have hoffa : ∀ j, nel j [10] = false → a0 j = a0 j := off0
  refine lv_iload_n hx hb dX11_possible_0 rfl (lv_at hl 2 rfl) ?_
  refine lv_if_lt (tgt := 9) hx hb dX11_possible_1 (by decide) (fun c1 => ?_) (fun c1 => ?_)
  · rw [if_pos c1] at hs0
    refine lv_iconst (v := (-1)) hx hb dX11_possible_9 (by decide) ?_
    have hs0 := Option.some.inj hs0
    subst hs0
    exact W.zret hx hb hr rfl (fun t ht hw => ⟨⟨_, (m0, a0), rfl, ⟨rfl, h_x8_1, h_x8_2, hoff, h_A10, hoffa⟩, g_end hW ht hw⟩, hS.F ht⟩) hS.2.2 dX11_possible_10 hlocks
  · rw [if_neg c1] at hs0
    refine lv_iload_n hx hb dX11_possible_4 rfl (lv_at hl 2 rfl) ?_
    refine lv_iconst (v := 2) hx hb dX11_possible_5 (by decide) ?_
    refine lv_icmp_le (tgt := 11) hx hb dX11_possible_6 (by decide) (fun c2 => ?_) (fun c2 => ?_)
    · rw [if_pos c2] at hs0
      refine lv_aload_n hx hb dX11_possible_11 rfl (lv_at hl 0 rfl) ?_
      refine gf11_3 hx hb hG hown hW (o := 0) (ltN hN 0 rfl) gk0 (v := .ref (q 8)) (sh0_3 hsh) gx24 dX11_possible_12 ?_
      refine lv_aload_n hx hb dX11_possible_15 rfl (lv_at hl 0 rfl) ?_
      refine gf11_7 hx hb hG hown hW (o := 0) (ltN hN 0 rfl) gk0 (v := .ref (q kr)) ((hoff 7 rfl).trans hrf) gx40 dX11_possible_16 ?_
      refine lv_aload_n hx hb dX11_possible_19 rfl (lv_at hl 0 rfl) ?_
      refine gf11_8 hx hb hG hown hW (o := 0) (ltN hN 0 rfl) gk0 (v := .long x0_8) ((hoff 8 rfl).trans h_x0_8) gx41 dX11_possible_20 ?_
      refine lv_iconst (v := 0) hx hb dX11_possible_23 (by decide) ?_
      obtain ⟨r3, hf3, hs0⟩ := obind hs0
      refine g_Vv (n := 3) hx hb hml hown hG hW hS [.ref (q kr), .long x0_8, .int 0] (kX0_list_8 hN hsh hkr hgk ((off_kr hoff hgk 1 rfl (by decide)).trans h_xkr_1) ((off_kr hoff hgk 2 rfl (by decide)).trans h_xkr_2) h_x8_1 h_x8_2 h_A10 F x0_8 0 hf3) (ltN hN 8 rfl) gk8 (by decide) rfl rfl (gd_V gx539 gx540 gx541 gx23 gx542) rfl rfl (by decide) ⟨Nat.le_of_ble_eq_true rfl, Nat.le_of_ble_eq_true rfl⟩ rfl hl (Nat.le_of_ble_eq_true rfl) ⟨Nat.zero_le _, Nat.zero_le _⟩ dX11_possible_24 (fun m3 a3 H locs hp3 hW hS => ?_)
      obtain ⟨hp3_x8_1, hp3_x8_2, ho3, hp3_A10, hoa3⟩ := hp3
      have w_x8_1 : m3 801 = .int r3.1 := hp3_x8_1
      have w_x8_2 : m3 802 = .int r3.2.1 := hp3_x8_2
      have hoff := offm hoff ho3 (by decide +kernel)
      have hsh := SH.off hsh ho3 (by decide +kernel)
      have w_A10 : a3 10 = (10, .inl r3.2.2) := hp3_A10
      have hoffa := offm hoffa hoa3 (by decide +kernel)
      refine lv_iload_n hx hb dX11_possible_27 rfl (lv_at hl 1 rfl) ?_
      refine lv_iconst (v := (-1)) hx hb dX11_possible_28 (by decide) ?_
      refine lv_icmp_ne (tgt := 40) hx hb dX11_possible_29 (by decide) (fun c4 => ?_) (fun c4 => ?_)
      · rw [if_neg c4] at hs0
        refine lv_iload_n hx hb dX11_possible_40 rfl (lv_at hl 1 rfl) ?_
        refine lv_if_lt (tgt := 55) hx hb dX11_possible_41 (by decide) (fun c5 => ?_) (fun c5 => ?_)
        · rw [if_pos c5] at hs0
          refine lv_iconst (v := (-1)) hx hb dX11_possible_55 (by decide) ?_
          refine lv_goto (tgt := 74) hx hb dX11_possible_56 (by decide) ?_
          have hs0 := Option.some.inj hs0
          subst hs0
          exact W.zret hx hb hr rfl (fun t ht hw => ⟨⟨_, (m3, a3), rfl, ⟨rfl, w_x8_1, w_x8_2, hoff, w_A10, hoffa⟩, g_end hW ht hw⟩, hS.F ht⟩) hS.2.2 dX11_possible_74 hlocks
        · rw [if_neg c5] at hs0
          refine lv_iload_n hx hb dX11_possible_44 rfl (lv_at hl 1 rfl) ?_
          refine lv_aload_n hx hb dX11_possible_45 rfl (lv_at hl 0 rfl) ?_
          refine gf11_3 hx hb hG hown hW (o := 0) (ltN hN 0 rfl) gk0 (v := .ref (q 8)) (sh0_3 hsh) gx24 dX11_possible_46 ?_
          refine gf0_1 hx hb hG hown hW (o := 8) (ltN hN 8 rfl) gk8 (v := .int r3.1) w_x8_1 gx532 dX11_possible_49 ?_
          refine lv_icmp_lt (tgt := 59) hx hb dX11_possible_52 (by decide) (fun c6 => ?_) (fun c6 => ?_)
          · rw [if_pos c6] at hs0
            refine lv_aload_n hx hb dX11_possible_59 rfl (lv_at hl 0 rfl) ?_
            refine gf11_3 hx hb hG hown hW (o := 0) (ltN hN 0 rfl) gk0 (v := .ref (q 8)) (sh0_3 hsh) gx24 dX11_possible_60 ?_
            refine gf0_0 hx hb hG hown hW (o := 8) (ltN hN 8 rfl) gk8 (v := .ref (q 9)) (sh8_0 hsh) gx534 dX11_possible_63 ?_
            refine lv_iload_n hx hb dX11_possible_66 rfl (lv_at hl 1 rfl) ?_
            refine g_ViR (n := 1) hx hb hml hown hG hW hS [.int p1] (kX2_at (ltN hN 9 rfl) gk9 (ltN hN 10 rfl) gk10 (sh9_0 hsh) (by decide) w_A10 p1) (ltN hN 9 rfl) gk9 (by decide) rfl rfl (gd_V gx563 gx564 gx565 gx47 gx566) rfl rfl (by decide) ⟨Nat.le_of_ble_eq_true rfl, Nat.le_of_ble_eq_true rfl⟩ rfl hl (Nat.le_of_ble_eq_true rfl) ⟨Nat.zero_le _, Nat.zero_le _⟩ dX11_possible_67 (fun H locs hW hS => ?_)
            refine lv_iload_n hx hb dX11_possible_70 rfl (lv_at hl 2 rfl) ?_
            refine g_SiR (n := 2) hx hb hml hown hG hW hS [.int (cAt 10 r3.2.2 p1), .int p2] (kX0_part hN (cAt 10 r3.2.2 p1) p2) rfl (gd_S gx643 gx644 gx23 gx645) rfl rfl (by decide) ⟨Nat.le_of_ble_eq_true rfl, Nat.le_of_ble_eq_true rfl⟩ rfl hl (Nat.le_of_ble_eq_true rfl) ⟨Nat.zero_le _, Nat.zero_le _⟩ dX11_possible_71 (fun H locs hW hS => ?_)
            have hs0 := Option.some.inj hs0
            subst hs0
            exact W.zret hx hb hr rfl (fun t ht hw => ⟨⟨_, (m3, a3), rfl, ⟨rfl, w_x8_1, w_x8_2, hoff, w_A10, hoffa⟩, g_end hW ht hw⟩, hS.F ht⟩) hS.2.2 dX11_possible_74 hlocks
          · rw [if_neg c6] at hs0
            refine lv_iconst (v := (-1)) hx hb dX11_possible_55 (by decide) ?_
            refine lv_goto (tgt := 74) hx hb dX11_possible_56 (by decide) ?_
            have hs0 := Option.some.inj hs0
            subst hs0
            exact W.zret hx hb hr rfl (fun t ht hw => ⟨⟨_, (m3, a3), rfl, ⟨rfl, w_x8_1, w_x8_2, hoff, w_A10, hoffa⟩, g_end hW ht hw⟩, hS.F ht⟩) hS.2.2 dX11_possible_74 hlocks
      · rw [if_pos c4] at hs0
        refine lv_aload_n hx hb dX11_possible_32 rfl (lv_at hl 0 rfl) ?_
        refine gf11_3 hx hb hG hown hW (o := 0) (ltN hN 0 rfl) gk0 (v := .ref (q 8)) (sh0_3 hsh) gx24 dX11_possible_33 ?_
        refine gf0_1 hx hb hG hown hW (o := 8) (ltN hN 8 rfl) gk8 (v := .int r3.1) w_x8_1 gx532 dX11_possible_36 ?_
        have hs0 := Option.some.inj hs0
        subst hs0
        exact W.zret hx hb hr rfl (fun t ht hw => ⟨⟨_, (m3, a3), rfl, ⟨rfl, w_x8_1, w_x8_2, hoff, w_A10, hoffa⟩, g_end hW ht hw⟩, hS.F ht⟩) hS.2.2 dX11_possible_39 hlocks
    · rw [if_neg c2] at hs0
      refine lv_iconst (v := (-1)) hx hb dX11_possible_9 (by decide) ?_
      have hs0 := Option.some.inj hs0
      subst hs0
      exact W.zret hx hb hr rfl (fun t ht hw => ⟨⟨_, (m0, a0), rfl, ⟨rfl, h_x8_1, h_x8_2, hoff, h_A10, hoffa⟩, g_end hW ht hw⟩, hS.F ht⟩) hS.2.2 dX11_possible_10 hlocks
-- HealLink.reached ()I
def fX11_reached (F : Nat) (x0_8 : Int64) (xkr_0 : Int32) (xkr_1 : Int32) (xkr_2 : Int32) (xkr_3 : Int32) (x27_6 : Int64) (x27_7 : Int32) (x27_8 : Int32) (x28_2 : Int32) (x28_3 : Int32) (x31_1 : Int32) (x31_2 : Int32) (A30 : Nat → Int32) (A33 : Nat → Int32) (A35 : Nat → Int32) (A37 : Nat → Int32) (A38 : Nat → Int64) : Option (Int32 × Int64 × Int32 × Int32 × Int32 × Int32 × Int32 × Int32 × (Nat → Int32) × (Nat → Int32) × (Nat → Int32) × (Nat → Int32) × (Nat → Int64)) := ((fX9_covers F xkr_0 xkr_1 xkr_2 xkr_3 x27_6 x27_7 x27_8 x28_2 x28_3 x31_1 x31_2 A30 A33 A35 A37 A38 x0_8).bind (fun r1 => (if r1.1 = 0 then some ((-3), r1.2.1, r1.2.2.1, r1.2.2.2.1, r1.2.2.2.2.1, r1.2.2.2.2.2.1, r1.2.2.2.2.2.2.1, r1.2.2.2.2.2.2.2.1, r1.2.2.2.2.2.2.2.2.1, r1.2.2.2.2.2.2.2.2.2.1, r1.2.2.2.2.2.2.2.2.2.2.1, r1.2.2.2.2.2.2.2.2.2.2.2.1, r1.2.2.2.2.2.2.2.2.2.2.2.2) else some (r1.2.2.2.2.1, r1.2.1, r1.2.2.1, r1.2.2.2.1, r1.2.2.2.2.1, r1.2.2.2.2.2.1, r1.2.2.2.2.2.2.1, r1.2.2.2.2.2.2.2.1, r1.2.2.2.2.2.2.2.2.1, r1.2.2.2.2.2.2.2.2.2.1, r1.2.2.2.2.2.2.2.2.2.2.1, r1.2.2.2.2.2.2.2.2.2.2.2.1, r1.2.2.2.2.2.2.2.2.2.2.2.2))))
theorem dX11_reached_0 : decode cX11_reached 0 = .ok (.aload_n 0, 1) := by decide +kernel
theorem dX11_reached_1 : decode cX11_reached 1 = .ok (.getfield 47, 3) := by decide +kernel
theorem dX11_reached_4 : decode cX11_reached 4 = .ok (.aload_n 0, 1) := by decide +kernel
theorem dX11_reached_5 : decode cX11_reached 5 = .ok (.getfield 56, 3) := by decide +kernel
theorem dX11_reached_8 : decode cX11_reached 8 = .ok (.aload_n 0, 1) := by decide +kernel
theorem dX11_reached_9 : decode cX11_reached 9 = .ok (.getfield 64, 3) := by decide +kernel
theorem dX11_reached_12 : decode cX11_reached 12 = .ok (.invokevirtual 220, 3) := by decide +kernel
theorem dX11_reached_15 : decode cX11_reached 15 = .ok (.ifCond .eq 16, 3) := by decide +kernel
theorem dX11_reached_18 : decode cX11_reached 18 = .ok (.aload_n 0, 1) := by decide +kernel
theorem dX11_reached_19 : decode cX11_reached 19 = .ok (.getfield 47, 3) := by decide +kernel
theorem dX11_reached_22 : decode cX11_reached 22 = .ok (.getfield 224, 3) := by decide +kernel
theorem dX11_reached_25 : decode cX11_reached 25 = .ok (.getfield 228, 3) := by decide +kernel
theorem dX11_reached_28 : decode cX11_reached 28 = .ok (.goto 5, 3) := by decide +kernel
theorem dX11_reached_31 : decode cX11_reached 31 = .ok (.bipush (-3), 2) := by decide +kernel
theorem dX11_reached_33 : decode cX11_reached 33 = .ok (.ireturn, 1) := by decide +kernel
set_option maxHeartbeats 4000000 in
set_option maxRecDepth 100000 in
theorem kX11_reached {l : Launch} {D : va_G} {cy : Nat → ClassId} {N : Nat} {q : Nat → Nat} {m0 : Nat → Value} {a0 : Nat → vp_A} {sz : Nat} (hN : 105 ≤ N) (hsh : SH q m0) {kr : Nat} (hkr : kr < N) (hgk : gk kr = 7) (hrf : m0 7 = .ref (q kr)) {x0_8 : Int64} (h_x0_8 : m0 8 = .long x0_8) {xkr_0 : Int32} (h_xkr_0 : m0 (100 * kr + 0) = .int xkr_0) {xkr_1 : Int32} (h_xkr_1 : m0 (100 * kr + 1) = .int xkr_1) {xkr_2 : Int32} (h_xkr_2 : m0 (100 * kr + 2) = .int xkr_2) {xkr_3 : Int32} (h_xkr_3 : m0 (100 * kr + 3) = .int xkr_3) {x27_6 : Int64} (h_x27_6 : m0 2706 = .long x27_6) {x27_7 : Int32} (h_x27_7 : m0 2707 = .int x27_7) {x27_8 : Int32} (h_x27_8 : m0 2708 = .int x27_8) {x28_2 : Int32} (h_x28_2 : m0 2802 = .int x28_2) {x28_3 : Int32} (h_x28_3 : m0 2803 = .int x28_3) {x31_1 : Int32} (h_x31_1 : m0 3101 = .int x31_1) {x31_2 : Int32} (h_x31_2 : m0 3102 = .int x31_2) {A30 : Nat → Int32} (h_A30 : a0 30 = (6001, .inl A30)) {A33 : Nat → Int32} (h_A33 : a0 33 = (10, .inl A33)) {A35 : Nat → Int32} (h_A35 : a0 35 = (60000, .inl A35)) {A37 : Nat → Int32} (h_A37 : a0 37 = (16384, .inl A37)) {A38 : Nat → Int64} (h_A38 : a0 38 = (6000, .inr (.inl A38))) (F : Nat) {X0 : Int32 × Int64 × Int32 × Int32 × Int32 × Int32 × Int32 × Int32 × (Nat → Int32) × (Nat → Int32) × (Nat → Int32) × (Nat → Int32) × (Nat → Int64)} (hs0 : fX11_reached F x0_8 xkr_0 xkr_1 xkr_2 xkr_3 x27_6 x27_7 x27_8 x28_2 x28_3 x31_1 x31_2 A30 A33 A35 A37 A38 = some X0) : gMi l yX11_reached cX11_reached 1 (some .int) ({ frames := 7, cells := 0, slots := 0, locals := 170 } : Room) D cy N q m0 a0 sz [.ref (q 0)] (fun r m' a' => r = X0.1 ∧ m' 2706 = .long X0.2.1 ∧ m' 2707 = .int X0.2.2.1 ∧ m' 2708 = .int X0.2.2.2.1 ∧ m' 2802 = .int X0.2.2.2.2.1 ∧ m' 2803 = .int X0.2.2.2.2.2.1 ∧ m' 3101 = .int X0.2.2.2.2.2.2.1 ∧ m' 3102 = .int X0.2.2.2.2.2.2.2.1 ∧ (∀ j, nel j [2706, 2707, 2708, 2802, 2803, 3101, 3102] = false → m' j = m0 j) ∧ a' 30 = (6001, .inl X0.2.2.2.2.2.2.2.2.1) ∧ a' 33 = (10, .inl X0.2.2.2.2.2.2.2.2.2.1) ∧ a' 35 = (60000, .inl X0.2.2.2.2.2.2.2.2.2.2.1) ∧ a' 37 = (16384, .inl X0.2.2.2.2.2.2.2.2.2.2.2.1) ∧ a' 38 = (6000, .inr (.inl X0.2.2.2.2.2.2.2.2.2.2.2.2)) ∧ (∀ j, nel j [30, 33, 35, 37, 38] = false → a' j = a0 j)) := by
  refine g_ofi (by decide) (Nat.le_of_ble_eq_true rfl) ?_
  intro p e s M args below meth c hx hb hr hG hown hin hlocks hml hW hS ls hl
  unfold fX11_reached at hs0
  have hoff : ∀ j, nel j [2706, 2707, 2708, 2802, 2803, 3101, 3102] = false → m0 j = m0 j := off0
  have hoffa : ∀ j, nel j [30, 33, 35, 37, 38] = false → a0 j = a0 j := off0
  refine lv_aload_n hx hb dX11_reached_0 rfl (lv_at hl 0 rfl) ?_
  refine gf11_6 hx hb hG hown hW (o := 0) (ltN hN 0 rfl) gk0 (v := .ref (q 27)) (sh0_6 hsh) gx36 dX11_reached_1 ?_
  refine lv_aload_n hx hb dX11_reached_4 rfl (lv_at hl 0 rfl) ?_
  refine gf11_7 hx hb hG hown hW (o := 0) (ltN hN 0 rfl) gk0 (v := .ref (q kr)) ((hoff 7 rfl).trans hrf) gx40 dX11_reached_5 ?_
  refine lv_aload_n hx hb dX11_reached_8 rfl (lv_at hl 0 rfl) ?_
  refine gf11_8 hx hb hG hown hW (o := 0) (ltN hN 0 rfl) gk0 (v := .long x0_8) ((hoff 8 rfl).trans h_x0_8) gx41 dX11_reached_9 ?_
  obtain ⟨r1, hf1, hs0⟩ := obind hs0
  refine g_Vi (n := 2) hx hb hml hown hG hW hS [.ref (q kr), .long x0_8] (kX9_covers hN hsh hkr hgk ((off_kr hoff hgk 0 rfl (by decide)).trans h_xkr_0) ((off_kr hoff hgk 1 rfl (by decide)).trans h_xkr_1) ((off_kr hoff hgk 2 rfl (by decide)).trans h_xkr_2) ((off_kr hoff hgk 3 rfl (by decide)).trans h_xkr_3) h_x27_6 h_x27_7 h_x27_8 h_x28_2 h_x28_3 h_x31_1 h_x31_2 h_A30 h_A33 h_A35 h_A37 h_A38 F x0_8 hf1) (ltN hN 27 rfl) gk27 (by decide) rfl rfl (gd_V gx659 gx660 gx661 gx35 gx662) rfl rfl (by decide) ⟨Nat.le_of_ble_eq_true rfl, Nat.le_of_ble_eq_true rfl⟩ rfl hl (Nat.le_of_ble_eq_true rfl) ⟨Nat.zero_le _, Nat.zero_le _⟩ dX11_reached_12 (fun x1 m1 a1 H locs hp1 hW hS => ?_)
  obtain ⟨hx1, hp1_x27_6, hp1_x27_7, hp1_x27_8, hp1_x28_2, hp1_x28_3, hp1_x31_1, hp1_x31_2, ho1, hp1_A30, hp1_A33, hp1_A35, hp1_A37, hp1_A38, hoa1⟩ := hp1
  subst hx1
  have w_x27_6 : m1 2706 = .long r1.2.1 := hp1_x27_6
  have w_x27_7 : m1 2707 = .int r1.2.2.1 := hp1_x27_7
  have w_x27_8 : m1 2708 = .int r1.2.2.2.1 := hp1_x27_8
  have w_x28_2 : m1 2802 = .int r1.2.2.2.2.1 := hp1_x28_2
  have w_x28_3 : m1 2803 = .int r1.2.2.2.2.2.1 := hp1_x28_3
  have w_x31_1 : m1 3101 = .int r1.2.2.2.2.2.2.1 := hp1_x31_1
  have w_x31_2 : m1 3102 = .int r1.2.2.2.2.2.2.2.1 := hp1_x31_2
  have hoff := offm hoff ho1 (by decide +kernel)
  have hsh := SH.off hsh ho1 (by decide +kernel)
  have w_A30 : a1 30 = (6001, .inl r1.2.2.2.2.2.2.2.2.1) := hp1_A30
  have w_A33 : a1 33 = (10, .inl r1.2.2.2.2.2.2.2.2.2.1) := hp1_A33
  have w_A35 : a1 35 = (60000, .inl r1.2.2.2.2.2.2.2.2.2.2.1) := hp1_A35
  have w_A37 : a1 37 = (16384, .inl r1.2.2.2.2.2.2.2.2.2.2.2.1) := hp1_A37
  have w_A38 : a1 38 = (6000, .inr (.inl r1.2.2.2.2.2.2.2.2.2.2.2.2)) := hp1_A38
  have hoffa := offm hoffa hoa1 (by decide +kernel)
  refine lv_if_eq (tgt := 31) hx hb dX11_reached_15 (by decide) (fun c2 => ?_) (fun c2 => ?_)
  · rw [if_pos c2] at hs0
    refine lv_bipush (v := (-3)) hx hb dX11_reached_31 (by decide) ?_
    have hs0 := Option.some.inj hs0
    subst hs0
    exact W.zret hx hb hr rfl (fun t ht hw => ⟨⟨_, (m1, a1), rfl, ⟨rfl, w_x27_6, w_x27_7, w_x27_8, w_x28_2, w_x28_3, w_x31_1, w_x31_2, hoff, w_A30, w_A33, w_A35, w_A37, w_A38, hoffa⟩, g_end hW ht hw⟩, hS.F ht⟩) hS.2.2 dX11_reached_33 hlocks
  · rw [if_neg c2] at hs0
    refine lv_aload_n hx hb dX11_reached_18 rfl (lv_at hl 0 rfl) ?_
    refine gf11_6 hx hb hG hown hW (o := 0) (ltN hN 0 rfl) gk0 (v := .ref (q 27)) (sh0_6 hsh) gx36 dX11_reached_19 ?_
    refine gf9_0 hx hb hG hown hW (o := 27) (ltN hN 27 rfl) gk27 (v := .ref (q 28)) (sh27_0 hsh) gx657 dX11_reached_22 ?_
    refine gf1_2 hx hb hG hown hW (o := 28) (ltN hN 28 rfl) gk28 (v := .int r1.2.2.2.2.1) w_x28_2 gx658 dX11_reached_25 ?_
    refine lv_goto (tgt := 33) hx hb dX11_reached_28 (by decide) ?_
    have hs0 := Option.some.inj hs0
    subst hs0
    exact W.zret hx hb hr rfl (fun t ht hw => ⟨⟨_, (m1, a1), rfl, ⟨rfl, w_x27_6, w_x27_7, w_x27_8, w_x28_2, w_x28_3, w_x31_1, w_x31_2, hoff, w_A30, w_A33, w_A35, w_A37, w_A38, hoffa⟩, g_end hW ht hw⟩, hS.F ht⟩) hS.2.2 dX11_reached_33 hlocks
-- HealLink.worst ()I
def fX11_worst (F : Nat) (x0_8 : Int64) (xkr_0 : Int32) (xkr_1 : Int32) (xkr_2 : Int32) (xkr_3 : Int32) (x27_6 : Int64) (x27_7 : Int32) (x27_8 : Int32) (x28_2 : Int32) (x28_3 : Int32) (x31_1 : Int32) (x31_2 : Int32) (x42_6 : Int32) (x42_7 : Int32) (A30 : Nat → Int32) (A33 : Nat → Int32) (A35 : Nat → Int32) (A37 : Nat → Int32) (A38 : Nat → Int64) (A44 : Nat → Int32) (A46 : Nat → Int32) (A48 : Nat → Int32) (A50 : Nat → Int32) (A52 : Nat → Int32) (A54 : Nat → Int32) : Option (Int32 × Int64 × Int32 × Int32 × Int32 × Int32 × Int32 × Int32 × Int32 × Int32 × (Nat → Int32) × (Nat → Int32) × (Nat → Int32) × (Nat → Int32) × (Nat → Int64) × (Nat → Int32) × (Nat → Int32) × (Nat → Int32) × (Nat → Int32) × (Nat → Int32) × (Nat → Int32)) := ((fX9_covers F xkr_0 xkr_1 xkr_2 xkr_3 x27_6 x27_7 x27_8 x28_2 x28_3 x31_1 x31_2 A30 A33 A35 A37 A38 x0_8).bind (fun r1 => (if r1.1 = 0 then some ((-3), r1.2.1, r1.2.2.1, r1.2.2.2.1, r1.2.2.2.2.1, r1.2.2.2.2.2.1, r1.2.2.2.2.2.2.1, r1.2.2.2.2.2.2.2.1, x42_6, x42_7, r1.2.2.2.2.2.2.2.2.1, r1.2.2.2.2.2.2.2.2.2.1, r1.2.2.2.2.2.2.2.2.2.2.1, r1.2.2.2.2.2.2.2.2.2.2.2.1, r1.2.2.2.2.2.2.2.2.2.2.2.2, A44, A46, A48, A50, A52, A54) else ((fX9_greatest F r1.2.2.2.2.1 r1.2.2.2.2.2.2.2.2.1 r1.2.2.2.2.2.2.2.2.2.2.1 r1.2.2.1 x42_6 x42_7 A44 A46 A48 A50 A52 A54).bind (fun r3 => some (r3.1, r1.2.1, r3.2.1, r1.2.2.2.1, r1.2.2.2.2.1, r1.2.2.2.2.2.1, r1.2.2.2.2.2.2.1, r1.2.2.2.2.2.2.2.1, r3.2.2.1, r3.2.2.2.1, r1.2.2.2.2.2.2.2.2.1, r1.2.2.2.2.2.2.2.2.2.1, r1.2.2.2.2.2.2.2.2.2.2.1, r1.2.2.2.2.2.2.2.2.2.2.2.1, r1.2.2.2.2.2.2.2.2.2.2.2.2, r3.2.2.2.2.1, r3.2.2.2.2.2.1, r3.2.2.2.2.2.2.1, r3.2.2.2.2.2.2.2.1, r3.2.2.2.2.2.2.2.2.1, r3.2.2.2.2.2.2.2.2.2))))))
theorem dX11_worst_0 : decode cX11_worst 0 = .ok (.aload_n 0, 1) := by decide +kernel
theorem dX11_worst_1 : decode cX11_worst 1 = .ok (.getfield 47, 3) := by decide +kernel
theorem dX11_worst_4 : decode cX11_worst 4 = .ok (.aload_n 0, 1) := by decide +kernel
theorem dX11_worst_5 : decode cX11_worst 5 = .ok (.getfield 56, 3) := by decide +kernel
theorem dX11_worst_8 : decode cX11_worst 8 = .ok (.aload_n 0, 1) := by decide +kernel
theorem dX11_worst_9 : decode cX11_worst 9 = .ok (.getfield 64, 3) := by decide +kernel
theorem dX11_worst_12 : decode cX11_worst 12 = .ok (.invokevirtual 220, 3) := by decide +kernel
theorem dX11_worst_15 : decode cX11_worst 15 = .ok (.ifCond .eq 13, 3) := by decide +kernel
theorem dX11_worst_18 : decode cX11_worst 18 = .ok (.aload_n 0, 1) := by decide +kernel
theorem dX11_worst_19 : decode cX11_worst 19 = .ok (.getfield 47, 3) := by decide +kernel
theorem dX11_worst_22 : decode cX11_worst 22 = .ok (.invokevirtual 231, 3) := by decide +kernel
theorem dX11_worst_25 : decode cX11_worst 25 = .ok (.goto 5, 3) := by decide +kernel
theorem dX11_worst_28 : decode cX11_worst 28 = .ok (.bipush (-3), 2) := by decide +kernel
theorem dX11_worst_30 : decode cX11_worst 30 = .ok (.ireturn, 1) := by decide +kernel
set_option maxHeartbeats 4000000 in
set_option maxRecDepth 100000 in
theorem kX11_worst {l : Launch} {D : va_G} {cy : Nat → ClassId} {N : Nat} {q : Nat → Nat} {m0 : Nat → Value} {a0 : Nat → vp_A} {sz : Nat} (hN : 105 ≤ N) (hsh : SH q m0) {kr : Nat} (hkr : kr < N) (hgk : gk kr = 7) (hrf : m0 7 = .ref (q kr)) {x0_8 : Int64} (h_x0_8 : m0 8 = .long x0_8) {xkr_0 : Int32} (h_xkr_0 : m0 (100 * kr + 0) = .int xkr_0) {xkr_1 : Int32} (h_xkr_1 : m0 (100 * kr + 1) = .int xkr_1) {xkr_2 : Int32} (h_xkr_2 : m0 (100 * kr + 2) = .int xkr_2) {xkr_3 : Int32} (h_xkr_3 : m0 (100 * kr + 3) = .int xkr_3) {x27_6 : Int64} (h_x27_6 : m0 2706 = .long x27_6) {x27_7 : Int32} (h_x27_7 : m0 2707 = .int x27_7) {x27_8 : Int32} (h_x27_8 : m0 2708 = .int x27_8) {x28_2 : Int32} (h_x28_2 : m0 2802 = .int x28_2) {x28_3 : Int32} (h_x28_3 : m0 2803 = .int x28_3) {x31_1 : Int32} (h_x31_1 : m0 3101 = .int x31_1) {x31_2 : Int32} (h_x31_2 : m0 3102 = .int x31_2) {x42_6 : Int32} (h_x42_6 : m0 4206 = .int x42_6) {x42_7 : Int32} (h_x42_7 : m0 4207 = .int x42_7) {A30 : Nat → Int32} (h_A30 : a0 30 = (6001, .inl A30)) {A33 : Nat → Int32} (h_A33 : a0 33 = (10, .inl A33)) {A35 : Nat → Int32} (h_A35 : a0 35 = (60000, .inl A35)) {A37 : Nat → Int32} (h_A37 : a0 37 = (16384, .inl A37)) {A38 : Nat → Int64} (h_A38 : a0 38 = (6000, .inr (.inl A38))) {A44 : Nat → Int32} (h_A44 : a0 44 = (6000, .inl A44)) {A46 : Nat → Int32} (h_A46 : a0 46 = (6000, .inl A46)) {A48 : Nat → Int32} (h_A48 : a0 48 = (6000, .inl A48)) {A50 : Nat → Int32} (h_A50 : a0 50 = (6000, .inl A50)) {A52 : Nat → Int32} (h_A52 : a0 52 = (6000, .inl A52)) {A54 : Nat → Int32} (h_A54 : a0 54 = (6000, .inl A54)) (F : Nat) {X0 : Int32 × Int64 × Int32 × Int32 × Int32 × Int32 × Int32 × Int32 × Int32 × Int32 × (Nat → Int32) × (Nat → Int32) × (Nat → Int32) × (Nat → Int32) × (Nat → Int64) × (Nat → Int32) × (Nat → Int32) × (Nat → Int32) × (Nat → Int32) × (Nat → Int32) × (Nat → Int32)} (hs0 : fX11_worst F x0_8 xkr_0 xkr_1 xkr_2 xkr_3 x27_6 x27_7 x27_8 x28_2 x28_3 x31_1 x31_2 x42_6 x42_7 A30 A33 A35 A37 A38 A44 A46 A48 A50 A52 A54 = some X0) : gMi l yX11_worst cX11_worst 1 (some .int) ({ frames := 7, cells := 0, slots := 0, locals := 170 } : Room) D cy N q m0 a0 sz [.ref (q 0)] (fun r m' a' => r = X0.1 ∧ m' 2706 = .long X0.2.1 ∧ m' 2707 = .int X0.2.2.1 ∧ m' 2708 = .int X0.2.2.2.1 ∧ m' 2802 = .int X0.2.2.2.2.1 ∧ m' 2803 = .int X0.2.2.2.2.2.1 ∧ m' 3101 = .int X0.2.2.2.2.2.2.1 ∧ m' 3102 = .int X0.2.2.2.2.2.2.2.1 ∧ m' 4206 = .int X0.2.2.2.2.2.2.2.2.1 ∧ m' 4207 = .int X0.2.2.2.2.2.2.2.2.2.1 ∧ (∀ j, nel j [2706, 2707, 2708, 2802, 2803, 3101, 3102, 4206, 4207] = false → m' j = m0 j) ∧ a' 30 = (6001, .inl X0.2.2.2.2.2.2.2.2.2.2.1) ∧ a' 33 = (10, .inl X0.2.2.2.2.2.2.2.2.2.2.2.1) ∧ a' 35 = (60000, .inl X0.2.2.2.2.2.2.2.2.2.2.2.2.1) ∧ a' 37 = (16384, .inl X0.2.2.2.2.2.2.2.2.2.2.2.2.2.1) ∧ a' 38 = (6000, .inr (.inl X0.2.2.2.2.2.2.2.2.2.2.2.2.2.2.1)) ∧ a' 44 = (6000, .inl X0.2.2.2.2.2.2.2.2.2.2.2.2.2.2.2.1) ∧ a' 46 = (6000, .inl X0.2.2.2.2.2.2.2.2.2.2.2.2.2.2.2.2.1) ∧ a' 48 = (6000, .inl X0.2.2.2.2.2.2.2.2.2.2.2.2.2.2.2.2.2.1) ∧ a' 50 = (6000, .inl X0.2.2.2.2.2.2.2.2.2.2.2.2.2.2.2.2.2.2.1) ∧ a' 52 = (6000, .inl X0.2.2.2.2.2.2.2.2.2.2.2.2.2.2.2.2.2.2.2.1) ∧ a' 54 = (6000, .inl X0.2.2.2.2.2.2.2.2.2.2.2.2.2.2.2.2.2.2.2.2) ∧ (∀ j, nel j [30, 33, 35, 37, 38, 44, 46, 48, 50, 52, 54] = false → a' j = a0 j)) := by
  refine g_ofi (by decide) (Nat.le_of_ble_eq_true rfl) ?_
  intro p e s M args below meth c hx hb hr hG hown hin hlocks hml hW hS ls hl
  unfold fX11_worst at hs0
  have hoff : ∀ j, nel j [2706, 2707, 2708, 2802, 2803, 3101, 3102, 4206, 4207] = false → m0 j = m0 j := off0
  have hoffa : ∀ j, nel j [30, 33, 35, 37, 38, 44, 46, 48, 50, 52, 54] = false → a0 j = a0 j := off0
  refine lv_aload_n hx hb dX11_worst_0 rfl (lv_at hl 0 rfl) ?_
  refine gf11_6 hx hb hG hown hW (o := 0) (ltN hN 0 rfl) gk0 (v := .ref (q 27)) (sh0_6 hsh) gx36 dX11_worst_1 ?_
  refine lv_aload_n hx hb dX11_worst_4 rfl (lv_at hl 0 rfl) ?_
  refine gf11_7 hx hb hG hown hW (o := 0) (ltN hN 0 rfl) gk0 (v := .ref (q kr)) ((hoff 7 rfl).trans hrf) gx40 dX11_worst_5 ?_
  refine lv_aload_n hx hb dX11_worst_8 rfl (lv_at hl 0 rfl) ?_
  refine gf11_8 hx hb hG hown hW (o := 0) (ltN hN 0 rfl) gk0 (v := .long x0_8) ((hoff 8 rfl).trans h_x0_8) gx41 dX11_worst_9 ?_
  obtain ⟨r1, hf1, hs0⟩ := obind hs0
  refine g_Vi (n := 2) hx hb hml hown hG hW hS [.ref (q kr), .long x0_8] (kX9_covers hN hsh hkr hgk ((off_kr hoff hgk 0 rfl (by decide)).trans h_xkr_0) ((off_kr hoff hgk 1 rfl (by decide)).trans h_xkr_1) ((off_kr hoff hgk 2 rfl (by decide)).trans h_xkr_2) ((off_kr hoff hgk 3 rfl (by decide)).trans h_xkr_3) h_x27_6 h_x27_7 h_x27_8 h_x28_2 h_x28_3 h_x31_1 h_x31_2 h_A30 h_A33 h_A35 h_A37 h_A38 F x0_8 hf1) (ltN hN 27 rfl) gk27 (by decide) rfl rfl (gd_V gx659 gx660 gx661 gx35 gx662) rfl rfl (by decide) ⟨Nat.le_of_ble_eq_true rfl, Nat.le_of_ble_eq_true rfl⟩ rfl hl (Nat.le_of_ble_eq_true rfl) ⟨Nat.zero_le _, Nat.zero_le _⟩ dX11_worst_12 (fun x1 m1 a1 H locs hp1 hW hS => ?_)
  obtain ⟨hx1, hp1_x27_6, hp1_x27_7, hp1_x27_8, hp1_x28_2, hp1_x28_3, hp1_x31_1, hp1_x31_2, ho1, hp1_A30, hp1_A33, hp1_A35, hp1_A37, hp1_A38, hoa1⟩ := hp1
  subst hx1
  have w_x27_6 : m1 2706 = .long r1.2.1 := hp1_x27_6
  have w_x27_7 : m1 2707 = .int r1.2.2.1 := hp1_x27_7
  have w_x27_8 : m1 2708 = .int r1.2.2.2.1 := hp1_x27_8
  have w_x28_2 : m1 2802 = .int r1.2.2.2.2.1 := hp1_x28_2
  have w_x28_3 : m1 2803 = .int r1.2.2.2.2.2.1 := hp1_x28_3
  have w_x31_1 : m1 3101 = .int r1.2.2.2.2.2.2.1 := hp1_x31_1
  have w_x31_2 : m1 3102 = .int r1.2.2.2.2.2.2.2.1 := hp1_x31_2
  have w_x42_6 : m1 4206 = .int x42_6 := (ho1 4206 rfl).trans h_x42_6
  have w_x42_7 : m1 4207 = .int x42_7 := (ho1 4207 rfl).trans h_x42_7
  have hoff := offm hoff ho1 (by decide +kernel)
  have hsh := SH.off hsh ho1 (by decide +kernel)
  have w_A30 : a1 30 = (6001, .inl r1.2.2.2.2.2.2.2.2.1) := hp1_A30
  have w_A33 : a1 33 = (10, .inl r1.2.2.2.2.2.2.2.2.2.1) := hp1_A33
  have w_A35 : a1 35 = (60000, .inl r1.2.2.2.2.2.2.2.2.2.2.1) := hp1_A35
  have w_A37 : a1 37 = (16384, .inl r1.2.2.2.2.2.2.2.2.2.2.2.1) := hp1_A37
  have w_A38 : a1 38 = (6000, .inr (.inl r1.2.2.2.2.2.2.2.2.2.2.2.2)) := hp1_A38
  have w_A44 : a1 44 = (6000, .inl A44) := (hoa1 44 rfl).trans h_A44
  have w_A46 : a1 46 = (6000, .inl A46) := (hoa1 46 rfl).trans h_A46
  have w_A48 : a1 48 = (6000, .inl A48) := (hoa1 48 rfl).trans h_A48
  have w_A50 : a1 50 = (6000, .inl A50) := (hoa1 50 rfl).trans h_A50
  have w_A52 : a1 52 = (6000, .inl A52) := (hoa1 52 rfl).trans h_A52
  have w_A54 : a1 54 = (6000, .inl A54) := (hoa1 54 rfl).trans h_A54
  have hoffa := offm hoffa hoa1 (by decide +kernel)
  refine lv_if_eq (tgt := 28) hx hb dX11_worst_15 (by decide) (fun c2 => ?_) (fun c2 => ?_)
  · rw [if_pos c2] at hs0
    refine lv_bipush (v := (-3)) hx hb dX11_worst_28 (by decide) ?_
    have hs0 := Option.some.inj hs0
    subst hs0
    exact W.zret hx hb hr rfl (fun t ht hw => ⟨⟨_, (m1, a1), rfl, ⟨rfl, w_x27_6, w_x27_7, w_x27_8, w_x28_2, w_x28_3, w_x31_1, w_x31_2, w_x42_6, w_x42_7, hoff, w_A30, w_A33, w_A35, w_A37, w_A38, w_A44, w_A46, w_A48, w_A50, w_A52, w_A54, hoffa⟩, g_end hW ht hw⟩, hS.F ht⟩) hS.2.2 dX11_worst_30 hlocks
  · rw [if_neg c2] at hs0
    refine lv_aload_n hx hb dX11_worst_18 rfl (lv_at hl 0 rfl) ?_
    refine gf11_6 hx hb hG hown hW (o := 0) (ltN hN 0 rfl) gk0 (v := .ref (q 27)) (sh0_6 hsh) gx36 dX11_worst_19 ?_
    obtain ⟨r3, hf3, hs0⟩ := obind hs0
    refine g_Vi (n := 0) hx hb hml hown hG hW hS [] (kX9_greatest hN hsh w_x28_2 w_A30 w_A35 w_x27_7 w_x42_6 w_x42_7 w_A44 w_A46 w_A48 w_A50 w_A52 w_A54 F hf3) (ltN hN 27 rfl) gk27 (by decide) rfl rfl (gd_V gx747 gx748 gx749 gx35 gx750) rfl rfl (by decide) ⟨Nat.le_of_ble_eq_true rfl, Nat.le_of_ble_eq_true rfl⟩ rfl hl (Nat.le_of_ble_eq_true rfl) ⟨Nat.zero_le _, Nat.zero_le _⟩ dX11_worst_22 (fun x3 m3 a3 H locs hp3 hW hS => ?_)
    obtain ⟨hx3, hp3_x27_7, hp3_x42_6, hp3_x42_7, ho3, hp3_A44, hp3_A46, hp3_A48, hp3_A50, hp3_A52, hp3_A54, hoa3⟩ := hp3
    subst hx3
    have w_x27_6 : m3 2706 = .long r1.2.1 := (ho3 2706 rfl).trans w_x27_6
    have w_x27_7 : m3 2707 = .int r3.2.1 := hp3_x27_7
    have w_x27_8 : m3 2708 = .int r1.2.2.2.1 := (ho3 2708 rfl).trans w_x27_8
    have w_x28_2 : m3 2802 = .int r1.2.2.2.2.1 := (ho3 2802 rfl).trans w_x28_2
    have w_x28_3 : m3 2803 = .int r1.2.2.2.2.2.1 := (ho3 2803 rfl).trans w_x28_3
    have w_x31_1 : m3 3101 = .int r1.2.2.2.2.2.2.1 := (ho3 3101 rfl).trans w_x31_1
    have w_x31_2 : m3 3102 = .int r1.2.2.2.2.2.2.2.1 := (ho3 3102 rfl).trans w_x31_2
    have w_x42_6 : m3 4206 = .int r3.2.2.1 := hp3_x42_6
    have w_x42_7 : m3 4207 = .int r3.2.2.2.1 := hp3_x42_7
    have hoff := offm hoff ho3 (by decide +kernel)
    have hsh := SH.off hsh ho3 (by decide +kernel)
    have w_A30 : a3 30 = (6001, .inl r1.2.2.2.2.2.2.2.2.1) := (hoa3 30 rfl).trans w_A30
    have w_A33 : a3 33 = (10, .inl r1.2.2.2.2.2.2.2.2.2.1) := (hoa3 33 rfl).trans w_A33
    have w_A35 : a3 35 = (60000, .inl r1.2.2.2.2.2.2.2.2.2.2.1) := (hoa3 35 rfl).trans w_A35
    have w_A37 : a3 37 = (16384, .inl r1.2.2.2.2.2.2.2.2.2.2.2.1) := (hoa3 37 rfl).trans w_A37
    have w_A38 : a3 38 = (6000, .inr (.inl r1.2.2.2.2.2.2.2.2.2.2.2.2)) := (hoa3 38 rfl).trans w_A38
    have w_A44 : a3 44 = (6000, .inl r3.2.2.2.2.1) := hp3_A44
    have w_A46 : a3 46 = (6000, .inl r3.2.2.2.2.2.1) := hp3_A46
    have w_A48 : a3 48 = (6000, .inl r3.2.2.2.2.2.2.1) := hp3_A48
    have w_A50 : a3 50 = (6000, .inl r3.2.2.2.2.2.2.2.1) := hp3_A50
    have w_A52 : a3 52 = (6000, .inl r3.2.2.2.2.2.2.2.2.1) := hp3_A52
    have w_A54 : a3 54 = (6000, .inl r3.2.2.2.2.2.2.2.2.2) := hp3_A54
    have hoffa := offm hoffa hoa3 (by decide +kernel)
    refine lv_goto (tgt := 30) hx hb dX11_worst_25 (by decide) ?_
    have hs0 := Option.some.inj hs0
    subst hs0
    exact W.zret hx hb hr rfl (fun t ht hw => ⟨⟨_, (m3, a3), rfl, ⟨rfl, w_x27_6, w_x27_7, w_x27_8, w_x28_2, w_x28_3, w_x31_1, w_x31_2, w_x42_6, w_x42_7, hoff, w_A30, w_A33, w_A35, w_A37, w_A38, w_A44, w_A46, w_A48, w_A50, w_A52, w_A54, hoffa⟩, g_end hW ht hw⟩, hS.F ht⟩) hS.2.2 dX11_worst_30 hlocks
-- HealLink.soonest ()I
def fX11_soonest (F : Nat) (x0_8 : Int64) (xkr_0 : Int32) (xkr_1 : Int32) (xkr_2 : Int32) (xkr_3 : Int32) (x27_6 : Int64) (x27_7 : Int32) (x27_8 : Int32) (x28_2 : Int32) (x28_3 : Int32) (x31_1 : Int32) (x31_2 : Int32) (A30 : Nat → Int32) (A33 : Nat → Int32) (A35 : Nat → Int32) (A37 : Nat → Int32) (A38 : Nat → Int64) (A57 : Nat → Int32) (A59 : Nat → Int32) (A61 : Nat → Int32) (A63 : Nat → Int32) (A65 : Nat → Int32) : Option (Int32 × Int64 × Int32 × Int32 × Int32 × Int32 × Int32 × Int32 × (Nat → Int32) × (Nat → Int32) × (Nat → Int32) × (Nat → Int32) × (Nat → Int64) × (Nat → Int32) × (Nat → Int32) × (Nat → Int32) × (Nat → Int32) × (Nat → Int32)) := ((fX9_covers F xkr_0 xkr_1 xkr_2 xkr_3 x27_6 x27_7 x27_8 x28_2 x28_3 x31_1 x31_2 A30 A33 A35 A37 A38 x0_8).bind (fun r1 => (if r1.1 = 0 then some ((-3), r1.2.1, r1.2.2.1, r1.2.2.2.1, r1.2.2.2.2.1, r1.2.2.2.2.2.1, r1.2.2.2.2.2.2.1, r1.2.2.2.2.2.2.2.1, r1.2.2.2.2.2.2.2.2.1, r1.2.2.2.2.2.2.2.2.2.1, r1.2.2.2.2.2.2.2.2.2.2.1, r1.2.2.2.2.2.2.2.2.2.2.2.1, r1.2.2.2.2.2.2.2.2.2.2.2.2, A57, A59, A61, A63, A65) else ((fX9_actsToBad F r1.2.2.2.2.1 r1.2.2.2.2.2.2.2.2.1 r1.2.2.2.2.2.2.2.2.2.2.1 r1.2.2.2.1 A57 A59 A61 A63 A65).bind (fun r3 => some (r3.1, r1.2.1, r1.2.2.1, r3.2.1, r1.2.2.2.2.1, r1.2.2.2.2.2.1, r1.2.2.2.2.2.2.1, r1.2.2.2.2.2.2.2.1, r1.2.2.2.2.2.2.2.2.1, r1.2.2.2.2.2.2.2.2.2.1, r1.2.2.2.2.2.2.2.2.2.2.1, r1.2.2.2.2.2.2.2.2.2.2.2.1, r1.2.2.2.2.2.2.2.2.2.2.2.2, r3.2.2.1, r3.2.2.2.1, r3.2.2.2.2.1, r3.2.2.2.2.2.1, r3.2.2.2.2.2.2))))))
theorem dX11_soonest_0 : decode cX11_soonest 0 = .ok (.aload_n 0, 1) := by decide +kernel
theorem dX11_soonest_1 : decode cX11_soonest 1 = .ok (.getfield 47, 3) := by decide +kernel
theorem dX11_soonest_4 : decode cX11_soonest 4 = .ok (.aload_n 0, 1) := by decide +kernel
theorem dX11_soonest_5 : decode cX11_soonest 5 = .ok (.getfield 56, 3) := by decide +kernel
theorem dX11_soonest_8 : decode cX11_soonest 8 = .ok (.aload_n 0, 1) := by decide +kernel
theorem dX11_soonest_9 : decode cX11_soonest 9 = .ok (.getfield 64, 3) := by decide +kernel
theorem dX11_soonest_12 : decode cX11_soonest 12 = .ok (.invokevirtual 220, 3) := by decide +kernel
theorem dX11_soonest_15 : decode cX11_soonest 15 = .ok (.ifCond .eq 13, 3) := by decide +kernel
theorem dX11_soonest_18 : decode cX11_soonest 18 = .ok (.aload_n 0, 1) := by decide +kernel
theorem dX11_soonest_19 : decode cX11_soonest 19 = .ok (.getfield 47, 3) := by decide +kernel
theorem dX11_soonest_22 : decode cX11_soonest 22 = .ok (.invokevirtual 234, 3) := by decide +kernel
theorem dX11_soonest_25 : decode cX11_soonest 25 = .ok (.goto 5, 3) := by decide +kernel
theorem dX11_soonest_28 : decode cX11_soonest 28 = .ok (.bipush (-3), 2) := by decide +kernel
theorem dX11_soonest_30 : decode cX11_soonest 30 = .ok (.ireturn, 1) := by decide +kernel
set_option maxHeartbeats 4000000 in
set_option maxRecDepth 100000 in
theorem kX11_soonest {l : Launch} {D : va_G} {cy : Nat → ClassId} {N : Nat} {q : Nat → Nat} {m0 : Nat → Value} {a0 : Nat → vp_A} {sz : Nat} (hN : 105 ≤ N) (hsh : SH q m0) {kr : Nat} (hkr : kr < N) (hgk : gk kr = 7) (hrf : m0 7 = .ref (q kr)) {x0_8 : Int64} (h_x0_8 : m0 8 = .long x0_8) {xkr_0 : Int32} (h_xkr_0 : m0 (100 * kr + 0) = .int xkr_0) {xkr_1 : Int32} (h_xkr_1 : m0 (100 * kr + 1) = .int xkr_1) {xkr_2 : Int32} (h_xkr_2 : m0 (100 * kr + 2) = .int xkr_2) {xkr_3 : Int32} (h_xkr_3 : m0 (100 * kr + 3) = .int xkr_3) {x27_6 : Int64} (h_x27_6 : m0 2706 = .long x27_6) {x27_7 : Int32} (h_x27_7 : m0 2707 = .int x27_7) {x27_8 : Int32} (h_x27_8 : m0 2708 = .int x27_8) {x28_2 : Int32} (h_x28_2 : m0 2802 = .int x28_2) {x28_3 : Int32} (h_x28_3 : m0 2803 = .int x28_3) {x31_1 : Int32} (h_x31_1 : m0 3101 = .int x31_1) {x31_2 : Int32} (h_x31_2 : m0 3102 = .int x31_2) {A30 : Nat → Int32} (h_A30 : a0 30 = (6001, .inl A30)) {A33 : Nat → Int32} (h_A33 : a0 33 = (10, .inl A33)) {A35 : Nat → Int32} (h_A35 : a0 35 = (60000, .inl A35)) {A37 : Nat → Int32} (h_A37 : a0 37 = (16384, .inl A37)) {A38 : Nat → Int64} (h_A38 : a0 38 = (6000, .inr (.inl A38))) {A57 : Nat → Int32} (h_A57 : a0 57 = (6000, .inl A57)) {A59 : Nat → Int32} (h_A59 : a0 59 = (6000, .inl A59)) {A61 : Nat → Int32} (h_A61 : a0 61 = (6000, .inl A61)) {A63 : Nat → Int32} (h_A63 : a0 63 = (6001, .inl A63)) {A65 : Nat → Int32} (h_A65 : a0 65 = (60000, .inl A65)) (F : Nat) {X0 : Int32 × Int64 × Int32 × Int32 × Int32 × Int32 × Int32 × Int32 × (Nat → Int32) × (Nat → Int32) × (Nat → Int32) × (Nat → Int32) × (Nat → Int64) × (Nat → Int32) × (Nat → Int32) × (Nat → Int32) × (Nat → Int32) × (Nat → Int32)} (hs0 : fX11_soonest F x0_8 xkr_0 xkr_1 xkr_2 xkr_3 x27_6 x27_7 x27_8 x28_2 x28_3 x31_1 x31_2 A30 A33 A35 A37 A38 A57 A59 A61 A63 A65 = some X0) : gMi l yX11_soonest cX11_soonest 1 (some .int) ({ frames := 7, cells := 0, slots := 0, locals := 170 } : Room) D cy N q m0 a0 sz [.ref (q 0)] (fun r m' a' => r = X0.1 ∧ m' 2706 = .long X0.2.1 ∧ m' 2707 = .int X0.2.2.1 ∧ m' 2708 = .int X0.2.2.2.1 ∧ m' 2802 = .int X0.2.2.2.2.1 ∧ m' 2803 = .int X0.2.2.2.2.2.1 ∧ m' 3101 = .int X0.2.2.2.2.2.2.1 ∧ m' 3102 = .int X0.2.2.2.2.2.2.2.1 ∧ (∀ j, nel j [2706, 2707, 2708, 2802, 2803, 3101, 3102] = false → m' j = m0 j) ∧ a' 30 = (6001, .inl X0.2.2.2.2.2.2.2.2.1) ∧ a' 33 = (10, .inl X0.2.2.2.2.2.2.2.2.2.1) ∧ a' 35 = (60000, .inl X0.2.2.2.2.2.2.2.2.2.2.1) ∧ a' 37 = (16384, .inl X0.2.2.2.2.2.2.2.2.2.2.2.1) ∧ a' 38 = (6000, .inr (.inl X0.2.2.2.2.2.2.2.2.2.2.2.2.1)) ∧ a' 57 = (6000, .inl X0.2.2.2.2.2.2.2.2.2.2.2.2.2.1) ∧ a' 59 = (6000, .inl X0.2.2.2.2.2.2.2.2.2.2.2.2.2.2.1) ∧ a' 61 = (6000, .inl X0.2.2.2.2.2.2.2.2.2.2.2.2.2.2.2.1) ∧ a' 63 = (6001, .inl X0.2.2.2.2.2.2.2.2.2.2.2.2.2.2.2.2.1) ∧ a' 65 = (60000, .inl X0.2.2.2.2.2.2.2.2.2.2.2.2.2.2.2.2.2) ∧ (∀ j, nel j [30, 33, 35, 37, 38, 57, 59, 61, 63, 65] = false → a' j = a0 j)) := by
  refine g_ofi (by decide) (Nat.le_of_ble_eq_true rfl) ?_
  intro p e s M args below meth c hx hb hr hG hown hin hlocks hml hW hS ls hl
  unfold fX11_soonest at hs0
  have hoff : ∀ j, nel j [2706, 2707, 2708, 2802, 2803, 3101, 3102] = false → m0 j = m0 j := off0
  have hoffa : ∀ j, nel j [30, 33, 35, 37, 38, 57, 59, 61, 63, 65] = false → a0 j = a0 j := off0
  refine lv_aload_n hx hb dX11_soonest_0 rfl (lv_at hl 0 rfl) ?_
  refine gf11_6 hx hb hG hown hW (o := 0) (ltN hN 0 rfl) gk0 (v := .ref (q 27)) (sh0_6 hsh) gx36 dX11_soonest_1 ?_
  refine lv_aload_n hx hb dX11_soonest_4 rfl (lv_at hl 0 rfl) ?_
  refine gf11_7 hx hb hG hown hW (o := 0) (ltN hN 0 rfl) gk0 (v := .ref (q kr)) ((hoff 7 rfl).trans hrf) gx40 dX11_soonest_5 ?_
  refine lv_aload_n hx hb dX11_soonest_8 rfl (lv_at hl 0 rfl) ?_
  refine gf11_8 hx hb hG hown hW (o := 0) (ltN hN 0 rfl) gk0 (v := .long x0_8) ((hoff 8 rfl).trans h_x0_8) gx41 dX11_soonest_9 ?_
  obtain ⟨r1, hf1, hs0⟩ := obind hs0
  refine g_Vi (n := 2) hx hb hml hown hG hW hS [.ref (q kr), .long x0_8] (kX9_covers hN hsh hkr hgk ((off_kr hoff hgk 0 rfl (by decide)).trans h_xkr_0) ((off_kr hoff hgk 1 rfl (by decide)).trans h_xkr_1) ((off_kr hoff hgk 2 rfl (by decide)).trans h_xkr_2) ((off_kr hoff hgk 3 rfl (by decide)).trans h_xkr_3) h_x27_6 h_x27_7 h_x27_8 h_x28_2 h_x28_3 h_x31_1 h_x31_2 h_A30 h_A33 h_A35 h_A37 h_A38 F x0_8 hf1) (ltN hN 27 rfl) gk27 (by decide) rfl rfl (gd_V gx659 gx660 gx661 gx35 gx662) rfl rfl (by decide) ⟨Nat.le_of_ble_eq_true rfl, Nat.le_of_ble_eq_true rfl⟩ rfl hl (Nat.le_of_ble_eq_true rfl) ⟨Nat.zero_le _, Nat.zero_le _⟩ dX11_soonest_12 (fun x1 m1 a1 H locs hp1 hW hS => ?_)
  obtain ⟨hx1, hp1_x27_6, hp1_x27_7, hp1_x27_8, hp1_x28_2, hp1_x28_3, hp1_x31_1, hp1_x31_2, ho1, hp1_A30, hp1_A33, hp1_A35, hp1_A37, hp1_A38, hoa1⟩ := hp1
  subst hx1
  have w_x27_6 : m1 2706 = .long r1.2.1 := hp1_x27_6
  have w_x27_7 : m1 2707 = .int r1.2.2.1 := hp1_x27_7
  have w_x27_8 : m1 2708 = .int r1.2.2.2.1 := hp1_x27_8
  have w_x28_2 : m1 2802 = .int r1.2.2.2.2.1 := hp1_x28_2
  have w_x28_3 : m1 2803 = .int r1.2.2.2.2.2.1 := hp1_x28_3
  have w_x31_1 : m1 3101 = .int r1.2.2.2.2.2.2.1 := hp1_x31_1
  have w_x31_2 : m1 3102 = .int r1.2.2.2.2.2.2.2.1 := hp1_x31_2
  have hoff := offm hoff ho1 (by decide +kernel)
  have hsh := SH.off hsh ho1 (by decide +kernel)
  have w_A30 : a1 30 = (6001, .inl r1.2.2.2.2.2.2.2.2.1) := hp1_A30
  have w_A33 : a1 33 = (10, .inl r1.2.2.2.2.2.2.2.2.2.1) := hp1_A33
  have w_A35 : a1 35 = (60000, .inl r1.2.2.2.2.2.2.2.2.2.2.1) := hp1_A35
  have w_A37 : a1 37 = (16384, .inl r1.2.2.2.2.2.2.2.2.2.2.2.1) := hp1_A37
  have w_A38 : a1 38 = (6000, .inr (.inl r1.2.2.2.2.2.2.2.2.2.2.2.2)) := hp1_A38
  have w_A57 : a1 57 = (6000, .inl A57) := (hoa1 57 rfl).trans h_A57
  have w_A59 : a1 59 = (6000, .inl A59) := (hoa1 59 rfl).trans h_A59
  have w_A61 : a1 61 = (6000, .inl A61) := (hoa1 61 rfl).trans h_A61
  have w_A63 : a1 63 = (6001, .inl A63) := (hoa1 63 rfl).trans h_A63
  have w_A65 : a1 65 = (60000, .inl A65) := (hoa1 65 rfl).trans h_A65
  have hoffa := offm hoffa hoa1 (by decide +kernel)
  refine lv_if_eq (tgt := 28) hx hb dX11_soonest_15 (by decide) (fun c2 => ?_) (fun c2 => ?_)
  · rw [if_pos c2] at hs0
    refine lv_bipush (v := (-3)) hx hb dX11_soonest_28 (by decide) ?_
    have hs0 := Option.some.inj hs0
    subst hs0
    exact W.zret hx hb hr rfl (fun t ht hw => ⟨⟨_, (m1, a1), rfl, ⟨rfl, w_x27_6, w_x27_7, w_x27_8, w_x28_2, w_x28_3, w_x31_1, w_x31_2, hoff, w_A30, w_A33, w_A35, w_A37, w_A38, w_A57, w_A59, w_A61, w_A63, w_A65, hoffa⟩, g_end hW ht hw⟩, hS.F ht⟩) hS.2.2 dX11_soonest_30 hlocks
  · rw [if_neg c2] at hs0
    refine lv_aload_n hx hb dX11_soonest_18 rfl (lv_at hl 0 rfl) ?_
    refine gf11_6 hx hb hG hown hW (o := 0) (ltN hN 0 rfl) gk0 (v := .ref (q 27)) (sh0_6 hsh) gx36 dX11_soonest_19 ?_
    obtain ⟨r3, hf3, hs0⟩ := obind hs0
    refine g_Vi (n := 0) hx hb hml hown hG hW hS [] (kX9_actsToBad hN hsh w_x28_2 w_A30 w_A35 w_x27_8 w_A57 w_A59 w_A61 w_A63 w_A65 F hf3) (ltN hN 27 rfl) gk27 (by decide) rfl rfl (gd_V gx831 gx832 gx833 gx35 gx834) rfl rfl (by decide) ⟨Nat.le_of_ble_eq_true rfl, Nat.le_of_ble_eq_true rfl⟩ rfl hl (Nat.le_of_ble_eq_true rfl) ⟨Nat.zero_le _, Nat.zero_le _⟩ dX11_soonest_22 (fun x3 m3 a3 H locs hp3 hW hS => ?_)
    obtain ⟨hx3, hp3_x27_8, ho3, hp3_A57, hp3_A59, hp3_A61, hp3_A63, hp3_A65, hoa3⟩ := hp3
    subst hx3
    have w_x27_6 : m3 2706 = .long r1.2.1 := (ho3 2706 rfl).trans w_x27_6
    have w_x27_7 : m3 2707 = .int r1.2.2.1 := (ho3 2707 rfl).trans w_x27_7
    have w_x27_8 : m3 2708 = .int r3.2.1 := hp3_x27_8
    have w_x28_2 : m3 2802 = .int r1.2.2.2.2.1 := (ho3 2802 rfl).trans w_x28_2
    have w_x28_3 : m3 2803 = .int r1.2.2.2.2.2.1 := (ho3 2803 rfl).trans w_x28_3
    have w_x31_1 : m3 3101 = .int r1.2.2.2.2.2.2.1 := (ho3 3101 rfl).trans w_x31_1
    have w_x31_2 : m3 3102 = .int r1.2.2.2.2.2.2.2.1 := (ho3 3102 rfl).trans w_x31_2
    have hoff := offm hoff ho3 (by decide +kernel)
    have hsh := SH.off hsh ho3 (by decide +kernel)
    have w_A30 : a3 30 = (6001, .inl r1.2.2.2.2.2.2.2.2.1) := (hoa3 30 rfl).trans w_A30
    have w_A33 : a3 33 = (10, .inl r1.2.2.2.2.2.2.2.2.2.1) := (hoa3 33 rfl).trans w_A33
    have w_A35 : a3 35 = (60000, .inl r1.2.2.2.2.2.2.2.2.2.2.1) := (hoa3 35 rfl).trans w_A35
    have w_A37 : a3 37 = (16384, .inl r1.2.2.2.2.2.2.2.2.2.2.2.1) := (hoa3 37 rfl).trans w_A37
    have w_A38 : a3 38 = (6000, .inr (.inl r1.2.2.2.2.2.2.2.2.2.2.2.2)) := (hoa3 38 rfl).trans w_A38
    have w_A57 : a3 57 = (6000, .inl r3.2.2.1) := hp3_A57
    have w_A59 : a3 59 = (6000, .inl r3.2.2.2.1) := hp3_A59
    have w_A61 : a3 61 = (6000, .inl r3.2.2.2.2.1) := hp3_A61
    have w_A63 : a3 63 = (6001, .inl r3.2.2.2.2.2.1) := hp3_A63
    have w_A65 : a3 65 = (60000, .inl r3.2.2.2.2.2.2) := hp3_A65
    have hoffa := offm hoffa hoa3 (by decide +kernel)
    refine lv_goto (tgt := 30) hx hb dX11_soonest_25 (by decide) ?_
    have hs0 := Option.some.inj hs0
    subst hs0
    exact W.zret hx hb hr rfl (fun t ht hw => ⟨⟨_, (m3, a3), rfl, ⟨rfl, w_x27_6, w_x27_7, w_x27_8, w_x28_2, w_x28_3, w_x31_1, w_x31_2, hoff, w_A30, w_A33, w_A35, w_A37, w_A38, w_A57, w_A59, w_A61, w_A63, w_A65, hoffa⟩, g_end hW ht hw⟩, hS.F ht⟩) hS.2.2 dX11_soonest_30 hlocks
-- HealLink.way (II)I
def fX11_way (F : Nat) (x0_8 : Int64) (xkr_0 : Int32) (xkr_1 : Int32) (xkr_2 : Int32) (xkr_3 : Int32) (x27_6 : Int64) (x27_7 : Int32) (x27_8 : Int32) (x28_2 : Int32) (x28_3 : Int32) (x31_1 : Int32) (x31_2 : Int32) (A30 : Nat → Int32) (A33 : Nat → Int32) (A35 : Nat → Int32) (A37 : Nat → Int32) (A38 : Nat → Int64) (A57 : Nat → Int32) (A59 : Nat → Int32) (A61 : Nat → Int32) (A63 : Nat → Int32) (A65 : Nat → Int32) (p1 : Int32) (p2 : Int32) : Option (Int32 × Int64 × Int32 × Int32 × Int32 × Int32 × Int32 × Int32 × (Nat → Int32) × (Nat → Int32) × (Nat → Int32) × (Nat → Int32) × (Nat → Int64) × (Nat → Int32) × (Nat → Int32) × (Nat → Int32) × (Nat → Int32) × (Nat → Int32)) := ((fX9_covers F xkr_0 xkr_1 xkr_2 xkr_3 x27_6 x27_7 x27_8 x28_2 x28_3 x31_1 x31_2 A30 A33 A35 A37 A38 x0_8).bind (fun r1 => (if r1.1 = 0 then some ((-3), r1.2.1, r1.2.2.1, r1.2.2.2.1, r1.2.2.2.2.1, r1.2.2.2.2.2.1, r1.2.2.2.2.2.2.1, r1.2.2.2.2.2.2.2.1, r1.2.2.2.2.2.2.2.2.1, r1.2.2.2.2.2.2.2.2.2.1, r1.2.2.2.2.2.2.2.2.2.2.1, r1.2.2.2.2.2.2.2.2.2.2.2.1, r1.2.2.2.2.2.2.2.2.2.2.2.2, A57, A59, A61, A63, A65) else (if p1 < 0 then some ((-2), r1.2.1, r1.2.2.1, r1.2.2.2.1, r1.2.2.2.2.1, r1.2.2.2.2.2.1, r1.2.2.2.2.2.2.1, r1.2.2.2.2.2.2.2.1, r1.2.2.2.2.2.2.2.2.1, r1.2.2.2.2.2.2.2.2.2.1, r1.2.2.2.2.2.2.2.2.2.2.1, r1.2.2.2.2.2.2.2.2.2.2.2.1, r1.2.2.2.2.2.2.2.2.2.2.2.2, A57, A59, A61, A63, A65) else (if p2 < 0 then some ((-2), r1.2.1, r1.2.2.1, r1.2.2.2.1, r1.2.2.2.2.1, r1.2.2.2.2.2.1, r1.2.2.2.2.2.2.1, r1.2.2.2.2.2.2.2.1, r1.2.2.2.2.2.2.2.2.1, r1.2.2.2.2.2.2.2.2.2.1, r1.2.2.2.2.2.2.2.2.2.2.1, r1.2.2.2.2.2.2.2.2.2.2.2.1, r1.2.2.2.2.2.2.2.2.2.2.2.2, A57, A59, A61, A63, A65) else (if p2 ≤ 2 then ((fX9_codeOnWay F r1.2.2.2.2.1 xkr_1 xkr_2 r1.2.2.2.2.2.2.2.2.1 r1.2.2.2.2.2.2.2.2.2.2.1 r1.2.2.2.2.2.2.2.2.2.2.2.2 r1.2.2.2.1 r1.2.2.2.2.2.2.1 r1.2.2.2.2.2.2.2.1 r1.2.2.2.2.2.2.2.2.2.1 A57 A59 A61 A63 A65 p1).bind (fun r6 => (if r6.1 = (-1) then some ((-2), r1.2.1, r1.2.2.1, r6.2.1, r1.2.2.2.2.1, r1.2.2.2.2.2.1, r6.2.2.1, r6.2.2.2.1, r1.2.2.2.2.2.2.2.2.1, r6.2.2.2.2.1, r1.2.2.2.2.2.2.2.2.2.2.1, r1.2.2.2.2.2.2.2.2.2.2.2.1, r1.2.2.2.2.2.2.2.2.2.2.2.2, r6.2.2.2.2.2.1, r6.2.2.2.2.2.2.1, r6.2.2.2.2.2.2.2.1, r6.2.2.2.2.2.2.2.2.1, r6.2.2.2.2.2.2.2.2.2) else some ((fX0_part r6.1 p2), r1.2.1, r1.2.2.1, r6.2.1, r1.2.2.2.2.1, r1.2.2.2.2.2.1, r6.2.2.1, r6.2.2.2.1, r1.2.2.2.2.2.2.2.2.1, r6.2.2.2.2.1, r1.2.2.2.2.2.2.2.2.2.2.1, r1.2.2.2.2.2.2.2.2.2.2.2.1, r1.2.2.2.2.2.2.2.2.2.2.2.2, r6.2.2.2.2.2.1, r6.2.2.2.2.2.2.1, r6.2.2.2.2.2.2.2.1, r6.2.2.2.2.2.2.2.2.1, r6.2.2.2.2.2.2.2.2.2)))) else some ((-2), r1.2.1, r1.2.2.1, r1.2.2.2.1, r1.2.2.2.2.1, r1.2.2.2.2.2.1, r1.2.2.2.2.2.2.1, r1.2.2.2.2.2.2.2.1, r1.2.2.2.2.2.2.2.2.1, r1.2.2.2.2.2.2.2.2.2.1, r1.2.2.2.2.2.2.2.2.2.2.1, r1.2.2.2.2.2.2.2.2.2.2.2.1, r1.2.2.2.2.2.2.2.2.2.2.2.2, A57, A59, A61, A63, A65)))))))
theorem dX11_way_0 : decode cX11_way 0 = .ok (.aload_n 0, 1) := by decide +kernel
theorem dX11_way_1 : decode cX11_way 1 = .ok (.getfield 47, 3) := by decide +kernel
theorem dX11_way_4 : decode cX11_way 4 = .ok (.aload_n 0, 1) := by decide +kernel
theorem dX11_way_5 : decode cX11_way 5 = .ok (.getfield 56, 3) := by decide +kernel
theorem dX11_way_8 : decode cX11_way 8 = .ok (.aload_n 0, 1) := by decide +kernel
theorem dX11_way_9 : decode cX11_way 9 = .ok (.getfield 64, 3) := by decide +kernel
theorem dX11_way_12 : decode cX11_way 12 = .ok (.invokevirtual 220, 3) := by decide +kernel
theorem dX11_way_15 : decode cX11_way 15 = .ok (.ifCond .ne 6, 3) := by decide +kernel
theorem dX11_way_18 : decode cX11_way 18 = .ok (.bipush (-3), 2) := by decide +kernel
theorem dX11_way_20 : decode cX11_way 20 = .ok (.ireturn, 1) := by decide +kernel
theorem dX11_way_21 : decode cX11_way 21 = .ok (.iload_n 1, 1) := by decide +kernel
theorem dX11_way_22 : decode cX11_way 22 = .ok (.ifCond .lt 12, 3) := by decide +kernel
theorem dX11_way_25 : decode cX11_way 25 = .ok (.iload_n 2, 1) := by decide +kernel
theorem dX11_way_26 : decode cX11_way 26 = .ok (.ifCond .lt 8, 3) := by decide +kernel
theorem dX11_way_29 : decode cX11_way 29 = .ok (.iload_n 2, 1) := by decide +kernel
theorem dX11_way_30 : decode cX11_way 30 = .ok (.iconst 2, 1) := by decide +kernel
theorem dX11_way_31 : decode cX11_way 31 = .ok (.if_icmp .le 6, 3) := by decide +kernel
theorem dX11_way_34 : decode cX11_way 34 = .ok (.bipush (-2), 2) := by decide +kernel
theorem dX11_way_36 : decode cX11_way 36 = .ok (.ireturn, 1) := by decide +kernel
theorem dX11_way_37 : decode cX11_way 37 = .ok (.aload_n 0, 1) := by decide +kernel
theorem dX11_way_38 : decode cX11_way 38 = .ok (.getfield 47, 3) := by decide +kernel
theorem dX11_way_41 : decode cX11_way 41 = .ok (.aload_n 0, 1) := by decide +kernel
theorem dX11_way_42 : decode cX11_way 42 = .ok (.getfield 56, 3) := by decide +kernel
theorem dX11_way_45 : decode cX11_way 45 = .ok (.iload_n 1, 1) := by decide +kernel
theorem dX11_way_46 : decode cX11_way 46 = .ok (.invokevirtual 237, 3) := by decide +kernel
theorem dX11_way_49 : decode cX11_way 49 = .ok (.istore_n 3, 1) := by decide +kernel
theorem dX11_way_50 : decode cX11_way 50 = .ok (.iload_n 3, 1) := by decide +kernel
theorem dX11_way_51 : decode cX11_way 51 = .ok (.iconst (-1), 1) := by decide +kernel
theorem dX11_way_52 : decode cX11_way 52 = .ok (.if_icmp .ne 8, 3) := by decide +kernel
theorem dX11_way_55 : decode cX11_way 55 = .ok (.bipush (-2), 2) := by decide +kernel
theorem dX11_way_57 : decode cX11_way 57 = .ok (.goto 8, 3) := by decide +kernel
theorem dX11_way_60 : decode cX11_way 60 = .ok (.iload_n 3, 1) := by decide +kernel
theorem dX11_way_61 : decode cX11_way 61 = .ok (.iload_n 2, 1) := by decide +kernel
theorem dX11_way_62 : decode cX11_way 62 = .ok (.invokestatic 217, 3) := by decide +kernel
theorem dX11_way_65 : decode cX11_way 65 = .ok (.ireturn, 1) := by decide +kernel
set_option maxHeartbeats 4000000 in
set_option maxRecDepth 100000 in
theorem kX11_way {l : Launch} {D : va_G} {cy : Nat → ClassId} {N : Nat} {q : Nat → Nat} {m0 : Nat → Value} {a0 : Nat → vp_A} {sz : Nat} (hN : 105 ≤ N) (hsh : SH q m0) {kr : Nat} (hkr : kr < N) (hgk : gk kr = 7) (hrf : m0 7 = .ref (q kr)) {x0_8 : Int64} (h_x0_8 : m0 8 = .long x0_8) {xkr_0 : Int32} (h_xkr_0 : m0 (100 * kr + 0) = .int xkr_0) {xkr_1 : Int32} (h_xkr_1 : m0 (100 * kr + 1) = .int xkr_1) {xkr_2 : Int32} (h_xkr_2 : m0 (100 * kr + 2) = .int xkr_2) {xkr_3 : Int32} (h_xkr_3 : m0 (100 * kr + 3) = .int xkr_3) {x27_6 : Int64} (h_x27_6 : m0 2706 = .long x27_6) {x27_7 : Int32} (h_x27_7 : m0 2707 = .int x27_7) {x27_8 : Int32} (h_x27_8 : m0 2708 = .int x27_8) {x28_2 : Int32} (h_x28_2 : m0 2802 = .int x28_2) {x28_3 : Int32} (h_x28_3 : m0 2803 = .int x28_3) {x31_1 : Int32} (h_x31_1 : m0 3101 = .int x31_1) {x31_2 : Int32} (h_x31_2 : m0 3102 = .int x31_2) {A30 : Nat → Int32} (h_A30 : a0 30 = (6001, .inl A30)) {A33 : Nat → Int32} (h_A33 : a0 33 = (10, .inl A33)) {A35 : Nat → Int32} (h_A35 : a0 35 = (60000, .inl A35)) {A37 : Nat → Int32} (h_A37 : a0 37 = (16384, .inl A37)) {A38 : Nat → Int64} (h_A38 : a0 38 = (6000, .inr (.inl A38))) {A57 : Nat → Int32} (h_A57 : a0 57 = (6000, .inl A57)) {A59 : Nat → Int32} (h_A59 : a0 59 = (6000, .inl A59)) {A61 : Nat → Int32} (h_A61 : a0 61 = (6000, .inl A61)) {A63 : Nat → Int32} (h_A63 : a0 63 = (6001, .inl A63)) {A65 : Nat → Int32} (h_A65 : a0 65 = (60000, .inl A65)) (F : Nat) (p1 : Int32) (p2 : Int32) {X0 : Int32 × Int64 × Int32 × Int32 × Int32 × Int32 × Int32 × Int32 × (Nat → Int32) × (Nat → Int32) × (Nat → Int32) × (Nat → Int32) × (Nat → Int64) × (Nat → Int32) × (Nat → Int32) × (Nat → Int32) × (Nat → Int32) × (Nat → Int32)} (hs0 : fX11_way F x0_8 xkr_0 xkr_1 xkr_2 xkr_3 x27_6 x27_7 x27_8 x28_2 x28_3 x31_1 x31_2 A30 A33 A35 A37 A38 A57 A59 A61 A63 A65 p1 p2 = some X0) : gMi l yX11_way cX11_way 4 (some .int) ({ frames := 7, cells := 0, slots := 0, locals := 170 } : Room) D cy N q m0 a0 sz [.ref (q 0), .int p1, .int p2] (fun r m' a' => r = X0.1 ∧ m' 2706 = .long X0.2.1 ∧ m' 2707 = .int X0.2.2.1 ∧ m' 2708 = .int X0.2.2.2.1 ∧ m' 2802 = .int X0.2.2.2.2.1 ∧ m' 2803 = .int X0.2.2.2.2.2.1 ∧ m' 3101 = .int X0.2.2.2.2.2.2.1 ∧ m' 3102 = .int X0.2.2.2.2.2.2.2.1 ∧ (∀ j, nel j [2706, 2707, 2708, 2802, 2803, 3101, 3102] = false → m' j = m0 j) ∧ a' 30 = (6001, .inl X0.2.2.2.2.2.2.2.2.1) ∧ a' 33 = (10, .inl X0.2.2.2.2.2.2.2.2.2.1) ∧ a' 35 = (60000, .inl X0.2.2.2.2.2.2.2.2.2.2.1) ∧ a' 37 = (16384, .inl X0.2.2.2.2.2.2.2.2.2.2.2.1) ∧ a' 38 = (6000, .inr (.inl X0.2.2.2.2.2.2.2.2.2.2.2.2.1)) ∧ a' 57 = (6000, .inl X0.2.2.2.2.2.2.2.2.2.2.2.2.2.1) ∧ a' 59 = (6000, .inl X0.2.2.2.2.2.2.2.2.2.2.2.2.2.2.1) ∧ a' 61 = (6000, .inl X0.2.2.2.2.2.2.2.2.2.2.2.2.2.2.2.1) ∧ a' 63 = (6001, .inl X0.2.2.2.2.2.2.2.2.2.2.2.2.2.2.2.2.1) ∧ a' 65 = (60000, .inl X0.2.2.2.2.2.2.2.2.2.2.2.2.2.2.2.2.2) ∧ (∀ j, nel j [30, 33, 35, 37, 38, 57, 59, 61, 63, 65] = false → a' j = a0 j)) := by
  refine g_ofi (by decide) (Nat.le_of_ble_eq_true rfl) ?_
  intro p e s M args below meth c hx hb hr hG hown hin hlocks hml hW hS ls hl
  unfold fX11_way at hs0
  have hoff : ∀ j, nel j [2706, 2707, 2708, 2802, 2803, 3101, 3102] = false → m0 j = m0 j := off0
  have hoffa : ∀ j, nel j [30, 33, 35, 37, 38, 57, 59, 61, 63, 65] = false → a0 j = a0 j := off0
  refine lv_aload_n hx hb dX11_way_0 rfl (lv_at hl 0 rfl) ?_
  refine gf11_6 hx hb hG hown hW (o := 0) (ltN hN 0 rfl) gk0 (v := .ref (q 27)) (sh0_6 hsh) gx36 dX11_way_1 ?_
  refine lv_aload_n hx hb dX11_way_4 rfl (lv_at hl 0 rfl) ?_
  refine gf11_7 hx hb hG hown hW (o := 0) (ltN hN 0 rfl) gk0 (v := .ref (q kr)) ((hoff 7 rfl).trans hrf) gx40 dX11_way_5 ?_
  refine lv_aload_n hx hb dX11_way_8 rfl (lv_at hl 0 rfl) ?_
  refine gf11_8 hx hb hG hown hW (o := 0) (ltN hN 0 rfl) gk0 (v := .long x0_8) ((hoff 8 rfl).trans h_x0_8) gx41 dX11_way_9 ?_
  obtain ⟨r1, hf1, hs0⟩ := obind hs0
  refine g_Vi (n := 2) hx hb hml hown hG hW hS [.ref (q kr), .long x0_8] (kX9_covers hN hsh hkr hgk ((off_kr hoff hgk 0 rfl (by decide)).trans h_xkr_0) ((off_kr hoff hgk 1 rfl (by decide)).trans h_xkr_1) ((off_kr hoff hgk 2 rfl (by decide)).trans h_xkr_2) ((off_kr hoff hgk 3 rfl (by decide)).trans h_xkr_3) h_x27_6 h_x27_7 h_x27_8 h_x28_2 h_x28_3 h_x31_1 h_x31_2 h_A30 h_A33 h_A35 h_A37 h_A38 F x0_8 hf1) (ltN hN 27 rfl) gk27 (by decide) rfl rfl (gd_V gx659 gx660 gx661 gx35 gx662) rfl rfl (by decide) ⟨Nat.le_of_ble_eq_true rfl, Nat.le_of_ble_eq_true rfl⟩ rfl hl (Nat.le_of_ble_eq_true rfl) ⟨Nat.zero_le _, Nat.zero_le _⟩ dX11_way_12 (fun x1 m1 a1 H locs hp1 hW hS => ?_)
  obtain ⟨hx1, hp1_x27_6, hp1_x27_7, hp1_x27_8, hp1_x28_2, hp1_x28_3, hp1_x31_1, hp1_x31_2, ho1, hp1_A30, hp1_A33, hp1_A35, hp1_A37, hp1_A38, hoa1⟩ := hp1
  subst hx1
  have w_x27_6 : m1 2706 = .long r1.2.1 := hp1_x27_6
  have w_x27_7 : m1 2707 = .int r1.2.2.1 := hp1_x27_7
  have w_x27_8 : m1 2708 = .int r1.2.2.2.1 := hp1_x27_8
  have w_x28_2 : m1 2802 = .int r1.2.2.2.2.1 := hp1_x28_2
  have w_x28_3 : m1 2803 = .int r1.2.2.2.2.2.1 := hp1_x28_3
  have w_x31_1 : m1 3101 = .int r1.2.2.2.2.2.2.1 := hp1_x31_1
  have w_x31_2 : m1 3102 = .int r1.2.2.2.2.2.2.2.1 := hp1_x31_2
  have hoff := offm hoff ho1 (by decide +kernel)
  have hsh := SH.off hsh ho1 (by decide +kernel)
  have w_A30 : a1 30 = (6001, .inl r1.2.2.2.2.2.2.2.2.1) := hp1_A30
  have w_A33 : a1 33 = (10, .inl r1.2.2.2.2.2.2.2.2.2.1) := hp1_A33
  have w_A35 : a1 35 = (60000, .inl r1.2.2.2.2.2.2.2.2.2.2.1) := hp1_A35
  have w_A37 : a1 37 = (16384, .inl r1.2.2.2.2.2.2.2.2.2.2.2.1) := hp1_A37
  have w_A38 : a1 38 = (6000, .inr (.inl r1.2.2.2.2.2.2.2.2.2.2.2.2)) := hp1_A38
  have w_A57 : a1 57 = (6000, .inl A57) := (hoa1 57 rfl).trans h_A57
  have w_A59 : a1 59 = (6000, .inl A59) := (hoa1 59 rfl).trans h_A59
  have w_A61 : a1 61 = (6000, .inl A61) := (hoa1 61 rfl).trans h_A61
  have w_A63 : a1 63 = (6001, .inl A63) := (hoa1 63 rfl).trans h_A63
  have w_A65 : a1 65 = (60000, .inl A65) := (hoa1 65 rfl).trans h_A65
  have hoffa := offm hoffa hoa1 (by decide +kernel)
  refine lv_if_ne (tgt := 21) hx hb dX11_way_15 (by decide) (fun c2 => ?_) (fun c2 => ?_)
  · rw [if_neg c2] at hs0
    refine lv_iload_n hx hb dX11_way_21 rfl (lv_at hl 1 rfl) ?_
    refine lv_if_lt (tgt := 34) hx hb dX11_way_22 (by decide) (fun c3 => ?_) (fun c3 => ?_)
    · rw [if_pos c3] at hs0
      refine lv_bipush (v := (-2)) hx hb dX11_way_34 (by decide) ?_
      have hs0 := Option.some.inj hs0
      subst hs0
      exact W.zret hx hb hr rfl (fun t ht hw => ⟨⟨_, (m1, a1), rfl, ⟨rfl, w_x27_6, w_x27_7, w_x27_8, w_x28_2, w_x28_3, w_x31_1, w_x31_2, hoff, w_A30, w_A33, w_A35, w_A37, w_A38, w_A57, w_A59, w_A61, w_A63, w_A65, hoffa⟩, g_end hW ht hw⟩, hS.F ht⟩) hS.2.2 dX11_way_36 hlocks
    · rw [if_neg c3] at hs0
      refine lv_iload_n hx hb dX11_way_25 rfl (lv_at hl 2 rfl) ?_
      refine lv_if_lt (tgt := 34) hx hb dX11_way_26 (by decide) (fun c4 => ?_) (fun c4 => ?_)
      · rw [if_pos c4] at hs0
        refine lv_bipush (v := (-2)) hx hb dX11_way_34 (by decide) ?_
        have hs0 := Option.some.inj hs0
        subst hs0
        exact W.zret hx hb hr rfl (fun t ht hw => ⟨⟨_, (m1, a1), rfl, ⟨rfl, w_x27_6, w_x27_7, w_x27_8, w_x28_2, w_x28_3, w_x31_1, w_x31_2, hoff, w_A30, w_A33, w_A35, w_A37, w_A38, w_A57, w_A59, w_A61, w_A63, w_A65, hoffa⟩, g_end hW ht hw⟩, hS.F ht⟩) hS.2.2 dX11_way_36 hlocks
      · rw [if_neg c4] at hs0
        refine lv_iload_n hx hb dX11_way_29 rfl (lv_at hl 2 rfl) ?_
        refine lv_iconst (v := 2) hx hb dX11_way_30 (by decide) ?_
        refine lv_icmp_le (tgt := 37) hx hb dX11_way_31 (by decide) (fun c5 => ?_) (fun c5 => ?_)
        · rw [if_pos c5] at hs0
          refine lv_aload_n hx hb dX11_way_37 rfl (lv_at hl 0 rfl) ?_
          refine gf11_6 hx hb hG hown hW (o := 0) (ltN hN 0 rfl) gk0 (v := .ref (q 27)) (sh0_6 hsh) gx36 dX11_way_38 ?_
          refine lv_aload_n hx hb dX11_way_41 rfl (lv_at hl 0 rfl) ?_
          refine gf11_7 hx hb hG hown hW (o := 0) (ltN hN 0 rfl) gk0 (v := .ref (q kr)) ((hoff 7 rfl).trans hrf) gx40 dX11_way_42 ?_
          refine lv_iload_n hx hb dX11_way_45 rfl (lv_at hl 1 rfl) ?_
          obtain ⟨r6, hf6, hs0⟩ := obind hs0
          refine g_Vi (n := 2) hx hb hml hown hG hW hS [.ref (q kr), .int p1] (kX9_codeOnWay hN hsh hkr hgk w_x28_2 ((off_kr hoff hgk 1 rfl (by decide)).trans h_xkr_1) ((off_kr hoff hgk 2 rfl (by decide)).trans h_xkr_2) w_A30 w_A35 w_A38 w_x27_8 w_x31_1 w_x31_2 w_A33 w_A57 w_A59 w_A61 w_A63 w_A65 F p1 hf6) (ltN hN 27 rfl) gk27 (by decide) rfl rfl (gd_V gx881 gx882 gx883 gx35 gx884) rfl rfl (by decide) ⟨Nat.le_of_ble_eq_true rfl, Nat.le_of_ble_eq_true rfl⟩ rfl hl (Nat.le_of_ble_eq_true rfl) ⟨Nat.zero_le _, Nat.zero_le _⟩ dX11_way_46 (fun x6 m6 a6 H locs hp6 hW hS => ?_)
          obtain ⟨hx6, hp6_x27_8, hp6_x31_1, hp6_x31_2, ho6, hp6_A33, hp6_A57, hp6_A59, hp6_A61, hp6_A63, hp6_A65, hoa6⟩ := hp6
          subst hx6
          have w_x27_6 : m6 2706 = .long r1.2.1 := (ho6 2706 rfl).trans w_x27_6
          have w_x27_7 : m6 2707 = .int r1.2.2.1 := (ho6 2707 rfl).trans w_x27_7
          have w_x27_8 : m6 2708 = .int r6.2.1 := hp6_x27_8
          have w_x28_2 : m6 2802 = .int r1.2.2.2.2.1 := (ho6 2802 rfl).trans w_x28_2
          have w_x28_3 : m6 2803 = .int r1.2.2.2.2.2.1 := (ho6 2803 rfl).trans w_x28_3
          have w_x31_1 : m6 3101 = .int r6.2.2.1 := hp6_x31_1
          have w_x31_2 : m6 3102 = .int r6.2.2.2.1 := hp6_x31_2
          have hoff := offm hoff ho6 (by decide +kernel)
          have hsh := SH.off hsh ho6 (by decide +kernel)
          have w_A30 : a6 30 = (6001, .inl r1.2.2.2.2.2.2.2.2.1) := (hoa6 30 rfl).trans w_A30
          have w_A33 : a6 33 = (10, .inl r6.2.2.2.2.1) := hp6_A33
          have w_A35 : a6 35 = (60000, .inl r1.2.2.2.2.2.2.2.2.2.2.1) := (hoa6 35 rfl).trans w_A35
          have w_A37 : a6 37 = (16384, .inl r1.2.2.2.2.2.2.2.2.2.2.2.1) := (hoa6 37 rfl).trans w_A37
          have w_A38 : a6 38 = (6000, .inr (.inl r1.2.2.2.2.2.2.2.2.2.2.2.2)) := (hoa6 38 rfl).trans w_A38
          have w_A57 : a6 57 = (6000, .inl r6.2.2.2.2.2.1) := hp6_A57
          have w_A59 : a6 59 = (6000, .inl r6.2.2.2.2.2.2.1) := hp6_A59
          have w_A61 : a6 61 = (6000, .inl r6.2.2.2.2.2.2.2.1) := hp6_A61
          have w_A63 : a6 63 = (6001, .inl r6.2.2.2.2.2.2.2.2.1) := hp6_A63
          have w_A65 : a6 65 = (60000, .inl r6.2.2.2.2.2.2.2.2.2) := hp6_A65
          have hoffa := offm hoffa hoa6 (by decide +kernel)
          refine lv_istore_n (lv' := [(3, .int r6.1), (0, .ref (q 0)), (1, .int p1), (2, .int p2)]) hx hb dX11_way_49 rfl hl (by decide) rfl (fun ls hl => ?_)
          refine lv_iload_n hx hb dX11_way_50 rfl (lv_at hl 0 rfl) ?_
          refine lv_iconst (v := (-1)) hx hb dX11_way_51 (by decide) ?_
          refine lv_icmp_ne (tgt := 60) hx hb dX11_way_52 (by decide) (fun c7 => ?_) (fun c7 => ?_)
          · rw [if_neg c7] at hs0
            refine lv_iload_n hx hb dX11_way_60 rfl (lv_at hl 0 rfl) ?_
            refine lv_iload_n hx hb dX11_way_61 rfl (lv_at hl 3 rfl) ?_
            refine g_SiR (n := 2) hx hb hml hown hG hW hS [.int r6.1, .int p2] (kX0_part hN r6.1 p2) rfl (gd_S gx643 gx644 gx23 gx645) rfl rfl (by decide) ⟨Nat.le_of_ble_eq_true rfl, Nat.le_of_ble_eq_true rfl⟩ rfl hl (Nat.le_of_ble_eq_true rfl) ⟨Nat.zero_le _, Nat.zero_le _⟩ dX11_way_62 (fun H locs hW hS => ?_)
            have hs0 := Option.some.inj hs0
            subst hs0
            exact W.zret hx hb hr rfl (fun t ht hw => ⟨⟨_, (m6, a6), rfl, ⟨rfl, w_x27_6, w_x27_7, w_x27_8, w_x28_2, w_x28_3, w_x31_1, w_x31_2, hoff, w_A30, w_A33, w_A35, w_A37, w_A38, w_A57, w_A59, w_A61, w_A63, w_A65, hoffa⟩, g_end hW ht hw⟩, hS.F ht⟩) hS.2.2 dX11_way_65 hlocks
          · rw [if_pos c7] at hs0
            refine lv_bipush (v := (-2)) hx hb dX11_way_55 (by decide) ?_
            refine lv_goto (tgt := 65) hx hb dX11_way_57 (by decide) ?_
            have hs0 := Option.some.inj hs0
            subst hs0
            exact W.zret hx hb hr rfl (fun t ht hw => ⟨⟨_, (m6, a6), rfl, ⟨rfl, w_x27_6, w_x27_7, w_x27_8, w_x28_2, w_x28_3, w_x31_1, w_x31_2, hoff, w_A30, w_A33, w_A35, w_A37, w_A38, w_A57, w_A59, w_A61, w_A63, w_A65, hoffa⟩, g_end hW ht hw⟩, hS.F ht⟩) hS.2.2 dX11_way_65 hlocks
        · rw [if_neg c5] at hs0
          refine lv_bipush (v := (-2)) hx hb dX11_way_34 (by decide) ?_
          have hs0 := Option.some.inj hs0
          subst hs0
          exact W.zret hx hb hr rfl (fun t ht hw => ⟨⟨_, (m1, a1), rfl, ⟨rfl, w_x27_6, w_x27_7, w_x27_8, w_x28_2, w_x28_3, w_x31_1, w_x31_2, hoff, w_A30, w_A33, w_A35, w_A37, w_A38, w_A57, w_A59, w_A61, w_A63, w_A65, hoffa⟩, g_end hW ht hw⟩, hS.F ht⟩) hS.2.2 dX11_way_36 hlocks
  · rw [if_pos c2] at hs0
    refine lv_bipush (v := (-3)) hx hb dX11_way_18 (by decide) ?_
    have hs0 := Option.some.inj hs0
    subst hs0
    exact W.zret hx hb hr rfl (fun t ht hw => ⟨⟨_, (m1, a1), rfl, ⟨rfl, w_x27_6, w_x27_7, w_x27_8, w_x28_2, w_x28_3, w_x31_1, w_x31_2, hoff, w_A30, w_A33, w_A35, w_A37, w_A38, w_A57, w_A59, w_A61, w_A63, w_A65, hoffa⟩, g_end hW ht hw⟩, hS.F ht⟩) hS.2.2 dX11_way_20 hlocks
-- HealLink.barren ()I
def fX11_barren (F : Nat) (x0_8 : Int64) (xkr_0 : Int32) (xkr_1 : Int32) (xkr_2 : Int32) (xkr_3 : Int32) (x27_6 : Int64) (x27_7 : Int32) (x27_8 : Int32) (x28_2 : Int32) (x28_3 : Int32) (x31_1 : Int32) (x31_2 : Int32) (A30 : Nat → Int32) (A33 : Nat → Int32) (A35 : Nat → Int32) (A37 : Nat → Int32) (A38 : Nat → Int64) (A57 : Nat → Int32) (A59 : Nat → Int32) (A61 : Nat → Int32) (A63 : Nat → Int32) (A65 : Nat → Int32) : Option (Int32 × Int64 × Int32 × Int32 × Int32 × Int32 × Int32 × Int32 × (Nat → Int32) × (Nat → Int32) × (Nat → Int32) × (Nat → Int32) × (Nat → Int64) × (Nat → Int32) × (Nat → Int32) × (Nat → Int32) × (Nat → Int32) × (Nat → Int32)) := ((fX9_covers F xkr_0 xkr_1 xkr_2 xkr_3 x27_6 x27_7 x27_8 x28_2 x28_3 x31_1 x31_2 A30 A33 A35 A37 A38 x0_8).bind (fun r1 => (if r1.1 = 0 then some ((-3), r1.2.1, r1.2.2.1, r1.2.2.2.1, r1.2.2.2.2.1, r1.2.2.2.2.2.1, r1.2.2.2.2.2.2.1, r1.2.2.2.2.2.2.2.1, r1.2.2.2.2.2.2.2.2.1, r1.2.2.2.2.2.2.2.2.2.1, r1.2.2.2.2.2.2.2.2.2.2.1, r1.2.2.2.2.2.2.2.2.2.2.2.1, r1.2.2.2.2.2.2.2.2.2.2.2.2, A57, A59, A61, A63, A65) else ((fX9_withoutGood F r1.2.2.2.2.1 r1.2.2.2.2.2.2.2.2.1 r1.2.2.2.2.2.2.2.2.2.2.1 r1.2.2.2.1 A57 A59 A61 A63 A65).bind (fun r3 => some (r3.1, r1.2.1, r1.2.2.1, r3.2.1, r1.2.2.2.2.1, r1.2.2.2.2.2.1, r1.2.2.2.2.2.2.1, r1.2.2.2.2.2.2.2.1, r1.2.2.2.2.2.2.2.2.1, r1.2.2.2.2.2.2.2.2.2.1, r1.2.2.2.2.2.2.2.2.2.2.1, r1.2.2.2.2.2.2.2.2.2.2.2.1, r1.2.2.2.2.2.2.2.2.2.2.2.2, r3.2.2.1, r3.2.2.2.1, r3.2.2.2.2.1, r3.2.2.2.2.2.1, r3.2.2.2.2.2.2))))))
theorem dX11_barren_0 : decode cX11_barren 0 = .ok (.aload_n 0, 1) := by decide +kernel
theorem dX11_barren_1 : decode cX11_barren 1 = .ok (.getfield 47, 3) := by decide +kernel
theorem dX11_barren_4 : decode cX11_barren 4 = .ok (.aload_n 0, 1) := by decide +kernel
theorem dX11_barren_5 : decode cX11_barren 5 = .ok (.getfield 56, 3) := by decide +kernel
theorem dX11_barren_8 : decode cX11_barren 8 = .ok (.aload_n 0, 1) := by decide +kernel
theorem dX11_barren_9 : decode cX11_barren 9 = .ok (.getfield 64, 3) := by decide +kernel
theorem dX11_barren_12 : decode cX11_barren 12 = .ok (.invokevirtual 220, 3) := by decide +kernel
theorem dX11_barren_15 : decode cX11_barren 15 = .ok (.ifCond .eq 13, 3) := by decide +kernel
theorem dX11_barren_18 : decode cX11_barren 18 = .ok (.aload_n 0, 1) := by decide +kernel
theorem dX11_barren_19 : decode cX11_barren 19 = .ok (.getfield 47, 3) := by decide +kernel
theorem dX11_barren_22 : decode cX11_barren 22 = .ok (.invokevirtual 241, 3) := by decide +kernel
theorem dX11_barren_25 : decode cX11_barren 25 = .ok (.goto 5, 3) := by decide +kernel
theorem dX11_barren_28 : decode cX11_barren 28 = .ok (.bipush (-3), 2) := by decide +kernel
theorem dX11_barren_30 : decode cX11_barren 30 = .ok (.ireturn, 1) := by decide +kernel
set_option maxHeartbeats 4000000 in
set_option maxRecDepth 100000 in
theorem kX11_barren {l : Launch} {D : va_G} {cy : Nat → ClassId} {N : Nat} {q : Nat → Nat} {m0 : Nat → Value} {a0 : Nat → vp_A} {sz : Nat} (hN : 105 ≤ N) (hsh : SH q m0) {kr : Nat} (hkr : kr < N) (hgk : gk kr = 7) (hrf : m0 7 = .ref (q kr)) {x0_8 : Int64} (h_x0_8 : m0 8 = .long x0_8) {xkr_0 : Int32} (h_xkr_0 : m0 (100 * kr + 0) = .int xkr_0) {xkr_1 : Int32} (h_xkr_1 : m0 (100 * kr + 1) = .int xkr_1) {xkr_2 : Int32} (h_xkr_2 : m0 (100 * kr + 2) = .int xkr_2) {xkr_3 : Int32} (h_xkr_3 : m0 (100 * kr + 3) = .int xkr_3) {x27_6 : Int64} (h_x27_6 : m0 2706 = .long x27_6) {x27_7 : Int32} (h_x27_7 : m0 2707 = .int x27_7) {x27_8 : Int32} (h_x27_8 : m0 2708 = .int x27_8) {x28_2 : Int32} (h_x28_2 : m0 2802 = .int x28_2) {x28_3 : Int32} (h_x28_3 : m0 2803 = .int x28_3) {x31_1 : Int32} (h_x31_1 : m0 3101 = .int x31_1) {x31_2 : Int32} (h_x31_2 : m0 3102 = .int x31_2) {A30 : Nat → Int32} (h_A30 : a0 30 = (6001, .inl A30)) {A33 : Nat → Int32} (h_A33 : a0 33 = (10, .inl A33)) {A35 : Nat → Int32} (h_A35 : a0 35 = (60000, .inl A35)) {A37 : Nat → Int32} (h_A37 : a0 37 = (16384, .inl A37)) {A38 : Nat → Int64} (h_A38 : a0 38 = (6000, .inr (.inl A38))) {A57 : Nat → Int32} (h_A57 : a0 57 = (6000, .inl A57)) {A59 : Nat → Int32} (h_A59 : a0 59 = (6000, .inl A59)) {A61 : Nat → Int32} (h_A61 : a0 61 = (6000, .inl A61)) {A63 : Nat → Int32} (h_A63 : a0 63 = (6001, .inl A63)) {A65 : Nat → Int32} (h_A65 : a0 65 = (60000, .inl A65)) (F : Nat) {X0 : Int32 × Int64 × Int32 × Int32 × Int32 × Int32 × Int32 × Int32 × (Nat → Int32) × (Nat → Int32) × (Nat → Int32) × (Nat → Int32) × (Nat → Int64) × (Nat → Int32) × (Nat → Int32) × (Nat → Int32) × (Nat → Int32) × (Nat → Int32)} (hs0 : fX11_barren F x0_8 xkr_0 xkr_1 xkr_2 xkr_3 x27_6 x27_7 x27_8 x28_2 x28_3 x31_1 x31_2 A30 A33 A35 A37 A38 A57 A59 A61 A63 A65 = some X0) : gMi l yX11_barren cX11_barren 1 (some .int) ({ frames := 7, cells := 0, slots := 0, locals := 170 } : Room) D cy N q m0 a0 sz [.ref (q 0)] (fun r m' a' => r = X0.1 ∧ m' 2706 = .long X0.2.1 ∧ m' 2707 = .int X0.2.2.1 ∧ m' 2708 = .int X0.2.2.2.1 ∧ m' 2802 = .int X0.2.2.2.2.1 ∧ m' 2803 = .int X0.2.2.2.2.2.1 ∧ m' 3101 = .int X0.2.2.2.2.2.2.1 ∧ m' 3102 = .int X0.2.2.2.2.2.2.2.1 ∧ (∀ j, nel j [2706, 2707, 2708, 2802, 2803, 3101, 3102] = false → m' j = m0 j) ∧ a' 30 = (6001, .inl X0.2.2.2.2.2.2.2.2.1) ∧ a' 33 = (10, .inl X0.2.2.2.2.2.2.2.2.2.1) ∧ a' 35 = (60000, .inl X0.2.2.2.2.2.2.2.2.2.2.1) ∧ a' 37 = (16384, .inl X0.2.2.2.2.2.2.2.2.2.2.2.1) ∧ a' 38 = (6000, .inr (.inl X0.2.2.2.2.2.2.2.2.2.2.2.2.1)) ∧ a' 57 = (6000, .inl X0.2.2.2.2.2.2.2.2.2.2.2.2.2.1) ∧ a' 59 = (6000, .inl X0.2.2.2.2.2.2.2.2.2.2.2.2.2.2.1) ∧ a' 61 = (6000, .inl X0.2.2.2.2.2.2.2.2.2.2.2.2.2.2.2.1) ∧ a' 63 = (6001, .inl X0.2.2.2.2.2.2.2.2.2.2.2.2.2.2.2.2.1) ∧ a' 65 = (60000, .inl X0.2.2.2.2.2.2.2.2.2.2.2.2.2.2.2.2.2) ∧ (∀ j, nel j [30, 33, 35, 37, 38, 57, 59, 61, 63, 65] = false → a' j = a0 j)) := by
  refine g_ofi (by decide) (Nat.le_of_ble_eq_true rfl) ?_
  intro p e s M args below meth c hx hb hr hG hown hin hlocks hml hW hS ls hl
  unfold fX11_barren at hs0
  have hoff : ∀ j, nel j [2706, 2707, 2708, 2802, 2803, 3101, 3102] = false → m0 j = m0 j := off0
  have hoffa : ∀ j, nel j [30, 33, 35, 37, 38, 57, 59, 61, 63, 65] = false → a0 j = a0 j := off0
  refine lv_aload_n hx hb dX11_barren_0 rfl (lv_at hl 0 rfl) ?_
  refine gf11_6 hx hb hG hown hW (o := 0) (ltN hN 0 rfl) gk0 (v := .ref (q 27)) (sh0_6 hsh) gx36 dX11_barren_1 ?_
  refine lv_aload_n hx hb dX11_barren_4 rfl (lv_at hl 0 rfl) ?_
  refine gf11_7 hx hb hG hown hW (o := 0) (ltN hN 0 rfl) gk0 (v := .ref (q kr)) ((hoff 7 rfl).trans hrf) gx40 dX11_barren_5 ?_
  refine lv_aload_n hx hb dX11_barren_8 rfl (lv_at hl 0 rfl) ?_
  refine gf11_8 hx hb hG hown hW (o := 0) (ltN hN 0 rfl) gk0 (v := .long x0_8) ((hoff 8 rfl).trans h_x0_8) gx41 dX11_barren_9 ?_
  obtain ⟨r1, hf1, hs0⟩ := obind hs0
  refine g_Vi (n := 2) hx hb hml hown hG hW hS [.ref (q kr), .long x0_8] (kX9_covers hN hsh hkr hgk ((off_kr hoff hgk 0 rfl (by decide)).trans h_xkr_0) ((off_kr hoff hgk 1 rfl (by decide)).trans h_xkr_1) ((off_kr hoff hgk 2 rfl (by decide)).trans h_xkr_2) ((off_kr hoff hgk 3 rfl (by decide)).trans h_xkr_3) h_x27_6 h_x27_7 h_x27_8 h_x28_2 h_x28_3 h_x31_1 h_x31_2 h_A30 h_A33 h_A35 h_A37 h_A38 F x0_8 hf1) (ltN hN 27 rfl) gk27 (by decide) rfl rfl (gd_V gx659 gx660 gx661 gx35 gx662) rfl rfl (by decide) ⟨Nat.le_of_ble_eq_true rfl, Nat.le_of_ble_eq_true rfl⟩ rfl hl (Nat.le_of_ble_eq_true rfl) ⟨Nat.zero_le _, Nat.zero_le _⟩ dX11_barren_12 (fun x1 m1 a1 H locs hp1 hW hS => ?_)
  obtain ⟨hx1, hp1_x27_6, hp1_x27_7, hp1_x27_8, hp1_x28_2, hp1_x28_3, hp1_x31_1, hp1_x31_2, ho1, hp1_A30, hp1_A33, hp1_A35, hp1_A37, hp1_A38, hoa1⟩ := hp1
  subst hx1
  have w_x27_6 : m1 2706 = .long r1.2.1 := hp1_x27_6
  have w_x27_7 : m1 2707 = .int r1.2.2.1 := hp1_x27_7
  have w_x27_8 : m1 2708 = .int r1.2.2.2.1 := hp1_x27_8
  have w_x28_2 : m1 2802 = .int r1.2.2.2.2.1 := hp1_x28_2
  have w_x28_3 : m1 2803 = .int r1.2.2.2.2.2.1 := hp1_x28_3
  have w_x31_1 : m1 3101 = .int r1.2.2.2.2.2.2.1 := hp1_x31_1
  have w_x31_2 : m1 3102 = .int r1.2.2.2.2.2.2.2.1 := hp1_x31_2
  have hoff := offm hoff ho1 (by decide +kernel)
  have hsh := SH.off hsh ho1 (by decide +kernel)
  have w_A30 : a1 30 = (6001, .inl r1.2.2.2.2.2.2.2.2.1) := hp1_A30
  have w_A33 : a1 33 = (10, .inl r1.2.2.2.2.2.2.2.2.2.1) := hp1_A33
  have w_A35 : a1 35 = (60000, .inl r1.2.2.2.2.2.2.2.2.2.2.1) := hp1_A35
  have w_A37 : a1 37 = (16384, .inl r1.2.2.2.2.2.2.2.2.2.2.2.1) := hp1_A37
  have w_A38 : a1 38 = (6000, .inr (.inl r1.2.2.2.2.2.2.2.2.2.2.2.2)) := hp1_A38
  have w_A57 : a1 57 = (6000, .inl A57) := (hoa1 57 rfl).trans h_A57
  have w_A59 : a1 59 = (6000, .inl A59) := (hoa1 59 rfl).trans h_A59
  have w_A61 : a1 61 = (6000, .inl A61) := (hoa1 61 rfl).trans h_A61
  have w_A63 : a1 63 = (6001, .inl A63) := (hoa1 63 rfl).trans h_A63
  have w_A65 : a1 65 = (60000, .inl A65) := (hoa1 65 rfl).trans h_A65
  have hoffa := offm hoffa hoa1 (by decide +kernel)
  refine lv_if_eq (tgt := 28) hx hb dX11_barren_15 (by decide) (fun c2 => ?_) (fun c2 => ?_)
  · rw [if_pos c2] at hs0
    refine lv_bipush (v := (-3)) hx hb dX11_barren_28 (by decide) ?_
    have hs0 := Option.some.inj hs0
    subst hs0
    exact W.zret hx hb hr rfl (fun t ht hw => ⟨⟨_, (m1, a1), rfl, ⟨rfl, w_x27_6, w_x27_7, w_x27_8, w_x28_2, w_x28_3, w_x31_1, w_x31_2, hoff, w_A30, w_A33, w_A35, w_A37, w_A38, w_A57, w_A59, w_A61, w_A63, w_A65, hoffa⟩, g_end hW ht hw⟩, hS.F ht⟩) hS.2.2 dX11_barren_30 hlocks
  · rw [if_neg c2] at hs0
    refine lv_aload_n hx hb dX11_barren_18 rfl (lv_at hl 0 rfl) ?_
    refine gf11_6 hx hb hG hown hW (o := 0) (ltN hN 0 rfl) gk0 (v := .ref (q 27)) (sh0_6 hsh) gx36 dX11_barren_19 ?_
    obtain ⟨r3, hf3, hs0⟩ := obind hs0
    refine g_Vi (n := 0) hx hb hml hown hG hW hS [] (kX9_withoutGood hN hsh w_x28_2 w_A30 w_A35 w_x27_8 w_A57 w_A59 w_A61 w_A63 w_A65 F hf3) (ltN hN 27 rfl) gk27 (by decide) rfl rfl (gd_V gx904 gx905 gx906 gx35 gx907) rfl rfl (by decide) ⟨Nat.le_of_ble_eq_true rfl, Nat.le_of_ble_eq_true rfl⟩ rfl hl (Nat.le_of_ble_eq_true rfl) ⟨Nat.zero_le _, Nat.zero_le _⟩ dX11_barren_22 (fun x3 m3 a3 H locs hp3 hW hS => ?_)
    obtain ⟨hx3, hp3_x27_8, ho3, hp3_A57, hp3_A59, hp3_A61, hp3_A63, hp3_A65, hoa3⟩ := hp3
    subst hx3
    have w_x27_6 : m3 2706 = .long r1.2.1 := (ho3 2706 rfl).trans w_x27_6
    have w_x27_7 : m3 2707 = .int r1.2.2.1 := (ho3 2707 rfl).trans w_x27_7
    have w_x27_8 : m3 2708 = .int r3.2.1 := hp3_x27_8
    have w_x28_2 : m3 2802 = .int r1.2.2.2.2.1 := (ho3 2802 rfl).trans w_x28_2
    have w_x28_3 : m3 2803 = .int r1.2.2.2.2.2.1 := (ho3 2803 rfl).trans w_x28_3
    have w_x31_1 : m3 3101 = .int r1.2.2.2.2.2.2.1 := (ho3 3101 rfl).trans w_x31_1
    have w_x31_2 : m3 3102 = .int r1.2.2.2.2.2.2.2.1 := (ho3 3102 rfl).trans w_x31_2
    have hoff := offm hoff ho3 (by decide +kernel)
    have hsh := SH.off hsh ho3 (by decide +kernel)
    have w_A30 : a3 30 = (6001, .inl r1.2.2.2.2.2.2.2.2.1) := (hoa3 30 rfl).trans w_A30
    have w_A33 : a3 33 = (10, .inl r1.2.2.2.2.2.2.2.2.2.1) := (hoa3 33 rfl).trans w_A33
    have w_A35 : a3 35 = (60000, .inl r1.2.2.2.2.2.2.2.2.2.2.1) := (hoa3 35 rfl).trans w_A35
    have w_A37 : a3 37 = (16384, .inl r1.2.2.2.2.2.2.2.2.2.2.2.1) := (hoa3 37 rfl).trans w_A37
    have w_A38 : a3 38 = (6000, .inr (.inl r1.2.2.2.2.2.2.2.2.2.2.2.2)) := (hoa3 38 rfl).trans w_A38
    have w_A57 : a3 57 = (6000, .inl r3.2.2.1) := hp3_A57
    have w_A59 : a3 59 = (6000, .inl r3.2.2.2.1) := hp3_A59
    have w_A61 : a3 61 = (6000, .inl r3.2.2.2.2.1) := hp3_A61
    have w_A63 : a3 63 = (6001, .inl r3.2.2.2.2.2.1) := hp3_A63
    have w_A65 : a3 65 = (60000, .inl r3.2.2.2.2.2.2) := hp3_A65
    have hoffa := offm hoffa hoa3 (by decide +kernel)
    refine lv_goto (tgt := 30) hx hb dX11_barren_25 (by decide) ?_
    have hs0 := Option.some.inj hs0
    subst hs0
    exact W.zret hx hb hr rfl (fun t ht hw => ⟨⟨_, (m3, a3), rfl, ⟨rfl, w_x27_6, w_x27_7, w_x27_8, w_x28_2, w_x28_3, w_x31_1, w_x31_2, hoff, w_A30, w_A33, w_A35, w_A37, w_A38, w_A57, w_A59, w_A61, w_A63, w_A65, hoffa⟩, g_end hW ht hw⟩, hS.F ht⟩) hS.2.2 dX11_barren_30 hlocks
-- HealLink.steps ()I
def fX11_steps (F : Nat) (x0_8 : Int64) (xkr_0 : Int32) (xkr_1 : Int32) (xkr_2 : Int32) (xkr_3 : Int32) (x27_6 : Int64) (x27_7 : Int32) (x27_8 : Int32) (x28_2 : Int32) (x28_3 : Int32) (x31_1 : Int32) (x31_2 : Int32) (A30 : Nat → Int32) (A33 : Nat → Int32) (A35 : Nat → Int32) (A37 : Nat → Int32) (A38 : Nat → Int64) (A57 : Nat → Int32) (A59 : Nat → Int32) (A61 : Nat → Int32) (A63 : Nat → Int32) (A65 : Nat → Int32) : Option (Int32 × Int64 × Int32 × Int32 × Int32 × Int32 × Int32 × Int32 × (Nat → Int32) × (Nat → Int32) × (Nat → Int32) × (Nat → Int32) × (Nat → Int64) × (Nat → Int32) × (Nat → Int32) × (Nat → Int32) × (Nat → Int32) × (Nat → Int32)) := ((fX9_covers F xkr_0 xkr_1 xkr_2 xkr_3 x27_6 x27_7 x27_8 x28_2 x28_3 x31_1 x31_2 A30 A33 A35 A37 A38 x0_8).bind (fun r1 => (if r1.1 = 0 then some ((-3), r1.2.1, r1.2.2.1, r1.2.2.2.1, r1.2.2.2.2.1, r1.2.2.2.2.2.1, r1.2.2.2.2.2.2.1, r1.2.2.2.2.2.2.2.1, r1.2.2.2.2.2.2.2.2.1, r1.2.2.2.2.2.2.2.2.2.1, r1.2.2.2.2.2.2.2.2.2.2.1, r1.2.2.2.2.2.2.2.2.2.2.2.1, r1.2.2.2.2.2.2.2.2.2.2.2.2, A57, A59, A61, A63, A65) else ((fX9_actsToGood F r1.2.2.2.2.1 r1.2.2.2.2.2.2.2.2.1 r1.2.2.2.2.2.2.2.2.2.2.1 r1.2.2.2.1 A57 A59 A61 A63 A65).bind (fun r3 => some (r3.1, r1.2.1, r1.2.2.1, r3.2.1, r1.2.2.2.2.1, r1.2.2.2.2.2.1, r1.2.2.2.2.2.2.1, r1.2.2.2.2.2.2.2.1, r1.2.2.2.2.2.2.2.2.1, r1.2.2.2.2.2.2.2.2.2.1, r1.2.2.2.2.2.2.2.2.2.2.1, r1.2.2.2.2.2.2.2.2.2.2.2.1, r1.2.2.2.2.2.2.2.2.2.2.2.2, r3.2.2.1, r3.2.2.2.1, r3.2.2.2.2.1, r3.2.2.2.2.2.1, r3.2.2.2.2.2.2))))))
theorem dX11_steps_0 : decode cX11_steps 0 = .ok (.aload_n 0, 1) := by decide +kernel
theorem dX11_steps_1 : decode cX11_steps 1 = .ok (.getfield 47, 3) := by decide +kernel
theorem dX11_steps_4 : decode cX11_steps 4 = .ok (.aload_n 0, 1) := by decide +kernel
theorem dX11_steps_5 : decode cX11_steps 5 = .ok (.getfield 56, 3) := by decide +kernel
theorem dX11_steps_8 : decode cX11_steps 8 = .ok (.aload_n 0, 1) := by decide +kernel
theorem dX11_steps_9 : decode cX11_steps 9 = .ok (.getfield 64, 3) := by decide +kernel
theorem dX11_steps_12 : decode cX11_steps 12 = .ok (.invokevirtual 220, 3) := by decide +kernel
theorem dX11_steps_15 : decode cX11_steps 15 = .ok (.ifCond .eq 13, 3) := by decide +kernel
theorem dX11_steps_18 : decode cX11_steps 18 = .ok (.aload_n 0, 1) := by decide +kernel
theorem dX11_steps_19 : decode cX11_steps 19 = .ok (.getfield 47, 3) := by decide +kernel
theorem dX11_steps_22 : decode cX11_steps 22 = .ok (.invokevirtual 244, 3) := by decide +kernel
theorem dX11_steps_25 : decode cX11_steps 25 = .ok (.goto 5, 3) := by decide +kernel
theorem dX11_steps_28 : decode cX11_steps 28 = .ok (.bipush (-3), 2) := by decide +kernel
theorem dX11_steps_30 : decode cX11_steps 30 = .ok (.ireturn, 1) := by decide +kernel
set_option maxHeartbeats 4000000 in
set_option maxRecDepth 100000 in
theorem kX11_steps {l : Launch} {D : va_G} {cy : Nat → ClassId} {N : Nat} {q : Nat → Nat} {m0 : Nat → Value} {a0 : Nat → vp_A} {sz : Nat} (hN : 105 ≤ N) (hsh : SH q m0) {kr : Nat} (hkr : kr < N) (hgk : gk kr = 7) (hrf : m0 7 = .ref (q kr)) {x0_8 : Int64} (h_x0_8 : m0 8 = .long x0_8) {xkr_0 : Int32} (h_xkr_0 : m0 (100 * kr + 0) = .int xkr_0) {xkr_1 : Int32} (h_xkr_1 : m0 (100 * kr + 1) = .int xkr_1) {xkr_2 : Int32} (h_xkr_2 : m0 (100 * kr + 2) = .int xkr_2) {xkr_3 : Int32} (h_xkr_3 : m0 (100 * kr + 3) = .int xkr_3) {x27_6 : Int64} (h_x27_6 : m0 2706 = .long x27_6) {x27_7 : Int32} (h_x27_7 : m0 2707 = .int x27_7) {x27_8 : Int32} (h_x27_8 : m0 2708 = .int x27_8) {x28_2 : Int32} (h_x28_2 : m0 2802 = .int x28_2) {x28_3 : Int32} (h_x28_3 : m0 2803 = .int x28_3) {x31_1 : Int32} (h_x31_1 : m0 3101 = .int x31_1) {x31_2 : Int32} (h_x31_2 : m0 3102 = .int x31_2) {A30 : Nat → Int32} (h_A30 : a0 30 = (6001, .inl A30)) {A33 : Nat → Int32} (h_A33 : a0 33 = (10, .inl A33)) {A35 : Nat → Int32} (h_A35 : a0 35 = (60000, .inl A35)) {A37 : Nat → Int32} (h_A37 : a0 37 = (16384, .inl A37)) {A38 : Nat → Int64} (h_A38 : a0 38 = (6000, .inr (.inl A38))) {A57 : Nat → Int32} (h_A57 : a0 57 = (6000, .inl A57)) {A59 : Nat → Int32} (h_A59 : a0 59 = (6000, .inl A59)) {A61 : Nat → Int32} (h_A61 : a0 61 = (6000, .inl A61)) {A63 : Nat → Int32} (h_A63 : a0 63 = (6001, .inl A63)) {A65 : Nat → Int32} (h_A65 : a0 65 = (60000, .inl A65)) (F : Nat) {X0 : Int32 × Int64 × Int32 × Int32 × Int32 × Int32 × Int32 × Int32 × (Nat → Int32) × (Nat → Int32) × (Nat → Int32) × (Nat → Int32) × (Nat → Int64) × (Nat → Int32) × (Nat → Int32) × (Nat → Int32) × (Nat → Int32) × (Nat → Int32)} (hs0 : fX11_steps F x0_8 xkr_0 xkr_1 xkr_2 xkr_3 x27_6 x27_7 x27_8 x28_2 x28_3 x31_1 x31_2 A30 A33 A35 A37 A38 A57 A59 A61 A63 A65 = some X0) : gMi l yX11_steps cX11_steps 1 (some .int) ({ frames := 7, cells := 0, slots := 0, locals := 170 } : Room) D cy N q m0 a0 sz [.ref (q 0)] (fun r m' a' => r = X0.1 ∧ m' 2706 = .long X0.2.1 ∧ m' 2707 = .int X0.2.2.1 ∧ m' 2708 = .int X0.2.2.2.1 ∧ m' 2802 = .int X0.2.2.2.2.1 ∧ m' 2803 = .int X0.2.2.2.2.2.1 ∧ m' 3101 = .int X0.2.2.2.2.2.2.1 ∧ m' 3102 = .int X0.2.2.2.2.2.2.2.1 ∧ (∀ j, nel j [2706, 2707, 2708, 2802, 2803, 3101, 3102] = false → m' j = m0 j) ∧ a' 30 = (6001, .inl X0.2.2.2.2.2.2.2.2.1) ∧ a' 33 = (10, .inl X0.2.2.2.2.2.2.2.2.2.1) ∧ a' 35 = (60000, .inl X0.2.2.2.2.2.2.2.2.2.2.1) ∧ a' 37 = (16384, .inl X0.2.2.2.2.2.2.2.2.2.2.2.1) ∧ a' 38 = (6000, .inr (.inl X0.2.2.2.2.2.2.2.2.2.2.2.2.1)) ∧ a' 57 = (6000, .inl X0.2.2.2.2.2.2.2.2.2.2.2.2.2.1) ∧ a' 59 = (6000, .inl X0.2.2.2.2.2.2.2.2.2.2.2.2.2.2.1) ∧ a' 61 = (6000, .inl X0.2.2.2.2.2.2.2.2.2.2.2.2.2.2.2.1) ∧ a' 63 = (6001, .inl X0.2.2.2.2.2.2.2.2.2.2.2.2.2.2.2.2.1) ∧ a' 65 = (60000, .inl X0.2.2.2.2.2.2.2.2.2.2.2.2.2.2.2.2.2) ∧ (∀ j, nel j [30, 33, 35, 37, 38, 57, 59, 61, 63, 65] = false → a' j = a0 j)) := by
  refine g_ofi (by decide) (Nat.le_of_ble_eq_true rfl) ?_
  intro p e s M args below meth c hx hb hr hG hown hin hlocks hml hW hS ls hl
  unfold fX11_steps at hs0
  have hoff : ∀ j, nel j [2706, 2707, 2708, 2802, 2803, 3101, 3102] = false → m0 j = m0 j := off0
  have hoffa : ∀ j, nel j [30, 33, 35, 37, 38, 57, 59, 61, 63, 65] = false → a0 j = a0 j := off0
  refine lv_aload_n hx hb dX11_steps_0 rfl (lv_at hl 0 rfl) ?_
  refine gf11_6 hx hb hG hown hW (o := 0) (ltN hN 0 rfl) gk0 (v := .ref (q 27)) (sh0_6 hsh) gx36 dX11_steps_1 ?_
  refine lv_aload_n hx hb dX11_steps_4 rfl (lv_at hl 0 rfl) ?_
  refine gf11_7 hx hb hG hown hW (o := 0) (ltN hN 0 rfl) gk0 (v := .ref (q kr)) ((hoff 7 rfl).trans hrf) gx40 dX11_steps_5 ?_
  refine lv_aload_n hx hb dX11_steps_8 rfl (lv_at hl 0 rfl) ?_
  refine gf11_8 hx hb hG hown hW (o := 0) (ltN hN 0 rfl) gk0 (v := .long x0_8) ((hoff 8 rfl).trans h_x0_8) gx41 dX11_steps_9 ?_
  obtain ⟨r1, hf1, hs0⟩ := obind hs0
  refine g_Vi (n := 2) hx hb hml hown hG hW hS [.ref (q kr), .long x0_8] (kX9_covers hN hsh hkr hgk ((off_kr hoff hgk 0 rfl (by decide)).trans h_xkr_0) ((off_kr hoff hgk 1 rfl (by decide)).trans h_xkr_1) ((off_kr hoff hgk 2 rfl (by decide)).trans h_xkr_2) ((off_kr hoff hgk 3 rfl (by decide)).trans h_xkr_3) h_x27_6 h_x27_7 h_x27_8 h_x28_2 h_x28_3 h_x31_1 h_x31_2 h_A30 h_A33 h_A35 h_A37 h_A38 F x0_8 hf1) (ltN hN 27 rfl) gk27 (by decide) rfl rfl (gd_V gx659 gx660 gx661 gx35 gx662) rfl rfl (by decide) ⟨Nat.le_of_ble_eq_true rfl, Nat.le_of_ble_eq_true rfl⟩ rfl hl (Nat.le_of_ble_eq_true rfl) ⟨Nat.zero_le _, Nat.zero_le _⟩ dX11_steps_12 (fun x1 m1 a1 H locs hp1 hW hS => ?_)
  obtain ⟨hx1, hp1_x27_6, hp1_x27_7, hp1_x27_8, hp1_x28_2, hp1_x28_3, hp1_x31_1, hp1_x31_2, ho1, hp1_A30, hp1_A33, hp1_A35, hp1_A37, hp1_A38, hoa1⟩ := hp1
  subst hx1
  have w_x27_6 : m1 2706 = .long r1.2.1 := hp1_x27_6
  have w_x27_7 : m1 2707 = .int r1.2.2.1 := hp1_x27_7
  have w_x27_8 : m1 2708 = .int r1.2.2.2.1 := hp1_x27_8
  have w_x28_2 : m1 2802 = .int r1.2.2.2.2.1 := hp1_x28_2
  have w_x28_3 : m1 2803 = .int r1.2.2.2.2.2.1 := hp1_x28_3
  have w_x31_1 : m1 3101 = .int r1.2.2.2.2.2.2.1 := hp1_x31_1
  have w_x31_2 : m1 3102 = .int r1.2.2.2.2.2.2.2.1 := hp1_x31_2
  have hoff := offm hoff ho1 (by decide +kernel)
  have hsh := SH.off hsh ho1 (by decide +kernel)
  have w_A30 : a1 30 = (6001, .inl r1.2.2.2.2.2.2.2.2.1) := hp1_A30
  have w_A33 : a1 33 = (10, .inl r1.2.2.2.2.2.2.2.2.2.1) := hp1_A33
  have w_A35 : a1 35 = (60000, .inl r1.2.2.2.2.2.2.2.2.2.2.1) := hp1_A35
  have w_A37 : a1 37 = (16384, .inl r1.2.2.2.2.2.2.2.2.2.2.2.1) := hp1_A37
  have w_A38 : a1 38 = (6000, .inr (.inl r1.2.2.2.2.2.2.2.2.2.2.2.2)) := hp1_A38
  have w_A57 : a1 57 = (6000, .inl A57) := (hoa1 57 rfl).trans h_A57
  have w_A59 : a1 59 = (6000, .inl A59) := (hoa1 59 rfl).trans h_A59
  have w_A61 : a1 61 = (6000, .inl A61) := (hoa1 61 rfl).trans h_A61
  have w_A63 : a1 63 = (6001, .inl A63) := (hoa1 63 rfl).trans h_A63
  have w_A65 : a1 65 = (60000, .inl A65) := (hoa1 65 rfl).trans h_A65
  have hoffa := offm hoffa hoa1 (by decide +kernel)
  refine lv_if_eq (tgt := 28) hx hb dX11_steps_15 (by decide) (fun c2 => ?_) (fun c2 => ?_)
  · rw [if_pos c2] at hs0
    refine lv_bipush (v := (-3)) hx hb dX11_steps_28 (by decide) ?_
    have hs0 := Option.some.inj hs0
    subst hs0
    exact W.zret hx hb hr rfl (fun t ht hw => ⟨⟨_, (m1, a1), rfl, ⟨rfl, w_x27_6, w_x27_7, w_x27_8, w_x28_2, w_x28_3, w_x31_1, w_x31_2, hoff, w_A30, w_A33, w_A35, w_A37, w_A38, w_A57, w_A59, w_A61, w_A63, w_A65, hoffa⟩, g_end hW ht hw⟩, hS.F ht⟩) hS.2.2 dX11_steps_30 hlocks
  · rw [if_neg c2] at hs0
    refine lv_aload_n hx hb dX11_steps_18 rfl (lv_at hl 0 rfl) ?_
    refine gf11_6 hx hb hG hown hW (o := 0) (ltN hN 0 rfl) gk0 (v := .ref (q 27)) (sh0_6 hsh) gx36 dX11_steps_19 ?_
    obtain ⟨r3, hf3, hs0⟩ := obind hs0
    refine g_Vi (n := 0) hx hb hml hown hG hW hS [] (kX9_actsToGood hN hsh w_x28_2 w_A30 w_A35 w_x27_8 w_A57 w_A59 w_A61 w_A63 w_A65 F hf3) (ltN hN 27 rfl) gk27 (by decide) rfl rfl (gd_V gx918 gx919 gx920 gx35 gx921) rfl rfl (by decide) ⟨Nat.le_of_ble_eq_true rfl, Nat.le_of_ble_eq_true rfl⟩ rfl hl (Nat.le_of_ble_eq_true rfl) ⟨Nat.zero_le _, Nat.zero_le _⟩ dX11_steps_22 (fun x3 m3 a3 H locs hp3 hW hS => ?_)
    obtain ⟨hx3, hp3_x27_8, ho3, hp3_A57, hp3_A59, hp3_A61, hp3_A63, hp3_A65, hoa3⟩ := hp3
    subst hx3
    have w_x27_6 : m3 2706 = .long r1.2.1 := (ho3 2706 rfl).trans w_x27_6
    have w_x27_7 : m3 2707 = .int r1.2.2.1 := (ho3 2707 rfl).trans w_x27_7
    have w_x27_8 : m3 2708 = .int r3.2.1 := hp3_x27_8
    have w_x28_2 : m3 2802 = .int r1.2.2.2.2.1 := (ho3 2802 rfl).trans w_x28_2
    have w_x28_3 : m3 2803 = .int r1.2.2.2.2.2.1 := (ho3 2803 rfl).trans w_x28_3
    have w_x31_1 : m3 3101 = .int r1.2.2.2.2.2.2.1 := (ho3 3101 rfl).trans w_x31_1
    have w_x31_2 : m3 3102 = .int r1.2.2.2.2.2.2.2.1 := (ho3 3102 rfl).trans w_x31_2
    have hoff := offm hoff ho3 (by decide +kernel)
    have hsh := SH.off hsh ho3 (by decide +kernel)
    have w_A30 : a3 30 = (6001, .inl r1.2.2.2.2.2.2.2.2.1) := (hoa3 30 rfl).trans w_A30
    have w_A33 : a3 33 = (10, .inl r1.2.2.2.2.2.2.2.2.2.1) := (hoa3 33 rfl).trans w_A33
    have w_A35 : a3 35 = (60000, .inl r1.2.2.2.2.2.2.2.2.2.2.1) := (hoa3 35 rfl).trans w_A35
    have w_A37 : a3 37 = (16384, .inl r1.2.2.2.2.2.2.2.2.2.2.2.1) := (hoa3 37 rfl).trans w_A37
    have w_A38 : a3 38 = (6000, .inr (.inl r1.2.2.2.2.2.2.2.2.2.2.2.2)) := (hoa3 38 rfl).trans w_A38
    have w_A57 : a3 57 = (6000, .inl r3.2.2.1) := hp3_A57
    have w_A59 : a3 59 = (6000, .inl r3.2.2.2.1) := hp3_A59
    have w_A61 : a3 61 = (6000, .inl r3.2.2.2.2.1) := hp3_A61
    have w_A63 : a3 63 = (6001, .inl r3.2.2.2.2.2.1) := hp3_A63
    have w_A65 : a3 65 = (60000, .inl r3.2.2.2.2.2.2) := hp3_A65
    have hoffa := offm hoffa hoa3 (by decide +kernel)
    refine lv_goto (tgt := 30) hx hb dX11_steps_25 (by decide) ?_
    have hs0 := Option.some.inj hs0
    subst hs0
    exact W.zret hx hb hr rfl (fun t ht hw => ⟨⟨_, (m3, a3), rfl, ⟨rfl, w_x27_6, w_x27_7, w_x27_8, w_x28_2, w_x28_3, w_x31_1, w_x31_2, hoff, w_A30, w_A33, w_A35, w_A37, w_A38, w_A57, w_A59, w_A61, w_A63, w_A65, hoffa⟩, g_end hW ht hw⟩, hS.F ht⟩) hS.2.2 dX11_steps_30 hlocks
-- HealLink.doStep (II)Z
def fX11_doStep_S59 (F : Nat) (xkr_0 : Int32) (xkr_1 : Int32) (xkr_2 : Int32) (xkr_3 : Int32) (A13 : Nat → Int32) (A15 : Nat → Int32) (A17 : Nat → Int32) (v2 : Int32) (v4 : Int32) (v6 : Int32) (v7 : Int32) (x0_8 : Int64) (x0_9 : Int32) (x0_10 : Int32) (x2_0 : Int32) (x2_1 : Int64) (x5_0 : Int32) (x5_1 : Int64) (A1 : Nat → Int32) : Option ((Int64 × Int32 × Int32 × Int32 × Int64 × Int32 × Int64 × (Nat → Int32)) ⊕ (Int32 × Int32 × Int64 × Int32 × Int32 × Int32 × Int64 × Int32 × Int64 × (Nat → Int32))) := (if v4 ≤ v7 then some (Sum.inl (x0_8, x0_9, x0_10, x2_0, x2_1, x5_0, x5_1, A1)) else (if v2 ≤ v7 then some (Sum.inl (x0_8, x0_9, x0_10, x2_0, x2_1, x5_0, x5_1, A1)) else (if v6 = (-1) then some (Sum.inl (x0_8, x0_9, x0_10, x2_0, x2_1, x5_0, x5_1, A1)) else ((fX11_perform xkr_0 xkr_1 xkr_2 xkr_3 x0_8 x0_9 x0_10 x2_0 x2_1 x5_0 x5_1 A1 (fX0_codeOf 3 (v6 >>> (1 &&& 31)) (v6 &&& (1 : Int32)))).bind (fun r15 => ((fX7_firstPacket F xkr_1 r15.2.1).bind (fun r16 => some (Sum.inr (r16, v7 + 1, r15.2.1, r15.2.2.1, r15.2.2.2.1, r15.2.2.2.2.1, r15.2.2.2.2.2.1, r15.2.2.2.2.2.2.1, r15.2.2.2.2.2.2.2.1, r15.2.2.2.2.2.2.2.2)))))))))
def fX11_doStep (F : Nat) (xkr_0 : Int32) (xkr_1 : Int32) (xkr_2 : Int32) (xkr_3 : Int32) (A13 : Nat → Int32) (A15 : Nat → Int32) (A17 : Nat → Int32) (x0_8 : Int64) (x0_9 : Int32) (x0_10 : Int32) (x2_0 : Int32) (x2_1 : Int64) (x5_0 : Int32) (x5_1 : Int64) (A1 : Nat → Int32) (p1 : Int32) (p2 : Int32) : Option (Int32 × Int64 × Int32 × Int32 × Int32 × Int64 × Int32 × Int64 × (Nat → Int32)) := (if (cAt 64 A13 p1) = 5 then ((fX7_firstPacket F xkr_1 x0_8).bind (fun r9 => (gloop (fun u10 : (Int32 × Int32 × Int64 × Int32 × Int32 × Int32 × Int64 × Int32 × Int64 × (Nat → Int32)) => fX11_doStep_S59 F xkr_0 xkr_1 xkr_2 xkr_3 A13 A15 A17 p2 (cAt 64 A15 p1) u10.1 u10.2.1 u10.2.2.1 u10.2.2.2.1 u10.2.2.2.2.1 u10.2.2.2.2.2.1 u10.2.2.2.2.2.2.1 u10.2.2.2.2.2.2.2.1 u10.2.2.2.2.2.2.2.2.1 u10.2.2.2.2.2.2.2.2.2) F (r9, 0, x0_8, x0_9, x0_10, x2_0, x2_1, x5_0, x5_1, A1)).bind (fun t10_114 => some (1, t10_114.1, t10_114.2.1, t10_114.2.2.1, t10_114.2.2.2.1, t10_114.2.2.2.2.1, t10_114.2.2.2.2.2.1, t10_114.2.2.2.2.2.2.1, t10_114.2.2.2.2.2.2.2)))) else (if (fX7_offers xkr_1 x0_8 (cAt 64 A13 p1) (cAt 64 A15 p1) (cAt 64 A17 p1)) = 0 then some (0, x0_8, x0_9, x0_10, x2_0, x2_1, x5_0, x5_1, A1) else ((fX11_perform xkr_0 xkr_1 xkr_2 xkr_3 x0_8 x0_9 x0_10 x2_0 x2_1 x5_0 x5_1 A1 (fX0_codeOf (cAt 64 A13 p1) (cAt 64 A15 p1) (cAt 64 A17 p1))).bind (fun r8 => some (1, r8.2.1, r8.2.2.1, r8.2.2.2.1, r8.2.2.2.2.1, r8.2.2.2.2.2.1, r8.2.2.2.2.2.2.1, r8.2.2.2.2.2.2.2.1, r8.2.2.2.2.2.2.2.2)))))
theorem dX11_doStep_0 : decode cX11_doStep 0 = .ok (.aload_n 0, 1) := by decide +kernel
theorem dX11_doStep_1 : decode cX11_doStep 1 = .ok (.getfield 33, 3) := by decide +kernel
theorem dX11_doStep_4 : decode cX11_doStep 4 = .ok (.getfield 338, 3) := by decide +kernel
theorem dX11_doStep_7 : decode cX11_doStep 7 = .ok (.iload_n 1, 1) := by decide +kernel
theorem dX11_doStep_8 : decode cX11_doStep 8 = .ok (.invokevirtual 184, 3) := by decide +kernel
theorem dX11_doStep_11 : decode cX11_doStep 11 = .ok (.istore_n 3, 1) := by decide +kernel
theorem dX11_doStep_12 : decode cX11_doStep 12 = .ok (.aload_n 0, 1) := by decide +kernel
theorem dX11_doStep_13 : decode cX11_doStep 13 = .ok (.getfield 33, 3) := by decide +kernel
theorem dX11_doStep_16 : decode cX11_doStep 16 = .ok (.getfield 341, 3) := by decide +kernel
theorem dX11_doStep_19 : decode cX11_doStep 19 = .ok (.iload_n 1, 1) := by decide +kernel
theorem dX11_doStep_20 : decode cX11_doStep 20 = .ok (.invokevirtual 184, 3) := by decide +kernel
theorem dX11_doStep_23 : decode cX11_doStep 23 = .ok (.istore 4, 2) := by decide +kernel
theorem dX11_doStep_25 : decode cX11_doStep 25 = .ok (.aload_n 0, 1) := by decide +kernel
theorem dX11_doStep_26 : decode cX11_doStep 26 = .ok (.getfield 33, 3) := by decide +kernel
theorem dX11_doStep_29 : decode cX11_doStep 29 = .ok (.getfield 344, 3) := by decide +kernel
theorem dX11_doStep_32 : decode cX11_doStep 32 = .ok (.iload_n 1, 1) := by decide +kernel
theorem dX11_doStep_33 : decode cX11_doStep 33 = .ok (.invokevirtual 184, 3) := by decide +kernel
theorem dX11_doStep_36 : decode cX11_doStep 36 = .ok (.istore 5, 2) := by decide +kernel
theorem dX11_doStep_38 : decode cX11_doStep 38 = .ok (.iload_n 3, 1) := by decide +kernel
theorem dX11_doStep_39 : decode cX11_doStep 39 = .ok (.iconst 5, 1) := by decide +kernel
theorem dX11_doStep_40 : decode cX11_doStep 40 = .ok (.if_icmp .ne 76, 3) := by decide +kernel
theorem dX11_doStep_43 : decode cX11_doStep 43 = .ok (.aload_n 0, 1) := by decide +kernel
theorem dX11_doStep_44 : decode cX11_doStep 44 = .ok (.getfield 56, 3) := by decide +kernel
theorem dX11_doStep_47 : decode cX11_doStep 47 = .ok (.aload_n 0, 1) := by decide +kernel
theorem dX11_doStep_48 : decode cX11_doStep 48 = .ok (.getfield 64, 3) := by decide +kernel
theorem dX11_doStep_51 : decode cX11_doStep 51 = .ok (.invokevirtual 347, 3) := by decide +kernel
theorem dX11_doStep_54 : decode cX11_doStep 54 = .ok (.istore 6, 2) := by decide +kernel
theorem dX11_doStep_56 : decode cX11_doStep 56 = .ok (.iconst 0, 1) := by decide +kernel
theorem dX11_doStep_57 : decode cX11_doStep 57 = .ok (.istore 7, 2) := by decide +kernel
theorem dX11_doStep_59 : decode cX11_doStep 59 = .ok (.iload 7, 2) := by decide +kernel
theorem dX11_doStep_61 : decode cX11_doStep 61 = .ok (.iload 4, 2) := by decide +kernel
theorem dX11_doStep_63 : decode cX11_doStep 63 = .ok (.if_icmp .ge 51, 3) := by decide +kernel
theorem dX11_doStep_66 : decode cX11_doStep 66 = .ok (.iload 7, 2) := by decide +kernel
theorem dX11_doStep_68 : decode cX11_doStep 68 = .ok (.iload_n 2, 1) := by decide +kernel
theorem dX11_doStep_69 : decode cX11_doStep 69 = .ok (.if_icmp .ge 45, 3) := by decide +kernel
theorem dX11_doStep_72 : decode cX11_doStep 72 = .ok (.iload 6, 2) := by decide +kernel
theorem dX11_doStep_74 : decode cX11_doStep 74 = .ok (.iconst (-1), 1) := by decide +kernel
theorem dX11_doStep_75 : decode cX11_doStep 75 = .ok (.if_icmp .eq 39, 3) := by decide +kernel
theorem dX11_doStep_78 : decode cX11_doStep 78 = .ok (.aload_n 0, 1) := by decide +kernel
theorem dX11_doStep_79 : decode cX11_doStep 79 = .ok (.iconst 3, 1) := by decide +kernel
theorem dX11_doStep_80 : decode cX11_doStep 80 = .ok (.iload 6, 2) := by decide +kernel
theorem dX11_doStep_82 : decode cX11_doStep 82 = .ok (.iconst 1, 1) := by decide +kernel
theorem dX11_doStep_83 : decode cX11_doStep 83 = .ok (.ishr, 1) := by decide +kernel
theorem dX11_doStep_84 : decode cX11_doStep 84 = .ok (.iload 6, 2) := by decide +kernel
theorem dX11_doStep_86 : decode cX11_doStep 86 = .ok (.iconst 1, 1) := by decide +kernel
theorem dX11_doStep_87 : decode cX11_doStep 87 = .ok (.iand, 1) := by decide +kernel
theorem dX11_doStep_88 : decode cX11_doStep 88 = .ok (.invokestatic 158, 3) := by decide +kernel
theorem dX11_doStep_91 : decode cX11_doStep 91 = .ok (.invokevirtual 162, 3) := by decide +kernel
theorem dX11_doStep_94 : decode cX11_doStep 94 = .ok (.pop, 1) := by decide +kernel
theorem dX11_doStep_95 : decode cX11_doStep 95 = .ok (.aload_n 0, 1) := by decide +kernel
theorem dX11_doStep_96 : decode cX11_doStep 96 = .ok (.getfield 56, 3) := by decide +kernel
theorem dX11_doStep_99 : decode cX11_doStep 99 = .ok (.aload_n 0, 1) := by decide +kernel
theorem dX11_doStep_100 : decode cX11_doStep 100 = .ok (.getfield 64, 3) := by decide +kernel
theorem dX11_doStep_103 : decode cX11_doStep 103 = .ok (.invokevirtual 347, 3) := by decide +kernel
theorem dX11_doStep_106 : decode cX11_doStep 106 = .ok (.istore 6, 2) := by decide +kernel
theorem dX11_doStep_108 : decode cX11_doStep 108 = .ok (.iinc 7 1, 3) := by decide +kernel
theorem dX11_doStep_111 : decode cX11_doStep 111 = .ok (.goto (-52), 3) := by decide +kernel
theorem dX11_doStep_114 : decode cX11_doStep 114 = .ok (.iconst 1, 1) := by decide +kernel
theorem dX11_doStep_115 : decode cX11_doStep 115 = .ok (.ireturn, 1) := by decide +kernel
theorem dX11_doStep_116 : decode cX11_doStep 116 = .ok (.aload_n 0, 1) := by decide +kernel
theorem dX11_doStep_117 : decode cX11_doStep 117 = .ok (.getfield 56, 3) := by decide +kernel
theorem dX11_doStep_120 : decode cX11_doStep 120 = .ok (.aload_n 0, 1) := by decide +kernel
theorem dX11_doStep_121 : decode cX11_doStep 121 = .ok (.getfield 64, 3) := by decide +kernel
theorem dX11_doStep_124 : decode cX11_doStep 124 = .ok (.iload_n 3, 1) := by decide +kernel
theorem dX11_doStep_125 : decode cX11_doStep 125 = .ok (.iload 4, 2) := by decide +kernel
theorem dX11_doStep_127 : decode cX11_doStep 127 = .ok (.iload 5, 2) := by decide +kernel
theorem dX11_doStep_129 : decode cX11_doStep 129 = .ok (.invokevirtual 154, 3) := by decide +kernel
theorem dX11_doStep_132 : decode cX11_doStep 132 = .ok (.ifCond .ne 5, 3) := by decide +kernel
theorem dX11_doStep_135 : decode cX11_doStep 135 = .ok (.iconst 0, 1) := by decide +kernel
theorem dX11_doStep_136 : decode cX11_doStep 136 = .ok (.ireturn, 1) := by decide +kernel
theorem dX11_doStep_137 : decode cX11_doStep 137 = .ok (.aload_n 0, 1) := by decide +kernel
theorem dX11_doStep_138 : decode cX11_doStep 138 = .ok (.iload_n 3, 1) := by decide +kernel
theorem dX11_doStep_139 : decode cX11_doStep 139 = .ok (.iload 4, 2) := by decide +kernel
theorem dX11_doStep_141 : decode cX11_doStep 141 = .ok (.iload 5, 2) := by decide +kernel
theorem dX11_doStep_143 : decode cX11_doStep 143 = .ok (.invokestatic 158, 3) := by decide +kernel
theorem dX11_doStep_146 : decode cX11_doStep 146 = .ok (.invokevirtual 162, 3) := by decide +kernel
theorem dX11_doStep_149 : decode cX11_doStep 149 = .ok (.pop, 1) := by decide +kernel
theorem dX11_doStep_150 : decode cX11_doStep 150 = .ok (.iconst 1, 1) := by decide +kernel
theorem dX11_doStep_151 : decode cX11_doStep 151 = .ok (.ireturn, 1) := by decide +kernel
set_option maxHeartbeats 4000000 in
set_option maxRecDepth 100000 in
theorem kX11_doStep {l : Launch} {D : va_G} {cy : Nat → ClassId} {N : Nat} {q : Nat → Nat} {m0 : Nat → Value} {a0 : Nat → vp_A} {sz : Nat} (hN : 105 ≤ N) (hsh : SH q m0) {kr : Nat} (hkr : kr < N) (hgk : gk kr = 7) (hrf : m0 7 = .ref (q kr)) {xkr_0 : Int32} (h_xkr_0 : m0 (100 * kr + 0) = .int xkr_0) {xkr_1 : Int32} (h_xkr_1 : m0 (100 * kr + 1) = .int xkr_1) {xkr_2 : Int32} (h_xkr_2 : m0 (100 * kr + 2) = .int xkr_2) {xkr_3 : Int32} (h_xkr_3 : m0 (100 * kr + 3) = .int xkr_3) {A13 : Nat → Int32} (h_A13 : a0 13 = (64, .inl A13)) {A15 : Nat → Int32} (h_A15 : a0 15 = (64, .inl A15)) {A17 : Nat → Int32} (h_A17 : a0 17 = (64, .inl A17)) {x0_8 : Int64} (h_x0_8 : m0 8 = .long x0_8) {x0_9 : Int32} (h_x0_9 : m0 9 = .int x0_9) {x0_10 : Int32} (h_x0_10 : m0 10 = .int x0_10) {x2_0 : Int32} (h_x2_0 : m0 200 = .int x2_0) {x2_1 : Int64} (h_x2_1 : m0 201 = .long x2_1) {x5_0 : Int32} (h_x5_0 : m0 500 = .int x5_0) {x5_1 : Int64} (h_x5_1 : m0 501 = .long x5_1) {A1 : Nat → Int32} (h_A1 : a0 1 = (8, .inl A1)) (F : Nat) (p1 : Int32) (p2 : Int32) {X0 : Int32 × Int64 × Int32 × Int32 × Int32 × Int64 × Int32 × Int64 × (Nat → Int32)} (hs0 : fX11_doStep F xkr_0 xkr_1 xkr_2 xkr_3 A13 A15 A17 x0_8 x0_9 x0_10 x2_0 x2_1 x5_0 x5_1 A1 p1 p2 = some X0) : gMi l yX11_doStep cX11_doStep 8 (some .boolean) ({ frames := 5, cells := 0, slots := 0, locals := 123 } : Room) D cy N q m0 a0 sz [.ref (q 0), .int p1, .int p2] (fun r m' a' => r = X0.1 ∧ m' 8 = .long X0.2.1 ∧ m' 9 = .int X0.2.2.1 ∧ m' 10 = .int X0.2.2.2.1 ∧ m' 200 = .int X0.2.2.2.2.1 ∧ m' 201 = .long X0.2.2.2.2.2.1 ∧ m' 500 = .int X0.2.2.2.2.2.2.1 ∧ m' 501 = .long X0.2.2.2.2.2.2.2.1 ∧ (∀ j, nel j [8, 9, 10, 200, 201, 500, 501] = false → m' j = m0 j) ∧ a' 1 = (8, .inl X0.2.2.2.2.2.2.2.2) ∧ (∀ j, nel j [1] = false → a' j = a0 j)) := by
  refine g_ofi (by decide) (Nat.le_of_ble_eq_true rfl) ?_
  intro p e s M args below meth c hx hb hr hG hown hin hlocks hml hW hS ls hl
  unfold fX11_doStep at hs0
  have hoff : ∀ j, nel j [8, 9, 10, 200, 201, 500, 501] = false → m0 j = m0 j := off0
  have hoffa : ∀ j, nel j [1] = false → a0 j = a0 j := off0
  refine lv_aload_n hx hb dX11_doStep_0 rfl (lv_at hl 0 rfl) ?_
  refine gf11_4 hx hb hG hown hW (o := 0) (ltN hN 0 rfl) gk0 (v := .ref (q 11)) (sh0_4 hsh) gx28 dX11_doStep_1 ?_
  refine gf8_0 hx hb hG hown hW (o := 11) (ltN hN 11 rfl) gk11 (v := .ref (q 12)) (sh11_0 hsh) gx1293 dX11_doStep_4 ?_
  refine lv_iload_n hx hb dX11_doStep_7 rfl (lv_at hl 1 rfl) ?_
  refine g_ViR (n := 1) hx hb hml hown hG hW hS [.int p1] (kX2_at (ltN hN 12 rfl) gk12 (ltN hN 13 rfl) gk13 (sh12_0 hsh) (by decide) ((hoffa 13 rfl).trans h_A13) p1) (ltN hN 12 rfl) gk12 (by decide) rfl rfl (gd_V gx563 gx564 gx565 gx47 gx566) rfl rfl (by decide) ⟨Nat.le_of_ble_eq_true rfl, Nat.le_of_ble_eq_true rfl⟩ rfl hl (Nat.le_of_ble_eq_true rfl) ⟨Nat.zero_le _, Nat.zero_le _⟩ dX11_doStep_8 (fun H locs hW hS => ?_)
  refine lv_istore_n (lv' := [(3, .int (cAt 64 A13 p1)), (0, .ref (q 0)), (1, .int p1), (2, .int p2)]) hx hb dX11_doStep_11 rfl hl (by decide) rfl (fun ls hl => ?_)
  refine lv_aload_n hx hb dX11_doStep_12 rfl (lv_at hl 1 rfl) ?_
  refine gf11_4 hx hb hG hown hW (o := 0) (ltN hN 0 rfl) gk0 (v := .ref (q 11)) (sh0_4 hsh) gx28 dX11_doStep_13 ?_
  refine gf8_1 hx hb hG hown hW (o := 11) (ltN hN 11 rfl) gk11 (v := .ref (q 14)) (sh11_1 hsh) gx1294 dX11_doStep_16 ?_
  refine lv_iload_n hx hb dX11_doStep_19 rfl (lv_at hl 2 rfl) ?_
  refine g_ViR (n := 1) hx hb hml hown hG hW hS [.int p1] (kX2_at (ltN hN 14 rfl) gk14 (ltN hN 15 rfl) gk15 (sh14_0 hsh) (by decide) ((hoffa 15 rfl).trans h_A15) p1) (ltN hN 14 rfl) gk14 (by decide) rfl rfl (gd_V gx563 gx564 gx565 gx47 gx566) rfl rfl (by decide) ⟨Nat.le_of_ble_eq_true rfl, Nat.le_of_ble_eq_true rfl⟩ rfl hl (Nat.le_of_ble_eq_true rfl) ⟨Nat.zero_le _, Nat.zero_le _⟩ dX11_doStep_20 (fun H locs hW hS => ?_)
  refine lv_istore (lv' := [(4, .int (cAt 64 A15 p1)), (3, .int (cAt 64 A13 p1)), (0, .ref (q 0)), (1, .int p1), (2, .int p2)]) hx hb dX11_doStep_23 hl (by decide) rfl (fun ls hl => ?_)
  refine lv_aload_n hx hb dX11_doStep_25 rfl (lv_at hl 2 rfl) ?_
  refine gf11_4 hx hb hG hown hW (o := 0) (ltN hN 0 rfl) gk0 (v := .ref (q 11)) (sh0_4 hsh) gx28 dX11_doStep_26 ?_
  refine gf8_2 hx hb hG hown hW (o := 11) (ltN hN 11 rfl) gk11 (v := .ref (q 16)) (sh11_2 hsh) gx1295 dX11_doStep_29 ?_
  refine lv_iload_n hx hb dX11_doStep_32 rfl (lv_at hl 3 rfl) ?_
  refine g_ViR (n := 1) hx hb hml hown hG hW hS [.int p1] (kX2_at (ltN hN 16 rfl) gk16 (ltN hN 17 rfl) gk17 (sh16_0 hsh) (by decide) ((hoffa 17 rfl).trans h_A17) p1) (ltN hN 16 rfl) gk16 (by decide) rfl rfl (gd_V gx563 gx564 gx565 gx47 gx566) rfl rfl (by decide) ⟨Nat.le_of_ble_eq_true rfl, Nat.le_of_ble_eq_true rfl⟩ rfl hl (Nat.le_of_ble_eq_true rfl) ⟨Nat.zero_le _, Nat.zero_le _⟩ dX11_doStep_33 (fun H locs hW hS => ?_)
  refine lv_istore (lv' := [(5, .int (cAt 64 A17 p1)), (4, .int (cAt 64 A15 p1)), (3, .int (cAt 64 A13 p1)), (0, .ref (q 0)), (1, .int p1), (2, .int p2)]) hx hb dX11_doStep_36 hl (by decide) rfl (fun ls hl => ?_)
  refine lv_iload_n hx hb dX11_doStep_38 rfl (lv_at hl 2 rfl) ?_
  refine lv_iconst (v := 5) hx hb dX11_doStep_39 (by decide) ?_
  refine lv_icmp_ne (tgt := 116) hx hb dX11_doStep_40 (by decide) (fun c4 => ?_) (fun c4 => ?_)
  · rw [if_neg c4] at hs0
    refine lv_aload_n hx hb dX11_doStep_116 rfl (lv_at hl 3 rfl) ?_
    refine gf11_7 hx hb hG hown hW (o := 0) (ltN hN 0 rfl) gk0 (v := .ref (q kr)) ((hoff 7 rfl).trans hrf) gx40 dX11_doStep_117 ?_
    refine lv_aload_n hx hb dX11_doStep_120 rfl (lv_at hl 3 rfl) ?_
    refine gf11_8 hx hb hG hown hW (o := 0) (ltN hN 0 rfl) gk0 (v := .long x0_8) h_x0_8 gx41 dX11_doStep_121 ?_
    refine lv_iload_n hx hb dX11_doStep_124 rfl (lv_at hl 2 rfl) ?_
    refine lv_iload hx hb dX11_doStep_125 (lv_at hl 1 rfl) ?_
    refine lv_iload hx hb dX11_doStep_127 (lv_at hl 0 rfl) ?_
    refine g_ViR (n := 4) hx hb hml hown hG hW hS [.long x0_8, .int (cAt 64 A13 p1), .int (cAt 64 A15 p1), .int (cAt 64 A17 p1)] (kX7_offers hN hkr hgk ((off_kr hoff hgk 1 rfl (by decide)).trans h_xkr_1) x0_8 (cAt 64 A13 p1) (cAt 64 A15 p1) (cAt 64 A17 p1)) hkr hgk (by decide) rfl rfl (gd_V gx398 gx399 gx400 gx39 gx401) rfl rfl (by decide) ⟨Nat.le_of_ble_eq_true rfl, Nat.le_of_ble_eq_true rfl⟩ rfl hl (Nat.le_of_ble_eq_true rfl) ⟨Nat.zero_le _, Nat.zero_le _⟩ dX11_doStep_129 (fun H locs hW hS => ?_)
    refine lv_if_ne (tgt := 137) hx hb dX11_doStep_132 (by decide) (fun c6 => ?_) (fun c6 => ?_)
    · rw [if_neg c6] at hs0
      refine lv_aload_n hx hb dX11_doStep_137 rfl (lv_at hl 3 rfl) ?_
      refine lv_iload_n hx hb dX11_doStep_138 rfl (lv_at hl 2 rfl) ?_
      refine lv_iload hx hb dX11_doStep_139 (lv_at hl 1 rfl) ?_
      refine lv_iload hx hb dX11_doStep_141 (lv_at hl 0 rfl) ?_
      refine g_SiR (n := 3) hx hb hml hown hG hW hS [.int (cAt 64 A13 p1), .int (cAt 64 A15 p1), .int (cAt 64 A17 p1)] (kX0_codeOf hN (cAt 64 A13 p1) (cAt 64 A15 p1) (cAt 64 A17 p1)) rfl (gd_S gx406 gx407 gx23 gx408) rfl rfl (by decide) ⟨Nat.le_of_ble_eq_true rfl, Nat.le_of_ble_eq_true rfl⟩ rfl hl (Nat.le_of_ble_eq_true rfl) ⟨Nat.zero_le _, Nat.zero_le _⟩ dX11_doStep_143 (fun H locs hW hS => ?_)
      obtain ⟨r8, hf8, hs0⟩ := obind hs0
      refine g_Vi (n := 1) hx hb hml hown hG hW hS [.int (fX0_codeOf (cAt 64 A13 p1) (cAt 64 A15 p1) (cAt 64 A17 p1))] (kX11_perform hN hsh hkr hgk ((hoff 7 rfl).trans hrf) ((off_kr hoff hgk 0 rfl (by decide)).trans h_xkr_0) ((off_kr hoff hgk 1 rfl (by decide)).trans h_xkr_1) ((off_kr hoff hgk 2 rfl (by decide)).trans h_xkr_2) ((off_kr hoff hgk 3 rfl (by decide)).trans h_xkr_3) h_x0_8 h_x0_9 h_x0_10 h_x2_0 h_x2_1 h_x5_0 h_x5_1 h_A1 (fX0_codeOf (cAt 64 A13 p1) (cAt 64 A15 p1) (cAt 64 A17 p1)) hf8) (ltN hN 0 rfl) gk0 (by decide) rfl rfl (gd_V gx409 gx410 gx411 gx2 gx412) rfl rfl (by decide) ⟨Nat.le_of_ble_eq_true rfl, Nat.le_of_ble_eq_true rfl⟩ rfl hl (Nat.le_of_ble_eq_true rfl) ⟨Nat.zero_le _, Nat.zero_le _⟩ dX11_doStep_146 (fun x8 m8 a8 H locs hp8 hW hS => ?_)
      obtain ⟨hx8, hp8_x0_8, hp8_x0_9, hp8_x0_10, hp8_x2_0, hp8_x2_1, hp8_x5_0, hp8_x5_1, ho8, hp8_A1, hoa8⟩ := hp8
      subst hx8
      have w_x0_8 : m8 8 = .long r8.2.1 := hp8_x0_8
      have w_x0_9 : m8 9 = .int r8.2.2.1 := hp8_x0_9
      have w_x0_10 : m8 10 = .int r8.2.2.2.1 := hp8_x0_10
      have w_x2_0 : m8 200 = .int r8.2.2.2.2.1 := hp8_x2_0
      have w_x2_1 : m8 201 = .long r8.2.2.2.2.2.1 := hp8_x2_1
      have w_x5_0 : m8 500 = .int r8.2.2.2.2.2.2.1 := hp8_x5_0
      have w_x5_1 : m8 501 = .long r8.2.2.2.2.2.2.2.1 := hp8_x5_1
      have hoff := offm hoff ho8 (by decide +kernel)
      have hsh := SH.off hsh ho8 (by decide +kernel)
      have w_A1 : a8 1 = (8, .inl r8.2.2.2.2.2.2.2.2) := hp8_A1
      have hoffa := offm hoffa hoa8 (by decide +kernel)
      refine lv_pop hx hb dX11_doStep_149 rfl ?_
      refine lv_iconst (v := 1) hx hb dX11_doStep_150 (by decide) ?_
      have hs0 := Option.some.inj hs0
      subst hs0
      exact W.zret hx hb hr rfl (fun t ht hw => ⟨⟨_, (m8, a8), rfl, ⟨rfl, w_x0_8, w_x0_9, w_x0_10, w_x2_0, w_x2_1, w_x5_0, w_x5_1, hoff, w_A1, hoffa⟩, g_end hW ht hw⟩, hS.F ht⟩) hS.2.2 dX11_doStep_151 hlocks
    · rw [if_pos c6] at hs0
      refine lv_iconst (v := 0) hx hb dX11_doStep_135 (by decide) ?_
      have hs0 := Option.some.inj hs0
      subst hs0
      exact W.zret hx hb hr rfl (fun t ht hw => ⟨⟨_, (m0, a0), rfl, ⟨rfl, h_x0_8, h_x0_9, h_x0_10, h_x2_0, h_x2_1, h_x5_0, h_x5_1, hoff, h_A1, hoffa⟩, g_end hW ht hw⟩, hS.F ht⟩) hS.2.2 dX11_doStep_136 hlocks
  · rw [if_pos c4] at hs0
    refine lv_aload_n hx hb dX11_doStep_43 rfl (lv_at hl 3 rfl) ?_
    refine gf11_7 hx hb hG hown hW (o := 0) (ltN hN 0 rfl) gk0 (v := .ref (q kr)) ((hoff 7 rfl).trans hrf) gx40 dX11_doStep_44 ?_
    refine lv_aload_n hx hb dX11_doStep_47 rfl (lv_at hl 3 rfl) ?_
    refine gf11_8 hx hb hG hown hW (o := 0) (ltN hN 0 rfl) gk0 (v := .long x0_8) h_x0_8 gx41 dX11_doStep_48 ?_
    obtain ⟨r9, hf9, hs0⟩ := obind hs0
    refine g_ViR (n := 1) hx hb hml hown hG hW hS [.long x0_8] (kX7_firstPacket hN hkr hgk ((off_kr hoff hgk 1 rfl (by decide)).trans h_xkr_1) F x0_8 hf9) hkr hgk (by decide) rfl rfl (gd_V gx1296 gx1297 gx1298 gx39 gx1299) rfl rfl (by decide) ⟨Nat.le_of_ble_eq_true rfl, Nat.le_of_ble_eq_true rfl⟩ rfl hl (Nat.le_of_ble_eq_true rfl) ⟨Nat.zero_le _, Nat.zero_le _⟩ dX11_doStep_51 (fun H locs hW hS => ?_)
    refine lv_istore (lv' := [(6, .int r9), (5, .int (cAt 64 A17 p1)), (4, .int (cAt 64 A15 p1)), (3, .int (cAt 64 A13 p1)), (0, .ref (q 0)), (1, .int p1), (2, .int p2)]) hx hb dX11_doStep_54 hl (by decide) rfl (fun ls hl => ?_)
    refine lv_iconst (v := 0) hx hb dX11_doStep_56 (by decide) ?_
    refine lv_istore (lv' := [(7, .int 0), (6, .int r9), (5, .int (cAt 64 A17 p1)), (4, .int (cAt 64 A15 p1)), (3, .int (cAt 64 A13 p1)), (0, .ref (q 0)), (1, .int p1), (2, .int p2)]) hx hb dX11_doStep_57 hl (by decide) rfl (fun ls hl => ?_)
    obtain ⟨r10, hg10, hs0⟩ := obind hs0
    have hE1_114 : ∀ (t10_114 : Int64 × Int32 × Int32 × Int32 × Int64 × Int32 × Int64 × (Nat → Int32)) (hr10 : t10_114 = r10) (m : Nat → Value) (a : Nat → vp_A) (H : Heap) (locs : List Loc) (w_x0_8 : m 8 = .long t10_114.1) (w_x0_9 : m 9 = .int t10_114.2.1) (w_x0_10 : m 10 = .int t10_114.2.2.1) (w_x2_0 : m 200 = .int t10_114.2.2.2.1) (w_x2_1 : m 201 = .long t10_114.2.2.2.2.1) (w_x5_0 : m 500 = .int t10_114.2.2.2.2.2.1) (w_x5_1 : m 501 = .long t10_114.2.2.2.2.2.2.1) (hoff : ∀ j, nel j [8, 9, 10, 200, 201, 500, 501] = false → m j = m0 j) (hsh : SH q m) (w_A1 : a 1 = (8, .inl t10_114.2.2.2.2.2.2.2)) (hoffa : ∀ j, nel j [1] = false → a j = a0 j) (ls : Array Slot) (hl : lv_has ls 8 []) (hW : GW D cy (gA N q s.heap.size) N q m a s H) (hS : va_S (gA N q s.heap.size) s.heap H locs), W p l e ({ frames := 5, cells := 0, slots := 0, locals := 123 } : Room) s M args below meth c H locs 0 0 (MQ below (va_Qi (fun (r : Int32) (u : (Nat → Value) × (Nat → vp_A)) => r = X0.1 ∧ u.1 8 = .long X0.2.1 ∧ u.1 9 = .int X0.2.2.1 ∧ u.1 10 = .int X0.2.2.2.1 ∧ u.1 200 = .int X0.2.2.2.2.1 ∧ u.1 201 = .long X0.2.2.2.2.2.1 ∧ u.1 500 = .int X0.2.2.2.2.2.2.1 ∧ u.1 501 = .long X0.2.2.2.2.2.2.2.1 ∧ (∀ j, nel j [8, 9, 10, 200, 201, 500, 501] = false → u.1 j = m0 j) ∧ u.2 1 = (8, .inl X0.2.2.2.2.2.2.2.2) ∧ (∀ j, nel j [1] = false → u.2 j = a0 j)) (gB D cy N q s.heap.size) (gA N q s.heap.size)) args s 0 0 (gA N q s.heap.size)) (F0 M 114 ls []) := by
      intro t10_114 hr10 m a H locs w_x0_8 w_x0_9 w_x0_10 w_x2_0 w_x2_1 w_x5_0 w_x5_1 hoff hsh w_A1 hoffa ls hl hW hS
      subst hr10
      refine lv_iconst (v := 1) hx hb dX11_doStep_114 (by decide) ?_
      have hs0 := Option.some.inj hs0
      subst hs0
      exact W.zret hx hb hr rfl (fun t ht hw => ⟨⟨_, (m, a), rfl, ⟨rfl, w_x0_8, w_x0_9, w_x0_10, w_x2_0, w_x2_1, w_x5_0, w_x5_1, hoff, w_A1, hoffa⟩, g_end hW ht hw⟩, hS.F ht⟩) hS.2.2 dX11_doStep_115 hlocks
    have hL1 : ∀ (n : Nat) (v6k10 : Int32) (v7k10 : Int32) (x0_8k10 : Int64) (x0_9k10 : Int32) (x0_10k10 : Int32) (x2_0k10 : Int32) (x2_1k10 : Int64) (x5_0k10 : Int32) (x5_1k10 : Int64) (A1k10 : Nat → Int32) (m : Nat → Value) (a : Nat → vp_A) (H : Heap) (locs : List Loc) (w_x0_8 : m 8 = .long x0_8k10) (w_x0_9 : m 9 = .int x0_9k10) (w_x0_10 : m 10 = .int x0_10k10) (w_x2_0 : m 200 = .int x2_0k10) (w_x2_1 : m 201 = .long x2_1k10) (w_x5_0 : m 500 = .int x5_0k10) (w_x5_1 : m 501 = .long x5_1k10) (hoff : ∀ j, nel j [8, 9, 10, 200, 201, 500, 501] = false → m j = m0 j) (hsh : SH q m) (w_A1 : a 1 = (8, .inl A1k10)) (hoffa : ∀ j, nel j [1] = false → a j = a0 j) (ls : Array Slot) (hl : lv_has ls 8 [(0, .ref (q 0)), (2, .int p2), (4, .int (cAt 64 A15 p1)), (6, .int v6k10), (7, .int v7k10)]) (hg10 : gloop (fun u10 : (Int32 × Int32 × Int64 × Int32 × Int32 × Int32 × Int64 × Int32 × Int64 × (Nat → Int32)) => fX11_doStep_S59 F xkr_0 xkr_1 xkr_2 xkr_3 A13 A15 A17 p2 (cAt 64 A15 p1) u10.1 u10.2.1 u10.2.2.1 u10.2.2.2.1 u10.2.2.2.2.1 u10.2.2.2.2.2.1 u10.2.2.2.2.2.2.1 u10.2.2.2.2.2.2.2.1 u10.2.2.2.2.2.2.2.2.1 u10.2.2.2.2.2.2.2.2.2) n (v6k10, v7k10, x0_8k10, x0_9k10, x0_10k10, x2_0k10, x2_1k10, x5_0k10, x5_1k10, A1k10) = some r10) (hW : GW D cy (gA N q s.heap.size) N q m a s H) (hS : va_S (gA N q s.heap.size) s.heap H locs), W p l e ({ frames := 5, cells := 0, slots := 0, locals := 123 } : Room) s M args below meth c H locs 0 0 (MQ below (va_Qi (fun (r : Int32) (u : (Nat → Value) × (Nat → vp_A)) => r = X0.1 ∧ u.1 8 = .long X0.2.1 ∧ u.1 9 = .int X0.2.2.1 ∧ u.1 10 = .int X0.2.2.2.1 ∧ u.1 200 = .int X0.2.2.2.2.1 ∧ u.1 201 = .long X0.2.2.2.2.2.1 ∧ u.1 500 = .int X0.2.2.2.2.2.2.1 ∧ u.1 501 = .long X0.2.2.2.2.2.2.2.1 ∧ (∀ j, nel j [8, 9, 10, 200, 201, 500, 501] = false → u.1 j = m0 j) ∧ u.2 1 = (8, .inl X0.2.2.2.2.2.2.2.2) ∧ (∀ j, nel j [1] = false → u.2 j = a0 j)) (gB D cy N q s.heap.size) (gA N q s.heap.size)) args s 0 0 (gA N q s.heap.size)) (F0 M 59 ls []) := by
      intro n
      induction n with
      | zero => intro v6k10 v7k10 x0_8k10 x0_9k10 x0_10k10 x2_0k10 x2_1k10 x5_0k10 x5_1k10 A1k10 m a H locs w_x0_8 w_x0_9 w_x0_10 w_x2_0 w_x2_1 w_x5_0 w_x5_1 hoff hsh w_A1 hoffa ls hl hg10 hW hS; exact (gl_zero hg10).elim
      | succ n ih1 =>
        intro v6k10 v7k10 x0_8k10 x0_9k10 x0_10k10 x2_0k10 x2_1k10 x5_0k10 x5_1k10 A1k10 m a H locs w_x0_8 w_x0_9 w_x0_10 w_x2_0 w_x2_1 w_x5_0 w_x5_1 hoff hsh w_A1 hoffa ls hl hg10 hW hS
        obtain ⟨X1, hs1, hXl1, hXr1⟩ := gl_succ hg10
        have hs1 : fX11_doStep_S59 F xkr_0 xkr_1 xkr_2 xkr_3 A13 A15 A17 p2 (cAt 64 A15 p1) v6k10 v7k10 x0_8k10 x0_9k10 x0_10k10 x2_0k10 x2_1k10 x5_0k10 x5_1k10 A1k10 = some X1 := hs1
        unfold fX11_doStep_S59 at hs1
        refine lv_iload hx hb dX11_doStep_59 (lv_at hl 4 rfl) ?_
        refine lv_iload hx hb dX11_doStep_61 (lv_at hl 2 rfl) ?_
        refine lv_icmp_ge (tgt := 114) hx hb dX11_doStep_63 (by decide) (fun c17 => ?_) (fun c17 => ?_)
        · rw [if_pos c17] at hs1
          exact hE1_114 (x0_8k10, x0_9k10, x0_10k10, x2_0k10, x2_1k10, x5_0k10, x5_1k10, A1k10) (hXl1 _ (Option.some.inj hs1).symm) m a _ _ w_x0_8 w_x0_9 w_x0_10 w_x2_0 w_x2_1 w_x5_0 w_x5_1 hoff hsh w_A1 hoffa ls (lv_sub hl [] rfl) hW hS
        · rw [if_neg c17] at hs1
          refine lv_iload hx hb dX11_doStep_66 (lv_at hl 4 rfl) ?_
          refine lv_iload_n hx hb dX11_doStep_68 rfl (lv_at hl 1 rfl) ?_
          refine lv_icmp_ge (tgt := 114) hx hb dX11_doStep_69 (by decide) (fun c18 => ?_) (fun c18 => ?_)
          · rw [if_pos c18] at hs1
            exact hE1_114 (x0_8k10, x0_9k10, x0_10k10, x2_0k10, x2_1k10, x5_0k10, x5_1k10, A1k10) (hXl1 _ (Option.some.inj hs1).symm) m a _ _ w_x0_8 w_x0_9 w_x0_10 w_x2_0 w_x2_1 w_x5_0 w_x5_1 hoff hsh w_A1 hoffa ls (lv_sub hl [] rfl) hW hS
          · rw [if_neg c18] at hs1
            refine lv_iload hx hb dX11_doStep_72 (lv_at hl 3 rfl) ?_
            refine lv_iconst (v := (-1)) hx hb dX11_doStep_74 (by decide) ?_
            refine lv_icmp_eq (tgt := 114) hx hb dX11_doStep_75 (by decide) (fun c19 => ?_) (fun c19 => ?_)
            · rw [if_pos c19] at hs1
              exact hE1_114 (x0_8k10, x0_9k10, x0_10k10, x2_0k10, x2_1k10, x5_0k10, x5_1k10, A1k10) (hXl1 _ (Option.some.inj hs1).symm) m a _ _ w_x0_8 w_x0_9 w_x0_10 w_x2_0 w_x2_1 w_x5_0 w_x5_1 hoff hsh w_A1 hoffa ls (lv_sub hl [] rfl) hW hS
            · rw [if_neg c19] at hs1
              refine lv_aload_n hx hb dX11_doStep_78 rfl (lv_at hl 0 rfl) ?_
              refine lv_iconst (v := 3) hx hb dX11_doStep_79 (by decide) ?_
              refine lv_iload hx hb dX11_doStep_80 (lv_at hl 3 rfl) ?_
              refine lv_iconst (v := 1) hx hb dX11_doStep_82 (by decide) ?_
              refine lv_ishr hx hb dX11_doStep_83 ?_
              refine lv_iload hx hb dX11_doStep_84 (lv_at hl 3 rfl) ?_
              refine lv_iconst (v := 1) hx hb dX11_doStep_86 (by decide) ?_
              refine lv_iand hx hb dX11_doStep_87 ?_
              refine g_SiR (n := 3) hx hb hml hown hG hW hS [.int 3, .int (v6k10 >>> (1 &&& 31)), .int (v6k10 &&& (1 : Int32))] (kX0_codeOf hN 3 (v6k10 >>> (1 &&& 31)) (v6k10 &&& (1 : Int32))) rfl (gd_S gx406 gx407 gx23 gx408) rfl rfl (by decide) ⟨Nat.le_of_ble_eq_true rfl, Nat.le_of_ble_eq_true rfl⟩ rfl hl (Nat.le_of_ble_eq_true rfl) ⟨Nat.zero_le _, Nat.zero_le _⟩ dX11_doStep_88 (fun H locs hW hS => ?_)
              obtain ⟨r21, hf21, hs1⟩ := obind hs1
              refine g_Vi (n := 1) hx hb hml hown hG hW hS [.int (fX0_codeOf 3 (v6k10 >>> (1 &&& 31)) (v6k10 &&& (1 : Int32)))] (kX11_perform hN hsh hkr hgk ((hoff 7 rfl).trans hrf) ((off_kr hoff hgk 0 rfl (by decide)).trans h_xkr_0) ((off_kr hoff hgk 1 rfl (by decide)).trans h_xkr_1) ((off_kr hoff hgk 2 rfl (by decide)).trans h_xkr_2) ((off_kr hoff hgk 3 rfl (by decide)).trans h_xkr_3) w_x0_8 w_x0_9 w_x0_10 w_x2_0 w_x2_1 w_x5_0 w_x5_1 w_A1 (fX0_codeOf 3 (v6k10 >>> (1 &&& 31)) (v6k10 &&& (1 : Int32))) hf21) (ltN hN 0 rfl) gk0 (by decide) rfl rfl (gd_V gx409 gx410 gx411 gx2 gx412) rfl rfl (by decide) ⟨Nat.le_of_ble_eq_true rfl, Nat.le_of_ble_eq_true rfl⟩ rfl hl (Nat.le_of_ble_eq_true rfl) ⟨Nat.zero_le _, Nat.zero_le _⟩ dX11_doStep_91 (fun x21 m21 a21 H locs hp21 hW hS => ?_)
              obtain ⟨hx21, hp21_x0_8, hp21_x0_9, hp21_x0_10, hp21_x2_0, hp21_x2_1, hp21_x5_0, hp21_x5_1, ho21, hp21_A1, hoa21⟩ := hp21
              subst hx21
              have w_x0_8 : m21 8 = .long r21.2.1 := hp21_x0_8
              have w_x0_9 : m21 9 = .int r21.2.2.1 := hp21_x0_9
              have w_x0_10 : m21 10 = .int r21.2.2.2.1 := hp21_x0_10
              have w_x2_0 : m21 200 = .int r21.2.2.2.2.1 := hp21_x2_0
              have w_x2_1 : m21 201 = .long r21.2.2.2.2.2.1 := hp21_x2_1
              have w_x5_0 : m21 500 = .int r21.2.2.2.2.2.2.1 := hp21_x5_0
              have w_x5_1 : m21 501 = .long r21.2.2.2.2.2.2.2.1 := hp21_x5_1
              have hoff := offm hoff ho21 (by decide +kernel)
              have hsh := SH.off hsh ho21 (by decide +kernel)
              have w_A1 : a21 1 = (8, .inl r21.2.2.2.2.2.2.2.2) := hp21_A1
              have hoffa := offm hoffa hoa21 (by decide +kernel)
              refine lv_pop hx hb dX11_doStep_94 rfl ?_
              refine lv_aload_n hx hb dX11_doStep_95 rfl (lv_at hl 0 rfl) ?_
              refine gf11_7 hx hb hG hown hW (o := 0) (ltN hN 0 rfl) gk0 (v := .ref (q kr)) ((hoff 7 rfl).trans hrf) gx40 dX11_doStep_96 ?_
              refine lv_aload_n hx hb dX11_doStep_99 rfl (lv_at hl 0 rfl) ?_
              refine gf11_8 hx hb hG hown hW (o := 0) (ltN hN 0 rfl) gk0 (v := .long r21.2.1) w_x0_8 gx41 dX11_doStep_100 ?_
              obtain ⟨r22, hf22, hs1⟩ := obind hs1
              refine g_ViR (n := 1) hx hb hml hown hG hW hS [.long r21.2.1] (kX7_firstPacket hN hkr hgk ((off_kr hoff hgk 1 rfl (by decide)).trans h_xkr_1) F r21.2.1 hf22) hkr hgk (by decide) rfl rfl (gd_V gx1296 gx1297 gx1298 gx39 gx1299) rfl rfl (by decide) ⟨Nat.le_of_ble_eq_true rfl, Nat.le_of_ble_eq_true rfl⟩ rfl hl (Nat.le_of_ble_eq_true rfl) ⟨Nat.zero_le _, Nat.zero_le _⟩ dX11_doStep_103 (fun H locs hW hS => ?_)
              refine lv_istore (lv' := [(6, .int r22), (0, .ref (q 0)), (2, .int p2), (4, .int (cAt 64 A15 p1)), (7, .int v7k10)]) hx hb dX11_doStep_106 hl (by decide) rfl (fun ls hl => ?_)
              refine lv_iinc (v := v7k10 + 1) (lv' := [(7, .int (v7k10 + 1)), (6, .int r22), (0, .ref (q 0)), (2, .int p2), (4, .int (cAt 64 A15 p1))]) hx hb dX11_doStep_108 hl (k := 4) rfl rfl (by decide) rfl (fun ls hl => ?_)
              refine lv_goto (tgt := 59) hx hb dX11_doStep_111 (by decide) ?_
              exact ih1 r22 (v7k10 + 1) r21.2.1 r21.2.2.1 r21.2.2.2.1 r21.2.2.2.2.1 r21.2.2.2.2.2.1 r21.2.2.2.2.2.2.1 r21.2.2.2.2.2.2.2.1 r21.2.2.2.2.2.2.2.2 m21 a21 _ _ w_x0_8 w_x0_9 w_x0_10 w_x2_0 w_x2_1 w_x5_0 w_x5_1 hoff hsh w_A1 hoffa ls (lv_sub hl [2, 3, 4, 1, 0] rfl) (hXr1 _ (Option.some.inj hs1).symm) hW hS
    exact hL1 F r9 0 x0_8 x0_9 x0_10 x2_0 x2_1 x5_0 x5_1 A1 m0 a0 _ _ h_x0_8 h_x0_9 h_x0_10 h_x2_0 h_x2_1 h_x5_0 h_x5_1 hoff hsh h_A1 hoffa ls (lv_sub hl [5, 7, 3, 1, 0] rfl) hg10 hW hS
-- HealLink.carryOut ()I
def fX11_carryOut_J84 (F : Nat) (x11_6 : Int32) (xkr_0 : Int32) (xkr_1 : Int32) (xkr_2 : Int32) (xkr_3 : Int32) (A13 : Nat → Int32) (A15 : Nat → Int32) (A17 : Nat → Int32) (v1 : Int32) (v3j11 : Int32) (s0j11 : Int32) (x0_8j11 : Int64) (x0_9j11 : Int32) (x0_10j11 : Int32) (x2_0j11 : Int32) (x2_1j11 : Int64) (x5_0j11 : Int32) (x5_1j11 : Int64) (x11_7j11 : Int32) (x11_8j11 : Int32) (A1j11 : Nat → Int32) (A21j11 : Nat → Int32) (A23j11 : Nat → Int32) : Option ((Int64 × Int32 × Int32 × Int32 × Int64 × Int32 × Int64 × Int32 × Int32 × (Nat → Int32) × (Nat → Int32) × (Nat → Int32)) ⊕ (Int32 × Int32 × Int64 × Int32 × Int32 × Int32 × Int64 × Int32 × Int64 × Int32 × Int32 × (Nat → Int32) × (Nat → Int32) × (Nat → Int32))) := some (Sum.inr (s0j11, v3j11 + 1, x0_8j11, x0_9j11, x0_10j11, x2_0j11, x2_1j11, x5_0j11, x5_1j11, x11_7j11, x11_8j11, A1j11, A21j11, A23j11))
def fX11_carryOut_J83 (F : Nat) (x11_6 : Int32) (xkr_0 : Int32) (xkr_1 : Int32) (xkr_2 : Int32) (xkr_3 : Int32) (A13 : Nat → Int32) (A15 : Nat → Int32) (A17 : Nat → Int32) (v1 : Int32) (v3j7 : Int32) (x0_8j7 : Int64) (x0_9j7 : Int32) (x0_10j7 : Int32) (x2_0j7 : Int32) (x2_1j7 : Int64) (x5_0j7 : Int32) (x5_1j7 : Int64) (x11_7j7 : Int32) (x11_8j7 : Int32) (A1j7 : Nat → Int32) (A21j7 : Nat → Int32) (A23j7 : Nat → Int32) : Option ((Int64 × Int32 × Int32 × Int32 × Int64 × Int32 × Int64 × Int32 × Int32 × (Nat → Int32) × (Nat → Int32) × (Nat → Int32)) ⊕ (Int32 × Int32 × Int64 × Int32 × Int32 × Int32 × Int64 × Int32 × Int64 × Int32 × Int32 × (Nat → Int32) × (Nat → Int32) × (Nat → Int32))) := fX11_carryOut_J84 F x11_6 xkr_0 xkr_1 xkr_2 xkr_3 A13 A15 A17 v1 v3j7 0 x0_8j7 x0_9j7 x0_10j7 x2_0j7 x2_1j7 x5_0j7 x5_1j7 x11_7j7 x11_8j7 A1j7 A21j7 A23j7
def fX11_carryOut_S18 (F : Nat) (x11_6 : Int32) (xkr_0 : Int32) (xkr_1 : Int32) (xkr_2 : Int32) (xkr_3 : Int32) (A13 : Nat → Int32) (A15 : Nat → Int32) (A17 : Nat → Int32) (v1 : Int32) (v2 : Int32) (v3 : Int32) (x0_8 : Int64) (x0_9 : Int32) (x0_10 : Int32) (x2_0 : Int32) (x2_1 : Int64) (x5_0 : Int32) (x5_1 : Int64) (x11_7 : Int32) (x11_8 : Int32) (A1 : Nat → Int32) (A21 : Nat → Int32) (A23 : Nat → Int32) : Option ((Int64 × Int32 × Int32 × Int32 × Int64 × Int32 × Int64 × Int32 × Int32 × (Nat → Int32) × (Nat → Int32) × (Nat → Int32)) ⊕ (Int32 × Int32 × Int64 × Int32 × Int32 × Int32 × Int64 × Int32 × Int64 × Int32 × Int32 × (Nat → Int32) × (Nat → Int32) × (Nat → Int32))) := (if 1000000 ≤ v3 then some (Sum.inl (x0_8, x0_9, x0_10, x2_0, x2_1, x5_0, x5_1, x11_7, x11_8, A1, A21, A23)) else (if v2 = 0 then some (Sum.inl (x0_8, x0_9, x0_10, x2_0, x2_1, x5_0, x5_1, x11_7, x11_8, A1, A21, A23)) else ((fX8_next F x11_6 A13 A15 A17 x11_7 x11_8 A21 A23 ((A1 (0 : Int32).toNatClampNeg) - v1)).bind (fun r5 => (if 600 ≤ ((A1 (0 : Int32).toNatClampNeg) - v1) then fX11_carryOut_J83 F x11_6 xkr_0 xkr_1 xkr_2 xkr_3 A13 A15 A17 v1 v3 x0_8 x0_9 x0_10 x2_0 x2_1 x5_0 x5_1 r5.2.1 r5.2.2.1 A1 r5.2.2.2.1 r5.2.2.2.2 else (if r5.1 = (-1) then fX11_carryOut_J83 F x11_6 xkr_0 xkr_1 xkr_2 xkr_3 A13 A15 A17 v1 v3 x0_8 x0_9 x0_10 x2_0 x2_1 x5_0 x5_1 r5.2.1 r5.2.2.1 A1 r5.2.2.2.1 r5.2.2.2.2 else ((fX11_doStep F xkr_0 xkr_1 xkr_2 xkr_3 A13 A15 A17 x0_8 x0_9 x0_10 x2_0 x2_1 x5_0 x5_1 A1 r5.1 (600 - ((A1 (0 : Int32).toNatClampNeg) - v1))).bind (fun r9 => (if r9.1 = 0 then fX11_carryOut_J83 F x11_6 xkr_0 xkr_1 xkr_2 xkr_3 A13 A15 A17 v1 v3 r9.2.1 r9.2.2.1 r9.2.2.2.1 r9.2.2.2.2.1 r9.2.2.2.2.2.1 r9.2.2.2.2.2.2.1 r9.2.2.2.2.2.2.2.1 r5.2.1 r5.2.2.1 r9.2.2.2.2.2.2.2.2 r5.2.2.2.1 r5.2.2.2.2 else fX11_carryOut_J84 F x11_6 xkr_0 xkr_1 xkr_2 xkr_3 A13 A15 A17 v1 v3 1 r9.2.1 r9.2.2.1 r9.2.2.2.1 r9.2.2.2.2.1 r9.2.2.2.2.2.1 r9.2.2.2.2.2.2.1 r9.2.2.2.2.2.2.2.1 r5.2.1 r5.2.2.1 r9.2.2.2.2.2.2.2.2 r5.2.2.2.1 r5.2.2.2.2)))))))))
def fX11_carryOut_J91 (F : Nat) (x11_6 : Int32) (xkr_0 : Int32) (xkr_1 : Int32) (xkr_2 : Int32) (xkr_3 : Int32) (A13 : Nat → Int32) (A15 : Nat → Int32) (A17 : Nat → Int32) (v1j12 : Int32) (x0_8j12 : Int64) (x0_9j12 : Int32) (x0_10j12 : Int32) (x2_0j12 : Int32) (x2_1j12 : Int64) (x5_0j12 : Int32) (x5_1j12 : Int64) (x11_7j12 : Int32) (x11_8j12 : Int32) (A1j12 : Nat → Int32) (A21j12 : Nat → Int32) (A23j12 : Nat → Int32) : Option (Int32 × Int64 × Int32 × Int32 × Int32 × Int64 × Int32 × Int64 × Int32 × Int32 × (Nat → Int32) × (Nat → Int32) × (Nat → Int32)) := some ((A1j12 (0 : Int32).toNatClampNeg) - v1j12, x0_8j12, x0_9j12, x0_10j12, x2_0j12, x2_1j12, x5_0j12, x5_1j12, x11_7j12, x11_8j12, A1j12, A21j12, A23j12)
def fX11_carryOut (F : Nat) (x11_6 : Int32) (xkr_0 : Int32) (xkr_1 : Int32) (xkr_2 : Int32) (xkr_3 : Int32) (A13 : Nat → Int32) (A15 : Nat → Int32) (A17 : Nat → Int32) (x0_8 : Int64) (x0_9 : Int32) (x0_10 : Int32) (x2_0 : Int32) (x2_1 : Int64) (x5_0 : Int32) (x5_1 : Int64) (x11_7 : Int32) (x11_8 : Int32) (A1 : Nat → Int32) (A21 : Nat → Int32) (A23 : Nat → Int32) : Option (Int32 × Int64 × Int32 × Int32 × Int32 × Int64 × Int32 × Int64 × Int32 × Int32 × (Nat → Int32) × (Nat → Int32) × (Nat → Int32)) := (gloop (fun u2 : (Int32 × Int32 × Int64 × Int32 × Int32 × Int32 × Int64 × Int32 × Int64 × Int32 × Int32 × (Nat → Int32) × (Nat → Int32) × (Nat → Int32)) => fX11_carryOut_S18 F x11_6 xkr_0 xkr_1 xkr_2 xkr_3 A13 A15 A17 (A1 (0 : Int32).toNatClampNeg) u2.1 u2.2.1 u2.2.2.1 u2.2.2.2.1 u2.2.2.2.2.1 u2.2.2.2.2.2.1 u2.2.2.2.2.2.2.1 u2.2.2.2.2.2.2.2.1 u2.2.2.2.2.2.2.2.2.1 u2.2.2.2.2.2.2.2.2.2.1 u2.2.2.2.2.2.2.2.2.2.2.1 u2.2.2.2.2.2.2.2.2.2.2.2.1 u2.2.2.2.2.2.2.2.2.2.2.2.2.1 u2.2.2.2.2.2.2.2.2.2.2.2.2.2) F (1, 0, x0_8, x0_9, x0_10, x2_0, x2_1, x5_0, x5_1, (fX8_rewind x11_7 x11_8).1, (fX8_rewind x11_7 x11_8).2, A1, A21, A23)).bind (fun t2_91 => fX11_carryOut_J91 F x11_6 xkr_0 xkr_1 xkr_2 xkr_3 A13 A15 A17 (A1 (0 : Int32).toNatClampNeg) t2_91.1 t2_91.2.1 t2_91.2.2.1 t2_91.2.2.2.1 t2_91.2.2.2.2.1 t2_91.2.2.2.2.2.1 t2_91.2.2.2.2.2.2.1 t2_91.2.2.2.2.2.2.2.1 t2_91.2.2.2.2.2.2.2.2.1 t2_91.2.2.2.2.2.2.2.2.2.1 t2_91.2.2.2.2.2.2.2.2.2.2.1 t2_91.2.2.2.2.2.2.2.2.2.2.2)
theorem dX11_carryOut_0 : decode cX11_carryOut 0 = .ok (.aload_n 0, 1) := by decide +kernel
theorem dX11_carryOut_1 : decode cX11_carryOut 1 = .ok (.getfield 7, 3) := by decide +kernel
theorem dX11_carryOut_4 : decode cX11_carryOut 4 = .ok (.iconst 0, 1) := by decide +kernel
theorem dX11_carryOut_5 : decode cX11_carryOut 5 = .ok (.iaload, 1) := by decide +kernel
theorem dX11_carryOut_6 : decode cX11_carryOut 6 = .ok (.istore_n 1, 1) := by decide +kernel
theorem dX11_carryOut_7 : decode cX11_carryOut 7 = .ok (.aload_n 0, 1) := by decide +kernel
theorem dX11_carryOut_8 : decode cX11_carryOut 8 = .ok (.getfield 33, 3) := by decide +kernel
theorem dX11_carryOut_11 : decode cX11_carryOut 11 = .ok (.invokevirtual 328, 3) := by decide +kernel
theorem dX11_carryOut_14 : decode cX11_carryOut 14 = .ok (.iconst 1, 1) := by decide +kernel
theorem dX11_carryOut_15 : decode cX11_carryOut 15 = .ok (.istore_n 2, 1) := by decide +kernel
theorem dX11_carryOut_16 : decode cX11_carryOut 16 = .ok (.iconst 0, 1) := by decide +kernel
theorem dX11_carryOut_17 : decode cX11_carryOut 17 = .ok (.istore_n 3, 1) := by decide +kernel
theorem dX11_carryOut_18 : decode cX11_carryOut 18 = .ok (.iload_n 3, 1) := by decide +kernel
theorem dX11_carryOut_19 : decode cX11_carryOut 19 = .ok (.ldc_w 331, 3) := by decide +kernel
theorem dX11_carryOut_22 : decode cX11_carryOut 22 = .ok (.if_icmp .ge 69, 3) := by decide +kernel
theorem dX11_carryOut_25 : decode cX11_carryOut 25 = .ok (.iload_n 2, 1) := by decide +kernel
theorem dX11_carryOut_26 : decode cX11_carryOut 26 = .ok (.ifCond .eq 65, 3) := by decide +kernel
theorem dX11_carryOut_29 : decode cX11_carryOut 29 = .ok (.aload_n 0, 1) := by decide +kernel
theorem dX11_carryOut_30 : decode cX11_carryOut 30 = .ok (.getfield 7, 3) := by decide +kernel
theorem dX11_carryOut_33 : decode cX11_carryOut 33 = .ok (.iconst 0, 1) := by decide +kernel
theorem dX11_carryOut_34 : decode cX11_carryOut 34 = .ok (.iaload, 1) := by decide +kernel
theorem dX11_carryOut_35 : decode cX11_carryOut 35 = .ok (.iload_n 1, 1) := by decide +kernel
theorem dX11_carryOut_36 : decode cX11_carryOut 36 = .ok (.isub, 1) := by decide +kernel
theorem dX11_carryOut_37 : decode cX11_carryOut 37 = .ok (.istore 4, 2) := by decide +kernel
theorem dX11_carryOut_39 : decode cX11_carryOut 39 = .ok (.aload_n 0, 1) := by decide +kernel
theorem dX11_carryOut_40 : decode cX11_carryOut 40 = .ok (.getfield 33, 3) := by decide +kernel
theorem dX11_carryOut_43 : decode cX11_carryOut 43 = .ok (.iload 4, 2) := by decide +kernel
theorem dX11_carryOut_45 : decode cX11_carryOut 45 = .ok (.invokevirtual 332, 3) := by decide +kernel
theorem dX11_carryOut_48 : decode cX11_carryOut 48 = .ok (.istore 5, 2) := by decide +kernel
theorem dX11_carryOut_50 : decode cX11_carryOut 50 = .ok (.iload 4, 2) := by decide +kernel
theorem dX11_carryOut_52 : decode cX11_carryOut 52 = .ok (.sipush 600, 3) := by decide +kernel
theorem dX11_carryOut_55 : decode cX11_carryOut 55 = .ok (.if_icmp .ge 28, 3) := by decide +kernel
theorem dX11_carryOut_58 : decode cX11_carryOut 58 = .ok (.iload 5, 2) := by decide +kernel
theorem dX11_carryOut_60 : decode cX11_carryOut 60 = .ok (.iconst (-1), 1) := by decide +kernel
theorem dX11_carryOut_61 : decode cX11_carryOut 61 = .ok (.if_icmp .eq 22, 3) := by decide +kernel
theorem dX11_carryOut_64 : decode cX11_carryOut 64 = .ok (.aload_n 0, 1) := by decide +kernel
theorem dX11_carryOut_65 : decode cX11_carryOut 65 = .ok (.iload 5, 2) := by decide +kernel
theorem dX11_carryOut_67 : decode cX11_carryOut 67 = .ok (.sipush 600, 3) := by decide +kernel
theorem dX11_carryOut_70 : decode cX11_carryOut 70 = .ok (.iload 4, 2) := by decide +kernel
theorem dX11_carryOut_72 : decode cX11_carryOut 72 = .ok (.isub, 1) := by decide +kernel
theorem dX11_carryOut_73 : decode cX11_carryOut 73 = .ok (.invokevirtual 335, 3) := by decide +kernel
theorem dX11_carryOut_76 : decode cX11_carryOut 76 = .ok (.ifCond .eq 7, 3) := by decide +kernel
theorem dX11_carryOut_79 : decode cX11_carryOut 79 = .ok (.iconst 1, 1) := by decide +kernel
theorem dX11_carryOut_80 : decode cX11_carryOut 80 = .ok (.goto 4, 3) := by decide +kernel
theorem dX11_carryOut_83 : decode cX11_carryOut 83 = .ok (.iconst 0, 1) := by decide +kernel
theorem dX11_carryOut_84 : decode cX11_carryOut 84 = .ok (.istore_n 2, 1) := by decide +kernel
theorem dX11_carryOut_85 : decode cX11_carryOut 85 = .ok (.iinc 3 1, 3) := by decide +kernel
theorem dX11_carryOut_88 : decode cX11_carryOut 88 = .ok (.goto (-70), 3) := by decide +kernel
theorem dX11_carryOut_91 : decode cX11_carryOut 91 = .ok (.aload_n 0, 1) := by decide +kernel
theorem dX11_carryOut_92 : decode cX11_carryOut 92 = .ok (.getfield 7, 3) := by decide +kernel
theorem dX11_carryOut_95 : decode cX11_carryOut 95 = .ok (.iconst 0, 1) := by decide +kernel
theorem dX11_carryOut_96 : decode cX11_carryOut 96 = .ok (.iaload, 1) := by decide +kernel
theorem dX11_carryOut_97 : decode cX11_carryOut 97 = .ok (.iload_n 1, 1) := by decide +kernel
theorem dX11_carryOut_98 : decode cX11_carryOut 98 = .ok (.isub, 1) := by decide +kernel
theorem dX11_carryOut_99 : decode cX11_carryOut 99 = .ok (.ireturn, 1) := by decide +kernel
set_option maxHeartbeats 4000000 in
set_option maxRecDepth 100000 in
theorem kX11_carryOut {l : Launch} {D : va_G} {cy : Nat → ClassId} {N : Nat} {q : Nat → Nat} {m0 : Nat → Value} {a0 : Nat → vp_A} {sz : Nat} (hN : 105 ≤ N) (hsh : SH q m0) {kr : Nat} (hkr : kr < N) (hgk : gk kr = 7) (hrf : m0 7 = .ref (q kr)) {x11_6 : Int32} (h_x11_6 : m0 1106 = .int x11_6) {xkr_0 : Int32} (h_xkr_0 : m0 (100 * kr + 0) = .int xkr_0) {xkr_1 : Int32} (h_xkr_1 : m0 (100 * kr + 1) = .int xkr_1) {xkr_2 : Int32} (h_xkr_2 : m0 (100 * kr + 2) = .int xkr_2) {xkr_3 : Int32} (h_xkr_3 : m0 (100 * kr + 3) = .int xkr_3) {A13 : Nat → Int32} (h_A13 : a0 13 = (64, .inl A13)) {A15 : Nat → Int32} (h_A15 : a0 15 = (64, .inl A15)) {A17 : Nat → Int32} (h_A17 : a0 17 = (64, .inl A17)) {x0_8 : Int64} (h_x0_8 : m0 8 = .long x0_8) {x0_9 : Int32} (h_x0_9 : m0 9 = .int x0_9) {x0_10 : Int32} (h_x0_10 : m0 10 = .int x0_10) {x2_0 : Int32} (h_x2_0 : m0 200 = .int x2_0) {x2_1 : Int64} (h_x2_1 : m0 201 = .long x2_1) {x5_0 : Int32} (h_x5_0 : m0 500 = .int x5_0) {x5_1 : Int64} (h_x5_1 : m0 501 = .long x5_1) {x11_7 : Int32} (h_x11_7 : m0 1107 = .int x11_7) {x11_8 : Int32} (h_x11_8 : m0 1108 = .int x11_8) {A1 : Nat → Int32} (h_A1 : a0 1 = (8, .inl A1)) {A21 : Nat → Int32} (h_A21 : a0 21 = (4, .inl A21)) {A23 : Nat → Int32} (h_A23 : a0 23 = (4, .inl A23)) (F : Nat) {X0 : Int32 × Int64 × Int32 × Int32 × Int32 × Int64 × Int32 × Int64 × Int32 × Int32 × (Nat → Int32) × (Nat → Int32) × (Nat → Int32)} (hs0 : fX11_carryOut F x11_6 xkr_0 xkr_1 xkr_2 xkr_3 A13 A15 A17 x0_8 x0_9 x0_10 x2_0 x2_1 x5_0 x5_1 x11_7 x11_8 A1 A21 A23 = some X0) : gMi l yX11_carryOut cX11_carryOut 6 (some .int) ({ frames := 6, cells := 0, slots := 0, locals := 150 } : Room) D cy N q m0 a0 sz [.ref (q 0)] (fun r m' a' => r = X0.1 ∧ m' 8 = .long X0.2.1 ∧ m' 9 = .int X0.2.2.1 ∧ m' 10 = .int X0.2.2.2.1 ∧ m' 200 = .int X0.2.2.2.2.1 ∧ m' 201 = .long X0.2.2.2.2.2.1 ∧ m' 500 = .int X0.2.2.2.2.2.2.1 ∧ m' 501 = .long X0.2.2.2.2.2.2.2.1 ∧ m' 1107 = .int X0.2.2.2.2.2.2.2.2.1 ∧ m' 1108 = .int X0.2.2.2.2.2.2.2.2.2.1 ∧ (∀ j, nel j [8, 9, 10, 200, 201, 500, 501, 1107, 1108] = false → m' j = m0 j) ∧ a' 1 = (8, .inl X0.2.2.2.2.2.2.2.2.2.2.1) ∧ a' 21 = (4, .inl X0.2.2.2.2.2.2.2.2.2.2.2.1) ∧ a' 23 = (4, .inl X0.2.2.2.2.2.2.2.2.2.2.2.2) ∧ (∀ j, nel j [1, 21, 23] = false → a' j = a0 j)) := by
  refine g_ofi (by decide) (Nat.le_of_ble_eq_true rfl) ?_
  intro p e s M args below meth c hx hb hr hG hown hin hlocks hml hW hS ls hl
  unfold fX11_carryOut at hs0
  have hoff : ∀ j, nel j [8, 9, 10, 200, 201, 500, 501, 1107, 1108] = false → m0 j = m0 j := off0
  have hoffa : ∀ j, nel j [1, 21, 23] = false → a0 j = a0 j := off0
  have hJ91_0 : ∀ (v1j12 : Int32) (x0_8j12 : Int64) (x0_9j12 : Int32) (x0_10j12 : Int32) (x2_0j12 : Int32) (x2_1j12 : Int64) (x5_0j12 : Int32) (x5_1j12 : Int64) (x11_7j12 : Int32) (x11_8j12 : Int32) (A1j12 : Nat → Int32) (A21j12 : Nat → Int32) (A23j12 : Nat → Int32) (m : Nat → Value) (a : Nat → vp_A) (H : Heap) (locs : List Loc) (w_x0_8 : m 8 = .long x0_8j12) (w_x0_9 : m 9 = .int x0_9j12) (w_x0_10 : m 10 = .int x0_10j12) (w_x2_0 : m 200 = .int x2_0j12) (w_x2_1 : m 201 = .long x2_1j12) (w_x5_0 : m 500 = .int x5_0j12) (w_x5_1 : m 501 = .long x5_1j12) (w_x11_7 : m 1107 = .int x11_7j12) (w_x11_8 : m 1108 = .int x11_8j12) (hoff : ∀ j, nel j [8, 9, 10, 200, 201, 500, 501, 1107, 1108] = false → m j = m0 j) (hsh : SH q m) (w_A1 : a 1 = (8, .inl A1j12)) (w_A21 : a 21 = (4, .inl A21j12)) (w_A23 : a 23 = (4, .inl A23j12)) (hoffa : ∀ j, nel j [1, 21, 23] = false → a j = a0 j) (ls : Array Slot) (hl : lv_has ls 6 [(0, .ref (q 0)), (1, .int v1j12)]) (hs0 : fX11_carryOut_J91 F x11_6 xkr_0 xkr_1 xkr_2 xkr_3 A13 A15 A17 v1j12 x0_8j12 x0_9j12 x0_10j12 x2_0j12 x2_1j12 x5_0j12 x5_1j12 x11_7j12 x11_8j12 A1j12 A21j12 A23j12 = some X0) (hW : GW D cy (gA N q s.heap.size) N q m a s H) (hS : va_S (gA N q s.heap.size) s.heap H locs), W p l e ({ frames := 6, cells := 0, slots := 0, locals := 150 } : Room) s M args below meth c H locs 0 0 (MQ below (va_Qi (fun (r : Int32) (u : (Nat → Value) × (Nat → vp_A)) => r = X0.1 ∧ u.1 8 = .long X0.2.1 ∧ u.1 9 = .int X0.2.2.1 ∧ u.1 10 = .int X0.2.2.2.1 ∧ u.1 200 = .int X0.2.2.2.2.1 ∧ u.1 201 = .long X0.2.2.2.2.2.1 ∧ u.1 500 = .int X0.2.2.2.2.2.2.1 ∧ u.1 501 = .long X0.2.2.2.2.2.2.2.1 ∧ u.1 1107 = .int X0.2.2.2.2.2.2.2.2.1 ∧ u.1 1108 = .int X0.2.2.2.2.2.2.2.2.2.1 ∧ (∀ j, nel j [8, 9, 10, 200, 201, 500, 501, 1107, 1108] = false → u.1 j = m0 j) ∧ u.2 1 = (8, .inl X0.2.2.2.2.2.2.2.2.2.2.1) ∧ u.2 21 = (4, .inl X0.2.2.2.2.2.2.2.2.2.2.2.1) ∧ u.2 23 = (4, .inl X0.2.2.2.2.2.2.2.2.2.2.2.2) ∧ (∀ j, nel j [1, 21, 23] = false → u.2 j = a0 j)) (gB D cy N q s.heap.size) (gA N q s.heap.size)) args s 0 0 (gA N q s.heap.size)) (F0 M 91 ls []) := by
    intro v1j12 x0_8j12 x0_9j12 x0_10j12 x2_0j12 x2_1j12 x5_0j12 x5_1j12 x11_7j12 x11_8j12 A1j12 A21j12 A23j12 m a H locs w_x0_8 w_x0_9 w_x0_10 w_x2_0 w_x2_1 w_x5_0 w_x5_1 w_x11_7 w_x11_8 hoff hsh w_A1 w_A21 w_A23 hoffa ls hl hs0 hW hS
    unfold fX11_carryOut_J91 at hs0
    refine lv_aload_n hx hb dX11_carryOut_91 rfl (lv_at hl 0 rfl) ?_
    refine gf11_0 hx hb hG hown hW (o := 0) (ltN hN 0 rfl) gk0 (v := .ref (q 1)) (sh0_0 hsh) gx15 dX11_carryOut_92 ?_
    refine lv_iconst (v := 0) hx hb dX11_carryOut_95 (by decide) ?_
    refine g_iald hx hb hW (o := 1) (ltN hN 1 rfl) gk1 w_A1 (vin (by decide)) dX11_carryOut_96 ?_
    refine lv_iload_n hx hb dX11_carryOut_97 rfl (lv_at hl 1 rfl) ?_
    refine lv_isub hx hb dX11_carryOut_98 ?_
    have hs0 := Option.some.inj hs0
    subst hs0
    exact W.zret hx hb hr rfl (fun t ht hw => ⟨⟨_, (m, a), rfl, ⟨rfl, w_x0_8, w_x0_9, w_x0_10, w_x2_0, w_x2_1, w_x5_0, w_x5_1, w_x11_7, w_x11_8, hoff, w_A1, w_A21, w_A23, hoffa⟩, g_end hW ht hw⟩, hS.F ht⟩) hS.2.2 dX11_carryOut_99 hlocks
  refine lv_aload_n hx hb dX11_carryOut_0 rfl (lv_at hl 0 rfl) ?_
  refine gf11_0 hx hb hG hown hW (o := 0) (ltN hN 0 rfl) gk0 (v := .ref (q 1)) (sh0_0 hsh) gx15 dX11_carryOut_1 ?_
  refine lv_iconst (v := 0) hx hb dX11_carryOut_4 (by decide) ?_
  refine g_iald hx hb hW (o := 1) (ltN hN 1 rfl) gk1 h_A1 (vin (by decide)) dX11_carryOut_5 ?_
  refine lv_istore_n (lv' := [(1, .int (A1 (0 : Int32).toNatClampNeg)), (0, .ref (q 0))]) hx hb dX11_carryOut_6 rfl hl (by decide) rfl (fun ls hl => ?_)
  refine lv_aload_n hx hb dX11_carryOut_7 rfl (lv_at hl 1 rfl) ?_
  refine gf11_4 hx hb hG hown hW (o := 0) (ltN hN 0 rfl) gk0 (v := .ref (q 11)) (sh0_4 hsh) gx28 dX11_carryOut_8 ?_
  refine g_Vv (n := 0) hx hb hml hown hG hW hS [] (kX8_rewind hN hsh h_x11_7 h_x11_8) (ltN hN 11 rfl) gk11 (by decide) rfl rfl (gd_V gx1270 gx1271 gx1272 gx27 gx1273) rfl rfl (by decide) ⟨Nat.le_of_ble_eq_true rfl, Nat.le_of_ble_eq_true rfl⟩ rfl hl (Nat.le_of_ble_eq_true rfl) ⟨Nat.zero_le _, Nat.zero_le _⟩ dX11_carryOut_11 (fun m1 a1 H locs hp1 hW hS => ?_)
  obtain ⟨hp1_x11_7, hp1_x11_8, ho1, ha1⟩ := hp1
  rw [ha1] at hW
  have w_x0_8 : m1 8 = .long x0_8 := (ho1 8 rfl).trans h_x0_8
  have w_x0_9 : m1 9 = .int x0_9 := (ho1 9 rfl).trans h_x0_9
  have w_x0_10 : m1 10 = .int x0_10 := (ho1 10 rfl).trans h_x0_10
  have w_x2_0 : m1 200 = .int x2_0 := (ho1 200 rfl).trans h_x2_0
  have w_x2_1 : m1 201 = .long x2_1 := (ho1 201 rfl).trans h_x2_1
  have w_x5_0 : m1 500 = .int x5_0 := (ho1 500 rfl).trans h_x5_0
  have w_x5_1 : m1 501 = .long x5_1 := (ho1 501 rfl).trans h_x5_1
  have w_x11_7 : m1 1107 = .int ((fX8_rewind x11_7 x11_8).1) := hp1_x11_7
  have w_x11_8 : m1 1108 = .int ((fX8_rewind x11_7 x11_8).2) := hp1_x11_8
  have hoff := offm hoff ho1 (by decide +kernel)
  have hsh := SH.off hsh ho1 (by decide +kernel)
  refine lv_iconst (v := 1) hx hb dX11_carryOut_14 (by decide) ?_
  refine lv_istore_n (lv' := [(2, .int 1), (1, .int (A1 (0 : Int32).toNatClampNeg)), (0, .ref (q 0))]) hx hb dX11_carryOut_15 rfl hl (by decide) rfl (fun ls hl => ?_)
  refine lv_iconst (v := 0) hx hb dX11_carryOut_16 (by decide) ?_
  refine lv_istore_n (lv' := [(3, .int 0), (2, .int 1), (1, .int (A1 (0 : Int32).toNatClampNeg)), (0, .ref (q 0))]) hx hb dX11_carryOut_17 rfl hl (by decide) rfl (fun ls hl => ?_)
  obtain ⟨r2, hg2, hs0⟩ := obind hs0
  have hE1_91 : ∀ (t2_91 : Int64 × Int32 × Int32 × Int32 × Int64 × Int32 × Int64 × Int32 × Int32 × (Nat → Int32) × (Nat → Int32) × (Nat → Int32)) (hr2 : t2_91 = r2) (m : Nat → Value) (a : Nat → vp_A) (H : Heap) (locs : List Loc) (w_x0_8 : m 8 = .long t2_91.1) (w_x0_9 : m 9 = .int t2_91.2.1) (w_x0_10 : m 10 = .int t2_91.2.2.1) (w_x2_0 : m 200 = .int t2_91.2.2.2.1) (w_x2_1 : m 201 = .long t2_91.2.2.2.2.1) (w_x5_0 : m 500 = .int t2_91.2.2.2.2.2.1) (w_x5_1 : m 501 = .long t2_91.2.2.2.2.2.2.1) (w_x11_7 : m 1107 = .int t2_91.2.2.2.2.2.2.2.1) (w_x11_8 : m 1108 = .int t2_91.2.2.2.2.2.2.2.2.1) (hoff : ∀ j, nel j [8, 9, 10, 200, 201, 500, 501, 1107, 1108] = false → m j = m0 j) (hsh : SH q m) (w_A1 : a 1 = (8, .inl t2_91.2.2.2.2.2.2.2.2.2.1)) (w_A21 : a 21 = (4, .inl t2_91.2.2.2.2.2.2.2.2.2.2.1)) (w_A23 : a 23 = (4, .inl t2_91.2.2.2.2.2.2.2.2.2.2.2)) (hoffa : ∀ j, nel j [1, 21, 23] = false → a j = a0 j) (ls : Array Slot) (hl : lv_has ls 6 [(0, .ref (q 0)), (1, .int (A1 (0 : Int32).toNatClampNeg))]) (hW : GW D cy (gA N q s.heap.size) N q m a s H) (hS : va_S (gA N q s.heap.size) s.heap H locs), W p l e ({ frames := 6, cells := 0, slots := 0, locals := 150 } : Room) s M args below meth c H locs 0 0 (MQ below (va_Qi (fun (r : Int32) (u : (Nat → Value) × (Nat → vp_A)) => r = X0.1 ∧ u.1 8 = .long X0.2.1 ∧ u.1 9 = .int X0.2.2.1 ∧ u.1 10 = .int X0.2.2.2.1 ∧ u.1 200 = .int X0.2.2.2.2.1 ∧ u.1 201 = .long X0.2.2.2.2.2.1 ∧ u.1 500 = .int X0.2.2.2.2.2.2.1 ∧ u.1 501 = .long X0.2.2.2.2.2.2.2.1 ∧ u.1 1107 = .int X0.2.2.2.2.2.2.2.2.1 ∧ u.1 1108 = .int X0.2.2.2.2.2.2.2.2.2.1 ∧ (∀ j, nel j [8, 9, 10, 200, 201, 500, 501, 1107, 1108] = false → u.1 j = m0 j) ∧ u.2 1 = (8, .inl X0.2.2.2.2.2.2.2.2.2.2.1) ∧ u.2 21 = (4, .inl X0.2.2.2.2.2.2.2.2.2.2.2.1) ∧ u.2 23 = (4, .inl X0.2.2.2.2.2.2.2.2.2.2.2.2) ∧ (∀ j, nel j [1, 21, 23] = false → u.2 j = a0 j)) (gB D cy N q s.heap.size) (gA N q s.heap.size)) args s 0 0 (gA N q s.heap.size)) (F0 M 91 ls []) := by
    intro t2_91 hr2 m a H locs w_x0_8 w_x0_9 w_x0_10 w_x2_0 w_x2_1 w_x5_0 w_x5_1 w_x11_7 w_x11_8 hoff hsh w_A1 w_A21 w_A23 hoffa ls hl hW hS
    subst hr2
    exact hJ91_0 (A1 (0 : Int32).toNatClampNeg) t2_91.1 t2_91.2.1 t2_91.2.2.1 t2_91.2.2.2.1 t2_91.2.2.2.2.1 t2_91.2.2.2.2.2.1 t2_91.2.2.2.2.2.2.1 t2_91.2.2.2.2.2.2.2.1 t2_91.2.2.2.2.2.2.2.2.1 t2_91.2.2.2.2.2.2.2.2.2.1 t2_91.2.2.2.2.2.2.2.2.2.2.1 t2_91.2.2.2.2.2.2.2.2.2.2.2 m a _ _ w_x0_8 w_x0_9 w_x0_10 w_x2_0 w_x2_1 w_x5_0 w_x5_1 w_x11_7 w_x11_8 hoff hsh w_A1 w_A21 w_A23 hoffa ls (lv_sub hl [0, 1] rfl) hs0 hW hS
  have hL1 : ∀ (n : Nat) (v2k2 : Int32) (v3k2 : Int32) (x0_8k2 : Int64) (x0_9k2 : Int32) (x0_10k2 : Int32) (x2_0k2 : Int32) (x2_1k2 : Int64) (x5_0k2 : Int32) (x5_1k2 : Int64) (x11_7k2 : Int32) (x11_8k2 : Int32) (A1k2 : Nat → Int32) (A21k2 : Nat → Int32) (A23k2 : Nat → Int32) (m : Nat → Value) (a : Nat → vp_A) (H : Heap) (locs : List Loc) (w_x0_8 : m 8 = .long x0_8k2) (w_x0_9 : m 9 = .int x0_9k2) (w_x0_10 : m 10 = .int x0_10k2) (w_x2_0 : m 200 = .int x2_0k2) (w_x2_1 : m 201 = .long x2_1k2) (w_x5_0 : m 500 = .int x5_0k2) (w_x5_1 : m 501 = .long x5_1k2) (w_x11_7 : m 1107 = .int x11_7k2) (w_x11_8 : m 1108 = .int x11_8k2) (hoff : ∀ j, nel j [8, 9, 10, 200, 201, 500, 501, 1107, 1108] = false → m j = m0 j) (hsh : SH q m) (w_A1 : a 1 = (8, .inl A1k2)) (w_A21 : a 21 = (4, .inl A21k2)) (w_A23 : a 23 = (4, .inl A23k2)) (hoffa : ∀ j, nel j [1, 21, 23] = false → a j = a0 j) (ls : Array Slot) (hl : lv_has ls 6 [(0, .ref (q 0)), (1, .int (A1 (0 : Int32).toNatClampNeg)), (2, .int v2k2), (3, .int v3k2)]) (hg2 : gloop (fun u2 : (Int32 × Int32 × Int64 × Int32 × Int32 × Int32 × Int64 × Int32 × Int64 × Int32 × Int32 × (Nat → Int32) × (Nat → Int32) × (Nat → Int32)) => fX11_carryOut_S18 F x11_6 xkr_0 xkr_1 xkr_2 xkr_3 A13 A15 A17 (A1 (0 : Int32).toNatClampNeg) u2.1 u2.2.1 u2.2.2.1 u2.2.2.2.1 u2.2.2.2.2.1 u2.2.2.2.2.2.1 u2.2.2.2.2.2.2.1 u2.2.2.2.2.2.2.2.1 u2.2.2.2.2.2.2.2.2.1 u2.2.2.2.2.2.2.2.2.2.1 u2.2.2.2.2.2.2.2.2.2.2.1 u2.2.2.2.2.2.2.2.2.2.2.2.1 u2.2.2.2.2.2.2.2.2.2.2.2.2.1 u2.2.2.2.2.2.2.2.2.2.2.2.2.2) n (v2k2, v3k2, x0_8k2, x0_9k2, x0_10k2, x2_0k2, x2_1k2, x5_0k2, x5_1k2, x11_7k2, x11_8k2, A1k2, A21k2, A23k2) = some r2) (hW : GW D cy (gA N q s.heap.size) N q m a s H) (hS : va_S (gA N q s.heap.size) s.heap H locs), W p l e ({ frames := 6, cells := 0, slots := 0, locals := 150 } : Room) s M args below meth c H locs 0 0 (MQ below (va_Qi (fun (r : Int32) (u : (Nat → Value) × (Nat → vp_A)) => r = X0.1 ∧ u.1 8 = .long X0.2.1 ∧ u.1 9 = .int X0.2.2.1 ∧ u.1 10 = .int X0.2.2.2.1 ∧ u.1 200 = .int X0.2.2.2.2.1 ∧ u.1 201 = .long X0.2.2.2.2.2.1 ∧ u.1 500 = .int X0.2.2.2.2.2.2.1 ∧ u.1 501 = .long X0.2.2.2.2.2.2.2.1 ∧ u.1 1107 = .int X0.2.2.2.2.2.2.2.2.1 ∧ u.1 1108 = .int X0.2.2.2.2.2.2.2.2.2.1 ∧ (∀ j, nel j [8, 9, 10, 200, 201, 500, 501, 1107, 1108] = false → u.1 j = m0 j) ∧ u.2 1 = (8, .inl X0.2.2.2.2.2.2.2.2.2.2.1) ∧ u.2 21 = (4, .inl X0.2.2.2.2.2.2.2.2.2.2.2.1) ∧ u.2 23 = (4, .inl X0.2.2.2.2.2.2.2.2.2.2.2.2) ∧ (∀ j, nel j [1, 21, 23] = false → u.2 j = a0 j)) (gB D cy N q s.heap.size) (gA N q s.heap.size)) args s 0 0 (gA N q s.heap.size)) (F0 M 18 ls []) := by
    intro n
    induction n with
    | zero => intro v2k2 v3k2 x0_8k2 x0_9k2 x0_10k2 x2_0k2 x2_1k2 x5_0k2 x5_1k2 x11_7k2 x11_8k2 A1k2 A21k2 A23k2 m a H locs w_x0_8 w_x0_9 w_x0_10 w_x2_0 w_x2_1 w_x5_0 w_x5_1 w_x11_7 w_x11_8 hoff hsh w_A1 w_A21 w_A23 hoffa ls hl hg2 hW hS; exact (gl_zero hg2).elim
    | succ n ih1 =>
      intro v2k2 v3k2 x0_8k2 x0_9k2 x0_10k2 x2_0k2 x2_1k2 x5_0k2 x5_1k2 x11_7k2 x11_8k2 A1k2 A21k2 A23k2 m a H locs w_x0_8 w_x0_9 w_x0_10 w_x2_0 w_x2_1 w_x5_0 w_x5_1 w_x11_7 w_x11_8 hoff hsh w_A1 w_A21 w_A23 hoffa ls hl hg2 hW hS
      obtain ⟨X1, hs1, hXl1, hXr1⟩ := gl_succ hg2
      have hs1 : fX11_carryOut_S18 F x11_6 xkr_0 xkr_1 xkr_2 xkr_3 A13 A15 A17 (A1 (0 : Int32).toNatClampNeg) v2k2 v3k2 x0_8k2 x0_9k2 x0_10k2 x2_0k2 x2_1k2 x5_0k2 x5_1k2 x11_7k2 x11_8k2 A1k2 A21k2 A23k2 = some X1 := hs1
      unfold fX11_carryOut_S18 at hs1
      have hJ84_1 : ∀ (v3j21 : Int32) (s0j21 : Int32) (x0_8j21 : Int64) (x0_9j21 : Int32) (x0_10j21 : Int32) (x2_0j21 : Int32) (x2_1j21 : Int64) (x5_0j21 : Int32) (x5_1j21 : Int64) (x11_7j21 : Int32) (x11_8j21 : Int32) (A1j21 : Nat → Int32) (A21j21 : Nat → Int32) (A23j21 : Nat → Int32) (m : Nat → Value) (a : Nat → vp_A) (H : Heap) (locs : List Loc) (w_x0_8 : m 8 = .long x0_8j21) (w_x0_9 : m 9 = .int x0_9j21) (w_x0_10 : m 10 = .int x0_10j21) (w_x2_0 : m 200 = .int x2_0j21) (w_x2_1 : m 201 = .long x2_1j21) (w_x5_0 : m 500 = .int x5_0j21) (w_x5_1 : m 501 = .long x5_1j21) (w_x11_7 : m 1107 = .int x11_7j21) (w_x11_8 : m 1108 = .int x11_8j21) (hoff : ∀ j, nel j [8, 9, 10, 200, 201, 500, 501, 1107, 1108] = false → m j = m0 j) (hsh : SH q m) (w_A1 : a 1 = (8, .inl A1j21)) (w_A21 : a 21 = (4, .inl A21j21)) (w_A23 : a 23 = (4, .inl A23j21)) (hoffa : ∀ j, nel j [1, 21, 23] = false → a j = a0 j) (ls : Array Slot) (hl : lv_has ls 6 [(0, .ref (q 0)), (1, .int (A1 (0 : Int32).toNatClampNeg)), (3, .int v3j21)]) (hs1 : fX11_carryOut_J84 F x11_6 xkr_0 xkr_1 xkr_2 xkr_3 A13 A15 A17 (A1 (0 : Int32).toNatClampNeg) v3j21 s0j21 x0_8j21 x0_9j21 x0_10j21 x2_0j21 x2_1j21 x5_0j21 x5_1j21 x11_7j21 x11_8j21 A1j21 A21j21 A23j21 = some X1) (hW : GW D cy (gA N q s.heap.size) N q m a s H) (hS : va_S (gA N q s.heap.size) s.heap H locs), W p l e ({ frames := 6, cells := 0, slots := 0, locals := 150 } : Room) s M args below meth c H locs 0 0 (MQ below (va_Qi (fun (r : Int32) (u : (Nat → Value) × (Nat → vp_A)) => r = X0.1 ∧ u.1 8 = .long X0.2.1 ∧ u.1 9 = .int X0.2.2.1 ∧ u.1 10 = .int X0.2.2.2.1 ∧ u.1 200 = .int X0.2.2.2.2.1 ∧ u.1 201 = .long X0.2.2.2.2.2.1 ∧ u.1 500 = .int X0.2.2.2.2.2.2.1 ∧ u.1 501 = .long X0.2.2.2.2.2.2.2.1 ∧ u.1 1107 = .int X0.2.2.2.2.2.2.2.2.1 ∧ u.1 1108 = .int X0.2.2.2.2.2.2.2.2.2.1 ∧ (∀ j, nel j [8, 9, 10, 200, 201, 500, 501, 1107, 1108] = false → u.1 j = m0 j) ∧ u.2 1 = (8, .inl X0.2.2.2.2.2.2.2.2.2.2.1) ∧ u.2 21 = (4, .inl X0.2.2.2.2.2.2.2.2.2.2.2.1) ∧ u.2 23 = (4, .inl X0.2.2.2.2.2.2.2.2.2.2.2.2) ∧ (∀ j, nel j [1, 21, 23] = false → u.2 j = a0 j)) (gB D cy N q s.heap.size) (gA N q s.heap.size)) args s 0 0 (gA N q s.heap.size)) (F0 M 84 ls [.int s0j21]) := by
        intro v3j21 s0j21 x0_8j21 x0_9j21 x0_10j21 x2_0j21 x2_1j21 x5_0j21 x5_1j21 x11_7j21 x11_8j21 A1j21 A21j21 A23j21 m a H locs w_x0_8 w_x0_9 w_x0_10 w_x2_0 w_x2_1 w_x5_0 w_x5_1 w_x11_7 w_x11_8 hoff hsh w_A1 w_A21 w_A23 hoffa ls hl hs1 hW hS
        unfold fX11_carryOut_J84 at hs1
        refine lv_istore_n (lv' := [(2, .int s0j21), (0, .ref (q 0)), (1, .int (A1 (0 : Int32).toNatClampNeg)), (3, .int v3j21)]) hx hb dX11_carryOut_84 rfl hl (by decide) rfl (fun ls hl => ?_)
        refine lv_iinc (v := v3j21 + 1) (lv' := [(3, .int (v3j21 + 1)), (2, .int s0j21), (0, .ref (q 0)), (1, .int (A1 (0 : Int32).toNatClampNeg))]) hx hb dX11_carryOut_85 hl (k := 3) rfl rfl (by decide) rfl (fun ls hl => ?_)
        refine lv_goto (tgt := 18) hx hb dX11_carryOut_88 (by decide) ?_
        exact ih1 s0j21 (v3j21 + 1) x0_8j21 x0_9j21 x0_10j21 x2_0j21 x2_1j21 x5_0j21 x5_1j21 x11_7j21 x11_8j21 A1j21 A21j21 A23j21 m a _ _ w_x0_8 w_x0_9 w_x0_10 w_x2_0 w_x2_1 w_x5_0 w_x5_1 w_x11_7 w_x11_8 hoff hsh w_A1 w_A21 w_A23 hoffa ls (lv_sub hl [2, 3, 1, 0] rfl) (hXr1 _ (Option.some.inj hs1).symm) hW hS
      have hJ83_1 : ∀ (v3j17 : Int32) (x0_8j17 : Int64) (x0_9j17 : Int32) (x0_10j17 : Int32) (x2_0j17 : Int32) (x2_1j17 : Int64) (x5_0j17 : Int32) (x5_1j17 : Int64) (x11_7j17 : Int32) (x11_8j17 : Int32) (A1j17 : Nat → Int32) (A21j17 : Nat → Int32) (A23j17 : Nat → Int32) (m : Nat → Value) (a : Nat → vp_A) (H : Heap) (locs : List Loc) (w_x0_8 : m 8 = .long x0_8j17) (w_x0_9 : m 9 = .int x0_9j17) (w_x0_10 : m 10 = .int x0_10j17) (w_x2_0 : m 200 = .int x2_0j17) (w_x2_1 : m 201 = .long x2_1j17) (w_x5_0 : m 500 = .int x5_0j17) (w_x5_1 : m 501 = .long x5_1j17) (w_x11_7 : m 1107 = .int x11_7j17) (w_x11_8 : m 1108 = .int x11_8j17) (hoff : ∀ j, nel j [8, 9, 10, 200, 201, 500, 501, 1107, 1108] = false → m j = m0 j) (hsh : SH q m) (w_A1 : a 1 = (8, .inl A1j17)) (w_A21 : a 21 = (4, .inl A21j17)) (w_A23 : a 23 = (4, .inl A23j17)) (hoffa : ∀ j, nel j [1, 21, 23] = false → a j = a0 j) (ls : Array Slot) (hl : lv_has ls 6 [(0, .ref (q 0)), (1, .int (A1 (0 : Int32).toNatClampNeg)), (3, .int v3j17)]) (hs1 : fX11_carryOut_J83 F x11_6 xkr_0 xkr_1 xkr_2 xkr_3 A13 A15 A17 (A1 (0 : Int32).toNatClampNeg) v3j17 x0_8j17 x0_9j17 x0_10j17 x2_0j17 x2_1j17 x5_0j17 x5_1j17 x11_7j17 x11_8j17 A1j17 A21j17 A23j17 = some X1) (hW : GW D cy (gA N q s.heap.size) N q m a s H) (hS : va_S (gA N q s.heap.size) s.heap H locs), W p l e ({ frames := 6, cells := 0, slots := 0, locals := 150 } : Room) s M args below meth c H locs 0 0 (MQ below (va_Qi (fun (r : Int32) (u : (Nat → Value) × (Nat → vp_A)) => r = X0.1 ∧ u.1 8 = .long X0.2.1 ∧ u.1 9 = .int X0.2.2.1 ∧ u.1 10 = .int X0.2.2.2.1 ∧ u.1 200 = .int X0.2.2.2.2.1 ∧ u.1 201 = .long X0.2.2.2.2.2.1 ∧ u.1 500 = .int X0.2.2.2.2.2.2.1 ∧ u.1 501 = .long X0.2.2.2.2.2.2.2.1 ∧ u.1 1107 = .int X0.2.2.2.2.2.2.2.2.1 ∧ u.1 1108 = .int X0.2.2.2.2.2.2.2.2.2.1 ∧ (∀ j, nel j [8, 9, 10, 200, 201, 500, 501, 1107, 1108] = false → u.1 j = m0 j) ∧ u.2 1 = (8, .inl X0.2.2.2.2.2.2.2.2.2.2.1) ∧ u.2 21 = (4, .inl X0.2.2.2.2.2.2.2.2.2.2.2.1) ∧ u.2 23 = (4, .inl X0.2.2.2.2.2.2.2.2.2.2.2.2) ∧ (∀ j, nel j [1, 21, 23] = false → u.2 j = a0 j)) (gB D cy N q s.heap.size) (gA N q s.heap.size)) args s 0 0 (gA N q s.heap.size)) (F0 M 83 ls []) := by
        intro v3j17 x0_8j17 x0_9j17 x0_10j17 x2_0j17 x2_1j17 x5_0j17 x5_1j17 x11_7j17 x11_8j17 A1j17 A21j17 A23j17 m a H locs w_x0_8 w_x0_9 w_x0_10 w_x2_0 w_x2_1 w_x5_0 w_x5_1 w_x11_7 w_x11_8 hoff hsh w_A1 w_A21 w_A23 hoffa ls hl hs1 hW hS
        unfold fX11_carryOut_J83 at hs1
        refine lv_iconst (v := 0) hx hb dX11_carryOut_83 (by decide) ?_
        exact hJ84_1 v3j17 0 x0_8j17 x0_9j17 x0_10j17 x2_0j17 x2_1j17 x5_0j17 x5_1j17 x11_7j17 x11_8j17 A1j17 A21j17 A23j17 m a _ _ w_x0_8 w_x0_9 w_x0_10 w_x2_0 w_x2_1 w_x5_0 w_x5_1 w_x11_7 w_x11_8 hoff hsh w_A1 w_A21 w_A23 hoffa ls (lv_sub hl [0, 1, 2] rfl) hs1 hW hS
      refine lv_iload_n hx hb dX11_carryOut_18 rfl (lv_at hl 3 rfl) ?_
      refine lv_ldcw (v := 1000000) hx hb hown (hG _ gx1269) dX11_carryOut_19 ?_
      refine lv_icmp_ge (tgt := 91) hx hb dX11_carryOut_22 (by decide) (fun c13 => ?_) (fun c13 => ?_)
      · rw [if_pos c13] at hs1
        exact hE1_91 (x0_8k2, x0_9k2, x0_10k2, x2_0k2, x2_1k2, x5_0k2, x5_1k2, x11_7k2, x11_8k2, A1k2, A21k2, A23k2) (hXl1 _ (Option.some.inj hs1).symm) m a _ _ w_x0_8 w_x0_9 w_x0_10 w_x2_0 w_x2_1 w_x5_0 w_x5_1 w_x11_7 w_x11_8 hoff hsh w_A1 w_A21 w_A23 hoffa ls (lv_sub hl [0, 1] rfl) hW hS
      · rw [if_neg c13] at hs1
        refine lv_iload_n hx hb dX11_carryOut_25 rfl (lv_at hl 2 rfl) ?_
        refine lv_if_eq (tgt := 91) hx hb dX11_carryOut_26 (by decide) (fun c14 => ?_) (fun c14 => ?_)
        · rw [if_pos c14] at hs1
          exact hE1_91 (x0_8k2, x0_9k2, x0_10k2, x2_0k2, x2_1k2, x5_0k2, x5_1k2, x11_7k2, x11_8k2, A1k2, A21k2, A23k2) (hXl1 _ (Option.some.inj hs1).symm) m a _ _ w_x0_8 w_x0_9 w_x0_10 w_x2_0 w_x2_1 w_x5_0 w_x5_1 w_x11_7 w_x11_8 hoff hsh w_A1 w_A21 w_A23 hoffa ls (lv_sub hl [0, 1] rfl) hW hS
        · rw [if_neg c14] at hs1
          refine lv_aload_n hx hb dX11_carryOut_29 rfl (lv_at hl 0 rfl) ?_
          refine gf11_0 hx hb hG hown hW (o := 0) (ltN hN 0 rfl) gk0 (v := .ref (q 1)) (sh0_0 hsh) gx15 dX11_carryOut_30 ?_
          refine lv_iconst (v := 0) hx hb dX11_carryOut_33 (by decide) ?_
          refine g_iald hx hb hW (o := 1) (ltN hN 1 rfl) gk1 w_A1 (vin (by decide)) dX11_carryOut_34 ?_
          refine lv_iload_n hx hb dX11_carryOut_35 rfl (lv_at hl 1 rfl) ?_
          refine lv_isub hx hb dX11_carryOut_36 ?_
          refine lv_istore (lv' := [(4, .int ((A1k2 (0 : Int32).toNatClampNeg) - (A1 (0 : Int32).toNatClampNeg))), (0, .ref (q 0)), (1, .int (A1 (0 : Int32).toNatClampNeg)), (2, .int v2k2), (3, .int v3k2)]) hx hb dX11_carryOut_37 hl (by decide) rfl (fun ls hl => ?_)
          refine lv_aload_n hx hb dX11_carryOut_39 rfl (lv_at hl 1 rfl) ?_
          refine gf11_4 hx hb hG hown hW (o := 0) (ltN hN 0 rfl) gk0 (v := .ref (q 11)) (sh0_4 hsh) gx28 dX11_carryOut_40 ?_
          refine lv_iload hx hb dX11_carryOut_43 (lv_at hl 0 rfl) ?_
          obtain ⟨r15, hf15, hs1⟩ := obind hs1
          refine g_Vi (n := 1) hx hb hml hown hG hW hS [.int ((A1k2 (0 : Int32).toNatClampNeg) - (A1 (0 : Int32).toNatClampNeg))] (kX8_next hN hsh ((hoff 1106 rfl).trans h_x11_6) ((hoffa 13 rfl).trans h_A13) ((hoffa 15 rfl).trans h_A15) ((hoffa 17 rfl).trans h_A17) w_x11_7 w_x11_8 w_A21 w_A23 F ((A1k2 (0 : Int32).toNatClampNeg) - (A1 (0 : Int32).toNatClampNeg)) hf15) (ltN hN 11 rfl) gk11 (by decide) rfl rfl (gd_V gx1275 gx1276 gx1277 gx27 gx1278) rfl rfl (by decide) ⟨Nat.le_of_ble_eq_true rfl, Nat.le_of_ble_eq_true rfl⟩ rfl hl (Nat.le_of_ble_eq_true rfl) ⟨Nat.zero_le _, Nat.zero_le _⟩ dX11_carryOut_45 (fun x15 m15 a15 H locs hp15 hW hS => ?_)
          obtain ⟨hx15, hp15_x11_7, hp15_x11_8, ho15, hp15_A21, hp15_A23, hoa15⟩ := hp15
          subst hx15
          have w_x0_8 : m15 8 = .long x0_8k2 := (ho15 8 rfl).trans w_x0_8
          have w_x0_9 : m15 9 = .int x0_9k2 := (ho15 9 rfl).trans w_x0_9
          have w_x0_10 : m15 10 = .int x0_10k2 := (ho15 10 rfl).trans w_x0_10
          have w_x2_0 : m15 200 = .int x2_0k2 := (ho15 200 rfl).trans w_x2_0
          have w_x2_1 : m15 201 = .long x2_1k2 := (ho15 201 rfl).trans w_x2_1
          have w_x5_0 : m15 500 = .int x5_0k2 := (ho15 500 rfl).trans w_x5_0
          have w_x5_1 : m15 501 = .long x5_1k2 := (ho15 501 rfl).trans w_x5_1
          have w_x11_7 : m15 1107 = .int r15.2.1 := hp15_x11_7
          have w_x11_8 : m15 1108 = .int r15.2.2.1 := hp15_x11_8
          have hoff := offm hoff ho15 (by decide +kernel)
          have hsh := SH.off hsh ho15 (by decide +kernel)
          have w_A1 : a15 1 = (8, .inl A1k2) := (hoa15 1 rfl).trans w_A1
          have w_A21 : a15 21 = (4, .inl r15.2.2.2.1) := hp15_A21
          have w_A23 : a15 23 = (4, .inl r15.2.2.2.2) := hp15_A23
          have hoffa := offm hoffa hoa15 (by decide +kernel)
          refine lv_istore (lv' := [(5, .int r15.1), (4, .int ((A1k2 (0 : Int32).toNatClampNeg) - (A1 (0 : Int32).toNatClampNeg))), (0, .ref (q 0)), (1, .int (A1 (0 : Int32).toNatClampNeg)), (2, .int v2k2), (3, .int v3k2)]) hx hb dX11_carryOut_48 hl (by decide) rfl (fun ls hl => ?_)
          refine lv_iload hx hb dX11_carryOut_50 (lv_at hl 1 rfl) ?_
          refine lv_sipush (v := 600) hx hb dX11_carryOut_52 (by decide) ?_
          refine lv_icmp_ge (tgt := 83) hx hb dX11_carryOut_55 (by decide) (fun c16 => ?_) (fun c16 => ?_)
          · rw [if_pos c16] at hs1
            exact hJ83_1 v3k2 x0_8k2 x0_9k2 x0_10k2 x2_0k2 x2_1k2 x5_0k2 x5_1k2 r15.2.1 r15.2.2.1 A1k2 r15.2.2.2.1 r15.2.2.2.2 m15 a15 _ _ w_x0_8 w_x0_9 w_x0_10 w_x2_0 w_x2_1 w_x5_0 w_x5_1 w_x11_7 w_x11_8 hoff hsh w_A1 w_A21 w_A23 hoffa ls (lv_sub hl [2, 3, 5] rfl) hs1 hW hS
          · rw [if_neg c16] at hs1
            refine lv_iload hx hb dX11_carryOut_58 (lv_at hl 0 rfl) ?_
            refine lv_iconst (v := (-1)) hx hb dX11_carryOut_60 (by decide) ?_
            refine lv_icmp_eq (tgt := 83) hx hb dX11_carryOut_61 (by decide) (fun c18 => ?_) (fun c18 => ?_)
            · rw [if_pos c18] at hs1
              exact hJ83_1 v3k2 x0_8k2 x0_9k2 x0_10k2 x2_0k2 x2_1k2 x5_0k2 x5_1k2 r15.2.1 r15.2.2.1 A1k2 r15.2.2.2.1 r15.2.2.2.2 m15 a15 _ _ w_x0_8 w_x0_9 w_x0_10 w_x2_0 w_x2_1 w_x5_0 w_x5_1 w_x11_7 w_x11_8 hoff hsh w_A1 w_A21 w_A23 hoffa ls (lv_sub hl [2, 3, 5] rfl) hs1 hW hS
            · rw [if_neg c18] at hs1
              refine lv_aload_n hx hb dX11_carryOut_64 rfl (lv_at hl 2 rfl) ?_
              refine lv_iload hx hb dX11_carryOut_65 (lv_at hl 0 rfl) ?_
              refine lv_sipush (v := 600) hx hb dX11_carryOut_67 (by decide) ?_
              refine lv_iload hx hb dX11_carryOut_70 (lv_at hl 1 rfl) ?_
              refine lv_isub hx hb dX11_carryOut_72 ?_
              obtain ⟨r19, hf19, hs1⟩ := obind hs1
              refine g_Vi (n := 2) hx hb hml hown hG hW hS [.int r15.1, .int (600 - ((A1k2 (0 : Int32).toNatClampNeg) - (A1 (0 : Int32).toNatClampNeg)))] (kX11_doStep hN hsh hkr hgk ((hoff 7 rfl).trans hrf) ((off_kr hoff hgk 0 rfl (by decide)).trans h_xkr_0) ((off_kr hoff hgk 1 rfl (by decide)).trans h_xkr_1) ((off_kr hoff hgk 2 rfl (by decide)).trans h_xkr_2) ((off_kr hoff hgk 3 rfl (by decide)).trans h_xkr_3) ((hoffa 13 rfl).trans h_A13) ((hoffa 15 rfl).trans h_A15) ((hoffa 17 rfl).trans h_A17) w_x0_8 w_x0_9 w_x0_10 w_x2_0 w_x2_1 w_x5_0 w_x5_1 w_A1 F r15.1 (600 - ((A1k2 (0 : Int32).toNatClampNeg) - (A1 (0 : Int32).toNatClampNeg))) hf19) (ltN hN 0 rfl) gk0 (by decide) rfl rfl (gd_V gx1289 gx1290 gx1291 gx2 gx1292) rfl rfl (by decide) ⟨Nat.le_of_ble_eq_true rfl, Nat.le_of_ble_eq_true rfl⟩ rfl hl (Nat.le_of_ble_eq_true rfl) ⟨Nat.zero_le _, Nat.zero_le _⟩ dX11_carryOut_73 (fun x19 m19 a19 H locs hp19 hW hS => ?_)
              obtain ⟨hx19, hp19_x0_8, hp19_x0_9, hp19_x0_10, hp19_x2_0, hp19_x2_1, hp19_x5_0, hp19_x5_1, ho19, hp19_A1, hoa19⟩ := hp19
              subst hx19
              have w_x0_8 : m19 8 = .long r19.2.1 := hp19_x0_8
              have w_x0_9 : m19 9 = .int r19.2.2.1 := hp19_x0_9
              have w_x0_10 : m19 10 = .int r19.2.2.2.1 := hp19_x0_10
              have w_x2_0 : m19 200 = .int r19.2.2.2.2.1 := hp19_x2_0
              have w_x2_1 : m19 201 = .long r19.2.2.2.2.2.1 := hp19_x2_1
              have w_x5_0 : m19 500 = .int r19.2.2.2.2.2.2.1 := hp19_x5_0
              have w_x5_1 : m19 501 = .long r19.2.2.2.2.2.2.2.1 := hp19_x5_1
              have w_x11_7 : m19 1107 = .int r15.2.1 := (ho19 1107 rfl).trans w_x11_7
              have w_x11_8 : m19 1108 = .int r15.2.2.1 := (ho19 1108 rfl).trans w_x11_8
              have hoff := offm hoff ho19 (by decide +kernel)
              have hsh := SH.off hsh ho19 (by decide +kernel)
              have w_A1 : a19 1 = (8, .inl r19.2.2.2.2.2.2.2.2) := hp19_A1
              have w_A21 : a19 21 = (4, .inl r15.2.2.2.1) := (hoa19 21 rfl).trans w_A21
              have w_A23 : a19 23 = (4, .inl r15.2.2.2.2) := (hoa19 23 rfl).trans w_A23
              have hoffa := offm hoffa hoa19 (by decide +kernel)
              refine lv_if_eq (tgt := 83) hx hb dX11_carryOut_76 (by decide) (fun c20 => ?_) (fun c20 => ?_)
              · rw [if_pos c20] at hs1
                exact hJ83_1 v3k2 r19.2.1 r19.2.2.1 r19.2.2.2.1 r19.2.2.2.2.1 r19.2.2.2.2.2.1 r19.2.2.2.2.2.2.1 r19.2.2.2.2.2.2.2.1 r15.2.1 r15.2.2.1 r19.2.2.2.2.2.2.2.2 r15.2.2.2.1 r15.2.2.2.2 m19 a19 _ _ w_x0_8 w_x0_9 w_x0_10 w_x2_0 w_x2_1 w_x5_0 w_x5_1 w_x11_7 w_x11_8 hoff hsh w_A1 w_A21 w_A23 hoffa ls (lv_sub hl [2, 3, 5] rfl) hs1 hW hS
              · rw [if_neg c20] at hs1
                refine lv_iconst (v := 1) hx hb dX11_carryOut_79 (by decide) ?_
                refine lv_goto (tgt := 84) hx hb dX11_carryOut_80 (by decide) ?_
                exact hJ84_1 v3k2 1 r19.2.1 r19.2.2.1 r19.2.2.2.1 r19.2.2.2.2.1 r19.2.2.2.2.2.1 r19.2.2.2.2.2.2.1 r19.2.2.2.2.2.2.2.1 r15.2.1 r15.2.2.1 r19.2.2.2.2.2.2.2.2 r15.2.2.2.1 r15.2.2.2.2 m19 a19 _ _ w_x0_8 w_x0_9 w_x0_10 w_x2_0 w_x2_1 w_x5_0 w_x5_1 w_x11_7 w_x11_8 hoff hsh w_A1 w_A21 w_A23 hoffa ls (lv_sub hl [2, 3, 5] rfl) hs1 hW hS
  exact hL1 F 1 0 x0_8 x0_9 x0_10 x2_0 x2_1 x5_0 x5_1 ((fX8_rewind x11_7 x11_8).1) ((fX8_rewind x11_7 x11_8).2) A1 A21 A23 m1 a0 _ _ w_x0_8 w_x0_9 w_x0_10 w_x2_0 w_x2_1 w_x5_0 w_x5_1 w_x11_7 w_x11_8 hoff hsh h_A1 h_A21 h_A23 hoffa ls (lv_sub hl [3, 2, 1, 0] rfl) hg2 hW hS
