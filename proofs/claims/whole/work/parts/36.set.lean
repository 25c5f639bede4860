/-! part 36: set: the rest behind the new rules (by program) -/
-- the rest of set from 32 on
def fX11_set_T32 (xkr_1 : Int32) (x0_8 : Int64) (x0_9 : Int32) (x0_10 : Int32) (x0_11 : Int32) (x2_0 : Int32) (x2_1 : Int64) (x5_0 : Int32) (x5_1 : Int64) (x27_5 : Int32) (x27_6 : Int64) (x27_9 : Int64) (A1 : Nat → Int32) (v3 : Int32) : Option (Int32 × Int64 × Int32 × Int32 × Int32 × Int32 × Int64 × Int32 × Int64 × Int32 × Int64 × Int64 × (Nat → Int32)) := ((fX9_forget x27_5 x27_6 x27_9).bind (fun r9 => some (v3, (fX7_atFirst xkr_1), 0, 0, 0, (fX6_empty x2_0 x2_1).1, (fX6_empty x2_0 x2_1).2, (fX6_empty x5_0 x5_1).1, (fX6_empty x5_0 x5_1).2, r9.1, r9.2.1, r9.2.2, (cFill 8 A1 0))))
theorem dX11_set_32 : decode cX11_set 32 = .ok (.aload_n 0, 1) := by decide +kernel
theorem dX11_set_33 : decode cX11_set 33 = .ok (.aload_n 0, 1) := by decide +kernel
theorem dX11_set_34 : decode cX11_set 34 = .ok (.getfield 56, 3) := by decide +kernel
theorem dX11_set_37 : decode cX11_set 37 = .ok (.invokevirtual 60, 3) := by decide +kernel
theorem dX11_set_40 : decode cX11_set 40 = .ok (.putfield 64, 3) := by decide +kernel
theorem dX11_set_43 : decode cX11_set 43 = .ok (.aload_n 0, 1) := by decide +kernel
theorem dX11_set_44 : decode cX11_set 44 = .ok (.iconst 0, 1) := by decide +kernel
theorem dX11_set_45 : decode cX11_set 45 = .ok (.putfield 80, 3) := by decide +kernel
theorem dX11_set_48 : decode cX11_set 48 = .ok (.aload_n 0, 1) := by decide +kernel
theorem dX11_set_49 : decode cX11_set 49 = .ok (.iconst 0, 1) := by decide +kernel
theorem dX11_set_50 : decode cX11_set 50 = .ok (.putfield 84, 3) := by decide +kernel
theorem dX11_set_53 : decode cX11_set 53 = .ok (.aload_n 0, 1) := by decide +kernel
theorem dX11_set_54 : decode cX11_set 54 = .ok (.iconst 0, 1) := by decide +kernel
theorem dX11_set_55 : decode cX11_set 55 = .ok (.putfield 87, 3) := by decide +kernel
theorem dX11_set_58 : decode cX11_set 58 = .ok (.aload_n 0, 1) := by decide +kernel
theorem dX11_set_59 : decode cX11_set 59 = .ok (.getfield 7, 3) := by decide +kernel
theorem dX11_set_62 : decode cX11_set 62 = .ok (.iconst 0, 1) := by decide +kernel
theorem dX11_set_63 : decode cX11_set 63 = .ok (.invokestatic 91, 3) := by decide +kernel
theorem dX11_set_66 : decode cX11_set 66 = .ok (.aload_n 0, 1) := by decide +kernel
theorem dX11_set_67 : decode cX11_set 67 = .ok (.getfield 16, 3) := by decide +kernel
theorem dX11_set_70 : decode cX11_set 70 = .ok (.invokevirtual 97, 3) := by decide +kernel
theorem dX11_set_73 : decode cX11_set 73 = .ok (.aload_n 0, 1) := by decide +kernel
theorem dX11_set_74 : decode cX11_set 74 = .ok (.getfield 20, 3) := by decide +kernel
theorem dX11_set_77 : decode cX11_set 77 = .ok (.invokevirtual 97, 3) := by decide +kernel
theorem dX11_set_80 : decode cX11_set 80 = .ok (.aload_n 0, 1) := by decide +kernel
theorem dX11_set_81 : decode cX11_set 81 = .ok (.getfield 47, 3) := by decide +kernel
theorem dX11_set_84 : decode cX11_set 84 = .ok (.invokevirtual 100, 3) := by decide +kernel
theorem dX11_set_87 : decode cX11_set 87 = .ok (.iload_n 3, 1) := by decide +kernel
theorem dX11_set_88 : decode cX11_set 88 = .ok (.ireturn, 1) := by decide +kernel
set_option maxHeartbeats 4000000 in
set_option maxRecDepth 100000 in
theorem kX11_set_tail {p : Program} {l : Launch} {e : Env} {s : State} {M : MethodId} {args : Array Value} {below : List Frame} {meth : Method} {c : Code} {Q : State → Prop} {D : va_G} {cy : Nat → ClassId} {N : Nat} {q : Nat → Nat} {m0 : Nat → Value} {a0 : Nat → vp_A} (hN : 105 ≤ N) (hsh : SH q m0) {kr : Nat} (hkr : kr < N) (hgk : gk kr = 7) (hrf : m0 7 = .ref (q kr)) {xkr_1 : Int32} (h_xkr_1 : m0 (100 * kr + 1) = .int xkr_1) {x0_8 : Int64} (h_x0_8 : m0 8 = .long x0_8) {x0_9 : Int32} (h_x0_9 : m0 9 = .int x0_9) {x0_10 : Int32} (h_x0_10 : m0 10 = .int x0_10) {x0_11 : Int32} (h_x0_11 : m0 11 = .int x0_11) {x2_0 : Int32} (h_x2_0 : m0 200 = .int x2_0) {x2_1 : Int64} (h_x2_1 : m0 201 = .long x2_1) {x5_0 : Int32} (h_x5_0 : m0 500 = .int x5_0) {x5_1 : Int64} (h_x5_1 : m0 501 = .long x5_1) {x27_5 : Int32} (h_x27_5 : m0 2705 = .int x27_5) {x27_6 : Int64} (h_x27_6 : m0 2706 = .long x27_6) {x27_9 : Int64} (h_x27_9 : m0 2709 = .long x27_9) {A1 : Nat → Int32} (h_A1 : a0 1 = (8, .inl A1)) (v3 : Int32) {X0 : Int32 × Int64 × Int32 × Int32 × Int32 × Int32 × Int64 × Int32 × Int64 × Int32 × Int64 × Int64 × (Nat → Int32)} (hs0 : fX11_set_T32 xkr_1 x0_8 x0_9 x0_10 x0_11 x2_0 x2_1 x5_0 x5_1 x27_5 x27_6 x27_9 A1 v3 = some X0) (hx : p.tables.exec = Jvm.exec) (hb : c.code = cX11_set) (hml : c.maxLocals = 4) (hown : s.vm.findClass RX11 = some M.cls) (hG : ∀ w ∈ GG, w.before args s = true) {H : Heap} {locs : List Loc} (hW : GW D cy (gA N q s.heap.size) N q m0 a0 s H) (hS : va_S (gA N q s.heap.size) s.heap H locs) {ls : Array Slot} (hl : lv_has ls 4 [(0, .ref (q 0)), (3, .int v3)]) (hend : ∀ (m : Nat → Value) (a : Nat → vp_A) (H : Heap) (locs : List Loc) (w_x0_8 : m 8 = .long X0.2.1) (w_x0_9 : m 9 = .int X0.2.2.1) (w_x0_10 : m 10 = .int X0.2.2.2.1) (w_x0_11 : m 11 = .int X0.2.2.2.2.1) (w_x2_0 : m 200 = .int X0.2.2.2.2.2.1) (w_x2_1 : m 201 = .long X0.2.2.2.2.2.2.1) (w_x5_0 : m 500 = .int X0.2.2.2.2.2.2.2.1) (w_x5_1 : m 501 = .long X0.2.2.2.2.2.2.2.2.1) (w_x27_5 : m 2705 = .int X0.2.2.2.2.2.2.2.2.2.1) (w_x27_6 : m 2706 = .long X0.2.2.2.2.2.2.2.2.2.2.1) (w_x27_9 : m 2709 = .long X0.2.2.2.2.2.2.2.2.2.2.2.1) (hoff : ∀ j, nel j [8, 9, 10, 11, 200, 201, 500, 501, 2705, 2706, 2709] = false → m j = m0 j) (hsh : SH q m) (w_A1 : a 1 = (8, .inl X0.2.2.2.2.2.2.2.2.2.2.2.2)) (hoffa : ∀ j, nel j [1] = false → a j = a0 j) (ls : Array Slot) (hW : GW D cy (gA N q s.heap.size) N q m a s H) (hS : va_S (gA N q s.heap.size) s.heap H locs), W p l e ({ frames := 6, cells := 1, slots := 4, locals := 120 } : Room) s M args below meth c H locs (0 + 1) (0 + 4) Q (F0 M 88 ls [.int v3])) : W p l e ({ frames := 6, cells := 1, slots := 4, locals := 120 } : Room) s M args below meth c H locs (0 + 1) (0 + 4) Q (F0 M 32 ls []) := by
  unfold fX11_set_T32 at hs0
  have hoff : ∀ j, nel j [8, 9, 10, 11, 200, 201, 500, 501, 2705, 2706, 2709] = false → m0 j = m0 j := off0
  have hoffa : ∀ j, nel j [1] = false → a0 j = a0 j := off0
  refine lv_aload_n hx hb dX11_set_32 rfl (lv_at hl 0 rfl) ?_
  refine lv_aload_n hx hb dX11_set_33 rfl (lv_at hl 0 rfl) ?_
  refine gf11_7 hx hb hG hown hW (o := 0) (ltN hN 0 rfl) gk0 (v := .ref (q kr)) ((hoff 7 rfl).trans hrf) gx40 dX11_set_34 ?_
  refine g_VlR (n := 0) hx hb hml hown hG hW hS [] (kX7_atFirst hN hkr hgk ((off_kr hoff hgk 1 rfl (by decide)).trans h_xkr_1)) hkr hgk (by decide) rfl rfl (gd_V gx154 gx155 gx156 gx39 gx157) rfl rfl (by decide) ⟨Nat.le_of_ble_eq_true rfl, Nat.le_of_ble_eq_true rfl⟩ rfl hl (Nat.le_of_ble_eq_true rfl) ⟨Nat.le_refl 1, Nat.le_refl 4⟩ dX11_set_37 (fun H locs hW hS => ?_)
  refine gp11_8 hx hb hG hown hW hS (o := 0) (ltN hN 0 rfl) gk0 (v := (fX7_atFirst xkr_1)) gx41 dX11_set_40 (fun m2 H locs hm2 ho2 hW hS => ?_)
  have ho2 := off1 ho2
  have w_x0_8 : m2 8 = .long (fX7_atFirst xkr_1) := hm2
  have w_x0_9 : m2 9 = .int x0_9 := (ho2 9 rfl).trans h_x0_9
  have w_x0_10 : m2 10 = .int x0_10 := (ho2 10 rfl).trans h_x0_10
  have w_x0_11 : m2 11 = .int x0_11 := (ho2 11 rfl).trans h_x0_11
  have w_x2_0 : m2 200 = .int x2_0 := (ho2 200 rfl).trans h_x2_0
  have w_x2_1 : m2 201 = .long x2_1 := (ho2 201 rfl).trans h_x2_1
  have w_x5_0 : m2 500 = .int x5_0 := (ho2 500 rfl).trans h_x5_0
  have w_x5_1 : m2 501 = .long x5_1 := (ho2 501 rfl).trans h_x5_1
  have w_x27_5 : m2 2705 = .int x27_5 := (ho2 2705 rfl).trans h_x27_5
  have w_x27_6 : m2 2706 = .long x27_6 := (ho2 2706 rfl).trans h_x27_6
  have w_x27_9 : m2 2709 = .long x27_9 := (ho2 2709 rfl).trans h_x27_9
  have hoff := offm hoff ho2 (by decide +kernel)
  have hsh := SH.off hsh ho2 (by decide +kernel)
  refine lv_aload_n hx hb dX11_set_43 rfl (lv_at hl 0 rfl) ?_
  refine lv_iconst (v := 0) hx hb dX11_set_44 (by decide) ?_
  refine gp11_9 hx hb hG hown hW hS (o := 0) (ltN hN 0 rfl) gk0 (v := 0) gx211 dX11_set_45 (fun m3 H locs hm3 ho3 hW hS => ?_)
  have ho3 := off1 ho3
  have w_x0_8 : m3 8 = .long (fX7_atFirst xkr_1) := (ho3 8 rfl).trans w_x0_8
  have w_x0_9 : m3 9 = .int 0 := hm3
  have w_x0_10 : m3 10 = .int x0_10 := (ho3 10 rfl).trans w_x0_10
  have w_x0_11 : m3 11 = .int x0_11 := (ho3 11 rfl).trans w_x0_11
  have w_x2_0 : m3 200 = .int x2_0 := (ho3 200 rfl).trans w_x2_0
  have w_x2_1 : m3 201 = .long x2_1 := (ho3 201 rfl).trans w_x2_1
  have w_x5_0 : m3 500 = .int x5_0 := (ho3 500 rfl).trans w_x5_0
  have w_x5_1 : m3 501 = .long x5_1 := (ho3 501 rfl).trans w_x5_1
  have w_x27_5 : m3 2705 = .int x27_5 := (ho3 2705 rfl).trans w_x27_5
  have w_x27_6 : m3 2706 = .long x27_6 := (ho3 2706 rfl).trans w_x27_6
  have w_x27_9 : m3 2709 = .long x27_9 := (ho3 2709 rfl).trans w_x27_9
  have hoff := offm hoff ho3 (by decide +kernel)
  have hsh := SH.off hsh ho3 (by decide +kernel)
  refine lv_aload_n hx hb dX11_set_48 rfl (lv_at hl 0 rfl) ?_
  refine lv_iconst (v := 0) hx hb dX11_set_49 (by decide) ?_
  refine gp11_10 hx hb hG hown hW hS (o := 0) (ltN hN 0 rfl) gk0 (v := 0) gx212 dX11_set_50 (fun m4 H locs hm4 ho4 hW hS => ?_)
  have ho4 := off1 ho4
  have w_x0_8 : m4 8 = .long (fX7_atFirst xkr_1) := (ho4 8 rfl).trans w_x0_8
  have w_x0_9 : m4 9 = .int 0 := (ho4 9 rfl).trans w_x0_9
  have w_x0_10 : m4 10 = .int 0 := hm4
  have w_x0_11 : m4 11 = .int x0_11 := (ho4 11 rfl).trans w_x0_11
  have w_x2_0 : m4 200 = .int x2_0 := (ho4 200 rfl).trans w_x2_0
  have w_x2_1 : m4 201 = .long x2_1 := (ho4 201 rfl).trans w_x2_1
  have w_x5_0 : m4 500 = .int x5_0 := (ho4 500 rfl).trans w_x5_0
  have w_x5_1 : m4 501 = .long x5_1 := (ho4 501 rfl).trans w_x5_1
  have w_x27_5 : m4 2705 = .int x27_5 := (ho4 2705 rfl).trans w_x27_5
  have w_x27_6 : m4 2706 = .long x27_6 := (ho4 2706 rfl).trans w_x27_6
  have w_x27_9 : m4 2709 = .long x27_9 := (ho4 2709 rfl).trans w_x27_9
  have hoff := offm hoff ho4 (by decide +kernel)
  have hsh := SH.off hsh ho4 (by decide +kernel)
  refine lv_aload_n hx hb dX11_set_53 rfl (lv_at hl 0 rfl) ?_
  refine lv_iconst (v := 0) hx hb dX11_set_54 (by decide) ?_
  refine gp11_11 hx hb hG hown hW hS (o := 0) (ltN hN 0 rfl) gk0 (v := 0) (by decide) gx213 dX11_set_55 (fun m5 H locs hm5 ho5 hW hS => ?_)
  have ho5 := off1 ho5
  have w_x0_8 : m5 8 = .long (fX7_atFirst xkr_1) := (ho5 8 rfl).trans w_x0_8
  have w_x0_9 : m5 9 = .int 0 := (ho5 9 rfl).trans w_x0_9
  have w_x0_10 : m5 10 = .int 0 := (ho5 10 rfl).trans w_x0_10
  have w_x0_11 : m5 11 = .int 0 := hm5
  have w_x2_0 : m5 200 = .int x2_0 := (ho5 200 rfl).trans w_x2_0
  have w_x2_1 : m5 201 = .long x2_1 := (ho5 201 rfl).trans w_x2_1
  have w_x5_0 : m5 500 = .int x5_0 := (ho5 500 rfl).trans w_x5_0
  have w_x5_1 : m5 501 = .long x5_1 := (ho5 501 rfl).trans w_x5_1
  have w_x27_5 : m5 2705 = .int x27_5 := (ho5 2705 rfl).trans w_x27_5
  have w_x27_6 : m5 2706 = .long x27_6 := (ho5 2706 rfl).trans w_x27_6
  have w_x27_9 : m5 2709 = .long x27_9 := (ho5 2709 rfl).trans w_x27_9
  have hoff := offm hoff ho5 (by decide +kernel)
  have hsh := SH.off hsh ho5 (by decide +kernel)
  refine lv_aload_n hx hb dX11_set_58 rfl (lv_at hl 0 rfl) ?_
  refine gf11_0 hx hb hG hown hW (o := 0) (ltN hN 0 rfl) gk0 (v := .ref (q 1)) (sh0_0 hsh) gx15 dX11_set_59 ?_
  refine lv_iconst (v := 0) hx hb dX11_set_62 (by decide) ?_
  refine g_Sv (n := 2) hx hb hml hown hG hW hS [.ref (q 1), .int 0] (kJ7_fill (ltN hN 1 rfl) gk1 (by decide) h_A1 0) rfl (gd_S gx227 gx228 gx229 gx230) rfl rfl (by decide) ⟨Nat.le_of_ble_eq_true rfl, Nat.le_of_ble_eq_true rfl⟩ rfl hl (Nat.le_of_ble_eq_true rfl) ⟨Nat.le_refl 1, Nat.le_refl 4⟩ dX11_set_63 (fun m6 a6 H locs hp6 hW hS => ?_)
  obtain ⟨hm6, hp6_A1, hoa6⟩ := hp6
  rw [hm6] at hW
  have w_A1 : a6 1 = (8, .inl (cFill 8 A1 0)) := hp6_A1
  have hoffa := offm hoffa hoa6 (by decide +kernel)
  refine lv_aload_n hx hb dX11_set_66 rfl (lv_at hl 0 rfl) ?_
  refine gf11_1 hx hb hG hown hW (o := 0) (ltN hN 0 rfl) gk0 (v := .ref (q 2)) (sh0_1 hsh) gx19 dX11_set_67 ?_
  refine g_Vv (n := 0) hx hb hml hown hG hW hS [] (kX6_empty_2 hN hsh w_x2_0 w_x2_1) (ltN hN 2 rfl) gk2 (by decide) rfl rfl (gd_V gx231 gx232 gx233 gx18 gx234) rfl rfl (by decide) ⟨Nat.le_of_ble_eq_true rfl, Nat.le_of_ble_eq_true rfl⟩ rfl hl (Nat.le_of_ble_eq_true rfl) ⟨Nat.le_refl 1, Nat.le_refl 4⟩ dX11_set_70 (fun m7 a7 H locs hp7 hW hS => ?_)
  obtain ⟨hp7_x2_0, hp7_x2_1, ho7, ha7⟩ := hp7
  rw [ha7] at hW
  have w_x0_8 : m7 8 = .long (fX7_atFirst xkr_1) := (ho7 8 rfl).trans w_x0_8
  have w_x0_9 : m7 9 = .int 0 := (ho7 9 rfl).trans w_x0_9
  have w_x0_10 : m7 10 = .int 0 := (ho7 10 rfl).trans w_x0_10
  have w_x0_11 : m7 11 = .int 0 := (ho7 11 rfl).trans w_x0_11
  have w_x2_0 : m7 200 = .int ((fX6_empty x2_0 x2_1).1) := hp7_x2_0
  have w_x2_1 : m7 201 = .long ((fX6_empty x2_0 x2_1).2) := hp7_x2_1
  have w_x5_0 : m7 500 = .int x5_0 := (ho7 500 rfl).trans w_x5_0
  have w_x5_1 : m7 501 = .long x5_1 := (ho7 501 rfl).trans w_x5_1
  have w_x27_5 : m7 2705 = .int x27_5 := (ho7 2705 rfl).trans w_x27_5
  have w_x27_6 : m7 2706 = .long x27_6 := (ho7 2706 rfl).trans w_x27_6
  have w_x27_9 : m7 2709 = .long x27_9 := (ho7 2709 rfl).trans w_x27_9
  have hoff := offm hoff ho7 (by decide +kernel)
  have hsh := SH.off hsh ho7 (by decide +kernel)
  refine lv_aload_n hx hb dX11_set_73 rfl (lv_at hl 0 rfl) ?_
  refine gf11_2 hx hb hG hown hW (o := 0) (ltN hN 0 rfl) gk0 (v := .ref (q 5)) (sh0_2 hsh) gx20 dX11_set_74 ?_
  refine g_Vv (n := 0) hx hb hml hown hG hW hS [] (kX6_empty_5 hN hsh w_x5_0 w_x5_1) (ltN hN 5 rfl) gk5 (by decide) rfl rfl (gd_V gx231 gx232 gx233 gx18 gx234) rfl rfl (by decide) ⟨Nat.le_of_ble_eq_true rfl, Nat.le_of_ble_eq_true rfl⟩ rfl hl (Nat.le_of_ble_eq_true rfl) ⟨Nat.le_refl 1, Nat.le_refl 4⟩ dX11_set_77 (fun m8 a8 H locs hp8 hW hS => ?_)
  obtain ⟨hp8_x5_0, hp8_x5_1, ho8, ha8⟩ := hp8
  rw [ha8] at hW
  have w_x0_8 : m8 8 = .long (fX7_atFirst xkr_1) := (ho8 8 rfl).trans w_x0_8
  have w_x0_9 : m8 9 = .int 0 := (ho8 9 rfl).trans w_x0_9
  have w_x0_10 : m8 10 = .int 0 := (ho8 10 rfl).trans w_x0_10
  have w_x0_11 : m8 11 = .int 0 := (ho8 11 rfl).trans w_x0_11
  have w_x2_0 : m8 200 = .int ((fX6_empty x2_0 x2_1).1) := (ho8 200 rfl).trans w_x2_0
  have w_x2_1 : m8 201 = .long ((fX6_empty x2_0 x2_1).2) := (ho8 201 rfl).trans w_x2_1
  have w_x5_0 : m8 500 = .int ((fX6_empty x5_0 x5_1).1) := hp8_x5_0
  have w_x5_1 : m8 501 = .long ((fX6_empty x5_0 x5_1).2) := hp8_x5_1
  have w_x27_5 : m8 2705 = .int x27_5 := (ho8 2705 rfl).trans w_x27_5
  have w_x27_6 : m8 2706 = .long x27_6 := (ho8 2706 rfl).trans w_x27_6
  have w_x27_9 : m8 2709 = .long x27_9 := (ho8 2709 rfl).trans w_x27_9
  have hoff := offm hoff ho8 (by decide +kernel)
  have hsh := SH.off hsh ho8 (by decide +kernel)
  refine lv_aload_n hx hb dX11_set_80 rfl (lv_at hl 0 rfl) ?_
  refine gf11_6 hx hb hG hown hW (o := 0) (ltN hN 0 rfl) gk0 (v := .ref (q 27)) (sh0_6 hsh) gx36 dX11_set_81 ?_
  obtain ⟨r9, hf9, hs0⟩ := obind hs0
  refine g_Vv (n := 0) hx hb hml hown hG hW hS [] (kX9_forget hN hsh w_x27_5 w_x27_6 w_x27_9 hf9) (ltN hN 27 rfl) gk27 (by decide) rfl rfl (gd_V gx237 gx238 gx239 gx35 gx240) rfl rfl (by decide) ⟨Nat.le_of_ble_eq_true rfl, Nat.le_of_ble_eq_true rfl⟩ rfl hl (Nat.le_of_ble_eq_true rfl) ⟨Nat.le_refl 1, Nat.le_refl 4⟩ dX11_set_84 (fun m9 a9 H locs hp9 hW hS => ?_)
  obtain ⟨hp9_x27_5, hp9_x27_6, hp9_x27_9, ho9, ha9⟩ := hp9
  rw [ha9] at hW
  have w_x0_8 : m9 8 = .long (fX7_atFirst xkr_1) := (ho9 8 rfl).trans w_x0_8
  have w_x0_9 : m9 9 = .int 0 := (ho9 9 rfl).trans w_x0_9
  have w_x0_10 : m9 10 = .int 0 := (ho9 10 rfl).trans w_x0_10
  have w_x0_11 : m9 11 = .int 0 := (ho9 11 rfl).trans w_x0_11
  have w_x2_0 : m9 200 = .int ((fX6_empty x2_0 x2_1).1) := (ho9 200 rfl).trans w_x2_0
  have w_x2_1 : m9 201 = .long ((fX6_empty x2_0 x2_1).2) := (ho9 201 rfl).trans w_x2_1
  have w_x5_0 : m9 500 = .int ((fX6_empty x5_0 x5_1).1) := (ho9 500 rfl).trans w_x5_0
  have w_x5_1 : m9 501 = .long ((fX6_empty x5_0 x5_1).2) := (ho9 501 rfl).trans w_x5_1
  have w_x27_5 : m9 2705 = .int r9.1 := hp9_x27_5
  have w_x27_6 : m9 2706 = .long r9.2.1 := hp9_x27_6
  have w_x27_9 : m9 2709 = .long r9.2.2 := hp9_x27_9
  have hoff := offm hoff ho9 (by decide +kernel)
  have hsh := SH.off hsh ho9 (by decide +kernel)
  refine lv_iload_n hx hb dX11_set_87 rfl (lv_at hl 1 rfl) ?_
  have hs0 := Option.some.inj hs0
  subst hs0
  exact hend m9 a6 _ _ w_x0_8 w_x0_9 w_x0_10 w_x0_11 w_x2_0 w_x2_1 w_x5_0 w_x5_1 w_x27_5 w_x27_6 w_x27_9 hoff hsh w_A1 hoffa ls hW hS
