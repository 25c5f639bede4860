/-! 12.survey (by program): the pure function of each method, its rows, its contract -/
-- HealLink$Survey.forget ()V
def fX9_forget (x27_5 : Int32) (x27_6 : Int64) (x27_9 : Int64) : Option (Int32 × Int64 × Int64) := some (0, (-1), (-1))
theorem dX9_forget_0 : decode cX9_forget 0 = .ok (.aload_n 0, 1) := by decide +kernel
theorem dX9_forget_1 : decode cX9_forget 1 = .ok (.iconst 0, 1) := by decide +kernel
theorem dX9_forget_2 : decode cX9_forget 2 = .ok (.putfield 57, 3) := by decide +kernel
theorem dX9_forget_5 : decode cX9_forget 5 = .ok (.aload_n 0, 1) := by decide +kernel
theorem dX9_forget_6 : decode cX9_forget 6 = .ok (.ldc2_w 48, 3) := by decide +kernel
theorem dX9_forget_9 : decode cX9_forget 9 = .ok (.putfield 50, 3) := by decide +kernel
theorem dX9_forget_12 : decode cX9_forget 12 = .ok (.aload_n 0, 1) := by decide +kernel
theorem dX9_forget_13 : decode cX9_forget 13 = .ok (.ldc2_w 48, 3) := by decide +kernel
theorem dX9_forget_16 : decode cX9_forget 16 = .ok (.putfield 54, 3) := by decide +kernel
theorem dX9_forget_19 : decode cX9_forget 19 = .ok (.return_, 1) := by decide +kernel
set_option maxHeartbeats 4000000 in
set_option maxRecDepth 100000 in
theorem kX9_forget {l : Launch} {D : va_G} {cy : Nat → ClassId} {N : Nat} {q : Nat → Nat} {m0 : Nat → Value} {a0 : Nat → vp_A} {sz : Nat} (hN : 105 ≤ N) (hsh : SH q m0) {x27_5 : Int32} (h_x27_5 : m0 2705 = .int x27_5) {x27_6 : Int64} (h_x27_6 : m0 2706 = .long x27_6) {x27_9 : Int64} (h_x27_9 : m0 2709 = .long x27_9) {X0 : Int32 × Int64 × Int64} (hs0 : fX9_forget x27_5 x27_6 x27_9 = some X0) : gMv l yX9_forget cX9_forget 1 none ({ frames := 0, cells := 0, slots := 0, locals := 0 } : Room) D cy N q m0 a0 sz [.ref (q 27)] (fun m' a' => m' 2705 = .int X0.1 ∧ m' 2706 = .long X0.2.1 ∧ m' 2709 = .long X0.2.2 ∧ (∀ j, nel j [2705, 2706, 2709] = false → m' j = m0 j) ∧ a' = a0) := by
  refine g_ofv (by decide) (Nat.le_of_ble_eq_true rfl) ?_
  intro p e s M args below meth c hx hb hr hG hown hin hlocks hml hW hS ls hl
  unfold fX9_forget at hs0
  have hoff : ∀ j, nel j [2705, 2706, 2709] = false → m0 j = m0 j := off0
  refine lv_aload_n hx hb dX9_forget_0 rfl (lv_at hl 0 rfl) ?_
  refine lv_iconst (v := 0) hx hb dX9_forget_1 (by decide) ?_
  refine gp9_5 hx hb hG hown hW hS (o := 27) (ltN hN 27 rfl) gk27 (v := 0) (by decide) gx241 dX9_forget_2 (fun m1 H locs hm1 ho1 hW hS => ?_)
  have ho1 := off1 ho1
  have w_x27_5 : m1 2705 = .int 0 := hm1
  have w_x27_6 : m1 2706 = .long x27_6 := (ho1 2706 rfl).trans h_x27_6
  have w_x27_9 : m1 2709 = .long x27_9 := (ho1 2709 rfl).trans h_x27_9
  have hoff := offm hoff ho1 (by decide +kernel)
  have hsh := SH.off hsh ho1 (by decide +kernel)
  refine lv_aload_n hx hb dX9_forget_5 rfl (lv_at hl 0 rfl) ?_
  refine lv_ldc2 (v := (-1)) hx hb hown (hG _ gx102) dX9_forget_6 ?_
  refine gp9_6 hx hb hG hown hW hS (o := 27) (ltN hN 27 rfl) gk27 (v := (-1)) gx103 dX9_forget_9 (fun m2 H locs hm2 ho2 hW hS => ?_)
  have ho2 := off1 ho2
  have w_x27_5 : m2 2705 = .int 0 := (ho2 2705 rfl).trans w_x27_5
  have w_x27_6 : m2 2706 = .long (-1) := hm2
  have w_x27_9 : m2 2709 = .long x27_9 := (ho2 2709 rfl).trans w_x27_9
  have hoff := offm hoff ho2 (by decide +kernel)
  have hsh := SH.off hsh ho2 (by decide +kernel)
  refine lv_aload_n hx hb dX9_forget_12 rfl (lv_at hl 0 rfl) ?_
  refine lv_ldc2 (v := (-1)) hx hb hown (hG _ gx102) dX9_forget_13 ?_
  refine gp9_9 hx hb hG hown hW hS (o := 27) (ltN hN 27 rfl) gk27 (v := (-1)) gx104 dX9_forget_16 (fun m3 H locs hm3 ho3 hW hS => ?_)
  have ho3 := off1 ho3
  have w_x27_5 : m3 2705 = .int 0 := (ho3 2705 rfl).trans w_x27_5
  have w_x27_6 : m3 2706 = .long (-1) := (ho3 2706 rfl).trans w_x27_6
  have w_x27_9 : m3 2709 = .long (-1) := hm3
  have hoff := offm hoff ho3 (by decide +kernel)
  have hsh := SH.off hsh ho3 (by decide +kernel)
  have hs0 := Option.some.inj hs0
  subst hs0
  exact W.vret hx hb hr (fun t ht hw => ⟨⟨(m3, a0), rfl, ⟨w_x27_5, w_x27_6, w_x27_9, hoff, rfl⟩, g_end hW ht hw⟩, hS.F ht⟩) hS.2.2 dX9_forget_19 hlocks
-- HealLink$Survey.greatest ()I
def fX9_greatest_J23 (F : Nat) (x28_2 : Int32) (A30 : Nat → Int32) (A35 : Nat → Int32) (x27_7j2 : Int32) (x42_6j2 : Int32) (x42_7j2 : Int32) (A44j2 : Nat → Int32) (A46j2 : Nat → Int32) (A48j2 : Nat → Int32) (A50j2 : Nat → Int32) (A52j2 : Nat → Int32) (A54j2 : Nat → Int32) : Option (Int32 × Int32 × Int32 × Int32 × (Nat → Int32) × (Nat → Int32) × (Nat → Int32) × (Nat → Int32) × (Nat → Int32) × (Nat → Int32)) := some ((cAt 6000 A44j2 0), x27_7j2, x42_6j2, x42_7j2, A44j2, A46j2, A48j2, A50j2, A52j2, A54j2)
def fX9_greatest (F : Nat) (x28_2 : Int32) (A30 : Nat → Int32) (A35 : Nat → Int32) (x27_7 : Int32) (x42_6 : Int32) (x42_7 : Int32) (A44 : Nat → Int32) (A46 : Nat → Int32) (A48 : Nat → Int32) (A50 : Nat → Int32) (A52 : Nat → Int32) (A54 : Nat → Int32) : Option (Int32 × Int32 × Int32 × Int32 × (Nat → Int32) × (Nat → Int32) × (Nat → Int32) × (Nat → Int32) × (Nat → Int32) × (Nat → Int32)) := (if x27_7 = 0 then ((fX4_measure F x28_2 A30 A35 x42_6 x42_7 A44 A46 A48 A50 A52 A54).bind (fun r3 => fX9_greatest_J23 F x28_2 A30 A35 1 r3.1 r3.2.1 r3.2.2.1 r3.2.2.2.1 r3.2.2.2.2.1 r3.2.2.2.2.2.1 r3.2.2.2.2.2.2.1 r3.2.2.2.2.2.2.2)) else fX9_greatest_J23 F x28_2 A30 A35 x27_7 x42_6 x42_7 A44 A46 A48 A50 A52 A54)
theorem dX9_greatest_0 : decode cX9_greatest 0 = .ok (.aload_n 0, 1) := by decide +kernel
theorem dX9_greatest_1 : decode cX9_greatest 1 = .ok (.getfield 65, 3) := by decide +kernel
theorem dX9_greatest_4 : decode cX9_greatest 4 = .ok (.ifCond .ne 19, 3) := by decide +kernel
theorem dX9_greatest_7 : decode cX9_greatest 7 = .ok (.aload_n 0, 1) := by decide +kernel
theorem dX9_greatest_8 : decode cX9_greatest 8 = .ok (.getfield 28, 3) := by decide +kernel
theorem dX9_greatest_11 : decode cX9_greatest 11 = .ok (.aload_n 0, 1) := by decide +kernel
theorem dX9_greatest_12 : decode cX9_greatest 12 = .ok (.getfield 12, 3) := by decide +kernel
theorem dX9_greatest_15 : decode cX9_greatest 15 = .ok (.invokevirtual 74, 3) := by decide +kernel
theorem dX9_greatest_18 : decode cX9_greatest 18 = .ok (.aload_n 0, 1) := by decide +kernel
theorem dX9_greatest_19 : decode cX9_greatest 19 = .ok (.iconst 1, 1) := by decide +kernel
theorem dX9_greatest_20 : decode cX9_greatest 20 = .ok (.putfield 65, 3) := by decide +kernel
theorem dX9_greatest_23 : decode cX9_greatest 23 = .ok (.aload_n 0, 1) := by decide +kernel
theorem dX9_greatest_24 : decode cX9_greatest 24 = .ok (.getfield 28, 3) := by decide +kernel
theorem dX9_greatest_27 : decode cX9_greatest 27 = .ok (.getfield 78, 3) := by decide +kernel
theorem dX9_greatest_30 : decode cX9_greatest 30 = .ok (.iconst 0, 1) := by decide +kernel
theorem dX9_greatest_31 : decode cX9_greatest 31 = .ok (.invokevirtual 81, 3) := by decide +kernel
theorem dX9_greatest_34 : decode cX9_greatest 34 = .ok (.ireturn, 1) := by decide +kernel
set_option maxHeartbeats 4000000 in
set_option maxRecDepth 100000 in
theorem kX9_greatest {l : Launch} {D : va_G} {cy : Nat → ClassId} {N : Nat} {q : Nat → Nat} {m0 : Nat → Value} {a0 : Nat → vp_A} {sz : Nat} (hN : 105 ≤ N) (hsh : SH q m0) {x28_2 : Int32} (h_x28_2 : m0 2802 = .int x28_2) {A30 : Nat → Int32} (h_A30 : a0 30 = (6001, .inl A30)) {A35 : Nat → Int32} (h_A35 : a0 35 = (60000, .inl A35)) {x27_7 : Int32} (h_x27_7 : m0 2707 = .int x27_7) {x42_6 : Int32} (h_x42_6 : m0 4206 = .int x42_6) {x42_7 : Int32} (h_x42_7 : m0 4207 = .int x42_7) {A44 : Nat → Int32} (h_A44 : a0 44 = (6000, .inl A44)) {A46 : Nat → Int32} (h_A46 : a0 46 = (6000, .inl A46)) {A48 : Nat → Int32} (h_A48 : a0 48 = (6000, .inl A48)) {A50 : Nat → Int32} (h_A50 : a0 50 = (6000, .inl A50)) {A52 : Nat → Int32} (h_A52 : a0 52 = (6000, .inl A52)) {A54 : Nat → Int32} (h_A54 : a0 54 = (6000, .inl A54)) (F : Nat) {X0 : Int32 × Int32 × Int32 × Int32 × (Nat → Int32) × (Nat → Int32) × (Nat → Int32) × (Nat → Int32) × (Nat → Int32) × (Nat → Int32)} (hs0 : fX9_greatest F x28_2 A30 A35 x27_7 x42_6 x42_7 A44 A46 A48 A50 A52 A54 = some X0) : gMi l yX9_greatest cX9_greatest 1 (some .int) ({ frames := 6, cells := 0, slots := 0, locals := 145 } : Room) D cy N q m0 a0 sz [.ref (q 27)] (fun r m' a' => r = X0.1 ∧ m' 2707 = .int X0.2.1 ∧ m' 4206 = .int X0.2.2.1 ∧ m' 4207 = .int X0.2.2.2.1 ∧ (∀ j, nel j [2707, 4206, 4207] = false → m' j = m0 j) ∧ a' 44 = (6000, .inl X0.2.2.2.2.1) ∧ a' 46 = (6000, .inl X0.2.2.2.2.2.1) ∧ a' 48 = (6000, .inl X0.2.2.2.2.2.2.1) ∧ a' 50 = (6000, .inl X0.2.2.2.2.2.2.2.1) ∧ a' 52 = (6000, .inl X0.2.2.2.2.2.2.2.2.1) ∧ a' 54 = (6000, .inl X0.2.2.2.2.2.2.2.2.2) ∧ (∀ j, nel j [44, 46, 48, 50, 52, 54] = false → a' j = a0 j)) := by
  refine g_ofi (by decide) (Nat.le_of_ble_eq_true rfl) ?_
  intro p e s M args below meth c hx hb hr hG hown hin hlocks hml hW hS ls hl
  unfold fX9_greatest at hs0
  have hoff : ∀ j, nel j [2707, 4206, 4207] = false → m0 j = m0 j := off0
  have hoffa : ∀ j, nel j [44, 46, 48, 50, 52, 54] = false → a0 j = a0 j := off0
  have hJ23_0 : ∀ (x27_7j2 : Int32) (x42_6j2 : Int32) (x42_7j2 : Int32) (A44j2 : Nat → Int32) (A46j2 : Nat → Int32) (A48j2 : Nat → Int32) (A50j2 : Nat → Int32) (A52j2 : Nat → Int32) (A54j2 : Nat → Int32) (m : Nat → Value) (a : Nat → vp_A) (H : Heap) (locs : List Loc) (w_x27_7 : m 2707 = .int x27_7j2) (w_x42_6 : m 4206 = .int x42_6j2) (w_x42_7 : m 4207 = .int x42_7j2) (hoff : ∀ j, nel j [2707, 4206, 4207] = false → m j = m0 j) (hsh : SH q m) (w_A44 : a 44 = (6000, .inl A44j2)) (w_A46 : a 46 = (6000, .inl A46j2)) (w_A48 : a 48 = (6000, .inl A48j2)) (w_A50 : a 50 = (6000, .inl A50j2)) (w_A52 : a 52 = (6000, .inl A52j2)) (w_A54 : a 54 = (6000, .inl A54j2)) (hoffa : ∀ j, nel j [44, 46, 48, 50, 52, 54] = false → a j = a0 j) (ls : Array Slot) (hl : lv_has ls 1 [(0, .ref (q 27))]) (hs0 : fX9_greatest_J23 F x28_2 A30 A35 x27_7j2 x42_6j2 x42_7j2 A44j2 A46j2 A48j2 A50j2 A52j2 A54j2 = some X0) (hW : GW D cy (gA N q s.heap.size) N q m a s H) (hS : va_S (gA N q s.heap.size) s.heap H locs), W p l e ({ frames := 6, cells := 0, slots := 0, locals := 145 } : Room) s M args below meth c H locs 0 0 (MQ below (va_Qi (fun (r : Int32) (u : (Nat → Value) × (Nat → vp_A)) => r = X0.1 ∧ u.1 2707 = .int X0.2.1 ∧ u.1 4206 = .int X0.2.2.1 ∧ u.1 4207 = .int X0.2.2.2.1 ∧ (∀ j, nel j [2707, 4206, 4207] = false → u.1 j = m0 j) ∧ u.2 44 = (6000, .inl X0.2.2.2.2.1) ∧ u.2 46 = (6000, .inl X0.2.2.2.2.2.1) ∧ u.2 48 = (6000, .inl X0.2.2.2.2.2.2.1) ∧ u.2 50 = (6000, .inl X0.2.2.2.2.2.2.2.1) ∧ u.2 52 = (6000, .inl X0.2.2.2.2.2.2.2.2.1) ∧ u.2 54 = (6000, .inl X0.2.2.2.2.2.2.2.2.2) ∧ (∀ j, nel j [44, 46, 48, 50, 52, 54] = false → u.2 j = a0 j)) (gB D cy N q s.heap.size) (gA N q s.heap.size)) args s 0 0 (gA N q s.heap.size)) (F0 M 23 ls []) := by
    intro x27_7j2 x42_6j2 x42_7j2 A44j2 A46j2 A48j2 A50j2 A52j2 A54j2 m a H locs w_x27_7 w_x42_6 w_x42_7 hoff hsh w_A44 w_A46 w_A48 w_A50 w_A52 w_A54 hoffa ls hl hs0 hW hS
    unfold fX9_greatest_J23 at hs0
    refine lv_aload_n hx hb dX9_greatest_23 rfl (lv_at hl 0 rfl) ?_
    refine gf9_2 hx hb hG hown hW (o := 27) (ltN hN 27 rfl) gk27 (v := .ref (q 42)) (sh27_2 hsh) gx95 dX9_greatest_24 ?_
    refine gf4_0 hx hb hG hown hW (o := 42) (ltN hN 42 rfl) gk42 (v := .ref (q 43)) (sh42_0 hsh) gx751 dX9_greatest_27 ?_
    refine lv_iconst (v := 0) hx hb dX9_greatest_30 (by decide) ?_
    refine g_ViR (n := 1) hx hb hml hown hG hW hS [.int 0] (kX2_at (ltN hN 43 rfl) gk43 (ltN hN 44 rfl) gk44 (sh43_0 hsh) (by decide) w_A44 0) (ltN hN 43 rfl) gk43 (by decide) rfl rfl (gd_V gx795 gx564 gx565 gx47 gx566) rfl rfl (by decide) ⟨Nat.le_of_ble_eq_true rfl, Nat.le_of_ble_eq_true rfl⟩ rfl hl (Nat.le_of_ble_eq_true rfl) ⟨Nat.zero_le _, Nat.zero_le _⟩ dX9_greatest_31 (fun H locs hW hS => ?_)
    have hs0 := Option.some.inj hs0
    subst hs0
    exact W.zret hx hb hr rfl (fun t ht hw => ⟨⟨_, (m, a), rfl, ⟨rfl, w_x27_7, w_x42_6, w_x42_7, hoff, w_A44, w_A46, w_A48, w_A50, w_A52, w_A54, hoffa⟩, g_end hW ht hw⟩, hS.F ht⟩) hS.2.2 dX9_greatest_34 hlocks
  refine lv_aload_n hx hb dX9_greatest_0 rfl (lv_at hl 0 rfl) ?_
  refine gf9_7 hx hb hG hown hW (o := 27) (ltN hN 27 rfl) gk27 (v := .int x27_7) h_x27_7 gx663 dX9_greatest_1 ?_
  refine lv_if_ne (tgt := 23) hx hb dX9_greatest_4 (by decide) (fun c1 => ?_) (fun c1 => ?_)
  · rw [if_neg c1] at hs0
    exact hJ23_0 x27_7 x42_6 x42_7 A44 A46 A48 A50 A52 A54 m0 a0 _ _ h_x27_7 h_x42_6 h_x42_7 hoff hsh h_A44 h_A46 h_A48 h_A50 h_A52 h_A54 hoffa ls (lv_sub hl [0] rfl) hs0 hW hS
  · rw [if_pos c1] at hs0
    refine lv_aload_n hx hb dX9_greatest_7 rfl (lv_at hl 0 rfl) ?_
    refine gf9_2 hx hb hG hown hW (o := 27) (ltN hN 27 rfl) gk27 (v := .ref (q 42)) (sh27_2 hsh) gx95 dX9_greatest_8 ?_
    refine lv_aload_n hx hb dX9_greatest_11 rfl (lv_at hl 0 rfl) ?_
    refine gf9_0 hx hb hG hown hW (o := 27) (ltN hN 27 rfl) gk27 (v := .ref (q 28)) (sh27_0 hsh) gx87 dX9_greatest_12 ?_
    obtain ⟨r3, hf3, hs0⟩ := obind hs0
    refine g_Vv (n := 1) hx hb hml hown hG hW hS [.ref (q 28)] (kX4_measure hN hsh ((hoff 2802 rfl).trans h_x28_2) ((hoffa 30 rfl).trans h_A30) ((hoffa 35 rfl).trans h_A35) h_x42_6 h_x42_7 h_A44 h_A46 h_A48 h_A50 h_A52 h_A54 F hf3) (ltN hN 42 rfl) gk42 (by decide) rfl rfl (gd_V gx752 gx753 gx754 gx94 gx755) rfl rfl (by decide) ⟨Nat.le_of_ble_eq_true rfl, Nat.le_of_ble_eq_true rfl⟩ rfl hl (Nat.le_of_ble_eq_true rfl) ⟨Nat.zero_le _, Nat.zero_le _⟩ dX9_greatest_15 (fun m3 a3 H locs hp3 hW hS => ?_)
    obtain ⟨hp3_x42_6, hp3_x42_7, ho3, hp3_A44, hp3_A46, hp3_A48, hp3_A50, hp3_A52, hp3_A54, hoa3⟩ := hp3
    have w_x27_7 : m3 2707 = .int x27_7 := (ho3 2707 rfl).trans h_x27_7
    have w_x42_6 : m3 4206 = .int r3.1 := hp3_x42_6
    have w_x42_7 : m3 4207 = .int r3.2.1 := hp3_x42_7
    have hoff := offm hoff ho3 (by decide +kernel)
    have hsh := SH.off hsh ho3 (by decide +kernel)
    have w_A44 : a3 44 = (6000, .inl r3.2.2.1) := hp3_A44
    have w_A46 : a3 46 = (6000, .inl r3.2.2.2.1) := hp3_A46
    have w_A48 : a3 48 = (6000, .inl r3.2.2.2.2.1) := hp3_A48
    have w_A50 : a3 50 = (6000, .inl r3.2.2.2.2.2.1) := hp3_A50
    have w_A52 : a3 52 = (6000, .inl r3.2.2.2.2.2.2.1) := hp3_A52
    have w_A54 : a3 54 = (6000, .inl r3.2.2.2.2.2.2.2) := hp3_A54
    have hoffa := offm hoffa hoa3 (by decide +kernel)
    refine lv_aload_n hx hb dX9_greatest_18 rfl (lv_at hl 0 rfl) ?_
    refine lv_iconst (v := 1) hx hb dX9_greatest_19 (by decide) ?_
    refine gp9_7 hx hb hG hown hW hS (o := 27) (ltN hN 27 rfl) gk27 (v := 1) (by decide) gx663 dX9_greatest_20 (fun m4 H locs hm4 ho4 hW hS => ?_)
    have ho4 := off1 ho4
    have w_x27_7 : m4 2707 = .int 1 := hm4
    have w_x42_6 : m4 4206 = .int r3.1 := (ho4 4206 rfl).trans w_x42_6
    have w_x42_7 : m4 4207 = .int r3.2.1 := (ho4 4207 rfl).trans w_x42_7
    have hoff := offm hoff ho4 (by decide +kernel)
    have hsh := SH.off hsh ho4 (by decide +kernel)
    exact hJ23_0 1 r3.1 r3.2.1 r3.2.2.1 r3.2.2.2.1 r3.2.2.2.2.1 r3.2.2.2.2.2.1 r3.2.2.2.2.2.2.1 r3.2.2.2.2.2.2.2 m4 a3 _ _ w_x27_7 w_x42_6 w_x42_7 hoff hsh w_A44 w_A46 w_A48 w_A50 w_A52 w_A54 hoffa ls (lv_sub hl [0] rfl) hs0 hW hS
-- HealLink$Survey.range ()V
def fX9_range (F : Nat) (x28_2 : Int32) (A30 : Nat → Int32) (A35 : Nat → Int32) (x27_8 : Int32) (A57 : Nat → Int32) (A59 : Nat → Int32) (A61 : Nat → Int32) (A63 : Nat → Int32) (A65 : Nat → Int32) : Option (Int32 × (Nat → Int32) × (Nat → Int32) × (Nat → Int32) × (Nat → Int32) × (Nat → Int32)) := (if x27_8 = 0 then ((fX5_measure F x28_2 A30 A35 A57 A59 A61 A63 A65).bind (fun r2 => some (1, r2.1, r2.2.1, r2.2.2.1, r2.2.2.2.1, r2.2.2.2.2))) else some (x27_8, A57, A59, A61, A63, A65))
theorem dX9_range_0 : decode cX9_range 0 = .ok (.aload_n 0, 1) := by decide +kernel
theorem dX9_range_1 : decode cX9_range 1 = .ok (.getfield 68, 3) := by decide +kernel
theorem dX9_range_4 : decode cX9_range 4 = .ok (.ifCond .ne 19, 3) := by decide +kernel
theorem dX9_range_7 : decode cX9_range 7 = .ok (.aload_n 0, 1) := by decide +kernel
theorem dX9_range_8 : decode cX9_range 8 = .ok (.getfield 35, 3) := by decide +kernel
theorem dX9_range_11 : decode cX9_range 11 = .ok (.aload_n 0, 1) := by decide +kernel
theorem dX9_range_12 : decode cX9_range 12 = .ok (.getfield 12, 3) := by decide +kernel
theorem dX9_range_15 : decode cX9_range 15 = .ok (.invokevirtual 85, 3) := by decide +kernel
theorem dX9_range_18 : decode cX9_range 18 = .ok (.aload_n 0, 1) := by decide +kernel
theorem dX9_range_19 : decode cX9_range 19 = .ok (.iconst 1, 1) := by decide +kernel
theorem dX9_range_20 : decode cX9_range 20 = .ok (.putfield 68, 3) := by decide +kernel
theorem dX9_range_23 : decode cX9_range 23 = .ok (.return_, 1) := by decide +kernel
set_option maxHeartbeats 4000000 in
set_option maxRecDepth 100000 in
theorem kX9_range {l : Launch} {D : va_G} {cy : Nat → ClassId} {N : Nat} {q : Nat → Nat} {m0 : Nat → Value} {a0 : Nat → vp_A} {sz : Nat} (hN : 105 ≤ N) (hsh : SH q m0) {x28_2 : Int32} (h_x28_2 : m0 2802 = .int x28_2) {A30 : Nat → Int32} (h_A30 : a0 30 = (6001, .inl A30)) {A35 : Nat → Int32} (h_A35 : a0 35 = (60000, .inl A35)) {x27_8 : Int32} (h_x27_8 : m0 2708 = .int x27_8) {A57 : Nat → Int32} (h_A57 : a0 57 = (6000, .inl A57)) {A59 : Nat → Int32} (h_A59 : a0 59 = (6000, .inl A59)) {A61 : Nat → Int32} (h_A61 : a0 61 = (6000, .inl A61)) {A63 : Nat → Int32} (h_A63 : a0 63 = (6001, .inl A63)) {A65 : Nat → Int32} (h_A65 : a0 65 = (60000, .inl A65)) (F : Nat) {X0 : Int32 × (Nat → Int32) × (Nat → Int32) × (Nat → Int32) × (Nat → Int32) × (Nat → Int32)} (hs0 : fX9_range F x28_2 A30 A35 x27_8 A57 A59 A61 A63 A65 = some X0) : gMv l yX9_range cX9_range 1 none ({ frames := 5, cells := 0, slots := 0, locals := 115 } : Room) D cy N q m0 a0 sz [.ref (q 27)] (fun m' a' => m' 2708 = .int X0.1 ∧ (∀ j, nel j [2708] = false → m' j = m0 j) ∧ a' 57 = (6000, .inl X0.2.1) ∧ a' 59 = (6000, .inl X0.2.2.1) ∧ a' 61 = (6000, .inl X0.2.2.2.1) ∧ a' 63 = (6001, .inl X0.2.2.2.2.1) ∧ a' 65 = (60000, .inl X0.2.2.2.2.2) ∧ (∀ j, nel j [57, 59, 61, 63, 65] = false → a' j = a0 j)) := by
  refine g_ofv (by decide) (Nat.le_of_ble_eq_true rfl) ?_
  intro p e s M args below meth c hx hb hr hG hown hin hlocks hml hW hS ls hl
  unfold fX9_range at hs0
  have hoff : ∀ j, nel j [2708] = false → m0 j = m0 j := off0
  have hoffa : ∀ j, nel j [57, 59, 61, 63, 65] = false → a0 j = a0 j := off0
  refine lv_aload_n hx hb dX9_range_0 rfl (lv_at hl 0 rfl) ?_
  refine gf9_8 hx hb hG hown hW (o := 27) (ltN hN 27 rfl) gk27 (v := .int x27_8) h_x27_8 gx664 dX9_range_1 ?_
  refine lv_if_ne (tgt := 23) hx hb dX9_range_4 (by decide) (fun c1 => ?_) (fun c1 => ?_)
  · rw [if_neg c1] at hs0
    have hs0 := Option.some.inj hs0
    subst hs0
    exact W.vret hx hb hr (fun t ht hw => ⟨⟨(m0, a0), rfl, ⟨h_x27_8, hoff, h_A57, h_A59, h_A61, h_A63, h_A65, hoffa⟩, g_end hW ht hw⟩, hS.F ht⟩) hS.2.2 dX9_range_23 hlocks
  · rw [if_pos c1] at hs0
    refine lv_aload_n hx hb dX9_range_7 rfl (lv_at hl 0 rfl) ?_
    refine gf9_3 hx hb hG hown hW (o := 27) (ltN hN 27 rfl) gk27 (v := .ref (q 55)) (sh27_3 hsh) gx99 dX9_range_8 ?_
    refine lv_aload_n hx hb dX9_range_11 rfl (lv_at hl 0 rfl) ?_
    refine gf9_0 hx hb hG hown hW (o := 27) (ltN hN 27 rfl) gk27 (v := .ref (q 28)) (sh27_0 hsh) gx87 dX9_range_12 ?_
    obtain ⟨r2, hf2, hs0⟩ := obind hs0
    refine g_Vv (n := 1) hx hb hml hown hG hW hS [.ref (q 28)] (kX5_measure hN hsh ((hoff 2802 rfl).trans h_x28_2) ((hoffa 30 rfl).trans h_A30) ((hoffa 35 rfl).trans h_A35) h_A57 h_A59 h_A61 h_A63 h_A65 F hf2) (ltN hN 55 rfl) gk55 (by decide) rfl rfl (gd_V gx840 gx841 gx842 gx98 gx843) rfl rfl (by decide) ⟨Nat.le_of_ble_eq_true rfl, Nat.le_of_ble_eq_true rfl⟩ rfl hl (Nat.le_of_ble_eq_true rfl) ⟨Nat.zero_le _, Nat.zero_le _⟩ dX9_range_15 (fun m2 a2 H locs hp2 hW hS => ?_)
    obtain ⟨hm2, hp2_A57, hp2_A59, hp2_A61, hp2_A63, hp2_A65, hoa2⟩ := hp2
    rw [hm2] at hW
    have w_A57 : a2 57 = (6000, .inl r2.1) := hp2_A57
    have w_A59 : a2 59 = (6000, .inl r2.2.1) := hp2_A59
    have w_A61 : a2 61 = (6000, .inl r2.2.2.1) := hp2_A61
    have w_A63 : a2 63 = (6001, .inl r2.2.2.2.1) := hp2_A63
    have w_A65 : a2 65 = (60000, .inl r2.2.2.2.2) := hp2_A65
    have hoffa := offm hoffa hoa2 (by decide +kernel)
    refine lv_aload_n hx hb dX9_range_18 rfl (lv_at hl 0 rfl) ?_
    refine lv_iconst (v := 1) hx hb dX9_range_19 (by decide) ?_
    refine gp9_8 hx hb hG hown hW hS (o := 27) (ltN hN 27 rfl) gk27 (v := 1) (by decide) gx664 dX9_range_20 (fun m3 H locs hm3 ho3 hW hS => ?_)
    have ho3 := off1 ho3
    have w_x27_8 : m3 2708 = .int 1 := hm3
    have hoff := offm hoff ho3 (by decide +kernel)
    have hsh := SH.off hsh ho3 (by decide +kernel)
    have hs0 := Option.some.inj hs0
    subst hs0
    exact W.vret hx hb hr (fun t ht hw => ⟨⟨(m3, a2), rfl, ⟨w_x27_8, hoff, w_A57, w_A59, w_A61, w_A63, w_A65, hoffa⟩, g_end hW ht hw⟩, hS.F ht⟩) hS.2.2 dX9_range_23 hlocks
-- HealLink$Survey.actsToBad ()I
def fX9_actsToBad (F : Nat) (x28_2 : Int32) (A30 : Nat → Int32) (A35 : Nat → Int32) (x27_8 : Int32) (A57 : Nat → Int32) (A59 : Nat → Int32) (A61 : Nat → Int32) (A63 : Nat → Int32) (A65 : Nat → Int32) : Option (Int32 × Int32 × (Nat → Int32) × (Nat → Int32) × (Nat → Int32) × (Nat → Int32) × (Nat → Int32)) := ((fX9_range F x28_2 A30 A35 x27_8 A57 A59 A61 A63 A65).bind (fun r1 => (if (cAt 6000 r1.2.1 0) = 0 then some ((-1), r1.1, r1.2.1, r1.2.2.1, r1.2.2.2.1, r1.2.2.2.2.1, r1.2.2.2.2.2) else some ((cAt 6000 r1.2.1 0), r1.1, r1.2.1, r1.2.2.1, r1.2.2.2.1, r1.2.2.2.2.1, r1.2.2.2.2.2))))
theorem dX9_actsToBad_0 : decode cX9_actsToBad 0 = .ok (.aload_n 0, 1) := by decide +kernel
theorem dX9_actsToBad_1 : decode cX9_actsToBad 1 = .ok (.invokevirtual 86, 3) := by decide +kernel
theorem dX9_actsToBad_4 : decode cX9_actsToBad 4 = .ok (.aload_n 0, 1) := by decide +kernel
theorem dX9_actsToBad_5 : decode cX9_actsToBad 5 = .ok (.getfield 35, 3) := by decide +kernel
theorem dX9_actsToBad_8 : decode cX9_actsToBad 8 = .ok (.getfield 89, 3) := by decide +kernel
theorem dX9_actsToBad_11 : decode cX9_actsToBad 11 = .ok (.iconst 0, 1) := by decide +kernel
theorem dX9_actsToBad_12 : decode cX9_actsToBad 12 = .ok (.invokevirtual 81, 3) := by decide +kernel
theorem dX9_actsToBad_15 : decode cX9_actsToBad 15 = .ok (.ifCond .ne 7, 3) := by decide +kernel
theorem dX9_actsToBad_18 : decode cX9_actsToBad 18 = .ok (.iconst (-1), 1) := by decide +kernel
theorem dX9_actsToBad_19 : decode cX9_actsToBad 19 = .ok (.goto 14, 3) := by decide +kernel
theorem dX9_actsToBad_22 : decode cX9_actsToBad 22 = .ok (.aload_n 0, 1) := by decide +kernel
theorem dX9_actsToBad_23 : decode cX9_actsToBad 23 = .ok (.getfield 35, 3) := by decide +kernel
theorem dX9_actsToBad_26 : decode cX9_actsToBad 26 = .ok (.getfield 89, 3) := by decide +kernel
theorem dX9_actsToBad_29 : decode cX9_actsToBad 29 = .ok (.iconst 0, 1) := by decide +kernel
theorem dX9_actsToBad_30 : decode cX9_actsToBad 30 = .ok (.invokevirtual 81, 3) := by decide +kernel
theorem dX9_actsToBad_33 : decode cX9_actsToBad 33 = .ok (.ireturn, 1) := by decide +kernel
set_option maxHeartbeats 4000000 in
set_option maxRecDepth 100000 in
theorem kX9_actsToBad {l : Launch} {D : va_G} {cy : Nat → ClassId} {N : Nat} {q : Nat → Nat} {m0 : Nat → Value} {a0 : Nat → vp_A} {sz : Nat} (hN : 105 ≤ N) (hsh : SH q m0) {x28_2 : Int32} (h_x28_2 : m0 2802 = .int x28_2) {A30 : Nat → Int32} (h_A30 : a0 30 = (6001, .inl A30)) {A35 : Nat → Int32} (h_A35 : a0 35 = (60000, .inl A35)) {x27_8 : Int32} (h_x27_8 : m0 2708 = .int x27_8) {A57 : Nat → Int32} (h_A57 : a0 57 = (6000, .inl A57)) {A59 : Nat → Int32} (h_A59 : a0 59 = (6000, .inl A59)) {A61 : Nat → Int32} (h_A61 : a0 61 = (6000, .inl A61)) {A63 : Nat → Int32} (h_A63 : a0 63 = (6001, .inl A63)) {A65 : Nat → Int32} (h_A65 : a0 65 = (60000, .inl A65)) (F : Nat) {X0 : Int32 × Int32 × (Nat → Int32) × (Nat → Int32) × (Nat → Int32) × (Nat → Int32) × (Nat → Int32)} (hs0 : fX9_actsToBad F x28_2 A30 A35 x27_8 A57 A59 A61 A63 A65 = some X0) : gMi l yX9_actsToBad cX9_actsToBad 1 (some .int) ({ frames := 6, cells := 0, slots := 0, locals := 135 } : Room) D cy N q m0 a0 sz [.ref (q 27)] (fun r m' a' => r = X0.1 ∧ m' 2708 = .int X0.2.1 ∧ (∀ j, nel j [2708] = false → m' j = m0 j) ∧ a' 57 = (6000, .inl X0.2.2.1) ∧ a' 59 = (6000, .inl X0.2.2.2.1) ∧ a' 61 = (6000, .inl X0.2.2.2.2.1) ∧ a' 63 = (6001, .inl X0.2.2.2.2.2.1) ∧ a' 65 = (60000, .inl X0.2.2.2.2.2.2) ∧ (∀ j, nel j [57, 59, 61, 63, 65] = false → a' j = a0 j)) := by
  refine g_ofi (by decide) (Nat.le_of_ble_eq_true rfl) ?_
  intro p e s M args below meth c hx hb hr hG hown hin hlocks hml hW hS ls hl
  unfold fX9_actsToBad at hs0
  have hoff : ∀ j, nel j [2708] = false → m0 j = m0 j := off0
  have hoffa : ∀ j, nel j [57, 59, 61, 63, 65] = false → a0 j = a0 j := off0
  refine lv_aload_n hx hb dX9_actsToBad_0 rfl (lv_at hl 0 rfl) ?_
  obtain ⟨r1, hf1, hs0⟩ := obind hs0
  refine g_Vv (n := 0) hx hb hml hown hG hW hS [] (kX9_range hN hsh ((hoff 2802 rfl).trans h_x28_2) ((hoffa 30 rfl).trans h_A30) ((hoffa 35 rfl).trans h_A35) h_x27_8 h_A57 h_A59 h_A61 h_A63 h_A65 F hf1) (ltN hN 27 rfl) gk27 (by decide) rfl rfl (gd_V gx836 gx837 gx838 gx35 gx839) rfl rfl (by decide) ⟨Nat.le_of_ble_eq_true rfl, Nat.le_of_ble_eq_true rfl⟩ rfl hl (Nat.le_of_ble_eq_true rfl) ⟨Nat.zero_le _, Nat.zero_le _⟩ dX9_actsToBad_1 (fun m1 a1 H locs hp1 hW hS => ?_)
  obtain ⟨hp1_x27_8, ho1, hp1_A57, hp1_A59, hp1_A61, hp1_A63, hp1_A65, hoa1⟩ := hp1
  have w_x27_8 : m1 2708 = .int r1.1 := hp1_x27_8
  have hoff := offm hoff ho1 (by decide +kernel)
  have hsh := SH.off hsh ho1 (by decide +kernel)
  have w_A57 : a1 57 = (6000, .inl r1.2.1) := hp1_A57
  have w_A59 : a1 59 = (6000, .inl r1.2.2.1) := hp1_A59
  have w_A61 : a1 61 = (6000, .inl r1.2.2.2.1) := hp1_A61
  have w_A63 : a1 63 = (6001, .inl r1.2.2.2.2.1) := hp1_A63
  have w_A65 : a1 65 = (60000, .inl r1.2.2.2.2.2) := hp1_A65
  have hoffa := offm hoffa hoa1 (by decide +kernel)
  refine lv_aload_n hx hb dX9_actsToBad_4 rfl (lv_at hl 0 rfl) ?_
  refine gf9_3 hx hb hG hown hW (o := 27) (ltN hN 27 rfl) gk27 (v := .ref (q 55)) (sh27_3 hsh) gx99 dX9_actsToBad_5 ?_
  refine gf5_0 hx hb hG hown hW (o := 55) (ltN hN 55 rfl) gk55 (v := .ref (q 56)) (sh55_0 hsh) gx835 dX9_actsToBad_8 ?_
  refine lv_iconst (v := 0) hx hb dX9_actsToBad_11 (by decide) ?_
  refine g_ViR (n := 1) hx hb hml hown hG hW hS [.int 0] (kX2_at (ltN hN 56 rfl) gk56 (ltN hN 57 rfl) gk57 (sh56_0 hsh) (by decide) w_A57 0) (ltN hN 56 rfl) gk56 (by decide) rfl rfl (gd_V gx795 gx564 gx565 gx47 gx566) rfl rfl (by decide) ⟨Nat.le_of_ble_eq_true rfl, Nat.le_of_ble_eq_true rfl⟩ rfl hl (Nat.le_of_ble_eq_true rfl) ⟨Nat.zero_le _, Nat.zero_le _⟩ dX9_actsToBad_12 (fun H locs hW hS => ?_)
  refine lv_if_ne (tgt := 22) hx hb dX9_actsToBad_15 (by decide) (fun c3 => ?_) (fun c3 => ?_)
  · rw [if_neg c3] at hs0
    refine lv_aload_n hx hb dX9_actsToBad_22 rfl (lv_at hl 0 rfl) ?_
    refine gf9_3 hx hb hG hown hW (o := 27) (ltN hN 27 rfl) gk27 (v := .ref (q 55)) (sh27_3 hsh) gx99 dX9_actsToBad_23 ?_
    refine gf5_0 hx hb hG hown hW (o := 55) (ltN hN 55 rfl) gk55 (v := .ref (q 56)) (sh55_0 hsh) gx835 dX9_actsToBad_26 ?_
    refine lv_iconst (v := 0) hx hb dX9_actsToBad_29 (by decide) ?_
    refine g_ViR (n := 1) hx hb hml hown hG hW hS [.int 0] (kX2_at (ltN hN 56 rfl) gk56 (ltN hN 57 rfl) gk57 (sh56_0 hsh) (by decide) w_A57 0) (ltN hN 56 rfl) gk56 (by decide) rfl rfl (gd_V gx795 gx564 gx565 gx47 gx566) rfl rfl (by decide) ⟨Nat.le_of_ble_eq_true rfl, Nat.le_of_ble_eq_true rfl⟩ rfl hl (Nat.le_of_ble_eq_true rfl) ⟨Nat.zero_le _, Nat.zero_le _⟩ dX9_actsToBad_30 (fun H locs hW hS => ?_)
    have hs0 := Option.some.inj hs0
    subst hs0
    exact W.zret hx hb hr rfl (fun t ht hw => ⟨⟨_, (m1, a1), rfl, ⟨rfl, w_x27_8, hoff, w_A57, w_A59, w_A61, w_A63, w_A65, hoffa⟩, g_end hW ht hw⟩, hS.F ht⟩) hS.2.2 dX9_actsToBad_33 hlocks
  · rw [if_pos c3] at hs0
    refine lv_iconst (v := (-1)) hx hb dX9_actsToBad_18 (by decide) ?_
    refine lv_goto (tgt := 33) hx hb dX9_actsToBad_19 (by decide) ?_
    have hs0 := Option.some.inj hs0
    subst hs0
    exact W.zret hx hb hr rfl (fun t ht hw => ⟨⟨_, (m1, a1), rfl, ⟨rfl, w_x27_8, hoff, w_A57, w_A59, w_A61, w_A63, w_A65, hoffa⟩, g_end hW ht hw⟩, hS.F ht⟩) hS.2.2 dX9_actsToBad_33 hlocks
-- HealLink$Survey.actsToGood ()I
def fX9_actsToGood (F : Nat) (x28_2 : Int32) (A30 : Nat → Int32) (A35 : Nat → Int32) (x27_8 : Int32) (A57 : Nat → Int32) (A59 : Nat → Int32) (A61 : Nat → Int32) (A63 : Nat → Int32) (A65 : Nat → Int32) : Option (Int32 × Int32 × (Nat → Int32) × (Nat → Int32) × (Nat → Int32) × (Nat → Int32) × (Nat → Int32)) := ((fX9_range F x28_2 A30 A35 x27_8 A57 A59 A61 A63 A65).bind (fun r1 => (if (cAt 6000 r1.2.2.1 0) = 0 then some ((-1), r1.1, r1.2.1, r1.2.2.1, r1.2.2.2.1, r1.2.2.2.2.1, r1.2.2.2.2.2) else some ((cAt 6000 r1.2.2.1 0), r1.1, r1.2.1, r1.2.2.1, r1.2.2.2.1, r1.2.2.2.2.1, r1.2.2.2.2.2))))
theorem dX9_actsToGood_0 : decode cX9_actsToGood 0 = .ok (.aload_n 0, 1) := by decide +kernel
theorem dX9_actsToGood_1 : decode cX9_actsToGood 1 = .ok (.invokevirtual 86, 3) := by decide +kernel
theorem dX9_actsToGood_4 : decode cX9_actsToGood 4 = .ok (.aload_n 0, 1) := by decide +kernel
theorem dX9_actsToGood_5 : decode cX9_actsToGood 5 = .ok (.getfield 35, 3) := by decide +kernel
theorem dX9_actsToGood_8 : decode cX9_actsToGood 8 = .ok (.getfield 92, 3) := by decide +kernel
theorem dX9_actsToGood_11 : decode cX9_actsToGood 11 = .ok (.iconst 0, 1) := by decide +kernel
theorem dX9_actsToGood_12 : decode cX9_actsToGood 12 = .ok (.invokevirtual 81, 3) := by decide +kernel
theorem dX9_actsToGood_15 : decode cX9_actsToGood 15 = .ok (.ifCond .ne 7, 3) := by decide +kernel
theorem dX9_actsToGood_18 : decode cX9_actsToGood 18 = .ok (.iconst (-1), 1) := by decide +kernel
theorem dX9_actsToGood_19 : decode cX9_actsToGood 19 = .ok (.goto 14, 3) := by decide +kernel
theorem dX9_actsToGood_22 : decode cX9_actsToGood 22 = .ok (.aload_n 0, 1) := by decide +kernel
theorem dX9_actsToGood_23 : decode cX9_actsToGood 23 = .ok (.getfield 35, 3) := by decide +kernel
theorem dX9_actsToGood_26 : decode cX9_actsToGood 26 = .ok (.getfield 92, 3) := by decide +kernel
theorem dX9_actsToGood_29 : decode cX9_actsToGood 29 = .ok (.iconst 0, 1) := by decide +kernel
theorem dX9_actsToGood_30 : decode cX9_actsToGood 30 = .ok (.invokevirtual 81, 3) := by decide +kernel
theorem dX9_actsToGood_33 : decode cX9_actsToGood 33 = .ok (.ireturn, 1) := by decide +kernel
set_option maxHeartbeats 4000000 in
set_option maxRecDepth 100000 in
theorem kX9_actsToGood {l : Launch} {D : va_G} {cy : Nat → ClassId} {N : Nat} {q : Nat → Nat} {m0 : Nat → Value} {a0 : Nat → vp_A} {sz : Nat} (hN : 105 ≤ N) (hsh : SH q m0) {x28_2 : Int32} (h_x28_2 : m0 2802 = .int x28_2) {A30 : Nat → Int32} (h_A30 : a0 30 = (6001, .inl A30)) {A35 : Nat → Int32} (h_A35 : a0 35 = (60000, .inl A35)) {x27_8 : Int32} (h_x27_8 : m0 2708 = .int x27_8) {A57 : Nat → Int32} (h_A57 : a0 57 = (6000, .inl A57)) {A59 : Nat → Int32} (h_A59 : a0 59 = (6000, .inl A59)) {A61 : Nat → Int32} (h_A61 : a0 61 = (6000, .inl A61)) {A63 : Nat → Int32} (h_A63 : a0 63 = (6001, .inl A63)) {A65 : Nat → Int32} (h_A65 : a0 65 = (60000, .inl A65)) (F : Nat) {X0 : Int32 × Int32 × (Nat → Int32) × (Nat → Int32) × (Nat → Int32) × (Nat → Int32) × (Nat → Int32)} (hs0 : fX9_actsToGood F x28_2 A30 A35 x27_8 A57 A59 A61 A63 A65 = some X0) : gMi l yX9_actsToGood cX9_actsToGood 1 (some .int) ({ frames := 6, cells := 0, slots := 0, locals := 135 } : Room) D cy N q m0 a0 sz [.ref (q 27)] (fun r m' a' => r = X0.1 ∧ m' 2708 = .int X0.2.1 ∧ (∀ j, nel j [2708] = false → m' j = m0 j) ∧ a' 57 = (6000, .inl X0.2.2.1) ∧ a' 59 = (6000, .inl X0.2.2.2.1) ∧ a' 61 = (6000, .inl X0.2.2.2.2.1) ∧ a' 63 = (6001, .inl X0.2.2.2.2.2.1) ∧ a' 65 = (60000, .inl X0.2.2.2.2.2.2) ∧ (∀ j, nel j [57, 59, 61, 63, 65] = false → a' j = a0 j)) := by
  refine g_ofi (by decide) (Nat.le_of_ble_eq_true rfl) ?_
  intro p e s M args below meth c hx hb hr hG hown hin hlocks hml hW hS ls hl
  unfold fX9_actsToGood at hs0
  have hoff : ∀ j, nel j [2708] = false → m0 j = m0 j := off0
  have hoffa : ∀ j, nel j [57, 59, 61, 63, 65] = false → a0 j = a0 j := off0
  refine lv_aload_n hx hb dX9_actsToGood_0 rfl (lv_at hl 0 rfl) ?_
  obtain ⟨r1, hf1, hs0⟩ := obind hs0
  refine g_Vv (n := 0) hx hb hml hown hG hW hS [] (kX9_range hN hsh ((hoff 2802 rfl).trans h_x28_2) ((hoffa 30 rfl).trans h_A30) ((hoffa 35 rfl).trans h_A35) h_x27_8 h_A57 h_A59 h_A61 h_A63 h_A65 F hf1) (ltN hN 27 rfl) gk27 (by decide) rfl rfl (gd_V gx836 gx837 gx838 gx35 gx839) rfl rfl (by decide) ⟨Nat.le_of_ble_eq_true rfl, Nat.le_of_ble_eq_true rfl⟩ rfl hl (Nat.le_of_ble_eq_true rfl) ⟨Nat.zero_le _, Nat.zero_le _⟩ dX9_actsToGood_1 (fun m1 a1 H locs hp1 hW hS => ?_)
  obtain ⟨hp1_x27_8, ho1, hp1_A57, hp1_A59, hp1_A61, hp1_A63, hp1_A65, hoa1⟩ := hp1
  have w_x27_8 : m1 2708 = .int r1.1 := hp1_x27_8
  have hoff := offm hoff ho1 (by decide +kernel)
  have hsh := SH.off hsh ho1 (by decide +kernel)
  have w_A57 : a1 57 = (6000, .inl r1.2.1) := hp1_A57
  have w_A59 : a1 59 = (6000, .inl r1.2.2.1) := hp1_A59
  have w_A61 : a1 61 = (6000, .inl r1.2.2.2.1) := hp1_A61
  have w_A63 : a1 63 = (6001, .inl r1.2.2.2.2.1) := hp1_A63
  have w_A65 : a1 65 = (60000, .inl r1.2.2.2.2.2) := hp1_A65
  have hoffa := offm hoffa hoa1 (by decide +kernel)
  refine lv_aload_n hx hb dX9_actsToGood_4 rfl (lv_at hl 0 rfl) ?_
  refine gf9_3 hx hb hG hown hW (o := 27) (ltN hN 27 rfl) gk27 (v := .ref (q 55)) (sh27_3 hsh) gx99 dX9_actsToGood_5 ?_
  refine gf5_1 hx hb hG hown hW (o := 55) (ltN hN 55 rfl) gk55 (v := .ref (q 58)) (sh55_1 hsh) gx909 dX9_actsToGood_8 ?_
  refine lv_iconst (v := 0) hx hb dX9_actsToGood_11 (by decide) ?_
  refine g_ViR (n := 1) hx hb hml hown hG hW hS [.int 0] (kX2_at (ltN hN 58 rfl) gk58 (ltN hN 59 rfl) gk59 (sh58_0 hsh) (by decide) w_A59 0) (ltN hN 58 rfl) gk58 (by decide) rfl rfl (gd_V gx795 gx564 gx565 gx47 gx566) rfl rfl (by decide) ⟨Nat.le_of_ble_eq_true rfl, Nat.le_of_ble_eq_true rfl⟩ rfl hl (Nat.le_of_ble_eq_true rfl) ⟨Nat.zero_le _, Nat.zero_le _⟩ dX9_actsToGood_12 (fun H locs hW hS => ?_)
  refine lv_if_ne (tgt := 22) hx hb dX9_actsToGood_15 (by decide) (fun c3 => ?_) (fun c3 => ?_)
  · rw [if_neg c3] at hs0
    refine lv_aload_n hx hb dX9_actsToGood_22 rfl (lv_at hl 0 rfl) ?_
    refine gf9_3 hx hb hG hown hW (o := 27) (ltN hN 27 rfl) gk27 (v := .ref (q 55)) (sh27_3 hsh) gx99 dX9_actsToGood_23 ?_
    refine gf5_1 hx hb hG hown hW (o := 55) (ltN hN 55 rfl) gk55 (v := .ref (q 58)) (sh55_1 hsh) gx909 dX9_actsToGood_26 ?_
    refine lv_iconst (v := 0) hx hb dX9_actsToGood_29 (by decide) ?_
    refine g_ViR (n := 1) hx hb hml hown hG hW hS [.int 0] (kX2_at (ltN hN 58 rfl) gk58 (ltN hN 59 rfl) gk59 (sh58_0 hsh) (by decide) w_A59 0) (ltN hN 58 rfl) gk58 (by decide) rfl rfl (gd_V gx795 gx564 gx565 gx47 gx566) rfl rfl (by decide) ⟨Nat.le_of_ble_eq_true rfl, Nat.le_of_ble_eq_true rfl⟩ rfl hl (Nat.le_of_ble_eq_true rfl) ⟨Nat.zero_le _, Nat.zero_le _⟩ dX9_actsToGood_30 (fun H locs hW hS => ?_)
    have hs0 := Option.some.inj hs0
    subst hs0
    exact W.zret hx hb hr rfl (fun t ht hw => ⟨⟨_, (m1, a1), rfl, ⟨rfl, w_x27_8, hoff, w_A57, w_A59, w_A61, w_A63, w_A65, hoffa⟩, g_end hW ht hw⟩, hS.F ht⟩) hS.2.2 dX9_actsToGood_33 hlocks
  · rw [if_pos c3] at hs0
    refine lv_iconst (v := (-1)) hx hb dX9_actsToGood_18 (by decide) ?_
    refine lv_goto (tgt := 33) hx hb dX9_actsToGood_19 (by decide) ?_
    have hs0 := Option.some.inj hs0
    subst hs0
    exact W.zret hx hb hr rfl (fun t ht hw => ⟨⟨_, (m1, a1), rfl, ⟨rfl, w_x27_8, hoff, w_A57, w_A59, w_A61, w_A63, w_A65, hoffa⟩, g_end hW ht hw⟩, hS.F ht⟩) hS.2.2 dX9_actsToGood_33 hlocks
-- HealLink$Survey.withoutGood ()I
def fX9_withoutGood_J39 (F : Nat) (x28_2 : Int32) (A30 : Nat → Int32) (A35 : Nat → Int32) (v2j6 : Int32) (s0j6 : Int32) (s1j6 : Int32) (x27_8 : Int32) (A57 : Nat → Int32) (A59 : Nat → Int32) (A61 : Nat → Int32) (A63 : Nat → Int32) (A65 : Nat → Int32) : Option ((Int32) ⊕ (Int32 × Int32)) := some (Sum.inr (s1j6 + s0j6, v2j6 + 1))
def fX9_withoutGood_S8 (F : Nat) (x28_2 : Int32) (A30 : Nat → Int32) (A35 : Nat → Int32) (x27_8 : Int32) (A57 : Nat → Int32) (A59 : Nat → Int32) (A61 : Nat → Int32) (A63 : Nat → Int32) (A65 : Nat → Int32) (v1 : Int32) (v2 : Int32) : Option ((Int32) ⊕ (Int32 × Int32)) := (if x28_2 ≤ v2 then some (Sum.inl v1) else (if (cAt 6000 A59 v2) = 0 then fX9_withoutGood_J39 F x28_2 A30 A35 v2 1 v1 x27_8 A57 A59 A61 A63 A65 else fX9_withoutGood_J39 F x28_2 A30 A35 v2 0 v1 x27_8 A57 A59 A61 A63 A65))
def fX9_withoutGood (F : Nat) (x28_2 : Int32) (A30 : Nat → Int32) (A35 : Nat → Int32) (x27_8 : Int32) (A57 : Nat → Int32) (A59 : Nat → Int32) (A61 : Nat → Int32) (A63 : Nat → Int32) (A65 : Nat → Int32) : Option (Int32 × Int32 × (Nat → Int32) × (Nat → Int32) × (Nat → Int32) × (Nat → Int32) × (Nat → Int32)) := ((fX9_range F x28_2 A30 A35 x27_8 A57 A59 A61 A63 A65).bind (fun r1 => (gloop (fun u2 : (Int32 × Int32) => fX9_withoutGood_S8 F x28_2 A30 A35 r1.1 r1.2.1 r1.2.2.1 r1.2.2.2.1 r1.2.2.2.2.1 r1.2.2.2.2.2 u2.1 u2.2) F (0, 0)).bind (fun t2_47 => some (t2_47, r1.1, r1.2.1, r1.2.2.1, r1.2.2.2.1, r1.2.2.2.2.1, r1.2.2.2.2.2))))
theorem dX9_withoutGood_0 : decode cX9_withoutGood 0 = .ok (.aload_n 0, 1) := by decide +kernel
theorem dX9_withoutGood_1 : decode cX9_withoutGood 1 = .ok (.invokevirtual 86, 3) := by decide +kernel
theorem dX9_withoutGood_4 : decode cX9_withoutGood 4 = .ok (.iconst 0, 1) := by decide +kernel
theorem dX9_withoutGood_5 : decode cX9_withoutGood 5 = .ok (.istore_n 1, 1) := by decide +kernel
theorem dX9_withoutGood_6 : decode cX9_withoutGood 6 = .ok (.iconst 0, 1) := by decide +kernel
theorem dX9_withoutGood_7 : decode cX9_withoutGood 7 = .ok (.istore_n 2, 1) := by decide +kernel
theorem dX9_withoutGood_8 : decode cX9_withoutGood 8 = .ok (.iload_n 2, 1) := by decide +kernel
theorem dX9_withoutGood_9 : decode cX9_withoutGood 9 = .ok (.aload_n 0, 1) := by decide +kernel
theorem dX9_withoutGood_10 : decode cX9_withoutGood 10 = .ok (.getfield 12, 3) := by decide +kernel
theorem dX9_withoutGood_13 : decode cX9_withoutGood 13 = .ok (.getfield 95, 3) := by decide +kernel
theorem dX9_withoutGood_16 : decode cX9_withoutGood 16 = .ok (.if_icmp .ge 31, 3) := by decide +kernel
theorem dX9_withoutGood_19 : decode cX9_withoutGood 19 = .ok (.iload_n 1, 1) := by decide +kernel
theorem dX9_withoutGood_20 : decode cX9_withoutGood 20 = .ok (.aload_n 0, 1) := by decide +kernel
theorem dX9_withoutGood_21 : decode cX9_withoutGood 21 = .ok (.getfield 35, 3) := by decide +kernel
theorem dX9_withoutGood_24 : decode cX9_withoutGood 24 = .ok (.getfield 92, 3) := by decide +kernel
theorem dX9_withoutGood_27 : decode cX9_withoutGood 27 = .ok (.iload_n 2, 1) := by decide +kernel
theorem dX9_withoutGood_28 : decode cX9_withoutGood 28 = .ok (.invokevirtual 81, 3) := by decide +kernel
theorem dX9_withoutGood_31 : decode cX9_withoutGood 31 = .ok (.ifCond .ne 7, 3) := by decide +kernel
theorem dX9_withoutGood_34 : decode cX9_withoutGood 34 = .ok (.iconst 1, 1) := by decide +kernel
theorem dX9_withoutGood_35 : decode cX9_withoutGood 35 = .ok (.goto 4, 3) := by decide +kernel
theorem dX9_withoutGood_38 : decode cX9_withoutGood 38 = .ok (.iconst 0, 1) := by decide +kernel
theorem dX9_withoutGood_39 : decode cX9_withoutGood 39 = .ok (.iadd, 1) := by decide +kernel
theorem dX9_withoutGood_40 : decode cX9_withoutGood 40 = .ok (.istore_n 1, 1) := by decide +kernel
theorem dX9_withoutGood_41 : decode cX9_withoutGood 41 = .ok (.iinc 2 1, 3) := by decide +kernel
theorem dX9_withoutGood_44 : decode cX9_withoutGood 44 = .ok (.goto (-36), 3) := by decide +kernel
theorem dX9_withoutGood_47 : decode cX9_withoutGood 47 = .ok (.iload_n 1, 1) := by decide +kernel
theorem dX9_withoutGood_48 : decode cX9_withoutGood 48 = .ok (.ireturn, 1) := by decide +kernel
set_option maxHeartbeats 4000000 in
set_option maxRecDepth 100000 in
theorem kX9_withoutGood {l : Launch} {D : va_G} {cy : Nat → ClassId} {N : Nat} {q : Nat → Nat} {m0 : Nat → Value} {a0 : Nat → vp_A} {sz : Nat} (hN : 105 ≤ N) (hsh : SH q m0) {x28_2 : Int32} (h_x28_2 : m0 2802 = .int x28_2) {A30 : Nat → Int32} (h_A30 : a0 30 = (6001, .inl A30)) {A35 : Nat → Int32} (h_A35 : a0 35 = (60000, .inl A35)) {x27_8 : Int32} (h_x27_8 : m0 2708 = .int x27_8) {A57 : Nat → Int32} (h_A57 : a0 57 = (6000, .inl A57)) {A59 : Nat → Int32} (h_A59 : a0 59 = (6000, .inl A59)) {A61 : Nat → Int32} (h_A61 : a0 61 = (6000, .inl A61)) {A63 : Nat → Int32} (h_A63 : a0 63 = (6001, .inl A63)) {A65 : Nat → Int32} (h_A65 : a0 65 = (60000, .inl A65)) (F : Nat) {X0 : Int32 × Int32 × (Nat → Int32) × (Nat → Int32) × (Nat → Int32) × (Nat → Int32) × (Nat → Int32)} (hs0 : fX9_withoutGood F x28_2 A30 A35 x27_8 A57 A59 A61 A63 A65 = some X0) : gMi l yX9_withoutGood cX9_withoutGood 3 (some .int) ({ frames := 6, cells := 0, slots := 0, locals := 135 } : Room) D cy N q m0 a0 sz [.ref (q 27)] (fun r m' a' => r = X0.1 ∧ m' 2708 = .int X0.2.1 ∧ (∀ j, nel j [2708] = false → m' j = m0 j) ∧ a' 57 = (6000, .inl X0.2.2.1) ∧ a' 59 = (6000, .inl X0.2.2.2.1) ∧ a' 61 = (6000, .inl X0.2.2.2.2.1) ∧ a' 63 = (6001, .inl X0.2.2.2.2.2.1) ∧ a' 65 = (60000, .inl X0.2.2.2.2.2.2) ∧ (∀ j, nel j [57, 59, 61, 63, 65] = false → a' j = a0 j)) := by
  refine g_ofi (by decide) (Nat.le_of_ble_eq_true rfl) ?_
  intro p e s M args below meth c hx hb hr hG hown hin hlocks hml hW hS ls hl
  unfold fX9_withoutGood at hs0
  have hoff : ∀ j, nel j [2708] = false → m0 j = m0 j := off0
  have hoffa : ∀ j, nel j [57, 59, 61, 63, 65] = false → a0 j = a0 j := off0
  refine lv_aload_n hx hb dX9_withoutGood_0 rfl (lv_at hl 0 rfl) ?_
  obtain ⟨r1, hf1, hs0⟩ := obind hs0
  refine g_Vv (n := 0) hx hb hml hown hG hW hS [] (kX9_range hN hsh ((hoff 2802 rfl).trans h_x28_2) ((hoffa 30 rfl).trans h_A30) ((hoffa 35 rfl).trans h_A35) h_x27_8 h_A57 h_A59 h_A61 h_A63 h_A65 F hf1) (ltN hN 27 rfl) gk27 (by decide) rfl rfl (gd_V gx836 gx837 gx838 gx35 gx839) rfl rfl (by decide) ⟨Nat.le_of_ble_eq_true rfl, Nat.le_of_ble_eq_true rfl⟩ rfl hl (Nat.le_of_ble_eq_true rfl) ⟨Nat.zero_le _, Nat.zero_le _⟩ dX9_withoutGood_1 (fun m1 a1 H locs hp1 hW hS => ?_)
  obtain ⟨hp1_x27_8, ho1, hp1_A57, hp1_A59, hp1_A61, hp1_A63, hp1_A65, hoa1⟩ := hp1
  have w_x27_8 : m1 2708 = .int r1.1 := hp1_x27_8
  have hoff := offm hoff ho1 (by decide +kernel)
  have hsh := SH.off hsh ho1 (by decide +kernel)
  have w_A57 : a1 57 = (6000, .inl r1.2.1) := hp1_A57
  have w_A59 : a1 59 = (6000, .inl r1.2.2.1) := hp1_A59
  have w_A61 : a1 61 = (6000, .inl r1.2.2.2.1) := hp1_A61
  have w_A63 : a1 63 = (6001, .inl r1.2.2.2.2.1) := hp1_A63
  have w_A65 : a1 65 = (60000, .inl r1.2.2.2.2.2) := hp1_A65
  have hoffa := offm hoffa hoa1 (by decide +kernel)
  refine lv_iconst (v := 0) hx hb dX9_withoutGood_4 (by decide) ?_
  refine lv_istore_n (lv' := [(1, .int 0), (0, .ref (q 27))]) hx hb dX9_withoutGood_5 rfl hl (by decide) rfl (fun ls hl => ?_)
  refine lv_iconst (v := 0) hx hb dX9_withoutGood_6 (by decide) ?_
  refine lv_istore_n (lv' := [(2, .int 0), (1, .int 0), (0, .ref (q 27))]) hx hb dX9_withoutGood_7 rfl hl (by decide) rfl (fun ls hl => ?_)
  obtain ⟨r2, hg2, hs0⟩ := obind hs0
  have hE1_47 : ∀ (t2_47 : Int32) (hr2 : t2_47 = r2) (m : Nat → Value) (a : Nat → vp_A) (H : Heap) (locs : List Loc) (w_x27_8 : m 2708 = .int r1.1) (hoff : ∀ j, nel j [2708] = false → m j = m0 j) (hsh : SH q m) (w_A57 : a 57 = (6000, .inl r1.2.1)) (w_A59 : a 59 = (6000, .inl r1.2.2.1)) (w_A61 : a 61 = (6000, .inl r1.2.2.2.1)) (w_A63 : a 63 = (6001, .inl r1.2.2.2.2.1)) (w_A65 : a 65 = (60000, .inl r1.2.2.2.2.2)) (hoffa : ∀ j, nel j [57, 59, 61, 63, 65] = false → a j = a0 j) (ls : Array Slot) (hl : lv_has ls 3 [(1, .int t2_47)]) (hW : GW D cy (gA N q s.heap.size) N q m a s H) (hS : va_S (gA N q s.heap.size) s.heap H locs), W p l e ({ frames := 6, cells := 0, slots := 0, locals := 135 } : Room) s M args below meth c H locs 0 0 (MQ below (va_Qi (fun (r : Int32) (u : (Nat → Value) × (Nat → vp_A)) => r = X0.1 ∧ u.1 2708 = .int X0.2.1 ∧ (∀ j, nel j [2708] = false → u.1 j = m0 j) ∧ u.2 57 = (6000, .inl X0.2.2.1) ∧ u.2 59 = (6000, .inl X0.2.2.2.1) ∧ u.2 61 = (6000, .inl X0.2.2.2.2.1) ∧ u.2 63 = (6001, .inl X0.2.2.2.2.2.1) ∧ u.2 65 = (60000, .inl X0.2.2.2.2.2.2) ∧ (∀ j, nel j [57, 59, 61, 63, 65] = false → u.2 j = a0 j)) (gB D cy N q s.heap.size) (gA N q s.heap.size)) args s 0 0 (gA N q s.heap.size)) (F0 M 47 ls []) := by
    intro t2_47 hr2 m a H locs w_x27_8 hoff hsh w_A57 w_A59 w_A61 w_A63 w_A65 hoffa ls hl hW hS
    subst hr2
    refine lv_iload_n hx hb dX9_withoutGood_47 rfl (lv_at hl 0 rfl) ?_
    have hs0 := Option.some.inj hs0
    subst hs0
    exact W.zret hx hb hr rfl (fun t ht hw => ⟨⟨_, (m, a), rfl, ⟨rfl, w_x27_8, hoff, w_A57, w_A59, w_A61, w_A63, w_A65, hoffa⟩, g_end hW ht hw⟩, hS.F ht⟩) hS.2.2 dX9_withoutGood_48 hlocks
  have hL1 : ∀ (n : Nat) (v1k2 : Int32) (v2k2 : Int32) (m : Nat → Value) (a : Nat → vp_A) (H : Heap) (locs : List Loc) (w_x27_8 : m 2708 = .int r1.1) (hoff : ∀ j, nel j [2708] = false → m j = m0 j) (hsh : SH q m) (w_A57 : a 57 = (6000, .inl r1.2.1)) (w_A59 : a 59 = (6000, .inl r1.2.2.1)) (w_A61 : a 61 = (6000, .inl r1.2.2.2.1)) (w_A63 : a 63 = (6001, .inl r1.2.2.2.2.1)) (w_A65 : a 65 = (60000, .inl r1.2.2.2.2.2)) (hoffa : ∀ j, nel j [57, 59, 61, 63, 65] = false → a j = a0 j) (ls : Array Slot) (hl : lv_has ls 3 [(0, .ref (q 27)), (1, .int v1k2), (2, .int v2k2)]) (hg2 : gloop (fun u2 : (Int32 × Int32) => fX9_withoutGood_S8 F x28_2 A30 A35 r1.1 r1.2.1 r1.2.2.1 r1.2.2.2.1 r1.2.2.2.2.1 r1.2.2.2.2.2 u2.1 u2.2) n (v1k2, v2k2) = some r2) (hW : GW D cy (gA N q s.heap.size) N q m a s H) (hS : va_S (gA N q s.heap.size) s.heap H locs), W p l e ({ frames := 6, cells := 0, slots := 0, locals := 135 } : Room) s M args below meth c H locs 0 0 (MQ below (va_Qi (fun (r : Int32) (u : (Nat → Value) × (Nat → vp_A)) => r = X0.1 ∧ u.1 2708 = .int X0.2.1 ∧ (∀ j, nel j [2708] = false → u.1 j = m0 j) ∧ u.2 57 = (6000, .inl X0.2.2.1) ∧ u.2 59 = (6000, .inl X0.2.2.2.1) ∧ u.2 61 = (6000, .inl X0.2.2.2.2.1) ∧ u.2 63 = (6001, .inl X0.2.2.2.2.2.1) ∧ u.2 65 = (60000, .inl X0.2.2.2.2.2.2) ∧ (∀ j, nel j [57, 59, 61, 63, 65] = false → u.2 j = a0 j)) (gB D cy N q s.heap.size) (gA N q s.heap.size)) args s 0 0 (gA N q s.heap.size)) (F0 M 8 ls []) := by
    intro n
    induction n with
    | zero => intro v1k2 v2k2 m a H locs w_x27_8 hoff hsh w_A57 w_A59 w_A61 w_A63 w_A65 hoffa ls hl hg2 hW hS; exact (gl_zero hg2).elim
    | succ n ih1 =>
      intro v1k2 v2k2 m a H locs w_x27_8 hoff hsh w_A57 w_A59 w_A61 w_A63 w_A65 hoffa ls hl hg2 hW hS
      obtain ⟨X1, hs1, hXl1, hXr1⟩ := gl_succ hg2
      have hs1 : fX9_withoutGood_S8 F x28_2 A30 A35 r1.1 r1.2.1 r1.2.2.1 r1.2.2.2.1 r1.2.2.2.2.1 r1.2.2.2.2.2 v1k2 v2k2 = some X1 := hs1
      unfold fX9_withoutGood_S8 at hs1
      have hJ39_1 : ∀ (v2j10 : Int32) (s0j10 : Int32) (s1j10 : Int32) (m : Nat → Value) (a : Nat → vp_A) (H : Heap) (locs : List Loc) (w_x27_8 : m 2708 = .int r1.1) (hoff : ∀ j, nel j [2708] = false → m j = m0 j) (hsh : SH q m) (w_A57 : a 57 = (6000, .inl r1.2.1)) (w_A59 : a 59 = (6000, .inl r1.2.2.1)) (w_A61 : a 61 = (6000, .inl r1.2.2.2.1)) (w_A63 : a 63 = (6001, .inl r1.2.2.2.2.1)) (w_A65 : a 65 = (60000, .inl r1.2.2.2.2.2)) (hoffa : ∀ j, nel j [57, 59, 61, 63, 65] = false → a j = a0 j) (ls : Array Slot) (hl : lv_has ls 3 [(0, .ref (q 27)), (2, .int v2j10)]) (hs1 : fX9_withoutGood_J39 F x28_2 A30 A35 v2j10 s0j10 s1j10 r1.1 r1.2.1 r1.2.2.1 r1.2.2.2.1 r1.2.2.2.2.1 r1.2.2.2.2.2 = some X1) (hW : GW D cy (gA N q s.heap.size) N q m a s H) (hS : va_S (gA N q s.heap.size) s.heap H locs), W p l e ({ frames := 6, cells := 0, slots := 0, locals := 135 } : Room) s M args below meth c H locs 0 0 (MQ below (va_Qi (fun (r : Int32) (u : (Nat → Value) × (Nat → vp_A)) => r = X0.1 ∧ u.1 2708 = .int X0.2.1 ∧ (∀ j, nel j [2708] = false → u.1 j = m0 j) ∧ u.2 57 = (6000, .inl X0.2.2.1) ∧ u.2 59 = (6000, .inl X0.2.2.2.1) ∧ u.2 61 = (6000, .inl X0.2.2.2.2.1) ∧ u.2 63 = (6001, .inl X0.2.2.2.2.2.1) ∧ u.2 65 = (60000, .inl X0.2.2.2.2.2.2) ∧ (∀ j, nel j [57, 59, 61, 63, 65] = false → u.2 j = a0 j)) (gB D cy N q s.heap.size) (gA N q s.heap.size)) args s 0 0 (gA N q s.heap.size)) (F0 M 39 ls [.int s0j10, .int s1j10]) := by
        intro v2j10 s0j10 s1j10 m a H locs w_x27_8 hoff hsh w_A57 w_A59 w_A61 w_A63 w_A65 hoffa ls hl hs1 hW hS
        unfold fX9_withoutGood_J39 at hs1
        refine lv_iadd hx hb dX9_withoutGood_39 ?_
        refine lv_istore_n (lv' := [(1, .int (s1j10 + s0j10)), (0, .ref (q 27)), (2, .int v2j10)]) hx hb dX9_withoutGood_40 rfl hl (by decide) rfl (fun ls hl => ?_)
        refine lv_iinc (v := v2j10 + 1) (lv' := [(2, .int (v2j10 + 1)), (1, .int (s1j10 + s0j10)), (0, .ref (q 27))]) hx hb dX9_withoutGood_41 hl (k := 2) rfl rfl (by decide) rfl (fun ls hl => ?_)
        refine lv_goto (tgt := 8) hx hb dX9_withoutGood_44 (by decide) ?_
        exact ih1 (s1j10 + s0j10) (v2j10 + 1) m a _ _ w_x27_8 hoff hsh w_A57 w_A59 w_A61 w_A63 w_A65 hoffa ls (lv_sub hl [2, 1, 0] rfl) (hXr1 _ (Option.some.inj hs1).symm) hW hS
      refine lv_iload_n hx hb dX9_withoutGood_8 rfl (lv_at hl 2 rfl) ?_
      refine lv_aload_n hx hb dX9_withoutGood_9 rfl (lv_at hl 0 rfl) ?_
      refine gf9_0 hx hb hG hown hW (o := 27) (ltN hN 27 rfl) gk27 (v := .ref (q 28)) (sh27_0 hsh) gx87 dX9_withoutGood_10 ?_
      refine gf1_2 hx hb hG hown hW (o := 28) (ltN hN 28 rfl) gk28 (v := .int x28_2) ((hoff 2802 rfl).trans h_x28_2) gx908 dX9_withoutGood_13 ?_
      refine lv_icmp_ge (tgt := 47) hx hb dX9_withoutGood_16 (by decide) (fun c7 => ?_) (fun c7 => ?_)
      · rw [if_pos c7] at hs1
        exact hE1_47 v1k2 (hXl1 _ (Option.some.inj hs1).symm) m a _ _ w_x27_8 hoff hsh w_A57 w_A59 w_A61 w_A63 w_A65 hoffa ls (lv_sub hl [1] rfl) hW hS
      · rw [if_neg c7] at hs1
        refine lv_iload_n hx hb dX9_withoutGood_19 rfl (lv_at hl 1 rfl) ?_
        refine lv_aload_n hx hb dX9_withoutGood_20 rfl (lv_at hl 0 rfl) ?_
        refine gf9_3 hx hb hG hown hW (o := 27) (ltN hN 27 rfl) gk27 (v := .ref (q 55)) (sh27_3 hsh) gx99 dX9_withoutGood_21 ?_
        refine gf5_1 hx hb hG hown hW (o := 55) (ltN hN 55 rfl) gk55 (v := .ref (q 58)) (sh55_1 hsh) gx909 dX9_withoutGood_24 ?_
        refine lv_iload_n hx hb dX9_withoutGood_27 rfl (lv_at hl 2 rfl) ?_
        refine g_ViR (n := 1) hx hb hml hown hG hW hS [.int v2k2] (kX2_at (ltN hN 58 rfl) gk58 (ltN hN 59 rfl) gk59 (sh58_0 hsh) (by decide) w_A59 v2k2) (ltN hN 58 rfl) gk58 (by decide) rfl rfl (gd_V gx795 gx564 gx565 gx47 gx566) rfl rfl (by decide) ⟨Nat.le_of_ble_eq_true rfl, Nat.le_of_ble_eq_true rfl⟩ rfl hl (Nat.le_of_ble_eq_true rfl) ⟨Nat.zero_le _, Nat.zero_le _⟩ dX9_withoutGood_28 (fun H locs hW hS => ?_)
        refine lv_if_ne (tgt := 38) hx hb dX9_withoutGood_31 (by decide) (fun c9 => ?_) (fun c9 => ?_)
        · rw [if_neg c9] at hs1
          refine lv_iconst (v := 0) hx hb dX9_withoutGood_38 (by decide) ?_
          exact hJ39_1 v2k2 0 v1k2 m a _ _ w_x27_8 hoff hsh w_A57 w_A59 w_A61 w_A63 w_A65 hoffa ls (lv_sub hl [0, 2] rfl) hs1 hW hS
        · rw [if_pos c9] at hs1
          refine lv_iconst (v := 1) hx hb dX9_withoutGood_34 (by decide) ?_
          refine lv_goto (tgt := 39) hx hb dX9_withoutGood_35 (by decide) ?_
          exact hJ39_1 v2k2 1 v1k2 m a _ _ w_x27_8 hoff hsh w_A57 w_A59 w_A61 w_A63 w_A65 hoffa ls (lv_sub hl [0, 2] rfl) hs1 hW hS
  exact hL1 F 0 0 m1 a1 _ _ w_x27_8 hoff hsh w_A57 w_A59 w_A61 w_A63 w_A65 hoffa ls (lv_sub hl [2, 1, 0] rfl) hg2 hW hS
-- HealLink$Survey.soonestEdge (I)I
def fX9_soonestEdge_J87 (F : Nat) (A30 : Nat → Int32) (A35 : Nat → Int32) (A57 : Nat → Int32) (v1 : Int32) (v2 : Int32) (v3j10 : Int32) (s0j10 : Int32) : Option (((Int32) ⊕ (Unit)) ⊕ (Int32)) := (if s0j10 = 0 then some (Sum.inr (v3j10 + 1)) else some (Sum.inl (Sum.inl v3j10)))
def fX9_soonestEdge_S24 (F : Nat) (A30 : Nat → Int32) (A35 : Nat → Int32) (A57 : Nat → Int32) (v1 : Int32) (v2 : Int32) (v3 : Int32) : Option (((Int32) ⊕ (Unit)) ⊕ (Int32)) := (if (cAt 6001 A30 (v1 + 1)) ≤ v3 then some (Sum.inl (Sum.inr (()))) else (if v2 = 1 then fX9_soonestEdge_J87 F A30 A35 A57 v1 v2 v3 (fX1_hasMark A35 v3 1) else (if (cAt 6000 A57 (fX1_targetOf A35 v3)) = (v2 - 1) then fX9_soonestEdge_J87 F A30 A35 A57 v1 v2 v3 1 else fX9_soonestEdge_J87 F A30 A35 A57 v1 v2 v3 0)))
def fX9_soonestEdge (F : Nat) (A30 : Nat → Int32) (A35 : Nat → Int32) (A57 : Nat → Int32) (p1 : Int32) : Option (Int32) := (gloop (fun u3 : Int32 => fX9_soonestEdge_S24 F A30 A35 A57 p1 (cAt 6000 A57 p1) u3) F (cAt 6001 A30 p1)).bind (Sum.elim (fun t3_94 => some t3_94) (fun t3_102 => some (cAt 6001 A30 p1)))
theorem dX9_soonestEdge_0 : decode cX9_soonestEdge 0 = .ok (.aload_n 0, 1) := by decide +kernel
theorem dX9_soonestEdge_1 : decode cX9_soonestEdge 1 = .ok (.getfield 35, 3) := by decide +kernel
theorem dX9_soonestEdge_4 : decode cX9_soonestEdge 4 = .ok (.getfield 89, 3) := by decide +kernel
theorem dX9_soonestEdge_7 : decode cX9_soonestEdge 7 = .ok (.iload_n 1, 1) := by decide +kernel
theorem dX9_soonestEdge_8 : decode cX9_soonestEdge 8 = .ok (.invokevirtual 81, 3) := by decide +kernel
theorem dX9_soonestEdge_11 : decode cX9_soonestEdge 11 = .ok (.istore_n 2, 1) := by decide +kernel
theorem dX9_soonestEdge_12 : decode cX9_soonestEdge 12 = .ok (.aload_n 0, 1) := by decide +kernel
theorem dX9_soonestEdge_13 : decode cX9_soonestEdge 13 = .ok (.getfield 12, 3) := by decide +kernel
theorem dX9_soonestEdge_16 : decode cX9_soonestEdge 16 = .ok (.getfield 126, 3) := by decide +kernel
theorem dX9_soonestEdge_19 : decode cX9_soonestEdge 19 = .ok (.iload_n 1, 1) := by decide +kernel
theorem dX9_soonestEdge_20 : decode cX9_soonestEdge 20 = .ok (.invokevirtual 81, 3) := by decide +kernel
theorem dX9_soonestEdge_23 : decode cX9_soonestEdge 23 = .ok (.istore_n 3, 1) := by decide +kernel
theorem dX9_soonestEdge_24 : decode cX9_soonestEdge 24 = .ok (.iload_n 3, 1) := by decide +kernel
theorem dX9_soonestEdge_25 : decode cX9_soonestEdge 25 = .ok (.aload_n 0, 1) := by decide +kernel
theorem dX9_soonestEdge_26 : decode cX9_soonestEdge 26 = .ok (.getfield 12, 3) := by decide +kernel
theorem dX9_soonestEdge_29 : decode cX9_soonestEdge 29 = .ok (.getfield 126, 3) := by decide +kernel
theorem dX9_soonestEdge_32 : decode cX9_soonestEdge 32 = .ok (.iload_n 1, 1) := by decide +kernel
theorem dX9_soonestEdge_33 : decode cX9_soonestEdge 33 = .ok (.iconst 1, 1) := by decide +kernel
theorem dX9_soonestEdge_34 : decode cX9_soonestEdge 34 = .ok (.iadd, 1) := by decide +kernel
theorem dX9_soonestEdge_35 : decode cX9_soonestEdge 35 = .ok (.invokevirtual 81, 3) := by decide +kernel
theorem dX9_soonestEdge_38 : decode cX9_soonestEdge 38 = .ok (.if_icmp .ge 64, 3) := by decide +kernel
theorem dX9_soonestEdge_41 : decode cX9_soonestEdge 41 = .ok (.iload_n 2, 1) := by decide +kernel
theorem dX9_soonestEdge_42 : decode cX9_soonestEdge 42 = .ok (.iconst 1, 1) := by decide +kernel
theorem dX9_soonestEdge_43 : decode cX9_soonestEdge 43 = .ok (.if_icmp .ne 15, 3) := by decide +kernel
theorem dX9_soonestEdge_46 : decode cX9_soonestEdge 46 = .ok (.aload_n 0, 1) := by decide +kernel
theorem dX9_soonestEdge_47 : decode cX9_soonestEdge 47 = .ok (.getfield 12, 3) := by decide +kernel
theorem dX9_soonestEdge_50 : decode cX9_soonestEdge 50 = .ok (.iload_n 3, 1) := by decide +kernel
theorem dX9_soonestEdge_51 : decode cX9_soonestEdge 51 = .ok (.iconst 1, 1) := by decide +kernel
theorem dX9_soonestEdge_52 : decode cX9_soonestEdge 52 = .ok (.invokevirtual 129, 3) := by decide +kernel
theorem dX9_soonestEdge_55 : decode cX9_soonestEdge 55 = .ok (.goto 32, 3) := by decide +kernel
theorem dX9_soonestEdge_58 : decode cX9_soonestEdge 58 = .ok (.aload_n 0, 1) := by decide +kernel
theorem dX9_soonestEdge_59 : decode cX9_soonestEdge 59 = .ok (.getfield 35, 3) := by decide +kernel
theorem dX9_soonestEdge_62 : decode cX9_soonestEdge 62 = .ok (.getfield 89, 3) := by decide +kernel
theorem dX9_soonestEdge_65 : decode cX9_soonestEdge 65 = .ok (.aload_n 0, 1) := by decide +kernel
theorem dX9_soonestEdge_66 : decode cX9_soonestEdge 66 = .ok (.getfield 12, 3) := by decide +kernel
theorem dX9_soonestEdge_69 : decode cX9_soonestEdge 69 = .ok (.iload_n 3, 1) := by decide +kernel
theorem dX9_soonestEdge_70 : decode cX9_soonestEdge 70 = .ok (.invokevirtual 106, 3) := by decide +kernel
theorem dX9_soonestEdge_73 : decode cX9_soonestEdge 73 = .ok (.invokevirtual 81, 3) := by decide +kernel
theorem dX9_soonestEdge_76 : decode cX9_soonestEdge 76 = .ok (.iload_n 2, 1) := by decide +kernel
theorem dX9_soonestEdge_77 : decode cX9_soonestEdge 77 = .ok (.iconst 1, 1) := by decide +kernel
theorem dX9_soonestEdge_78 : decode cX9_soonestEdge 78 = .ok (.isub, 1) := by decide +kernel
theorem dX9_soonestEdge_79 : decode cX9_soonestEdge 79 = .ok (.if_icmp .ne 7, 3) := by decide +kernel
theorem dX9_soonestEdge_82 : decode cX9_soonestEdge 82 = .ok (.iconst 1, 1) := by decide +kernel
theorem dX9_soonestEdge_83 : decode cX9_soonestEdge 83 = .ok (.goto 4, 3) := by decide +kernel
theorem dX9_soonestEdge_86 : decode cX9_soonestEdge 86 = .ok (.iconst 0, 1) := by decide +kernel
theorem dX9_soonestEdge_87 : decode cX9_soonestEdge 87 = .ok (.istore 4, 2) := by decide +kernel
theorem dX9_soonestEdge_89 : decode cX9_soonestEdge 89 = .ok (.iload 4, 2) := by decide +kernel
theorem dX9_soonestEdge_91 : decode cX9_soonestEdge 91 = .ok (.ifCond .eq 5, 3) := by decide +kernel
theorem dX9_soonestEdge_94 : decode cX9_soonestEdge 94 = .ok (.iload_n 3, 1) := by decide +kernel
theorem dX9_soonestEdge_95 : decode cX9_soonestEdge 95 = .ok (.ireturn, 1) := by decide +kernel
theorem dX9_soonestEdge_96 : decode cX9_soonestEdge 96 = .ok (.iinc 3 1, 3) := by decide +kernel
theorem dX9_soonestEdge_99 : decode cX9_soonestEdge 99 = .ok (.goto (-75), 3) := by decide +kernel
theorem dX9_soonestEdge_102 : decode cX9_soonestEdge 102 = .ok (.aload_n 0, 1) := by decide +kernel
theorem dX9_soonestEdge_103 : decode cX9_soonestEdge 103 = .ok (.getfield 12, 3) := by decide +kernel
theorem dX9_soonestEdge_106 : decode cX9_soonestEdge 106 = .ok (.getfield 126, 3) := by decide +kernel
theorem dX9_soonestEdge_109 : decode cX9_soonestEdge 109 = .ok (.iload_n 1, 1) := by decide +kernel
theorem dX9_soonestEdge_110 : decode cX9_soonestEdge 110 = .ok (.invokevirtual 81, 3) := by decide +kernel
theorem dX9_soonestEdge_113 : decode cX9_soonestEdge 113 = .ok (.ireturn, 1) := by decide +kernel
set_option maxHeartbeats 4000000 in
set_option maxRecDepth 100000 in
theorem kX9_soonestEdge {l : Launch} {D : va_G} {cy : Nat → ClassId} {N : Nat} {q : Nat → Nat} {m0 : Nat → Value} {a0 : Nat → vp_A} {sz : Nat} (hN : 105 ≤ N) (hsh : SH q m0) {A30 : Nat → Int32} (h_A30 : a0 30 = (6001, .inl A30)) {A35 : Nat → Int32} (h_A35 : a0 35 = (60000, .inl A35)) {A57 : Nat → Int32} (h_A57 : a0 57 = (6000, .inl A57)) (F : Nat) (p1 : Int32) {X0 : Int32} (hs0 : fX9_soonestEdge F A30 A35 A57 p1 = some X0) : gMi l yX9_soonestEdge cX9_soonestEdge 5 (some .int) ({ frames := 2, cells := 0, slots := 0, locals := 43 } : Room) D cy N q m0 a0 sz [.ref (q 27), .int p1] (fun r m' a' => r = X0 ∧ m' = m0 ∧ a' = a0) := by
  refine g_ofi (by decide) (Nat.le_of_ble_eq_true rfl) ?_
  intro p e s M args below meth c hx hb hr hG hown hin hlocks hml hW hS ls hl
  unfold fX9_soonestEdge at hs0
  refine lv_aload_n hx hb dX9_soonestEdge_0 rfl (lv_at hl 0 rfl) ?_
  refine gf9_3 hx hb hG hown hW (o := 27) (ltN hN 27 rfl) gk27 (v := .ref (q 55)) (sh27_3 hsh) gx99 dX9_soonestEdge_1 ?_
  refine gf5_0 hx hb hG hown hW (o := 55) (ltN hN 55 rfl) gk55 (v := .ref (q 56)) (sh55_0 hsh) gx835 dX9_soonestEdge_4 ?_
  refine lv_iload_n hx hb dX9_soonestEdge_7 rfl (lv_at hl 1 rfl) ?_
  refine g_ViR (n := 1) hx hb hml hown hG hW hS [.int p1] (kX2_at (ltN hN 56 rfl) gk56 (ltN hN 57 rfl) gk57 (sh56_0 hsh) (by decide) h_A57 p1) (ltN hN 56 rfl) gk56 (by decide) rfl rfl (gd_V gx795 gx564 gx565 gx47 gx566) rfl rfl (by decide) ⟨Nat.le_of_ble_eq_true rfl, Nat.le_of_ble_eq_true rfl⟩ rfl hl (Nat.le_of_ble_eq_true rfl) ⟨Nat.zero_le _, Nat.zero_le _⟩ dX9_soonestEdge_8 (fun H locs hW hS => ?_)
  refine lv_istore_n (lv' := [(2, .int (cAt 6000 A57 p1)), (0, .ref (q 27)), (1, .int p1)]) hx hb dX9_soonestEdge_11 rfl hl (by decide) rfl (fun ls hl => ?_)
  refine lv_aload_n hx hb dX9_soonestEdge_12 rfl (lv_at hl 1 rfl) ?_
  refine gf9_0 hx hb hG hown hW (o := 27) (ltN hN 27 rfl) gk27 (v := .ref (q 28)) (sh27_0 hsh) gx87 dX9_soonestEdge_13 ?_
  refine gf1_0 hx hb hG hown hW (o := 28) (ltN hN 28 rfl) gk28 (v := .ref (q 29)) (sh28_0 hsh) gx887 dX9_soonestEdge_16 ?_
  refine lv_iload_n hx hb dX9_soonestEdge_19 rfl (lv_at hl 2 rfl) ?_
  refine g_ViR (n := 1) hx hb hml hown hG hW hS [.int p1] (kX2_at (ltN hN 29 rfl) gk29 (ltN hN 30 rfl) gk30 (sh29_0 hsh) (by decide) h_A30 p1) (ltN hN 29 rfl) gk29 (by decide) rfl rfl (gd_V gx795 gx564 gx565 gx47 gx566) rfl rfl (by decide) ⟨Nat.le_of_ble_eq_true rfl, Nat.le_of_ble_eq_true rfl⟩ rfl hl (Nat.le_of_ble_eq_true rfl) ⟨Nat.zero_le _, Nat.zero_le _⟩ dX9_soonestEdge_20 (fun H locs hW hS => ?_)
  refine lv_istore_n (lv' := [(3, .int (cAt 6001 A30 p1)), (2, .int (cAt 6000 A57 p1)), (0, .ref (q 27)), (1, .int p1)]) hx hb dX9_soonestEdge_23 rfl hl (by decide) rfl (fun ls hl => ?_)
  obtain ⟨r3, hg3, hs0⟩ := obind hs0
  have hE1_94 : ∀ (t3_94 : Int32) (hr3 : Sum.inl t3_94 = r3) (H : Heap) (locs : List Loc) (ls : Array Slot) (hl : lv_has ls 5 [(3, .int t3_94)]) (hW : GW D cy (gA N q s.heap.size) N q m0 a0 s H) (hS : va_S (gA N q s.heap.size) s.heap H locs), W p l e ({ frames := 2, cells := 0, slots := 0, locals := 43 } : Room) s M args below meth c H locs 0 0 (MQ below (va_Qi (fun (r : Int32) (u : (Nat → Value) × (Nat → vp_A)) => r = X0 ∧ u.1 = m0 ∧ u.2 = a0) (gB D cy N q s.heap.size) (gA N q s.heap.size)) args s 0 0 (gA N q s.heap.size)) (F0 M 94 ls []) := by
    intro t3_94 hr3 H locs ls hl hW hS
    subst hr3
    have hs0 := osum_l hs0
    refine lv_iload_n hx hb dX9_soonestEdge_94 rfl (lv_at hl 0 rfl) ?_
    have hs0 := Option.some.inj hs0
    subst hs0
    exact W.zret hx hb hr rfl (fun t ht hw => ⟨⟨_, (m0, a0), rfl, ⟨rfl, rfl, rfl⟩, g_end hW ht hw⟩, hS.F ht⟩) hS.2.2 dX9_soonestEdge_95 hlocks
  have hE1_102 : ∀ (t3_102 : Unit) (hr3 : Sum.inr (t3_102) = r3) (H : Heap) (locs : List Loc) (ls : Array Slot) (hl : lv_has ls 5 [(0, .ref (q 27)), (1, .int p1)]) (hW : GW D cy (gA N q s.heap.size) N q m0 a0 s H) (hS : va_S (gA N q s.heap.size) s.heap H locs), W p l e ({ frames := 2, cells := 0, slots := 0, locals := 43 } : Room) s M args below meth c H locs 0 0 (MQ below (va_Qi (fun (r : Int32) (u : (Nat → Value) × (Nat → vp_A)) => r = X0 ∧ u.1 = m0 ∧ u.2 = a0) (gB D cy N q s.heap.size) (gA N q s.heap.size)) args s 0 0 (gA N q s.heap.size)) (F0 M 102 ls []) := by
    intro t3_102 hr3 H locs ls hl hW hS
    subst hr3
    have hs0 := osum_r hs0
    refine lv_aload_n hx hb dX9_soonestEdge_102 rfl (lv_at hl 0 rfl) ?_
    refine gf9_0 hx hb hG hown hW (o := 27) (ltN hN 27 rfl) gk27 (v := .ref (q 28)) (sh27_0 hsh) gx87 dX9_soonestEdge_103 ?_
    refine gf1_0 hx hb hG hown hW (o := 28) (ltN hN 28 rfl) gk28 (v := .ref (q 29)) (sh28_0 hsh) gx887 dX9_soonestEdge_106 ?_
    refine lv_iload_n hx hb dX9_soonestEdge_109 rfl (lv_at hl 1 rfl) ?_
    refine g_ViR (n := 1) hx hb hml hown hG hW hS [.int p1] (kX2_at (ltN hN 29 rfl) gk29 (ltN hN 30 rfl) gk30 (sh29_0 hsh) (by decide) h_A30 p1) (ltN hN 29 rfl) gk29 (by decide) rfl rfl (gd_V gx795 gx564 gx565 gx47 gx566) rfl rfl (by decide) ⟨Nat.le_of_ble_eq_true rfl, Nat.le_of_ble_eq_true rfl⟩ rfl hl (Nat.le_of_ble_eq_true rfl) ⟨Nat.zero_le _, Nat.zero_le _⟩ dX9_soonestEdge_110 (fun H locs hW hS => ?_)
    have hs0 := Option.some.inj hs0
    subst hs0
    exact W.zret hx hb hr rfl (fun t ht hw => ⟨⟨_, (m0, a0), rfl, ⟨rfl, rfl, rfl⟩, g_end hW ht hw⟩, hS.F ht⟩) hS.2.2 dX9_soonestEdge_113 hlocks
  have hL1 : ∀ (n : Nat) (v3k3 : Int32) (H : Heap) (locs : List Loc) (ls : Array Slot) (hl : lv_has ls 5 [(0, .ref (q 27)), (1, .int p1), (2, .int (cAt 6000 A57 p1)), (3, .int v3k3)]) (hg3 : gloop (fun u3 : Int32 => fX9_soonestEdge_S24 F A30 A35 A57 p1 (cAt 6000 A57 p1) u3) n v3k3 = some r3) (hW : GW D cy (gA N q s.heap.size) N q m0 a0 s H) (hS : va_S (gA N q s.heap.size) s.heap H locs), W p l e ({ frames := 2, cells := 0, slots := 0, locals := 43 } : Room) s M args below meth c H locs 0 0 (MQ below (va_Qi (fun (r : Int32) (u : (Nat → Value) × (Nat → vp_A)) => r = X0 ∧ u.1 = m0 ∧ u.2 = a0) (gB D cy N q s.heap.size) (gA N q s.heap.size)) args s 0 0 (gA N q s.heap.size)) (F0 M 24 ls []) := by
    intro n
    induction n with
    | zero => intro v3k3 H locs ls hl hg3 hW hS; exact (gl_zero hg3).elim
    | succ n ih1 =>
      intro v3k3 H locs ls hl hg3 hW hS
      obtain ⟨X1, hs1, hXl1, hXr1⟩ := gl_succ hg3
      have hs1 : fX9_soonestEdge_S24 F A30 A35 A57 p1 (cAt 6000 A57 p1) v3k3 = some X1 := hs1
      unfold fX9_soonestEdge_S24 at hs1
      have hJ87_1 : ∀ (v3j20 : Int32) (s0j20 : Int32) (H : Heap) (locs : List Loc) (ls : Array Slot) (hl : lv_has ls 5 [(0, .ref (q 27)), (1, .int p1), (2, .int (cAt 6000 A57 p1)), (3, .int v3j20)]) (hs1 : fX9_soonestEdge_J87 F A30 A35 A57 p1 (cAt 6000 A57 p1) v3j20 s0j20 = some X1) (hW : GW D cy (gA N q s.heap.size) N q m0 a0 s H) (hS : va_S (gA N q s.heap.size) s.heap H locs), W p l e ({ frames := 2, cells := 0, slots := 0, locals := 43 } : Room) s M args below meth c H locs 0 0 (MQ below (va_Qi (fun (r : Int32) (u : (Nat → Value) × (Nat → vp_A)) => r = X0 ∧ u.1 = m0 ∧ u.2 = a0) (gB D cy N q s.heap.size) (gA N q s.heap.size)) args s 0 0 (gA N q s.heap.size)) (F0 M 87 ls [.int s0j20]) := by
        intro v3j20 s0j20 H locs ls hl hs1 hW hS
        unfold fX9_soonestEdge_J87 at hs1
        refine lv_istore (lv' := [(4, .int s0j20), (0, .ref (q 27)), (1, .int p1), (2, .int (cAt 6000 A57 p1)), (3, .int v3j20)]) hx hb dX9_soonestEdge_87 hl (by decide) rfl (fun ls hl => ?_)
        refine lv_iload hx hb dX9_soonestEdge_89 (lv_at hl 0 rfl) ?_
        refine lv_if_eq (tgt := 96) hx hb dX9_soonestEdge_91 (by decide) (fun c22 => ?_) (fun c22 => ?_)
        · rw [if_pos c22] at hs1
          refine lv_iinc (v := v3j20 + 1) (lv' := [(3, .int (v3j20 + 1)), (4, .int s0j20), (0, .ref (q 27)), (1, .int p1), (2, .int (cAt 6000 A57 p1))]) hx hb dX9_soonestEdge_96 hl (k := 4) rfl rfl (by decide) rfl (fun ls hl => ?_)
          refine lv_goto (tgt := 24) hx hb dX9_soonestEdge_99 (by decide) ?_
          exact ih1 (v3j20 + 1) _ _ ls (lv_sub hl [2, 3, 4, 0] rfl) (hXr1 _ (Option.some.inj hs1).symm) hW hS
        · rw [if_neg c22] at hs1
          exact hE1_94 v3j20 (hXl1 _ (Option.some.inj hs1).symm) _ _ ls (lv_sub hl [4] rfl) hW hS
      refine lv_iload_n hx hb dX9_soonestEdge_24 rfl (lv_at hl 3 rfl) ?_
      refine lv_aload_n hx hb dX9_soonestEdge_25 rfl (lv_at hl 0 rfl) ?_
      refine gf9_0 hx hb hG hown hW (o := 27) (ltN hN 27 rfl) gk27 (v := .ref (q 28)) (sh27_0 hsh) gx87 dX9_soonestEdge_26 ?_
      refine gf1_0 hx hb hG hown hW (o := 28) (ltN hN 28 rfl) gk28 (v := .ref (q 29)) (sh28_0 hsh) gx887 dX9_soonestEdge_29 ?_
      refine lv_iload_n hx hb dX9_soonestEdge_32 rfl (lv_at hl 1 rfl) ?_
      refine lv_iconst (v := 1) hx hb dX9_soonestEdge_33 (by decide) ?_
      refine lv_iadd hx hb dX9_soonestEdge_34 ?_
      refine g_ViR (n := 1) hx hb hml hown hG hW hS [.int (p1 + 1)] (kX2_at (ltN hN 29 rfl) gk29 (ltN hN 30 rfl) gk30 (sh29_0 hsh) (by decide) h_A30 (p1 + 1)) (ltN hN 29 rfl) gk29 (by decide) rfl rfl (gd_V gx795 gx564 gx565 gx47 gx566) rfl rfl (by decide) ⟨Nat.le_of_ble_eq_true rfl, Nat.le_of_ble_eq_true rfl⟩ rfl hl (Nat.le_of_ble_eq_true rfl) ⟨Nat.zero_le _, Nat.zero_le _⟩ dX9_soonestEdge_35 (fun H locs hW hS => ?_)
      refine lv_icmp_ge (tgt := 102) hx hb dX9_soonestEdge_38 (by decide) (fun c15 => ?_) (fun c15 => ?_)
      · rw [if_pos c15] at hs1
        exact hE1_102 () (hXl1 _ (Option.some.inj hs1).symm) _ _ ls (lv_sub hl [0, 1] rfl) hW hS
      · rw [if_neg c15] at hs1
        refine lv_iload_n hx hb dX9_soonestEdge_41 rfl (lv_at hl 2 rfl) ?_
        refine lv_iconst (v := 1) hx hb dX9_soonestEdge_42 (by decide) ?_
        refine lv_icmp_ne (tgt := 58) hx hb dX9_soonestEdge_43 (by decide) (fun c16 => ?_) (fun c16 => ?_)
        · rw [if_neg c16] at hs1
          refine lv_aload_n hx hb dX9_soonestEdge_58 rfl (lv_at hl 0 rfl) ?_
          refine gf9_3 hx hb hG hown hW (o := 27) (ltN hN 27 rfl) gk27 (v := .ref (q 55)) (sh27_3 hsh) gx99 dX9_soonestEdge_59 ?_
          refine gf5_0 hx hb hG hown hW (o := 55) (ltN hN 55 rfl) gk55 (v := .ref (q 56)) (sh55_0 hsh) gx835 dX9_soonestEdge_62 ?_
          refine lv_aload_n hx hb dX9_soonestEdge_65 rfl (lv_at hl 0 rfl) ?_
          refine gf9_0 hx hb hG hown hW (o := 27) (ltN hN 27 rfl) gk27 (v := .ref (q 28)) (sh27_0 hsh) gx87 dX9_soonestEdge_66 ?_
          refine lv_iload_n hx hb dX9_soonestEdge_69 rfl (lv_at hl 3 rfl) ?_
          refine g_ViR (n := 1) hx hb hml hown hG hW hS [.int v3k3] (kX1_targetOf hN hsh h_A35 v3k3) (ltN hN 28 rfl) gk28 (by decide) rfl rfl (gd_V gx893 gx772 gx773 gx86 gx774) rfl rfl (by decide) ⟨Nat.le_of_ble_eq_true rfl, Nat.le_of_ble_eq_true rfl⟩ rfl hl (Nat.le_of_ble_eq_true rfl) ⟨Nat.zero_le _, Nat.zero_le _⟩ dX9_soonestEdge_70 (fun H locs hW hS => ?_)
          refine g_ViR (n := 1) hx hb hml hown hG hW hS [.int (fX1_targetOf A35 v3k3)] (kX2_at (ltN hN 56 rfl) gk56 (ltN hN 57 rfl) gk57 (sh56_0 hsh) (by decide) h_A57 (fX1_targetOf A35 v3k3)) (ltN hN 56 rfl) gk56 (by decide) rfl rfl (gd_V gx795 gx564 gx565 gx47 gx566) rfl rfl (by decide) ⟨Nat.le_of_ble_eq_true rfl, Nat.le_of_ble_eq_true rfl⟩ rfl hl (Nat.le_of_ble_eq_true rfl) ⟨Nat.zero_le _, Nat.zero_le _⟩ dX9_soonestEdge_73 (fun H locs hW hS => ?_)
          refine lv_iload_n hx hb dX9_soonestEdge_76 rfl (lv_at hl 2 rfl) ?_
          refine lv_iconst (v := 1) hx hb dX9_soonestEdge_77 (by decide) ?_
          refine lv_isub hx hb dX9_soonestEdge_78 ?_
          refine lv_icmp_ne (tgt := 86) hx hb dX9_soonestEdge_79 (by decide) (fun c19 => ?_) (fun c19 => ?_)
          · rw [if_neg c19] at hs1
            refine lv_iconst (v := 0) hx hb dX9_soonestEdge_86 (by decide) ?_
            exact hJ87_1 v3k3 0 _ _ ls (lv_sub hl [0, 1, 2, 3] rfl) hs1 hW hS
          · rw [if_pos c19] at hs1
            refine lv_iconst (v := 1) hx hb dX9_soonestEdge_82 (by decide) ?_
            refine lv_goto (tgt := 87) hx hb dX9_soonestEdge_83 (by decide) ?_
            exact hJ87_1 v3k3 1 _ _ ls (lv_sub hl [0, 1, 2, 3] rfl) hs1 hW hS
        · rw [if_pos c16] at hs1
          refine lv_aload_n hx hb dX9_soonestEdge_46 rfl (lv_at hl 0 rfl) ?_
          refine gf9_0 hx hb hG hown hW (o := 27) (ltN hN 27 rfl) gk27 (v := .ref (q 28)) (sh27_0 hsh) gx87 dX9_soonestEdge_47 ?_
          refine lv_iload_n hx hb dX9_soonestEdge_50 rfl (lv_at hl 3 rfl) ?_
          refine lv_iconst (v := 1) hx hb dX9_soonestEdge_51 (by decide) ?_
          refine g_ViR (n := 2) hx hb hml hown hG hW hS [.int v3k3, .int 1] (kX1_hasMark hN hsh h_A35 v3k3 1) (ltN hN 28 rfl) gk28 (by decide) rfl rfl (gd_V gx892 gx789 gx790 gx86 gx791) rfl rfl (by decide) ⟨Nat.le_of_ble_eq_true rfl, Nat.le_of_ble_eq_true rfl⟩ rfl hl (Nat.le_of_ble_eq_true rfl) ⟨Nat.zero_le _, Nat.zero_le _⟩ dX9_soonestEdge_52 (fun H locs hW hS => ?_)
          refine lv_goto (tgt := 87) hx hb dX9_soonestEdge_55 (by decide) ?_
          exact hJ87_1 v3k3 (fX1_hasMark A35 v3k3 1) _ _ ls (lv_sub hl [0, 1, 2, 3] rfl) hs1 hW hS
  exact hL1 F (cAt 6001 A30 p1) _ _ ls (lv_sub hl [2, 3, 1, 0] rfl) hg3 hW hS
-- HealLink$Survey.covers (LHealLink$Rules;J)Z
def fX9_covers (F : Nat) (xkr_0 : Int32) (xkr_1 : Int32) (xkr_2 : Int32) (xkr_3 : Int32) (x27_6 : Int64) (x27_7 : Int32) (x27_8 : Int32) (x28_2 : Int32) (x28_3 : Int32) (x31_1 : Int32) (x31_2 : Int32) (A30 : Nat → Int32) (A33 : Nat → Int32) (A35 : Nat → Int32) (A37 : Nat → Int32) (A38 : Nat → Int64) (p2 : Int64) : Option (Int32 × Int64 × Int32 × Int32 × Int32 × Int32 × Int32 × Int32 × (Nat → Int32) × (Nat → Int32) × (Nat → Int32) × (Nat → Int32) × (Nat → Int64)) := (if (lg_cmp x27_6 p2) = 0 then (if bzb x28_3 = true then some (x28_3, x27_6, x27_7, x27_8, x28_2, x28_3, x31_1, x31_2, A30, A33, A35, A37, A38) else none) else ((fX1_chart F xkr_0 xkr_1 xkr_2 xkr_3 x28_2 x28_3 x31_1 x31_2 A30 A33 A35 A37 A38 p2).bind (fun r3 => (if bzb r3.2.1 = true then some (r3.2.1, p2, 0, 0, r3.1, r3.2.1, r3.2.2.1, r3.2.2.2.1, r3.2.2.2.2.1, r3.2.2.2.2.2.1, r3.2.2.2.2.2.2.1, r3.2.2.2.2.2.2.2.1, r3.2.2.2.2.2.2.2.2) else none))))
theorem dX9_covers_0 : decode cX9_covers 0 = .ok (.aload_n 0, 1) := by decide +kernel
theorem dX9_covers_1 : decode cX9_covers 1 = .ok (.getfield 50, 3) := by decide +kernel
theorem dX9_covers_4 : decode cX9_covers 4 = .ok (.lload_n 2, 1) := by decide +kernel
theorem dX9_covers_5 : decode cX9_covers 5 = .ok (.lcmp, 1) := by decide +kernel
theorem dX9_covers_6 : decode cX9_covers 6 = .ok (.ifCond .eq 27, 3) := by decide +kernel
theorem dX9_covers_9 : decode cX9_covers 9 = .ok (.aload_n 0, 1) := by decide +kernel
theorem dX9_covers_10 : decode cX9_covers 10 = .ok (.getfield 12, 3) := by decide +kernel
theorem dX9_covers_13 : decode cX9_covers 13 = .ok (.aload_n 1, 1) := by decide +kernel
theorem dX9_covers_14 : decode cX9_covers 14 = .ok (.lload_n 2, 1) := by decide +kernel
theorem dX9_covers_15 : decode cX9_covers 15 = .ok (.invokevirtual 61, 3) := by decide +kernel
theorem dX9_covers_18 : decode cX9_covers 18 = .ok (.aload_n 0, 1) := by decide +kernel
theorem dX9_covers_19 : decode cX9_covers 19 = .ok (.lload_n 2, 1) := by decide +kernel
theorem dX9_covers_20 : decode cX9_covers 20 = .ok (.putfield 50, 3) := by decide +kernel
theorem dX9_covers_23 : decode cX9_covers 23 = .ok (.aload_n 0, 1) := by decide +kernel
theorem dX9_covers_24 : decode cX9_covers 24 = .ok (.iconst 0, 1) := by decide +kernel
theorem dX9_covers_25 : decode cX9_covers 25 = .ok (.putfield 65, 3) := by decide +kernel
theorem dX9_covers_28 : decode cX9_covers 28 = .ok (.aload_n 0, 1) := by decide +kernel
theorem dX9_covers_29 : decode cX9_covers 29 = .ok (.iconst 0, 1) := by decide +kernel
theorem dX9_covers_30 : decode cX9_covers 30 = .ok (.putfield 68, 3) := by decide +kernel
theorem dX9_covers_33 : decode cX9_covers 33 = .ok (.aload_n 0, 1) := by decide +kernel
theorem dX9_covers_34 : decode cX9_covers 34 = .ok (.getfield 12, 3) := by decide +kernel
theorem dX9_covers_37 : decode cX9_covers 37 = .ok (.getfield 71, 3) := by decide +kernel
theorem dX9_covers_40 : decode cX9_covers 40 = .ok (.ireturn, 1) := by decide +kernel
set_option maxHeartbeats 4000000 in
set_option maxRecDepth 100000 in
theorem kX9_covers {l : Launch} {D : va_G} {cy : Nat → ClassId} {N : Nat} {q : Nat → Nat} {m0 : Nat → Value} {a0 : Nat → vp_A} {sz : Nat} (hN : 105 ≤ N) (hsh : SH q m0) {kr : Nat} (hkr : kr < N) (hgk : gk kr = 7) {xkr_0 : Int32} (h_xkr_0 : m0 (100 * kr + 0) = .int xkr_0) {xkr_1 : Int32} (h_xkr_1 : m0 (100 * kr + 1) = .int xkr_1) {xkr_2 : Int32} (h_xkr_2 : m0 (100 * kr + 2) = .int xkr_2) {xkr_3 : Int32} (h_xkr_3 : m0 (100 * kr + 3) = .int xkr_3) {x27_6 : Int64} (h_x27_6 : m0 2706 = .long x27_6) {x27_7 : Int32} (h_x27_7 : m0 2707 = .int x27_7) {x27_8 : Int32} (h_x27_8 : m0 2708 = .int x27_8) {x28_2 : Int32} (h_x28_2 : m0 2802 = .int x28_2) {x28_3 : Int32} (h_x28_3 : m0 2803 = .int x28_3) {x31_1 : Int32} (h_x31_1 : m0 3101 = .int x31_1) {x31_2 : Int32} (h_x31_2 : m0 3102 = .int x31_2) {A30 : Nat → Int32} (h_A30 : a0 30 = (6001, .inl A30)) {A33 : Nat → Int32} (h_A33 : a0 33 = (10, .inl A33)) {A35 : Nat → Int32} (h_A35 : a0 35 = (60000, .inl A35)) {A37 : Nat → Int32} (h_A37 : a0 37 = (16384, .inl A37)) {A38 : Nat → Int64} (h_A38 : a0 38 = (6000, .inr (.inl A38))) (F : Nat) (p2 : Int64) {X0 : Int32 × Int64 × Int32 × Int32 × Int32 × Int32 × Int32 × Int32 × (Nat → Int32) × (Nat → Int32) × (Nat → Int32) × (Nat → Int32) × (Nat → Int64)} (hs0 : fX9_covers F xkr_0 xkr_1 xkr_2 xkr_3 x27_6 x27_7 x27_8 x28_2 x28_3 x31_1 x31_2 A30 A33 A35 A37 A38 p2 = some X0) : gMi l yX9_covers cX9_covers 4 (some .boolean) ({ frames := 6, cells := 0, slots := 0, locals := 147 } : Room) D cy N q m0 a0 sz [.ref (q 27), .ref (q kr), .long p2] (fun r m' a' => r = X0.1 ∧ m' 2706 = .long X0.2.1 ∧ m' 2707 = .int X0.2.2.1 ∧ m' 2708 = .int X0.2.2.2.1 ∧ m' 2802 = .int X0.2.2.2.2.1 ∧ m' 2803 = .int X0.2.2.2.2.2.1 ∧ m' 3101 = .int X0.2.2.2.2.2.2.1 ∧ m' 3102 = .int X0.2.2.2.2.2.2.2.1 ∧ (∀ j, nel j [2706, 2707, 2708, 2802, 2803, 3101, 3102] = false → m' j = m0 j) ∧ a' 30 = (6001, .inl X0.2.2.2.2.2.2.2.2.1) ∧ a' 33 = (10, .inl X0.2.2.2.2.2.2.2.2.2.1) ∧ a' 35 = (60000, .inl X0.2.2.2.2.2.2.2.2.2.2.1) ∧ a' 37 = (16384, .inl X0.2.2.2.2.2.2.2.2.2.2.2.1) ∧ a' 38 = (6000, .inr (.inl X0.2.2.2.2.2.2.2.2.2.2.2.2)) ∧ (∀ j, nel j [30, 33, 35, 37, 38] = false → a' j = a0 j)) := by
  refine g_ofi (by decide) (Nat.le_of_ble_eq_true rfl) ?_
  intro p e s M args below meth c hx hb hr hG hown hin hlocks hml hW hS ls hl
  unfold fX9_covers at hs0
  have hoff : ∀ j, nel j [2706, 2707, 2708, 2802, 2803, 3101, 3102] = false → m0 j = m0 j := off0
  have hoffa : ∀ j, nel j [30, 33, 35, 37, 38] = false → a0 j = a0 j := off0
  refine lv_aload_n hx hb dX9_covers_0 rfl (lv_at hl 0 rfl) ?_
  refine gf9_6 hx hb hG hown hW (o := 27) (ltN hN 27 rfl) gk27 (v := .long x27_6) h_x27_6 gx103 dX9_covers_1 ?_
  refine lv_lload_n hx hb dX9_covers_4 rfl (lv_at hl 2 rfl) ?_
  refine W.lcmp hx hb dX9_covers_5 ?_
  refine lv_if_eq (tgt := 33) hx hb dX9_covers_6 (by decide) (fun c1 => ?_) (fun c1 => ?_)
  · rw [if_pos c1] at hs0
    refine lv_aload_n hx hb dX9_covers_33 rfl (lv_at hl 0 rfl) ?_
    refine gf9_0 hx hb hG hown hW (o := 27) (ltN hN 27 rfl) gk27 (v := .ref (q 28)) (sh27_0 hsh) gx87 dX9_covers_34 ?_
    refine gf1_3 hx hb hG hown hW (o := 28) (ltN hN 28 rfl) gk28 (v := .int x28_3) h_x28_3 gx665 dX9_covers_37 ?_
    obtain ⟨hz2, hs0⟩ := oif hs0
    have hs0 := Option.some.inj hs0
    subst hs0
    exact W.zret hx hb hr (bz hz2) (fun t ht hw => ⟨⟨_, (m0, a0), rfl, ⟨rfl, h_x27_6, h_x27_7, h_x27_8, h_x28_2, h_x28_3, h_x31_1, h_x31_2, hoff, h_A30, h_A33, h_A35, h_A37, h_A38, hoffa⟩, g_end hW ht hw⟩, hS.F ht⟩) hS.2.2 dX9_covers_40 hlocks
  · rw [if_neg c1] at hs0
    refine lv_aload_n hx hb dX9_covers_9 rfl (lv_at hl 0 rfl) ?_
    refine gf9_0 hx hb hG hown hW (o := 27) (ltN hN 27 rfl) gk27 (v := .ref (q 28)) (sh27_0 hsh) gx87 dX9_covers_10 ?_
    refine lv_aload_n hx hb dX9_covers_13 rfl (lv_at hl 1 rfl) ?_
    refine lv_lload_n hx hb dX9_covers_14 rfl (lv_at hl 2 rfl) ?_
    obtain ⟨r3, hf3, hs0⟩ := obind hs0
    refine g_Vv (n := 2) hx hb hml hown hG hW hS [.ref (q kr), .long p2] (kX1_chart hN hsh hkr hgk ((off_kr hoff hgk 0 rfl (by decide)).trans h_xkr_0) ((off_kr hoff hgk 1 rfl (by decide)).trans h_xkr_1) ((off_kr hoff hgk 2 rfl (by decide)).trans h_xkr_2) ((off_kr hoff hgk 3 rfl (by decide)).trans h_xkr_3) h_x28_2 h_x28_3 h_x31_1 h_x31_2 h_A30 h_A33 h_A35 h_A37 h_A38 F p2 hf3) (ltN hN 28 rfl) gk28 (by decide) rfl rfl (gd_V gx666 gx667 gx668 gx86 gx669) rfl rfl (by decide) ⟨Nat.le_of_ble_eq_true rfl, Nat.le_of_ble_eq_true rfl⟩ rfl hl (Nat.le_of_ble_eq_true rfl) ⟨Nat.zero_le _, Nat.zero_le _⟩ dX9_covers_15 (fun m3 a3 H locs hp3 hW hS => ?_)
    obtain ⟨hp3_x28_2, hp3_x28_3, hp3_x31_1, hp3_x31_2, ho3, hp3_A30, hp3_A33, hp3_A35, hp3_A37, hp3_A38, hoa3⟩ := hp3
    have w_x27_6 : m3 2706 = .long x27_6 := (ho3 2706 rfl).trans h_x27_6
    have w_x27_7 : m3 2707 = .int x27_7 := (ho3 2707 rfl).trans h_x27_7
    have w_x27_8 : m3 2708 = .int x27_8 := (ho3 2708 rfl).trans h_x27_8
    have w_x28_2 : m3 2802 = .int r3.1 := hp3_x28_2
    have w_x28_3 : m3 2803 = .int r3.2.1 := hp3_x28_3
    have w_x31_1 : m3 3101 = .int r3.2.2.1 := hp3_x31_1
    have w_x31_2 : m3 3102 = .int r3.2.2.2.1 := hp3_x31_2
    have hoff := offm hoff ho3 (by decide +kernel)
    have hsh := SH.off hsh ho3 (by decide +kernel)
    have w_A30 : a3 30 = (6001, .inl r3.2.2.2.2.1) := hp3_A30
    have w_A33 : a3 33 = (10, .inl r3.2.2.2.2.2.1) := hp3_A33
    have w_A35 : a3 35 = (60000, .inl r3.2.2.2.2.2.2.1) := hp3_A35
    have w_A37 : a3 37 = (16384, .inl r3.2.2.2.2.2.2.2.1) := hp3_A37
    have w_A38 : a3 38 = (6000, .inr (.inl r3.2.2.2.2.2.2.2.2)) := hp3_A38
    have hoffa := offm hoffa hoa3 (by decide +kernel)
    refine lv_aload_n hx hb dX9_covers_18 rfl (lv_at hl 0 rfl) ?_
    refine lv_lload_n hx hb dX9_covers_19 rfl (lv_at hl 2 rfl) ?_
    refine gp9_6 hx hb hG hown hW hS (o := 27) (ltN hN 27 rfl) gk27 (v := p2) gx103 dX9_covers_20 (fun m4 H locs hm4 ho4 hW hS => ?_)
    have ho4 := off1 ho4
    have w_x27_6 : m4 2706 = .long p2 := hm4
    have w_x27_7 : m4 2707 = .int x27_7 := (ho4 2707 rfl).trans w_x27_7
    have w_x27_8 : m4 2708 = .int x27_8 := (ho4 2708 rfl).trans w_x27_8
    have w_x28_2 : m4 2802 = .int r3.1 := (ho4 2802 rfl).trans w_x28_2
    have w_x28_3 : m4 2803 = .int r3.2.1 := (ho4 2803 rfl).trans w_x28_3
    have w_x31_1 : m4 3101 = .int r3.2.2.1 := (ho4 3101 rfl).trans w_x31_1
    have w_x31_2 : m4 3102 = .int r3.2.2.2.1 := (ho4 3102 rfl).trans w_x31_2
    have hoff := offm hoff ho4 (by decide +kernel)
    have hsh := SH.off hsh ho4 (by decide +kernel)
    refine lv_aload_n hx hb dX9_covers_23 rfl (lv_at hl 0 rfl) ?_
    refine lv_iconst (v := 0) hx hb dX9_covers_24 (by decide) ?_
    refine gp9_7 hx hb hG hown hW hS (o := 27) (ltN hN 27 rfl) gk27 (v := 0) (by decide) gx663 dX9_covers_25 (fun m5 H locs hm5 ho5 hW hS => ?_)
    have ho5 := off1 ho5
    have w_x27_6 : m5 2706 = .long p2 := (ho5 2706 rfl).trans w_x27_6
    have w_x27_7 : m5 2707 = .int 0 := hm5
    have w_x27_8 : m5 2708 = .int x27_8 := (ho5 2708 rfl).trans w_x27_8
    have w_x28_2 : m5 2802 = .int r3.1 := (ho5 2802 rfl).trans w_x28_2
    have w_x28_3 : m5 2803 = .int r3.2.1 := (ho5 2803 rfl).trans w_x28_3
    have w_x31_1 : m5 3101 = .int r3.2.2.1 := (ho5 3101 rfl).trans w_x31_1
    have w_x31_2 : m5 3102 = .int r3.2.2.2.1 := (ho5 3102 rfl).trans w_x31_2
    have hoff := offm hoff ho5 (by decide +kernel)
    have hsh := SH.off hsh ho5 (by decide +kernel)
    refine lv_aload_n hx hb dX9_covers_28 rfl (lv_at hl 0 rfl) ?_
    refine lv_iconst (v := 0) hx hb dX9_covers_29 (by decide) ?_
    refine gp9_8 hx hb hG hown hW hS (o := 27) (ltN hN 27 rfl) gk27 (v := 0) (by decide) gx664 dX9_covers_30 (fun m6 H locs hm6 ho6 hW hS => ?_)
    have ho6 := off1 ho6
    have w_x27_6 : m6 2706 = .long p2 := (ho6 2706 rfl).trans w_x27_6
    have w_x27_7 : m6 2707 = .int 0 := (ho6 2707 rfl).trans w_x27_7
    have w_x27_8 : m6 2708 = .int 0 := hm6
    have w_x28_2 : m6 2802 = .int r3.1 := (ho6 2802 rfl).trans w_x28_2
    have w_x28_3 : m6 2803 = .int r3.2.1 := (ho6 2803 rfl).trans w_x28_3
    have w_x31_1 : m6 3101 = .int r3.2.2.1 := (ho6 3101 rfl).trans w_x31_1
    have w_x31_2 : m6 3102 = .int r3.2.2.2.1 := (ho6 3102 rfl).trans w_x31_2
    have hoff := offm hoff ho6 (by decide +kernel)
    have hsh := SH.off hsh ho6 (by decide +kernel)
    refine lv_aload_n hx hb dX9_covers_33 rfl (lv_at hl 0 rfl) ?_
    refine gf9_0 hx hb hG hown hW (o := 27) (ltN hN 27 rfl) gk27 (v := .ref (q 28)) (sh27_0 hsh) gx87 dX9_covers_34 ?_
    refine gf1_3 hx hb hG hown hW (o := 28) (ltN hN 28 rfl) gk28 (v := .int r3.2.1) w_x28_3 gx665 dX9_covers_37 ?_
    obtain ⟨hz7, hs0⟩ := oif hs0
    have hs0 := Option.some.inj hs0
    subst hs0
    exact W.zret hx hb hr (bz hz7) (fun t ht hw => ⟨⟨_, (m6, a3), rfl, ⟨rfl, w_x27_6, w_x27_7, w_x27_8, w_x28_2, w_x28_3, w_x31_1, w_x31_2, hoff, w_A30, w_A33, w_A35, w_A37, w_A38, hoffa⟩, g_end hW ht hw⟩, hS.F ht⟩) hS.2.2 dX9_covers_40 hlocks
-- HealLink$Survey.codeOnWay (LHealLink$Rules;I)I
def fX9_codeOnWay_S26 (F : Nat) (x28_2 : Int32) (xkr_1 : Int32) (xkr_2 : Int32) (A30 : Nat → Int32) (A35 : Nat → Int32) (A38 : Nat → Int64) (v2 : Int32) (x27_8 : Int32) (x31_1 : Int32) (x31_2 : Int32) (A33 : Nat → Int32) (A57 : Nat → Int32) (A59 : Nat → Int32) (A61 : Nat → Int32) (A63 : Nat → Int32) (A65 : Nat → Int32) (v3 : Int32) (v4 : Int32) : Option ((Int32) ⊕ (Int32 × Int32)) := (if v2 ≤ v4 then some (Sum.inl v3) else ((fX9_soonestEdge F A30 A35 A57 v3).bind (fun r6 => some (Sum.inr ((fX1_targetOf A35 r6), v4 + 1)))))
def fX9_codeOnWay (F : Nat) (x28_2 : Int32) (xkr_1 : Int32) (xkr_2 : Int32) (A30 : Nat → Int32) (A35 : Nat → Int32) (A38 : Nat → Int64) (x27_8 : Int32) (x31_1 : Int32) (x31_2 : Int32) (A33 : Nat → Int32) (A57 : Nat → Int32) (A59 : Nat → Int32) (A61 : Nat → Int32) (A63 : Nat → Int32) (A65 : Nat → Int32) (p2 : Int32) : Option (Int32 × Int32 × Int32 × Int32 × (Nat → Int32) × (Nat → Int32) × (Nat → Int32) × (Nat → Int32) × (Nat → Int32) × (Nat → Int32)) := ((fX9_range F x28_2 A30 A35 x27_8 A57 A59 A61 A63 A65).bind (fun r1 => (if p2 < (cAt 6000 r1.2.1 0) then (gloop (fun u4 : (Int32 × Int32) => fX9_codeOnWay_S26 F x28_2 xkr_1 xkr_2 A30 A35 A38 p2 r1.1 x31_1 x31_2 A33 r1.2.1 r1.2.2.1 r1.2.2.2.1 r1.2.2.2.2.1 r1.2.2.2.2.2 u4.1 u4.2) F (0, 0)).bind (fun t4_51 => ((fX1_stateAt A38 t4_51).bind (fun r8 => ((fX0_list F xkr_1 xkr_2 x31_1 x31_2 A33 r8 1).bind (fun r9 => ((fX9_soonestEdge F A30 A35 r1.2.1 t4_51).bind (fun r10 => some ((cAt 10 r9.2.2 (r10 - (cAt 6001 A30 t4_51))), r1.1, r9.1, r9.2.1, r9.2.2, r1.2.1, r1.2.2.1, r1.2.2.2.1, r1.2.2.2.2.1, r1.2.2.2.2.2)))))))) else some ((-1), r1.1, x31_1, x31_2, A33, r1.2.1, r1.2.2.1, r1.2.2.2.1, r1.2.2.2.2.1, r1.2.2.2.2.2))))
theorem dX9_codeOnWay_0 : decode cX9_codeOnWay 0 = .ok (.aload_n 0, 1) := by decide +kernel
theorem dX9_codeOnWay_1 : decode cX9_codeOnWay 1 = .ok (.invokevirtual 86, 3) := by decide +kernel
theorem dX9_codeOnWay_4 : decode cX9_codeOnWay 4 = .ok (.iload_n 2, 1) := by decide +kernel
theorem dX9_codeOnWay_5 : decode cX9_codeOnWay 5 = .ok (.aload_n 0, 1) := by decide +kernel
theorem dX9_codeOnWay_6 : decode cX9_codeOnWay 6 = .ok (.getfield 35, 3) := by decide +kernel
theorem dX9_codeOnWay_9 : decode cX9_codeOnWay 9 = .ok (.getfield 89, 3) := by decide +kernel
theorem dX9_codeOnWay_12 : decode cX9_codeOnWay 12 = .ok (.iconst 0, 1) := by decide +kernel
theorem dX9_codeOnWay_13 : decode cX9_codeOnWay 13 = .ok (.invokevirtual 81, 3) := by decide +kernel
theorem dX9_codeOnWay_16 : decode cX9_codeOnWay 16 = .ok (.if_icmp .lt 5, 3) := by decide +kernel
theorem dX9_codeOnWay_19 : decode cX9_codeOnWay 19 = .ok (.iconst (-1), 1) := by decide +kernel
theorem dX9_codeOnWay_20 : decode cX9_codeOnWay 20 = .ok (.ireturn, 1) := by decide +kernel
theorem dX9_codeOnWay_21 : decode cX9_codeOnWay 21 = .ok (.iconst 0, 1) := by decide +kernel
theorem dX9_codeOnWay_22 : decode cX9_codeOnWay 22 = .ok (.istore_n 3, 1) := by decide +kernel
theorem dX9_codeOnWay_23 : decode cX9_codeOnWay 23 = .ok (.iconst 0, 1) := by decide +kernel
theorem dX9_codeOnWay_24 : decode cX9_codeOnWay 24 = .ok (.istore 4, 2) := by decide +kernel
theorem dX9_codeOnWay_26 : decode cX9_codeOnWay 26 = .ok (.iload 4, 2) := by decide +kernel
theorem dX9_codeOnWay_28 : decode cX9_codeOnWay 28 = .ok (.iload_n 2, 1) := by decide +kernel
theorem dX9_codeOnWay_29 : decode cX9_codeOnWay 29 = .ok (.if_icmp .ge 22, 3) := by decide +kernel
theorem dX9_codeOnWay_32 : decode cX9_codeOnWay 32 = .ok (.aload_n 0, 1) := by decide +kernel
theorem dX9_codeOnWay_33 : decode cX9_codeOnWay 33 = .ok (.getfield 12, 3) := by decide +kernel
theorem dX9_codeOnWay_36 : decode cX9_codeOnWay 36 = .ok (.aload_n 0, 1) := by decide +kernel
theorem dX9_codeOnWay_37 : decode cX9_codeOnWay 37 = .ok (.iload_n 3, 1) := by decide +kernel
theorem dX9_codeOnWay_38 : decode cX9_codeOnWay 38 = .ok (.invokevirtual 103, 3) := by decide +kernel
theorem dX9_codeOnWay_41 : decode cX9_codeOnWay 41 = .ok (.invokevirtual 106, 3) := by decide +kernel
theorem dX9_codeOnWay_44 : decode cX9_codeOnWay 44 = .ok (.istore_n 3, 1) := by decide +kernel
theorem dX9_codeOnWay_45 : decode cX9_codeOnWay 45 = .ok (.iinc 4 1, 3) := by decide +kernel
theorem dX9_codeOnWay_48 : decode cX9_codeOnWay 48 = .ok (.goto (-22), 3) := by decide +kernel
theorem dX9_codeOnWay_51 : decode cX9_codeOnWay 51 = .ok (.aload_n 0, 1) := by decide +kernel
theorem dX9_codeOnWay_52 : decode cX9_codeOnWay 52 = .ok (.getfield 12, 3) := by decide +kernel
theorem dX9_codeOnWay_55 : decode cX9_codeOnWay 55 = .ok (.getfield 109, 3) := by decide +kernel
theorem dX9_codeOnWay_58 : decode cX9_codeOnWay 58 = .ok (.aload_n 1, 1) := by decide +kernel
theorem dX9_codeOnWay_59 : decode cX9_codeOnWay 59 = .ok (.aload_n 0, 1) := by decide +kernel
theorem dX9_codeOnWay_60 : decode cX9_codeOnWay 60 = .ok (.getfield 12, 3) := by decide +kernel
theorem dX9_codeOnWay_63 : decode cX9_codeOnWay 63 = .ok (.iload_n 3, 1) := by decide +kernel
theorem dX9_codeOnWay_64 : decode cX9_codeOnWay 64 = .ok (.invokevirtual 113, 3) := by decide +kernel
theorem dX9_codeOnWay_67 : decode cX9_codeOnWay 67 = .ok (.iconst 1, 1) := by decide +kernel
theorem dX9_codeOnWay_68 : decode cX9_codeOnWay 68 = .ok (.invokevirtual 117, 3) := by decide +kernel
theorem dX9_codeOnWay_71 : decode cX9_codeOnWay 71 = .ok (.aload_n 0, 1) := by decide +kernel
theorem dX9_codeOnWay_72 : decode cX9_codeOnWay 72 = .ok (.getfield 12, 3) := by decide +kernel
theorem dX9_codeOnWay_75 : decode cX9_codeOnWay 75 = .ok (.getfield 109, 3) := by decide +kernel
theorem dX9_codeOnWay_78 : decode cX9_codeOnWay 78 = .ok (.getfield 123, 3) := by decide +kernel
theorem dX9_codeOnWay_81 : decode cX9_codeOnWay 81 = .ok (.aload_n 0, 1) := by decide +kernel
theorem dX9_codeOnWay_82 : decode cX9_codeOnWay 82 = .ok (.iload_n 3, 1) := by decide +kernel
theorem dX9_codeOnWay_83 : decode cX9_codeOnWay 83 = .ok (.invokevirtual 103, 3) := by decide +kernel
theorem dX9_codeOnWay_86 : decode cX9_codeOnWay 86 = .ok (.aload_n 0, 1) := by decide +kernel
theorem dX9_codeOnWay_87 : decode cX9_codeOnWay 87 = .ok (.getfield 12, 3) := by decide +kernel
theorem dX9_codeOnWay_90 : decode cX9_codeOnWay 90 = .ok (.getfield 126, 3) := by decide +kernel
theorem dX9_codeOnWay_93 : decode cX9_codeOnWay 93 = .ok (.iload_n 3, 1) := by decide +kernel
theorem dX9_codeOnWay_94 : decode cX9_codeOnWay 94 = .ok (.invokevirtual 81, 3) := by decide +kernel
theorem dX9_codeOnWay_97 : decode cX9_codeOnWay 97 = .ok (.isub, 1) := by decide +kernel
theorem dX9_codeOnWay_98 : decode cX9_codeOnWay 98 = .ok (.invokevirtual 81, 3) := by decide +kernel
theorem dX9_codeOnWay_101 : decode cX9_codeOnWay 101 = .ok (.ireturn, 1) := by decide +kernel
set_option maxHeartbeats 4000000 in
set_option maxRecDepth 100000 in
theorem kX9_codeOnWay {l : Launch} {D : va_G} {cy : Nat → ClassId} {N : Nat} {q : Nat → Nat} {m0 : Nat → Value} {a0 : Nat → vp_A} {sz : Nat} (hN : 105 ≤ N) (hsh : SH q m0) {kr : Nat} (hkr : kr < N) (hgk : gk kr = 7) {x28_2 : Int32} (h_x28_2 : m0 2802 = .int x28_2) {xkr_1 : Int32} (h_xkr_1 : m0 (100 * kr + 1) = .int xkr_1) {xkr_2 : Int32} (h_xkr_2 : m0 (100 * kr + 2) = .int xkr_2) {A30 : Nat → Int32} (h_A30 : a0 30 = (6001, .inl A30)) {A35 : Nat → Int32} (h_A35 : a0 35 = (60000, .inl A35)) {A38 : Nat → Int64} (h_A38 : a0 38 = (6000, .inr (.inl A38))) {x27_8 : Int32} (h_x27_8 : m0 2708 = .int x27_8) {x31_1 : Int32} (h_x31_1 : m0 3101 = .int x31_1) {x31_2 : Int32} (h_x31_2 : m0 3102 = .int x31_2) {A33 : Nat → Int32} (h_A33 : a0 33 = (10, .inl A33)) {A57 : Nat → Int32} (h_A57 : a0 57 = (6000, .inl A57)) {A59 : Nat → Int32} (h_A59 : a0 59 = (6000, .inl A59)) {A61 : Nat → Int32} (h_A61 : a0 61 = (6000, .inl A61)) {A63 : Nat → Int32} (h_A63 : a0 63 = (6001, .inl A63)) {A65 : Nat → Int32} (h_A65 : a0 65 = (60000, .inl A65)) (F : Nat) (p2 : Int32) {X0 : Int32 × Int32 × Int32 × Int32 × (Nat → Int32) × (Nat → Int32) × (Nat → Int32) × (Nat → Int32) × (Nat → Int32) × (Nat → Int32)} (hs0 : fX9_codeOnWay F x28_2 xkr_1 xkr_2 A30 A35 A38 x27_8 x31_1 x31_2 A33 A57 A59 A61 A63 A65 p2 = some X0) : gMi l yX9_codeOnWay cX9_codeOnWay 5 (some .int) ({ frames := 6, cells := 0, slots := 0, locals := 135 } : Room) D cy N q m0 a0 sz [.ref (q 27), .ref (q kr), .int p2] (fun r m' a' => r = X0.1 ∧ m' 2708 = .int X0.2.1 ∧ m' 3101 = .int X0.2.2.1 ∧ m' 3102 = .int X0.2.2.2.1 ∧ (∀ j, nel j [2708, 3101, 3102] = false → m' j = m0 j) ∧ a' 33 = (10, .inl X0.2.2.2.2.1) ∧ a' 57 = (6000, .inl X0.2.2.2.2.2.1) ∧ a' 59 = (6000, .inl X0.2.2.2.2.2.2.1) ∧ a' 61 = (6000, .inl X0.2.2.2.2.2.2.2.1) ∧ a' 63 = (6001, .inl X0.2.2.2.2.2.2.2.2.1) ∧ a' 65 = (60000, .inl X0.2.2.2.2.2.2.2.2.2) ∧ (∀ j, nel j [33, 57, 59, 61, 63, 65] = false → a' j = a0 j)) := by
  refine g_ofi (by decide) (Nat.le_of_ble_eq_true rfl) ?_
  intro p e s M args below meth c hx hb hr hG hown hin hlocks hml hW hS ls hl
  unfold fX9_codeOnWay at hs0
  have hoff : ∀ j, nel j [2708, 3101, 3102] = false → m0 j = m0 j := off0
  have hoffa : ∀ j, nel j [33, 57, 59, 61, 63, 65] = false → a0 j = a0 j := off0
  refine lv_aload_n hx hb dX9_codeOnWay_0 rfl (lv_at hl 0 rfl) ?_
  obtain ⟨r1, hf1, hs0⟩ := obind hs0
  refine g_Vv (n := 0) hx hb hml hown hG hW hS [] (kX9_range hN hsh ((hoff 2802 rfl).trans h_x28_2) ((hoffa 30 rfl).trans h_A30) ((hoffa 35 rfl).trans h_A35) h_x27_8 h_A57 h_A59 h_A61 h_A63 h_A65 F hf1) (ltN hN 27 rfl) gk27 (by decide) rfl rfl (gd_V gx836 gx837 gx838 gx35 gx839) rfl rfl (by decide) ⟨Nat.le_of_ble_eq_true rfl, Nat.le_of_ble_eq_true rfl⟩ rfl hl (Nat.le_of_ble_eq_true rfl) ⟨Nat.zero_le _, Nat.zero_le _⟩ dX9_codeOnWay_1 (fun m1 a1 H locs hp1 hW hS => ?_)
  obtain ⟨hp1_x27_8, ho1, hp1_A57, hp1_A59, hp1_A61, hp1_A63, hp1_A65, hoa1⟩ := hp1
  have w_x27_8 : m1 2708 = .int r1.1 := hp1_x27_8
  have w_x31_1 : m1 3101 = .int x31_1 := (ho1 3101 rfl).trans h_x31_1
  have w_x31_2 : m1 3102 = .int x31_2 := (ho1 3102 rfl).trans h_x31_2
  have hoff := offm hoff ho1 (by decide +kernel)
  have hsh := SH.off hsh ho1 (by decide +kernel)
  have w_A33 : a1 33 = (10, .inl A33) := (hoa1 33 rfl).trans h_A33
  have w_A57 : a1 57 = (6000, .inl r1.2.1) := hp1_A57
  have w_A59 : a1 59 = (6000, .inl r1.2.2.1) := hp1_A59
  have w_A61 : a1 61 = (6000, .inl r1.2.2.2.1) := hp1_A61
  have w_A63 : a1 63 = (6001, .inl r1.2.2.2.2.1) := hp1_A63
  have w_A65 : a1 65 = (60000, .inl r1.2.2.2.2.2) := hp1_A65
  have hoffa := offm hoffa hoa1 (by decide +kernel)
  refine lv_iload_n hx hb dX9_codeOnWay_4 rfl (lv_at hl 2 rfl) ?_
  refine lv_aload_n hx hb dX9_codeOnWay_5 rfl (lv_at hl 0 rfl) ?_
  refine gf9_3 hx hb hG hown hW (o := 27) (ltN hN 27 rfl) gk27 (v := .ref (q 55)) (sh27_3 hsh) gx99 dX9_codeOnWay_6 ?_
  refine gf5_0 hx hb hG hown hW (o := 55) (ltN hN 55 rfl) gk55 (v := .ref (q 56)) (sh55_0 hsh) gx835 dX9_codeOnWay_9 ?_
  refine lv_iconst (v := 0) hx hb dX9_codeOnWay_12 (by decide) ?_
  refine g_ViR (n := 1) hx hb hml hown hG hW hS [.int 0] (kX2_at (ltN hN 56 rfl) gk56 (ltN hN 57 rfl) gk57 (sh56_0 hsh) (by decide) w_A57 0) (ltN hN 56 rfl) gk56 (by decide) rfl rfl (gd_V gx795 gx564 gx565 gx47 gx566) rfl rfl (by decide) ⟨Nat.le_of_ble_eq_true rfl, Nat.le_of_ble_eq_true rfl⟩ rfl hl (Nat.le_of_ble_eq_true rfl) ⟨Nat.zero_le _, Nat.zero_le _⟩ dX9_codeOnWay_13 (fun H locs hW hS => ?_)
  refine lv_icmp_lt (tgt := 21) hx hb dX9_codeOnWay_16 (by decide) (fun c3 => ?_) (fun c3 => ?_)
  · rw [if_pos c3] at hs0
    refine lv_iconst (v := 0) hx hb dX9_codeOnWay_21 (by decide) ?_
    refine lv_istore_n (lv' := [(3, .int 0), (0, .ref (q 27)), (1, .ref (q kr)), (2, .int p2)]) hx hb dX9_codeOnWay_22 rfl hl (by decide) rfl (fun ls hl => ?_)
    refine lv_iconst (v := 0) hx hb dX9_codeOnWay_23 (by decide) ?_
    refine lv_istore (lv' := [(4, .int 0), (3, .int 0), (0, .ref (q 27)), (1, .ref (q kr)), (2, .int p2)]) hx hb dX9_codeOnWay_24 hl (by decide) rfl (fun ls hl => ?_)
    obtain ⟨r4, hg4, hs0⟩ := obind hs0
    have hE1_51 : ∀ (t4_51 : Int32) (hr4 : t4_51 = r4) (m : Nat → Value) (a : Nat → vp_A) (H : Heap) (locs : List Loc) (w_x27_8 : m 2708 = .int r1.1) (w_x31_1 : m 3101 = .int x31_1) (w_x31_2 : m 3102 = .int x31_2) (hoff : ∀ j, nel j [2708, 3101, 3102] = false → m j = m0 j) (hsh : SH q m) (w_A33 : a 33 = (10, .inl A33)) (w_A57 : a 57 = (6000, .inl r1.2.1)) (w_A59 : a 59 = (6000, .inl r1.2.2.1)) (w_A61 : a 61 = (6000, .inl r1.2.2.2.1)) (w_A63 : a 63 = (6001, .inl r1.2.2.2.2.1)) (w_A65 : a 65 = (60000, .inl r1.2.2.2.2.2)) (hoffa : ∀ j, nel j [33, 57, 59, 61, 63, 65] = false → a j = a0 j) (ls : Array Slot) (hl : lv_has ls 5 [(0, .ref (q 27)), (1, .ref (q kr)), (3, .int t4_51)]) (hW : GW D cy (gA N q s.heap.size) N q m a s H) (hS : va_S (gA N q s.heap.size) s.heap H locs), W p l e ({ frames := 6, cells := 0, slots := 0, locals := 135 } : Room) s M args below meth c H locs 0 0 (MQ below (va_Qi (fun (r : Int32) (u : (Nat → Value) × (Nat → vp_A)) => r = X0.1 ∧ u.1 2708 = .int X0.2.1 ∧ u.1 3101 = .int X0.2.2.1 ∧ u.1 3102 = .int X0.2.2.2.1 ∧ (∀ j, nel j [2708, 3101, 3102] = false → u.1 j = m0 j) ∧ u.2 33 = (10, .inl X0.2.2.2.2.1) ∧ u.2 57 = (6000, .inl X0.2.2.2.2.2.1) ∧ u.2 59 = (6000, .inl X0.2.2.2.2.2.2.1) ∧ u.2 61 = (6000, .inl X0.2.2.2.2.2.2.2.1) ∧ u.2 63 = (6001, .inl X0.2.2.2.2.2.2.2.2.1) ∧ u.2 65 = (60000, .inl X0.2.2.2.2.2.2.2.2.2) ∧ (∀ j, nel j [33, 57, 59, 61, 63, 65] = false → u.2 j = a0 j)) (gB D cy N q s.heap.size) (gA N q s.heap.size)) args s 0 0 (gA N q s.heap.size)) (F0 M 51 ls []) := by
      intro t4_51 hr4 m a H locs w_x27_8 w_x31_1 w_x31_2 hoff hsh w_A33 w_A57 w_A59 w_A61 w_A63 w_A65 hoffa ls hl hW hS
      subst hr4
      refine lv_aload_n hx hb dX9_codeOnWay_51 rfl (lv_at hl 0 rfl) ?_
      refine gf9_0 hx hb hG hown hW (o := 27) (ltN hN 27 rfl) gk27 (v := .ref (q 28)) (sh27_0 hsh) gx87 dX9_codeOnWay_52 ?_
      refine gf1_1 hx hb hG hown hW (o := 28) (ltN hN 28 rfl) gk28 (v := .ref (q 31)) (sh28_1 hsh) gx885 dX9_codeOnWay_55 ?_
      refine lv_aload_n hx hb dX9_codeOnWay_58 rfl (lv_at hl 1 rfl) ?_
      refine lv_aload_n hx hb dX9_codeOnWay_59 rfl (lv_at hl 0 rfl) ?_
      refine gf9_0 hx hb hG hown hW (o := 27) (ltN hN 27 rfl) gk27 (v := .ref (q 28)) (sh27_0 hsh) gx87 dX9_codeOnWay_60 ?_
      refine lv_iload_n hx hb dX9_codeOnWay_63 rfl (lv_at hl 2 rfl) ?_
      obtain ⟨r8, hf8, hs0⟩ := obind hs0
      refine g_VlR (n := 1) hx hb hml hown hG hW hS [.int t4_51] (kX1_stateAt hN hsh ((hoffa 38 rfl).trans h_A38) t4_51 hf8) (ltN hN 28 rfl) gk28 (by decide) rfl rfl (gd_V gx894 gx693 gx694 gx86 gx695) rfl rfl (by decide) ⟨Nat.le_of_ble_eq_true rfl, Nat.le_of_ble_eq_true rfl⟩ rfl hl (Nat.le_of_ble_eq_true rfl) ⟨Nat.zero_le _, Nat.zero_le _⟩ dX9_codeOnWay_64 (fun H locs hW hS => ?_)
      refine lv_iconst (v := 1) hx hb dX9_codeOnWay_67 (by decide) ?_
      obtain ⟨r9, hf9, hs0⟩ := obind hs0
      refine g_Vv (n := 3) hx hb hml hown hG hW hS [.ref (q kr), .long r8, .int 1] (kX0_list_31 hN hsh hkr hgk ((off_kr hoff hgk 1 rfl (by decide)).trans h_xkr_1) ((off_kr hoff hgk 2 rfl (by decide)).trans h_xkr_2) w_x31_1 w_x31_2 w_A33 F r8 1 hf9) (ltN hN 31 rfl) gk31 (by decide) rfl rfl (gd_V gx895 gx540 gx541 gx23 gx542) rfl rfl (by decide) ⟨Nat.le_of_ble_eq_true rfl, Nat.le_of_ble_eq_true rfl⟩ rfl hl (Nat.le_of_ble_eq_true rfl) ⟨Nat.zero_le _, Nat.zero_le _⟩ dX9_codeOnWay_68 (fun m9 a9 H locs hp9 hW hS => ?_)
      obtain ⟨hp9_x31_1, hp9_x31_2, ho9, hp9_A33, hoa9⟩ := hp9
      have w_x27_8 : m9 2708 = .int r1.1 := (ho9 2708 rfl).trans w_x27_8
      have w_x31_1 : m9 3101 = .int r9.1 := hp9_x31_1
      have w_x31_2 : m9 3102 = .int r9.2.1 := hp9_x31_2
      have hoff := offm hoff ho9 (by decide +kernel)
      have hsh := SH.off hsh ho9 (by decide +kernel)
      have w_A33 : a9 33 = (10, .inl r9.2.2) := hp9_A33
      have w_A57 : a9 57 = (6000, .inl r1.2.1) := (hoa9 57 rfl).trans w_A57
      have w_A59 : a9 59 = (6000, .inl r1.2.2.1) := (hoa9 59 rfl).trans w_A59
      have w_A61 : a9 61 = (6000, .inl r1.2.2.2.1) := (hoa9 61 rfl).trans w_A61
      have w_A63 : a9 63 = (6001, .inl r1.2.2.2.2.1) := (hoa9 63 rfl).trans w_A63
      have w_A65 : a9 65 = (60000, .inl r1.2.2.2.2.2) := (hoa9 65 rfl).trans w_A65
      have hoffa := offm hoffa hoa9 (by decide +kernel)
      refine lv_aload_n hx hb dX9_codeOnWay_71 rfl (lv_at hl 0 rfl) ?_
      refine gf9_0 hx hb hG hown hW (o := 27) (ltN hN 27 rfl) gk27 (v := .ref (q 28)) (sh27_0 hsh) gx87 dX9_codeOnWay_72 ?_
      refine gf1_1 hx hb hG hown hW (o := 28) (ltN hN 28 rfl) gk28 (v := .ref (q 31)) (sh28_1 hsh) gx885 dX9_codeOnWay_75 ?_
      refine gf0_0 hx hb hG hown hW (o := 31) (ltN hN 31 rfl) gk31 (v := .ref (q 32)) (sh31_0 hsh) gx886 dX9_codeOnWay_78 ?_
      refine lv_aload_n hx hb dX9_codeOnWay_81 rfl (lv_at hl 0 rfl) ?_
      refine lv_iload_n hx hb dX9_codeOnWay_82 rfl (lv_at hl 2 rfl) ?_
      obtain ⟨r10, hf10, hs0⟩ := obind hs0
      refine g_ViR (n := 1) hx hb hml hown hG hW hS [.int t4_51] (kX9_soonestEdge hN hsh ((hoffa 30 rfl).trans h_A30) ((hoffa 35 rfl).trans h_A35) w_A57 F t4_51 hf10) (ltN hN 27 rfl) gk27 (by decide) rfl rfl (gd_V gx888 gx889 gx890 gx35 gx891) rfl rfl (by decide) ⟨Nat.le_of_ble_eq_true rfl, Nat.le_of_ble_eq_true rfl⟩ rfl hl (Nat.le_of_ble_eq_true rfl) ⟨Nat.zero_le _, Nat.zero_le _⟩ dX9_codeOnWay_83 (fun H locs hW hS => ?_)
      refine lv_aload_n hx hb dX9_codeOnWay_86 rfl (lv_at hl 0 rfl) ?_
      refine gf9_0 hx hb hG hown hW (o := 27) (ltN hN 27 rfl) gk27 (v := .ref (q 28)) (sh27_0 hsh) gx87 dX9_codeOnWay_87 ?_
      refine gf1_0 hx hb hG hown hW (o := 28) (ltN hN 28 rfl) gk28 (v := .ref (q 29)) (sh28_0 hsh) gx887 dX9_codeOnWay_90 ?_
      refine lv_iload_n hx hb dX9_codeOnWay_93 rfl (lv_at hl 2 rfl) ?_
      refine g_ViR (n := 1) hx hb hml hown hG hW hS [.int t4_51] (kX2_at (ltN hN 29 rfl) gk29 (ltN hN 30 rfl) gk30 (sh29_0 hsh) (by decide) ((hoffa 30 rfl).trans h_A30) t4_51) (ltN hN 29 rfl) gk29 (by decide) rfl rfl (gd_V gx795 gx564 gx565 gx47 gx566) rfl rfl (by decide) ⟨Nat.le_of_ble_eq_true rfl, Nat.le_of_ble_eq_true rfl⟩ rfl hl (Nat.le_of_ble_eq_true rfl) ⟨Nat.zero_le _, Nat.zero_le _⟩ dX9_codeOnWay_94 (fun H locs hW hS => ?_)
      refine lv_isub hx hb dX9_codeOnWay_97 ?_
      refine g_ViR (n := 1) hx hb hml hown hG hW hS [.int (r10 - (cAt 6001 A30 t4_51))] (kX2_at (ltN hN 32 rfl) gk32 (ltN hN 33 rfl) gk33 (sh32_0 hsh) (by decide) w_A33 (r10 - (cAt 6001 A30 t4_51))) (ltN hN 32 rfl) gk32 (by decide) rfl rfl (gd_V gx795 gx564 gx565 gx47 gx566) rfl rfl (by decide) ⟨Nat.le_of_ble_eq_true rfl, Nat.le_of_ble_eq_true rfl⟩ rfl hl (Nat.le_of_ble_eq_true rfl) ⟨Nat.zero_le _, Nat.zero_le _⟩ dX9_codeOnWay_98 (fun H locs hW hS => ?_)
      have hs0 := Option.some.inj hs0
      subst hs0
      exact W.zret hx hb hr rfl (fun t ht hw => ⟨⟨_, (m9, a9), rfl, ⟨rfl, w_x27_8, w_x31_1, w_x31_2, hoff, w_A33, w_A57, w_A59, w_A61, w_A63, w_A65, hoffa⟩, g_end hW ht hw⟩, hS.F ht⟩) hS.2.2 dX9_codeOnWay_101 hlocks
    have hL1 : ∀ (n : Nat) (v3k4 : Int32) (v4k4 : Int32) (m : Nat → Value) (a : Nat → vp_A) (H : Heap) (locs : List Loc) (w_x27_8 : m 2708 = .int r1.1) (w_x31_1 : m 3101 = .int x31_1) (w_x31_2 : m 3102 = .int x31_2) (hoff : ∀ j, nel j [2708, 3101, 3102] = false → m j = m0 j) (hsh : SH q m) (w_A33 : a 33 = (10, .inl A33)) (w_A57 : a 57 = (6000, .inl r1.2.1)) (w_A59 : a 59 = (6000, .inl r1.2.2.1)) (w_A61 : a 61 = (6000, .inl r1.2.2.2.1)) (w_A63 : a 63 = (6001, .inl r1.2.2.2.2.1)) (w_A65 : a 65 = (60000, .inl r1.2.2.2.2.2)) (hoffa : ∀ j, nel j [33, 57, 59, 61, 63, 65] = false → a j = a0 j) (ls : Array Slot) (hl : lv_has ls 5 [(0, .ref (q 27)), (1, .ref (q kr)), (2, .int p2), (3, .int v3k4), (4, .int v4k4)]) (hg4 : gloop (fun u4 : (Int32 × Int32) => fX9_codeOnWay_S26 F x28_2 xkr_1 xkr_2 A30 A35 A38 p2 r1.1 x31_1 x31_2 A33 r1.2.1 r1.2.2.1 r1.2.2.2.1 r1.2.2.2.2.1 r1.2.2.2.2.2 u4.1 u4.2) n (v3k4, v4k4) = some r4) (hW : GW D cy (gA N q s.heap.size) N q m a s H) (hS : va_S (gA N q s.heap.size) s.heap H locs), W p l e ({ frames := 6, cells := 0, slots := 0, locals := 135 } : Room) s M args below meth c H locs 0 0 (MQ below (va_Qi (fun (r : Int32) (u : (Nat → Value) × (Nat → vp_A)) => r = X0.1 ∧ u.1 2708 = .int X0.2.1 ∧ u.1 3101 = .int X0.2.2.1 ∧ u.1 3102 = .int X0.2.2.2.1 ∧ (∀ j, nel j [2708, 3101, 3102] = false → u.1 j = m0 j) ∧ u.2 33 = (10, .inl X0.2.2.2.2.1) ∧ u.2 57 = (6000, .inl X0.2.2.2.2.2.1) ∧ u.2 59 = (6000, .inl X0.2.2.2.2.2.2.1) ∧ u.2 61 = (6000, .inl X0.2.2.2.2.2.2.2.1) ∧ u.2 63 = (6001, .inl X0.2.2.2.2.2.2.2.2.1) ∧ u.2 65 = (60000, .inl X0.2.2.2.2.2.2.2.2.2) ∧ (∀ j, nel j [33, 57, 59, 61, 63, 65] = false → u.2 j = a0 j)) (gB D cy N q s.heap.size) (gA N q s.heap.size)) args s 0 0 (gA N q s.heap.size)) (F0 M 26 ls []) := by
      intro n
      induction n with
      | zero => intro v3k4 v4k4 m a H locs w_x27_8 w_x31_1 w_x31_2 hoff hsh w_A33 w_A57 w_A59 w_A61 w_A63 w_A65 hoffa ls hl hg4 hW hS; exact (gl_zero hg4).elim
      | succ n ih1 =>
        intro v3k4 v4k4 m a H locs w_x27_8 w_x31_1 w_x31_2 hoff hsh w_A33 w_A57 w_A59 w_A61 w_A63 w_A65 hoffa ls hl hg4 hW hS
        obtain ⟨X1, hs1, hXl1, hXr1⟩ := gl_succ hg4
        have hs1 : fX9_codeOnWay_S26 F x28_2 xkr_1 xkr_2 A30 A35 A38 p2 r1.1 x31_1 x31_2 A33 r1.2.1 r1.2.2.1 r1.2.2.2.1 r1.2.2.2.2.1 r1.2.2.2.2.2 v3k4 v4k4 = some X1 := hs1
        unfold fX9_codeOnWay_S26 at hs1
        refine lv_iload hx hb dX9_codeOnWay_26 (lv_at hl 4 rfl) ?_
        refine lv_iload_n hx hb dX9_codeOnWay_28 rfl (lv_at hl 2 rfl) ?_
        refine lv_icmp_ge (tgt := 51) hx hb dX9_codeOnWay_29 (by decide) (fun c13 => ?_) (fun c13 => ?_)
        · rw [if_pos c13] at hs1
          exact hE1_51 v3k4 (hXl1 _ (Option.some.inj hs1).symm) m a _ _ w_x27_8 w_x31_1 w_x31_2 hoff hsh w_A33 w_A57 w_A59 w_A61 w_A63 w_A65 hoffa ls (lv_sub hl [0, 1, 3] rfl) hW hS
        · rw [if_neg c13] at hs1
          refine lv_aload_n hx hb dX9_codeOnWay_32 rfl (lv_at hl 0 rfl) ?_
          refine gf9_0 hx hb hG hown hW (o := 27) (ltN hN 27 rfl) gk27 (v := .ref (q 28)) (sh27_0 hsh) gx87 dX9_codeOnWay_33 ?_
          refine lv_aload_n hx hb dX9_codeOnWay_36 rfl (lv_at hl 0 rfl) ?_
          refine lv_iload_n hx hb dX9_codeOnWay_37 rfl (lv_at hl 3 rfl) ?_
          obtain ⟨r14, hf14, hs1⟩ := obind hs1
          refine g_ViR (n := 1) hx hb hml hown hG hW hS [.int v3k4] (kX9_soonestEdge hN hsh ((hoffa 30 rfl).trans h_A30) ((hoffa 35 rfl).trans h_A35) w_A57 F v3k4 hf14) (ltN hN 27 rfl) gk27 (by decide) rfl rfl (gd_V gx888 gx889 gx890 gx35 gx891) rfl rfl (by decide) ⟨Nat.le_of_ble_eq_true rfl, Nat.le_of_ble_eq_true rfl⟩ rfl hl (Nat.le_of_ble_eq_true rfl) ⟨Nat.zero_le _, Nat.zero_le _⟩ dX9_codeOnWay_38 (fun H locs hW hS => ?_)
          refine g_ViR (n := 1) hx hb hml hown hG hW hS [.int r14] (kX1_targetOf hN hsh ((hoffa 35 rfl).trans h_A35) r14) (ltN hN 28 rfl) gk28 (by decide) rfl rfl (gd_V gx893 gx772 gx773 gx86 gx774) rfl rfl (by decide) ⟨Nat.le_of_ble_eq_true rfl, Nat.le_of_ble_eq_true rfl⟩ rfl hl (Nat.le_of_ble_eq_true rfl) ⟨Nat.zero_le _, Nat.zero_le _⟩ dX9_codeOnWay_41 (fun H locs hW hS => ?_)
          refine lv_istore_n (lv' := [(3, .int (fX1_targetOf A35 r14)), (0, .ref (q 27)), (1, .ref (q kr)), (2, .int p2), (4, .int v4k4)]) hx hb dX9_codeOnWay_44 rfl hl (by decide) rfl (fun ls hl => ?_)
          refine lv_iinc (v := v4k4 + 1) (lv' := [(4, .int (v4k4 + 1)), (3, .int (fX1_targetOf A35 r14)), (0, .ref (q 27)), (1, .ref (q kr)), (2, .int p2)]) hx hb dX9_codeOnWay_45 hl (k := 4) rfl rfl (by decide) rfl (fun ls hl => ?_)
          refine lv_goto (tgt := 26) hx hb dX9_codeOnWay_48 (by decide) ?_
          exact ih1 (fX1_targetOf A35 r14) (v4k4 + 1) m a _ _ w_x27_8 w_x31_1 w_x31_2 hoff hsh w_A33 w_A57 w_A59 w_A61 w_A63 w_A65 hoffa ls (lv_sub hl [2, 3, 4, 1, 0] rfl) (hXr1 _ (Option.some.inj hs1).symm) hW hS
    exact hL1 F 0 0 m1 a1 _ _ w_x27_8 w_x31_1 w_x31_2 hoff hsh w_A33 w_A57 w_A59 w_A61 w_A63 w_A65 hoffa ls (lv_sub hl [2, 3, 4, 1, 0] rfl) hg4 hW hS
  · rw [if_neg c3] at hs0
    refine lv_iconst (v := (-1)) hx hb dX9_codeOnWay_19 (by decide) ?_
    have hs0 := Option.some.inj hs0
    subst hs0
    exact W.zret hx hb hr rfl (fun t ht hw => ⟨⟨_, (m1, a1), rfl, ⟨rfl, w_x27_8, w_x31_1, w_x31_2, hoff, w_A33, w_A57, w_A59, w_A61, w_A63, w_A65, hoffa⟩, g_end hW ht hw⟩, hS.F ht⟩) hS.2.2 dX9_codeOnWay_20 hlocks
