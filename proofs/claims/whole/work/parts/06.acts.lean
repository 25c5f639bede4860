/-! 06.acts (by program): the pure function of each method, its rows, its contract -/
-- HealLink$Acts.add (I)V
def fX0_add (x8_1 : Int32) (A10 : Nat → Int32) (p1 : Int32) : Int32 × (Nat → Int32) := (if 10 ≤ x8_1 then (x8_1, A10) else (x8_1 + 1, (cPut 10 A10 x8_1 p1)))
theorem dX0_add_0 : decode cX0_add 0 = .ok (.aload_n 0, 1) := by decide +kernel
theorem dX0_add_1 : decode cX0_add 1 = .ok (.getfield 30, 3) := by decide +kernel
theorem dX0_add_4 : decode cX0_add 4 = .ok (.bipush 10, 2) := by decide +kernel
theorem dX0_add_6 : decode cX0_add 6 = .ok (.if_icmp .ge 25, 3) := by decide +kernel
theorem dX0_add_9 : decode cX0_add 9 = .ok (.aload_n 0, 1) := by decide +kernel
theorem dX0_add_10 : decode cX0_add 10 = .ok (.getfield 14, 3) := by decide +kernel
theorem dX0_add_13 : decode cX0_add 13 = .ok (.aload_n 0, 1) := by decide +kernel
theorem dX0_add_14 : decode cX0_add 14 = .ok (.getfield 30, 3) := by decide +kernel
theorem dX0_add_17 : decode cX0_add 17 = .ok (.iload_n 1, 1) := by decide +kernel
theorem dX0_add_18 : decode cX0_add 18 = .ok (.invokevirtual 67, 3) := by decide +kernel
theorem dX0_add_21 : decode cX0_add 21 = .ok (.aload_n 0, 1) := by decide +kernel
theorem dX0_add_22 : decode cX0_add 22 = .ok (.dup, 1) := by decide +kernel
theorem dX0_add_23 : decode cX0_add 23 = .ok (.getfield 30, 3) := by decide +kernel
theorem dX0_add_26 : decode cX0_add 26 = .ok (.iconst 1, 1) := by decide +kernel
theorem dX0_add_27 : decode cX0_add 27 = .ok (.iadd, 1) := by decide +kernel
theorem dX0_add_28 : decode cX0_add 28 = .ok (.putfield 30, 3) := by decide +kernel
theorem dX0_add_31 : decode cX0_add 31 = .ok (.return_, 1) := by decide +kernel
set_option maxHeartbeats 4000000 in
set_option maxRecDepth 100000 in
theorem kX0_add_8 {l : Launch} {D : va_G} {cy : Nat → ClassId} {N : Nat} {q : Nat → Nat} {m0 : Nat → Value} {a0 : Nat → vp_A} {sz : Nat} (hN : 105 ≤ N) (hsh : SH q m0) {x8_1 : Int32} (h_x8_1 : m0 801 = .int x8_1) {A10 : Nat → Int32} (h_A10 : a0 10 = (10, .inl A10)) (p1 : Int32) : gMv l yX0_add cX0_add 2 none ({ frames := 1, cells := 0, slots := 0, locals := 22 } : Room) D cy N q m0 a0 sz [.ref (q 8), .int p1] (fun m' a' => m' 801 = .int ((fX0_add x8_1 A10 p1).1) ∧ (∀ j, nel j [801] = false → m' j = m0 j) ∧ a' 10 = (10, .inl ((fX0_add x8_1 A10 p1).2)) ∧ (∀ j, nel j [10] = false → a' j = a0 j)) := by
  generalize hs0 : fX0_add x8_1 A10 p1 = X0
  refine g_ofv (by decide) (Nat.le_of_ble_eq_true rfl) ?_
  intro p e s M args below meth c hx hb hr hG hown hin hlocks hml hW hS ls hl
  unfold fX0_add at hs0
  have hoff : ∀ j, nel j [801] = false → m0 j = m0 j := off0
  have hoffa : ∀ j, nel j [10] = false → a0 j = a0 j := off0
  refine lv_aload_n hx hb dX0_add_0 rfl (lv_at hl 0 rfl) ?_
  refine gf0_1 hx hb hG hown hW (o := 8) (ltN hN 8 rfl) gk8 (v := .int x8_1) h_x8_1 gx543 dX0_add_1 ?_
  refine lv_bipush (v := 10) hx hb dX0_add_4 (by decide) ?_
  refine lv_icmp_ge (tgt := 31) hx hb dX0_add_6 (by decide) (fun c1 => ?_) (fun c1 => ?_)
  · rw [if_pos c1] at hs0
    subst hs0
    exact W.vret hx hb hr (fun t ht hw => ⟨⟨(m0, a0), rfl, ⟨h_x8_1, hoff, h_A10, hoffa⟩, g_end hW ht hw⟩, hS.F ht⟩) hS.2.2 dX0_add_31 hlocks
  · rw [if_neg c1] at hs0
    refine lv_aload_n hx hb dX0_add_9 rfl (lv_at hl 0 rfl) ?_
    refine gf0_0 hx hb hG hown hW (o := 8) (ltN hN 8 rfl) gk8 (v := .ref (q 9)) (sh8_0 hsh) gx62 dX0_add_10 ?_
    refine lv_aload_n hx hb dX0_add_13 rfl (lv_at hl 0 rfl) ?_
    refine gf0_1 hx hb hG hown hW (o := 8) (ltN hN 8 rfl) gk8 (v := .int x8_1) h_x8_1 gx543 dX0_add_14 ?_
    refine lv_iload_n hx hb dX0_add_17 rfl (lv_at hl 1 rfl) ?_
    refine g_Vv (n := 2) hx hb hml hown hG hW hS [.int x8_1, .int p1] (kX2_put (ltN hN 9 rfl) gk9 (ltN hN 10 rfl) gk10 (sh9_0 hsh) (by decide) h_A10 x8_1 p1) (ltN hN 9 rfl) gk9 (by decide) rfl rfl (gd_V gx550 gx551 gx552 gx47 gx553) rfl rfl (by decide) ⟨Nat.le_of_ble_eq_true rfl, Nat.le_of_ble_eq_true rfl⟩ rfl hl (Nat.le_of_ble_eq_true rfl) ⟨Nat.zero_le _, Nat.zero_le _⟩ dX0_add_18 (fun m2 a2 H locs hp2 hW hS => ?_)
    obtain ⟨hm2, hp2_A10, hoa2⟩ := hp2
    rw [hm2] at hW
    have w_A10 : a2 10 = (10, .inl (cPut 10 A10 x8_1 p1)) := hp2_A10
    have hoffa := offm hoffa hoa2 (by decide +kernel)
    refine lv_aload_n hx hb dX0_add_21 rfl (lv_at hl 0 rfl) ?_
    refine lv_dup hx hb dX0_add_22 rfl ?_
    refine gf0_1 hx hb hG hown hW (o := 8) (ltN hN 8 rfl) gk8 (v := .int x8_1) h_x8_1 gx543 dX0_add_23 ?_
    refine lv_iconst (v := 1) hx hb dX0_add_26 (by decide) ?_
    refine lv_iadd hx hb dX0_add_27 ?_
    refine gp0_1 hx hb hG hown hW hS (o := 8) (ltN hN 8 rfl) gk8 (v := (x8_1 + 1)) gx543 dX0_add_28 (fun m3 H locs hm3 ho3 hW hS => ?_)
    have ho3 := off1 ho3
    have w_x8_1 : m3 801 = .int (x8_1 + 1) := hm3
    have hoff := offm hoff ho3 (by decide +kernel)
    have hsh := SH.off hsh ho3 (by decide +kernel)
    subst hs0
    exact W.vret hx hb hr (fun t ht hw => ⟨⟨(m3, a2), rfl, ⟨w_x8_1, hoff, w_A10, hoffa⟩, g_end hW ht hw⟩, hS.F ht⟩) hS.2.2 dX0_add_31 hlocks
-- HealLink$Acts.addPackets (ILHealLink$Rules;J)V
def fX0_addPackets_J36 (F : Nat) (xkr_1 : Int32) (v1 : Int32) (v3 : Int64) (v5j6 : Int32) (x8_1j6 : Int32) (A10j6 : Nat → Int32) : Option ((Int32 × (Nat → Int32)) ⊕ (Int32 × Int32 × (Nat → Int32))) := some (Sum.inr (v5j6 + 1, x8_1j6, A10j6))
def fX0_addPackets_S3 (F : Nat) (xkr_1 : Int32) (v1 : Int32) (v3 : Int64) (v5 : Int32) (x8_1 : Int32) (A10 : Nat → Int32) : Option ((Int32 × (Nat → Int32)) ⊕ (Int32 × Int32 × (Nat → Int32))) := (if (2 * xkr_1) ≤ v5 then some (Sum.inl (x8_1, A10)) else (if (fX7_digit v3 (fX7_packetsAt v5)) ≤ 0 then fX0_addPackets_J36 F xkr_1 v1 v3 v5 x8_1 A10 else fX0_addPackets_J36 F xkr_1 v1 v3 v5 ((fX0_add x8_1 A10 (v1 ||| (v5 <<< (3 &&& 31)))).1) ((fX0_add x8_1 A10 (v1 ||| (v5 <<< (3 &&& 31)))).2)))
def fX0_addPackets (F : Nat) (xkr_1 : Int32) (x8_1 : Int32) (A10 : Nat → Int32) (p1 : Int32) (p3 : Int64) : Option (Int32 × (Nat → Int32)) := (gloop (fun u1 : (Int32 × Int32 × (Nat → Int32)) => fX0_addPackets_S3 F xkr_1 p1 p3 u1.1 u1.2.1 u1.2.2) F (0, x8_1, A10)).bind (fun t1_42 => some (t1_42.1, t1_42.2))
theorem dX0_addPackets_0 : decode cX0_addPackets 0 = .ok (.iconst 0, 1) := by decide +kernel
theorem dX0_addPackets_1 : decode cX0_addPackets 1 = .ok (.istore 5, 2) := by decide +kernel
theorem dX0_addPackets_3 : decode cX0_addPackets 3 = .ok (.iload 5, 2) := by decide +kernel
theorem dX0_addPackets_5 : decode cX0_addPackets 5 = .ok (.iconst 2, 1) := by decide +kernel
theorem dX0_addPackets_6 : decode cX0_addPackets 6 = .ok (.aload_n 2, 1) := by decide +kernel
theorem dX0_addPackets_7 : decode cX0_addPackets 7 = .ok (.getfield 41, 3) := by decide +kernel
theorem dX0_addPackets_10 : decode cX0_addPackets 10 = .ok (.imul, 1) := by decide +kernel
theorem dX0_addPackets_11 : decode cX0_addPackets 11 = .ok (.if_icmp .ge 31, 3) := by decide +kernel
theorem dX0_addPackets_14 : decode cX0_addPackets 14 = .ok (.lload_n 3, 1) := by decide +kernel
theorem dX0_addPackets_15 : decode cX0_addPackets 15 = .ok (.iload 5, 2) := by decide +kernel
theorem dX0_addPackets_17 : decode cX0_addPackets 17 = .ok (.invokestatic 64, 3) := by decide +kernel
theorem dX0_addPackets_20 : decode cX0_addPackets 20 = .ok (.invokestatic 49, 3) := by decide +kernel
theorem dX0_addPackets_23 : decode cX0_addPackets 23 = .ok (.ifCond .le 13, 3) := by decide +kernel
theorem dX0_addPackets_26 : decode cX0_addPackets 26 = .ok (.aload_n 0, 1) := by decide +kernel
theorem dX0_addPackets_27 : decode cX0_addPackets 27 = .ok (.iload_n 1, 1) := by decide +kernel
theorem dX0_addPackets_28 : decode cX0_addPackets 28 = .ok (.iload 5, 2) := by decide +kernel
theorem dX0_addPackets_30 : decode cX0_addPackets 30 = .ok (.iconst 3, 1) := by decide +kernel
theorem dX0_addPackets_31 : decode cX0_addPackets 31 = .ok (.ishl, 1) := by decide +kernel
theorem dX0_addPackets_32 : decode cX0_addPackets 32 = .ok (.ior, 1) := by decide +kernel
theorem dX0_addPackets_33 : decode cX0_addPackets 33 = .ok (.invokevirtual 34, 3) := by decide +kernel
theorem dX0_addPackets_36 : decode cX0_addPackets 36 = .ok (.iinc 5 1, 3) := by decide +kernel
theorem dX0_addPackets_39 : decode cX0_addPackets 39 = .ok (.goto (-36), 3) := by decide +kernel
theorem dX0_addPackets_42 : decode cX0_addPackets 42 = .ok (.return_, 1) := by decide +kernel
set_option maxHeartbeats 4000000 in
set_option maxRecDepth 100000 in
theorem kX0_addPackets_8 {l : Launch} {D : va_G} {cy : Nat → ClassId} {N : Nat} {q : Nat → Nat} {m0 : Nat → Value} {a0 : Nat → vp_A} {sz : Nat} (hN : 105 ≤ N) (hsh : SH q m0) {kr : Nat} (hkr : kr < N) (hgk : gk kr = 7) {xkr_1 : Int32} (h_xkr_1 : m0 (100 * kr + 1) = .int xkr_1) {x8_1 : Int32} (h_x8_1 : m0 801 = .int x8_1) {A10 : Nat → Int32} (h_A10 : a0 10 = (10, .inl A10)) (F : Nat) (p1 : Int32) (p3 : Int64) {X0 : Int32 × (Nat → Int32)} (hs0 : fX0_addPackets F xkr_1 x8_1 A10 p1 p3 = some X0) : gMv l yX0_addPackets cX0_addPackets 6 none ({ frames := 2, cells := 0, slots := 0, locals := 43 } : Room) D cy N q m0 a0 sz [.ref (q 8), .int p1, .ref (q kr), .long p3] (fun m' a' => m' 801 = .int X0.1 ∧ (∀ j, nel j [801] = false → m' j = m0 j) ∧ a' 10 = (10, .inl X0.2) ∧ (∀ j, nel j [10] = false → a' j = a0 j)) := by
  refine g_ofv (by decide) (Nat.le_of_ble_eq_true rfl) ?_
  intro p e s M args below meth c hx hb hr hG hown hin hlocks hml hW hS ls hl
  unfold fX0_addPackets at hs0
  have hoff : ∀ j, nel j [801] = false → m0 j = m0 j := off0
  have hoffa : ∀ j, nel j [10] = false → a0 j = a0 j := off0
  refine lv_iconst (v := 0) hx hb dX0_addPackets_0 (by decide) ?_
  refine lv_istore (lv' := [(5, .int 0), (0, .ref (q 8)), (1, .int p1), (2, .ref (q kr)), (3, .long p3)]) hx hb dX0_addPackets_1 hl (by decide) rfl (fun ls hl => ?_)
  obtain ⟨r1, hg1, hs0⟩ := obind hs0
  have hE1_42 : ∀ (t1_42 : Int32 × (Nat → Int32)) (hr1 : t1_42 = r1) (m : Nat → Value) (a : Nat → vp_A) (H : Heap) (locs : List Loc) (w_x8_1 : m 801 = .int t1_42.1) (hoff : ∀ j, nel j [801] = false → m j = m0 j) (hsh : SH q m) (w_A10 : a 10 = (10, .inl t1_42.2)) (hoffa : ∀ j, nel j [10] = false → a j = a0 j) (ls : Array Slot) (hl : lv_has ls 6 []) (hW : GW D cy (gA N q s.heap.size) N q m a s H) (hS : va_S (gA N q s.heap.size) s.heap H locs), W p l e ({ frames := 2, cells := 0, slots := 0, locals := 43 } : Room) s M args below meth c H locs 0 0 (MQ below (va_Qv (fun (u : (Nat → Value) × (Nat → vp_A)) => u.1 801 = .int X0.1 ∧ (∀ j, nel j [801] = false → u.1 j = m0 j) ∧ u.2 10 = (10, .inl X0.2) ∧ (∀ j, nel j [10] = false → u.2 j = a0 j)) (gB D cy N q s.heap.size) (gA N q s.heap.size)) args s 0 0 (gA N q s.heap.size)) (F0 M 42 ls []) := by
    intro t1_42 hr1 m a H locs w_x8_1 hoff hsh w_A10 hoffa ls hl hW hS
    subst hr1
    have hs0 := Option.some.inj hs0
    subst hs0
    exact W.vret hx hb hr (fun t ht hw => ⟨⟨(m, a), rfl, ⟨w_x8_1, hoff, w_A10, hoffa⟩, g_end hW ht hw⟩, hS.F ht⟩) hS.2.2 dX0_addPackets_42 hlocks
  have hL1 : ∀ (n : Nat) (v5k1 : Int32) (x8_1k1 : Int32) (A10k1 : Nat → Int32) (m : Nat → Value) (a : Nat → vp_A) (H : Heap) (locs : List Loc) (w_x8_1 : m 801 = .int x8_1k1) (hoff : ∀ j, nel j [801] = false → m j = m0 j) (hsh : SH q m) (w_A10 : a 10 = (10, .inl A10k1)) (hoffa : ∀ j, nel j [10] = false → a j = a0 j) (ls : Array Slot) (hl : lv_has ls 6 [(0, .ref (q 8)), (1, .int p1), (2, .ref (q kr)), (3, .long p3), (5, .int v5k1)]) (hg1 : gloop (fun u1 : (Int32 × Int32 × (Nat → Int32)) => fX0_addPackets_S3 F xkr_1 p1 p3 u1.1 u1.2.1 u1.2.2) n (v5k1, x8_1k1, A10k1) = some r1) (hW : GW D cy (gA N q s.heap.size) N q m a s H) (hS : va_S (gA N q s.heap.size) s.heap H locs), W p l e ({ frames := 2, cells := 0, slots := 0, locals := 43 } : Room) s M args below meth c H locs 0 0 (MQ below (va_Qv (fun (u : (Nat → Value) × (Nat → vp_A)) => u.1 801 = .int X0.1 ∧ (∀ j, nel j [801] = false → u.1 j = m0 j) ∧ u.2 10 = (10, .inl X0.2) ∧ (∀ j, nel j [10] = false → u.2 j = a0 j)) (gB D cy N q s.heap.size) (gA N q s.heap.size)) args s 0 0 (gA N q s.heap.size)) (F0 M 3 ls []) := by
    intro n
    induction n with
    | zero => intro v5k1 x8_1k1 A10k1 m a H locs w_x8_1 hoff hsh w_A10 hoffa ls hl hg1 hW hS; exact (gl_zero hg1).elim
    | succ n ih1 =>
      intro v5k1 x8_1k1 A10k1 m a H locs w_x8_1 hoff hsh w_A10 hoffa ls hl hg1 hW hS
      obtain ⟨X1, hs1, hXl1, hXr1⟩ := gl_succ hg1
      have hs1 : fX0_addPackets_S3 F xkr_1 p1 p3 v5k1 x8_1k1 A10k1 = some X1 := hs1
      unfold fX0_addPackets_S3 at hs1
      have hJ36_1 : ∀ (v5j12 : Int32) (x8_1j12 : Int32) (A10j12 : Nat → Int32) (m : Nat → Value) (a : Nat → vp_A) (H : Heap) (locs : List Loc) (w_x8_1 : m 801 = .int x8_1j12) (hoff : ∀ j, nel j [801] = false → m j = m0 j) (hsh : SH q m) (w_A10 : a 10 = (10, .inl A10j12)) (hoffa : ∀ j, nel j [10] = false → a j = a0 j) (ls : Array Slot) (hl : lv_has ls 6 [(0, .ref (q 8)), (1, .int p1), (2, .ref (q kr)), (3, .long p3), (5, .int v5j12)]) (hs1 : fX0_addPackets_J36 F xkr_1 p1 p3 v5j12 x8_1j12 A10j12 = some X1) (hW : GW D cy (gA N q s.heap.size) N q m a s H) (hS : va_S (gA N q s.heap.size) s.heap H locs), W p l e ({ frames := 2, cells := 0, slots := 0, locals := 43 } : Room) s M args below meth c H locs 0 0 (MQ below (va_Qv (fun (u : (Nat → Value) × (Nat → vp_A)) => u.1 801 = .int X0.1 ∧ (∀ j, nel j [801] = false → u.1 j = m0 j) ∧ u.2 10 = (10, .inl X0.2) ∧ (∀ j, nel j [10] = false → u.2 j = a0 j)) (gB D cy N q s.heap.size) (gA N q s.heap.size)) args s 0 0 (gA N q s.heap.size)) (F0 M 36 ls []) := by
        intro v5j12 x8_1j12 A10j12 m a H locs w_x8_1 hoff hsh w_A10 hoffa ls hl hs1 hW hS
        unfold fX0_addPackets_J36 at hs1
        refine lv_iinc (v := v5j12 + 1) (lv' := [(5, .int (v5j12 + 1)), (0, .ref (q 8)), (1, .int p1), (2, .ref (q kr)), (3, .long p3)]) hx hb dX0_addPackets_36 hl (k := 4) rfl rfl (by decide) rfl (fun ls hl => ?_)
        refine lv_goto (tgt := 3) hx hb dX0_addPackets_39 (by decide) ?_
        exact ih1 (v5j12 + 1) x8_1j12 A10j12 m a _ _ w_x8_1 hoff hsh w_A10 hoffa ls (lv_sub hl [1, 2, 3, 4, 0] rfl) (hXr1 _ (Option.some.inj hs1).symm) hW hS
      refine lv_iload hx hb dX0_addPackets_3 (lv_at hl 4 rfl) ?_
      refine lv_iconst (v := 2) hx hb dX0_addPackets_5 (by decide) ?_
      refine lv_aload_n hx hb dX0_addPackets_6 rfl (lv_at hl 2 rfl) ?_
      refine gf7_1 hx hb hG hown hW (o := kr) hkr hgk (v := .int xkr_1) ((off_kr hoff hgk 1 rfl (by decide)).trans h_xkr_1) gx544 dX0_addPackets_7 ?_
      refine lv_imul hx hb dX0_addPackets_10 ?_
      refine lv_icmp_ge (tgt := 42) hx hb dX0_addPackets_11 (by decide) (fun c8 => ?_) (fun c8 => ?_)
      · rw [if_pos c8] at hs1
        exact hE1_42 (x8_1k1, A10k1) (hXl1 _ (Option.some.inj hs1).symm) m a _ _ w_x8_1 hoff hsh w_A10 hoffa ls (lv_sub hl [] rfl) hW hS
      · rw [if_neg c8] at hs1
        refine lv_lload_n hx hb dX0_addPackets_14 rfl (lv_at hl 3 rfl) ?_
        refine lv_iload hx hb dX0_addPackets_15 (lv_at hl 4 rfl) ?_
        refine g_SiR (n := 1) hx hb hml hown hG hW hS [.int v5k1] (kX7_packetsAt hN v5k1) rfl (gd_S gx558 gx340 gx39 gx341) rfl rfl (by decide) ⟨Nat.le_of_ble_eq_true rfl, Nat.le_of_ble_eq_true rfl⟩ rfl hl (Nat.le_of_ble_eq_true rfl) ⟨Nat.zero_le _, Nat.zero_le _⟩ dX0_addPackets_17 (fun H locs hW hS => ?_)
        refine g_SiR (n := 2) hx hb hml hown hG hW hS [.long p3, .int (fX7_packetsAt v5k1)] (kX7_digit hN p3 (fX7_packetsAt v5k1)) rfl (gd_S gx559 gx320 gx39 gx321) rfl rfl (by decide) ⟨Nat.le_of_ble_eq_true rfl, Nat.le_of_ble_eq_true rfl⟩ rfl hl (Nat.le_of_ble_eq_true rfl) ⟨Nat.zero_le _, Nat.zero_le _⟩ dX0_addPackets_20 (fun H locs hW hS => ?_)
        refine lv_if_le (tgt := 36) hx hb dX0_addPackets_23 (by decide) (fun c11 => ?_) (fun c11 => ?_)
        · rw [if_pos c11] at hs1
          exact hJ36_1 v5k1 x8_1k1 A10k1 m a _ _ w_x8_1 hoff hsh w_A10 hoffa ls (lv_sub hl [0, 1, 2, 3, 4] rfl) hs1 hW hS
        · rw [if_neg c11] at hs1
          refine lv_aload_n hx hb dX0_addPackets_26 rfl (lv_at hl 0 rfl) ?_
          refine lv_iload_n hx hb dX0_addPackets_27 rfl (lv_at hl 1 rfl) ?_
          refine lv_iload hx hb dX0_addPackets_28 (lv_at hl 4 rfl) ?_
          refine lv_iconst (v := 3) hx hb dX0_addPackets_30 (by decide) ?_
          refine lv_ishl hx hb dX0_addPackets_31 ?_
          refine lv_ior hx hb dX0_addPackets_32 ?_
          refine g_Vv (n := 1) hx hb hml hown hG hW hS [.int (p1 ||| (v5k1 <<< (3 &&& 31)))] (kX0_add_8 hN hsh w_x8_1 w_A10 (p1 ||| (v5k1 <<< (3 &&& 31)))) (ltN hN 8 rfl) gk8 (by decide) rfl rfl (gd_V gx546 gx547 gx548 gx23 gx549) rfl rfl (by decide) ⟨Nat.le_of_ble_eq_true rfl, Nat.le_of_ble_eq_true rfl⟩ rfl hl (Nat.le_of_ble_eq_true rfl) ⟨Nat.zero_le _, Nat.zero_le _⟩ dX0_addPackets_33 (fun m13 a13 H locs hp13 hW hS => ?_)
          obtain ⟨hp13_x8_1, ho13, hp13_A10, hoa13⟩ := hp13
          have w_x8_1 : m13 801 = .int ((fX0_add x8_1k1 A10k1 (p1 ||| (v5k1 <<< (3 &&& 31)))).1) := hp13_x8_1
          have hoff := offm hoff ho13 (by decide +kernel)
          have hsh := SH.off hsh ho13 (by decide +kernel)
          have w_A10 : a13 10 = (10, .inl ((fX0_add x8_1k1 A10k1 (p1 ||| (v5k1 <<< (3 &&& 31)))).2)) := hp13_A10
          have hoffa := offm hoffa hoa13 (by decide +kernel)
          exact hJ36_1 v5k1 ((fX0_add x8_1k1 A10k1 (p1 ||| (v5k1 <<< (3 &&& 31)))).1) ((fX0_add x8_1k1 A10k1 (p1 ||| (v5k1 <<< (3 &&& 31)))).2) m13 a13 _ _ w_x8_1 hoff hsh w_A10 hoffa ls (lv_sub hl [0, 1, 2, 3, 4] rfl) hs1 hW hS
  exact hL1 F 0 x8_1 A10 m0 a0 _ _ h_x8_1 hoff hsh h_A10 hoffa ls (lv_sub hl [1, 2, 3, 4, 0] rfl) hg1 hW hS
-- HealLink$Acts.list (LHealLink$Rules;JZ)V
def fX0_list_J80 (F : Nat) (xkr_1 : Int32) (xkr_2 : Int32) (v2 : Int64) (v4 : Int32) (v5j9 : Int32) (x8_1j9 : Int32) (x8_2 : Int32) (A10j9 : Nat → Int32) : Option ((Int32 × (Nat → Int32)) ⊕ (Int32 × Int32 × (Nat → Int32))) := some (Sum.inr (v5j9 + 1, x8_1j9, A10j9))
def fX0_list_S20 (F : Nat) (xkr_1 : Int32) (xkr_2 : Int32) (v2 : Int64) (v4 : Int32) (x8_2 : Int32) (v5 : Int32) (x8_1 : Int32) (A10 : Nat → Int32) : Option ((Int32 × (Nat → Int32)) ⊕ (Int32 × Int32 × (Nat → Int32))) := (if xkr_1 ≤ v5 then some (Sum.inl (x8_1, A10)) else (if (fX7_digit v2 (fX7_lettersAt v5)) ≤ 0 then fX0_list_J80 F xkr_1 xkr_2 v2 v4 v5 x8_1 x8_2 A10 else (if v4 = 0 then fX0_list_J80 F xkr_1 xkr_2 v2 v4 v5 ((fX0_add x8_1 A10 ((2 : Int32) ||| (v5 <<< (4 &&& 31)))).1) x8_2 ((fX0_add x8_1 A10 ((2 : Int32) ||| (v5 <<< (4 &&& 31)))).2) else (if (fX7_goesOnBy xkr_2 v2 v5) = 0 then fX0_list_J80 F xkr_1 xkr_2 v2 v4 v5 ((fX0_add x8_1 A10 ((2 : Int32) ||| (v5 <<< (4 &&& 31)))).1) x8_2 ((fX0_add x8_1 A10 ((2 : Int32) ||| (v5 <<< (4 &&& 31)))).2) else fX0_list_J80 F xkr_1 xkr_2 v2 v4 v5 ((fX0_add ((fX0_add x8_1 A10 ((2 : Int32) ||| (v5 <<< (4 &&& 31)))).1) ((fX0_add x8_1 A10 ((2 : Int32) ||| (v5 <<< (4 &&& 31)))).2) (fX0_withTold ((2 : Int32) ||| (v5 <<< (4 &&& 31))) 1)).1) x8_2 ((fX0_add ((fX0_add x8_1 A10 ((2 : Int32) ||| (v5 <<< (4 &&& 31)))).1) ((fX0_add x8_1 A10 ((2 : Int32) ||| (v5 <<< (4 &&& 31)))).2) (fX0_withTold ((2 : Int32) ||| (v5 <<< (4 &&& 31))) 1)).2)))))
def fX0_list_J135 (F : Nat) (xkr_1 : Int32) (xkr_2 : Int32) (v2 : Int64) (v5j23 : Int32) (x8_1j23 : Int32) (x8_2 : Int32) (A10j23 : Nat → Int32) : Option ((Int32 × (Nat → Int32)) ⊕ (Int32 × Int32 × (Nat → Int32))) := some (Sum.inr (v5j23 + 1, x8_1j23, A10j23))
def fX0_list_S104 (F : Nat) (xkr_1 : Int32) (xkr_2 : Int32) (v2 : Int64) (x8_2 : Int32) (v5 : Int32) (x8_1 : Int32) (A10 : Nat → Int32) : Option ((Int32 × (Nat → Int32)) ⊕ (Int32 × Int32 × (Nat → Int32))) := (if xkr_1 ≤ v5 then some (Sum.inl (x8_1, A10)) else (if (fX7_digit v2 (fX7_lettersAt v5)) ≤ 0 then fX0_list_J135 F xkr_1 xkr_2 v2 v5 x8_1 x8_2 A10 else fX0_list_J135 F xkr_1 xkr_2 v2 v5 ((fX0_add x8_1 A10 ((4 : Int32) ||| (v5 <<< (4 &&& 31)))).1) x8_2 ((fX0_add x8_1 A10 ((4 : Int32) ||| (v5 <<< (4 &&& 31)))).2)))
def fX0_list (F : Nat) (xkr_1 : Int32) (xkr_2 : Int32) (x8_1 : Int32) (x8_2 : Int32) (A10 : Nat → Int32) (p2 : Int64) (p4 : Int32) : Option (Int32 × Int32 × (Nat → Int32)) := ((fX0_addPackets F xkr_1 ((fX0_add 0 A10 0).1) ((fX0_add 0 A10 0).2) 1 p2).bind (fun r3 => (gloop (fun u4 : (Int32 × Int32 × (Nat → Int32)) => fX0_list_S20 F xkr_1 xkr_2 p2 p4 x8_2 u4.1 u4.2.1 u4.2.2) F (0, r3.1, r3.2)).bind (fun t4_86 => ((fX0_addPackets F xkr_1 t4_86.1 t4_86.2 3 p2).bind (fun r17 => (gloop (fun u18 : (Int32 × Int32 × (Nat → Int32)) => fX0_list_S104 F xkr_1 xkr_2 p2 t4_86.1 u18.1 u18.2.1 u18.2.2) F (0, r17.1, r17.2)).bind (fun t18_141 => some (t18_141.1, t4_86.1, t18_141.2)))))))
theorem dX0_list_0 : decode cX0_list 0 = .ok (.aload_n 0, 1) := by decide +kernel
theorem dX0_list_1 : decode cX0_list 1 = .ok (.iconst 0, 1) := by decide +kernel
theorem dX0_list_2 : decode cX0_list 2 = .ok (.putfield 30, 3) := by decide +kernel
theorem dX0_list_5 : decode cX0_list 5 = .ok (.aload_n 0, 1) := by decide +kernel
theorem dX0_list_6 : decode cX0_list 6 = .ok (.iconst 0, 1) := by decide +kernel
theorem dX0_list_7 : decode cX0_list 7 = .ok (.invokevirtual 34, 3) := by decide +kernel
theorem dX0_list_10 : decode cX0_list 10 = .ok (.aload_n 0, 1) := by decide +kernel
theorem dX0_list_11 : decode cX0_list 11 = .ok (.iconst 1, 1) := by decide +kernel
theorem dX0_list_12 : decode cX0_list 12 = .ok (.aload_n 1, 1) := by decide +kernel
theorem dX0_list_13 : decode cX0_list 13 = .ok (.lload_n 2, 1) := by decide +kernel
theorem dX0_list_14 : decode cX0_list 14 = .ok (.invokevirtual 37, 3) := by decide +kernel
theorem dX0_list_17 : decode cX0_list 17 = .ok (.iconst 0, 1) := by decide +kernel
theorem dX0_list_18 : decode cX0_list 18 = .ok (.istore 5, 2) := by decide +kernel
theorem dX0_list_20 : decode cX0_list 20 = .ok (.iload 5, 2) := by decide +kernel
theorem dX0_list_22 : decode cX0_list 22 = .ok (.aload_n 1, 1) := by decide +kernel
theorem dX0_list_23 : decode cX0_list 23 = .ok (.getfield 41, 3) := by decide +kernel
theorem dX0_list_26 : decode cX0_list 26 = .ok (.if_icmp .ge 60, 3) := by decide +kernel
theorem dX0_list_29 : decode cX0_list 29 = .ok (.lload_n 2, 1) := by decide +kernel
theorem dX0_list_30 : decode cX0_list 30 = .ok (.iload 5, 2) := by decide +kernel
theorem dX0_list_32 : decode cX0_list 32 = .ok (.invokestatic 46, 3) := by decide +kernel
theorem dX0_list_35 : decode cX0_list 35 = .ok (.invokestatic 49, 3) := by decide +kernel
theorem dX0_list_38 : decode cX0_list 38 = .ok (.ifCond .le 42, 3) := by decide +kernel
theorem dX0_list_41 : decode cX0_list 41 = .ok (.aload_n 0, 1) := by decide +kernel
theorem dX0_list_42 : decode cX0_list 42 = .ok (.iconst 2, 1) := by decide +kernel
theorem dX0_list_43 : decode cX0_list 43 = .ok (.iload 5, 2) := by decide +kernel
theorem dX0_list_45 : decode cX0_list 45 = .ok (.iconst 4, 1) := by decide +kernel
theorem dX0_list_46 : decode cX0_list 46 = .ok (.ishl, 1) := by decide +kernel
theorem dX0_list_47 : decode cX0_list 47 = .ok (.ior, 1) := by decide +kernel
theorem dX0_list_48 : decode cX0_list 48 = .ok (.invokevirtual 34, 3) := by decide +kernel
theorem dX0_list_51 : decode cX0_list 51 = .ok (.iload 4, 2) := by decide +kernel
theorem dX0_list_53 : decode cX0_list 53 = .ok (.ifCond .eq 27, 3) := by decide +kernel
theorem dX0_list_56 : decode cX0_list 56 = .ok (.aload_n 1, 1) := by decide +kernel
theorem dX0_list_57 : decode cX0_list 57 = .ok (.lload_n 2, 1) := by decide +kernel
theorem dX0_list_58 : decode cX0_list 58 = .ok (.iload 5, 2) := by decide +kernel
theorem dX0_list_60 : decode cX0_list 60 = .ok (.invokevirtual 53, 3) := by decide +kernel
theorem dX0_list_63 : decode cX0_list 63 = .ok (.ifCond .eq 17, 3) := by decide +kernel
theorem dX0_list_66 : decode cX0_list 66 = .ok (.aload_n 0, 1) := by decide +kernel
theorem dX0_list_67 : decode cX0_list 67 = .ok (.iconst 2, 1) := by decide +kernel
theorem dX0_list_68 : decode cX0_list 68 = .ok (.iload 5, 2) := by decide +kernel
theorem dX0_list_70 : decode cX0_list 70 = .ok (.iconst 4, 1) := by decide +kernel
theorem dX0_list_71 : decode cX0_list 71 = .ok (.ishl, 1) := by decide +kernel
theorem dX0_list_72 : decode cX0_list 72 = .ok (.ior, 1) := by decide +kernel
theorem dX0_list_73 : decode cX0_list 73 = .ok (.iconst 1, 1) := by decide +kernel
theorem dX0_list_74 : decode cX0_list 74 = .ok (.invokestatic 57, 3) := by decide +kernel
theorem dX0_list_77 : decode cX0_list 77 = .ok (.invokevirtual 34, 3) := by decide +kernel
theorem dX0_list_80 : decode cX0_list 80 = .ok (.iinc 5 1, 3) := by decide +kernel
theorem dX0_list_83 : decode cX0_list 83 = .ok (.goto (-63), 3) := by decide +kernel
theorem dX0_list_86 : decode cX0_list 86 = .ok (.aload_n 0, 1) := by decide +kernel
theorem dX0_list_87 : decode cX0_list 87 = .ok (.aload_n 0, 1) := by decide +kernel
theorem dX0_list_88 : decode cX0_list 88 = .ok (.getfield 30, 3) := by decide +kernel
theorem dX0_list_91 : decode cX0_list 91 = .ok (.putfield 61, 3) := by decide +kernel
theorem dX0_list_94 : decode cX0_list 94 = .ok (.aload_n 0, 1) := by decide +kernel
theorem dX0_list_95 : decode cX0_list 95 = .ok (.iconst 3, 1) := by decide +kernel
theorem dX0_list_96 : decode cX0_list 96 = .ok (.aload_n 1, 1) := by decide +kernel
theorem dX0_list_97 : decode cX0_list 97 = .ok (.lload_n 2, 1) := by decide +kernel
theorem dX0_list_98 : decode cX0_list 98 = .ok (.invokevirtual 37, 3) := by decide +kernel
theorem dX0_list_101 : decode cX0_list 101 = .ok (.iconst 0, 1) := by decide +kernel
theorem dX0_list_102 : decode cX0_list 102 = .ok (.istore 5, 2) := by decide +kernel
theorem dX0_list_104 : decode cX0_list 104 = .ok (.iload 5, 2) := by decide +kernel
theorem dX0_list_106 : decode cX0_list 106 = .ok (.aload_n 1, 1) := by decide +kernel
theorem dX0_list_107 : decode cX0_list 107 = .ok (.getfield 41, 3) := by decide +kernel
theorem dX0_list_110 : decode cX0_list 110 = .ok (.if_icmp .ge 31, 3) := by decide +kernel
theorem dX0_list_113 : decode cX0_list 113 = .ok (.lload_n 2, 1) := by decide +kernel
theorem dX0_list_114 : decode cX0_list 114 = .ok (.iload 5, 2) := by decide +kernel
theorem dX0_list_116 : decode cX0_list 116 = .ok (.invokestatic 46, 3) := by decide +kernel
theorem dX0_list_119 : decode cX0_list 119 = .ok (.invokestatic 49, 3) := by decide +kernel
theorem dX0_list_122 : decode cX0_list 122 = .ok (.ifCond .le 13, 3) := by decide +kernel
theorem dX0_list_125 : decode cX0_list 125 = .ok (.aload_n 0, 1) := by decide +kernel
theorem dX0_list_126 : decode cX0_list 126 = .ok (.iconst 4, 1) := by decide +kernel
theorem dX0_list_127 : decode cX0_list 127 = .ok (.iload 5, 2) := by decide +kernel
theorem dX0_list_129 : decode cX0_list 129 = .ok (.iconst 4, 1) := by decide +kernel
theorem dX0_list_130 : decode cX0_list 130 = .ok (.ishl, 1) := by decide +kernel
theorem dX0_list_131 : decode cX0_list 131 = .ok (.ior, 1) := by decide +kernel
theorem dX0_list_132 : decode cX0_list 132 = .ok (.invokevirtual 34, 3) := by decide +kernel
theorem dX0_list_135 : decode cX0_list 135 = .ok (.iinc 5 1, 3) := by decide +kernel
theorem dX0_list_138 : decode cX0_list 138 = .ok (.goto (-34), 3) := by decide +kernel
theorem dX0_list_141 : decode cX0_list 141 = .ok (.return_, 1) := by decide +kernel
set_option maxHeartbeats 4000000 in
set_option maxRecDepth 100000 in
theorem kX0_list_8 {l : Launch} {D : va_G} {cy : Nat → ClassId} {N : Nat} {q : Nat → Nat} {m0 : Nat → Value} {a0 : Nat → vp_A} {sz : Nat} (hN : 105 ≤ N) (hsh : SH q m0) {kr : Nat} (hkr : kr < N) (hgk : gk kr = 7) {xkr_1 : Int32} (h_xkr_1 : m0 (100 * kr + 1) = .int xkr_1) {xkr_2 : Int32} (h_xkr_2 : m0 (100 * kr + 2) = .int xkr_2) {x8_1 : Int32} (h_x8_1 : m0 801 = .int x8_1) {x8_2 : Int32} (h_x8_2 : m0 802 = .int x8_2) {A10 : Nat → Int32} (h_A10 : a0 10 = (10, .inl A10)) (F : Nat) (p2 : Int64) (p4 : Int32) {X0 : Int32 × Int32 × (Nat → Int32)} (hs0 : fX0_list F xkr_1 xkr_2 x8_1 x8_2 A10 p2 p4 = some X0) : gMv l yX0_list cX0_list 6 none ({ frames := 3, cells := 0, slots := 0, locals := 68 } : Room) D cy N q m0 a0 sz [.ref (q 8), .ref (q kr), .long p2, .int p4] (fun m' a' => m' 801 = .int X0.1 ∧ m' 802 = .int X0.2.1 ∧ (∀ j, nel j [801, 802] = false → m' j = m0 j) ∧ a' 10 = (10, .inl X0.2.2) ∧ (∀ j, nel j [10] = false → a' j = a0 j)) := by
  refine g_ofv (by decide) (Nat.le_of_ble_eq_true rfl) ?_
  intro p e s M args below meth c hx hb hr hG hown hin hlocks hml hW hS ls hl
  unfold fX0_list at hs0
  have hoff : ∀ j, nel j [801, 802] = false → m0 j = m0 j := off0
  have hoffa : ∀ j, nel j [10] = false → a0 j = a0 j := off0
  refine lv_aload_n hx hb dX0_list_0 rfl (lv_at hl 0 rfl) ?_
  refine lv_iconst (v := 0) hx hb dX0_list_1 (by decide) ?_
  refine gp0_1 hx hb hG hown hW hS (o := 8) (ltN hN 8 rfl) gk8 (v := 0) gx543 dX0_list_2 (fun m1 H locs hm1 ho1 hW hS => ?_)
  have ho1 := off1 ho1
  have w_x8_1 : m1 801 = .int 0 := hm1
  have w_x8_2 : m1 802 = .int x8_2 := (ho1 802 rfl).trans h_x8_2
  have hoff := offm hoff ho1 (by decide +kernel)
  have hsh := SH.off hsh ho1 (by decide +kernel)
  refine lv_aload_n hx hb dX0_list_5 rfl (lv_at hl 0 rfl) ?_
  refine lv_iconst (v := 0) hx hb dX0_list_6 (by decide) ?_
  refine g_Vv (n := 1) hx hb hml hown hG hW hS [.int 0] (kX0_add_8 hN hsh w_x8_1 h_A10 0) (ltN hN 8 rfl) gk8 (by decide) rfl rfl (gd_V gx546 gx547 gx548 gx23 gx549) rfl rfl (by decide) ⟨Nat.le_of_ble_eq_true rfl, Nat.le_of_ble_eq_true rfl⟩ rfl hl (Nat.le_of_ble_eq_true rfl) ⟨Nat.zero_le _, Nat.zero_le _⟩ dX0_list_7 (fun m2 a2 H locs hp2 hW hS => ?_)
  obtain ⟨hp2_x8_1, ho2, hp2_A10, hoa2⟩ := hp2
  have w_x8_1 : m2 801 = .int ((fX0_add 0 A10 0).1) := hp2_x8_1
  have w_x8_2 : m2 802 = .int x8_2 := (ho2 802 rfl).trans w_x8_2
  have hoff := offm hoff ho2 (by decide +kernel)
  have hsh := SH.off hsh ho2 (by decide +kernel)
  have w_A10 : a2 10 = (10, .inl ((fX0_add 0 A10 0).2)) := hp2_A10
  have hoffa := offm hoffa hoa2 (by decide +kernel)
  refine lv_aload_n hx hb dX0_list_10 rfl (lv_at hl 0 rfl) ?_
  refine lv_iconst (v := 1) hx hb dX0_list_11 (by decide) ?_
  refine lv_aload_n hx hb dX0_list_12 rfl (lv_at hl 1 rfl) ?_
  refine lv_lload_n hx hb dX0_list_13 rfl (lv_at hl 2 rfl) ?_
  obtain ⟨r3, hf3, hs0⟩ := obind hs0
  refine g_Vv (n := 3) hx hb hml hown hG hW hS [.int 1, .ref (q kr), .long p2] (kX0_addPackets_8 hN hsh hkr hgk ((off_kr hoff hgk 1 rfl (by decide)).trans h_xkr_1) w_x8_1 w_A10 F 1 p2 hf3) (ltN hN 8 rfl) gk8 (by decide) rfl rfl (gd_V gx554 gx555 gx556 gx23 gx557) rfl rfl (by decide) ⟨Nat.le_of_ble_eq_true rfl, Nat.le_of_ble_eq_true rfl⟩ rfl hl (Nat.le_of_ble_eq_true rfl) ⟨Nat.zero_le _, Nat.zero_le _⟩ dX0_list_14 (fun m3 a3 H locs hp3 hW hS => ?_)
  obtain ⟨hp3_x8_1, ho3, hp3_A10, hoa3⟩ := hp3
  have w_x8_1 : m3 801 = .int r3.1 := hp3_x8_1
  have w_x8_2 : m3 802 = .int x8_2 := (ho3 802 rfl).trans w_x8_2
  have hoff := offm hoff ho3 (by decide +kernel)
  have hsh := SH.off hsh ho3 (by decide +kernel)
  have w_A10 : a3 10 = (10, .inl r3.2) := hp3_A10
  have hoffa := offm hoffa hoa3 (by decide +kernel)
  refine lv_iconst (v := 0) hx hb dX0_list_17 (by decide) ?_
  refine lv_istore (lv' := [(5, .int 0), (0, .ref (q 8)), (1, .ref (q kr)), (2, .long p2), (4, .int p4)]) hx hb dX0_list_18 hl (by decide) rfl (fun ls hl => ?_)
  obtain ⟨r4, hg4, hs0⟩ := obind hs0
  have hE1_86 : ∀ (t4_86 : Int32 × (Nat → Int32)) (hr4 : t4_86 = r4) (m : Nat → Value) (a : Nat → vp_A) (H : Heap) (locs : List Loc) (w_x8_1 : m 801 = .int t4_86.1) (w_x8_2 : m 802 = .int x8_2) (hoff : ∀ j, nel j [801, 802] = false → m j = m0 j) (hsh : SH q m) (w_A10 : a 10 = (10, .inl t4_86.2)) (hoffa : ∀ j, nel j [10] = false → a j = a0 j) (ls : Array Slot) (hl : lv_has ls 6 [(0, .ref (q 8)), (1, .ref (q kr)), (2, .long p2)]) (hW : GW D cy (gA N q s.heap.size) N q m a s H) (hS : va_S (gA N q s.heap.size) s.heap H locs), W p l e ({ frames := 3, cells := 0, slots := 0, locals := 68 } : Room) s M args below meth c H locs 0 0 (MQ below (va_Qv (fun (u : (Nat → Value) × (Nat → vp_A)) => u.1 801 = .int X0.1 ∧ u.1 802 = .int X0.2.1 ∧ (∀ j, nel j [801, 802] = false → u.1 j = m0 j) ∧ u.2 10 = (10, .inl X0.2.2) ∧ (∀ j, nel j [10] = false → u.2 j = a0 j)) (gB D cy N q s.heap.size) (gA N q s.heap.size)) args s 0 0 (gA N q s.heap.size)) (F0 M 86 ls []) := by
    intro t4_86 hr4 m a H locs w_x8_1 w_x8_2 hoff hsh w_A10 hoffa ls hl hW hS
    subst hr4
    refine lv_aload_n hx hb dX0_list_86 rfl (lv_at hl 0 rfl) ?_
    refine lv_aload_n hx hb dX0_list_87 rfl (lv_at hl 0 rfl) ?_
    refine gf0_1 hx hb hG hown hW (o := 8) (ltN hN 8 rfl) gk8 (v := .int t4_86.1) w_x8_1 gx543 dX0_list_88 ?_
    refine gp0_2 hx hb hG hown hW hS (o := 8) (ltN hN 8 rfl) gk8 (v := t4_86.1) gx545 dX0_list_91 (fun m16 H locs hm16 ho16 hW hS => ?_)
    have ho16 := off1 ho16
    have w_x8_1 : m16 801 = .int t4_86.1 := (ho16 801 rfl).trans w_x8_1
    have w_x8_2 : m16 802 = .int t4_86.1 := hm16
    have hoff := offm hoff ho16 (by decide +kernel)
    have hsh := SH.off hsh ho16 (by decide +kernel)
    refine lv_aload_n hx hb dX0_list_94 rfl (lv_at hl 0 rfl) ?_
    refine lv_iconst (v := 3) hx hb dX0_list_95 (by decide) ?_
    refine lv_aload_n hx hb dX0_list_96 rfl (lv_at hl 1 rfl) ?_
    refine lv_lload_n hx hb dX0_list_97 rfl (lv_at hl 2 rfl) ?_
    obtain ⟨r17, hf17, hs0⟩ := obind hs0
    refine g_Vv (n := 3) hx hb hml hown hG hW hS [.int 3, .ref (q kr), .long p2] (kX0_addPackets_8 hN hsh hkr hgk ((off_kr hoff hgk 1 rfl (by decide)).trans h_xkr_1) w_x8_1 w_A10 F 3 p2 hf17) (ltN hN 8 rfl) gk8 (by decide) rfl rfl (gd_V gx554 gx555 gx556 gx23 gx557) rfl rfl (by decide) ⟨Nat.le_of_ble_eq_true rfl, Nat.le_of_ble_eq_true rfl⟩ rfl hl (Nat.le_of_ble_eq_true rfl) ⟨Nat.zero_le _, Nat.zero_le _⟩ dX0_list_98 (fun m17 a17 H locs hp17 hW hS => ?_)
    obtain ⟨hp17_x8_1, ho17, hp17_A10, hoa17⟩ := hp17
    have w_x8_1 : m17 801 = .int r17.1 := hp17_x8_1
    have w_x8_2 : m17 802 = .int t4_86.1 := (ho17 802 rfl).trans w_x8_2
    have hoff := offm hoff ho17 (by decide +kernel)
    have hsh := SH.off hsh ho17 (by decide +kernel)
    have w_A10 : a17 10 = (10, .inl r17.2) := hp17_A10
    have hoffa := offm hoffa hoa17 (by decide +kernel)
    refine lv_iconst (v := 0) hx hb dX0_list_101 (by decide) ?_
    refine lv_istore (lv' := [(5, .int 0), (0, .ref (q 8)), (1, .ref (q kr)), (2, .long p2)]) hx hb dX0_list_102 hl (by decide) rfl (fun ls hl => ?_)
    obtain ⟨r18, hg18, hs0⟩ := obind hs0
    have hE1_141 : ∀ (t18_141 : Int32 × (Nat → Int32)) (hr18 : t18_141 = r18) (m : Nat → Value) (a : Nat → vp_A) (H : Heap) (locs : List Loc) (w_x8_1 : m 801 = .int t18_141.1) (w_x8_2 : m 802 = .int t4_86.1) (hoff : ∀ j, nel j [801, 802] = false → m j = m0 j) (hsh : SH q m) (w_A10 : a 10 = (10, .inl t18_141.2)) (hoffa : ∀ j, nel j [10] = false → a j = a0 j) (ls : Array Slot) (hl : lv_has ls 6 []) (hW : GW D cy (gA N q s.heap.size) N q m a s H) (hS : va_S (gA N q s.heap.size) s.heap H locs), W p l e ({ frames := 3, cells := 0, slots := 0, locals := 68 } : Room) s M args below meth c H locs 0 0 (MQ below (va_Qv (fun (u : (Nat → Value) × (Nat → vp_A)) => u.1 801 = .int X0.1 ∧ u.1 802 = .int X0.2.1 ∧ (∀ j, nel j [801, 802] = false → u.1 j = m0 j) ∧ u.2 10 = (10, .inl X0.2.2) ∧ (∀ j, nel j [10] = false → u.2 j = a0 j)) (gB D cy N q s.heap.size) (gA N q s.heap.size)) args s 0 0 (gA N q s.heap.size)) (F0 M 141 ls []) := by
      intro t18_141 hr18 m a H locs w_x8_1 w_x8_2 hoff hsh w_A10 hoffa ls hl hW hS
      subst hr18
      have hs0 := Option.some.inj hs0
      subst hs0
      exact W.vret hx hb hr (fun t ht hw => ⟨⟨(m, a), rfl, ⟨w_x8_1, w_x8_2, hoff, w_A10, hoffa⟩, g_end hW ht hw⟩, hS.F ht⟩) hS.2.2 dX0_list_141 hlocks
    have hL1 : ∀ (n : Nat) (v5k18 : Int32) (x8_1k18 : Int32) (A10k18 : Nat → Int32) (m : Nat → Value) (a : Nat → vp_A) (H : Heap) (locs : List Loc) (w_x8_1 : m 801 = .int x8_1k18) (w_x8_2 : m 802 = .int t4_86.1) (hoff : ∀ j, nel j [801, 802] = false → m j = m0 j) (hsh : SH q m) (w_A10 : a 10 = (10, .inl A10k18)) (hoffa : ∀ j, nel j [10] = false → a j = a0 j) (ls : Array Slot) (hl : lv_has ls 6 [(0, .ref (q 8)), (1, .ref (q kr)), (2, .long p2), (5, .int v5k18)]) (hg18 : gloop (fun u18 : (Int32 × Int32 × (Nat → Int32)) => fX0_list_S104 F xkr_1 xkr_2 p2 t4_86.1 u18.1 u18.2.1 u18.2.2) n (v5k18, x8_1k18, A10k18) = some r18) (hW : GW D cy (gA N q s.heap.size) N q m a s H) (hS : va_S (gA N q s.heap.size) s.heap H locs), W p l e ({ frames := 3, cells := 0, slots := 0, locals := 68 } : Room) s M args below meth c H locs 0 0 (MQ below (va_Qv (fun (u : (Nat → Value) × (Nat → vp_A)) => u.1 801 = .int X0.1 ∧ u.1 802 = .int X0.2.1 ∧ (∀ j, nel j [801, 802] = false → u.1 j = m0 j) ∧ u.2 10 = (10, .inl X0.2.2) ∧ (∀ j, nel j [10] = false → u.2 j = a0 j)) (gB D cy N q s.heap.size) (gA N q s.heap.size)) args s 0 0 (gA N q s.heap.size)) (F0 M 104 ls []) := by
      intro n
      induction n with
      | zero => intro v5k18 x8_1k18 A10k18 m a H locs w_x8_1 w_x8_2 hoff hsh w_A10 hoffa ls hl hg18 hW hS; exact (gl_zero hg18).elim
      | succ n ih1 =>
        intro v5k18 x8_1k18 A10k18 m a H locs w_x8_1 w_x8_2 hoff hsh w_A10 hoffa ls hl hg18 hW hS
        obtain ⟨X1, hs1, hXl1, hXr1⟩ := gl_succ hg18
        have hs1 : fX0_list_S104 F xkr_1 xkr_2 p2 t4_86.1 v5k18 x8_1k18 A10k18 = some X1 := hs1
        unfold fX0_list_S104 at hs1
        have hJ135_1 : ∀ (v5j29 : Int32) (x8_1j29 : Int32) (A10j29 : Nat → Int32) (m : Nat → Value) (a : Nat → vp_A) (H : Heap) (locs : List Loc) (w_x8_1 : m 801 = .int x8_1j29) (w_x8_2 : m 802 = .int t4_86.1) (hoff : ∀ j, nel j [801, 802] = false → m j = m0 j) (hsh : SH q m) (w_A10 : a 10 = (10, .inl A10j29)) (hoffa : ∀ j, nel j [10] = false → a j = a0 j) (ls : Array Slot) (hl : lv_has ls 6 [(0, .ref (q 8)), (1, .ref (q kr)), (2, .long p2), (5, .int v5j29)]) (hs1 : fX0_list_J135 F xkr_1 xkr_2 p2 v5j29 x8_1j29 t4_86.1 A10j29 = some X1) (hW : GW D cy (gA N q s.heap.size) N q m a s H) (hS : va_S (gA N q s.heap.size) s.heap H locs), W p l e ({ frames := 3, cells := 0, slots := 0, locals := 68 } : Room) s M args below meth c H locs 0 0 (MQ below (va_Qv (fun (u : (Nat → Value) × (Nat → vp_A)) => u.1 801 = .int X0.1 ∧ u.1 802 = .int X0.2.1 ∧ (∀ j, nel j [801, 802] = false → u.1 j = m0 j) ∧ u.2 10 = (10, .inl X0.2.2) ∧ (∀ j, nel j [10] = false → u.2 j = a0 j)) (gB D cy N q s.heap.size) (gA N q s.heap.size)) args s 0 0 (gA N q s.heap.size)) (F0 M 135 ls []) := by
          intro v5j29 x8_1j29 A10j29 m a H locs w_x8_1 w_x8_2 hoff hsh w_A10 hoffa ls hl hs1 hW hS
          unfold fX0_list_J135 at hs1
          refine lv_iinc (v := v5j29 + 1) (lv' := [(5, .int (v5j29 + 1)), (0, .ref (q 8)), (1, .ref (q kr)), (2, .long p2)]) hx hb dX0_list_135 hl (k := 3) rfl rfl (by decide) rfl (fun ls hl => ?_)
          refine lv_goto (tgt := 104) hx hb dX0_list_138 (by decide) ?_
          exact ih1 (v5j29 + 1) x8_1j29 A10j29 m a _ _ w_x8_1 w_x8_2 hoff hsh w_A10 hoffa ls (lv_sub hl [1, 2, 3, 0] rfl) (hXr1 _ (Option.some.inj hs1).symm) hW hS
        refine lv_iload hx hb dX0_list_104 (lv_at hl 3 rfl) ?_
        refine lv_aload_n hx hb dX0_list_106 rfl (lv_at hl 1 rfl) ?_
        refine gf7_1 hx hb hG hown hW (o := kr) hkr hgk (v := .int xkr_1) ((off_kr hoff hgk 1 rfl (by decide)).trans h_xkr_1) gx544 dX0_list_107 ?_
        refine lv_icmp_ge (tgt := 141) hx hb dX0_list_110 (by decide) (fun c25 => ?_) (fun c25 => ?_)
        · rw [if_pos c25] at hs1
          exact hE1_141 (x8_1k18, A10k18) (hXl1 _ (Option.some.inj hs1).symm) m a _ _ w_x8_1 w_x8_2 hoff hsh w_A10 hoffa ls (lv_sub hl [] rfl) hW hS
        · rw [if_neg c25] at hs1
          refine lv_lload_n hx hb dX0_list_113 rfl (lv_at hl 2 rfl) ?_
          refine lv_iload hx hb dX0_list_114 (lv_at hl 3 rfl) ?_
          refine g_SiR (n := 1) hx hb hml hown hG hW hS [.int v5k18] (kX7_lettersAt hN v5k18) rfl (gd_S gx560 gx369 gx39 gx370) rfl rfl (by decide) ⟨Nat.le_of_ble_eq_true rfl, Nat.le_of_ble_eq_true rfl⟩ rfl hl (Nat.le_of_ble_eq_true rfl) ⟨Nat.zero_le _, Nat.zero_le _⟩ dX0_list_116 (fun H locs hW hS => ?_)
          refine g_SiR (n := 2) hx hb hml hown hG hW hS [.long p2, .int (fX7_lettersAt v5k18)] (kX7_digit hN p2 (fX7_lettersAt v5k18)) rfl (gd_S gx559 gx320 gx39 gx321) rfl rfl (by decide) ⟨Nat.le_of_ble_eq_true rfl, Nat.le_of_ble_eq_true rfl⟩ rfl hl (Nat.le_of_ble_eq_true rfl) ⟨Nat.zero_le _, Nat.zero_le _⟩ dX0_list_119 (fun H locs hW hS => ?_)
          refine lv_if_le (tgt := 135) hx hb dX0_list_122 (by decide) (fun c28 => ?_) (fun c28 => ?_)
          · rw [if_pos c28] at hs1
            exact hJ135_1 v5k18 x8_1k18 A10k18 m a _ _ w_x8_1 w_x8_2 hoff hsh w_A10 hoffa ls (lv_sub hl [0, 1, 2, 3] rfl) hs1 hW hS
          · rw [if_neg c28] at hs1
            refine lv_aload_n hx hb dX0_list_125 rfl (lv_at hl 0 rfl) ?_
            refine lv_iconst (v := 4) hx hb dX0_list_126 (by decide) ?_
            refine lv_iload hx hb dX0_list_127 (lv_at hl 3 rfl) ?_
            refine lv_iconst (v := 4) hx hb dX0_list_129 (by decide) ?_
            refine lv_ishl hx hb dX0_list_130 ?_
            refine lv_ior hx hb dX0_list_131 ?_
            refine g_Vv (n := 1) hx hb hml hown hG hW hS [.int ((4 : Int32) ||| (v5k18 <<< (4 &&& 31)))] (kX0_add_8 hN hsh w_x8_1 w_A10 ((4 : Int32) ||| (v5k18 <<< (4 &&& 31)))) (ltN hN 8 rfl) gk8 (by decide) rfl rfl (gd_V gx546 gx547 gx548 gx23 gx549) rfl rfl (by decide) ⟨Nat.le_of_ble_eq_true rfl, Nat.le_of_ble_eq_true rfl⟩ rfl hl (Nat.le_of_ble_eq_true rfl) ⟨Nat.zero_le _, Nat.zero_le _⟩ dX0_list_132 (fun m30 a30 H locs hp30 hW hS => ?_)
            obtain ⟨hp30_x8_1, ho30, hp30_A10, hoa30⟩ := hp30
            have w_x8_1 : m30 801 = .int ((fX0_add x8_1k18 A10k18 ((4 : Int32) ||| (v5k18 <<< (4 &&& 31)))).1) := hp30_x8_1
            have w_x8_2 : m30 802 = .int t4_86.1 := (ho30 802 rfl).trans w_x8_2
            have hoff := offm hoff ho30 (by decide +kernel)
            have hsh := SH.off hsh ho30 (by decide +kernel)
            have w_A10 : a30 10 = (10, .inl ((fX0_add x8_1k18 A10k18 ((4 : Int32) ||| (v5k18 <<< (4 &&& 31)))).2)) := hp30_A10
            have hoffa := offm hoffa hoa30 (by decide +kernel)
            exact hJ135_1 v5k18 ((fX0_add x8_1k18 A10k18 ((4 : Int32) ||| (v5k18 <<< (4 &&& 31)))).1) ((fX0_add x8_1k18 A10k18 ((4 : Int32) ||| (v5k18 <<< (4 &&& 31)))).2) m30 a30 _ _ w_x8_1 w_x8_2 hoff hsh w_A10 hoffa ls (lv_sub hl [0, 1, 2, 3] rfl) hs1 hW hS
    exact hL1 F 0 r17.1 r17.2 m17 a17 _ _ w_x8_1 w_x8_2 hoff hsh w_A10 hoffa ls (lv_sub hl [1, 2, 3, 0] rfl) hg18 hW hS
  have hL1 : ∀ (n : Nat) (v5k4 : Int32) (x8_1k4 : Int32) (A10k4 : Nat → Int32) (m : Nat → Value) (a : Nat → vp_A) (H : Heap) (locs : List Loc) (w_x8_1 : m 801 = .int x8_1k4) (w_x8_2 : m 802 = .int x8_2) (hoff : ∀ j, nel j [801, 802] = false → m j = m0 j) (hsh : SH q m) (w_A10 : a 10 = (10, .inl A10k4)) (hoffa : ∀ j, nel j [10] = false → a j = a0 j) (ls : Array Slot) (hl : lv_has ls 6 [(0, .ref (q 8)), (1, .ref (q kr)), (2, .long p2), (4, .int p4), (5, .int v5k4)]) (hg4 : gloop (fun u4 : (Int32 × Int32 × (Nat → Int32)) => fX0_list_S20 F xkr_1 xkr_2 p2 p4 x8_2 u4.1 u4.2.1 u4.2.2) n (v5k4, x8_1k4, A10k4) = some r4) (hW : GW D cy (gA N q s.heap.size) N q m a s H) (hS : va_S (gA N q s.heap.size) s.heap H locs), W p l e ({ frames := 3, cells := 0, slots := 0, locals := 68 } : Room) s M args below meth c H locs 0 0 (MQ below (va_Qv (fun (u : (Nat → Value) × (Nat → vp_A)) => u.1 801 = .int X0.1 ∧ u.1 802 = .int X0.2.1 ∧ (∀ j, nel j [801, 802] = false → u.1 j = m0 j) ∧ u.2 10 = (10, .inl X0.2.2) ∧ (∀ j, nel j [10] = false → u.2 j = a0 j)) (gB D cy N q s.heap.size) (gA N q s.heap.size)) args s 0 0 (gA N q s.heap.size)) (F0 M 20 ls []) := by
    intro n
    induction n with
    | zero => intro v5k4 x8_1k4 A10k4 m a H locs w_x8_1 w_x8_2 hoff hsh w_A10 hoffa ls hl hg4 hW hS; exact (gl_zero hg4).elim
    | succ n ih1 =>
      intro v5k4 x8_1k4 A10k4 m a H locs w_x8_1 w_x8_2 hoff hsh w_A10 hoffa ls hl hg4 hW hS
      obtain ⟨X1, hs1, hXl1, hXr1⟩ := gl_succ hg4
      have hs1 : fX0_list_S20 F xkr_1 xkr_2 p2 p4 x8_2 v5k4 x8_1k4 A10k4 = some X1 := hs1
      unfold fX0_list_S20 at hs1
      have hJ80_1 : ∀ (v5j35 : Int32) (x8_1j35 : Int32) (A10j35 : Nat → Int32) (m : Nat → Value) (a : Nat → vp_A) (H : Heap) (locs : List Loc) (w_x8_1 : m 801 = .int x8_1j35) (w_x8_2 : m 802 = .int x8_2) (hoff : ∀ j, nel j [801, 802] = false → m j = m0 j) (hsh : SH q m) (w_A10 : a 10 = (10, .inl A10j35)) (hoffa : ∀ j, nel j [10] = false → a j = a0 j) (ls : Array Slot) (hl : lv_has ls 6 [(0, .ref (q 8)), (1, .ref (q kr)), (2, .long p2), (4, .int p4), (5, .int v5j35)]) (hs1 : fX0_list_J80 F xkr_1 xkr_2 p2 p4 v5j35 x8_1j35 x8_2 A10j35 = some X1) (hW : GW D cy (gA N q s.heap.size) N q m a s H) (hS : va_S (gA N q s.heap.size) s.heap H locs), W p l e ({ frames := 3, cells := 0, slots := 0, locals := 68 } : Room) s M args below meth c H locs 0 0 (MQ below (va_Qv (fun (u : (Nat → Value) × (Nat → vp_A)) => u.1 801 = .int X0.1 ∧ u.1 802 = .int X0.2.1 ∧ (∀ j, nel j [801, 802] = false → u.1 j = m0 j) ∧ u.2 10 = (10, .inl X0.2.2) ∧ (∀ j, nel j [10] = false → u.2 j = a0 j)) (gB D cy N q s.heap.size) (gA N q s.heap.size)) args s 0 0 (gA N q s.heap.size)) (F0 M 80 ls []) := by
        intro v5j35 x8_1j35 A10j35 m a H locs w_x8_1 w_x8_2 hoff hsh w_A10 hoffa ls hl hs1 hW hS
        unfold fX0_list_J80 at hs1
        refine lv_iinc (v := v5j35 + 1) (lv' := [(5, .int (v5j35 + 1)), (0, .ref (q 8)), (1, .ref (q kr)), (2, .long p2), (4, .int p4)]) hx hb dX0_list_80 hl (k := 4) rfl rfl (by decide) rfl (fun ls hl => ?_)
        refine lv_goto (tgt := 20) hx hb dX0_list_83 (by decide) ?_
        exact ih1 (v5j35 + 1) x8_1j35 A10j35 m a _ _ w_x8_1 w_x8_2 hoff hsh w_A10 hoffa ls (lv_sub hl [1, 2, 3, 4, 0] rfl) (hXr1 _ (Option.some.inj hs1).symm) hW hS
      refine lv_iload hx hb dX0_list_20 (lv_at hl 4 rfl) ?_
      refine lv_aload_n hx hb dX0_list_22 rfl (lv_at hl 1 rfl) ?_
      refine gf7_1 hx hb hG hown hW (o := kr) hkr hgk (v := .int xkr_1) ((off_kr hoff hgk 1 rfl (by decide)).trans h_xkr_1) gx544 dX0_list_23 ?_
      refine lv_icmp_ge (tgt := 86) hx hb dX0_list_26 (by decide) (fun c31 => ?_) (fun c31 => ?_)
      · rw [if_pos c31] at hs1
        exact hE1_86 (x8_1k4, A10k4) (hXl1 _ (Option.some.inj hs1).symm) m a _ _ w_x8_1 w_x8_2 hoff hsh w_A10 hoffa ls (lv_sub hl [0, 1, 2] rfl) hW hS
      · rw [if_neg c31] at hs1
        refine lv_lload_n hx hb dX0_list_29 rfl (lv_at hl 2 rfl) ?_
        refine lv_iload hx hb dX0_list_30 (lv_at hl 4 rfl) ?_
        refine g_SiR (n := 1) hx hb hml hown hG hW hS [.int v5k4] (kX7_lettersAt hN v5k4) rfl (gd_S gx560 gx369 gx39 gx370) rfl rfl (by decide) ⟨Nat.le_of_ble_eq_true rfl, Nat.le_of_ble_eq_true rfl⟩ rfl hl (Nat.le_of_ble_eq_true rfl) ⟨Nat.zero_le _, Nat.zero_le _⟩ dX0_list_32 (fun H locs hW hS => ?_)
        refine g_SiR (n := 2) hx hb hml hown hG hW hS [.long p2, .int (fX7_lettersAt v5k4)] (kX7_digit hN p2 (fX7_lettersAt v5k4)) rfl (gd_S gx559 gx320 gx39 gx321) rfl rfl (by decide) ⟨Nat.le_of_ble_eq_true rfl, Nat.le_of_ble_eq_true rfl⟩ rfl hl (Nat.le_of_ble_eq_true rfl) ⟨Nat.zero_le _, Nat.zero_le _⟩ dX0_list_35 (fun H locs hW hS => ?_)
        refine lv_if_le (tgt := 80) hx hb dX0_list_38 (by decide) (fun c34 => ?_) (fun c34 => ?_)
        · rw [if_pos c34] at hs1
          exact hJ80_1 v5k4 x8_1k4 A10k4 m a _ _ w_x8_1 w_x8_2 hoff hsh w_A10 hoffa ls (lv_sub hl [0, 1, 2, 3, 4] rfl) hs1 hW hS
        · rw [if_neg c34] at hs1
          refine lv_aload_n hx hb dX0_list_41 rfl (lv_at hl 0 rfl) ?_
          refine lv_iconst (v := 2) hx hb dX0_list_42 (by decide) ?_
          refine lv_iload hx hb dX0_list_43 (lv_at hl 4 rfl) ?_
          refine lv_iconst (v := 4) hx hb dX0_list_45 (by decide) ?_
          refine lv_ishl hx hb dX0_list_46 ?_
          refine lv_ior hx hb dX0_list_47 ?_
          refine g_Vv (n := 1) hx hb hml hown hG hW hS [.int ((2 : Int32) ||| (v5k4 <<< (4 &&& 31)))] (kX0_add_8 hN hsh w_x8_1 w_A10 ((2 : Int32) ||| (v5k4 <<< (4 &&& 31)))) (ltN hN 8 rfl) gk8 (by decide) rfl rfl (gd_V gx546 gx547 gx548 gx23 gx549) rfl rfl (by decide) ⟨Nat.le_of_ble_eq_true rfl, Nat.le_of_ble_eq_true rfl⟩ rfl hl (Nat.le_of_ble_eq_true rfl) ⟨Nat.zero_le _, Nat.zero_le _⟩ dX0_list_48 (fun m36 a36 H locs hp36 hW hS => ?_)
          obtain ⟨hp36_x8_1, ho36, hp36_A10, hoa36⟩ := hp36
          have w_x8_1 : m36 801 = .int ((fX0_add x8_1k4 A10k4 ((2 : Int32) ||| (v5k4 <<< (4 &&& 31)))).1) := hp36_x8_1
          have w_x8_2 : m36 802 = .int x8_2 := (ho36 802 rfl).trans w_x8_2
          have hoff := offm hoff ho36 (by decide +kernel)
          have hsh := SH.off hsh ho36 (by decide +kernel)
          have w_A10 : a36 10 = (10, .inl ((fX0_add x8_1k4 A10k4 ((2 : Int32) ||| (v5k4 <<< (4 &&& 31)))).2)) := hp36_A10
          have hoffa := offm hoffa hoa36 (by decide +kernel)
          refine lv_iload hx hb dX0_list_51 (lv_at hl 3 rfl) ?_
          refine lv_if_eq (tgt := 80) hx hb dX0_list_53 (by decide) (fun c37 => ?_) (fun c37 => ?_)
          · rw [if_pos c37] at hs1
            exact hJ80_1 v5k4 ((fX0_add x8_1k4 A10k4 ((2 : Int32) ||| (v5k4 <<< (4 &&& 31)))).1) ((fX0_add x8_1k4 A10k4 ((2 : Int32) ||| (v5k4 <<< (4 &&& 31)))).2) m36 a36 _ _ w_x8_1 w_x8_2 hoff hsh w_A10 hoffa ls (lv_sub hl [0, 1, 2, 3, 4] rfl) hs1 hW hS
          · rw [if_neg c37] at hs1
            refine lv_aload_n hx hb dX0_list_56 rfl (lv_at hl 1 rfl) ?_
            refine lv_lload_n hx hb dX0_list_57 rfl (lv_at hl 2 rfl) ?_
            refine lv_iload hx hb dX0_list_58 (lv_at hl 4 rfl) ?_
            refine g_ViR (n := 2) hx hb hml hown hG hW hS [.long p2, .int v5k4] (kX7_goesOnBy hN hkr hgk ((off_kr hoff hgk 2 rfl (by decide)).trans h_xkr_2) p2 v5k4) hkr hgk (by decide) rfl rfl (gd_V gx561 gx471 gx472 gx39 gx473) rfl rfl (by decide) ⟨Nat.le_of_ble_eq_true rfl, Nat.le_of_ble_eq_true rfl⟩ rfl hl (Nat.le_of_ble_eq_true rfl) ⟨Nat.zero_le _, Nat.zero_le _⟩ dX0_list_60 (fun H locs hW hS => ?_)
            refine lv_if_eq (tgt := 80) hx hb dX0_list_63 (by decide) (fun c39 => ?_) (fun c39 => ?_)
            · rw [if_pos c39] at hs1
              exact hJ80_1 v5k4 ((fX0_add x8_1k4 A10k4 ((2 : Int32) ||| (v5k4 <<< (4 &&& 31)))).1) ((fX0_add x8_1k4 A10k4 ((2 : Int32) ||| (v5k4 <<< (4 &&& 31)))).2) m36 a36 _ _ w_x8_1 w_x8_2 hoff hsh w_A10 hoffa ls (lv_sub hl [0, 1, 2, 3, 4] rfl) hs1 hW hS
            · rw [if_neg c39] at hs1
              refine lv_aload_n hx hb dX0_list_66 rfl (lv_at hl 0 rfl) ?_
              refine lv_iconst (v := 2) hx hb dX0_list_67 (by decide) ?_
              refine lv_iload hx hb dX0_list_68 (lv_at hl 4 rfl) ?_
              refine lv_iconst (v := 4) hx hb dX0_list_70 (by decide) ?_
              refine lv_ishl hx hb dX0_list_71 ?_
              refine lv_ior hx hb dX0_list_72 ?_
              refine lv_iconst (v := 1) hx hb dX0_list_73 (by decide) ?_
              refine g_SiR (n := 2) hx hb hml hown hG hW hS [.int ((2 : Int32) ||| (v5k4 <<< (4 &&& 31))), .int 1] (kX0_withTold hN ((2 : Int32) ||| (v5k4 <<< (4 &&& 31))) 1) rfl (gd_S gx562 gx420 gx23 gx421) rfl rfl (by decide) ⟨Nat.le_of_ble_eq_true rfl, Nat.le_of_ble_eq_true rfl⟩ rfl hl (Nat.le_of_ble_eq_true rfl) ⟨Nat.zero_le _, Nat.zero_le _⟩ dX0_list_74 (fun H locs hW hS => ?_)
              refine g_Vv (n := 1) hx hb hml hown hG hW hS [.int (fX0_withTold ((2 : Int32) ||| (v5k4 <<< (4 &&& 31))) 1)] (kX0_add_8 hN hsh w_x8_1 w_A10 (fX0_withTold ((2 : Int32) ||| (v5k4 <<< (4 &&& 31))) 1)) (ltN hN 8 rfl) gk8 (by decide) rfl rfl (gd_V gx546 gx547 gx548 gx23 gx549) rfl rfl (by decide) ⟨Nat.le_of_ble_eq_true rfl, Nat.le_of_ble_eq_true rfl⟩ rfl hl (Nat.le_of_ble_eq_true rfl) ⟨Nat.zero_le _, Nat.zero_le _⟩ dX0_list_77 (fun m41 a41 H locs hp41 hW hS => ?_)
              obtain ⟨hp41_x8_1, ho41, hp41_A10, hoa41⟩ := hp41
              have w_x8_1 : m41 801 = .int ((fX0_add ((fX0_add x8_1k4 A10k4 ((2 : Int32) ||| (v5k4 <<< (4 &&& 31)))).1) ((fX0_add x8_1k4 A10k4 ((2 : Int32) ||| (v5k4 <<< (4 &&& 31)))).2) (fX0_withTold ((2 : Int32) ||| (v5k4 <<< (4 &&& 31))) 1)).1) := hp41_x8_1
              have w_x8_2 : m41 802 = .int x8_2 := (ho41 802 rfl).trans w_x8_2
              have hoff := offm hoff ho41 (by decide +kernel)
              have hsh := SH.off hsh ho41 (by decide +kernel)
              have w_A10 : a41 10 = (10, .inl ((fX0_add ((fX0_add x8_1k4 A10k4 ((2 : Int32) ||| (v5k4 <<< (4 &&& 31)))).1) ((fX0_add x8_1k4 A10k4 ((2 : Int32) ||| (v5k4 <<< (4 &&& 31)))).2) (fX0_withTold ((2 : Int32) ||| (v5k4 <<< (4 &&& 31))) 1)).2)) := hp41_A10
              have hoffa := offm hoffa hoa41 (by decide +kernel)
              exact hJ80_1 v5k4 ((fX0_add ((fX0_add x8_1k4 A10k4 ((2 : Int32) ||| (v5k4 <<< (4 &&& 31)))).1) ((fX0_add x8_1k4 A10k4 ((2 : Int32) ||| (v5k4 <<< (4 &&& 31)))).2) (fX0_withTold ((2 : Int32) ||| (v5k4 <<< (4 &&& 31))) 1)).1) ((fX0_add ((fX0_add x8_1k4 A10k4 ((2 : Int32) ||| (v5k4 <<< (4 &&& 31)))).1) ((fX0_add x8_1k4 A10k4 ((2 : Int32) ||| (v5k4 <<< (4 &&& 31)))).2) (fX0_withTold ((2 : Int32) ||| (v5k4 <<< (4 &&& 31))) 1)).2) m41 a41 _ _ w_x8_1 w_x8_2 hoff hsh w_A10 hoffa ls (lv_sub hl [0, 1, 2, 3, 4] rfl) hs1 hW hS
  exact hL1 F 0 r3.1 r3.2 m3 a3 _ _ w_x8_1 w_x8_2 hoff hsh w_A10 hoffa ls (lv_sub hl [1, 2, 3, 4, 0] rfl) hg4 hW hS
set_option maxHeartbeats 4000000 in
set_option maxRecDepth 100000 in
theorem kX0_add_31 {l : Launch} {D : va_G} {cy : Nat → ClassId} {N : Nat} {q : Nat → Nat} {m0 : Nat → Value} {a0 : Nat → vp_A} {sz : Nat} (hN : 105 ≤ N) (hsh : SH q m0) {x31_1 : Int32} (h_x31_1 : m0 3101 = .int x31_1) {A33 : Nat → Int32} (h_A33 : a0 33 = (10, .inl A33)) (p1 : Int32) : gMv l yX0_add cX0_add 2 none ({ frames := 1, cells := 0, slots := 0, locals := 22 } : Room) D cy N q m0 a0 sz [.ref (q 31), .int p1] (fun m' a' => m' 3101 = .int ((fX0_add x31_1 A33 p1).1) ∧ (∀ j, nel j [3101] = false → m' j = m0 j) ∧ a' 33 = (10, .inl ((fX0_add x31_1 A33 p1).2)) ∧ (∀ j, nel j [33] = false → a' j = a0 j)) := by
  generalize hs0 : fX0_add x31_1 A33 p1 = X0
  refine g_ofv (by decide) (Nat.le_of_ble_eq_true rfl) ?_
  intro p e s M args below meth c hx hb hr hG hown hin hlocks hml hW hS ls hl
  unfold fX0_add at hs0
  have hoff : ∀ j, nel j [3101] = false → m0 j = m0 j := off0
  have hoffa : ∀ j, nel j [33] = false → a0 j = a0 j := off0
  refine lv_aload_n hx hb dX0_add_0 rfl (lv_at hl 0 rfl) ?_
  refine gf0_1 hx hb hG hown hW (o := 31) (ltN hN 31 rfl) gk31 (v := .int x31_1) h_x31_1 gx543 dX0_add_1 ?_
  refine lv_bipush (v := 10) hx hb dX0_add_4 (by decide) ?_
  refine lv_icmp_ge (tgt := 31) hx hb dX0_add_6 (by decide) (fun c1 => ?_) (fun c1 => ?_)
  · rw [if_pos c1] at hs0
    subst hs0
    exact W.vret hx hb hr (fun t ht hw => ⟨⟨(m0, a0), rfl, ⟨h_x31_1, hoff, h_A33, hoffa⟩, g_end hW ht hw⟩, hS.F ht⟩) hS.2.2 dX0_add_31 hlocks
  · rw [if_neg c1] at hs0
    refine lv_aload_n hx hb dX0_add_9 rfl (lv_at hl 0 rfl) ?_
    refine gf0_0 hx hb hG hown hW (o := 31) (ltN hN 31 rfl) gk31 (v := .ref (q 32)) (sh31_0 hsh) gx62 dX0_add_10 ?_
    refine lv_aload_n hx hb dX0_add_13 rfl (lv_at hl 0 rfl) ?_
    refine gf0_1 hx hb hG hown hW (o := 31) (ltN hN 31 rfl) gk31 (v := .int x31_1) h_x31_1 gx543 dX0_add_14 ?_
    refine lv_iload_n hx hb dX0_add_17 rfl (lv_at hl 1 rfl) ?_
    refine g_Vv (n := 2) hx hb hml hown hG hW hS [.int x31_1, .int p1] (kX2_put (ltN hN 32 rfl) gk32 (ltN hN 33 rfl) gk33 (sh32_0 hsh) (by decide) h_A33 x31_1 p1) (ltN hN 32 rfl) gk32 (by decide) rfl rfl (gd_V gx550 gx551 gx552 gx47 gx553) rfl rfl (by decide) ⟨Nat.le_of_ble_eq_true rfl, Nat.le_of_ble_eq_true rfl⟩ rfl hl (Nat.le_of_ble_eq_true rfl) ⟨Nat.zero_le _, Nat.zero_le _⟩ dX0_add_18 (fun m2 a2 H locs hp2 hW hS => ?_)
    obtain ⟨hm2, hp2_A33, hoa2⟩ := hp2
    rw [hm2] at hW
    have w_A33 : a2 33 = (10, .inl (cPut 10 A33 x31_1 p1)) := hp2_A33
    have hoffa := offm hoffa hoa2 (by decide +kernel)
    refine lv_aload_n hx hb dX0_add_21 rfl (lv_at hl 0 rfl) ?_
    refine lv_dup hx hb dX0_add_22 rfl ?_
    refine gf0_1 hx hb hG hown hW (o := 31) (ltN hN 31 rfl) gk31 (v := .int x31_1) h_x31_1 gx543 dX0_add_23 ?_
    refine lv_iconst (v := 1) hx hb dX0_add_26 (by decide) ?_
    refine lv_iadd hx hb dX0_add_27 ?_
    refine gp0_1 hx hb hG hown hW hS (o := 31) (ltN hN 31 rfl) gk31 (v := (x31_1 + 1)) gx543 dX0_add_28 (fun m3 H locs hm3 ho3 hW hS => ?_)
    have ho3 := off1 ho3
    have w_x31_1 : m3 3101 = .int (x31_1 + 1) := hm3
    have hoff := offm hoff ho3 (by decide +kernel)
    have hsh := SH.off hsh ho3 (by decide +kernel)
    subst hs0
    exact W.vret hx hb hr (fun t ht hw => ⟨⟨(m3, a2), rfl, ⟨w_x31_1, hoff, w_A33, hoffa⟩, g_end hW ht hw⟩, hS.F ht⟩) hS.2.2 dX0_add_31 hlocks
set_option maxHeartbeats 4000000 in
set_option maxRecDepth 100000 in
theorem kX0_addPackets_31 {l : Launch} {D : va_G} {cy : Nat → ClassId} {N : Nat} {q : Nat → Nat} {m0 : Nat → Value} {a0 : Nat → vp_A} {sz : Nat} (hN : 105 ≤ N) (hsh : SH q m0) {kr : Nat} (hkr : kr < N) (hgk : gk kr = 7) {xkr_1 : Int32} (h_xkr_1 : m0 (100 * kr + 1) = .int xkr_1) {x31_1 : Int32} (h_x31_1 : m0 3101 = .int x31_1) {A33 : Nat → Int32} (h_A33 : a0 33 = (10, .inl A33)) (F : Nat) (p1 : Int32) (p3 : Int64) {X0 : Int32 × (Nat → Int32)} (hs0 : fX0_addPackets F xkr_1 x31_1 A33 p1 p3 = some X0) : gMv l yX0_addPackets cX0_addPackets 6 none ({ frames := 2, cells := 0, slots := 0, locals := 43 } : Room) D cy N q m0 a0 sz [.ref (q 31), .int p1, .ref (q kr), .long p3] (fun m' a' => m' 3101 = .int X0.1 ∧ (∀ j, nel j [3101] = false → m' j = m0 j) ∧ a' 33 = (10, .inl X0.2) ∧ (∀ j, nel j [33] = false → a' j = a0 j)) := by
  refine g_ofv (by decide) (Nat.le_of_ble_eq_true rfl) ?_
  intro p e s M args below meth c hx hb hr hG hown hin hlocks hml hW hS ls hl
  unfold fX0_addPackets at hs0
  have hoff : ∀ j, nel j [3101] = false → m0 j = m0 j := off0
  have hoffa : ∀ j, nel j [33] = false → a0 j = a0 j := off0
  refine lv_iconst (v := 0) hx hb dX0_addPackets_0 (by decide) ?_
  refine lv_istore (lv' := [(5, .int 0), (0, .ref (q 31)), (1, .int p1), (2, .ref (q kr)), (3, .long p3)]) hx hb dX0_addPackets_1 hl (by decide) rfl (fun ls hl => ?_)
  obtain ⟨r1, hg1, hs0⟩ := obind hs0
  have hE1_42 : ∀ (t1_42 : Int32 × (Nat → Int32)) (hr1 : t1_42 = r1) (m : Nat → Value) (a : Nat → vp_A) (H : Heap) (locs : List Loc) (w_x31_1 : m 3101 = .int t1_42.1) (hoff : ∀ j, nel j [3101] = false → m j = m0 j) (hsh : SH q m) (w_A33 : a 33 = (10, .inl t1_42.2)) (hoffa : ∀ j, nel j [33] = false → a j = a0 j) (ls : Array Slot) (hl : lv_has ls 6 []) (hW : GW D cy (gA N q s.heap.size) N q m a s H) (hS : va_S (gA N q s.heap.size) s.heap H locs), W p l e ({ frames := 2, cells := 0, slots := 0, locals := 43 } : Room) s M args below meth c H locs 0 0 (MQ below (va_Qv (fun (u : (Nat → Value) × (Nat → vp_A)) => u.1 3101 = .int X0.1 ∧ (∀ j, nel j [3101] = false → u.1 j = m0 j) ∧ u.2 33 = (10, .inl X0.2) ∧ (∀ j, nel j [33] = false → u.2 j = a0 j)) (gB D cy N q s.heap.size) (gA N q s.heap.size)) args s 0 0 (gA N q s.heap.size)) (F0 M 42 ls []) := by
    intro t1_42 hr1 m a H locs w_x31_1 hoff hsh w_A33 hoffa ls hl hW hS
    subst hr1
    have hs0 := Option.some.inj hs0
    subst hs0
    exact W.vret hx hb hr (fun t ht hw => ⟨⟨(m, a), rfl, ⟨w_x31_1, hoff, w_A33, hoffa⟩, g_end hW ht hw⟩, hS.F ht⟩) hS.2.2 dX0_addPackets_42 hlocks
  have hL1 : ∀ (n : Nat) (v5k1 : Int32) (x31_1k1 : Int32) (A33k1 : Nat → Int32) (m : Nat → Value) (a : Nat → vp_A) (H : Heap) (locs : List Loc) (w_x31_1 : m 3101 = .int x31_1k1) (hoff : ∀ j, nel j [3101] = false → m j = m0 j) (hsh : SH q m) (w_A33 : a 33 = (10, .inl A33k1)) (hoffa : ∀ j, nel j [33] = false → a j = a0 j) (ls : Array Slot) (hl : lv_has ls 6 [(0, .ref (q 31)), (1, .int p1), (2, .ref (q kr)), (3, .long p3), (5, .int v5k1)]) (hg1 : gloop (fun u1 : (Int32 × Int32 × (Nat → Int32)) => fX0_addPackets_S3 F xkr_1 p1 p3 u1.1 u1.2.1 u1.2.2) n (v5k1, x31_1k1, A33k1) = some r1) (hW : GW D cy (gA N q s.heap.size) N q m a s H) (hS : va_S (gA N q s.heap.size) s.heap H locs), W p l e ({ frames := 2, cells := 0, slots := 0, locals := 43 } : Room) s M args below meth c H locs 0 0 (MQ below (va_Qv (fun (u : (Nat → Value) × (Nat → vp_A)) => u.1 3101 = .int X0.1 ∧ (∀ j, nel j [3101] = false → u.1 j = m0 j) ∧ u.2 33 = (10, .inl X0.2) ∧ (∀ j, nel j [33] = false → u.2 j = a0 j)) (gB D cy N q s.heap.size) (gA N q s.heap.size)) args s 0 0 (gA N q s.heap.size)) (F0 M 3 ls []) := by
    intro n
    induction n with
    | zero => intro v5k1 x31_1k1 A33k1 m a H locs w_x31_1 hoff hsh w_A33 hoffa ls hl hg1 hW hS; exact (gl_zero hg1).elim
    | succ n ih1 =>
      intro v5k1 x31_1k1 A33k1 m a H locs w_x31_1 hoff hsh w_A33 hoffa ls hl hg1 hW hS
      obtain ⟨X1, hs1, hXl1, hXr1⟩ := gl_succ hg1
      have hs1 : fX0_addPackets_S3 F xkr_1 p1 p3 v5k1 x31_1k1 A33k1 = some X1 := hs1
      unfold fX0_addPackets_S3 at hs1
      have hJ36_1 : ∀ (v5j12 : Int32) (x31_1j12 : Int32) (A33j12 : Nat → Int32) (m : Nat → Value) (a : Nat → vp_A) (H : Heap) (locs : List Loc) (w_x31_1 : m 3101 = .int x31_1j12) (hoff : ∀ j, nel j [3101] = false → m j = m0 j) (hsh : SH q m) (w_A33 : a 33 = (10, .inl A33j12)) (hoffa : ∀ j, nel j [33] = false → a j = a0 j) (ls : Array Slot) (hl : lv_has ls 6 [(0, .ref (q 31)), (1, .int p1), (2, .ref (q kr)), (3, .long p3), (5, .int v5j12)]) (hs1 : fX0_addPackets_J36 F xkr_1 p1 p3 v5j12 x31_1j12 A33j12 = some X1) (hW : GW D cy (gA N q s.heap.size) N q m a s H) (hS : va_S (gA N q s.heap.size) s.heap H locs), W p l e ({ frames := 2, cells := 0, slots := 0, locals := 43 } : Room) s M args below meth c H locs 0 0 (MQ below (va_Qv (fun (u : (Nat → Value) × (Nat → vp_A)) => u.1 3101 = .int X0.1 ∧ (∀ j, nel j [3101] = false → u.1 j = m0 j) ∧ u.2 33 = (10, .inl X0.2) ∧ (∀ j, nel j [33] = false → u.2 j = a0 j)) (gB D cy N q s.heap.size) (gA N q s.heap.size)) args s 0 0 (gA N q s.heap.size)) (F0 M 36 ls []) := by
        intro v5j12 x31_1j12 A33j12 m a H locs w_x31_1 hoff hsh w_A33 hoffa ls hl hs1 hW hS
        unfold fX0_addPackets_J36 at hs1
        refine lv_iinc (v := v5j12 + 1) (lv' := [(5, .int (v5j12 + 1)), (0, .ref (q 31)), (1, .int p1), (2, .ref (q kr)), (3, .long p3)]) hx hb dX0_addPackets_36 hl (k := 4) rfl rfl (by decide) rfl (fun ls hl => ?_)
        refine lv_goto (tgt := 3) hx hb dX0_addPackets_39 (by decide) ?_
        exact ih1 (v5j12 + 1) x31_1j12 A33j12 m a _ _ w_x31_1 hoff hsh w_A33 hoffa ls (lv_sub hl [1, 2, 3, 4, 0] rfl) (hXr1 _ (Option.some.inj hs1).symm) hW hS
      refine lv_iload hx hb dX0_addPackets_3 (lv_at hl 4 rfl) ?_
      refine lv_iconst (v := 2) hx hb dX0_addPackets_5 (by decide) ?_
      refine lv_aload_n hx hb dX0_addPackets_6 rfl (lv_at hl 2 rfl) ?_
      refine gf7_1 hx hb hG hown hW (o := kr) hkr hgk (v := .int xkr_1) ((off_kr hoff hgk 1 rfl (by decide)).trans h_xkr_1) gx544 dX0_addPackets_7 ?_
      refine lv_imul hx hb dX0_addPackets_10 ?_
      refine lv_icmp_ge (tgt := 42) hx hb dX0_addPackets_11 (by decide) (fun c8 => ?_) (fun c8 => ?_)
      · rw [if_pos c8] at hs1
        exact hE1_42 (x31_1k1, A33k1) (hXl1 _ (Option.some.inj hs1).symm) m a _ _ w_x31_1 hoff hsh w_A33 hoffa ls (lv_sub hl [] rfl) hW hS
      · rw [if_neg c8] at hs1
        refine lv_lload_n hx hb dX0_addPackets_14 rfl (lv_at hl 3 rfl) ?_
        refine lv_iload hx hb dX0_addPackets_15 (lv_at hl 4 rfl) ?_
        refine g_SiR (n := 1) hx hb hml hown hG hW hS [.int v5k1] (kX7_packetsAt hN v5k1) rfl (gd_S gx558 gx340 gx39 gx341) rfl rfl (by decide) ⟨Nat.le_of_ble_eq_true rfl, Nat.le_of_ble_eq_true rfl⟩ rfl hl (Nat.le_of_ble_eq_true rfl) ⟨Nat.zero_le _, Nat.zero_le _⟩ dX0_addPackets_17 (fun H locs hW hS => ?_)
        refine g_SiR (n := 2) hx hb hml hown hG hW hS [.long p3, .int (fX7_packetsAt v5k1)] (kX7_digit hN p3 (fX7_packetsAt v5k1)) rfl (gd_S gx559 gx320 gx39 gx321) rfl rfl (by decide) ⟨Nat.le_of_ble_eq_true rfl, Nat.le_of_ble_eq_true rfl⟩ rfl hl (Nat.le_of_ble_eq_true rfl) ⟨Nat.zero_le _, Nat.zero_le _⟩ dX0_addPackets_20 (fun H locs hW hS => ?_)
        refine lv_if_le (tgt := 36) hx hb dX0_addPackets_23 (by decide) (fun c11 => ?_) (fun c11 => ?_)
        · rw [if_pos c11] at hs1
          exact hJ36_1 v5k1 x31_1k1 A33k1 m a _ _ w_x31_1 hoff hsh w_A33 hoffa ls (lv_sub hl [0, 1, 2, 3, 4] rfl) hs1 hW hS
        · rw [if_neg c11] at hs1
          refine lv_aload_n hx hb dX0_addPackets_26 rfl (lv_at hl 0 rfl) ?_
          refine lv_iload_n hx hb dX0_addPackets_27 rfl (lv_at hl 1 rfl) ?_
          refine lv_iload hx hb dX0_addPackets_28 (lv_at hl 4 rfl) ?_
          refine lv_iconst (v := 3) hx hb dX0_addPackets_30 (by decide) ?_
          refine lv_ishl hx hb dX0_addPackets_31 ?_
          refine lv_ior hx hb dX0_addPackets_32 ?_
          refine g_Vv (n := 1) hx hb hml hown hG hW hS [.int (p1 ||| (v5k1 <<< (3 &&& 31)))] (kX0_add_31 hN hsh w_x31_1 w_A33 (p1 ||| (v5k1 <<< (3 &&& 31)))) (ltN hN 31 rfl) gk31 (by decide) rfl rfl (gd_V gx546 gx547 gx548 gx23 gx549) rfl rfl (by decide) ⟨Nat.le_of_ble_eq_true rfl, Nat.le_of_ble_eq_true rfl⟩ rfl hl (Nat.le_of_ble_eq_true rfl) ⟨Nat.zero_le _, Nat.zero_le _⟩ dX0_addPackets_33 (fun m13 a13 H locs hp13 hW hS => ?_)
          obtain ⟨hp13_x31_1, ho13, hp13_A33, hoa13⟩ := hp13
          have w_x31_1 : m13 3101 = .int ((fX0_add x31_1k1 A33k1 (p1 ||| (v5k1 <<< (3 &&& 31)))).1) := hp13_x31_1
          have hoff := offm hoff ho13 (by decide +kernel)
          have hsh := SH.off hsh ho13 (by decide +kernel)
          have w_A33 : a13 33 = (10, .inl ((fX0_add x31_1k1 A33k1 (p1 ||| (v5k1 <<< (3 &&& 31)))).2)) := hp13_A33
          have hoffa := offm hoffa hoa13 (by decide +kernel)
          exact hJ36_1 v5k1 ((fX0_add x31_1k1 A33k1 (p1 ||| (v5k1 <<< (3 &&& 31)))).1) ((fX0_add x31_1k1 A33k1 (p1 ||| (v5k1 <<< (3 &&& 31)))).2) m13 a13 _ _ w_x31_1 hoff hsh w_A33 hoffa ls (lv_sub hl [0, 1, 2, 3, 4] rfl) hs1 hW hS
  exact hL1 F 0 x31_1 A33 m0 a0 _ _ h_x31_1 hoff hsh h_A33 hoffa ls (lv_sub hl [1, 2, 3, 4, 0] rfl) hg1 hW hS
set_option maxHeartbeats 4000000 in
set_option maxRecDepth 100000 in
theorem kX0_list_31 {l : Launch} {D : va_G} {cy : Nat → ClassId} {N : Nat} {q : Nat → Nat} {m0 : Nat → Value} {a0 : Nat → vp_A} {sz : Nat} (hN : 105 ≤ N) (hsh : SH q m0) {kr : Nat} (hkr : kr < N) (hgk : gk kr = 7) {xkr_1 : Int32} (h_xkr_1 : m0 (100 * kr + 1) = .int xkr_1) {xkr_2 : Int32} (h_xkr_2 : m0 (100 * kr + 2) = .int xkr_2) {x31_1 : Int32} (h_x31_1 : m0 3101 = .int x31_1) {x31_2 : Int32} (h_x31_2 : m0 3102 = .int x31_2) {A33 : Nat → Int32} (h_A33 : a0 33 = (10, .inl A33)) (F : Nat) (p2 : Int64) (p4 : Int32) {X0 : Int32 × Int32 × (Nat → Int32)} (hs0 : fX0_list F xkr_1 xkr_2 x31_1 x31_2 A33 p2 p4 = some X0) : gMv l yX0_list cX0_list 6 none ({ frames := 3, cells := 0, slots := 0, locals := 68 } : Room) D cy N q m0 a0 sz [.ref (q 31), .ref (q kr), .long p2, .int p4] (fun m' a' => m' 3101 = .int X0.1 ∧ m' 3102 = .int X0.2.1 ∧ (∀ j, nel j [3101, 3102] = false → m' j = m0 j) ∧ a' 33 = (10, .inl X0.2.2) ∧ (∀ j, nel j [33] = false → a' j = a0 j)) := by
  refine g_ofv (by decide) (Nat.le_of_ble_eq_true rfl) ?_
  intro p e s M args below meth c hx hb hr hG hown hin hlocks hml hW hS ls hl
  unfold fX0_list at hs0
  have hoff : ∀ j, nel j [3101, 3102] = false → m0 j = m0 j := off0
  have hoffa : ∀ j, nel j [33] = false → a0 j = a0 j := off0
  refine lv_aload_n hx hb dX0_list_0 rfl (lv_at hl 0 rfl) ?_
  refine lv_iconst (v := 0) hx hb dX0_list_1 (by decide) ?_
  refine gp0_1 hx hb hG hown hW hS (o := 31) (ltN hN 31 rfl) gk31 (v := 0) gx543 dX0_list_2 (fun m1 H locs hm1 ho1 hW hS => ?_)
  have ho1 := off1 ho1
  have w_x31_1 : m1 3101 = .int 0 := hm1
  have w_x31_2 : m1 3102 = .int x31_2 := (ho1 3102 rfl).trans h_x31_2
  have hoff := offm hoff ho1 (by decide +kernel)
  have hsh := SH.off hsh ho1 (by decide +kernel)
  refine lv_aload_n hx hb dX0_list_5 rfl (lv_at hl 0 rfl) ?_
  refine lv_iconst (v := 0) hx hb dX0_list_6 (by decide) ?_
  refine g_Vv (n := 1) hx hb hml hown hG hW hS [.int 0] (kX0_add_31 hN hsh w_x31_1 h_A33 0) (ltN hN 31 rfl) gk31 (by decide) rfl rfl (gd_V gx546 gx547 gx548 gx23 gx549) rfl rfl (by decide) ⟨Nat.le_of_ble_eq_true rfl, Nat.le_of_ble_eq_true rfl⟩ rfl hl (Nat.le_of_ble_eq_true rfl) ⟨Nat.zero_le _, Nat.zero_le _⟩ dX0_list_7 (fun m2 a2 H locs hp2 hW hS => ?_)
  obtain ⟨hp2_x31_1, ho2, hp2_A33, hoa2⟩ := hp2
  have w_x31_1 : m2 3101 = .int ((fX0_add 0 A33 0).1) := hp2_x31_1
  have w_x31_2 : m2 3102 = .int x31_2 := (ho2 3102 rfl).trans w_x31_2
  have hoff := offm hoff ho2 (by decide +kernel)
  have hsh := SH.off hsh ho2 (by decide +kernel)
  have w_A33 : a2 33 = (10, .inl ((fX0_add 0 A33 0).2)) := hp2_A33
  have hoffa := offm hoffa hoa2 (by decide +kernel)
  refine lv_aload_n hx hb dX0_list_10 rfl (lv_at hl 0 rfl) ?_
  refine lv_iconst (v := 1) hx hb dX0_list_11 (by decide) ?_
  refine lv_aload_n hx hb dX0_list_12 rfl (lv_at hl 1 rfl) ?_
  refine lv_lload_n hx hb dX0_list_13 rfl (lv_at hl 2 rfl) ?_
  obtain ⟨r3, hf3, hs0⟩ := obind hs0
  refine g_Vv (n := 3) hx hb hml hown hG hW hS [.int 1, .ref (q kr), .long p2] (kX0_addPackets_31 hN hsh hkr hgk ((off_kr hoff hgk 1 rfl (by decide)).trans h_xkr_1) w_x31_1 w_A33 F 1 p2 hf3) (ltN hN 31 rfl) gk31 (by decide) rfl rfl (gd_V gx554 gx555 gx556 gx23 gx557) rfl rfl (by decide) ⟨Nat.le_of_ble_eq_true rfl, Nat.le_of_ble_eq_true rfl⟩ rfl hl (Nat.le_of_ble_eq_true rfl) ⟨Nat.zero_le _, Nat.zero_le _⟩ dX0_list_14 (fun m3 a3 H locs hp3 hW hS => ?_)
  obtain ⟨hp3_x31_1, ho3, hp3_A33, hoa3⟩ := hp3
  have w_x31_1 : m3 3101 = .int r3.1 := hp3_x31_1
  have w_x31_2 : m3 3102 = .int x31_2 := (ho3 3102 rfl).trans w_x31_2
  have hoff := offm hoff ho3 (by decide +kernel)
  have hsh := SH.off hsh ho3 (by decide +kernel)
  have w_A33 : a3 33 = (10, .inl r3.2) := hp3_A33
  have hoffa := offm hoffa hoa3 (by decide +kernel)
  refine lv_iconst (v := 0) hx hb dX0_list_17 (by decide) ?_
  refine lv_istore (lv' := [(5, .int 0), (0, .ref (q 31)), (1, .ref (q kr)), (2, .long p2), (4, .int p4)]) hx hb dX0_list_18 hl (by decide) rfl (fun ls hl => ?_)
  obtain ⟨r4, hg4, hs0⟩ := obind hs0
  have hE1_86 : ∀ (t4_86 : Int32 × (Nat → Int32)) (hr4 : t4_86 = r4) (m : Nat → Value) (a : Nat → vp_A) (H : Heap) (locs : List Loc) (w_x31_1 : m 3101 = .int t4_86.1) (w_x31_2 : m 3102 = .int x31_2) (hoff : ∀ j, nel j [3101, 3102] = false → m j = m0 j) (hsh : SH q m) (w_A33 : a 33 = (10, .inl t4_86.2)) (hoffa : ∀ j, nel j [33] = false → a j = a0 j) (ls : Array Slot) (hl : lv_has ls 6 [(0, .ref (q 31)), (1, .ref (q kr)), (2, .long p2)]) (hW : GW D cy (gA N q s.heap.size) N q m a s H) (hS : va_S (gA N q s.heap.size) s.heap H locs), W p l e ({ frames := 3, cells := 0, slots := 0, locals := 68 } : Room) s M args below meth c H locs 0 0 (MQ below (va_Qv (fun (u : (Nat → Value) × (Nat → vp_A)) => u.1 3101 = .int X0.1 ∧ u.1 3102 = .int X0.2.1 ∧ (∀ j, nel j [3101, 3102] = false → u.1 j = m0 j) ∧ u.2 33 = (10, .inl X0.2.2) ∧ (∀ j, nel j [33] = false → u.2 j = a0 j)) (gB D cy N q s.heap.size) (gA N q s.heap.size)) args s 0 0 (gA N q s.heap.size)) (F0 M 86 ls []) := by
    intro t4_86 hr4 m a H locs w_x31_1 w_x31_2 hoff hsh w_A33 hoffa ls hl hW hS
    subst hr4
    refine lv_aload_n hx hb dX0_list_86 rfl (lv_at hl 0 rfl) ?_
    refine lv_aload_n hx hb dX0_list_87 rfl (lv_at hl 0 rfl) ?_
    refine gf0_1 hx hb hG hown hW (o := 31) (ltN hN 31 rfl) gk31 (v := .int t4_86.1) w_x31_1 gx543 dX0_list_88 ?_
    refine gp0_2 hx hb hG hown hW hS (o := 31) (ltN hN 31 rfl) gk31 (v := t4_86.1) gx545 dX0_list_91 (fun m16 H locs hm16 ho16 hW hS => ?_)
    have ho16 := off1 ho16
    have w_x31_1 : m16 3101 = .int t4_86.1 := (ho16 3101 rfl).trans w_x31_1
    have w_x31_2 : m16 3102 = .int t4_86.1 := hm16
    have hoff := offm hoff ho16 (by decide +kernel)
    have hsh := SH.off hsh ho16 (by decide +kernel)
    refine lv_aload_n hx hb dX0_list_94 rfl (lv_at hl 0 rfl) ?_
    refine lv_iconst (v := 3) hx hb dX0_list_95 (by decide) ?_
    refine lv_aload_n hx hb dX0_list_96 rfl (lv_at hl 1 rfl) ?_
    refine lv_lload_n hx hb dX0_list_97 rfl (lv_at hl 2 rfl) ?_
    obtain ⟨r17, hf17, hs0⟩ := obind hs0
    refine g_Vv (n := 3) hx hb hml hown hG hW hS [.int 3, .ref (q kr), .long p2] (kX0_addPackets_31 hN hsh hkr hgk ((off_kr hoff hgk 1 rfl (by decide)).trans h_xkr_1) w_x31_1 w_A33 F 3 p2 hf17) (ltN hN 31 rfl) gk31 (by decide) rfl rfl (gd_V gx554 gx555 gx556 gx23 gx557) rfl rfl (by decide) ⟨Nat.le_of_ble_eq_true rfl, Nat.le_of_ble_eq_true rfl⟩ rfl hl (Nat.le_of_ble_eq_true rfl) ⟨Nat.zero_le _, Nat.zero_le _⟩ dX0_list_98 (fun m17 a17 H locs hp17 hW hS => ?_)
    obtain ⟨hp17_x31_1, ho17, hp17_A33, hoa17⟩ := hp17
    have w_x31_1 : m17 3101 = .int r17.1 := hp17_x31_1
    have w_x31_2 : m17 3102 = .int t4_86.1 := (ho17 3102 rfl).trans w_x31_2
    have hoff := offm hoff ho17 (by decide +kernel)
    have hsh := SH.off hsh ho17 (by decide +kernel)
    have w_A33 : a17 33 = (10, .inl r17.2) := hp17_A33
    have hoffa := offm hoffa hoa17 (by decide +kernel)
    refine lv_iconst (v := 0) hx hb dX0_list_101 (by decide) ?_
    refine lv_istore (lv' := [(5, .int 0), (0, .ref (q 31)), (1, .ref (q kr)), (2, .long p2)]) hx hb dX0_list_102 hl (by decide) rfl (fun ls hl => ?_)
    obtain ⟨r18, hg18, hs0⟩ := obind hs0
    have hE1_141 : ∀ (t18_141 : Int32 × (Nat → Int32)) (hr18 : t18_141 = r18) (m : Nat → Value) (a : Nat → vp_A) (H : Heap) (locs : List Loc) (w_x31_1 : m 3101 = .int t18_141.1) (w_x31_2 : m 3102 = .int t4_86.1) (hoff : ∀ j, nel j [3101, 3102] = false → m j = m0 j) (hsh : SH q m) (w_A33 : a 33 = (10, .inl t18_141.2)) (hoffa : ∀ j, nel j [33] = false → a j = a0 j) (ls : Array Slot) (hl : lv_has ls 6 []) (hW : GW D cy (gA N q s.heap.size) N q m a s H) (hS : va_S (gA N q s.heap.size) s.heap H locs), W p l e ({ frames := 3, cells := 0, slots := 0, locals := 68 } : Room) s M args below meth c H locs 0 0 (MQ below (va_Qv (fun (u : (Nat → Value) × (Nat → vp_A)) => u.1 3101 = .int X0.1 ∧ u.1 3102 = .int X0.2.1 ∧ (∀ j, nel j [3101, 3102] = false → u.1 j = m0 j) ∧ u.2 33 = (10, .inl X0.2.2) ∧ (∀ j, nel j [33] = false → u.2 j = a0 j)) (gB D cy N q s.heap.size) (gA N q s.heap.size)) args s 0 0 (gA N q s.heap.size)) (F0 M 141 ls []) := by
      intro t18_141 hr18 m a H locs w_x31_1 w_x31_2 hoff hsh w_A33 hoffa ls hl hW hS
      subst hr18
      have hs0 := Option.some.inj hs0
      subst hs0
      exact W.vret hx hb hr (fun t ht hw => ⟨⟨(m, a), rfl, ⟨w_x31_1, w_x31_2, hoff, w_A33, hoffa⟩, g_end hW ht hw⟩, hS.F ht⟩) hS.2.2 dX0_list_141 hlocks
    have hL1 : ∀ (n : Nat) (v5k18 : Int32) (x31_1k18 : Int32) (A33k18 : Nat → Int32) (m : Nat → Value) (a : Nat → vp_A) (H : Heap) (locs : List Loc) (w_x31_1 : m 3101 = .int x31_1k18) (w_x31_2 : m 3102 = .int t4_86.1) (hoff : ∀ j, nel j [3101, 3102] = false → m j = m0 j) (hsh : SH q m) (w_A33 : a 33 = (10, .inl A33k18)) (hoffa : ∀ j, nel j [33] = false → a j = a0 j) (ls : Array Slot) (hl : lv_has ls 6 [(0, .ref (q 31)), (1, .ref (q kr)), (2, .long p2), (5, .int v5k18)]) (hg18 : gloop (fun u18 : (Int32 × Int32 × (Nat → Int32)) => fX0_list_S104 F xkr_1 xkr_2 p2 t4_86.1 u18.1 u18.2.1 u18.2.2) n (v5k18, x31_1k18, A33k18) = some r18) (hW : GW D cy (gA N q s.heap.size) N q m a s H) (hS : va_S (gA N q s.heap.size) s.heap H locs), W p l e ({ frames := 3, cells := 0, slots := 0, locals := 68 } : Room) s M args below meth c H locs 0 0 (MQ below (va_Qv (fun (u : (Nat → Value) × (Nat → vp_A)) => u.1 3101 = .int X0.1 ∧ u.1 3102 = .int X0.2.1 ∧ (∀ j, nel j [3101, 3102] = false → u.1 j = m0 j) ∧ u.2 33 = (10, .inl X0.2.2) ∧ (∀ j, nel j [33] = false → u.2 j = a0 j)) (gB D cy N q s.heap.size) (gA N q s.heap.size)) args s 0 0 (gA N q s.heap.size)) (F0 M 104 ls []) := by
      intro n
      induction n with
      | zero => intro v5k18 x31_1k18 A33k18 m a H locs w_x31_1 w_x31_2 hoff hsh w_A33 hoffa ls hl hg18 hW hS; exact (gl_zero hg18).elim
      | succ n ih1 =>
        intro v5k18 x31_1k18 A33k18 m a H locs w_x31_1 w_x31_2 hoff hsh w_A33 hoffa ls hl hg18 hW hS
        obtain ⟨X1, hs1, hXl1, hXr1⟩ := gl_succ hg18
        have hs1 : fX0_list_S104 F xkr_1 xkr_2 p2 t4_86.1 v5k18 x31_1k18 A33k18 = some X1 := hs1
        unfold fX0_list_S104 at hs1
        have hJ135_1 : ∀ (v5j29 : Int32) (x31_1j29 : Int32) (A33j29 : Nat → Int32) (m : Nat → Value) (a : Nat → vp_A) (H : Heap) (locs : List Loc) (w_x31_1 : m 3101 = .int x31_1j29) (w_x31_2 : m 3102 = .int t4_86.1) (hoff : ∀ j, nel j [3101, 3102] = false → m j = m0 j) (hsh : SH q m) (w_A33 : a 33 = (10, .inl A33j29)) (hoffa : ∀ j, nel j [33] = false → a j = a0 j) (ls : Array Slot) (hl : lv_has ls 6 [(0, .ref (q 31)), (1, .ref (q kr)), (2, .long p2), (5, .int v5j29)]) (hs1 : fX0_list_J135 F xkr_1 xkr_2 p2 v5j29 x31_1j29 t4_86.1 A33j29 = some X1) (hW : GW D cy (gA N q s.heap.size) N q m a s H) (hS : va_S (gA N q s.heap.size) s.heap H locs), W p l e ({ frames := 3, cells := 0, slots := 0, locals := 68 } : Room) s M args below meth c H locs 0 0 (MQ below (va_Qv (fun (u : (Nat → Value) × (Nat → vp_A)) => u.1 3101 = .int X0.1 ∧ u.1 3102 = .int X0.2.1 ∧ (∀ j, nel j [3101, 3102] = false → u.1 j = m0 j) ∧ u.2 33 = (10, .inl X0.2.2) ∧ (∀ j, nel j [33] = false → u.2 j = a0 j)) (gB D cy N q s.heap.size) (gA N q s.heap.size)) args s 0 0 (gA N q s.heap.size)) (F0 M 135 ls []) := by
          intro v5j29 x31_1j29 A33j29 m a H locs w_x31_1 w_x31_2 hoff hsh w_A33 hoffa ls hl hs1 hW hS
          unfold fX0_list_J135 at hs1
          refine lv_iinc (v := v5j29 + 1) (lv' := [(5, .int (v5j29 + 1)), (0, .ref (q 31)), (1, .ref (q kr)), (2, .long p2)]) hx hb dX0_list_135 hl (k := 3) rfl rfl (by decide) rfl (fun ls hl => ?_)
          refine lv_goto (tgt := 104) hx hb dX0_list_138 (by decide) ?_
          exact ih1 (v5j29 + 1) x31_1j29 A33j29 m a _ _ w_x31_1 w_x31_2 hoff hsh w_A33 hoffa ls (lv_sub hl [1, 2, 3, 0] rfl) (hXr1 _ (Option.some.inj hs1).symm) hW hS
        refine lv_iload hx hb dX0_list_104 (lv_at hl 3 rfl) ?_
        refine lv_aload_n hx hb dX0_list_106 rfl (lv_at hl 1 rfl) ?_
        refine gf7_1 hx hb hG hown hW (o := kr) hkr hgk (v := .int xkr_1) ((off_kr hoff hgk 1 rfl (by decide)).trans h_xkr_1) gx544 dX0_list_107 ?_
        refine lv_icmp_ge (tgt := 141) hx hb dX0_list_110 (by decide) (fun c25 => ?_) (fun c25 => ?_)
        · rw [if_pos c25] at hs1
          exact hE1_141 (x31_1k18, A33k18) (hXl1 _ (Option.some.inj hs1).symm) m a _ _ w_x31_1 w_x31_2 hoff hsh w_A33 hoffa ls (lv_sub hl [] rfl) hW hS
        · rw [if_neg c25] at hs1
          refine lv_lload_n hx hb dX0_list_113 rfl (lv_at hl 2 rfl) ?_
          refine lv_iload hx hb dX0_list_114 (lv_at hl 3 rfl) ?_
          refine g_SiR (n := 1) hx hb hml hown hG hW hS [.int v5k18] (kX7_lettersAt hN v5k18) rfl (gd_S gx560 gx369 gx39 gx370) rfl rfl (by decide) ⟨Nat.le_of_ble_eq_true rfl, Nat.le_of_ble_eq_true rfl⟩ rfl hl (Nat.le_of_ble_eq_true rfl) ⟨Nat.zero_le _, Nat.zero_le _⟩ dX0_list_116 (fun H locs hW hS => ?_)
          refine g_SiR (n := 2) hx hb hml hown hG hW hS [.long p2, .int (fX7_lettersAt v5k18)] (kX7_digit hN p2 (fX7_lettersAt v5k18)) rfl (gd_S gx559 gx320 gx39 gx321) rfl rfl (by decide) ⟨Nat.le_of_ble_eq_true rfl, Nat.le_of_ble_eq_true rfl⟩ rfl hl (Nat.le_of_ble_eq_true rfl) ⟨Nat.zero_le _, Nat.zero_le _⟩ dX0_list_119 (fun H locs hW hS => ?_)
          refine lv_if_le (tgt := 135) hx hb dX0_list_122 (by decide) (fun c28 => ?_) (fun c28 => ?_)
          · rw [if_pos c28] at hs1
            exact hJ135_1 v5k18 x31_1k18 A33k18 m a _ _ w_x31_1 w_x31_2 hoff hsh w_A33 hoffa ls (lv_sub hl [0, 1, 2, 3] rfl) hs1 hW hS
          · rw [if_neg c28] at hs1
            refine lv_aload_n hx hb dX0_list_125 rfl (lv_at hl 0 rfl) ?_
            refine lv_iconst (v := 4) hx hb dX0_list_126 (by decide) ?_
            refine lv_iload hx hb dX0_list_127 (lv_at hl 3 rfl) ?_
            refine lv_iconst (v := 4) hx hb dX0_list_129 (by decide) ?_
            refine lv_ishl hx hb dX0_list_130 ?_
            refine lv_ior hx hb dX0_list_131 ?_
            refine g_Vv (n := 1) hx hb hml hown hG hW hS [.int ((4 : Int32) ||| (v5k18 <<< (4 &&& 31)))] (kX0_add_31 hN hsh w_x31_1 w_A33 ((4 : Int32) ||| (v5k18 <<< (4 &&& 31)))) (ltN hN 31 rfl) gk31 (by decide) rfl rfl (gd_V gx546 gx547 gx548 gx23 gx549) rfl rfl (by decide) ⟨Nat.le_of_ble_eq_true rfl, Nat.le_of_ble_eq_true rfl⟩ rfl hl (Nat.le_of_ble_eq_true rfl) ⟨Nat.zero_le _, Nat.zero_le _⟩ dX0_list_132 (fun m30 a30 H locs hp30 hW hS => ?_)
            obtain ⟨hp30_x31_1, ho30, hp30_A33, hoa30⟩ := hp30
            have w_x31_1 : m30 3101 = .int ((fX0_add x31_1k18 A33k18 ((4 : Int32) ||| (v5k18 <<< (4 &&& 31)))).1) := hp30_x31_1
            have w_x31_2 : m30 3102 = .int t4_86.1 := (ho30 3102 rfl).trans w_x31_2
            have hoff := offm hoff ho30 (by decide +kernel)
            have hsh := SH.off hsh ho30 (by decide +kernel)
            have w_A33 : a30 33 = (10, .inl ((fX0_add x31_1k18 A33k18 ((4 : Int32) ||| (v5k18 <<< (4 &&& 31)))).2)) := hp30_A33
            have hoffa := offm hoffa hoa30 (by decide +kernel)
            exact hJ135_1 v5k18 ((fX0_add x31_1k18 A33k18 ((4 : Int32) ||| (v5k18 <<< (4 &&& 31)))).1) ((fX0_add x31_1k18 A33k18 ((4 : Int32) ||| (v5k18 <<< (4 &&& 31)))).2) m30 a30 _ _ w_x31_1 w_x31_2 hoff hsh w_A33 hoffa ls (lv_sub hl [0, 1, 2, 3] rfl) hs1 hW hS
    exact hL1 F 0 r17.1 r17.2 m17 a17 _ _ w_x31_1 w_x31_2 hoff hsh w_A33 hoffa ls (lv_sub hl [1, 2, 3, 0] rfl) hg18 hW hS
  have hL1 : ∀ (n : Nat) (v5k4 : Int32) (x31_1k4 : Int32) (A33k4 : Nat → Int32) (m : Nat → Value) (a : Nat → vp_A) (H : Heap) (locs : List Loc) (w_x31_1 : m 3101 = .int x31_1k4) (w_x31_2 : m 3102 = .int x31_2) (hoff : ∀ j, nel j [3101, 3102] = false → m j = m0 j) (hsh : SH q m) (w_A33 : a 33 = (10, .inl A33k4)) (hoffa : ∀ j, nel j [33] = false → a j = a0 j) (ls : Array Slot) (hl : lv_has ls 6 [(0, .ref (q 31)), (1, .ref (q kr)), (2, .long p2), (4, .int p4), (5, .int v5k4)]) (hg4 : gloop (fun u4 : (Int32 × Int32 × (Nat → Int32)) => fX0_list_S20 F xkr_1 xkr_2 p2 p4 x31_2 u4.1 u4.2.1 u4.2.2) n (v5k4, x31_1k4, A33k4) = some r4) (hW : GW D cy (gA N q s.heap.size) N q m a s H) (hS : va_S (gA N q s.heap.size) s.heap H locs), W p l e ({ frames := 3, cells := 0, slots := 0, locals := 68 } : Room) s M args below meth c H locs 0 0 (MQ below (va_Qv (fun (u : (Nat → Value) × (Nat → vp_A)) => u.1 3101 = .int X0.1 ∧ u.1 3102 = .int X0.2.1 ∧ (∀ j, nel j [3101, 3102] = false → u.1 j = m0 j) ∧ u.2 33 = (10, .inl X0.2.2) ∧ (∀ j, nel j [33] = false → u.2 j = a0 j)) (gB D cy N q s.heap.size) (gA N q s.heap.size)) args s 0 0 (gA N q s.heap.size)) (F0 M 20 ls []) := by
    intro n
    induction n with
    | zero => intro v5k4 x31_1k4 A33k4 m a H locs w_x31_1 w_x31_2 hoff hsh w_A33 hoffa ls hl hg4 hW hS; exact (gl_zero hg4).elim
    | succ n ih1 =>
      intro v5k4 x31_1k4 A33k4 m a H locs w_x31_1 w_x31_2 hoff hsh w_A33 hoffa ls hl hg4 hW hS
      obtain ⟨X1, hs1, hXl1, hXr1⟩ := gl_succ hg4
      have hs1 : fX0_list_S20 F xkr_1 xkr_2 p2 p4 x31_2 v5k4 x31_1k4 A33k4 = some X1 := hs1
      unfold fX0_list_S20 at hs1
      have hJ80_1 : ∀ (v5j35 : Int32) (x31_1j35 : Int32) (A33j35 : Nat → Int32) (m : Nat → Value) (a : Nat → vp_A) (H : Heap) (locs : List Loc) (w_x31_1 : m 3101 = .int x31_1j35) (w_x31_2 : m 3102 = .int x31_2) (hoff : ∀ j, nel j [3101, 3102] = false → m j = m0 j) (hsh : SH q m) (w_A33 : a 33 = (10, .inl A33j35)) (hoffa : ∀ j, nel j [33] = false → a j = a0 j) (ls : Array Slot) (hl : lv_has ls 6 [(0, .ref (q 31)), (1, .ref (q kr)), (2, .long p2), (4, .int p4), (5, .int v5j35)]) (hs1 : fX0_list_J80 F xkr_1 xkr_2 p2 p4 v5j35 x31_1j35 x31_2 A33j35 = some X1) (hW : GW D cy (gA N q s.heap.size) N q m a s H) (hS : va_S (gA N q s.heap.size) s.heap H locs), W p l e ({ frames := 3, cells := 0, slots := 0, locals := 68 } : Room) s M args below meth c H locs 0 0 (MQ below (va_Qv (fun (u : (Nat → Value) × (Nat → vp_A)) => u.1 3101 = .int X0.1 ∧ u.1 3102 = .int X0.2.1 ∧ (∀ j, nel j [3101, 3102] = false → u.1 j = m0 j) ∧ u.2 33 = (10, .inl X0.2.2) ∧ (∀ j, nel j [33] = false → u.2 j = a0 j)) (gB D cy N q s.heap.size) (gA N q s.heap.size)) args s 0 0 (gA N q s.heap.size)) (F0 M 80 ls []) := by
        intro v5j35 x31_1j35 A33j35 m a H locs w_x31_1 w_x31_2 hoff hsh w_A33 hoffa ls hl hs1 hW hS
        unfold fX0_list_J80 at hs1
        refine lv_iinc (v := v5j35 + 1) (lv' := [(5, .int (v5j35 + 1)), (0, .ref (q 31)), (1, .ref (q kr)), (2, .long p2), (4, .int p4)]) hx hb dX0_list_80 hl (k := 4) rfl rfl (by decide) rfl (fun ls hl => ?_)
        refine lv_goto (tgt := 20) hx hb dX0_list_83 (by decide) ?_
        exact ih1 (v5j35 + 1) x31_1j35 A33j35 m a _ _ w_x31_1 w_x31_2 hoff hsh w_A33 hoffa ls (lv_sub hl [1, 2, 3, 4, 0] rfl) (hXr1 _ (Option.some.inj hs1).symm) hW hS
      refine lv_iload hx hb dX0_list_20 (lv_at hl 4 rfl) ?_
      refine lv_aload_n hx hb dX0_list_22 rfl (lv_at hl 1 rfl) ?_
      refine gf7_1 hx hb hG hown hW (o := kr) hkr hgk (v := .int xkr_1) ((off_kr hoff hgk 1 rfl (by decide)).trans h_xkr_1) gx544 dX0_list_23 ?_
      refine lv_icmp_ge (tgt := 86) hx hb dX0_list_26 (by decide) (fun c31 => ?_) (fun c31 => ?_)
      · rw [if_pos c31] at hs1
        exact hE1_86 (x31_1k4, A33k4) (hXl1 _ (Option.some.inj hs1).symm) m a _ _ w_x31_1 w_x31_2 hoff hsh w_A33 hoffa ls (lv_sub hl [0, 1, 2] rfl) hW hS
      · rw [if_neg c31] at hs1
        refine lv_lload_n hx hb dX0_list_29 rfl (lv_at hl 2 rfl) ?_
        refine lv_iload hx hb dX0_list_30 (lv_at hl 4 rfl) ?_
        refine g_SiR (n := 1) hx hb hml hown hG hW hS [.int v5k4] (kX7_lettersAt hN v5k4) rfl (gd_S gx560 gx369 gx39 gx370) rfl rfl (by decide) ⟨Nat.le_of_ble_eq_true rfl, Nat.le_of_ble_eq_true rfl⟩ rfl hl (Nat.le_of_ble_eq_true rfl) ⟨Nat.zero_le _, Nat.zero_le _⟩ dX0_list_32 (fun H locs hW hS => ?_)
        refine g_SiR (n := 2) hx hb hml hown hG hW hS [.long p2, .int (fX7_lettersAt v5k4)] (kX7_digit hN p2 (fX7_lettersAt v5k4)) rfl (gd_S gx559 gx320 gx39 gx321) rfl rfl (by decide) ⟨Nat.le_of_ble_eq_true rfl, Nat.le_of_ble_eq_true rfl⟩ rfl hl (Nat.le_of_ble_eq_true rfl) ⟨Nat.zero_le _, Nat.zero_le _⟩ dX0_list_35 (fun H locs hW hS => ?_)
        refine lv_if_le (tgt := 80) hx hb dX0_list_38 (by decide) (fun c34 => ?_) (fun c34 => ?_)
        · rw [if_pos c34] at hs1
          exact hJ80_1 v5k4 x31_1k4 A33k4 m a _ _ w_x31_1 w_x31_2 hoff hsh w_A33 hoffa ls (lv_sub hl [0, 1, 2, 3, 4] rfl) hs1 hW hS
        · rw [if_neg c34] at hs1
          refine lv_aload_n hx hb dX0_list_41 rfl (lv_at hl 0 rfl) ?_
          refine lv_iconst (v := 2) hx hb dX0_list_42 (by decide) ?_
          refine lv_iload hx hb dX0_list_43 (lv_at hl 4 rfl) ?_
          refine lv_iconst (v := 4) hx hb dX0_list_45 (by decide) ?_
          refine lv_ishl hx hb dX0_list_46 ?_
          refine lv_ior hx hb dX0_list_47 ?_
          refine g_Vv (n := 1) hx hb hml hown hG hW hS [.int ((2 : Int32) ||| (v5k4 <<< (4 &&& 31)))] (kX0_add_31 hN hsh w_x31_1 w_A33 ((2 : Int32) ||| (v5k4 <<< (4 &&& 31)))) (ltN hN 31 rfl) gk31 (by decide) rfl rfl (gd_V gx546 gx547 gx548 gx23 gx549) rfl rfl (by decide) ⟨Nat.le_of_ble_eq_true rfl, Nat.le_of_ble_eq_true rfl⟩ rfl hl (Nat.le_of_ble_eq_true rfl) ⟨Nat.zero_le _, Nat.zero_le _⟩ dX0_list_48 (fun m36 a36 H locs hp36 hW hS => ?_)
          obtain ⟨hp36_x31_1, ho36, hp36_A33, hoa36⟩ := hp36
          have w_x31_1 : m36 3101 = .int ((fX0_add x31_1k4 A33k4 ((2 : Int32) ||| (v5k4 <<< (4 &&& 31)))).1) := hp36_x31_1
          have w_x31_2 : m36 3102 = .int x31_2 := (ho36 3102 rfl).trans w_x31_2
          have hoff := offm hoff ho36 (by decide +kernel)
          have hsh := SH.off hsh ho36 (by decide +kernel)
          have w_A33 : a36 33 = (10, .inl ((fX0_add x31_1k4 A33k4 ((2 : Int32) ||| (v5k4 <<< (4 &&& 31)))).2)) := hp36_A33
          have hoffa := offm hoffa hoa36 (by decide +kernel)
          refine lv_iload hx hb dX0_list_51 (lv_at hl 3 rfl) ?_
          refine lv_if_eq (tgt := 80) hx hb dX0_list_53 (by decide) (fun c37 => ?_) (fun c37 => ?_)
          · rw [if_pos c37] at hs1
            exact hJ80_1 v5k4 ((fX0_add x31_1k4 A33k4 ((2 : Int32) ||| (v5k4 <<< (4 &&& 31)))).1) ((fX0_add x31_1k4 A33k4 ((2 : Int32) ||| (v5k4 <<< (4 &&& 31)))).2) m36 a36 _ _ w_x31_1 w_x31_2 hoff hsh w_A33 hoffa ls (lv_sub hl [0, 1, 2, 3, 4] rfl) hs1 hW hS
          · rw [if_neg c37] at hs1
            refine lv_aload_n hx hb dX0_list_56 rfl (lv_at hl 1 rfl) ?_
            refine lv_lload_n hx hb dX0_list_57 rfl (lv_at hl 2 rfl) ?_
            refine lv_iload hx hb dX0_list_58 (lv_at hl 4 rfl) ?_
            refine g_ViR (n := 2) hx hb hml hown hG hW hS [.long p2, .int v5k4] (kX7_goesOnBy hN hkr hgk ((off_kr hoff hgk 2 rfl (by decide)).trans h_xkr_2) p2 v5k4) hkr hgk (by decide) rfl rfl (gd_V gx561 gx471 gx472 gx39 gx473) rfl rfl (by decide) ⟨Nat.le_of_ble_eq_true rfl, Nat.le_of_ble_eq_true rfl⟩ rfl hl (Nat.le_of_ble_eq_true rfl) ⟨Nat.zero_le _, Nat.zero_le _⟩ dX0_list_60 (fun H locs hW hS => ?_)
            refine lv_if_eq (tgt := 80) hx hb dX0_list_63 (by decide) (fun c39 => ?_) (fun c39 => ?_)
            · rw [if_pos c39] at hs1
              exact hJ80_1 v5k4 ((fX0_add x31_1k4 A33k4 ((2 : Int32) ||| (v5k4 <<< (4 &&& 31)))).1) ((fX0_add x31_1k4 A33k4 ((2 : Int32) ||| (v5k4 <<< (4 &&& 31)))).2) m36 a36 _ _ w_x31_1 w_x31_2 hoff hsh w_A33 hoffa ls (lv_sub hl [0, 1, 2, 3, 4] rfl) hs1 hW hS
            · rw [if_neg c39] at hs1
              refine lv_aload_n hx hb dX0_list_66 rfl (lv_at hl 0 rfl) ?_
              refine lv_iconst (v := 2) hx hb dX0_list_67 (by decide) ?_
              refine lv_iload hx hb dX0_list_68 (lv_at hl 4 rfl) ?_
              refine lv_iconst (v := 4) hx hb dX0_list_70 (by decide) ?_
              refine lv_ishl hx hb dX0_list_71 ?_
              refine lv_ior hx hb dX0_list_72 ?_
              refine lv_iconst (v := 1) hx hb dX0_list_73 (by decide) ?_
              refine g_SiR (n := 2) hx hb hml hown hG hW hS [.int ((2 : Int32) ||| (v5k4 <<< (4 &&& 31))), .int 1] (kX0_withTold hN ((2 : Int32) ||| (v5k4 <<< (4 &&& 31))) 1) rfl (gd_S gx562 gx420 gx23 gx421) rfl rfl (by decide) ⟨Nat.le_of_ble_eq_true rfl, Nat.le_of_ble_eq_true rfl⟩ rfl hl (Nat.le_of_ble_eq_true rfl) ⟨Nat.zero_le _, Nat.zero_le _⟩ dX0_list_74 (fun H locs hW hS => ?_)
              refine g_Vv (n := 1) hx hb hml hown hG hW hS [.int (fX0_withTold ((2 : Int32) ||| (v5k4 <<< (4 &&& 31))) 1)] (kX0_add_31 hN hsh w_x31_1 w_A33 (fX0_withTold ((2 : Int32) ||| (v5k4 <<< (4 &&& 31))) 1)) (ltN hN 31 rfl) gk31 (by decide) rfl rfl (gd_V gx546 gx547 gx548 gx23 gx549) rfl rfl (by decide) ⟨Nat.le_of_ble_eq_true rfl, Nat.le_of_ble_eq_true rfl⟩ rfl hl (Nat.le_of_ble_eq_true rfl) ⟨Nat.zero_le _, Nat.zero_le _⟩ dX0_list_77 (fun m41 a41 H locs hp41 hW hS => ?_)
              obtain ⟨hp41_x31_1, ho41, hp41_A33, hoa41⟩ := hp41
              have w_x31_1 : m41 3101 = .int ((fX0_add ((fX0_add x31_1k4 A33k4 ((2 : Int32) ||| (v5k4 <<< (4 &&& 31)))).1) ((fX0_add x31_1k4 A33k4 ((2 : Int32) ||| (v5k4 <<< (4 &&& 31)))).2) (fX0_withTold ((2 : Int32) ||| (v5k4 <<< (4 &&& 31))) 1)).1) := hp41_x31_1
              have w_x31_2 : m41 3102 = .int x31_2 := (ho41 3102 rfl).trans w_x31_2
              have hoff := offm hoff ho41 (by decide +kernel)
              have hsh := SH.off hsh ho41 (by decide +kernel)
              have w_A33 : a41 33 = (10, .inl ((fX0_add ((fX0_add x31_1k4 A33k4 ((2 : Int32) ||| (v5k4 <<< (4 &&& 31)))).1) ((fX0_add x31_1k4 A33k4 ((2 : Int32) ||| (v5k4 <<< (4 &&& 31)))).2) (fX0_withTold ((2 : Int32) ||| (v5k4 <<< (4 &&& 31))) 1)).2)) := hp41_A33
              have hoffa := offm hoffa hoa41 (by decide +kernel)
              exact hJ80_1 v5k4 ((fX0_add ((fX0_add x31_1k4 A33k4 ((2 : Int32) ||| (v5k4 <<< (4 &&& 31)))).1) ((fX0_add x31_1k4 A33k4 ((2 : Int32) ||| (v5k4 <<< (4 &&& 31)))).2) (fX0_withTold ((2 : Int32) ||| (v5k4 <<< (4 &&& 31))) 1)).1) ((fX0_add ((fX0_add x31_1k4 A33k4 ((2 : Int32) ||| (v5k4 <<< (4 &&& 31)))).1) ((fX0_add x31_1k4 A33k4 ((2 : Int32) ||| (v5k4 <<< (4 &&& 31)))).2) (fX0_withTold ((2 : Int32) ||| (v5k4 <<< (4 &&& 31))) 1)).2) m41 a41 _ _ w_x31_1 w_x31_2 hoff hsh w_A33 hoffa ls (lv_sub hl [0, 1, 2, 3, 4] rfl) hs1 hW hS
  exact hL1 F 0 r3.1 r3.2 m3 a3 _ _ w_x31_1 w_x31_2 hoff hsh w_A33 hoffa ls (lv_sub hl [1, 2, 3, 4, 0] rfl) hg4 hW hS
