/-! 22.model (by program): the pure function of each method, its rows, its contract -/
-- HealLinkModel.numberOf (J)I
def fX12_numberOf_S5 (F : Nat) (A79 : Nat → Int64) (A80 : Nat → Int32) (v1 : Int64) (v3 : Int32) : Option (((Int32) ⊕ (Unit)) ⊕ (Int32)) := (if inb v3 16384 = true then (if (A80 v3.toNatClampNeg) ≤ 0 then some (Sum.inl (Sum.inr (()))) else (if inb v3 16384 = true then (if inb ((A80 v3.toNatClampNeg) - 1) 6001 = true then (if (lg_cmp (A79 ((A80 v3.toNatClampNeg) - 1).toNatClampNeg) v1) = 0 then some (Sum.inl (Sum.inl v3)) else some (Sum.inr ((v3 + 1) - (v3 + 1) / 16384 * 16384))) else none) else none)) else none)
def fX12_numberOf (F : Nat) (A79 : Nat → Int64) (A80 : Nat → Int32) (p1 : Int64) : Option (Int32) := (gloop (fun u2 : Int32 => fX12_numberOf_S5 F A79 A80 p1 u2) F (fX12_slotOf p1)).bind (Sum.elim (fun t2_32 => (if inb t2_32 16384 = true then some ((A80 t2_32.toNatClampNeg) - 1) else none)) (fun t2_52 => some (-1)))
theorem dX12_numberOf_0 : decode cX12_numberOf 0 = .ok (.lload_n 1, 1) := by decide +kernel
theorem dX12_numberOf_1 : decode cX12_numberOf 1 = .ok (.invokestatic 252, 3) := by decide +kernel
theorem dX12_numberOf_4 : decode cX12_numberOf 4 = .ok (.istore_n 3, 1) := by decide +kernel
theorem dX12_numberOf_5 : decode cX12_numberOf 5 = .ok (.aload_n 0, 1) := by decide +kernel
theorem dX12_numberOf_6 : decode cX12_numberOf 6 = .ok (.getfield 54, 3) := by decide +kernel
theorem dX12_numberOf_9 : decode cX12_numberOf 9 = .ok (.iload_n 3, 1) := by decide +kernel
theorem dX12_numberOf_10 : decode cX12_numberOf 10 = .ok (.iaload, 1) := by decide +kernel
theorem dX12_numberOf_11 : decode cX12_numberOf 11 = .ok (.ifCond .le 41, 3) := by decide +kernel
theorem dX12_numberOf_14 : decode cX12_numberOf 14 = .ok (.aload_n 0, 1) := by decide +kernel
theorem dX12_numberOf_15 : decode cX12_numberOf 15 = .ok (.getfield 50, 3) := by decide +kernel
theorem dX12_numberOf_18 : decode cX12_numberOf 18 = .ok (.aload_n 0, 1) := by decide +kernel
theorem dX12_numberOf_19 : decode cX12_numberOf 19 = .ok (.getfield 54, 3) := by decide +kernel
theorem dX12_numberOf_22 : decode cX12_numberOf 22 = .ok (.iload_n 3, 1) := by decide +kernel
theorem dX12_numberOf_23 : decode cX12_numberOf 23 = .ok (.iaload, 1) := by decide +kernel
theorem dX12_numberOf_24 : decode cX12_numberOf 24 = .ok (.iconst 1, 1) := by decide +kernel
theorem dX12_numberOf_25 : decode cX12_numberOf 25 = .ok (.isub, 1) := by decide +kernel
theorem dX12_numberOf_26 : decode cX12_numberOf 26 = .ok (.laload, 1) := by decide +kernel
theorem dX12_numberOf_27 : decode cX12_numberOf 27 = .ok (.lload_n 1, 1) := by decide +kernel
theorem dX12_numberOf_28 : decode cX12_numberOf 28 = .ok (.lcmp, 1) := by decide +kernel
theorem dX12_numberOf_29 : decode cX12_numberOf 29 = .ok (.ifCond .ne 12, 3) := by decide +kernel
theorem dX12_numberOf_32 : decode cX12_numberOf 32 = .ok (.aload_n 0, 1) := by decide +kernel
theorem dX12_numberOf_33 : decode cX12_numberOf 33 = .ok (.getfield 54, 3) := by decide +kernel
theorem dX12_numberOf_36 : decode cX12_numberOf 36 = .ok (.iload_n 3, 1) := by decide +kernel
theorem dX12_numberOf_37 : decode cX12_numberOf 37 = .ok (.iaload, 1) := by decide +kernel
theorem dX12_numberOf_38 : decode cX12_numberOf 38 = .ok (.iconst 1, 1) := by decide +kernel
theorem dX12_numberOf_39 : decode cX12_numberOf 39 = .ok (.isub, 1) := by decide +kernel
theorem dX12_numberOf_40 : decode cX12_numberOf 40 = .ok (.ireturn, 1) := by decide +kernel
theorem dX12_numberOf_41 : decode cX12_numberOf 41 = .ok (.iload_n 3, 1) := by decide +kernel
theorem dX12_numberOf_42 : decode cX12_numberOf 42 = .ok (.iconst 1, 1) := by decide +kernel
theorem dX12_numberOf_43 : decode cX12_numberOf 43 = .ok (.iadd, 1) := by decide +kernel
theorem dX12_numberOf_44 : decode cX12_numberOf 44 = .ok (.sipush 16384, 3) := by decide +kernel
theorem dX12_numberOf_47 : decode cX12_numberOf 47 = .ok (.irem, 1) := by decide +kernel
theorem dX12_numberOf_48 : decode cX12_numberOf 48 = .ok (.istore_n 3, 1) := by decide +kernel
theorem dX12_numberOf_49 : decode cX12_numberOf 49 = .ok (.goto (-44), 3) := by decide +kernel
theorem dX12_numberOf_52 : decode cX12_numberOf 52 = .ok (.iconst (-1), 1) := by decide +kernel
theorem dX12_numberOf_53 : decode cX12_numberOf 53 = .ok (.ireturn, 1) := by decide +kernel
set_option maxHeartbeats 4000000 in
set_option maxRecDepth 100000 in
theorem kX12_numberOf {l : Launch} {D : va_G} {cy : Nat → ClassId} {N : Nat} {q : Nat → Nat} {m0 : Nat → Value} {a0 : Nat → vp_A} {sz : Nat} (hN : 105 ≤ N) (hsh : SH q m0) {A79 : Nat → Int64} (h_A79 : a0 79 = (6001, .inr (.inl A79))) {A80 : Nat → Int32} (h_A80 : a0 80 = (16384, .inl A80)) (F : Nat) (p1 : Int64) {X0 : Int32} (hs0 : fX12_numberOf F A79 A80 p1 = some X0) : gMi l yX12_numberOf cX12_numberOf 4 (some .int) ({ frames := 1, cells := 0, slots := 0, locals := 23 } : Room) D cy N q m0 a0 sz [.ref (q 69), .long p1] (fun r m' a' => r = X0 ∧ m' = m0 ∧ a' = a0) := by
  refine g_ofi (by decide) (Nat.le_of_ble_eq_true rfl) ?_
  intro p e s M args below meth c hx hb hr hG hown hin hlocks hml hW hS ls hl
  unfold fX12_numberOf at hs0
  refine lv_lload_n hx hb dX12_numberOf_0 rfl (lv_at hl 1 rfl) ?_
  refine g_SiR (n := 1) hx hb hml hown hG hW hS [.long p1] (kX12_slotOf hN p1) rfl (gd_S gx727 gx728 gx5 gx729) rfl rfl (by decide) ⟨Nat.le_of_ble_eq_true rfl, Nat.le_of_ble_eq_true rfl⟩ rfl hl (Nat.le_of_ble_eq_true rfl) ⟨Nat.zero_le _, Nat.zero_le _⟩ dX12_numberOf_1 (fun H locs hW hS => ?_)
  refine lv_istore_n (lv' := [(3, .int (fX12_slotOf p1)), (0, .ref (q 69)), (1, .long p1)]) hx hb dX12_numberOf_4 rfl hl (by decide) rfl (fun ls hl => ?_)
  obtain ⟨r2, hg2, hs0⟩ := obind hs0
  have hE1_32 : ∀ (t2_32 : Int32) (hr2 : Sum.inl t2_32 = r2) (H : Heap) (locs : List Loc) (ls : Array Slot) (hl : lv_has ls 4 [(0, .ref (q 69)), (3, .int t2_32)]) (hW : GW D cy (gA N q s.heap.size) N q m0 a0 s H) (hS : va_S (gA N q s.heap.size) s.heap H locs), W p l e ({ frames := 1, cells := 0, slots := 0, locals := 23 } : Room) s M args below meth c H locs 0 0 (MQ below (va_Qi (fun (r : Int32) (u : (Nat → Value) × (Nat → vp_A)) => r = X0 ∧ u.1 = m0 ∧ u.2 = a0) (gB D cy N q s.heap.size) (gA N q s.heap.size)) args s 0 0 (gA N q s.heap.size)) (F0 M 32 ls []) := by
    intro t2_32 hr2 H locs ls hl hW hS
    subst hr2
    have hs0 := osum_l hs0
    refine lv_aload_n hx hb dX12_numberOf_32 rfl (lv_at hl 0 rfl) ?_
    refine gf12_28 hx hb hG hown hW (o := 69) (ltN hN 69 rfl) gk69 (v := .ref (q 80)) (sh69_28 hsh) gx176 dX12_numberOf_33 ?_
    refine lv_iload_n hx hb dX12_numberOf_36 rfl (lv_at hl 1 rfl) ?_
    obtain ⟨hi9, hs0⟩ := oif hs0
    refine g_iald hx hb hW (o := 80) (ltN hN 80 rfl) gk80 h_A80 (vin hi9) dX12_numberOf_37 ?_
    refine lv_iconst (v := 1) hx hb dX12_numberOf_38 (by decide) ?_
    refine lv_isub hx hb dX12_numberOf_39 ?_
    have hs0 := Option.some.inj hs0
    subst hs0
    exact W.zret hx hb hr rfl (fun t ht hw => ⟨⟨_, (m0, a0), rfl, ⟨rfl, rfl, rfl⟩, g_end hW ht hw⟩, hS.F ht⟩) hS.2.2 dX12_numberOf_40 hlocks
  have hE1_52 : ∀ (t2_52 : Unit) (hr2 : Sum.inr (t2_52) = r2) (H : Heap) (locs : List Loc) (ls : Array Slot) (hl : lv_has ls 4 []) (hW : GW D cy (gA N q s.heap.size) N q m0 a0 s H) (hS : va_S (gA N q s.heap.size) s.heap H locs), W p l e ({ frames := 1, cells := 0, slots := 0, locals := 23 } : Room) s M args below meth c H locs 0 0 (MQ below (va_Qi (fun (r : Int32) (u : (Nat → Value) × (Nat → vp_A)) => r = X0 ∧ u.1 = m0 ∧ u.2 = a0) (gB D cy N q s.heap.size) (gA N q s.heap.size)) args s 0 0 (gA N q s.heap.size)) (F0 M 52 ls []) := by
    intro t2_52 hr2 H locs ls hl hW hS
    subst hr2
    have hs0 := osum_r hs0
    refine lv_iconst (v := (-1)) hx hb dX12_numberOf_52 (by decide) ?_
    have hs0 := Option.some.inj hs0
    subst hs0
    exact W.zret hx hb hr rfl (fun t ht hw => ⟨⟨_, (m0, a0), rfl, ⟨rfl, rfl, rfl⟩, g_end hW ht hw⟩, hS.F ht⟩) hS.2.2 dX12_numberOf_53 hlocks
  have hL1 : ∀ (n : Nat) (v3k2 : Int32) (H : Heap) (locs : List Loc) (ls : Array Slot) (hl : lv_has ls 4 [(0, .ref (q 69)), (1, .long p1), (3, .int v3k2)]) (hg2 : gloop (fun u2 : Int32 => fX12_numberOf_S5 F A79 A80 p1 u2) n v3k2 = some r2) (hW : GW D cy (gA N q s.heap.size) N q m0 a0 s H) (hS : va_S (gA N q s.heap.size) s.heap H locs), W p l e ({ frames := 1, cells := 0, slots := 0, locals := 23 } : Room) s M args below meth c H locs 0 0 (MQ below (va_Qi (fun (r : Int32) (u : (Nat → Value) × (Nat → vp_A)) => r = X0 ∧ u.1 = m0 ∧ u.2 = a0) (gB D cy N q s.heap.size) (gA N q s.heap.size)) args s 0 0 (gA N q s.heap.size)) (F0 M 5 ls []) := by
    intro n
    induction n with
    | zero => intro v3k2 H locs ls hl hg2 hW hS; exact (gl_zero hg2).elim
    | succ n ih1 =>
      intro v3k2 H locs ls hl hg2 hW hS
      obtain ⟨X1, hs1, hXl1, hXr1⟩ := gl_succ hg2
      have hs1 : fX12_numberOf_S5 F A79 A80 p1 v3k2 = some X1 := hs1
      unfold fX12_numberOf_S5 at hs1
      refine lv_aload_n hx hb dX12_numberOf_5 rfl (lv_at hl 0 rfl) ?_
      refine gf12_28 hx hb hG hown hW (o := 69) (ltN hN 69 rfl) gk69 (v := .ref (q 80)) (sh69_28 hsh) gx176 dX12_numberOf_6 ?_
      refine lv_iload_n hx hb dX12_numberOf_9 rfl (lv_at hl 2 rfl) ?_
      obtain ⟨hi10, hs1⟩ := oif hs1
      refine g_iald hx hb hW (o := 80) (ltN hN 80 rfl) gk80 h_A80 (vin hi10) dX12_numberOf_10 ?_
      refine lv_if_le (tgt := 52) hx hb dX12_numberOf_11 (by decide) (fun c11 => ?_) (fun c11 => ?_)
      · rw [if_pos c11] at hs1
        exact hE1_52 () (hXl1 _ (Option.some.inj hs1).symm) _ _ ls (lv_sub hl [] rfl) hW hS
      · rw [if_neg c11] at hs1
        refine lv_aload_n hx hb dX12_numberOf_14 rfl (lv_at hl 0 rfl) ?_
        refine gf12_26 hx hb hG hown hW (o := 69) (ltN hN 69 rfl) gk69 (v := .ref (q 79)) (sh69_26 hsh) gx175 dX12_numberOf_15 ?_
        refine lv_aload_n hx hb dX12_numberOf_18 rfl (lv_at hl 0 rfl) ?_
        refine gf12_28 hx hb hG hown hW (o := 69) (ltN hN 69 rfl) gk69 (v := .ref (q 80)) (sh69_28 hsh) gx176 dX12_numberOf_19 ?_
        refine lv_iload_n hx hb dX12_numberOf_22 rfl (lv_at hl 2 rfl) ?_
        obtain ⟨hi12, hs1⟩ := oif hs1
        refine g_iald hx hb hW (o := 80) (ltN hN 80 rfl) gk80 h_A80 (vin hi12) dX12_numberOf_23 ?_
        refine lv_iconst (v := 1) hx hb dX12_numberOf_24 (by decide) ?_
        refine lv_isub hx hb dX12_numberOf_25 ?_
        obtain ⟨hi13, hs1⟩ := oif hs1
        refine g_lald hx hb hW (o := 79) (ltN hN 79 rfl) gk79 h_A79 (vin hi13) dX12_numberOf_26 ?_
        refine lv_lload_n hx hb dX12_numberOf_27 rfl (lv_at hl 1 rfl) ?_
        refine W.lcmp hx hb dX12_numberOf_28 ?_
        refine lv_if_ne (tgt := 41) hx hb dX12_numberOf_29 (by decide) (fun c14 => ?_) (fun c14 => ?_)
        · rw [if_neg c14] at hs1
          refine lv_iload_n hx hb dX12_numberOf_41 rfl (lv_at hl 2 rfl) ?_
          refine lv_iconst (v := 1) hx hb dX12_numberOf_42 (by decide) ?_
          refine lv_iadd hx hb dX12_numberOf_43 ?_
          refine lv_sipush (v := 16384) hx hb dX12_numberOf_44 (by decide) ?_
          refine lv_irem hx hb dX12_numberOf_47 (by decide) ?_
          refine lv_istore_n (lv' := [(3, .int ((v3k2 + 1) - (v3k2 + 1) / 16384 * 16384)), (0, .ref (q 69)), (1, .long p1)]) hx hb dX12_numberOf_48 rfl hl (by decide) rfl (fun ls hl => ?_)
          refine lv_goto (tgt := 5) hx hb dX12_numberOf_49 (by decide) ?_
          exact ih1 ((v3k2 + 1) - (v3k2 + 1) / 16384 * 16384) _ _ ls (lv_sub hl [1, 2, 0] rfl) (hXr1 _ (Option.some.inj hs1).symm) hW hS
        · rw [if_pos c14] at hs1
          exact hE1_32 v3k2 (hXl1 _ (Option.some.inj hs1).symm) _ _ ls (lv_sub hl [0, 2] rfl) hW hS
  exact hL1 F (fX12_slotOf p1) _ _ ls (lv_sub hl [1, 2, 0] rfl) hg2 hW hS
-- HealLinkModel.comes (J)V
def fX12_comes_S5 (F : Nat) (v1 : Int64) (x69_27 : Int32) (A79 : Nat → Int64) (A80 : Nat → Int32) (v3 : Int32) : Option ((Int32) ⊕ (Int32)) := (if inb v3 16384 = true then (if (A80 v3.toNatClampNeg) ≤ 0 then some (Sum.inl v3) else some (Sum.inr ((v3 + 1) - (v3 + 1) / 16384 * 16384))) else none)
def fX12_comes (F : Nat) (x69_27 : Int32) (A79 : Nat → Int64) (A80 : Nat → Int32) (p1 : Int64) : Option (Int32 × (Nat → Int64) × (Nat → Int32)) := (gloop (fun u2 : Int32 => fX12_comes_S5 F p1 x69_27 A79 A80 u2) F (fX12_slotOf p1)).bind (fun t2_25 => (if inb x69_27 6001 = true then (if inb t2_25 16384 = true then some (x69_27 + 1, vp_updL A79 x69_27.toNatClampNeg p1, upd A80 t2_25.toNatClampNeg (x69_27 + 1)) else none) else none))
theorem dX12_comes_0 : decode cX12_comes 0 = .ok (.lload_n 1, 1) := by decide +kernel
theorem dX12_comes_1 : decode cX12_comes 1 = .ok (.invokestatic 252, 3) := by decide +kernel
theorem dX12_comes_4 : decode cX12_comes 4 = .ok (.istore_n 3, 1) := by decide +kernel
theorem dX12_comes_5 : decode cX12_comes 5 = .ok (.aload_n 0, 1) := by decide +kernel
theorem dX12_comes_6 : decode cX12_comes 6 = .ok (.getfield 54, 3) := by decide +kernel
theorem dX12_comes_9 : decode cX12_comes 9 = .ok (.iload_n 3, 1) := by decide +kernel
theorem dX12_comes_10 : decode cX12_comes 10 = .ok (.iaload, 1) := by decide +kernel
theorem dX12_comes_11 : decode cX12_comes 11 = .ok (.ifCond .le 14, 3) := by decide +kernel
theorem dX12_comes_14 : decode cX12_comes 14 = .ok (.iload_n 3, 1) := by decide +kernel
theorem dX12_comes_15 : decode cX12_comes 15 = .ok (.iconst 1, 1) := by decide +kernel
theorem dX12_comes_16 : decode cX12_comes 16 = .ok (.iadd, 1) := by decide +kernel
theorem dX12_comes_17 : decode cX12_comes 17 = .ok (.sipush 16384, 3) := by decide +kernel
theorem dX12_comes_20 : decode cX12_comes 20 = .ok (.irem, 1) := by decide +kernel
theorem dX12_comes_21 : decode cX12_comes 21 = .ok (.istore_n 3, 1) := by decide +kernel
theorem dX12_comes_22 : decode cX12_comes 22 = .ok (.goto (-17), 3) := by decide +kernel
theorem dX12_comes_25 : decode cX12_comes 25 = .ok (.aload_n 0, 1) := by decide +kernel
theorem dX12_comes_26 : decode cX12_comes 26 = .ok (.getfield 50, 3) := by decide +kernel
theorem dX12_comes_29 : decode cX12_comes 29 = .ok (.aload_n 0, 1) := by decide +kernel
theorem dX12_comes_30 : decode cX12_comes 30 = .ok (.getfield 255, 3) := by decide +kernel
theorem dX12_comes_33 : decode cX12_comes 33 = .ok (.lload_n 1, 1) := by decide +kernel
theorem dX12_comes_34 : decode cX12_comes 34 = .ok (.lastore, 1) := by decide +kernel
theorem dX12_comes_35 : decode cX12_comes 35 = .ok (.aload_n 0, 1) := by decide +kernel
theorem dX12_comes_36 : decode cX12_comes 36 = .ok (.dup, 1) := by decide +kernel
theorem dX12_comes_37 : decode cX12_comes 37 = .ok (.getfield 255, 3) := by decide +kernel
theorem dX12_comes_40 : decode cX12_comes 40 = .ok (.iconst 1, 1) := by decide +kernel
theorem dX12_comes_41 : decode cX12_comes 41 = .ok (.iadd, 1) := by decide +kernel
theorem dX12_comes_42 : decode cX12_comes 42 = .ok (.putfield 255, 3) := by decide +kernel
theorem dX12_comes_45 : decode cX12_comes 45 = .ok (.aload_n 0, 1) := by decide +kernel
theorem dX12_comes_46 : decode cX12_comes 46 = .ok (.getfield 54, 3) := by decide +kernel
theorem dX12_comes_49 : decode cX12_comes 49 = .ok (.iload_n 3, 1) := by decide +kernel
theorem dX12_comes_50 : decode cX12_comes 50 = .ok (.aload_n 0, 1) := by decide +kernel
theorem dX12_comes_51 : decode cX12_comes 51 = .ok (.getfield 255, 3) := by decide +kernel
theorem dX12_comes_54 : decode cX12_comes 54 = .ok (.iastore, 1) := by decide +kernel
theorem dX12_comes_55 : decode cX12_comes 55 = .ok (.return_, 1) := by decide +kernel
set_option maxHeartbeats 4000000 in
set_option maxRecDepth 100000 in
theorem kX12_comes {l : Launch} {D : va_G} {cy : Nat → ClassId} {N : Nat} {q : Nat → Nat} {m0 : Nat → Value} {a0 : Nat → vp_A} {sz : Nat} (hN : 105 ≤ N) (hsh : SH q m0) {x69_27 : Int32} (h_x69_27 : m0 6927 = .int x69_27) {A79 : Nat → Int64} (h_A79 : a0 79 = (6001, .inr (.inl A79))) {A80 : Nat → Int32} (h_A80 : a0 80 = (16384, .inl A80)) (F : Nat) (p1 : Int64) {X0 : Int32 × (Nat → Int64) × (Nat → Int32)} (hs0 : fX12_comes F x69_27 A79 A80 p1 = some X0) : gMv l yX12_comes cX12_comes 4 none ({ frames := 1, cells := 0, slots := 0, locals := 23 } : Room) D cy N q m0 a0 sz [.ref (q 69), .long p1] (fun m' a' => m' 6927 = .int X0.1 ∧ (∀ j, nel j [6927] = false → m' j = m0 j) ∧ a' 79 = (6001, .inr (.inl X0.2.1)) ∧ a' 80 = (16384, .inl X0.2.2) ∧ (∀ j, nel j [79, 80] = false → a' j = a0 j)) := by
  refine g_ofv (by decide) (Nat.le_of_ble_eq_true rfl) ?_
  intro p e s M args below meth c hx hb hr hG hown hin hlocks hml hW hS ls hl
  unfold fX12_comes at hs0
  have hoff : ∀ j, nel j [6927] = false → m0 j = m0 j := off0
  have hoffa : ∀ j, nel j [79, 80] = false → a0 j = a0 j := off0
  refine lv_lload_n hx hb dX12_comes_0 rfl (lv_at hl 1 rfl) ?_
  refine g_SiR (n := 1) hx hb hml hown hG hW hS [.long p1] (kX12_slotOf hN p1) rfl (gd_S gx727 gx728 gx5 gx729) rfl rfl (by decide) ⟨Nat.le_of_ble_eq_true rfl, Nat.le_of_ble_eq_true rfl⟩ rfl hl (Nat.le_of_ble_eq_true rfl) ⟨Nat.zero_le _, Nat.zero_le _⟩ dX12_comes_1 (fun H locs hW hS => ?_)
  refine lv_istore_n (lv' := [(3, .int (fX12_slotOf p1)), (0, .ref (q 69)), (1, .long p1)]) hx hb dX12_comes_4 rfl hl (by decide) rfl (fun ls hl => ?_)
  obtain ⟨r2, hg2, hs0⟩ := obind hs0
  have hE1_25 : ∀ (t2_25 : Int32) (hr2 : t2_25 = r2) (m : Nat → Value) (a : Nat → vp_A) (H : Heap) (locs : List Loc) (w_x69_27 : m 6927 = .int x69_27) (hoff : ∀ j, nel j [6927] = false → m j = m0 j) (hsh : SH q m) (w_A79 : a 79 = (6001, .inr (.inl A79))) (w_A80 : a 80 = (16384, .inl A80)) (hoffa : ∀ j, nel j [79, 80] = false → a j = a0 j) (ls : Array Slot) (hl : lv_has ls 4 [(0, .ref (q 69)), (1, .long p1), (3, .int t2_25)]) (hW : GW D cy (gA N q s.heap.size) N q m a s H) (hS : va_S (gA N q s.heap.size) s.heap H locs), W p l e ({ frames := 1, cells := 0, slots := 0, locals := 23 } : Room) s M args below meth c H locs 0 0 (MQ below (va_Qv (fun (u : (Nat → Value) × (Nat → vp_A)) => u.1 6927 = .int X0.1 ∧ (∀ j, nel j [6927] = false → u.1 j = m0 j) ∧ u.2 79 = (6001, .inr (.inl X0.2.1)) ∧ u.2 80 = (16384, .inl X0.2.2) ∧ (∀ j, nel j [79, 80] = false → u.2 j = a0 j)) (gB D cy N q s.heap.size) (gA N q s.heap.size)) args s 0 0 (gA N q s.heap.size)) (F0 M 25 ls []) := by
    intro t2_25 hr2 m a H locs w_x69_27 hoff hsh w_A79 w_A80 hoffa ls hl hW hS
    subst hr2
    refine lv_aload_n hx hb dX12_comes_25 rfl (lv_at hl 0 rfl) ?_
    refine gf12_26 hx hb hG hown hW (o := 69) (ltN hN 69 rfl) gk69 (v := .ref (q 79)) (sh69_26 hsh) gx175 dX12_comes_26 ?_
    refine lv_aload_n hx hb dX12_comes_29 rfl (lv_at hl 0 rfl) ?_
    refine gf12_27 hx hb hG hown hW (o := 69) (ltN hN 69 rfl) gk69 (v := .int x69_27) w_x69_27 gx713 dX12_comes_30 ?_
    refine lv_lload_n hx hb dX12_comes_33 rfl (lv_at hl 1 rfl) ?_
    obtain ⟨hi6, hs0⟩ := oif hs0
    refine g_last hx hb hW hS (o := 79) (ltN hN 79 rfl) gk79 w_A79 (vin hi6) dX12_comes_34 (fun a7 H locs ha7 ho7 hW hS => ?_)
    have ho7 := off1 ho7
    have w_A79 : a7 79 = (6001, .inr (.inl (vp_updL A79 x69_27.toNatClampNeg p1))) := ha7
    have w_A80 : a7 80 = (16384, .inl A80) := (ho7 80 rfl).trans w_A80
    have hoffa := offm hoffa ho7 (by decide +kernel)
    refine lv_aload_n hx hb dX12_comes_35 rfl (lv_at hl 0 rfl) ?_
    refine lv_dup hx hb dX12_comes_36 rfl ?_
    refine gf12_27 hx hb hG hown hW (o := 69) (ltN hN 69 rfl) gk69 (v := .int x69_27) w_x69_27 gx713 dX12_comes_37 ?_
    refine lv_iconst (v := 1) hx hb dX12_comes_40 (by decide) ?_
    refine lv_iadd hx hb dX12_comes_41 ?_
    refine gp12_27 hx hb hG hown hW hS (o := 69) (ltN hN 69 rfl) gk69 (v := (x69_27 + 1)) gx713 dX12_comes_42 (fun m8 H locs hm8 ho8 hW hS => ?_)
    have ho8 := off1 ho8
    have w_x69_27 : m8 6927 = .int (x69_27 + 1) := hm8
    have hoff := offm hoff ho8 (by decide +kernel)
    have hsh := SH.off hsh ho8 (by decide +kernel)
    refine lv_aload_n hx hb dX12_comes_45 rfl (lv_at hl 0 rfl) ?_
    refine gf12_28 hx hb hG hown hW (o := 69) (ltN hN 69 rfl) gk69 (v := .ref (q 80)) (sh69_28 hsh) gx176 dX12_comes_46 ?_
    refine lv_iload_n hx hb dX12_comes_49 rfl (lv_at hl 2 rfl) ?_
    refine lv_aload_n hx hb dX12_comes_50 rfl (lv_at hl 0 rfl) ?_
    refine gf12_27 hx hb hG hown hW (o := 69) (ltN hN 69 rfl) gk69 (v := .int (x69_27 + 1)) w_x69_27 gx713 dX12_comes_51 ?_
    obtain ⟨hi9, hs0⟩ := oif hs0
    refine g_iast hx hb hW hS (o := 80) (ltN hN 80 rfl) gk80 w_A80 (vin hi9) dX12_comes_54 (fun a10 H locs ha10 ho10 hW hS => ?_)
    have ho10 := off1 ho10
    have w_A79 : a10 79 = (6001, .inr (.inl (vp_updL A79 x69_27.toNatClampNeg p1))) := (ho10 79 rfl).trans w_A79
    have w_A80 : a10 80 = (16384, .inl (upd A80 t2_25.toNatClampNeg (x69_27 + 1))) := ha10
    have hoffa := offm hoffa ho10 (by decide +kernel)
    have hs0 := Option.some.inj hs0
    subst hs0
    exact W.vret hx hb hr (fun t ht hw => ⟨⟨(m8, a10), rfl, ⟨w_x69_27, hoff, w_A79, w_A80, hoffa⟩, g_end hW ht hw⟩, hS.F ht⟩) hS.2.2 dX12_comes_55 hlocks
  have hL1 : ∀ (n : Nat) (v3k2 : Int32) (m : Nat → Value) (a : Nat → vp_A) (H : Heap) (locs : List Loc) (w_x69_27 : m 6927 = .int x69_27) (hoff : ∀ j, nel j [6927] = false → m j = m0 j) (hsh : SH q m) (w_A79 : a 79 = (6001, .inr (.inl A79))) (w_A80 : a 80 = (16384, .inl A80)) (hoffa : ∀ j, nel j [79, 80] = false → a j = a0 j) (ls : Array Slot) (hl : lv_has ls 4 [(0, .ref (q 69)), (1, .long p1), (3, .int v3k2)]) (hg2 : gloop (fun u2 : Int32 => fX12_comes_S5 F p1 x69_27 A79 A80 u2) n v3k2 = some r2) (hW : GW D cy (gA N q s.heap.size) N q m a s H) (hS : va_S (gA N q s.heap.size) s.heap H locs), W p l e ({ frames := 1, cells := 0, slots := 0, locals := 23 } : Room) s M args below meth c H locs 0 0 (MQ below (va_Qv (fun (u : (Nat → Value) × (Nat → vp_A)) => u.1 6927 = .int X0.1 ∧ (∀ j, nel j [6927] = false → u.1 j = m0 j) ∧ u.2 79 = (6001, .inr (.inl X0.2.1)) ∧ u.2 80 = (16384, .inl X0.2.2) ∧ (∀ j, nel j [79, 80] = false → u.2 j = a0 j)) (gB D cy N q s.heap.size) (gA N q s.heap.size)) args s 0 0 (gA N q s.heap.size)) (F0 M 5 ls []) := by
    intro n
    induction n with
    | zero => intro v3k2 m a H locs w_x69_27 hoff hsh w_A79 w_A80 hoffa ls hl hg2 hW hS; exact (gl_zero hg2).elim
    | succ n ih1 =>
      intro v3k2 m a H locs w_x69_27 hoff hsh w_A79 w_A80 hoffa ls hl hg2 hW hS
      obtain ⟨X1, hs1, hXl1, hXr1⟩ := gl_succ hg2
      have hs1 : fX12_comes_S5 F p1 x69_27 A79 A80 v3k2 = some X1 := hs1
      unfold fX12_comes_S5 at hs1
      refine lv_aload_n hx hb dX12_comes_5 rfl (lv_at hl 0 rfl) ?_
      refine gf12_28 hx hb hG hown hW (o := 69) (ltN hN 69 rfl) gk69 (v := .ref (q 80)) (sh69_28 hsh) gx176 dX12_comes_6 ?_
      refine lv_iload_n hx hb dX12_comes_9 rfl (lv_at hl 2 rfl) ?_
      obtain ⟨hi11, hs1⟩ := oif hs1
      refine g_iald hx hb hW (o := 80) (ltN hN 80 rfl) gk80 w_A80 (vin hi11) dX12_comes_10 ?_
      refine lv_if_le (tgt := 25) hx hb dX12_comes_11 (by decide) (fun c12 => ?_) (fun c12 => ?_)
      · rw [if_pos c12] at hs1
        exact hE1_25 v3k2 (hXl1 _ (Option.some.inj hs1).symm) m a _ _ w_x69_27 hoff hsh w_A79 w_A80 hoffa ls (lv_sub hl [0, 1, 2] rfl) hW hS
      · rw [if_neg c12] at hs1
        refine lv_iload_n hx hb dX12_comes_14 rfl (lv_at hl 2 rfl) ?_
        refine lv_iconst (v := 1) hx hb dX12_comes_15 (by decide) ?_
        refine lv_iadd hx hb dX12_comes_16 ?_
        refine lv_sipush (v := 16384) hx hb dX12_comes_17 (by decide) ?_
        refine lv_irem hx hb dX12_comes_20 (by decide) ?_
        refine lv_istore_n (lv' := [(3, .int ((v3k2 + 1) - (v3k2 + 1) / 16384 * 16384)), (0, .ref (q 69)), (1, .long p1)]) hx hb dX12_comes_21 rfl hl (by decide) rfl (fun ls hl => ?_)
        refine lv_goto (tgt := 5) hx hb dX12_comes_22 (by decide) ?_
        exact ih1 ((v3k2 + 1) - (v3k2 + 1) / 16384 * 16384) m a _ _ w_x69_27 hoff hsh w_A79 w_A80 hoffa ls (lv_sub hl [1, 2, 0] rfl) (hXr1 _ (Option.some.inj hs1).symm) hW hS
  exact hL1 F (fX12_slotOf p1) m0 a0 _ _ h_x69_27 hoff hsh h_A79 h_A80 hoffa ls (lv_sub hl [1, 2, 0] rfl) hg2 hW hS
-- HealLinkModel.begins ()V
def fX12_begins_S12 (F : Nat) (x69_27 : Int32) (x69_35 : Int32) (v1 : Int32) (A80 : Nat → Int32) : Option (((Nat → Int32)) ⊕ (Int32 × (Nat → Int32))) := (if 16384 ≤ v1 then some (Sum.inl A80) else (if inb v1 16384 = true then some (Sum.inr (v1 + 1, upd A80 v1.toNatClampNeg 0)) else none))
def fX12_begins (F : Nat) (x69_27 : Int32) (x69_35 : Int32) (A80 : Nat → Int32) : Option (Int32 × Int32 × (Nat → Int32)) := (gloop (fun u3 : (Int32 × (Nat → Int32)) => fX12_begins_S12 F 0 0 u3.1 u3.2) F (0, A80)).bind (fun t3_32 => some (0, 0, t3_32))
theorem dX12_begins_0 : decode cX12_begins 0 = .ok (.aload_n 0, 1) := by decide +kernel
theorem dX12_begins_1 : decode cX12_begins 1 = .ok (.iconst 0, 1) := by decide +kernel
theorem dX12_begins_2 : decode cX12_begins 2 = .ok (.putfield 255, 3) := by decide +kernel
theorem dX12_begins_5 : decode cX12_begins 5 = .ok (.aload_n 0, 1) := by decide +kernel
theorem dX12_begins_6 : decode cX12_begins 6 = .ok (.iconst 0, 1) := by decide +kernel
theorem dX12_begins_7 : decode cX12_begins 7 = .ok (.putfield 258, 3) := by decide +kernel
theorem dX12_begins_10 : decode cX12_begins 10 = .ok (.iconst 0, 1) := by decide +kernel
theorem dX12_begins_11 : decode cX12_begins 11 = .ok (.istore_n 1, 1) := by decide +kernel
theorem dX12_begins_12 : decode cX12_begins 12 = .ok (.iload_n 1, 1) := by decide +kernel
theorem dX12_begins_13 : decode cX12_begins 13 = .ok (.sipush 16384, 3) := by decide +kernel
theorem dX12_begins_16 : decode cX12_begins 16 = .ok (.if_icmp .ge 16, 3) := by decide +kernel
theorem dX12_begins_19 : decode cX12_begins 19 = .ok (.aload_n 0, 1) := by decide +kernel
theorem dX12_begins_20 : decode cX12_begins 20 = .ok (.getfield 54, 3) := by decide +kernel
theorem dX12_begins_23 : decode cX12_begins 23 = .ok (.iload_n 1, 1) := by decide +kernel
theorem dX12_begins_24 : decode cX12_begins 24 = .ok (.iconst 0, 1) := by decide +kernel
theorem dX12_begins_25 : decode cX12_begins 25 = .ok (.iastore, 1) := by decide +kernel
theorem dX12_begins_26 : decode cX12_begins 26 = .ok (.iinc 1 1, 3) := by decide +kernel
theorem dX12_begins_29 : decode cX12_begins 29 = .ok (.goto (-17), 3) := by decide +kernel
theorem dX12_begins_32 : decode cX12_begins 32 = .ok (.return_, 1) := by decide +kernel
set_option maxHeartbeats 4000000 in
set_option maxRecDepth 100000 in
theorem kX12_begins {l : Launch} {D : va_G} {cy : Nat → ClassId} {N : Nat} {q : Nat → Nat} {m0 : Nat → Value} {a0 : Nat → vp_A} {sz : Nat} (hN : 105 ≤ N) (hsh : SH q m0) {x69_27 : Int32} (h_x69_27 : m0 6927 = .int x69_27) {x69_35 : Int32} (h_x69_35 : m0 6935 = .int x69_35) {A80 : Nat → Int32} (h_A80 : a0 80 = (16384, .inl A80)) (F : Nat) {X0 : Int32 × Int32 × (Nat → Int32)} (hs0 : fX12_begins F x69_27 x69_35 A80 = some X0) : gMv l yX12_begins cX12_begins 2 none ({ frames := 0, cells := 0, slots := 0, locals := 0 } : Room) D cy N q m0 a0 sz [.ref (q 69)] (fun m' a' => m' 6927 = .int X0.1 ∧ m' 6935 = .int X0.2.1 ∧ (∀ j, nel j [6927, 6935] = false → m' j = m0 j) ∧ a' 80 = (16384, .inl X0.2.2) ∧ (∀ j, nel j [80] = false → a' j = a0 j)) := by
  refine g_ofv (by decide) (Nat.le_of_ble_eq_true rfl) ?_
  intro p e s M args below meth c hx hb hr hG hown hin hlocks hml hW hS ls hl
  unfold fX12_begins at hs0
  have hoff : ∀ j, nel j [6927, 6935] = false → m0 j = m0 j := off0
  have hoffa : ∀ j, nel j [80] = false → a0 j = a0 j := off0
  refine lv_aload_n hx hb dX12_begins_0 rfl (lv_at hl 0 rfl) ?_
  refine lv_iconst (v := 0) hx hb dX12_begins_1 (by decide) ?_
  refine gp12_27 hx hb hG hown hW hS (o := 69) (ltN hN 69 rfl) gk69 (v := 0) gx713 dX12_begins_2 (fun m1 H locs hm1 ho1 hW hS => ?_)
  have ho1 := off1 ho1
  have w_x69_27 : m1 6927 = .int 0 := hm1
  have w_x69_35 : m1 6935 = .int x69_35 := (ho1 6935 rfl).trans h_x69_35
  have hoff := offm hoff ho1 (by decide +kernel)
  have hsh := SH.off hsh ho1 (by decide +kernel)
  refine lv_aload_n hx hb dX12_begins_5 rfl (lv_at hl 0 rfl) ?_
  refine lv_iconst (v := 0) hx hb dX12_begins_6 (by decide) ?_
  refine gp12_35 hx hb hG hown hW hS (o := 69) (ltN hN 69 rfl) gk69 (v := 0) gx722 dX12_begins_7 (fun m2 H locs hm2 ho2 hW hS => ?_)
  have ho2 := off1 ho2
  have w_x69_27 : m2 6927 = .int 0 := (ho2 6927 rfl).trans w_x69_27
  have w_x69_35 : m2 6935 = .int 0 := hm2
  have hoff := offm hoff ho2 (by decide +kernel)
  have hsh := SH.off hsh ho2 (by decide +kernel)
  refine lv_iconst (v := 0) hx hb dX12_begins_10 (by decide) ?_
  refine lv_istore_n (lv' := [(1, .int 0), (0, .ref (q 69))]) hx hb dX12_begins_11 rfl hl (by decide) rfl (fun ls hl => ?_)
  obtain ⟨r3, hg3, hs0⟩ := obind hs0
  have hE1_32 : ∀ (t3_32 : (Nat → Int32)) (hr3 : t3_32 = r3) (m : Nat → Value) (a : Nat → vp_A) (H : Heap) (locs : List Loc) (w_x69_27 : m 6927 = .int 0) (w_x69_35 : m 6935 = .int 0) (hoff : ∀ j, nel j [6927, 6935] = false → m j = m0 j) (hsh : SH q m) (w_A80 : a 80 = (16384, .inl t3_32)) (hoffa : ∀ j, nel j [80] = false → a j = a0 j) (ls : Array Slot) (hl : lv_has ls 2 []) (hW : GW D cy (gA N q s.heap.size) N q m a s H) (hS : va_S (gA N q s.heap.size) s.heap H locs), W p l e ({ frames := 0, cells := 0, slots := 0, locals := 0 } : Room) s M args below meth c H locs 0 0 (MQ below (va_Qv (fun (u : (Nat → Value) × (Nat → vp_A)) => u.1 6927 = .int X0.1 ∧ u.1 6935 = .int X0.2.1 ∧ (∀ j, nel j [6927, 6935] = false → u.1 j = m0 j) ∧ u.2 80 = (16384, .inl X0.2.2) ∧ (∀ j, nel j [80] = false → u.2 j = a0 j)) (gB D cy N q s.heap.size) (gA N q s.heap.size)) args s 0 0 (gA N q s.heap.size)) (F0 M 32 ls []) := by
    intro t3_32 hr3 m a H locs w_x69_27 w_x69_35 hoff hsh w_A80 hoffa ls hl hW hS
    subst hr3
    have hs0 := Option.some.inj hs0
    subst hs0
    exact W.vret hx hb hr (fun t ht hw => ⟨⟨(m, a), rfl, ⟨w_x69_27, w_x69_35, hoff, w_A80, hoffa⟩, g_end hW ht hw⟩, hS.F ht⟩) hS.2.2 dX12_begins_32 hlocks
  have hL1 : ∀ (n : Nat) (v1k3 : Int32) (A80k3 : Nat → Int32) (m : Nat → Value) (a : Nat → vp_A) (H : Heap) (locs : List Loc) (w_x69_27 : m 6927 = .int 0) (w_x69_35 : m 6935 = .int 0) (hoff : ∀ j, nel j [6927, 6935] = false → m j = m0 j) (hsh : SH q m) (w_A80 : a 80 = (16384, .inl A80k3)) (hoffa : ∀ j, nel j [80] = false → a j = a0 j) (ls : Array Slot) (hl : lv_has ls 2 [(0, .ref (q 69)), (1, .int v1k3)]) (hg3 : gloop (fun u3 : (Int32 × (Nat → Int32)) => fX12_begins_S12 F 0 0 u3.1 u3.2) n (v1k3, A80k3) = some r3) (hW : GW D cy (gA N q s.heap.size) N q m a s H) (hS : va_S (gA N q s.heap.size) s.heap H locs), W p l e ({ frames := 0, cells := 0, slots := 0, locals := 0 } : Room) s M args below meth c H locs 0 0 (MQ below (va_Qv (fun (u : (Nat → Value) × (Nat → vp_A)) => u.1 6927 = .int X0.1 ∧ u.1 6935 = .int X0.2.1 ∧ (∀ j, nel j [6927, 6935] = false → u.1 j = m0 j) ∧ u.2 80 = (16384, .inl X0.2.2) ∧ (∀ j, nel j [80] = false → u.2 j = a0 j)) (gB D cy N q s.heap.size) (gA N q s.heap.size)) args s 0 0 (gA N q s.heap.size)) (F0 M 12 ls []) := by
    intro n
    induction n with
    | zero => intro v1k3 A80k3 m a H locs w_x69_27 w_x69_35 hoff hsh w_A80 hoffa ls hl hg3 hW hS; exact (gl_zero hg3).elim
    | succ n ih1 =>
      intro v1k3 A80k3 m a H locs w_x69_27 w_x69_35 hoff hsh w_A80 hoffa ls hl hg3 hW hS
      obtain ⟨X1, hs1, hXl1, hXr1⟩ := gl_succ hg3
      have hs1 : fX12_begins_S12 F 0 0 v1k3 A80k3 = some X1 := hs1
      unfold fX12_begins_S12 at hs1
      refine lv_iload_n hx hb dX12_begins_12 rfl (lv_at hl 1 rfl) ?_
      refine lv_sipush (v := 16384) hx hb dX12_begins_13 (by decide) ?_
      refine lv_icmp_ge (tgt := 32) hx hb dX12_begins_16 (by decide) (fun c7 => ?_) (fun c7 => ?_)
      · rw [if_pos c7] at hs1
        exact hE1_32 A80k3 (hXl1 _ (Option.some.inj hs1).symm) m a _ _ w_x69_27 w_x69_35 hoff hsh w_A80 hoffa ls (lv_sub hl [] rfl) hW hS
      · rw [if_neg c7] at hs1
        refine lv_aload_n hx hb dX12_begins_19 rfl (lv_at hl 0 rfl) ?_
        refine gf12_28 hx hb hG hown hW (o := 69) (ltN hN 69 rfl) gk69 (v := .ref (q 80)) (sh69_28 hsh) gx176 dX12_begins_20 ?_
        refine lv_iload_n hx hb dX12_begins_23 rfl (lv_at hl 1 rfl) ?_
        refine lv_iconst (v := 0) hx hb dX12_begins_24 (by decide) ?_
        obtain ⟨hi8, hs1⟩ := oif hs1
        refine g_iast hx hb hW hS (o := 80) (ltN hN 80 rfl) gk80 w_A80 (vin hi8) dX12_begins_25 (fun a9 H locs ha9 ho9 hW hS => ?_)
        have ho9 := off1 ho9
        have w_A80 : a9 80 = (16384, .inl (upd A80k3 v1k3.toNatClampNeg 0)) := ha9
        have hoffa := offm hoffa ho9 (by decide +kernel)
        refine lv_iinc (v := v1k3 + 1) (lv' := [(1, .int (v1k3 + 1)), (0, .ref (q 69))]) hx hb dX12_begins_26 hl (k := 1) rfl rfl (by decide) rfl (fun ls hl => ?_)
        refine lv_goto (tgt := 12) hx hb dX12_begins_29 (by decide) ?_
        exact ih1 (v1k3 + 1) (upd A80k3 v1k3.toNatClampNeg 0) m a9 _ _ w_x69_27 w_x69_35 hoff hsh w_A80 hoffa ls (lv_sub hl [1, 0] rfl) (hXr1 _ (Option.some.inj hs1).symm) hW hS
  exact hL1 F 0 A80 m2 a0 _ _ w_x69_27 w_x69_35 hoff hsh h_A80 hoffa ls (lv_sub hl [1, 0] rfl) hg3 hW hS
-- HealLinkModel.edge (JII)Z
def fX12_edge_J70 (F : Nat) (x69_0 : Int32) (x69_1 : Int32) (x69_3 : Int32) (x69_22 : Int32) (A76 : Nat → Int32) (A77 : Nat → Int32) (A78 : Nat → Int32) (v3j7 : Int32) (v4j7 : Int32) (v7j7 : Int32) (x69_19j7 : Int64) (x69_20j7 : Int32) (x69_21j7 : Int32) (x69_27j7 : Int32) (x69_35j7 : Int32) (A79j7 : Nat → Int64) (A80j7 : Nat → Int32) (A82j7 : Nat → Int32) (A83j7 : Nat → Int32) (A84j7 : Nat → Int32) (A85j7 : Nat → Int32) (A86j7 : Nat → Int32) : Option (Int32 × Int64 × Int32 × Int32 × Int32 × Int32 × (Nat → Int64) × (Nat → Int32) × (Nat → Int32) × (Nat → Int32) × (Nat → Int32) × (Nat → Int32) × (Nat → Int32)) := (if inb x69_35j7 84000 = true then (if inb x69_35j7 84000 = true then (if inb v3j7 40 = true then (if inb x69_35j7 84000 = true then (if inb v3j7 40 = true then (if inb x69_35j7 84000 = true then (if inb v3j7 40 = true then (if inb x69_35j7 84000 = true then some (1, x69_19j7, x69_20j7, x69_21j7, x69_27j7, x69_35j7 + 1, A79j7, A80j7, upd A82j7 x69_35j7.toNatClampNeg v7j7, upd A83j7 x69_35j7.toNatClampNeg x69_20j7, upd A84j7 x69_35j7.toNatClampNeg ((A76 v3j7.toNatClampNeg) + (100 * v4j7)), upd A85j7 x69_35j7.toNatClampNeg (A77 v3j7.toNatClampNeg), upd A86j7 x69_35j7.toNatClampNeg (A78 v3j7.toNatClampNeg)) else none) else none) else none) else none) else none) else none) else none) else none)
def fX12_edge (F : Nat) (x69_0 : Int32) (x69_1 : Int32) (x69_3 : Int32) (x69_22 : Int32) (A76 : Nat → Int32) (A77 : Nat → Int32) (A78 : Nat → Int32) (x69_19 : Int64) (x69_20 : Int32) (x69_21 : Int32) (x69_27 : Int32) (x69_35 : Int32) (A79 : Nat → Int64) (A80 : Nat → Int32) (A82 : Nat → Int32) (A83 : Nat → Int32) (A84 : Nat → Int32) (A85 : Nat → Int32) (A86 : Nat → Int32) (p1 : Int64) (p3 : Int32) (p4 : Int32) : Option (Int32 × Int64 × Int32 × Int32 × Int32 × Int32 × (Nat → Int64) × (Nat → Int32) × (Nat → Int32) × (Nat → Int32) × (Nat → Int32) × (Nat → Int32) × (Nat → Int32)) := (if inb p3 40 = true then (if inb p3 40 = true then (if inb p3 40 = true then ((fX12_does F x69_0 x69_1 x69_3 x69_22 x69_19 x69_20 x69_21 p1 (A76 p3.toNatClampNeg) (A77 p3.toNatClampNeg) (A78 p3.toNatClampNeg) p4).bind (fun r4 => ((fX12_numberOf F A79 A80 r4.1).bind (fun r5 => (if 0 ≤ r5 then fX12_edge_J70 F x69_0 x69_1 x69_3 x69_22 A76 A77 A78 p3 p4 r5 r4.1 r4.2.1 r4.2.2 x69_27 x69_35 A79 A80 A82 A83 A84 A85 A86 else (if x69_27 = 6000 then some (0, r4.1, r4.2.1, r4.2.2, x69_27, x69_35, A79, A80, A82, A83, A84, A85, A86) else ((fX12_comes F x69_27 A79 A80 r4.1).bind (fun r9 => fX12_edge_J70 F x69_0 x69_1 x69_3 x69_22 A76 A77 A78 p3 p4 (r9.1 - 1) r4.1 r4.2.1 r4.2.2 r9.1 x69_35 r9.2.1 r9.2.2 A82 A83 A84 A85 A86)))))))) else none) else none) else none)
theorem dX12_edge_0 : decode cX12_edge 0 = .ok (.aload_n 0, 1) := by decide +kernel
theorem dX12_edge_1 : decode cX12_edge 1 = .ok (.lload_n 1, 1) := by decide +kernel
theorem dX12_edge_2 : decode cX12_edge 2 = .ok (.aload_n 0, 1) := by decide +kernel
theorem dX12_edge_3 : decode cX12_edge 3 = .ok (.getfield 41, 3) := by decide +kernel
theorem dX12_edge_6 : decode cX12_edge 6 = .ok (.iload_n 3, 1) := by decide +kernel
theorem dX12_edge_7 : decode cX12_edge 7 = .ok (.iaload, 1) := by decide +kernel
theorem dX12_edge_8 : decode cX12_edge 8 = .ok (.aload_n 0, 1) := by decide +kernel
theorem dX12_edge_9 : decode cX12_edge 9 = .ok (.getfield 44, 3) := by decide +kernel
theorem dX12_edge_12 : decode cX12_edge 12 = .ok (.iload_n 3, 1) := by decide +kernel
theorem dX12_edge_13 : decode cX12_edge 13 = .ok (.iaload, 1) := by decide +kernel
theorem dX12_edge_14 : decode cX12_edge 14 = .ok (.aload_n 0, 1) := by decide +kernel
theorem dX12_edge_15 : decode cX12_edge 15 = .ok (.getfield 47, 3) := by decide +kernel
theorem dX12_edge_18 : decode cX12_edge 18 = .ok (.iload_n 3, 1) := by decide +kernel
theorem dX12_edge_19 : decode cX12_edge 19 = .ok (.iaload, 1) := by decide +kernel
theorem dX12_edge_20 : decode cX12_edge 20 = .ok (.iload 4, 2) := by decide +kernel
theorem dX12_edge_22 : decode cX12_edge 22 = .ok (.invokevirtual 216, 3) := by decide +kernel
theorem dX12_edge_25 : decode cX12_edge 25 = .ok (.aload_n 0, 1) := by decide +kernel
theorem dX12_edge_26 : decode cX12_edge 26 = .ok (.getfield 192, 3) := by decide +kernel
theorem dX12_edge_29 : decode cX12_edge 29 = .ok (.lstore 5, 2) := by decide +kernel
theorem dX12_edge_31 : decode cX12_edge 31 = .ok (.aload_n 0, 1) := by decide +kernel
theorem dX12_edge_32 : decode cX12_edge 32 = .ok (.lload 5, 2) := by decide +kernel
theorem dX12_edge_34 : decode cX12_edge 34 = .ok (.invokevirtual 261, 3) := by decide +kernel
theorem dX12_edge_37 : decode cX12_edge 37 = .ok (.istore 7, 2) := by decide +kernel
theorem dX12_edge_39 : decode cX12_edge 39 = .ok (.iload 7, 2) := by decide +kernel
theorem dX12_edge_41 : decode cX12_edge 41 = .ok (.ifCond .ge 29, 3) := by decide +kernel
theorem dX12_edge_44 : decode cX12_edge 44 = .ok (.aload_n 0, 1) := by decide +kernel
theorem dX12_edge_45 : decode cX12_edge 45 = .ok (.getfield 255, 3) := by decide +kernel
theorem dX12_edge_48 : decode cX12_edge 48 = .ok (.sipush 6000, 3) := by decide +kernel
theorem dX12_edge_51 : decode cX12_edge 51 = .ok (.if_icmp .ne 5, 3) := by decide +kernel
theorem dX12_edge_54 : decode cX12_edge 54 = .ok (.iconst 0, 1) := by decide +kernel
theorem dX12_edge_55 : decode cX12_edge 55 = .ok (.ireturn, 1) := by decide +kernel
theorem dX12_edge_56 : decode cX12_edge 56 = .ok (.aload_n 0, 1) := by decide +kernel
theorem dX12_edge_57 : decode cX12_edge 57 = .ok (.lload 5, 2) := by decide +kernel
theorem dX12_edge_59 : decode cX12_edge 59 = .ok (.invokevirtual 264, 3) := by decide +kernel
theorem dX12_edge_62 : decode cX12_edge 62 = .ok (.aload_n 0, 1) := by decide +kernel
theorem dX12_edge_63 : decode cX12_edge 63 = .ok (.getfield 255, 3) := by decide +kernel
theorem dX12_edge_66 : decode cX12_edge 66 = .ok (.iconst 1, 1) := by decide +kernel
theorem dX12_edge_67 : decode cX12_edge 67 = .ok (.isub, 1) := by decide +kernel
theorem dX12_edge_68 : decode cX12_edge 68 = .ok (.istore 7, 2) := by decide +kernel
theorem dX12_edge_70 : decode cX12_edge 70 = .ok (.aload_n 0, 1) := by decide +kernel
theorem dX12_edge_71 : decode cX12_edge 71 = .ok (.getfield 61, 3) := by decide +kernel
theorem dX12_edge_74 : decode cX12_edge 74 = .ok (.aload_n 0, 1) := by decide +kernel
theorem dX12_edge_75 : decode cX12_edge 75 = .ok (.getfield 258, 3) := by decide +kernel
theorem dX12_edge_78 : decode cX12_edge 78 = .ok (.iload 7, 2) := by decide +kernel
theorem dX12_edge_80 : decode cX12_edge 80 = .ok (.iastore, 1) := by decide +kernel
theorem dX12_edge_81 : decode cX12_edge 81 = .ok (.aload_n 0, 1) := by decide +kernel
theorem dX12_edge_82 : decode cX12_edge 82 = .ok (.getfield 64, 3) := by decide +kernel
theorem dX12_edge_85 : decode cX12_edge 85 = .ok (.aload_n 0, 1) := by decide +kernel
theorem dX12_edge_86 : decode cX12_edge 86 = .ok (.getfield 258, 3) := by decide +kernel
theorem dX12_edge_89 : decode cX12_edge 89 = .ok (.aload_n 0, 1) := by decide +kernel
theorem dX12_edge_90 : decode cX12_edge 90 = .ok (.getfield 195, 3) := by decide +kernel
theorem dX12_edge_93 : decode cX12_edge 93 = .ok (.iastore, 1) := by decide +kernel
theorem dX12_edge_94 : decode cX12_edge 94 = .ok (.aload_n 0, 1) := by decide +kernel
theorem dX12_edge_95 : decode cX12_edge 95 = .ok (.getfield 67, 3) := by decide +kernel
theorem dX12_edge_98 : decode cX12_edge 98 = .ok (.aload_n 0, 1) := by decide +kernel
theorem dX12_edge_99 : decode cX12_edge 99 = .ok (.getfield 258, 3) := by decide +kernel
theorem dX12_edge_102 : decode cX12_edge 102 = .ok (.aload_n 0, 1) := by decide +kernel
theorem dX12_edge_103 : decode cX12_edge 103 = .ok (.getfield 41, 3) := by decide +kernel
theorem dX12_edge_106 : decode cX12_edge 106 = .ok (.iload_n 3, 1) := by decide +kernel
theorem dX12_edge_107 : decode cX12_edge 107 = .ok (.iaload, 1) := by decide +kernel
theorem dX12_edge_108 : decode cX12_edge 108 = .ok (.bipush 100, 2) := by decide +kernel
theorem dX12_edge_110 : decode cX12_edge 110 = .ok (.iload 4, 2) := by decide +kernel
theorem dX12_edge_112 : decode cX12_edge 112 = .ok (.imul, 1) := by decide +kernel
theorem dX12_edge_113 : decode cX12_edge 113 = .ok (.iadd, 1) := by decide +kernel
theorem dX12_edge_114 : decode cX12_edge 114 = .ok (.iastore, 1) := by decide +kernel
theorem dX12_edge_115 : decode cX12_edge 115 = .ok (.aload_n 0, 1) := by decide +kernel
theorem dX12_edge_116 : decode cX12_edge 116 = .ok (.getfield 70, 3) := by decide +kernel
theorem dX12_edge_119 : decode cX12_edge 119 = .ok (.aload_n 0, 1) := by decide +kernel
theorem dX12_edge_120 : decode cX12_edge 120 = .ok (.getfield 258, 3) := by decide +kernel
theorem dX12_edge_123 : decode cX12_edge 123 = .ok (.aload_n 0, 1) := by decide +kernel
theorem dX12_edge_124 : decode cX12_edge 124 = .ok (.getfield 44, 3) := by decide +kernel
theorem dX12_edge_127 : decode cX12_edge 127 = .ok (.iload_n 3, 1) := by decide +kernel
theorem dX12_edge_128 : decode cX12_edge 128 = .ok (.iaload, 1) := by decide +kernel
theorem dX12_edge_129 : decode cX12_edge 129 = .ok (.iastore, 1) := by decide +kernel
theorem dX12_edge_130 : decode cX12_edge 130 = .ok (.aload_n 0, 1) := by decide +kernel
theorem dX12_edge_131 : decode cX12_edge 131 = .ok (.getfield 73, 3) := by decide +kernel
theorem dX12_edge_134 : decode cX12_edge 134 = .ok (.aload_n 0, 1) := by decide +kernel
theorem dX12_edge_135 : decode cX12_edge 135 = .ok (.getfield 258, 3) := by decide +kernel
theorem dX12_edge_138 : decode cX12_edge 138 = .ok (.aload_n 0, 1) := by decide +kernel
theorem dX12_edge_139 : decode cX12_edge 139 = .ok (.getfield 47, 3) := by decide +kernel
theorem dX12_edge_142 : decode cX12_edge 142 = .ok (.iload_n 3, 1) := by decide +kernel
theorem dX12_edge_143 : decode cX12_edge 143 = .ok (.iaload, 1) := by decide +kernel
theorem dX12_edge_144 : decode cX12_edge 144 = .ok (.iastore, 1) := by decide +kernel
theorem dX12_edge_145 : decode cX12_edge 145 = .ok (.aload_n 0, 1) := by decide +kernel
theorem dX12_edge_146 : decode cX12_edge 146 = .ok (.dup, 1) := by decide +kernel
theorem dX12_edge_147 : decode cX12_edge 147 = .ok (.getfield 258, 3) := by decide +kernel
theorem dX12_edge_150 : decode cX12_edge 150 = .ok (.iconst 1, 1) := by decide +kernel
theorem dX12_edge_151 : decode cX12_edge 151 = .ok (.iadd, 1) := by decide +kernel
theorem dX12_edge_152 : decode cX12_edge 152 = .ok (.putfield 258, 3) := by decide +kernel
theorem dX12_edge_155 : decode cX12_edge 155 = .ok (.iconst 1, 1) := by decide +kernel
theorem dX12_edge_156 : decode cX12_edge 156 = .ok (.ireturn, 1) := by decide +kernel
set_option maxHeartbeats 4000000 in
set_option maxRecDepth 100000 in
theorem kX12_edge {l : Launch} {D : va_G} {cy : Nat → ClassId} {N : Nat} {q : Nat → Nat} {m0 : Nat → Value} {a0 : Nat → vp_A} {sz : Nat} (hN : 105 ≤ N) (hsh : SH q m0) {x69_0 : Int32} (h_x69_0 : m0 6900 = .int x69_0) {x69_1 : Int32} (h_x69_1 : m0 6901 = .int x69_1) {x69_3 : Int32} (h_x69_3 : m0 6903 = .int x69_3) {x69_22 : Int32} (h_x69_22 : m0 6922 = .int x69_22) {A76 : Nat → Int32} (h_A76 : a0 76 = (40, .inl A76)) {A77 : Nat → Int32} (h_A77 : a0 77 = (40, .inl A77)) {A78 : Nat → Int32} (h_A78 : a0 78 = (40, .inl A78)) {x69_19 : Int64} (h_x69_19 : m0 6919 = .long x69_19) {x69_20 : Int32} (h_x69_20 : m0 6920 = .int x69_20) {x69_21 : Int32} (h_x69_21 : m0 6921 = .int x69_21) {x69_27 : Int32} (h_x69_27 : m0 6927 = .int x69_27) {x69_35 : Int32} (h_x69_35 : m0 6935 = .int x69_35) {A79 : Nat → Int64} (h_A79 : a0 79 = (6001, .inr (.inl A79))) {A80 : Nat → Int32} (h_A80 : a0 80 = (16384, .inl A80)) {A82 : Nat → Int32} (h_A82 : a0 82 = (84000, .inl A82)) {A83 : Nat → Int32} (h_A83 : a0 83 = (84000, .inl A83)) {A84 : Nat → Int32} (h_A84 : a0 84 = (84000, .inl A84)) {A85 : Nat → Int32} (h_A85 : a0 85 = (84000, .inl A85)) {A86 : Nat → Int32} (h_A86 : a0 86 = (84000, .inl A86)) (F : Nat) (p1 : Int64) (p3 : Int32) (p4 : Int32) {X0 : Int32 × Int64 × Int32 × Int32 × Int32 × Int32 × (Nat → Int64) × (Nat → Int32) × (Nat → Int32) × (Nat → Int32) × (Nat → Int32) × (Nat → Int32) × (Nat → Int32)} (hs0 : fX12_edge F x69_0 x69_1 x69_3 x69_22 A76 A77 A78 x69_19 x69_20 x69_21 x69_27 x69_35 A79 A80 A82 A83 A84 A85 A86 p1 p3 p4 = some X0) : gMi l yX12_edge cX12_edge 8 (some .boolean) ({ frames := 3, cells := 0, slots := 0, locals := 74 } : Room) D cy N q m0 a0 sz [.ref (q 69), .long p1, .int p3, .int p4] (fun r m' a' => r = X0.1 ∧ m' 6919 = .long X0.2.1 ∧ m' 6920 = .int X0.2.2.1 ∧ m' 6921 = .int X0.2.2.2.1 ∧ m' 6927 = .int X0.2.2.2.2.1 ∧ m' 6935 = .int X0.2.2.2.2.2.1 ∧ (∀ j, nel j [6919, 6920, 6921, 6927, 6935] = false → m' j = m0 j) ∧ a' 79 = (6001, .inr (.inl X0.2.2.2.2.2.2.1)) ∧ a' 80 = (16384, .inl X0.2.2.2.2.2.2.2.1) ∧ a' 82 = (84000, .inl X0.2.2.2.2.2.2.2.2.1) ∧ a' 83 = (84000, .inl X0.2.2.2.2.2.2.2.2.2.1) ∧ a' 84 = (84000, .inl X0.2.2.2.2.2.2.2.2.2.2.1) ∧ a' 85 = (84000, .inl X0.2.2.2.2.2.2.2.2.2.2.2.1) ∧ a' 86 = (84000, .inl X0.2.2.2.2.2.2.2.2.2.2.2.2) ∧ (∀ j, nel j [79, 80, 82, 83, 84, 85, 86] = false → a' j = a0 j)) := by
  refine g_ofi (by decide) (Nat.le_of_ble_eq_true rfl) ?_
  intro p e s M args below meth c hx hb hr hG hown hin hlocks hml hW hS ls hl
  unfold fX12_edge at hs0
  have hoff : ∀ j, nel j [6919, 6920, 6921, 6927, 6935] = false → m0 j = m0 j := off0
  have hoffa : ∀ j, nel j [79, 80, 82, 83, 84, 85, 86] = false → a0 j = a0 j := off0
  have hJ70_0 : ∀ (v3j7 : Int32) (v4j7 : Int32) (v7j7 : Int32) (x69_19j7 : Int64) (x69_20j7 : Int32) (x69_21j7 : Int32) (x69_27j7 : Int32) (x69_35j7 : Int32) (A79j7 : Nat → Int64) (A80j7 : Nat → Int32) (A82j7 : Nat → Int32) (A83j7 : Nat → Int32) (A84j7 : Nat → Int32) (A85j7 : Nat → Int32) (A86j7 : Nat → Int32) (m : Nat → Value) (a : Nat → vp_A) (H : Heap) (locs : List Loc) (w_x69_19 : m 6919 = .long x69_19j7) (w_x69_20 : m 6920 = .int x69_20j7) (w_x69_21 : m 6921 = .int x69_21j7) (w_x69_27 : m 6927 = .int x69_27j7) (w_x69_35 : m 6935 = .int x69_35j7) (hoff : ∀ j, nel j [6919, 6920, 6921, 6927, 6935] = false → m j = m0 j) (hsh : SH q m) (w_A79 : a 79 = (6001, .inr (.inl A79j7))) (w_A80 : a 80 = (16384, .inl A80j7)) (w_A82 : a 82 = (84000, .inl A82j7)) (w_A83 : a 83 = (84000, .inl A83j7)) (w_A84 : a 84 = (84000, .inl A84j7)) (w_A85 : a 85 = (84000, .inl A85j7)) (w_A86 : a 86 = (84000, .inl A86j7)) (hoffa : ∀ j, nel j [79, 80, 82, 83, 84, 85, 86] = false → a j = a0 j) (ls : Array Slot) (hl : lv_has ls 8 [(0, .ref (q 69)), (3, .int v3j7), (4, .int v4j7), (7, .int v7j7)]) (hs0 : fX12_edge_J70 F x69_0 x69_1 x69_3 x69_22 A76 A77 A78 v3j7 v4j7 v7j7 x69_19j7 x69_20j7 x69_21j7 x69_27j7 x69_35j7 A79j7 A80j7 A82j7 A83j7 A84j7 A85j7 A86j7 = some X0) (hW : GW D cy (gA N q s.heap.size) N q m a s H) (hS : va_S (gA N q s.heap.size) s.heap H locs), W p l e ({ frames := 3, cells := 0, slots := 0, locals := 74 } : Room) s M args below meth c H locs 0 0 (MQ below (va_Qi (fun (r : Int32) (u : (Nat → Value) × (Nat → vp_A)) => r = X0.1 ∧ u.1 6919 = .long X0.2.1 ∧ u.1 6920 = .int X0.2.2.1 ∧ u.1 6921 = .int X0.2.2.2.1 ∧ u.1 6927 = .int X0.2.2.2.2.1 ∧ u.1 6935 = .int X0.2.2.2.2.2.1 ∧ (∀ j, nel j [6919, 6920, 6921, 6927, 6935] = false → u.1 j = m0 j) ∧ u.2 79 = (6001, .inr (.inl X0.2.2.2.2.2.2.1)) ∧ u.2 80 = (16384, .inl X0.2.2.2.2.2.2.2.1) ∧ u.2 82 = (84000, .inl X0.2.2.2.2.2.2.2.2.1) ∧ u.2 83 = (84000, .inl X0.2.2.2.2.2.2.2.2.2.1) ∧ u.2 84 = (84000, .inl X0.2.2.2.2.2.2.2.2.2.2.1) ∧ u.2 85 = (84000, .inl X0.2.2.2.2.2.2.2.2.2.2.2.1) ∧ u.2 86 = (84000, .inl X0.2.2.2.2.2.2.2.2.2.2.2.2) ∧ (∀ j, nel j [79, 80, 82, 83, 84, 85, 86] = false → u.2 j = a0 j)) (gB D cy N q s.heap.size) (gA N q s.heap.size)) args s 0 0 (gA N q s.heap.size)) (F0 M 70 ls []) := by
    intro v3j7 v4j7 v7j7 x69_19j7 x69_20j7 x69_21j7 x69_27j7 x69_35j7 A79j7 A80j7 A82j7 A83j7 A84j7 A85j7 A86j7 m a H locs w_x69_19 w_x69_20 w_x69_21 w_x69_27 w_x69_35 hoff hsh w_A79 w_A80 w_A82 w_A83 w_A84 w_A85 w_A86 hoffa ls hl hs0 hW hS
    unfold fX12_edge_J70 at hs0
    refine lv_aload_n hx hb dX12_edge_70 rfl (lv_at hl 0 rfl) ?_
    refine gf12_30 hx hb hG hown hW (o := 69) (ltN hN 69 rfl) gk69 (v := .ref (q 82)) (sh69_30 hsh) gx179 dX12_edge_71 ?_
    refine lv_aload_n hx hb dX12_edge_74 rfl (lv_at hl 0 rfl) ?_
    refine gf12_35 hx hb hG hown hW (o := 69) (ltN hN 69 rfl) gk69 (v := .int x69_35j7) w_x69_35 gx722 dX12_edge_75 ?_
    refine lv_iload hx hb dX12_edge_78 (lv_at hl 3 rfl) ?_
    obtain ⟨hi10, hs0⟩ := oif hs0
    refine g_iast hx hb hW hS (o := 82) (ltN hN 82 rfl) gk82 w_A82 (vin hi10) dX12_edge_80 (fun a11 H locs ha11 ho11 hW hS => ?_)
    have ho11 := off1 ho11
    have w_A79 : a11 79 = (6001, .inr (.inl A79j7)) := (ho11 79 rfl).trans w_A79
    have w_A80 : a11 80 = (16384, .inl A80j7) := (ho11 80 rfl).trans w_A80
    have w_A82 : a11 82 = (84000, .inl (upd A82j7 x69_35j7.toNatClampNeg v7j7)) := ha11
    have w_A83 : a11 83 = (84000, .inl A83j7) := (ho11 83 rfl).trans w_A83
    have w_A84 : a11 84 = (84000, .inl A84j7) := (ho11 84 rfl).trans w_A84
    have w_A85 : a11 85 = (84000, .inl A85j7) := (ho11 85 rfl).trans w_A85
    have w_A86 : a11 86 = (84000, .inl A86j7) := (ho11 86 rfl).trans w_A86
    have hoffa := offm hoffa ho11 (by decide +kernel)
    refine lv_aload_n hx hb dX12_edge_81 rfl (lv_at hl 0 rfl) ?_
    refine gf12_31 hx hb hG hown hW (o := 69) (ltN hN 69 rfl) gk69 (v := .ref (q 83)) (sh69_31 hsh) gx180 dX12_edge_82 ?_
    refine lv_aload_n hx hb dX12_edge_85 rfl (lv_at hl 0 rfl) ?_
    refine gf12_35 hx hb hG hown hW (o := 69) (ltN hN 69 rfl) gk69 (v := .int x69_35j7) w_x69_35 gx722 dX12_edge_86 ?_
    refine lv_aload_n hx hb dX12_edge_89 rfl (lv_at hl 0 rfl) ?_
    refine gf12_20 hx hb hG hown hW (o := 69) (ltN hN 69 rfl) gk69 (v := .int x69_20j7) w_x69_20 gx508 dX12_edge_90 ?_
    obtain ⟨hi12, hs0⟩ := oif hs0
    refine g_iast hx hb hW hS (o := 83) (ltN hN 83 rfl) gk83 w_A83 (vin hi12) dX12_edge_93 (fun a13 H locs ha13 ho13 hW hS => ?_)
    have ho13 := off1 ho13
    have w_A79 : a13 79 = (6001, .inr (.inl A79j7)) := (ho13 79 rfl).trans w_A79
    have w_A80 : a13 80 = (16384, .inl A80j7) := (ho13 80 rfl).trans w_A80
    have w_A82 : a13 82 = (84000, .inl (upd A82j7 x69_35j7.toNatClampNeg v7j7)) := (ho13 82 rfl).trans w_A82
    have w_A83 : a13 83 = (84000, .inl (upd A83j7 x69_35j7.toNatClampNeg x69_20j7)) := ha13
    have w_A84 : a13 84 = (84000, .inl A84j7) := (ho13 84 rfl).trans w_A84
    have w_A85 : a13 85 = (84000, .inl A85j7) := (ho13 85 rfl).trans w_A85
    have w_A86 : a13 86 = (84000, .inl A86j7) := (ho13 86 rfl).trans w_A86
    have hoffa := offm hoffa ho13 (by decide +kernel)
    refine lv_aload_n hx hb dX12_edge_94 rfl (lv_at hl 0 rfl) ?_
    refine gf12_32 hx hb hG hown hW (o := 69) (ltN hN 69 rfl) gk69 (v := .ref (q 84)) (sh69_32 hsh) gx181 dX12_edge_95 ?_
    refine lv_aload_n hx hb dX12_edge_98 rfl (lv_at hl 0 rfl) ?_
    refine gf12_35 hx hb hG hown hW (o := 69) (ltN hN 69 rfl) gk69 (v := .int x69_35j7) w_x69_35 gx722 dX12_edge_99 ?_
    refine lv_aload_n hx hb dX12_edge_102 rfl (lv_at hl 0 rfl) ?_
    refine gf12_23 hx hb hG hown hW (o := 69) (ltN hN 69 rfl) gk69 (v := .ref (q 76)) (sh69_23 hsh) gx172 dX12_edge_103 ?_
    refine lv_iload_n hx hb dX12_edge_106 rfl (lv_at hl 1 rfl) ?_
    obtain ⟨hi14, hs0⟩ := oif hs0
    refine g_iald hx hb hW (o := 76) (ltN hN 76 rfl) gk76 ((hoffa 76 rfl).trans h_A76) (vin hi14) dX12_edge_107 ?_
    refine lv_bipush (v := 100) hx hb dX12_edge_108 (by decide) ?_
    refine lv_iload hx hb dX12_edge_110 (lv_at hl 2 rfl) ?_
    refine lv_imul hx hb dX12_edge_112 ?_
    refine lv_iadd hx hb dX12_edge_113 ?_
    obtain ⟨hi15, hs0⟩ := oif hs0
    refine g_iast hx hb hW hS (o := 84) (ltN hN 84 rfl) gk84 w_A84 (vin hi15) dX12_edge_114 (fun a16 H locs ha16 ho16 hW hS => ?_)
    have ho16 := off1 ho16
    have w_A79 : a16 79 = (6001, .inr (.inl A79j7)) := (ho16 79 rfl).trans w_A79
    have w_A80 : a16 80 = (16384, .inl A80j7) := (ho16 80 rfl).trans w_A80
    have w_A82 : a16 82 = (84000, .inl (upd A82j7 x69_35j7.toNatClampNeg v7j7)) := (ho16 82 rfl).trans w_A82
    have w_A83 : a16 83 = (84000, .inl (upd A83j7 x69_35j7.toNatClampNeg x69_20j7)) := (ho16 83 rfl).trans w_A83
    have w_A84 : a16 84 = (84000, .inl (upd A84j7 x69_35j7.toNatClampNeg ((A76 v3j7.toNatClampNeg) + (100 * v4j7)))) := ha16
    have w_A85 : a16 85 = (84000, .inl A85j7) := (ho16 85 rfl).trans w_A85
    have w_A86 : a16 86 = (84000, .inl A86j7) := (ho16 86 rfl).trans w_A86
    have hoffa := offm hoffa ho16 (by decide +kernel)
    refine lv_aload_n hx hb dX12_edge_115 rfl (lv_at hl 0 rfl) ?_
    refine gf12_33 hx hb hG hown hW (o := 69) (ltN hN 69 rfl) gk69 (v := .ref (q 85)) (sh69_33 hsh) gx182 dX12_edge_116 ?_
    refine lv_aload_n hx hb dX12_edge_119 rfl (lv_at hl 0 rfl) ?_
    refine gf12_35 hx hb hG hown hW (o := 69) (ltN hN 69 rfl) gk69 (v := .int x69_35j7) w_x69_35 gx722 dX12_edge_120 ?_
    refine lv_aload_n hx hb dX12_edge_123 rfl (lv_at hl 0 rfl) ?_
    refine gf12_24 hx hb hG hown hW (o := 69) (ltN hN 69 rfl) gk69 (v := .ref (q 77)) (sh69_24 hsh) gx173 dX12_edge_124 ?_
    refine lv_iload_n hx hb dX12_edge_127 rfl (lv_at hl 1 rfl) ?_
    obtain ⟨hi17, hs0⟩ := oif hs0
    refine g_iald hx hb hW (o := 77) (ltN hN 77 rfl) gk77 ((hoffa 77 rfl).trans h_A77) (vin hi17) dX12_edge_128 ?_
    obtain ⟨hi18, hs0⟩ := oif hs0
    refine g_iast hx hb hW hS (o := 85) (ltN hN 85 rfl) gk85 w_A85 (vin hi18) dX12_edge_129 (fun a19 H locs ha19 ho19 hW hS => ?_)
    have ho19 := off1 ho19
    have w_A79 : a19 79 = (6001, .inr (.inl A79j7)) := (ho19 79 rfl).trans w_A79
    have w_A80 : a19 80 = (16384, .inl A80j7) := (ho19 80 rfl).trans w_A80
    have w_A82 : a19 82 = (84000, .inl (upd A82j7 x69_35j7.toNatClampNeg v7j7)) := (ho19 82 rfl).trans w_A82
    have w_A83 : a19 83 = (84000, .inl (upd A83j7 x69_35j7.toNatClampNeg x69_20j7)) := (ho19 83 rfl).trans w_A83
    have w_A84 : a19 84 = (84000, .inl (upd A84j7 x69_35j7.toNatClampNeg ((A76 v3j7.toNatClampNeg) + (100 * v4j7)))) := (ho19 84 rfl).trans w_A84
    have w_A85 : a19 85 = (84000, .inl (upd A85j7 x69_35j7.toNatClampNeg (A77 v3j7.toNatClampNeg))) := ha19
    have w_A86 : a19 86 = (84000, .inl A86j7) := (ho19 86 rfl).trans w_A86
    have hoffa := offm hoffa ho19 (by decide +kernel)
    refine lv_aload_n hx hb dX12_edge_130 rfl (lv_at hl 0 rfl) ?_
    refine gf12_34 hx hb hG hown hW (o := 69) (ltN hN 69 rfl) gk69 (v := .ref (q 86)) (sh69_34 hsh) gx183 dX12_edge_131 ?_
    refine lv_aload_n hx hb dX12_edge_134 rfl (lv_at hl 0 rfl) ?_
    refine gf12_35 hx hb hG hown hW (o := 69) (ltN hN 69 rfl) gk69 (v := .int x69_35j7) w_x69_35 gx722 dX12_edge_135 ?_
    refine lv_aload_n hx hb dX12_edge_138 rfl (lv_at hl 0 rfl) ?_
    refine gf12_25 hx hb hG hown hW (o := 69) (ltN hN 69 rfl) gk69 (v := .ref (q 78)) (sh69_25 hsh) gx174 dX12_edge_139 ?_
    refine lv_iload_n hx hb dX12_edge_142 rfl (lv_at hl 1 rfl) ?_
    obtain ⟨hi20, hs0⟩ := oif hs0
    refine g_iald hx hb hW (o := 78) (ltN hN 78 rfl) gk78 ((hoffa 78 rfl).trans h_A78) (vin hi20) dX12_edge_143 ?_
    obtain ⟨hi21, hs0⟩ := oif hs0
    refine g_iast hx hb hW hS (o := 86) (ltN hN 86 rfl) gk86 w_A86 (vin hi21) dX12_edge_144 (fun a22 H locs ha22 ho22 hW hS => ?_)
    have ho22 := off1 ho22
    have w_A79 : a22 79 = (6001, .inr (.inl A79j7)) := (ho22 79 rfl).trans w_A79
    have w_A80 : a22 80 = (16384, .inl A80j7) := (ho22 80 rfl).trans w_A80
    have w_A82 : a22 82 = (84000, .inl (upd A82j7 x69_35j7.toNatClampNeg v7j7)) := (ho22 82 rfl).trans w_A82
    have w_A83 : a22 83 = (84000, .inl (upd A83j7 x69_35j7.toNatClampNeg x69_20j7)) := (ho22 83 rfl).trans w_A83
    have w_A84 : a22 84 = (84000, .inl (upd A84j7 x69_35j7.toNatClampNeg ((A76 v3j7.toNatClampNeg) + (100 * v4j7)))) := (ho22 84 rfl).trans w_A84
    have w_A85 : a22 85 = (84000, .inl (upd A85j7 x69_35j7.toNatClampNeg (A77 v3j7.toNatClampNeg))) := (ho22 85 rfl).trans w_A85
    have w_A86 : a22 86 = (84000, .inl (upd A86j7 x69_35j7.toNatClampNeg (A78 v3j7.toNatClampNeg))) := ha22
    have hoffa := offm hoffa ho22 (by decide +kernel)
    refine lv_aload_n hx hb dX12_edge_145 rfl (lv_at hl 0 rfl) ?_
    refine lv_dup hx hb dX12_edge_146 rfl ?_
    refine gf12_35 hx hb hG hown hW (o := 69) (ltN hN 69 rfl) gk69 (v := .int x69_35j7) w_x69_35 gx722 dX12_edge_147 ?_
    refine lv_iconst (v := 1) hx hb dX12_edge_150 (by decide) ?_
    refine lv_iadd hx hb dX12_edge_151 ?_
    refine gp12_35 hx hb hG hown hW hS (o := 69) (ltN hN 69 rfl) gk69 (v := (x69_35j7 + 1)) gx722 dX12_edge_152 (fun m23 H locs hm23 ho23 hW hS => ?_)
    have ho23 := off1 ho23
    have w_x69_19 : m23 6919 = .long x69_19j7 := (ho23 6919 rfl).trans w_x69_19
    have w_x69_20 : m23 6920 = .int x69_20j7 := (ho23 6920 rfl).trans w_x69_20
    have w_x69_21 : m23 6921 = .int x69_21j7 := (ho23 6921 rfl).trans w_x69_21
    have w_x69_27 : m23 6927 = .int x69_27j7 := (ho23 6927 rfl).trans w_x69_27
    have w_x69_35 : m23 6935 = .int (x69_35j7 + 1) := hm23
    have hoff := offm hoff ho23 (by decide +kernel)
    have hsh := SH.off hsh ho23 (by decide +kernel)
    refine lv_iconst (v := 1) hx hb dX12_edge_155 (by decide) ?_
    have hs0 := Option.some.inj hs0
    subst hs0
    exact W.zret hx hb hr rfl (fun t ht hw => ⟨⟨_, (m23, a22), rfl, ⟨rfl, w_x69_19, w_x69_20, w_x69_21, w_x69_27, w_x69_35, hoff, w_A79, w_A80, w_A82, w_A83, w_A84, w_A85, w_A86, hoffa⟩, g_end hW ht hw⟩, hS.F ht⟩) hS.2.2 dX12_edge_156 hlocks
  refine lv_aload_n hx hb dX12_edge_0 rfl (lv_at hl 0 rfl) ?_
  refine lv_lload_n hx hb dX12_edge_1 rfl (lv_at hl 1 rfl) ?_
  refine lv_aload_n hx hb dX12_edge_2 rfl (lv_at hl 0 rfl) ?_
  refine gf12_23 hx hb hG hown hW (o := 69) (ltN hN 69 rfl) gk69 (v := .ref (q 76)) (sh69_23 hsh) gx172 dX12_edge_3 ?_
  refine lv_iload_n hx hb dX12_edge_6 rfl (lv_at hl 2 rfl) ?_
  obtain ⟨hi1, hs0⟩ := oif hs0
  refine g_iald hx hb hW (o := 76) (ltN hN 76 rfl) gk76 ((hoffa 76 rfl).trans h_A76) (vin hi1) dX12_edge_7 ?_
  refine lv_aload_n hx hb dX12_edge_8 rfl (lv_at hl 0 rfl) ?_
  refine gf12_24 hx hb hG hown hW (o := 69) (ltN hN 69 rfl) gk69 (v := .ref (q 77)) (sh69_24 hsh) gx173 dX12_edge_9 ?_
  refine lv_iload_n hx hb dX12_edge_12 rfl (lv_at hl 2 rfl) ?_
  obtain ⟨hi2, hs0⟩ := oif hs0
  refine g_iald hx hb hW (o := 77) (ltN hN 77 rfl) gk77 ((hoffa 77 rfl).trans h_A77) (vin hi2) dX12_edge_13 ?_
  refine lv_aload_n hx hb dX12_edge_14 rfl (lv_at hl 0 rfl) ?_
  refine gf12_25 hx hb hG hown hW (o := 69) (ltN hN 69 rfl) gk69 (v := .ref (q 78)) (sh69_25 hsh) gx174 dX12_edge_15 ?_
  refine lv_iload_n hx hb dX12_edge_18 rfl (lv_at hl 2 rfl) ?_
  obtain ⟨hi3, hs0⟩ := oif hs0
  refine g_iald hx hb hW (o := 78) (ltN hN 78 rfl) gk78 ((hoffa 78 rfl).trans h_A78) (vin hi3) dX12_edge_19 ?_
  refine lv_iload hx hb dX12_edge_20 (lv_at hl 3 rfl) ?_
  obtain ⟨r4, hf4, hs0⟩ := obind hs0
  refine g_Vv (n := 5) hx hb hml hown hG hW hS [.long p1, .int (A76 p3.toNatClampNeg), .int (A77 p3.toNatClampNeg), .int (A78 p3.toNatClampNeg), .int p4] (kX12_does hN hsh ((hoff 6900 rfl).trans h_x69_0) ((hoff 6901 rfl).trans h_x69_1) ((hoff 6903 rfl).trans h_x69_3) ((hoff 6922 rfl).trans h_x69_22) h_x69_19 h_x69_20 h_x69_21 F p1 (A76 p3.toNatClampNeg) (A77 p3.toNatClampNeg) (A78 p3.toNatClampNeg) p4 hf4) (ltN hN 69 rfl) gk69 (by decide) rfl rfl (gd_V gx509 gx510 gx511 gx5 gx512) rfl rfl (by decide) ⟨Nat.le_of_ble_eq_true rfl, Nat.le_of_ble_eq_true rfl⟩ rfl hl (Nat.le_of_ble_eq_true rfl) ⟨Nat.zero_le _, Nat.zero_le _⟩ dX12_edge_22 (fun m4 a4 H locs hp4 hW hS => ?_)
  obtain ⟨hp4_x69_19, hp4_x69_20, hp4_x69_21, ho4, ha4⟩ := hp4
  rw [ha4] at hW
  have w_x69_19 : m4 6919 = .long r4.1 := hp4_x69_19
  have w_x69_20 : m4 6920 = .int r4.2.1 := hp4_x69_20
  have w_x69_21 : m4 6921 = .int r4.2.2 := hp4_x69_21
  have w_x69_27 : m4 6927 = .int x69_27 := (ho4 6927 rfl).trans h_x69_27
  have w_x69_35 : m4 6935 = .int x69_35 := (ho4 6935 rfl).trans h_x69_35
  have hoff := offm hoff ho4 (by decide +kernel)
  have hsh := SH.off hsh ho4 (by decide +kernel)
  refine lv_aload_n hx hb dX12_edge_25 rfl (lv_at hl 0 rfl) ?_
  refine gf12_19 hx hb hG hown hW (o := 69) (ltN hN 69 rfl) gk69 (v := .long r4.1) w_x69_19 gx506 dX12_edge_26 ?_
  refine lv_lstore (lv' := [(5, .long r4.1), (0, .ref (q 69)), (1, .long p1), (3, .int p3), (4, .int p4)]) hx hb dX12_edge_29 hl (by decide) rfl (fun ls hl => ?_)
  refine lv_aload_n hx hb dX12_edge_31 rfl (lv_at hl 1 rfl) ?_
  refine lv_lload hx hb dX12_edge_32 (lv_at hl 0 rfl) ?_
  obtain ⟨r5, hf5, hs0⟩ := obind hs0
  refine g_ViR (n := 1) hx hb hml hown hG hW hS [.long r4.1] (kX12_numberOf hN hsh h_A79 h_A80 F r4.1 hf5) (ltN hN 69 rfl) gk69 (by decide) rfl rfl (gd_V gx739 gx740 gx741 gx5 gx742) rfl rfl (by decide) ⟨Nat.le_of_ble_eq_true rfl, Nat.le_of_ble_eq_true rfl⟩ rfl hl (Nat.le_of_ble_eq_true rfl) ⟨Nat.zero_le _, Nat.zero_le _⟩ dX12_edge_34 (fun H locs hW hS => ?_)
  refine lv_istore (lv' := [(7, .int r5), (5, .long r4.1), (0, .ref (q 69)), (1, .long p1), (3, .int p3), (4, .int p4)]) hx hb dX12_edge_37 hl (by decide) rfl (fun ls hl => ?_)
  refine lv_iload hx hb dX12_edge_39 (lv_at hl 0 rfl) ?_
  refine lv_if_ge (tgt := 70) hx hb dX12_edge_41 (by decide) (fun c6 => ?_) (fun c6 => ?_)
  · rw [if_pos c6] at hs0
    exact hJ70_0 p3 p4 r5 r4.1 r4.2.1 r4.2.2 x69_27 x69_35 A79 A80 A82 A83 A84 A85 A86 m4 a0 _ _ w_x69_19 w_x69_20 w_x69_21 w_x69_27 w_x69_35 hoff hsh h_A79 h_A80 h_A82 h_A83 h_A84 h_A85 h_A86 hoffa ls (lv_sub hl [2, 4, 5, 0] rfl) hs0 hW hS
  · rw [if_neg c6] at hs0
    refine lv_aload_n hx hb dX12_edge_44 rfl (lv_at hl 2 rfl) ?_
    refine gf12_27 hx hb hG hown hW (o := 69) (ltN hN 69 rfl) gk69 (v := .int x69_27) w_x69_27 gx713 dX12_edge_45 ?_
    refine lv_sipush (v := 6000) hx hb dX12_edge_48 (by decide) ?_
    refine lv_icmp_ne (tgt := 56) hx hb dX12_edge_51 (by decide) (fun c8 => ?_) (fun c8 => ?_)
    · rw [if_neg c8] at hs0
      refine lv_aload_n hx hb dX12_edge_56 rfl (lv_at hl 2 rfl) ?_
      refine lv_lload hx hb dX12_edge_57 (lv_at hl 1 rfl) ?_
      obtain ⟨r9, hf9, hs0⟩ := obind hs0
      refine g_Vv (n := 1) hx hb hml hown hG hW hS [.long r4.1] (kX12_comes hN hsh w_x69_27 h_A79 h_A80 F r4.1 hf9) (ltN hN 69 rfl) gk69 (by decide) rfl rfl (gd_V gx723 gx724 gx725 gx5 gx726) rfl rfl (by decide) ⟨Nat.le_of_ble_eq_true rfl, Nat.le_of_ble_eq_true rfl⟩ rfl hl (Nat.le_of_ble_eq_true rfl) ⟨Nat.zero_le _, Nat.zero_le _⟩ dX12_edge_59 (fun m9 a9 H locs hp9 hW hS => ?_)
      obtain ⟨hp9_x69_27, ho9, hp9_A79, hp9_A80, hoa9⟩ := hp9
      have w_x69_19 : m9 6919 = .long r4.1 := (ho9 6919 rfl).trans w_x69_19
      have w_x69_20 : m9 6920 = .int r4.2.1 := (ho9 6920 rfl).trans w_x69_20
      have w_x69_21 : m9 6921 = .int r4.2.2 := (ho9 6921 rfl).trans w_x69_21
      have w_x69_27 : m9 6927 = .int r9.1 := hp9_x69_27
      have w_x69_35 : m9 6935 = .int x69_35 := (ho9 6935 rfl).trans w_x69_35
      have hoff := offm hoff ho9 (by decide +kernel)
      have hsh := SH.off hsh ho9 (by decide +kernel)
      have w_A79 : a9 79 = (6001, .inr (.inl r9.2.1)) := hp9_A79
      have w_A80 : a9 80 = (16384, .inl r9.2.2) := hp9_A80
      have w_A82 : a9 82 = (84000, .inl A82) := (hoa9 82 rfl).trans h_A82
      have w_A83 : a9 83 = (84000, .inl A83) := (hoa9 83 rfl).trans h_A83
      have w_A84 : a9 84 = (84000, .inl A84) := (hoa9 84 rfl).trans h_A84
      have w_A85 : a9 85 = (84000, .inl A85) := (hoa9 85 rfl).trans h_A85
      have w_A86 : a9 86 = (84000, .inl A86) := (hoa9 86 rfl).trans h_A86
      have hoffa := offm hoffa hoa9 (by decide +kernel)
      refine lv_aload_n hx hb dX12_edge_62 rfl (lv_at hl 2 rfl) ?_
      refine gf12_27 hx hb hG hown hW (o := 69) (ltN hN 69 rfl) gk69 (v := .int r9.1) w_x69_27 gx713 dX12_edge_63 ?_
      refine lv_iconst (v := 1) hx hb dX12_edge_66 (by decide) ?_
      refine lv_isub hx hb dX12_edge_67 ?_
      refine lv_istore (lv' := [(7, .int (r9.1 - 1)), (5, .long r4.1), (0, .ref (q 69)), (1, .long p1), (3, .int p3), (4, .int p4)]) hx hb dX12_edge_68 hl (by decide) rfl (fun ls hl => ?_)
      exact hJ70_0 p3 p4 (r9.1 - 1) r4.1 r4.2.1 r4.2.2 r9.1 x69_35 r9.2.1 r9.2.2 A82 A83 A84 A85 A86 m9 a9 _ _ w_x69_19 w_x69_20 w_x69_21 w_x69_27 w_x69_35 hoff hsh w_A79 w_A80 w_A82 w_A83 w_A84 w_A85 w_A86 hoffa ls (lv_sub hl [2, 4, 5, 0] rfl) hs0 hW hS
    · rw [if_pos c8] at hs0
      refine lv_iconst (v := 0) hx hb dX12_edge_54 (by decide) ?_
      have hs0 := Option.some.inj hs0
      subst hs0
      exact W.zret hx hb hr rfl (fun t ht hw => ⟨⟨_, (m4, a0), rfl, ⟨rfl, w_x69_19, w_x69_20, w_x69_21, w_x69_27, w_x69_35, hoff, h_A79, h_A80, h_A82, h_A83, h_A84, h_A85, h_A86, hoffa⟩, g_end hW ht hw⟩, hS.F ht⟩) hS.2.2 dX12_edge_55 hlocks
-- HealLinkModel.edgesOf (I)Z
def fX12_edgesOf_J78 (F : Nat) (x69_0 : Int32) (x69_1 : Int32) (x69_3 : Int32) (x69_22 : Int32) (v1 : Int32) (v2 : Int32) (v3j12 : Int32) (x69_19j12 : Int64) (x69_20j12 : Int32) (x69_21j12 : Int32) (x69_27j12 : Int32) (x69_35j12 : Int32) (A76 : Nat → Int32) (A77 : Nat → Int32) (A78 : Nat → Int32) (A79j12 : Nat → Int64) (A80j12 : Nat → Int32) (A81 : Nat → Int32) (A82j12 : Nat → Int32) (A83j12 : Nat → Int32) (A84j12 : Nat → Int32) (A85j12 : Nat → Int32) (A86j12 : Nat → Int32) : Option (((Int64 × Int32 × Int32 × Int32 × Int32 × (Nat → Int64) × (Nat → Int32) × (Nat → Int32) × (Nat → Int32) × (Nat → Int32) × (Nat → Int32) × (Nat → Int32)) ⊕ (Int64 × Int32 × Int32 × Int32 × Int32 × (Nat → Int64) × (Nat → Int32) × (Nat → Int32) × (Nat → Int32) × (Nat → Int32) × (Nat → Int32) × (Nat → Int32)) ⊕ (Int64 × Int32 × Int32 × Int32 × Int32 × (Nat → Int64) × (Nat → Int32) × (Nat → Int32) × (Nat → Int32) × (Nat → Int32) × (Nat → Int32) × (Nat → Int32))) ⊕ (Int32 × Int64 × Int32 × Int32 × Int32 × Int32 × (Nat → Int64) × (Nat → Int32) × (Nat → Int32) × (Nat → Int32) × (Nat → Int32) × (Nat → Int32) × (Nat → Int32))) := some (Sum.inr (v3j12 + 1, x69_19j12, x69_20j12, x69_21j12, x69_27j12, x69_35j12, A79j12, A80j12, A82j12, A83j12, A84j12, A85j12, A86j12))
def fX12_edgesOf_S24 (F : Nat) (x69_0 : Int32) (x69_1 : Int32) (x69_3 : Int32) (x69_22 : Int32) (v1 : Int32) (v2 : Int32) (A76 : Nat → Int32) (A77 : Nat → Int32) (A78 : Nat → Int32) (A81 : Nat → Int32) (v3 : Int32) (x69_19 : Int64) (x69_20 : Int32) (x69_21 : Int32) (x69_27 : Int32) (x69_35 : Int32) (A79 : Nat → Int64) (A80 : Nat → Int32) (A82 : Nat → Int32) (A83 : Nat → Int32) (A84 : Nat → Int32) (A85 : Nat → Int32) (A86 : Nat → Int32) : Option (((Int64 × Int32 × Int32 × Int32 × Int32 × (Nat → Int64) × (Nat → Int32) × (Nat → Int32) × (Nat → Int32) × (Nat → Int32) × (Nat → Int32) × (Nat → Int32)) ⊕ (Int64 × Int32 × Int32 × Int32 × Int32 × (Nat → Int64) × (Nat → Int32) × (Nat → Int32) × (Nat → Int32) × (Nat → Int32) × (Nat → Int32) × (Nat → Int32)) ⊕ (Int64 × Int32 × Int32 × Int32 × Int32 × (Nat → Int64) × (Nat → Int32) × (Nat → Int32) × (Nat → Int32) × (Nat → Int32) × (Nat → Int32) × (Nat → Int32))) ⊕ (Int32 × Int64 × Int32 × Int32 × Int32 × Int32 × (Nat → Int64) × (Nat → Int32) × (Nat → Int32) × (Nat → Int32) × (Nat → Int32) × (Nat → Int32) × (Nat → Int32))) := (if v2 ≤ v3 then some (Sum.inl (Sum.inr (Sum.inr ((x69_19, x69_20, x69_21, x69_27, x69_35, A79, A80, A82, A83, A84, A85, A86))))) else (if inb v1 6001 = true then ((fX12_edge F x69_0 x69_1 x69_3 x69_22 A76 A77 A78 x69_19 x69_20 x69_21 x69_27 x69_35 A79 A80 A82 A83 A84 A85 A86 (A79 v1.toNatClampNeg) v3 0).bind (fun r8 => (if r8.1 = 0 then some (Sum.inl (Sum.inl (r8.2.1, r8.2.2.1, r8.2.2.2.1, r8.2.2.2.2.1, r8.2.2.2.2.2.1, r8.2.2.2.2.2.2.1, r8.2.2.2.2.2.2.2.1, r8.2.2.2.2.2.2.2.2.1, r8.2.2.2.2.2.2.2.2.2.1, r8.2.2.2.2.2.2.2.2.2.2.1, r8.2.2.2.2.2.2.2.2.2.2.2.1, r8.2.2.2.2.2.2.2.2.2.2.2.2))) else (if inb (r8.2.2.2.2.2.1 - 1) 84000 = true then (if (r8.2.2.2.2.2.2.2.2.2.1 (r8.2.2.2.2.2.1 - 1).toNatClampNeg) < 4 then fX12_edgesOf_J78 F x69_0 x69_1 x69_3 x69_22 v1 v2 v3 r8.2.1 r8.2.2.1 r8.2.2.2.1 r8.2.2.2.2.1 r8.2.2.2.2.2.1 A76 A77 A78 r8.2.2.2.2.2.2.1 r8.2.2.2.2.2.2.2.1 A81 r8.2.2.2.2.2.2.2.2.1 r8.2.2.2.2.2.2.2.2.2.1 r8.2.2.2.2.2.2.2.2.2.2.1 r8.2.2.2.2.2.2.2.2.2.2.2.1 r8.2.2.2.2.2.2.2.2.2.2.2.2 else (if inb v1 6001 = true then ((fX12_edge F x69_0 x69_1 x69_3 x69_22 A76 A77 A78 r8.2.1 r8.2.2.1 r8.2.2.2.1 r8.2.2.2.2.1 r8.2.2.2.2.2.1 r8.2.2.2.2.2.2.1 r8.2.2.2.2.2.2.2.1 r8.2.2.2.2.2.2.2.2.1 r8.2.2.2.2.2.2.2.2.2.1 r8.2.2.2.2.2.2.2.2.2.2.1 r8.2.2.2.2.2.2.2.2.2.2.2.1 r8.2.2.2.2.2.2.2.2.2.2.2.2 (r8.2.2.2.2.2.2.1 v1.toNatClampNeg) v3 1).bind (fun r14 => (if r14.1 = 0 then some (Sum.inl (Sum.inr (Sum.inl (r14.2.1, r14.2.2.1, r14.2.2.2.1, r14.2.2.2.2.1, r14.2.2.2.2.2.1, r14.2.2.2.2.2.2.1, r14.2.2.2.2.2.2.2.1, r14.2.2.2.2.2.2.2.2.1, r14.2.2.2.2.2.2.2.2.2.1, r14.2.2.2.2.2.2.2.2.2.2.1, r14.2.2.2.2.2.2.2.2.2.2.2.1, r14.2.2.2.2.2.2.2.2.2.2.2.2)))) else fX12_edgesOf_J78 F x69_0 x69_1 x69_3 x69_22 v1 v2 v3 r14.2.1 r14.2.2.1 r14.2.2.2.1 r14.2.2.2.2.1 r14.2.2.2.2.2.1 A76 A77 A78 r14.2.2.2.2.2.2.1 r14.2.2.2.2.2.2.2.1 A81 r14.2.2.2.2.2.2.2.2.1 r14.2.2.2.2.2.2.2.2.2.1 r14.2.2.2.2.2.2.2.2.2.2.1 r14.2.2.2.2.2.2.2.2.2.2.2.1 r14.2.2.2.2.2.2.2.2.2.2.2.2))) else none)) else none)))) else none))
def fX12_edgesOf (F : Nat) (x69_0 : Int32) (x69_1 : Int32) (x69_3 : Int32) (x69_22 : Int32) (x69_19 : Int64) (x69_20 : Int32) (x69_21 : Int32) (x69_27 : Int32) (x69_35 : Int32) (A76 : Nat → Int32) (A77 : Nat → Int32) (A78 : Nat → Int32) (A79 : Nat → Int64) (A80 : Nat → Int32) (A81 : Nat → Int32) (A82 : Nat → Int32) (A83 : Nat → Int32) (A84 : Nat → Int32) (A85 : Nat → Int32) (A86 : Nat → Int32) (p1 : Int32) : Option (Int32 × Int64 × Int32 × Int32 × Int32 × Int32 × (Nat → Int32) × (Nat → Int32) × (Nat → Int32) × (Nat → Int64) × (Nat → Int32) × (Nat → Int32) × (Nat → Int32) × (Nat → Int32) × (Nat → Int32) × (Nat → Int32) × (Nat → Int32)) := (if inb p1 6002 = true then (if inb p1 6001 = true then ((fX12_laysActs F x69_1 A76 A77 A78 (A79 p1.toNatClampNeg) 1).bind (fun r4 => (gloop (fun u5 : (Int32 × Int64 × Int32 × Int32 × Int32 × Int32 × (Nat → Int64) × (Nat → Int32) × (Nat → Int32) × (Nat → Int32) × (Nat → Int32) × (Nat → Int32) × (Nat → Int32)) => fX12_edgesOf_S24 F x69_0 x69_1 x69_3 x69_22 p1 r4.1 r4.2.1 r4.2.2.1 r4.2.2.2 (upd A81 p1.toNatClampNeg x69_35) u5.1 u5.2.1 u5.2.2.1 u5.2.2.2.1 u5.2.2.2.2.1 u5.2.2.2.2.2.1 u5.2.2.2.2.2.2.1 u5.2.2.2.2.2.2.2.1 u5.2.2.2.2.2.2.2.2.1 u5.2.2.2.2.2.2.2.2.2.1 u5.2.2.2.2.2.2.2.2.2.2.1 u5.2.2.2.2.2.2.2.2.2.2.2.1 u5.2.2.2.2.2.2.2.2.2.2.2.2) F (0, x69_19, x69_20, x69_21, x69_27, x69_35, A79, A80, A82, A83, A84, A85, A86)).bind (Sum.elim (fun t5_44 => some (0, t5_44.1, t5_44.2.1, t5_44.2.2.1, t5_44.2.2.2.1, t5_44.2.2.2.2.1, r4.2.1, r4.2.2.1, r4.2.2.2, t5_44.2.2.2.2.2.1, t5_44.2.2.2.2.2.2.1, upd A81 p1.toNatClampNeg x69_35, t5_44.2.2.2.2.2.2.2.1, t5_44.2.2.2.2.2.2.2.2.1, t5_44.2.2.2.2.2.2.2.2.2.1, t5_44.2.2.2.2.2.2.2.2.2.2.1, t5_44.2.2.2.2.2.2.2.2.2.2.2)) (Sum.elim (fun t5_76 => some (0, t5_76.1, t5_76.2.1, t5_76.2.2.1, t5_76.2.2.2.1, t5_76.2.2.2.2.1, r4.2.1, r4.2.2.1, r4.2.2.2, t5_76.2.2.2.2.2.1, t5_76.2.2.2.2.2.2.1, upd A81 p1.toNatClampNeg x69_35, t5_76.2.2.2.2.2.2.2.1, t5_76.2.2.2.2.2.2.2.2.1, t5_76.2.2.2.2.2.2.2.2.2.1, t5_76.2.2.2.2.2.2.2.2.2.2.1, t5_76.2.2.2.2.2.2.2.2.2.2.2)) (fun t5_84 => (if inb (p1 + 1) 6002 = true then some (1, t5_84.1, t5_84.2.1, t5_84.2.2.1, t5_84.2.2.2.1, t5_84.2.2.2.2.1, r4.2.1, r4.2.2.1, r4.2.2.2, t5_84.2.2.2.2.2.1, t5_84.2.2.2.2.2.2.1, upd (upd A81 p1.toNatClampNeg x69_35) (p1 + 1).toNatClampNeg t5_84.2.2.2.2.1, t5_84.2.2.2.2.2.2.2.1, t5_84.2.2.2.2.2.2.2.2.1, t5_84.2.2.2.2.2.2.2.2.2.1, t5_84.2.2.2.2.2.2.2.2.2.2.1, t5_84.2.2.2.2.2.2.2.2.2.2.2) else none)))))) else none) else none)
theorem dX12_edgesOf_0 : decode cX12_edgesOf 0 = .ok (.aload_n 0, 1) := by decide +kernel
theorem dX12_edgesOf_1 : decode cX12_edgesOf 1 = .ok (.getfield 57, 3) := by decide +kernel
theorem dX12_edgesOf_4 : decode cX12_edgesOf 4 = .ok (.iload_n 1, 1) := by decide +kernel
theorem dX12_edgesOf_5 : decode cX12_edgesOf 5 = .ok (.aload_n 0, 1) := by decide +kernel
theorem dX12_edgesOf_6 : decode cX12_edgesOf 6 = .ok (.getfield 258, 3) := by decide +kernel
theorem dX12_edgesOf_9 : decode cX12_edgesOf 9 = .ok (.iastore, 1) := by decide +kernel
theorem dX12_edgesOf_10 : decode cX12_edgesOf 10 = .ok (.aload_n 0, 1) := by decide +kernel
theorem dX12_edgesOf_11 : decode cX12_edgesOf 11 = .ok (.aload_n 0, 1) := by decide +kernel
theorem dX12_edgesOf_12 : decode cX12_edgesOf 12 = .ok (.getfield 50, 3) := by decide +kernel
theorem dX12_edgesOf_15 : decode cX12_edgesOf 15 = .ok (.iload_n 1, 1) := by decide +kernel
theorem dX12_edgesOf_16 : decode cX12_edgesOf 16 = .ok (.laload, 1) := by decide +kernel
theorem dX12_edgesOf_17 : decode cX12_edgesOf 17 = .ok (.iconst 1, 1) := by decide +kernel
theorem dX12_edgesOf_18 : decode cX12_edgesOf 18 = .ok (.invokevirtual 240, 3) := by decide +kernel
theorem dX12_edgesOf_21 : decode cX12_edgesOf 21 = .ok (.istore_n 2, 1) := by decide +kernel
theorem dX12_edgesOf_22 : decode cX12_edgesOf 22 = .ok (.iconst 0, 1) := by decide +kernel
theorem dX12_edgesOf_23 : decode cX12_edgesOf 23 = .ok (.istore_n 3, 1) := by decide +kernel
theorem dX12_edgesOf_24 : decode cX12_edgesOf 24 = .ok (.iload_n 3, 1) := by decide +kernel
theorem dX12_edgesOf_25 : decode cX12_edgesOf 25 = .ok (.iload_n 2, 1) := by decide +kernel
theorem dX12_edgesOf_26 : decode cX12_edgesOf 26 = .ok (.if_icmp .ge 58, 3) := by decide +kernel
theorem dX12_edgesOf_29 : decode cX12_edgesOf 29 = .ok (.aload_n 0, 1) := by decide +kernel
theorem dX12_edgesOf_30 : decode cX12_edgesOf 30 = .ok (.aload_n 0, 1) := by decide +kernel
theorem dX12_edgesOf_31 : decode cX12_edgesOf 31 = .ok (.getfield 50, 3) := by decide +kernel
theorem dX12_edgesOf_34 : decode cX12_edgesOf 34 = .ok (.iload_n 1, 1) := by decide +kernel
theorem dX12_edgesOf_35 : decode cX12_edgesOf 35 = .ok (.laload, 1) := by decide +kernel
theorem dX12_edgesOf_36 : decode cX12_edgesOf 36 = .ok (.iload_n 3, 1) := by decide +kernel
theorem dX12_edgesOf_37 : decode cX12_edgesOf 37 = .ok (.iconst 0, 1) := by decide +kernel
theorem dX12_edgesOf_38 : decode cX12_edgesOf 38 = .ok (.invokevirtual 268, 3) := by decide +kernel
theorem dX12_edgesOf_41 : decode cX12_edgesOf 41 = .ok (.ifCond .ne 5, 3) := by decide +kernel
theorem dX12_edgesOf_44 : decode cX12_edgesOf 44 = .ok (.iconst 0, 1) := by decide +kernel
theorem dX12_edgesOf_45 : decode cX12_edgesOf 45 = .ok (.ireturn, 1) := by decide +kernel
theorem dX12_edgesOf_46 : decode cX12_edgesOf 46 = .ok (.aload_n 0, 1) := by decide +kernel
theorem dX12_edgesOf_47 : decode cX12_edgesOf 47 = .ok (.getfield 64, 3) := by decide +kernel
theorem dX12_edgesOf_50 : decode cX12_edgesOf 50 = .ok (.aload_n 0, 1) := by decide +kernel
theorem dX12_edgesOf_51 : decode cX12_edgesOf 51 = .ok (.getfield 258, 3) := by decide +kernel
theorem dX12_edgesOf_54 : decode cX12_edgesOf 54 = .ok (.iconst 1, 1) := by decide +kernel
theorem dX12_edgesOf_55 : decode cX12_edgesOf 55 = .ok (.isub, 1) := by decide +kernel
theorem dX12_edgesOf_56 : decode cX12_edgesOf 56 = .ok (.iaload, 1) := by decide +kernel
theorem dX12_edgesOf_57 : decode cX12_edgesOf 57 = .ok (.iconst 4, 1) := by decide +kernel
theorem dX12_edgesOf_58 : decode cX12_edgesOf 58 = .ok (.if_icmp .lt 20, 3) := by decide +kernel
theorem dX12_edgesOf_61 : decode cX12_edgesOf 61 = .ok (.aload_n 0, 1) := by decide +kernel
theorem dX12_edgesOf_62 : decode cX12_edgesOf 62 = .ok (.aload_n 0, 1) := by decide +kernel
theorem dX12_edgesOf_63 : decode cX12_edgesOf 63 = .ok (.getfield 50, 3) := by decide +kernel
theorem dX12_edgesOf_66 : decode cX12_edgesOf 66 = .ok (.iload_n 1, 1) := by decide +kernel
theorem dX12_edgesOf_67 : decode cX12_edgesOf 67 = .ok (.laload, 1) := by decide +kernel
theorem dX12_edgesOf_68 : decode cX12_edgesOf 68 = .ok (.iload_n 3, 1) := by decide +kernel
theorem dX12_edgesOf_69 : decode cX12_edgesOf 69 = .ok (.iconst 1, 1) := by decide +kernel
theorem dX12_edgesOf_70 : decode cX12_edgesOf 70 = .ok (.invokevirtual 268, 3) := by decide +kernel
theorem dX12_edgesOf_73 : decode cX12_edgesOf 73 = .ok (.ifCond .ne 5, 3) := by decide +kernel
theorem dX12_edgesOf_76 : decode cX12_edgesOf 76 = .ok (.iconst 0, 1) := by decide +kernel
theorem dX12_edgesOf_77 : decode cX12_edgesOf 77 = .ok (.ireturn, 1) := by decide +kernel
theorem dX12_edgesOf_78 : decode cX12_edgesOf 78 = .ok (.iinc 3 1, 3) := by decide +kernel
theorem dX12_edgesOf_81 : decode cX12_edgesOf 81 = .ok (.goto (-57), 3) := by decide +kernel
theorem dX12_edgesOf_84 : decode cX12_edgesOf 84 = .ok (.aload_n 0, 1) := by decide +kernel
theorem dX12_edgesOf_85 : decode cX12_edgesOf 85 = .ok (.getfield 57, 3) := by decide +kernel
theorem dX12_edgesOf_88 : decode cX12_edgesOf 88 = .ok (.iload_n 1, 1) := by decide +kernel
theorem dX12_edgesOf_89 : decode cX12_edgesOf 89 = .ok (.iconst 1, 1) := by decide +kernel
theorem dX12_edgesOf_90 : decode cX12_edgesOf 90 = .ok (.iadd, 1) := by decide +kernel
theorem dX12_edgesOf_91 : decode cX12_edgesOf 91 = .ok (.aload_n 0, 1) := by decide +kernel
theorem dX12_edgesOf_92 : decode cX12_edgesOf 92 = .ok (.getfield 258, 3) := by decide +kernel
theorem dX12_edgesOf_95 : decode cX12_edgesOf 95 = .ok (.iastore, 1) := by decide +kernel
theorem dX12_edgesOf_96 : decode cX12_edgesOf 96 = .ok (.iconst 1, 1) := by decide +kernel
theorem dX12_edgesOf_97 : decode cX12_edgesOf 97 = .ok (.ireturn, 1) := by decide +kernel
set_option maxHeartbeats 4000000 in
set_option maxRecDepth 100000 in
theorem kX12_edgesOf {l : Launch} {D : va_G} {cy : Nat → ClassId} {N : Nat} {q : Nat → Nat} {m0 : Nat → Value} {a0 : Nat → vp_A} {sz : Nat} (hN : 105 ≤ N) (hsh : SH q m0) {x69_0 : Int32} (h_x69_0 : m0 6900 = .int x69_0) {x69_1 : Int32} (h_x69_1 : m0 6901 = .int x69_1) {x69_3 : Int32} (h_x69_3 : m0 6903 = .int x69_3) {x69_22 : Int32} (h_x69_22 : m0 6922 = .int x69_22) {x69_19 : Int64} (h_x69_19 : m0 6919 = .long x69_19) {x69_20 : Int32} (h_x69_20 : m0 6920 = .int x69_20) {x69_21 : Int32} (h_x69_21 : m0 6921 = .int x69_21) {x69_27 : Int32} (h_x69_27 : m0 6927 = .int x69_27) {x69_35 : Int32} (h_x69_35 : m0 6935 = .int x69_35) {A76 : Nat → Int32} (h_A76 : a0 76 = (40, .inl A76)) {A77 : Nat → Int32} (h_A77 : a0 77 = (40, .inl A77)) {A78 : Nat → Int32} (h_A78 : a0 78 = (40, .inl A78)) {A79 : Nat → Int64} (h_A79 : a0 79 = (6001, .inr (.inl A79))) {A80 : Nat → Int32} (h_A80 : a0 80 = (16384, .inl A80)) {A81 : Nat → Int32} (h_A81 : a0 81 = (6002, .inl A81)) {A82 : Nat → Int32} (h_A82 : a0 82 = (84000, .inl A82)) {A83 : Nat → Int32} (h_A83 : a0 83 = (84000, .inl A83)) {A84 : Nat → Int32} (h_A84 : a0 84 = (84000, .inl A84)) {A85 : Nat → Int32} (h_A85 : a0 85 = (84000, .inl A85)) {A86 : Nat → Int32} (h_A86 : a0 86 = (84000, .inl A86)) (F : Nat) (p1 : Int32) {X0 : Int32 × Int64 × Int32 × Int32 × Int32 × Int32 × (Nat → Int32) × (Nat → Int32) × (Nat → Int32) × (Nat → Int64) × (Nat → Int32) × (Nat → Int32) × (Nat → Int32) × (Nat → Int32) × (Nat → Int32) × (Nat → Int32) × (Nat → Int32)} (hs0 : fX12_edgesOf F x69_0 x69_1 x69_3 x69_22 x69_19 x69_20 x69_21 x69_27 x69_35 A76 A77 A78 A79 A80 A81 A82 A83 A84 A85 A86 p1 = some X0) : gMi l yX12_edgesOf cX12_edgesOf 4 (some .boolean) ({ frames := 6, cells := 0, slots := 0, locals := 141 } : Room) D cy N q m0 a0 sz [.ref (q 69), .int p1] (fun r m' a' => r = X0.1 ∧ m' 6919 = .long X0.2.1 ∧ m' 6920 = .int X0.2.2.1 ∧ m' 6921 = .int X0.2.2.2.1 ∧ m' 6927 = .int X0.2.2.2.2.1 ∧ m' 6935 = .int X0.2.2.2.2.2.1 ∧ (∀ j, nel j [6919, 6920, 6921, 6927, 6935] = false → m' j = m0 j) ∧ a' 76 = (40, .inl X0.2.2.2.2.2.2.1) ∧ a' 77 = (40, .inl X0.2.2.2.2.2.2.2.1) ∧ a' 78 = (40, .inl X0.2.2.2.2.2.2.2.2.1) ∧ a' 79 = (6001, .inr (.inl X0.2.2.2.2.2.2.2.2.2.1)) ∧ a' 80 = (16384, .inl X0.2.2.2.2.2.2.2.2.2.2.1) ∧ a' 81 = (6002, .inl X0.2.2.2.2.2.2.2.2.2.2.2.1) ∧ a' 82 = (84000, .inl X0.2.2.2.2.2.2.2.2.2.2.2.2.1) ∧ a' 83 = (84000, .inl X0.2.2.2.2.2.2.2.2.2.2.2.2.2.1) ∧ a' 84 = (84000, .inl X0.2.2.2.2.2.2.2.2.2.2.2.2.2.2.1) ∧ a' 85 = (84000, .inl X0.2.2.2.2.2.2.2.2.2.2.2.2.2.2.2.1) ∧ a' 86 = (84000, .inl X0.2.2.2.2.2.2.2.2.2.2.2.2.2.2.2.2) ∧ (∀ j, nel j [76, 77, 78, 79, 80, 81, 82, 83, 84, 85, 86] = false → a' j = a0 j)) := by
  refine g_ofi (by decide) (Nat.le_of_ble_eq_true rfl) ?_
  intro p e s M args below meth c hx hb hr hG hown hin hlocks hml hW hS ls hl
  unfold fX12_edgesOf at hs0
  have hoff : ∀ j, nel j [6919, 6920, 6921, 6927, 6935] = false → m0 j = m0 j := off0
  have hoffa : ∀ j, nel j [76, 77, 78, 79, 80, 81, 82, 83, 84, 85, 86] = false → a0 j = a0 j := off0
  refine lv_aload_n hx hb dX12_edgesOf_0 rfl (lv_at hl 0 rfl) ?_
  refine gf12_29 hx hb hG hown hW (o := 69) (ltN hN 69 rfl) gk69 (v := .ref (q 81)) (sh69_29 hsh) gx177 dX12_edgesOf_1 ?_
  refine lv_iload_n hx hb dX12_edgesOf_4 rfl (lv_at hl 1 rfl) ?_
  refine lv_aload_n hx hb dX12_edgesOf_5 rfl (lv_at hl 0 rfl) ?_
  refine gf12_35 hx hb hG hown hW (o := 69) (ltN hN 69 rfl) gk69 (v := .int x69_35) h_x69_35 gx722 dX12_edgesOf_6 ?_
  obtain ⟨hi1, hs0⟩ := oif hs0
  refine g_iast hx hb hW hS (o := 81) (ltN hN 81 rfl) gk81 h_A81 (vin hi1) dX12_edgesOf_9 (fun a2 H locs ha2 ho2 hW hS => ?_)
  have ho2 := off1 ho2
  have w_A76 : a2 76 = (40, .inl A76) := (ho2 76 rfl).trans h_A76
  have w_A77 : a2 77 = (40, .inl A77) := (ho2 77 rfl).trans h_A77
  have w_A78 : a2 78 = (40, .inl A78) := (ho2 78 rfl).trans h_A78
  have w_A79 : a2 79 = (6001, .inr (.inl A79)) := (ho2 79 rfl).trans h_A79
  have w_A80 : a2 80 = (16384, .inl A80) := (ho2 80 rfl).trans h_A80
  have w_A81 : a2 81 = (6002, .inl (upd A81 p1.toNatClampNeg x69_35)) := ha2
  have w_A82 : a2 82 = (84000, .inl A82) := (ho2 82 rfl).trans h_A82
  have w_A83 : a2 83 = (84000, .inl A83) := (ho2 83 rfl).trans h_A83
  have w_A84 : a2 84 = (84000, .inl A84) := (ho2 84 rfl).trans h_A84
  have w_A85 : a2 85 = (84000, .inl A85) := (ho2 85 rfl).trans h_A85
  have w_A86 : a2 86 = (84000, .inl A86) := (ho2 86 rfl).trans h_A86
  have hoffa := offm hoffa ho2 (by decide +kernel)
  refine lv_aload_n hx hb dX12_edgesOf_10 rfl (lv_at hl 0 rfl) ?_
  refine lv_aload_n hx hb dX12_edgesOf_11 rfl (lv_at hl 0 rfl) ?_
  refine gf12_26 hx hb hG hown hW (o := 69) (ltN hN 69 rfl) gk69 (v := .ref (q 79)) (sh69_26 hsh) gx175 dX12_edgesOf_12 ?_
  refine lv_iload_n hx hb dX12_edgesOf_15 rfl (lv_at hl 1 rfl) ?_
  obtain ⟨hi3, hs0⟩ := oif hs0
  refine g_lald hx hb hW (o := 79) (ltN hN 79 rfl) gk79 w_A79 (vin hi3) dX12_edgesOf_16 ?_
  refine lv_iconst (v := 1) hx hb dX12_edgesOf_17 (by decide) ?_
  obtain ⟨r4, hf4, hs0⟩ := obind hs0
  refine g_Vi (n := 2) hx hb hml hown hG hW hS [.long (A79 p1.toNatClampNeg), .int 1] (kX12_laysActs hN hsh ((hoff 6901 rfl).trans h_x69_1) w_A76 w_A77 w_A78 F (A79 p1.toNatClampNeg) 1 hf4) (ltN hN 69 rfl) gk69 (by decide) rfl rfl (gd_V gx572 gx573 gx574 gx5 gx575) rfl rfl (by decide) ⟨Nat.le_of_ble_eq_true rfl, Nat.le_of_ble_eq_true rfl⟩ rfl hl (Nat.le_of_ble_eq_true rfl) ⟨Nat.zero_le _, Nat.zero_le _⟩ dX12_edgesOf_18 (fun x4 m4 a4 H locs hp4 hW hS => ?_)
  obtain ⟨hx4, hm4, hp4_A76, hp4_A77, hp4_A78, hoa4⟩ := hp4
  subst hx4
  rw [hm4] at hW
  have w_A76 : a4 76 = (40, .inl r4.2.1) := hp4_A76
  have w_A77 : a4 77 = (40, .inl r4.2.2.1) := hp4_A77
  have w_A78 : a4 78 = (40, .inl r4.2.2.2) := hp4_A78
  have w_A79 : a4 79 = (6001, .inr (.inl A79)) := (hoa4 79 rfl).trans w_A79
  have w_A80 : a4 80 = (16384, .inl A80) := (hoa4 80 rfl).trans w_A80
  have w_A81 : a4 81 = (6002, .inl (upd A81 p1.toNatClampNeg x69_35)) := (hoa4 81 rfl).trans w_A81
  have w_A82 : a4 82 = (84000, .inl A82) := (hoa4 82 rfl).trans w_A82
  have w_A83 : a4 83 = (84000, .inl A83) := (hoa4 83 rfl).trans w_A83
  have w_A84 : a4 84 = (84000, .inl A84) := (hoa4 84 rfl).trans w_A84
  have w_A85 : a4 85 = (84000, .inl A85) := (hoa4 85 rfl).trans w_A85
  have w_A86 : a4 86 = (84000, .inl A86) := (hoa4 86 rfl).trans w_A86
  have hoffa := offm hoffa hoa4 (by decide +kernel)
  refine lv_istore_n (lv' := [(2, .int r4.1), (0, .ref (q 69)), (1, .int p1)]) hx hb dX12_edgesOf_21 rfl hl (by decide) rfl (fun ls hl => ?_)
  refine lv_iconst (v := 0) hx hb dX12_edgesOf_22 (by decide) ?_
  refine lv_istore_n (lv' := [(3, .int 0), (2, .int r4.1), (0, .ref (q 69)), (1, .int p1)]) hx hb dX12_edgesOf_23 rfl hl (by decide) rfl (fun ls hl => ?_)
  obtain ⟨r5, hg5, hs0⟩ := obind hs0
  have hE1_44 : ∀ (t5_44 : Int64 × Int32 × Int32 × Int32 × Int32 × (Nat → Int64) × (Nat → Int32) × (Nat → Int32) × (Nat → Int32) × (Nat → Int32) × (Nat → Int32) × (Nat → Int32)) (hr5 : Sum.inl t5_44 = r5) (m : Nat → Value) (a : Nat → vp_A) (H : Heap) (locs : List Loc) (w_x69_19 : m 6919 = .long t5_44.1) (w_x69_20 : m 6920 = .int t5_44.2.1) (w_x69_21 : m 6921 = .int t5_44.2.2.1) (w_x69_27 : m 6927 = .int t5_44.2.2.2.1) (w_x69_35 : m 6935 = .int t5_44.2.2.2.2.1) (hoff : ∀ j, nel j [6919, 6920, 6921, 6927, 6935] = false → m j = m0 j) (hsh : SH q m) (w_A76 : a 76 = (40, .inl r4.2.1)) (w_A77 : a 77 = (40, .inl r4.2.2.1)) (w_A78 : a 78 = (40, .inl r4.2.2.2)) (w_A79 : a 79 = (6001, .inr (.inl t5_44.2.2.2.2.2.1))) (w_A80 : a 80 = (16384, .inl t5_44.2.2.2.2.2.2.1)) (w_A81 : a 81 = (6002, .inl (upd A81 p1.toNatClampNeg x69_35))) (w_A82 : a 82 = (84000, .inl t5_44.2.2.2.2.2.2.2.1)) (w_A83 : a 83 = (84000, .inl t5_44.2.2.2.2.2.2.2.2.1)) (w_A84 : a 84 = (84000, .inl t5_44.2.2.2.2.2.2.2.2.2.1)) (w_A85 : a 85 = (84000, .inl t5_44.2.2.2.2.2.2.2.2.2.2.1)) (w_A86 : a 86 = (84000, .inl t5_44.2.2.2.2.2.2.2.2.2.2.2)) (hoffa : ∀ j, nel j [76, 77, 78, 79, 80, 81, 82, 83, 84, 85, 86] = false → a j = a0 j) (ls : Array Slot) (hl : lv_has ls 4 []) (hW : GW D cy (gA N q s.heap.size) N q m a s H) (hS : va_S (gA N q s.heap.size) s.heap H locs), W p l e ({ frames := 6, cells := 0, slots := 0, locals := 141 } : Room) s M args below meth c H locs 0 0 (MQ below (va_Qi (fun (r : Int32) (u : (Nat → Value) × (Nat → vp_A)) => r = X0.1 ∧ u.1 6919 = .long X0.2.1 ∧ u.1 6920 = .int X0.2.2.1 ∧ u.1 6921 = .int X0.2.2.2.1 ∧ u.1 6927 = .int X0.2.2.2.2.1 ∧ u.1 6935 = .int X0.2.2.2.2.2.1 ∧ (∀ j, nel j [6919, 6920, 6921, 6927, 6935] = false → u.1 j = m0 j) ∧ u.2 76 = (40, .inl X0.2.2.2.2.2.2.1) ∧ u.2 77 = (40, .inl X0.2.2.2.2.2.2.2.1) ∧ u.2 78 = (40, .inl X0.2.2.2.2.2.2.2.2.1) ∧ u.2 79 = (6001, .inr (.inl X0.2.2.2.2.2.2.2.2.2.1)) ∧ u.2 80 = (16384, .inl X0.2.2.2.2.2.2.2.2.2.2.1) ∧ u.2 81 = (6002, .inl X0.2.2.2.2.2.2.2.2.2.2.2.1) ∧ u.2 82 = (84000, .inl X0.2.2.2.2.2.2.2.2.2.2.2.2.1) ∧ u.2 83 = (84000, .inl X0.2.2.2.2.2.2.2.2.2.2.2.2.2.1) ∧ u.2 84 = (84000, .inl X0.2.2.2.2.2.2.2.2.2.2.2.2.2.2.1) ∧ u.2 85 = (84000, .inl X0.2.2.2.2.2.2.2.2.2.2.2.2.2.2.2.1) ∧ u.2 86 = (84000, .inl X0.2.2.2.2.2.2.2.2.2.2.2.2.2.2.2.2) ∧ (∀ j, nel j [76, 77, 78, 79, 80, 81, 82, 83, 84, 85, 86] = false → u.2 j = a0 j)) (gB D cy N q s.heap.size) (gA N q s.heap.size)) args s 0 0 (gA N q s.heap.size)) (F0 M 44 ls []) := by
    intro t5_44 hr5 m a H locs w_x69_19 w_x69_20 w_x69_21 w_x69_27 w_x69_35 hoff hsh w_A76 w_A77 w_A78 w_A79 w_A80 w_A81 w_A82 w_A83 w_A84 w_A85 w_A86 hoffa ls hl hW hS
    subst hr5
    have hs0 := osum_l hs0
    refine lv_iconst (v := 0) hx hb dX12_edgesOf_44 (by decide) ?_
    have hs0 := Option.some.inj hs0
    subst hs0
    exact W.zret hx hb hr rfl (fun t ht hw => ⟨⟨_, (m, a), rfl, ⟨rfl, w_x69_19, w_x69_20, w_x69_21, w_x69_27, w_x69_35, hoff, w_A76, w_A77, w_A78, w_A79, w_A80, w_A81, w_A82, w_A83, w_A84, w_A85, w_A86, hoffa⟩, g_end hW ht hw⟩, hS.F ht⟩) hS.2.2 dX12_edgesOf_45 hlocks
  have hE1_76 : ∀ (t5_76 : Int64 × Int32 × Int32 × Int32 × Int32 × (Nat → Int64) × (Nat → Int32) × (Nat → Int32) × (Nat → Int32) × (Nat → Int32) × (Nat → Int32) × (Nat → Int32)) (hr5 : Sum.inr (Sum.inl t5_76) = r5) (m : Nat → Value) (a : Nat → vp_A) (H : Heap) (locs : List Loc) (w_x69_19 : m 6919 = .long t5_76.1) (w_x69_20 : m 6920 = .int t5_76.2.1) (w_x69_21 : m 6921 = .int t5_76.2.2.1) (w_x69_27 : m 6927 = .int t5_76.2.2.2.1) (w_x69_35 : m 6935 = .int t5_76.2.2.2.2.1) (hoff : ∀ j, nel j [6919, 6920, 6921, 6927, 6935] = false → m j = m0 j) (hsh : SH q m) (w_A76 : a 76 = (40, .inl r4.2.1)) (w_A77 : a 77 = (40, .inl r4.2.2.1)) (w_A78 : a 78 = (40, .inl r4.2.2.2)) (w_A79 : a 79 = (6001, .inr (.inl t5_76.2.2.2.2.2.1))) (w_A80 : a 80 = (16384, .inl t5_76.2.2.2.2.2.2.1)) (w_A81 : a 81 = (6002, .inl (upd A81 p1.toNatClampNeg x69_35))) (w_A82 : a 82 = (84000, .inl t5_76.2.2.2.2.2.2.2.1)) (w_A83 : a 83 = (84000, .inl t5_76.2.2.2.2.2.2.2.2.1)) (w_A84 : a 84 = (84000, .inl t5_76.2.2.2.2.2.2.2.2.2.1)) (w_A85 : a 85 = (84000, .inl t5_76.2.2.2.2.2.2.2.2.2.2.1)) (w_A86 : a 86 = (84000, .inl t5_76.2.2.2.2.2.2.2.2.2.2.2)) (hoffa : ∀ j, nel j [76, 77, 78, 79, 80, 81, 82, 83, 84, 85, 86] = false → a j = a0 j) (ls : Array Slot) (hl : lv_has ls 4 []) (hW : GW D cy (gA N q s.heap.size) N q m a s H) (hS : va_S (gA N q s.heap.size) s.heap H locs), W p l e ({ frames := 6, cells := 0, slots := 0, locals := 141 } : Room) s M args below meth c H locs 0 0 (MQ below (va_Qi (fun (r : Int32) (u : (Nat → Value) × (Nat → vp_A)) => r = X0.1 ∧ u.1 6919 = .long X0.2.1 ∧ u.1 6920 = .int X0.2.2.1 ∧ u.1 6921 = .int X0.2.2.2.1 ∧ u.1 6927 = .int X0.2.2.2.2.1 ∧ u.1 6935 = .int X0.2.2.2.2.2.1 ∧ (∀ j, nel j [6919, 6920, 6921, 6927, 6935] = false → u.1 j = m0 j) ∧ u.2 76 = (40, .inl X0.2.2.2.2.2.2.1) ∧ u.2 77 = (40, .inl X0.2.2.2.2.2.2.2.1) ∧ u.2 78 = (40, .inl X0.2.2.2.2.2.2.2.2.1) ∧ u.2 79 = (6001, .inr (.inl X0.2.2.2.2.2.2.2.2.2.1)) ∧ u.2 80 = (16384, .inl X0.2.2.2.2.2.2.2.2.2.2.1) ∧ u.2 81 = (6002, .inl X0.2.2.2.2.2.2.2.2.2.2.2.1) ∧ u.2 82 = (84000, .inl X0.2.2.2.2.2.2.2.2.2.2.2.2.1) ∧ u.2 83 = (84000, .inl X0.2.2.2.2.2.2.2.2.2.2.2.2.2.1) ∧ u.2 84 = (84000, .inl X0.2.2.2.2.2.2.2.2.2.2.2.2.2.2.1) ∧ u.2 85 = (84000, .inl X0.2.2.2.2.2.2.2.2.2.2.2.2.2.2.2.1) ∧ u.2 86 = (84000, .inl X0.2.2.2.2.2.2.2.2.2.2.2.2.2.2.2.2) ∧ (∀ j, nel j [76, 77, 78, 79, 80, 81, 82, 83, 84, 85, 86] = false → u.2 j = a0 j)) (gB D cy N q s.heap.size) (gA N q s.heap.size)) args s 0 0 (gA N q s.heap.size)) (F0 M 76 ls []) := by
    intro t5_76 hr5 m a H locs w_x69_19 w_x69_20 w_x69_21 w_x69_27 w_x69_35 hoff hsh w_A76 w_A77 w_A78 w_A79 w_A80 w_A81 w_A82 w_A83 w_A84 w_A85 w_A86 hoffa ls hl hW hS
    subst hr5
    have hs0 := osum_r hs0
    have hs0 := osum_l hs0
    refine lv_iconst (v := 0) hx hb dX12_edgesOf_76 (by decide) ?_
    have hs0 := Option.some.inj hs0
    subst hs0
    exact W.zret hx hb hr rfl (fun t ht hw => ⟨⟨_, (m, a), rfl, ⟨rfl, w_x69_19, w_x69_20, w_x69_21, w_x69_27, w_x69_35, hoff, w_A76, w_A77, w_A78, w_A79, w_A80, w_A81, w_A82, w_A83, w_A84, w_A85, w_A86, hoffa⟩, g_end hW ht hw⟩, hS.F ht⟩) hS.2.2 dX12_edgesOf_77 hlocks
  have hE1_84 : ∀ (t5_84 : Int64 × Int32 × Int32 × Int32 × Int32 × (Nat → Int64) × (Nat → Int32) × (Nat → Int32) × (Nat → Int32) × (Nat → Int32) × (Nat → Int32) × (Nat → Int32)) (hr5 : Sum.inr (Sum.inr (t5_84)) = r5) (m : Nat → Value) (a : Nat → vp_A) (H : Heap) (locs : List Loc) (w_x69_19 : m 6919 = .long t5_84.1) (w_x69_20 : m 6920 = .int t5_84.2.1) (w_x69_21 : m 6921 = .int t5_84.2.2.1) (w_x69_27 : m 6927 = .int t5_84.2.2.2.1) (w_x69_35 : m 6935 = .int t5_84.2.2.2.2.1) (hoff : ∀ j, nel j [6919, 6920, 6921, 6927, 6935] = false → m j = m0 j) (hsh : SH q m) (w_A76 : a 76 = (40, .inl r4.2.1)) (w_A77 : a 77 = (40, .inl r4.2.2.1)) (w_A78 : a 78 = (40, .inl r4.2.2.2)) (w_A79 : a 79 = (6001, .inr (.inl t5_84.2.2.2.2.2.1))) (w_A80 : a 80 = (16384, .inl t5_84.2.2.2.2.2.2.1)) (w_A81 : a 81 = (6002, .inl (upd A81 p1.toNatClampNeg x69_35))) (w_A82 : a 82 = (84000, .inl t5_84.2.2.2.2.2.2.2.1)) (w_A83 : a 83 = (84000, .inl t5_84.2.2.2.2.2.2.2.2.1)) (w_A84 : a 84 = (84000, .inl t5_84.2.2.2.2.2.2.2.2.2.1)) (w_A85 : a 85 = (84000, .inl t5_84.2.2.2.2.2.2.2.2.2.2.1)) (w_A86 : a 86 = (84000, .inl t5_84.2.2.2.2.2.2.2.2.2.2.2)) (hoffa : ∀ j, nel j [76, 77, 78, 79, 80, 81, 82, 83, 84, 85, 86] = false → a j = a0 j) (ls : Array Slot) (hl : lv_has ls 4 [(0, .ref (q 69)), (1, .int p1)]) (hW : GW D cy (gA N q s.heap.size) N q m a s H) (hS : va_S (gA N q s.heap.size) s.heap H locs), W p l e ({ frames := 6, cells := 0, slots := 0, locals := 141 } : Room) s M args below meth c H locs 0 0 (MQ below (va_Qi (fun (r : Int32) (u : (Nat → Value) × (Nat → vp_A)) => r = X0.1 ∧ u.1 6919 = .long X0.2.1 ∧ u.1 6920 = .int X0.2.2.1 ∧ u.1 6921 = .int X0.2.2.2.1 ∧ u.1 6927 = .int X0.2.2.2.2.1 ∧ u.1 6935 = .int X0.2.2.2.2.2.1 ∧ (∀ j, nel j [6919, 6920, 6921, 6927, 6935] = false → u.1 j = m0 j) ∧ u.2 76 = (40, .inl X0.2.2.2.2.2.2.1) ∧ u.2 77 = (40, .inl X0.2.2.2.2.2.2.2.1) ∧ u.2 78 = (40, .inl X0.2.2.2.2.2.2.2.2.1) ∧ u.2 79 = (6001, .inr (.inl X0.2.2.2.2.2.2.2.2.2.1)) ∧ u.2 80 = (16384, .inl X0.2.2.2.2.2.2.2.2.2.2.1) ∧ u.2 81 = (6002, .inl X0.2.2.2.2.2.2.2.2.2.2.2.1) ∧ u.2 82 = (84000, .inl X0.2.2.2.2.2.2.2.2.2.2.2.2.1) ∧ u.2 83 = (84000, .inl X0.2.2.2.2.2.2.2.2.2.2.2.2.2.1) ∧ u.2 84 = (84000, .inl X0.2.2.2.2.2.2.2.2.2.2.2.2.2.2.1) ∧ u.2 85 = (84000, .inl X0.2.2.2.2.2.2.2.2.2.2.2.2.2.2.2.1) ∧ u.2 86 = (84000, .inl X0.2.2.2.2.2.2.2.2.2.2.2.2.2.2.2.2) ∧ (∀ j, nel j [76, 77, 78, 79, 80, 81, 82, 83, 84, 85, 86] = false → u.2 j = a0 j)) (gB D cy N q s.heap.size) (gA N q s.heap.size)) args s 0 0 (gA N q s.heap.size)) (F0 M 84 ls []) := by
    intro t5_84 hr5 m a H locs w_x69_19 w_x69_20 w_x69_21 w_x69_27 w_x69_35 hoff hsh w_A76 w_A77 w_A78 w_A79 w_A80 w_A81 w_A82 w_A83 w_A84 w_A85 w_A86 hoffa ls hl hW hS
    subst hr5
    have hs0 := osum_r hs0
    have hs0 := osum_r hs0
    refine lv_aload_n hx hb dX12_edgesOf_84 rfl (lv_at hl 0 rfl) ?_
    refine gf12_29 hx hb hG hown hW (o := 69) (ltN hN 69 rfl) gk69 (v := .ref (q 81)) (sh69_29 hsh) gx177 dX12_edgesOf_85 ?_
    refine lv_iload_n hx hb dX12_edgesOf_88 rfl (lv_at hl 1 rfl) ?_
    refine lv_iconst (v := 1) hx hb dX12_edgesOf_89 (by decide) ?_
    refine lv_iadd hx hb dX12_edgesOf_90 ?_
    refine lv_aload_n hx hb dX12_edgesOf_91 rfl (lv_at hl 0 rfl) ?_
    refine gf12_35 hx hb hG hown hW (o := 69) (ltN hN 69 rfl) gk69 (v := .int t5_84.2.2.2.2.1) w_x69_35 gx722 dX12_edgesOf_92 ?_
    obtain ⟨hi16, hs0⟩ := oif hs0
    refine g_iast hx hb hW hS (o := 81) (ltN hN 81 rfl) gk81 w_A81 (vin hi16) dX12_edgesOf_95 (fun a17 H locs ha17 ho17 hW hS => ?_)
    have ho17 := off1 ho17
    have w_A76 : a17 76 = (40, .inl r4.2.1) := (ho17 76 rfl).trans w_A76
    have w_A77 : a17 77 = (40, .inl r4.2.2.1) := (ho17 77 rfl).trans w_A77
    have w_A78 : a17 78 = (40, .inl r4.2.2.2) := (ho17 78 rfl).trans w_A78
    have w_A79 : a17 79 = (6001, .inr (.inl t5_84.2.2.2.2.2.1)) := (ho17 79 rfl).trans w_A79
    have w_A80 : a17 80 = (16384, .inl t5_84.2.2.2.2.2.2.1) := (ho17 80 rfl).trans w_A80
    have w_A81 : a17 81 = (6002, .inl (upd (upd A81 p1.toNatClampNeg x69_35) (p1 + 1).toNatClampNeg t5_84.2.2.2.2.1)) := ha17
    have w_A82 : a17 82 = (84000, .inl t5_84.2.2.2.2.2.2.2.1) := (ho17 82 rfl).trans w_A82
    have w_A83 : a17 83 = (84000, .inl t5_84.2.2.2.2.2.2.2.2.1) := (ho17 83 rfl).trans w_A83
    have w_A84 : a17 84 = (84000, .inl t5_84.2.2.2.2.2.2.2.2.2.1) := (ho17 84 rfl).trans w_A84
    have w_A85 : a17 85 = (84000, .inl t5_84.2.2.2.2.2.2.2.2.2.2.1) := (ho17 85 rfl).trans w_A85
    have w_A86 : a17 86 = (84000, .inl t5_84.2.2.2.2.2.2.2.2.2.2.2) := (ho17 86 rfl).trans w_A86
    have hoffa := offm hoffa ho17 (by decide +kernel)
    refine lv_iconst (v := 1) hx hb dX12_edgesOf_96 (by decide) ?_
    have hs0 := Option.some.inj hs0
    subst hs0
    exact W.zret hx hb hr rfl (fun t ht hw => ⟨⟨_, (m, a17), rfl, ⟨rfl, w_x69_19, w_x69_20, w_x69_21, w_x69_27, w_x69_35, hoff, w_A76, w_A77, w_A78, w_A79, w_A80, w_A81, w_A82, w_A83, w_A84, w_A85, w_A86, hoffa⟩, g_end hW ht hw⟩, hS.F ht⟩) hS.2.2 dX12_edgesOf_97 hlocks
  have hL1 : ∀ (n : Nat) (v3k5 : Int32) (x69_19k5 : Int64) (x69_20k5 : Int32) (x69_21k5 : Int32) (x69_27k5 : Int32) (x69_35k5 : Int32) (A79k5 : Nat → Int64) (A80k5 : Nat → Int32) (A82k5 : Nat → Int32) (A83k5 : Nat → Int32) (A84k5 : Nat → Int32) (A85k5 : Nat → Int32) (A86k5 : Nat → Int32) (m : Nat → Value) (a : Nat → vp_A) (H : Heap) (locs : List Loc) (w_x69_19 : m 6919 = .long x69_19k5) (w_x69_20 : m 6920 = .int x69_20k5) (w_x69_21 : m 6921 = .int x69_21k5) (w_x69_27 : m 6927 = .int x69_27k5) (w_x69_35 : m 6935 = .int x69_35k5) (hoff : ∀ j, nel j [6919, 6920, 6921, 6927, 6935] = false → m j = m0 j) (hsh : SH q m) (w_A76 : a 76 = (40, .inl r4.2.1)) (w_A77 : a 77 = (40, .inl r4.2.2.1)) (w_A78 : a 78 = (40, .inl r4.2.2.2)) (w_A79 : a 79 = (6001, .inr (.inl A79k5))) (w_A80 : a 80 = (16384, .inl A80k5)) (w_A81 : a 81 = (6002, .inl (upd A81 p1.toNatClampNeg x69_35))) (w_A82 : a 82 = (84000, .inl A82k5)) (w_A83 : a 83 = (84000, .inl A83k5)) (w_A84 : a 84 = (84000, .inl A84k5)) (w_A85 : a 85 = (84000, .inl A85k5)) (w_A86 : a 86 = (84000, .inl A86k5)) (hoffa : ∀ j, nel j [76, 77, 78, 79, 80, 81, 82, 83, 84, 85, 86] = false → a j = a0 j) (ls : Array Slot) (hl : lv_has ls 4 [(0, .ref (q 69)), (1, .int p1), (2, .int r4.1), (3, .int v3k5)]) (hg5 : gloop (fun u5 : (Int32 × Int64 × Int32 × Int32 × Int32 × Int32 × (Nat → Int64) × (Nat → Int32) × (Nat → Int32) × (Nat → Int32) × (Nat → Int32) × (Nat → Int32) × (Nat → Int32)) => fX12_edgesOf_S24 F x69_0 x69_1 x69_3 x69_22 p1 r4.1 r4.2.1 r4.2.2.1 r4.2.2.2 (upd A81 p1.toNatClampNeg x69_35) u5.1 u5.2.1 u5.2.2.1 u5.2.2.2.1 u5.2.2.2.2.1 u5.2.2.2.2.2.1 u5.2.2.2.2.2.2.1 u5.2.2.2.2.2.2.2.1 u5.2.2.2.2.2.2.2.2.1 u5.2.2.2.2.2.2.2.2.2.1 u5.2.2.2.2.2.2.2.2.2.2.1 u5.2.2.2.2.2.2.2.2.2.2.2.1 u5.2.2.2.2.2.2.2.2.2.2.2.2) n (v3k5, x69_19k5, x69_20k5, x69_21k5, x69_27k5, x69_35k5, A79k5, A80k5, A82k5, A83k5, A84k5, A85k5, A86k5) = some r5) (hW : GW D cy (gA N q s.heap.size) N q m a s H) (hS : va_S (gA N q s.heap.size) s.heap H locs), W p l e ({ frames := 6, cells := 0, slots := 0, locals := 141 } : Room) s M args below meth c H locs 0 0 (MQ below (va_Qi (fun (r : Int32) (u : (Nat → Value) × (Nat → vp_A)) => r = X0.1 ∧ u.1 6919 = .long X0.2.1 ∧ u.1 6920 = .int X0.2.2.1 ∧ u.1 6921 = .int X0.2.2.2.1 ∧ u.1 6927 = .int X0.2.2.2.2.1 ∧ u.1 6935 = .int X0.2.2.2.2.2.1 ∧ (∀ j, nel j [6919, 6920, 6921, 6927, 6935] = false → u.1 j = m0 j) ∧ u.2 76 = (40, .inl X0.2.2.2.2.2.2.1) ∧ u.2 77 = (40, .inl X0.2.2.2.2.2.2.2.1) ∧ u.2 78 = (40, .inl X0.2.2.2.2.2.2.2.2.1) ∧ u.2 79 = (6001, .inr (.inl X0.2.2.2.2.2.2.2.2.2.1)) ∧ u.2 80 = (16384, .inl X0.2.2.2.2.2.2.2.2.2.2.1) ∧ u.2 81 = (6002, .inl X0.2.2.2.2.2.2.2.2.2.2.2.1) ∧ u.2 82 = (84000, .inl X0.2.2.2.2.2.2.2.2.2.2.2.2.1) ∧ u.2 83 = (84000, .inl X0.2.2.2.2.2.2.2.2.2.2.2.2.2.1) ∧ u.2 84 = (84000, .inl X0.2.2.2.2.2.2.2.2.2.2.2.2.2.2.1) ∧ u.2 85 = (84000, .inl X0.2.2.2.2.2.2.2.2.2.2.2.2.2.2.2.1) ∧ u.2 86 = (84000, .inl X0.2.2.2.2.2.2.2.2.2.2.2.2.2.2.2.2) ∧ (∀ j, nel j [76, 77, 78, 79, 80, 81, 82, 83, 84, 85, 86] = false → u.2 j = a0 j)) (gB D cy N q s.heap.size) (gA N q s.heap.size)) args s 0 0 (gA N q s.heap.size)) (F0 M 24 ls []) := by
    intro n
    induction n with
    | zero => intro v3k5 x69_19k5 x69_20k5 x69_21k5 x69_27k5 x69_35k5 A79k5 A80k5 A82k5 A83k5 A84k5 A85k5 A86k5 m a H locs w_x69_19 w_x69_20 w_x69_21 w_x69_27 w_x69_35 hoff hsh w_A76 w_A77 w_A78 w_A79 w_A80 w_A81 w_A82 w_A83 w_A84 w_A85 w_A86 hoffa ls hl hg5 hW hS; exact (gl_zero hg5).elim
    | succ n ih1 =>
      intro v3k5 x69_19k5 x69_20k5 x69_21k5 x69_27k5 x69_35k5 A79k5 A80k5 A82k5 A83k5 A84k5 A85k5 A86k5 m a H locs w_x69_19 w_x69_20 w_x69_21 w_x69_27 w_x69_35 hoff hsh w_A76 w_A77 w_A78 w_A79 w_A80 w_A81 w_A82 w_A83 w_A84 w_A85 w_A86 hoffa ls hl hg5 hW hS
      obtain ⟨X1, hs1, hXl1, hXr1⟩ := gl_succ hg5
      have hs1 : fX12_edgesOf_S24 F x69_0 x69_1 x69_3 x69_22 p1 r4.1 r4.2.1 r4.2.2.1 r4.2.2.2 (upd A81 p1.toNatClampNeg x69_35) v3k5 x69_19k5 x69_20k5 x69_21k5 x69_27k5 x69_35k5 A79k5 A80k5 A82k5 A83k5 A84k5 A85k5 A86k5 = some X1 := hs1
      unfold fX12_edgesOf_S24 at hs1
      have hJ78_1 : ∀ (v3j24 : Int32) (x69_19j24 : Int64) (x69_20j24 : Int32) (x69_21j24 : Int32) (x69_27j24 : Int32) (x69_35j24 : Int32) (A79j24 : Nat → Int64) (A80j24 : Nat → Int32) (A82j24 : Nat → Int32) (A83j24 : Nat → Int32) (A84j24 : Nat → Int32) (A85j24 : Nat → Int32) (A86j24 : Nat → Int32) (m : Nat → Value) (a : Nat → vp_A) (H : Heap) (locs : List Loc) (w_x69_19 : m 6919 = .long x69_19j24) (w_x69_20 : m 6920 = .int x69_20j24) (w_x69_21 : m 6921 = .int x69_21j24) (w_x69_27 : m 6927 = .int x69_27j24) (w_x69_35 : m 6935 = .int x69_35j24) (hoff : ∀ j, nel j [6919, 6920, 6921, 6927, 6935] = false → m j = m0 j) (hsh : SH q m) (w_A76 : a 76 = (40, .inl r4.2.1)) (w_A77 : a 77 = (40, .inl r4.2.2.1)) (w_A78 : a 78 = (40, .inl r4.2.2.2)) (w_A79 : a 79 = (6001, .inr (.inl A79j24))) (w_A80 : a 80 = (16384, .inl A80j24)) (w_A81 : a 81 = (6002, .inl (upd A81 p1.toNatClampNeg x69_35))) (w_A82 : a 82 = (84000, .inl A82j24)) (w_A83 : a 83 = (84000, .inl A83j24)) (w_A84 : a 84 = (84000, .inl A84j24)) (w_A85 : a 85 = (84000, .inl A85j24)) (w_A86 : a 86 = (84000, .inl A86j24)) (hoffa : ∀ j, nel j [76, 77, 78, 79, 80, 81, 82, 83, 84, 85, 86] = false → a j = a0 j) (ls : Array Slot) (hl : lv_has ls 4 [(0, .ref (q 69)), (1, .int p1), (2, .int r4.1), (3, .int v3j24)]) (hs1 : fX12_edgesOf_J78 F x69_0 x69_1 x69_3 x69_22 p1 r4.1 v3j24 x69_19j24 x69_20j24 x69_21j24 x69_27j24 x69_35j24 r4.2.1 r4.2.2.1 r4.2.2.2 A79j24 A80j24 (upd A81 p1.toNatClampNeg x69_35) A82j24 A83j24 A84j24 A85j24 A86j24 = some X1) (hW : GW D cy (gA N q s.heap.size) N q m a s H) (hS : va_S (gA N q s.heap.size) s.heap H locs), W p l e ({ frames := 6, cells := 0, slots := 0, locals := 141 } : Room) s M args below meth c H locs 0 0 (MQ below (va_Qi (fun (r : Int32) (u : (Nat → Value) × (Nat → vp_A)) => r = X0.1 ∧ u.1 6919 = .long X0.2.1 ∧ u.1 6920 = .int X0.2.2.1 ∧ u.1 6921 = .int X0.2.2.2.1 ∧ u.1 6927 = .int X0.2.2.2.2.1 ∧ u.1 6935 = .int X0.2.2.2.2.2.1 ∧ (∀ j, nel j [6919, 6920, 6921, 6927, 6935] = false → u.1 j = m0 j) ∧ u.2 76 = (40, .inl X0.2.2.2.2.2.2.1) ∧ u.2 77 = (40, .inl X0.2.2.2.2.2.2.2.1) ∧ u.2 78 = (40, .inl X0.2.2.2.2.2.2.2.2.1) ∧ u.2 79 = (6001, .inr (.inl X0.2.2.2.2.2.2.2.2.2.1)) ∧ u.2 80 = (16384, .inl X0.2.2.2.2.2.2.2.2.2.2.1) ∧ u.2 81 = (6002, .inl X0.2.2.2.2.2.2.2.2.2.2.2.1) ∧ u.2 82 = (84000, .inl X0.2.2.2.2.2.2.2.2.2.2.2.2.1) ∧ u.2 83 = (84000, .inl X0.2.2.2.2.2.2.2.2.2.2.2.2.2.1) ∧ u.2 84 = (84000, .inl X0.2.2.2.2.2.2.2.2.2.2.2.2.2.2.1) ∧ u.2 85 = (84000, .inl X0.2.2.2.2.2.2.2.2.2.2.2.2.2.2.2.1) ∧ u.2 86 = (84000, .inl X0.2.2.2.2.2.2.2.2.2.2.2.2.2.2.2.2) ∧ (∀ j, nel j [76, 77, 78, 79, 80, 81, 82, 83, 84, 85, 86] = false → u.2 j = a0 j)) (gB D cy N q s.heap.size) (gA N q s.heap.size)) args s 0 0 (gA N q s.heap.size)) (F0 M 78 ls []) := by
        intro v3j24 x69_19j24 x69_20j24 x69_21j24 x69_27j24 x69_35j24 A79j24 A80j24 A82j24 A83j24 A84j24 A85j24 A86j24 m a H locs w_x69_19 w_x69_20 w_x69_21 w_x69_27 w_x69_35 hoff hsh w_A76 w_A77 w_A78 w_A79 w_A80 w_A81 w_A82 w_A83 w_A84 w_A85 w_A86 hoffa ls hl hs1 hW hS
        unfold fX12_edgesOf_J78 at hs1
        refine lv_iinc (v := v3j24 + 1) (lv' := [(3, .int (v3j24 + 1)), (0, .ref (q 69)), (1, .int p1), (2, .int r4.1)]) hx hb dX12_edgesOf_78 hl (k := 3) rfl rfl (by decide) rfl (fun ls hl => ?_)
        refine lv_goto (tgt := 24) hx hb dX12_edgesOf_81 (by decide) ?_
        exact ih1 (v3j24 + 1) x69_19j24 x69_20j24 x69_21j24 x69_27j24 x69_35j24 A79j24 A80j24 A82j24 A83j24 A84j24 A85j24 A86j24 m a _ _ w_x69_19 w_x69_20 w_x69_21 w_x69_27 w_x69_35 hoff hsh w_A76 w_A77 w_A78 w_A79 w_A80 w_A81 w_A82 w_A83 w_A84 w_A85 w_A86 hoffa ls (lv_sub hl [1, 2, 3, 0] rfl) (hXr1 _ (Option.some.inj hs1).symm) hW hS
      refine lv_iload_n hx hb dX12_edgesOf_24 rfl (lv_at hl 3 rfl) ?_
      refine lv_iload_n hx hb dX12_edgesOf_25 rfl (lv_at hl 2 rfl) ?_
      refine lv_icmp_ge (tgt := 84) hx hb dX12_edgesOf_26 (by decide) (fun c18 => ?_) (fun c18 => ?_)
      · rw [if_pos c18] at hs1
        exact hE1_84 (x69_19k5, x69_20k5, x69_21k5, x69_27k5, x69_35k5, A79k5, A80k5, A82k5, A83k5, A84k5, A85k5, A86k5) (hXl1 _ (Option.some.inj hs1).symm) m a _ _ w_x69_19 w_x69_20 w_x69_21 w_x69_27 w_x69_35 hoff hsh w_A76 w_A77 w_A78 w_A79 w_A80 w_A81 w_A82 w_A83 w_A84 w_A85 w_A86 hoffa ls (lv_sub hl [0, 1] rfl) hW hS
      · rw [if_neg c18] at hs1
        refine lv_aload_n hx hb dX12_edgesOf_29 rfl (lv_at hl 0 rfl) ?_
        refine lv_aload_n hx hb dX12_edgesOf_30 rfl (lv_at hl 0 rfl) ?_
        refine gf12_26 hx hb hG hown hW (o := 69) (ltN hN 69 rfl) gk69 (v := .ref (q 79)) (sh69_26 hsh) gx175 dX12_edgesOf_31 ?_
        refine lv_iload_n hx hb dX12_edgesOf_34 rfl (lv_at hl 1 rfl) ?_
        obtain ⟨hi19, hs1⟩ := oif hs1
        refine g_lald hx hb hW (o := 79) (ltN hN 79 rfl) gk79 w_A79 (vin hi19) dX12_edgesOf_35 ?_
        refine lv_iload_n hx hb dX12_edgesOf_36 rfl (lv_at hl 3 rfl) ?_
        refine lv_iconst (v := 0) hx hb dX12_edgesOf_37 (by decide) ?_
        obtain ⟨r20, hf20, hs1⟩ := obind hs1
        refine g_Vi (n := 3) hx hb hml hown hG hW hS [.long (A79k5 p1.toNatClampNeg), .int v3k5, .int 0] (kX12_edge hN hsh ((hoff 6900 rfl).trans h_x69_0) ((hoff 6901 rfl).trans h_x69_1) ((hoff 6903 rfl).trans h_x69_3) ((hoff 6922 rfl).trans h_x69_22) w_A76 w_A77 w_A78 w_x69_19 w_x69_20 w_x69_21 w_x69_27 w_x69_35 w_A79 w_A80 w_A82 w_A83 w_A84 w_A85 w_A86 F (A79k5 p1.toNatClampNeg) v3k5 0 hf20) (ltN hN 69 rfl) gk69 (by decide) rfl rfl (gd_V gx735 gx736 gx737 gx5 gx738) rfl rfl (by decide) ⟨Nat.le_of_ble_eq_true rfl, Nat.le_of_ble_eq_true rfl⟩ rfl hl (Nat.le_of_ble_eq_true rfl) ⟨Nat.zero_le _, Nat.zero_le _⟩ dX12_edgesOf_38 (fun x20 m20 a20 H locs hp20 hW hS => ?_)
        obtain ⟨hx20, hp20_x69_19, hp20_x69_20, hp20_x69_21, hp20_x69_27, hp20_x69_35, ho20, hp20_A79, hp20_A80, hp20_A82, hp20_A83, hp20_A84, hp20_A85, hp20_A86, hoa20⟩ := hp20
        subst hx20
        have w_x69_19 : m20 6919 = .long r20.2.1 := hp20_x69_19
        have w_x69_20 : m20 6920 = .int r20.2.2.1 := hp20_x69_20
        have w_x69_21 : m20 6921 = .int r20.2.2.2.1 := hp20_x69_21
        have w_x69_27 : m20 6927 = .int r20.2.2.2.2.1 := hp20_x69_27
        have w_x69_35 : m20 6935 = .int r20.2.2.2.2.2.1 := hp20_x69_35
        have hoff := offm hoff ho20 (by decide +kernel)
        have hsh := SH.off hsh ho20 (by decide +kernel)
        have w_A76 : a20 76 = (40, .inl r4.2.1) := (hoa20 76 rfl).trans w_A76
        have w_A77 : a20 77 = (40, .inl r4.2.2.1) := (hoa20 77 rfl).trans w_A77
        have w_A78 : a20 78 = (40, .inl r4.2.2.2) := (hoa20 78 rfl).trans w_A78
        have w_A79 : a20 79 = (6001, .inr (.inl r20.2.2.2.2.2.2.1)) := hp20_A79
        have w_A80 : a20 80 = (16384, .inl r20.2.2.2.2.2.2.2.1) := hp20_A80
        have w_A81 : a20 81 = (6002, .inl (upd A81 p1.toNatClampNeg x69_35)) := (hoa20 81 rfl).trans w_A81
        have w_A82 : a20 82 = (84000, .inl r20.2.2.2.2.2.2.2.2.1) := hp20_A82
        have w_A83 : a20 83 = (84000, .inl r20.2.2.2.2.2.2.2.2.2.1) := hp20_A83
        have w_A84 : a20 84 = (84000, .inl r20.2.2.2.2.2.2.2.2.2.2.1) := hp20_A84
        have w_A85 : a20 85 = (84000, .inl r20.2.2.2.2.2.2.2.2.2.2.2.1) := hp20_A85
        have w_A86 : a20 86 = (84000, .inl r20.2.2.2.2.2.2.2.2.2.2.2.2) := hp20_A86
        have hoffa := offm hoffa hoa20 (by decide +kernel)
        refine lv_if_ne (tgt := 46) hx hb dX12_edgesOf_41 (by decide) (fun c21 => ?_) (fun c21 => ?_)
        · rw [if_neg c21] at hs1
          refine lv_aload_n hx hb dX12_edgesOf_46 rfl (lv_at hl 0 rfl) ?_
          refine gf12_31 hx hb hG hown hW (o := 69) (ltN hN 69 rfl) gk69 (v := .ref (q 83)) (sh69_31 hsh) gx180 dX12_edgesOf_47 ?_
          refine lv_aload_n hx hb dX12_edgesOf_50 rfl (lv_at hl 0 rfl) ?_
          refine gf12_35 hx hb hG hown hW (o := 69) (ltN hN 69 rfl) gk69 (v := .int r20.2.2.2.2.2.1) w_x69_35 gx722 dX12_edgesOf_51 ?_
          refine lv_iconst (v := 1) hx hb dX12_edgesOf_54 (by decide) ?_
          refine lv_isub hx hb dX12_edgesOf_55 ?_
          obtain ⟨hi22, hs1⟩ := oif hs1
          refine g_iald hx hb hW (o := 83) (ltN hN 83 rfl) gk83 w_A83 (vin hi22) dX12_edgesOf_56 ?_
          refine lv_iconst (v := 4) hx hb dX12_edgesOf_57 (by decide) ?_
          refine lv_icmp_lt (tgt := 78) hx hb dX12_edgesOf_58 (by decide) (fun c23 => ?_) (fun c23 => ?_)
          · rw [if_pos c23] at hs1
            exact hJ78_1 v3k5 r20.2.1 r20.2.2.1 r20.2.2.2.1 r20.2.2.2.2.1 r20.2.2.2.2.2.1 r20.2.2.2.2.2.2.1 r20.2.2.2.2.2.2.2.1 r20.2.2.2.2.2.2.2.2.1 r20.2.2.2.2.2.2.2.2.2.1 r20.2.2.2.2.2.2.2.2.2.2.1 r20.2.2.2.2.2.2.2.2.2.2.2.1 r20.2.2.2.2.2.2.2.2.2.2.2.2 m20 a20 _ _ w_x69_19 w_x69_20 w_x69_21 w_x69_27 w_x69_35 hoff hsh w_A76 w_A77 w_A78 w_A79 w_A80 w_A81 w_A82 w_A83 w_A84 w_A85 w_A86 hoffa ls (lv_sub hl [0, 1, 2, 3] rfl) hs1 hW hS
          · rw [if_neg c23] at hs1
            refine lv_aload_n hx hb dX12_edgesOf_61 rfl (lv_at hl 0 rfl) ?_
            refine lv_aload_n hx hb dX12_edgesOf_62 rfl (lv_at hl 0 rfl) ?_
            refine gf12_26 hx hb hG hown hW (o := 69) (ltN hN 69 rfl) gk69 (v := .ref (q 79)) (sh69_26 hsh) gx175 dX12_edgesOf_63 ?_
            refine lv_iload_n hx hb dX12_edgesOf_66 rfl (lv_at hl 1 rfl) ?_
            obtain ⟨hi25, hs1⟩ := oif hs1
            refine g_lald hx hb hW (o := 79) (ltN hN 79 rfl) gk79 w_A79 (vin hi25) dX12_edgesOf_67 ?_
            refine lv_iload_n hx hb dX12_edgesOf_68 rfl (lv_at hl 3 rfl) ?_
            refine lv_iconst (v := 1) hx hb dX12_edgesOf_69 (by decide) ?_
            obtain ⟨r26, hf26, hs1⟩ := obind hs1
            refine g_Vi (n := 3) hx hb hml hown hG hW hS [.long (r20.2.2.2.2.2.2.1 p1.toNatClampNeg), .int v3k5, .int 1] (kX12_edge hN hsh ((hoff 6900 rfl).trans h_x69_0) ((hoff 6901 rfl).trans h_x69_1) ((hoff 6903 rfl).trans h_x69_3) ((hoff 6922 rfl).trans h_x69_22) w_A76 w_A77 w_A78 w_x69_19 w_x69_20 w_x69_21 w_x69_27 w_x69_35 w_A79 w_A80 w_A82 w_A83 w_A84 w_A85 w_A86 F (r20.2.2.2.2.2.2.1 p1.toNatClampNeg) v3k5 1 hf26) (ltN hN 69 rfl) gk69 (by decide) rfl rfl (gd_V gx735 gx736 gx737 gx5 gx738) rfl rfl (by decide) ⟨Nat.le_of_ble_eq_true rfl, Nat.le_of_ble_eq_true rfl⟩ rfl hl (Nat.le_of_ble_eq_true rfl) ⟨Nat.zero_le _, Nat.zero_le _⟩ dX12_edgesOf_70 (fun x26 m26 a26 H locs hp26 hW hS => ?_)
            obtain ⟨hx26, hp26_x69_19, hp26_x69_20, hp26_x69_21, hp26_x69_27, hp26_x69_35, ho26, hp26_A79, hp26_A80, hp26_A82, hp26_A83, hp26_A84, hp26_A85, hp26_A86, hoa26⟩ := hp26
            subst hx26
            have w_x69_19 : m26 6919 = .long r26.2.1 := hp26_x69_19
            have w_x69_20 : m26 6920 = .int r26.2.2.1 := hp26_x69_20
            have w_x69_21 : m26 6921 = .int r26.2.2.2.1 := hp26_x69_21
            have w_x69_27 : m26 6927 = .int r26.2.2.2.2.1 := hp26_x69_27
            have w_x69_35 : m26 6935 = .int r26.2.2.2.2.2.1 := hp26_x69_35
            have hoff := offm hoff ho26 (by decide +kernel)
            have hsh := SH.off hsh ho26 (by decide +kernel)
            have w_A76 : a26 76 = (40, .inl r4.2.1) := (hoa26 76 rfl).trans w_A76
            have w_A77 : a26 77 = (40, .inl r4.2.2.1) := (hoa26 77 rfl).trans w_A77
            have w_A78 : a26 78 = (40, .inl r4.2.2.2) := (hoa26 78 rfl).trans w_A78
            have w_A79 : a26 79 = (6001, .inr (.inl r26.2.2.2.2.2.2.1)) := hp26_A79
            have w_A80 : a26 80 = (16384, .inl r26.2.2.2.2.2.2.2.1) := hp26_A80
            have w_A81 : a26 81 = (6002, .inl (upd A81 p1.toNatClampNeg x69_35)) := (hoa26 81 rfl).trans w_A81
            have w_A82 : a26 82 = (84000, .inl r26.2.2.2.2.2.2.2.2.1) := hp26_A82
            have w_A83 : a26 83 = (84000, .inl r26.2.2.2.2.2.2.2.2.2.1) := hp26_A83
            have w_A84 : a26 84 = (84000, .inl r26.2.2.2.2.2.2.2.2.2.2.1) := hp26_A84
            have w_A85 : a26 85 = (84000, .inl r26.2.2.2.2.2.2.2.2.2.2.2.1) := hp26_A85
            have w_A86 : a26 86 = (84000, .inl r26.2.2.2.2.2.2.2.2.2.2.2.2) := hp26_A86
            have hoffa := offm hoffa hoa26 (by decide +kernel)
            refine lv_if_ne (tgt := 78) hx hb dX12_edgesOf_73 (by decide) (fun c27 => ?_) (fun c27 => ?_)
            · rw [if_neg c27] at hs1
              exact hJ78_1 v3k5 r26.2.1 r26.2.2.1 r26.2.2.2.1 r26.2.2.2.2.1 r26.2.2.2.2.2.1 r26.2.2.2.2.2.2.1 r26.2.2.2.2.2.2.2.1 r26.2.2.2.2.2.2.2.2.1 r26.2.2.2.2.2.2.2.2.2.1 r26.2.2.2.2.2.2.2.2.2.2.1 r26.2.2.2.2.2.2.2.2.2.2.2.1 r26.2.2.2.2.2.2.2.2.2.2.2.2 m26 a26 _ _ w_x69_19 w_x69_20 w_x69_21 w_x69_27 w_x69_35 hoff hsh w_A76 w_A77 w_A78 w_A79 w_A80 w_A81 w_A82 w_A83 w_A84 w_A85 w_A86 hoffa ls (lv_sub hl [0, 1, 2, 3] rfl) hs1 hW hS
            · rw [if_pos c27] at hs1
              exact hE1_76 (r26.2.1, r26.2.2.1, r26.2.2.2.1, r26.2.2.2.2.1, r26.2.2.2.2.2.1, r26.2.2.2.2.2.2.1, r26.2.2.2.2.2.2.2.1, r26.2.2.2.2.2.2.2.2.1, r26.2.2.2.2.2.2.2.2.2.1, r26.2.2.2.2.2.2.2.2.2.2.1, r26.2.2.2.2.2.2.2.2.2.2.2.1, r26.2.2.2.2.2.2.2.2.2.2.2.2) (hXl1 _ (Option.some.inj hs1).symm) m26 a26 _ _ w_x69_19 w_x69_20 w_x69_21 w_x69_27 w_x69_35 hoff hsh w_A76 w_A77 w_A78 w_A79 w_A80 w_A81 w_A82 w_A83 w_A84 w_A85 w_A86 hoffa ls (lv_sub hl [] rfl) hW hS
        · rw [if_pos c21] at hs1
          exact hE1_44 (r20.2.1, r20.2.2.1, r20.2.2.2.1, r20.2.2.2.2.1, r20.2.2.2.2.2.1, r20.2.2.2.2.2.2.1, r20.2.2.2.2.2.2.2.1, r20.2.2.2.2.2.2.2.2.1, r20.2.2.2.2.2.2.2.2.2.1, r20.2.2.2.2.2.2.2.2.2.2.1, r20.2.2.2.2.2.2.2.2.2.2.2.1, r20.2.2.2.2.2.2.2.2.2.2.2.2) (hXl1 _ (Option.some.inj hs1).symm) m20 a20 _ _ w_x69_19 w_x69_20 w_x69_21 w_x69_27 w_x69_35 hoff hsh w_A76 w_A77 w_A78 w_A79 w_A80 w_A81 w_A82 w_A83 w_A84 w_A85 w_A86 hoffa ls (lv_sub hl [] rfl) hW hS
  exact hL1 F 0 x69_19 x69_20 x69_21 x69_27 x69_35 A79 A80 A82 A83 A84 A85 A86 m0 a4 _ _ h_x69_19 h_x69_20 h_x69_21 h_x69_27 h_x69_35 hoff hsh w_A76 w_A77 w_A78 w_A79 w_A80 w_A81 w_A82 w_A83 w_A84 w_A85 w_A86 hoffa ls (lv_sub hl [2, 3, 1, 0] rfl) hg5 hW hS
-- HealLinkModel.reaches (JI)Z
def fX12_reaches_S17 (F : Nat) (x69_0 : Int32) (x69_1 : Int32) (x69_3 : Int32) (x69_22 : Int32) (v4 : Int32) (x69_19 : Int64) (x69_20 : Int32) (x69_21 : Int32) (x69_27 : Int32) (x69_35 : Int32) (A76 : Nat → Int32) (A77 : Nat → Int32) (A78 : Nat → Int32) (A79 : Nat → Int64) (A80 : Nat → Int32) (A81 : Nat → Int32) (A82 : Nat → Int32) (A83 : Nat → Int32) (A84 : Nat → Int32) (A85 : Nat → Int32) (A86 : Nat → Int32) : Option (((Int64 × Int32 × Int32 × Int32 × Int32 × (Nat → Int32) × (Nat → Int32) × (Nat → Int32) × (Nat → Int64) × (Nat → Int32) × (Nat → Int32) × (Nat → Int32) × (Nat → Int32) × (Nat → Int32) × (Nat → Int32) × (Nat → Int32)) ⊕ (Int64 × Int32 × Int32 × Int32 × Int32 × (Nat → Int32) × (Nat → Int32) × (Nat → Int32) × (Nat → Int64) × (Nat → Int32) × (Nat → Int32) × (Nat → Int32) × (Nat → Int32) × (Nat → Int32) × (Nat → Int32) × (Nat → Int32))) ⊕ (Int32 × Int64 × Int32 × Int32 × Int32 × Int32 × (Nat → Int32) × (Nat → Int32) × (Nat → Int32) × (Nat → Int64) × (Nat → Int32) × (Nat → Int32) × (Nat → Int32) × (Nat → Int32) × (Nat → Int32) × (Nat → Int32) × (Nat → Int32))) := (if x69_27 ≤ v4 then some (Sum.inl (Sum.inr ((x69_19, x69_20, x69_21, x69_27, x69_35, A76, A77, A78, A79, A80, A81, A82, A83, A84, A85, A86)))) else ((fX12_edgesOf F x69_0 x69_1 x69_3 x69_22 x69_19 x69_20 x69_21 x69_27 x69_35 A76 A77 A78 A79 A80 A81 A82 A83 A84 A85 A86 v4).bind (fun r6 => (if r6.1 = 0 then some (Sum.inl (Sum.inl (r6.2.1, r6.2.2.1, r6.2.2.2.1, r6.2.2.2.2.1, r6.2.2.2.2.2.1, r6.2.2.2.2.2.2.1, r6.2.2.2.2.2.2.2.1, r6.2.2.2.2.2.2.2.2.1, r6.2.2.2.2.2.2.2.2.2.1, r6.2.2.2.2.2.2.2.2.2.2.1, r6.2.2.2.2.2.2.2.2.2.2.2.1, r6.2.2.2.2.2.2.2.2.2.2.2.2.1, r6.2.2.2.2.2.2.2.2.2.2.2.2.2.1, r6.2.2.2.2.2.2.2.2.2.2.2.2.2.2.1, r6.2.2.2.2.2.2.2.2.2.2.2.2.2.2.2.1, r6.2.2.2.2.2.2.2.2.2.2.2.2.2.2.2.2))) else some (Sum.inr (v4 + 1, r6.2.1, r6.2.2.1, r6.2.2.2.1, r6.2.2.2.2.1, r6.2.2.2.2.2.1, r6.2.2.2.2.2.2.1, r6.2.2.2.2.2.2.2.1, r6.2.2.2.2.2.2.2.2.1, r6.2.2.2.2.2.2.2.2.2.1, r6.2.2.2.2.2.2.2.2.2.2.1, r6.2.2.2.2.2.2.2.2.2.2.2.1, r6.2.2.2.2.2.2.2.2.2.2.2.2.1, r6.2.2.2.2.2.2.2.2.2.2.2.2.2.1, r6.2.2.2.2.2.2.2.2.2.2.2.2.2.2.1, r6.2.2.2.2.2.2.2.2.2.2.2.2.2.2.2.1, r6.2.2.2.2.2.2.2.2.2.2.2.2.2.2.2.2))))))
def fX12_reaches (F : Nat) (x69_0 : Int32) (x69_1 : Int32) (x69_3 : Int32) (x69_19 : Int64) (x69_20 : Int32) (x69_21 : Int32) (x69_22 : Int32) (x69_27 : Int32) (x69_35 : Int32) (A76 : Nat → Int32) (A77 : Nat → Int32) (A78 : Nat → Int32) (A79 : Nat → Int64) (A80 : Nat → Int32) (A81 : Nat → Int32) (A82 : Nat → Int32) (A83 : Nat → Int32) (A84 : Nat → Int32) (A85 : Nat → Int32) (A86 : Nat → Int32) (p1 : Int64) (p3 : Int32) : Option (Int32 × Int64 × Int32 × Int32 × Int32 × Int32 × Int32 × (Nat → Int32) × (Nat → Int32) × (Nat → Int32) × (Nat → Int64) × (Nat → Int32) × (Nat → Int32) × (Nat → Int32) × (Nat → Int32) × (Nat → Int32) × (Nat → Int32) × (Nat → Int32)) := ((fX12_begins F x69_27 x69_35 A80).bind (fun r2 => ((fX12_comes F r2.1 A79 r2.2.2 p1).bind (fun r3 => (gloop (fun u4 : (Int32 × Int64 × Int32 × Int32 × Int32 × Int32 × (Nat → Int32) × (Nat → Int32) × (Nat → Int32) × (Nat → Int64) × (Nat → Int32) × (Nat → Int32) × (Nat → Int32) × (Nat → Int32) × (Nat → Int32) × (Nat → Int32) × (Nat → Int32)) => fX12_reaches_S17 F x69_0 x69_1 x69_3 p3 u4.1 u4.2.1 u4.2.2.1 u4.2.2.2.1 u4.2.2.2.2.1 u4.2.2.2.2.2.1 u4.2.2.2.2.2.2.1 u4.2.2.2.2.2.2.2.1 u4.2.2.2.2.2.2.2.2.1 u4.2.2.2.2.2.2.2.2.2.1 u4.2.2.2.2.2.2.2.2.2.2.1 u4.2.2.2.2.2.2.2.2.2.2.2.1 u4.2.2.2.2.2.2.2.2.2.2.2.2.1 u4.2.2.2.2.2.2.2.2.2.2.2.2.2.1 u4.2.2.2.2.2.2.2.2.2.2.2.2.2.2.1 u4.2.2.2.2.2.2.2.2.2.2.2.2.2.2.2.1 u4.2.2.2.2.2.2.2.2.2.2.2.2.2.2.2.2) F (0, x69_19, x69_20, x69_21, r3.1, r2.2.1, A76, A77, A78, r3.2.1, r3.2.2, A81, A82, A83, A84, A85, A86)).bind (Sum.elim (fun t4_35 => some (0, t4_35.1, t4_35.2.1, t4_35.2.2.1, p3, t4_35.2.2.2.1, t4_35.2.2.2.2.1, t4_35.2.2.2.2.2.1, t4_35.2.2.2.2.2.2.1, t4_35.2.2.2.2.2.2.2.1, t4_35.2.2.2.2.2.2.2.2.1, t4_35.2.2.2.2.2.2.2.2.2.1, t4_35.2.2.2.2.2.2.2.2.2.2.1, t4_35.2.2.2.2.2.2.2.2.2.2.2.1, t4_35.2.2.2.2.2.2.2.2.2.2.2.2.1, t4_35.2.2.2.2.2.2.2.2.2.2.2.2.2.1, t4_35.2.2.2.2.2.2.2.2.2.2.2.2.2.2.1, t4_35.2.2.2.2.2.2.2.2.2.2.2.2.2.2.2)) (fun t4_43 => some (1, t4_43.1, t4_43.2.1, t4_43.2.2.1, p3, t4_43.2.2.2.1, t4_43.2.2.2.2.1, t4_43.2.2.2.2.2.1, t4_43.2.2.2.2.2.2.1, t4_43.2.2.2.2.2.2.2.1, t4_43.2.2.2.2.2.2.2.2.1, t4_43.2.2.2.2.2.2.2.2.2.1, t4_43.2.2.2.2.2.2.2.2.2.2.1, t4_43.2.2.2.2.2.2.2.2.2.2.2.1, t4_43.2.2.2.2.2.2.2.2.2.2.2.2.1, t4_43.2.2.2.2.2.2.2.2.2.2.2.2.2.1, t4_43.2.2.2.2.2.2.2.2.2.2.2.2.2.2.1, t4_43.2.2.2.2.2.2.2.2.2.2.2.2.2.2.2)))))))
theorem dX12_reaches_0 : decode cX12_reaches 0 = .ok (.aload_n 0, 1) := by decide +kernel
theorem dX12_reaches_1 : decode cX12_reaches 1 = .ok (.iload_n 3, 1) := by decide +kernel
theorem dX12_reaches_2 : decode cX12_reaches 2 = .ok (.putfield 213, 3) := by decide +kernel
theorem dX12_reaches_5 : decode cX12_reaches 5 = .ok (.aload_n 0, 1) := by decide +kernel
theorem dX12_reaches_6 : decode cX12_reaches 6 = .ok (.invokevirtual 272, 3) := by decide +kernel
theorem dX12_reaches_9 : decode cX12_reaches 9 = .ok (.aload_n 0, 1) := by decide +kernel
theorem dX12_reaches_10 : decode cX12_reaches 10 = .ok (.lload_n 1, 1) := by decide +kernel
theorem dX12_reaches_11 : decode cX12_reaches 11 = .ok (.invokevirtual 264, 3) := by decide +kernel
theorem dX12_reaches_14 : decode cX12_reaches 14 = .ok (.iconst 0, 1) := by decide +kernel
theorem dX12_reaches_15 : decode cX12_reaches 15 = .ok (.istore 4, 2) := by decide +kernel
theorem dX12_reaches_17 : decode cX12_reaches 17 = .ok (.iload 4, 2) := by decide +kernel
theorem dX12_reaches_19 : decode cX12_reaches 19 = .ok (.aload_n 0, 1) := by decide +kernel
theorem dX12_reaches_20 : decode cX12_reaches 20 = .ok (.getfield 255, 3) := by decide +kernel
theorem dX12_reaches_23 : decode cX12_reaches 23 = .ok (.if_icmp .ge 20, 3) := by decide +kernel
theorem dX12_reaches_26 : decode cX12_reaches 26 = .ok (.aload_n 0, 1) := by decide +kernel
theorem dX12_reaches_27 : decode cX12_reaches 27 = .ok (.iload 4, 2) := by decide +kernel
theorem dX12_reaches_29 : decode cX12_reaches 29 = .ok (.invokevirtual 275, 3) := by decide +kernel
theorem dX12_reaches_32 : decode cX12_reaches 32 = .ok (.ifCond .ne 5, 3) := by decide +kernel
theorem dX12_reaches_35 : decode cX12_reaches 35 = .ok (.iconst 0, 1) := by decide +kernel
theorem dX12_reaches_36 : decode cX12_reaches 36 = .ok (.ireturn, 1) := by decide +kernel
theorem dX12_reaches_37 : decode cX12_reaches 37 = .ok (.iinc 4 1, 3) := by decide +kernel
theorem dX12_reaches_40 : decode cX12_reaches 40 = .ok (.goto (-23), 3) := by decide +kernel
theorem dX12_reaches_43 : decode cX12_reaches 43 = .ok (.iconst 1, 1) := by decide +kernel
theorem dX12_reaches_44 : decode cX12_reaches 44 = .ok (.ireturn, 1) := by decide +kernel
set_option maxHeartbeats 4000000 in
set_option maxRecDepth 100000 in
theorem kX12_reaches {l : Launch} {D : va_G} {cy : Nat → ClassId} {N : Nat} {q : Nat → Nat} {m0 : Nat → Value} {a0 : Nat → vp_A} {sz : Nat} (hN : 105 ≤ N) (hsh : SH q m0) {x69_0 : Int32} (h_x69_0 : m0 6900 = .int x69_0) {x69_1 : Int32} (h_x69_1 : m0 6901 = .int x69_1) {x69_3 : Int32} (h_x69_3 : m0 6903 = .int x69_3) {x69_19 : Int64} (h_x69_19 : m0 6919 = .long x69_19) {x69_20 : Int32} (h_x69_20 : m0 6920 = .int x69_20) {x69_21 : Int32} (h_x69_21 : m0 6921 = .int x69_21) {x69_22 : Int32} (h_x69_22 : m0 6922 = .int x69_22) {x69_27 : Int32} (h_x69_27 : m0 6927 = .int x69_27) {x69_35 : Int32} (h_x69_35 : m0 6935 = .int x69_35) {A76 : Nat → Int32} (h_A76 : a0 76 = (40, .inl A76)) {A77 : Nat → Int32} (h_A77 : a0 77 = (40, .inl A77)) {A78 : Nat → Int32} (h_A78 : a0 78 = (40, .inl A78)) {A79 : Nat → Int64} (h_A79 : a0 79 = (6001, .inr (.inl A79))) {A80 : Nat → Int32} (h_A80 : a0 80 = (16384, .inl A80)) {A81 : Nat → Int32} (h_A81 : a0 81 = (6002, .inl A81)) {A82 : Nat → Int32} (h_A82 : a0 82 = (84000, .inl A82)) {A83 : Nat → Int32} (h_A83 : a0 83 = (84000, .inl A83)) {A84 : Nat → Int32} (h_A84 : a0 84 = (84000, .inl A84)) {A85 : Nat → Int32} (h_A85 : a0 85 = (84000, .inl A85)) {A86 : Nat → Int32} (h_A86 : a0 86 = (84000, .inl A86)) (F : Nat) (p1 : Int64) (p3 : Int32) {X0 : Int32 × Int64 × Int32 × Int32 × Int32 × Int32 × Int32 × (Nat → Int32) × (Nat → Int32) × (Nat → Int32) × (Nat → Int64) × (Nat → Int32) × (Nat → Int32) × (Nat → Int32) × (Nat → Int32) × (Nat → Int32) × (Nat → Int32) × (Nat → Int32)} (hs0 : fX12_reaches F x69_0 x69_1 x69_3 x69_19 x69_20 x69_21 x69_22 x69_27 x69_35 A76 A77 A78 A79 A80 A81 A82 A83 A84 A85 A86 p1 p3 = some X0) : gMi l yX12_reaches cX12_reaches 5 (some .boolean) ({ frames := 7, cells := 0, slots := 0, locals := 164 } : Room) D cy N q m0 a0 sz [.ref (q 69), .long p1, .int p3] (fun r m' a' => r = X0.1 ∧ m' 6919 = .long X0.2.1 ∧ m' 6920 = .int X0.2.2.1 ∧ m' 6921 = .int X0.2.2.2.1 ∧ m' 6922 = .int X0.2.2.2.2.1 ∧ m' 6927 = .int X0.2.2.2.2.2.1 ∧ m' 6935 = .int X0.2.2.2.2.2.2.1 ∧ (∀ j, nel j [6919, 6920, 6921, 6922, 6927, 6935] = false → m' j = m0 j) ∧ a' 76 = (40, .inl X0.2.2.2.2.2.2.2.1) ∧ a' 77 = (40, .inl X0.2.2.2.2.2.2.2.2.1) ∧ a' 78 = (40, .inl X0.2.2.2.2.2.2.2.2.2.1) ∧ a' 79 = (6001, .inr (.inl X0.2.2.2.2.2.2.2.2.2.2.1)) ∧ a' 80 = (16384, .inl X0.2.2.2.2.2.2.2.2.2.2.2.1) ∧ a' 81 = (6002, .inl X0.2.2.2.2.2.2.2.2.2.2.2.2.1) ∧ a' 82 = (84000, .inl X0.2.2.2.2.2.2.2.2.2.2.2.2.2.1) ∧ a' 83 = (84000, .inl X0.2.2.2.2.2.2.2.2.2.2.2.2.2.2.1) ∧ a' 84 = (84000, .inl X0.2.2.2.2.2.2.2.2.2.2.2.2.2.2.2.1) ∧ a' 85 = (84000, .inl X0.2.2.2.2.2.2.2.2.2.2.2.2.2.2.2.2.1) ∧ a' 86 = (84000, .inl X0.2.2.2.2.2.2.2.2.2.2.2.2.2.2.2.2.2) ∧ (∀ j, nel j [76, 77, 78, 79, 80, 81, 82, 83, 84, 85, 86] = false → a' j = a0 j)) := by
  refine g_ofi (by decide) (Nat.le_of_ble_eq_true rfl) ?_
  intro p e s M args below meth c hx hb hr hG hown hin hlocks hml hW hS ls hl
  unfold fX12_reaches at hs0
  have hoff : ∀ j, nel j [6919, 6920, 6921, 6922, 6927, 6935] = false → m0 j = m0 j := off0
  have hoffa : ∀ j, nel j [76, 77, 78, 79, 80, 81, 82, 83, 84, 85, 86] = false → a0 j = a0 j := off0
  refine lv_aload_n hx hb dX12_reaches_0 rfl (lv_at hl 0 rfl) ?_
  refine lv_iload_n hx hb dX12_reaches_1 rfl (lv_at hl 2 rfl) ?_
  refine gp12_22 hx hb hG hown hW hS (o := 69) (ltN hN 69 rfl) gk69 (v := p3) gx505 dX12_reaches_2 (fun m1 H locs hm1 ho1 hW hS => ?_)
  have ho1 := off1 ho1
  have w_x69_19 : m1 6919 = .long x69_19 := (ho1 6919 rfl).trans h_x69_19
  have w_x69_20 : m1 6920 = .int x69_20 := (ho1 6920 rfl).trans h_x69_20
  have w_x69_21 : m1 6921 = .int x69_21 := (ho1 6921 rfl).trans h_x69_21
  have w_x69_22 : m1 6922 = .int p3 := hm1
  have w_x69_27 : m1 6927 = .int x69_27 := (ho1 6927 rfl).trans h_x69_27
  have w_x69_35 : m1 6935 = .int x69_35 := (ho1 6935 rfl).trans h_x69_35
  have hoff := offm hoff ho1 (by decide +kernel)
  have hsh := SH.off hsh ho1 (by decide +kernel)
  refine lv_aload_n hx hb dX12_reaches_5 rfl (lv_at hl 0 rfl) ?_
  obtain ⟨r2, hf2, hs0⟩ := obind hs0
  refine g_Vv (n := 0) hx hb hml hown hG hW hS [] (kX12_begins hN hsh w_x69_27 w_x69_35 h_A80 F hf2) (ltN hN 69 rfl) gk69 (by decide) rfl rfl (gd_V gx718 gx719 gx720 gx5 gx721) rfl rfl (by decide) ⟨Nat.le_of_ble_eq_true rfl, Nat.le_of_ble_eq_true rfl⟩ rfl hl (Nat.le_of_ble_eq_true rfl) ⟨Nat.zero_le _, Nat.zero_le _⟩ dX12_reaches_6 (fun m2 a2 H locs hp2 hW hS => ?_)
  obtain ⟨hp2_x69_27, hp2_x69_35, ho2, hp2_A80, hoa2⟩ := hp2
  have w_x69_19 : m2 6919 = .long x69_19 := (ho2 6919 rfl).trans w_x69_19
  have w_x69_20 : m2 6920 = .int x69_20 := (ho2 6920 rfl).trans w_x69_20
  have w_x69_21 : m2 6921 = .int x69_21 := (ho2 6921 rfl).trans w_x69_21
  have w_x69_22 : m2 6922 = .int p3 := (ho2 6922 rfl).trans w_x69_22
  have w_x69_27 : m2 6927 = .int r2.1 := hp2_x69_27
  have w_x69_35 : m2 6935 = .int r2.2.1 := hp2_x69_35
  have hoff := offm hoff ho2 (by decide +kernel)
  have hsh := SH.off hsh ho2 (by decide +kernel)
  have w_A76 : a2 76 = (40, .inl A76) := (hoa2 76 rfl).trans h_A76
  have w_A77 : a2 77 = (40, .inl A77) := (hoa2 77 rfl).trans h_A77
  have w_A78 : a2 78 = (40, .inl A78) := (hoa2 78 rfl).trans h_A78
  have w_A79 : a2 79 = (6001, .inr (.inl A79)) := (hoa2 79 rfl).trans h_A79
  have w_A80 : a2 80 = (16384, .inl r2.2.2) := hp2_A80
  have w_A81 : a2 81 = (6002, .inl A81) := (hoa2 81 rfl).trans h_A81
  have w_A82 : a2 82 = (84000, .inl A82) := (hoa2 82 rfl).trans h_A82
  have w_A83 : a2 83 = (84000, .inl A83) := (hoa2 83 rfl).trans h_A83
  have w_A84 : a2 84 = (84000, .inl A84) := (hoa2 84 rfl).trans h_A84
  have w_A85 : a2 85 = (84000, .inl A85) := (hoa2 85 rfl).trans h_A85
  have w_A86 : a2 86 = (84000, .inl A86) := (hoa2 86 rfl).trans h_A86
  have hoffa := offm hoffa hoa2 (by decide +kernel)
  refine lv_aload_n hx hb dX12_reaches_9 rfl (lv_at hl 0 rfl) ?_
  refine lv_lload_n hx hb dX12_reaches_10 rfl (lv_at hl 1 rfl) ?_
  obtain ⟨r3, hf3, hs0⟩ := obind hs0
  refine g_Vv (n := 1) hx hb hml hown hG hW hS [.long p1] (kX12_comes hN hsh w_x69_27 w_A79 w_A80 F p1 hf3) (ltN hN 69 rfl) gk69 (by decide) rfl rfl (gd_V gx723 gx724 gx725 gx5 gx726) rfl rfl (by decide) ⟨Nat.le_of_ble_eq_true rfl, Nat.le_of_ble_eq_true rfl⟩ rfl hl (Nat.le_of_ble_eq_true rfl) ⟨Nat.zero_le _, Nat.zero_le _⟩ dX12_reaches_11 (fun m3 a3 H locs hp3 hW hS => ?_)
  obtain ⟨hp3_x69_27, ho3, hp3_A79, hp3_A80, hoa3⟩ := hp3
  have w_x69_19 : m3 6919 = .long x69_19 := (ho3 6919 rfl).trans w_x69_19
  have w_x69_20 : m3 6920 = .int x69_20 := (ho3 6920 rfl).trans w_x69_20
  have w_x69_21 : m3 6921 = .int x69_21 := (ho3 6921 rfl).trans w_x69_21
  have w_x69_22 : m3 6922 = .int p3 := (ho3 6922 rfl).trans w_x69_22
  have w_x69_27 : m3 6927 = .int r3.1 := hp3_x69_27
  have w_x69_35 : m3 6935 = .int r2.2.1 := (ho3 6935 rfl).trans w_x69_35
  have hoff := offm hoff ho3 (by decide +kernel)
  have hsh := SH.off hsh ho3 (by decide +kernel)
  have w_A76 : a3 76 = (40, .inl A76) := (hoa3 76 rfl).trans w_A76
  have w_A77 : a3 77 = (40, .inl A77) := (hoa3 77 rfl).trans w_A77
  have w_A78 : a3 78 = (40, .inl A78) := (hoa3 78 rfl).trans w_A78
  have w_A79 : a3 79 = (6001, .inr (.inl r3.2.1)) := hp3_A79
  have w_A80 : a3 80 = (16384, .inl r3.2.2) := hp3_A80
  have w_A81 : a3 81 = (6002, .inl A81) := (hoa3 81 rfl).trans w_A81
  have w_A82 : a3 82 = (84000, .inl A82) := (hoa3 82 rfl).trans w_A82
  have w_A83 : a3 83 = (84000, .inl A83) := (hoa3 83 rfl).trans w_A83
  have w_A84 : a3 84 = (84000, .inl A84) := (hoa3 84 rfl).trans w_A84
  have w_A85 : a3 85 = (84000, .inl A85) := (hoa3 85 rfl).trans w_A85
  have w_A86 : a3 86 = (84000, .inl A86) := (hoa3 86 rfl).trans w_A86
  have hoffa := offm hoffa hoa3 (by decide +kernel)
  refine lv_iconst (v := 0) hx hb dX12_reaches_14 (by decide) ?_
  refine lv_istore (lv' := [(4, .int 0), (0, .ref (q 69)), (1, .long p1), (3, .int p3)]) hx hb dX12_reaches_15 hl (by decide) rfl (fun ls hl => ?_)
  obtain ⟨r4, hg4, hs0⟩ := obind hs0
  have hE1_35 : ∀ (t4_35 : Int64 × Int32 × Int32 × Int32 × Int32 × (Nat → Int32) × (Nat → Int32) × (Nat → Int32) × (Nat → Int64) × (Nat → Int32) × (Nat → Int32) × (Nat → Int32) × (Nat → Int32) × (Nat → Int32) × (Nat → Int32) × (Nat → Int32)) (hr4 : Sum.inl t4_35 = r4) (m : Nat → Value) (a : Nat → vp_A) (H : Heap) (locs : List Loc) (w_x69_19 : m 6919 = .long t4_35.1) (w_x69_20 : m 6920 = .int t4_35.2.1) (w_x69_21 : m 6921 = .int t4_35.2.2.1) (w_x69_22 : m 6922 = .int p3) (w_x69_27 : m 6927 = .int t4_35.2.2.2.1) (w_x69_35 : m 6935 = .int t4_35.2.2.2.2.1) (hoff : ∀ j, nel j [6919, 6920, 6921, 6922, 6927, 6935] = false → m j = m0 j) (hsh : SH q m) (w_A76 : a 76 = (40, .inl t4_35.2.2.2.2.2.1)) (w_A77 : a 77 = (40, .inl t4_35.2.2.2.2.2.2.1)) (w_A78 : a 78 = (40, .inl t4_35.2.2.2.2.2.2.2.1)) (w_A79 : a 79 = (6001, .inr (.inl t4_35.2.2.2.2.2.2.2.2.1))) (w_A80 : a 80 = (16384, .inl t4_35.2.2.2.2.2.2.2.2.2.1)) (w_A81 : a 81 = (6002, .inl t4_35.2.2.2.2.2.2.2.2.2.2.1)) (w_A82 : a 82 = (84000, .inl t4_35.2.2.2.2.2.2.2.2.2.2.2.1)) (w_A83 : a 83 = (84000, .inl t4_35.2.2.2.2.2.2.2.2.2.2.2.2.1)) (w_A84 : a 84 = (84000, .inl t4_35.2.2.2.2.2.2.2.2.2.2.2.2.2.1)) (w_A85 : a 85 = (84000, .inl t4_35.2.2.2.2.2.2.2.2.2.2.2.2.2.2.1)) (w_A86 : a 86 = (84000, .inl t4_35.2.2.2.2.2.2.2.2.2.2.2.2.2.2.2)) (hoffa : ∀ j, nel j [76, 77, 78, 79, 80, 81, 82, 83, 84, 85, 86] = false → a j = a0 j) (ls : Array Slot) (hl : lv_has ls 5 []) (hW : GW D cy (gA N q s.heap.size) N q m a s H) (hS : va_S (gA N q s.heap.size) s.heap H locs), W p l e ({ frames := 7, cells := 0, slots := 0, locals := 164 } : Room) s M args below meth c H locs 0 0 (MQ below (va_Qi (fun (r : Int32) (u : (Nat → Value) × (Nat → vp_A)) => r = X0.1 ∧ u.1 6919 = .long X0.2.1 ∧ u.1 6920 = .int X0.2.2.1 ∧ u.1 6921 = .int X0.2.2.2.1 ∧ u.1 6922 = .int X0.2.2.2.2.1 ∧ u.1 6927 = .int X0.2.2.2.2.2.1 ∧ u.1 6935 = .int X0.2.2.2.2.2.2.1 ∧ (∀ j, nel j [6919, 6920, 6921, 6922, 6927, 6935] = false → u.1 j = m0 j) ∧ u.2 76 = (40, .inl X0.2.2.2.2.2.2.2.1) ∧ u.2 77 = (40, .inl X0.2.2.2.2.2.2.2.2.1) ∧ u.2 78 = (40, .inl X0.2.2.2.2.2.2.2.2.2.1) ∧ u.2 79 = (6001, .inr (.inl X0.2.2.2.2.2.2.2.2.2.2.1)) ∧ u.2 80 = (16384, .inl X0.2.2.2.2.2.2.2.2.2.2.2.1) ∧ u.2 81 = (6002, .inl X0.2.2.2.2.2.2.2.2.2.2.2.2.1) ∧ u.2 82 = (84000, .inl X0.2.2.2.2.2.2.2.2.2.2.2.2.2.1) ∧ u.2 83 = (84000, .inl X0.2.2.2.2.2.2.2.2.2.2.2.2.2.2.1) ∧ u.2 84 = (84000, .inl X0.2.2.2.2.2.2.2.2.2.2.2.2.2.2.2.1) ∧ u.2 85 = (84000, .inl X0.2.2.2.2.2.2.2.2.2.2.2.2.2.2.2.2.1) ∧ u.2 86 = (84000, .inl X0.2.2.2.2.2.2.2.2.2.2.2.2.2.2.2.2.2) ∧ (∀ j, nel j [76, 77, 78, 79, 80, 81, 82, 83, 84, 85, 86] = false → u.2 j = a0 j)) (gB D cy N q s.heap.size) (gA N q s.heap.size)) args s 0 0 (gA N q s.heap.size)) (F0 M 35 ls []) := by
    intro t4_35 hr4 m a H locs w_x69_19 w_x69_20 w_x69_21 w_x69_22 w_x69_27 w_x69_35 hoff hsh w_A76 w_A77 w_A78 w_A79 w_A80 w_A81 w_A82 w_A83 w_A84 w_A85 w_A86 hoffa ls hl hW hS
    subst hr4
    have hs0 := osum_l hs0
    refine lv_iconst (v := 0) hx hb dX12_reaches_35 (by decide) ?_
    have hs0 := Option.some.inj hs0
    subst hs0
    exact W.zret hx hb hr rfl (fun t ht hw => ⟨⟨_, (m, a), rfl, ⟨rfl, w_x69_19, w_x69_20, w_x69_21, w_x69_22, w_x69_27, w_x69_35, hoff, w_A76, w_A77, w_A78, w_A79, w_A80, w_A81, w_A82, w_A83, w_A84, w_A85, w_A86, hoffa⟩, g_end hW ht hw⟩, hS.F ht⟩) hS.2.2 dX12_reaches_36 hlocks
  have hE1_43 : ∀ (t4_43 : Int64 × Int32 × Int32 × Int32 × Int32 × (Nat → Int32) × (Nat → Int32) × (Nat → Int32) × (Nat → Int64) × (Nat → Int32) × (Nat → Int32) × (Nat → Int32) × (Nat → Int32) × (Nat → Int32) × (Nat → Int32) × (Nat → Int32)) (hr4 : Sum.inr (t4_43) = r4) (m : Nat → Value) (a : Nat → vp_A) (H : Heap) (locs : List Loc) (w_x69_19 : m 6919 = .long t4_43.1) (w_x69_20 : m 6920 = .int t4_43.2.1) (w_x69_21 : m 6921 = .int t4_43.2.2.1) (w_x69_22 : m 6922 = .int p3) (w_x69_27 : m 6927 = .int t4_43.2.2.2.1) (w_x69_35 : m 6935 = .int t4_43.2.2.2.2.1) (hoff : ∀ j, nel j [6919, 6920, 6921, 6922, 6927, 6935] = false → m j = m0 j) (hsh : SH q m) (w_A76 : a 76 = (40, .inl t4_43.2.2.2.2.2.1)) (w_A77 : a 77 = (40, .inl t4_43.2.2.2.2.2.2.1)) (w_A78 : a 78 = (40, .inl t4_43.2.2.2.2.2.2.2.1)) (w_A79 : a 79 = (6001, .inr (.inl t4_43.2.2.2.2.2.2.2.2.1))) (w_A80 : a 80 = (16384, .inl t4_43.2.2.2.2.2.2.2.2.2.1)) (w_A81 : a 81 = (6002, .inl t4_43.2.2.2.2.2.2.2.2.2.2.1)) (w_A82 : a 82 = (84000, .inl t4_43.2.2.2.2.2.2.2.2.2.2.2.1)) (w_A83 : a 83 = (84000, .inl t4_43.2.2.2.2.2.2.2.2.2.2.2.2.1)) (w_A84 : a 84 = (84000, .inl t4_43.2.2.2.2.2.2.2.2.2.2.2.2.2.1)) (w_A85 : a 85 = (84000, .inl t4_43.2.2.2.2.2.2.2.2.2.2.2.2.2.2.1)) (w_A86 : a 86 = (84000, .inl t4_43.2.2.2.2.2.2.2.2.2.2.2.2.2.2.2)) (hoffa : ∀ j, nel j [76, 77, 78, 79, 80, 81, 82, 83, 84, 85, 86] = false → a j = a0 j) (ls : Array Slot) (hl : lv_has ls 5 []) (hW : GW D cy (gA N q s.heap.size) N q m a s H) (hS : va_S (gA N q s.heap.size) s.heap H locs), W p l e ({ frames := 7, cells := 0, slots := 0, locals := 164 } : Room) s M args below meth c H locs 0 0 (MQ below (va_Qi (fun (r : Int32) (u : (Nat → Value) × (Nat → vp_A)) => r = X0.1 ∧ u.1 6919 = .long X0.2.1 ∧ u.1 6920 = .int X0.2.2.1 ∧ u.1 6921 = .int X0.2.2.2.1 ∧ u.1 6922 = .int X0.2.2.2.2.1 ∧ u.1 6927 = .int X0.2.2.2.2.2.1 ∧ u.1 6935 = .int X0.2.2.2.2.2.2.1 ∧ (∀ j, nel j [6919, 6920, 6921, 6922, 6927, 6935] = false → u.1 j = m0 j) ∧ u.2 76 = (40, .inl X0.2.2.2.2.2.2.2.1) ∧ u.2 77 = (40, .inl X0.2.2.2.2.2.2.2.2.1) ∧ u.2 78 = (40, .inl X0.2.2.2.2.2.2.2.2.2.1) ∧ u.2 79 = (6001, .inr (.inl X0.2.2.2.2.2.2.2.2.2.2.1)) ∧ u.2 80 = (16384, .inl X0.2.2.2.2.2.2.2.2.2.2.2.1) ∧ u.2 81 = (6002, .inl X0.2.2.2.2.2.2.2.2.2.2.2.2.1) ∧ u.2 82 = (84000, .inl X0.2.2.2.2.2.2.2.2.2.2.2.2.2.1) ∧ u.2 83 = (84000, .inl X0.2.2.2.2.2.2.2.2.2.2.2.2.2.2.1) ∧ u.2 84 = (84000, .inl X0.2.2.2.2.2.2.2.2.2.2.2.2.2.2.2.1) ∧ u.2 85 = (84000, .inl X0.2.2.2.2.2.2.2.2.2.2.2.2.2.2.2.2.1) ∧ u.2 86 = (84000, .inl X0.2.2.2.2.2.2.2.2.2.2.2.2.2.2.2.2.2) ∧ (∀ j, nel j [76, 77, 78, 79, 80, 81, 82, 83, 84, 85, 86] = false → u.2 j = a0 j)) (gB D cy N q s.heap.size) (gA N q s.heap.size)) args s 0 0 (gA N q s.heap.size)) (F0 M 43 ls []) := by
    intro t4_43 hr4 m a H locs w_x69_19 w_x69_20 w_x69_21 w_x69_22 w_x69_27 w_x69_35 hoff hsh w_A76 w_A77 w_A78 w_A79 w_A80 w_A81 w_A82 w_A83 w_A84 w_A85 w_A86 hoffa ls hl hW hS
    subst hr4
    have hs0 := osum_r hs0
    refine lv_iconst (v := 1) hx hb dX12_reaches_43 (by decide) ?_
    have hs0 := Option.some.inj hs0
    subst hs0
    exact W.zret hx hb hr rfl (fun t ht hw => ⟨⟨_, (m, a), rfl, ⟨rfl, w_x69_19, w_x69_20, w_x69_21, w_x69_22, w_x69_27, w_x69_35, hoff, w_A76, w_A77, w_A78, w_A79, w_A80, w_A81, w_A82, w_A83, w_A84, w_A85, w_A86, hoffa⟩, g_end hW ht hw⟩, hS.F ht⟩) hS.2.2 dX12_reaches_44 hlocks
  have hL1 : ∀ (n : Nat) (v4k4 : Int32) (x69_19k4 : Int64) (x69_20k4 : Int32) (x69_21k4 : Int32) (x69_27k4 : Int32) (x69_35k4 : Int32) (A76k4 : Nat → Int32) (A77k4 : Nat → Int32) (A78k4 : Nat → Int32) (A79k4 : Nat → Int64) (A80k4 : Nat → Int32) (A81k4 : Nat → Int32) (A82k4 : Nat → Int32) (A83k4 : Nat → Int32) (A84k4 : Nat → Int32) (A85k4 : Nat → Int32) (A86k4 : Nat → Int32) (m : Nat → Value) (a : Nat → vp_A) (H : Heap) (locs : List Loc) (w_x69_19 : m 6919 = .long x69_19k4) (w_x69_20 : m 6920 = .int x69_20k4) (w_x69_21 : m 6921 = .int x69_21k4) (w_x69_22 : m 6922 = .int p3) (w_x69_27 : m 6927 = .int x69_27k4) (w_x69_35 : m 6935 = .int x69_35k4) (hoff : ∀ j, nel j [6919, 6920, 6921, 6922, 6927, 6935] = false → m j = m0 j) (hsh : SH q m) (w_A76 : a 76 = (40, .inl A76k4)) (w_A77 : a 77 = (40, .inl A77k4)) (w_A78 : a 78 = (40, .inl A78k4)) (w_A79 : a 79 = (6001, .inr (.inl A79k4))) (w_A80 : a 80 = (16384, .inl A80k4)) (w_A81 : a 81 = (6002, .inl A81k4)) (w_A82 : a 82 = (84000, .inl A82k4)) (w_A83 : a 83 = (84000, .inl A83k4)) (w_A84 : a 84 = (84000, .inl A84k4)) (w_A85 : a 85 = (84000, .inl A85k4)) (w_A86 : a 86 = (84000, .inl A86k4)) (hoffa : ∀ j, nel j [76, 77, 78, 79, 80, 81, 82, 83, 84, 85, 86] = false → a j = a0 j) (ls : Array Slot) (hl : lv_has ls 5 [(0, .ref (q 69)), (4, .int v4k4)]) (hg4 : gloop (fun u4 : (Int32 × Int64 × Int32 × Int32 × Int32 × Int32 × (Nat → Int32) × (Nat → Int32) × (Nat → Int32) × (Nat → Int64) × (Nat → Int32) × (Nat → Int32) × (Nat → Int32) × (Nat → Int32) × (Nat → Int32) × (Nat → Int32) × (Nat → Int32)) => fX12_reaches_S17 F x69_0 x69_1 x69_3 p3 u4.1 u4.2.1 u4.2.2.1 u4.2.2.2.1 u4.2.2.2.2.1 u4.2.2.2.2.2.1 u4.2.2.2.2.2.2.1 u4.2.2.2.2.2.2.2.1 u4.2.2.2.2.2.2.2.2.1 u4.2.2.2.2.2.2.2.2.2.1 u4.2.2.2.2.2.2.2.2.2.2.1 u4.2.2.2.2.2.2.2.2.2.2.2.1 u4.2.2.2.2.2.2.2.2.2.2.2.2.1 u4.2.2.2.2.2.2.2.2.2.2.2.2.2.1 u4.2.2.2.2.2.2.2.2.2.2.2.2.2.2.1 u4.2.2.2.2.2.2.2.2.2.2.2.2.2.2.2.1 u4.2.2.2.2.2.2.2.2.2.2.2.2.2.2.2.2) n (v4k4, x69_19k4, x69_20k4, x69_21k4, x69_27k4, x69_35k4, A76k4, A77k4, A78k4, A79k4, A80k4, A81k4, A82k4, A83k4, A84k4, A85k4, A86k4) = some r4) (hW : GW D cy (gA N q s.heap.size) N q m a s H) (hS : va_S (gA N q s.heap.size) s.heap H locs), W p l e ({ frames := 7, cells := 0, slots := 0, locals := 164 } : Room) s M args below meth c H locs 0 0 (MQ below (va_Qi (fun (r : Int32) (u : (Nat → Value) × (Nat → vp_A)) => r = X0.1 ∧ u.1 6919 = .long X0.2.1 ∧ u.1 6920 = .int X0.2.2.1 ∧ u.1 6921 = .int X0.2.2.2.1 ∧ u.1 6922 = .int X0.2.2.2.2.1 ∧ u.1 6927 = .int X0.2.2.2.2.2.1 ∧ u.1 6935 = .int X0.2.2.2.2.2.2.1 ∧ (∀ j, nel j [6919, 6920, 6921, 6922, 6927, 6935] = false → u.1 j = m0 j) ∧ u.2 76 = (40, .inl X0.2.2.2.2.2.2.2.1) ∧ u.2 77 = (40, .inl X0.2.2.2.2.2.2.2.2.1) ∧ u.2 78 = (40, .inl X0.2.2.2.2.2.2.2.2.2.1) ∧ u.2 79 = (6001, .inr (.inl X0.2.2.2.2.2.2.2.2.2.2.1)) ∧ u.2 80 = (16384, .inl X0.2.2.2.2.2.2.2.2.2.2.2.1) ∧ u.2 81 = (6002, .inl X0.2.2.2.2.2.2.2.2.2.2.2.2.1) ∧ u.2 82 = (84000, .inl X0.2.2.2.2.2.2.2.2.2.2.2.2.2.1) ∧ u.2 83 = (84000, .inl X0.2.2.2.2.2.2.2.2.2.2.2.2.2.2.1) ∧ u.2 84 = (84000, .inl X0.2.2.2.2.2.2.2.2.2.2.2.2.2.2.2.1) ∧ u.2 85 = (84000, .inl X0.2.2.2.2.2.2.2.2.2.2.2.2.2.2.2.2.1) ∧ u.2 86 = (84000, .inl X0.2.2.2.2.2.2.2.2.2.2.2.2.2.2.2.2.2) ∧ (∀ j, nel j [76, 77, 78, 79, 80, 81, 82, 83, 84, 85, 86] = false → u.2 j = a0 j)) (gB D cy N q s.heap.size) (gA N q s.heap.size)) args s 0 0 (gA N q s.heap.size)) (F0 M 17 ls []) := by
    intro n
    induction n with
    | zero => intro v4k4 x69_19k4 x69_20k4 x69_21k4 x69_27k4 x69_35k4 A76k4 A77k4 A78k4 A79k4 A80k4 A81k4 A82k4 A83k4 A84k4 A85k4 A86k4 m a H locs w_x69_19 w_x69_20 w_x69_21 w_x69_22 w_x69_27 w_x69_35 hoff hsh w_A76 w_A77 w_A78 w_A79 w_A80 w_A81 w_A82 w_A83 w_A84 w_A85 w_A86 hoffa ls hl hg4 hW hS; exact (gl_zero hg4).elim
    | succ n ih1 =>
      intro v4k4 x69_19k4 x69_20k4 x69_21k4 x69_27k4 x69_35k4 A76k4 A77k4 A78k4 A79k4 A80k4 A81k4 A82k4 A83k4 A84k4 A85k4 A86k4 m a H locs w_x69_19 w_x69_20 w_x69_21 w_x69_22 w_x69_27 w_x69_35 hoff hsh w_A76 w_A77 w_A78 w_A79 w_A80 w_A81 w_A82 w_A83 w_A84 w_A85 w_A86 hoffa ls hl hg4 hW hS
      obtain ⟨X1, hs1, hXl1, hXr1⟩ := gl_succ hg4
      have hs1 : fX12_reaches_S17 F x69_0 x69_1 x69_3 p3 v4k4 x69_19k4 x69_20k4 x69_21k4 x69_27k4 x69_35k4 A76k4 A77k4 A78k4 A79k4 A80k4 A81k4 A82k4 A83k4 A84k4 A85k4 A86k4 = some X1 := hs1
      unfold fX12_reaches_S17 at hs1
      refine lv_iload hx hb dX12_reaches_17 (lv_at hl 1 rfl) ?_
      refine lv_aload_n hx hb dX12_reaches_19 rfl (lv_at hl 0 rfl) ?_
      refine gf12_27 hx hb hG hown hW (o := 69) (ltN hN 69 rfl) gk69 (v := .int x69_27k4) w_x69_27 gx713 dX12_reaches_20 ?_
      refine lv_icmp_ge (tgt := 43) hx hb dX12_reaches_23 (by decide) (fun c8 => ?_) (fun c8 => ?_)
      · rw [if_pos c8] at hs1
        exact hE1_43 (x69_19k4, x69_20k4, x69_21k4, x69_27k4, x69_35k4, A76k4, A77k4, A78k4, A79k4, A80k4, A81k4, A82k4, A83k4, A84k4, A85k4, A86k4) (hXl1 _ (Option.some.inj hs1).symm) m a _ _ w_x69_19 w_x69_20 w_x69_21 w_x69_22 w_x69_27 w_x69_35 hoff hsh w_A76 w_A77 w_A78 w_A79 w_A80 w_A81 w_A82 w_A83 w_A84 w_A85 w_A86 hoffa ls (lv_sub hl [] rfl) hW hS
      · rw [if_neg c8] at hs1
        refine lv_aload_n hx hb dX12_reaches_26 rfl (lv_at hl 0 rfl) ?_
        refine lv_iload hx hb dX12_reaches_27 (lv_at hl 1 rfl) ?_
        obtain ⟨r9, hf9, hs1⟩ := obind hs1
        refine g_Vi (n := 1) hx hb hml hown hG hW hS [.int v4k4] (kX12_edgesOf hN hsh ((hoff 6900 rfl).trans h_x69_0) ((hoff 6901 rfl).trans h_x69_1) ((hoff 6903 rfl).trans h_x69_3) w_x69_22 w_x69_19 w_x69_20 w_x69_21 w_x69_27 w_x69_35 w_A76 w_A77 w_A78 w_A79 w_A80 w_A81 w_A82 w_A83 w_A84 w_A85 w_A86 F v4k4 hf9) (ltN hN 69 rfl) gk69 (by decide) rfl rfl (gd_V gx731 gx732 gx733 gx5 gx734) rfl rfl (by decide) ⟨Nat.le_of_ble_eq_true rfl, Nat.le_of_ble_eq_true rfl⟩ rfl hl (Nat.le_of_ble_eq_true rfl) ⟨Nat.zero_le _, Nat.zero_le _⟩ dX12_reaches_29 (fun x9 m9 a9 H locs hp9 hW hS => ?_)
        obtain ⟨hx9, hp9_x69_19, hp9_x69_20, hp9_x69_21, hp9_x69_27, hp9_x69_35, ho9, hp9_A76, hp9_A77, hp9_A78, hp9_A79, hp9_A80, hp9_A81, hp9_A82, hp9_A83, hp9_A84, hp9_A85, hp9_A86, hoa9⟩ := hp9
        subst hx9
        have w_x69_19 : m9 6919 = .long r9.2.1 := hp9_x69_19
        have w_x69_20 : m9 6920 = .int r9.2.2.1 := hp9_x69_20
        have w_x69_21 : m9 6921 = .int r9.2.2.2.1 := hp9_x69_21
        have w_x69_22 : m9 6922 = .int p3 := (ho9 6922 rfl).trans w_x69_22
        have w_x69_27 : m9 6927 = .int r9.2.2.2.2.1 := hp9_x69_27
        have w_x69_35 : m9 6935 = .int r9.2.2.2.2.2.1 := hp9_x69_35
        have hoff := offm hoff ho9 (by decide +kernel)
        have hsh := SH.off hsh ho9 (by decide +kernel)
        have w_A76 : a9 76 = (40, .inl r9.2.2.2.2.2.2.1) := hp9_A76
        have w_A77 : a9 77 = (40, .inl r9.2.2.2.2.2.2.2.1) := hp9_A77
        have w_A78 : a9 78 = (40, .inl r9.2.2.2.2.2.2.2.2.1) := hp9_A78
        have w_A79 : a9 79 = (6001, .inr (.inl r9.2.2.2.2.2.2.2.2.2.1)) := hp9_A79
        have w_A80 : a9 80 = (16384, .inl r9.2.2.2.2.2.2.2.2.2.2.1) := hp9_A80
        have w_A81 : a9 81 = (6002, .inl r9.2.2.2.2.2.2.2.2.2.2.2.1) := hp9_A81
        have w_A82 : a9 82 = (84000, .inl r9.2.2.2.2.2.2.2.2.2.2.2.2.1) := hp9_A82
        have w_A83 : a9 83 = (84000, .inl r9.2.2.2.2.2.2.2.2.2.2.2.2.2.1) := hp9_A83
        have w_A84 : a9 84 = (84000, .inl r9.2.2.2.2.2.2.2.2.2.2.2.2.2.2.1) := hp9_A84
        have w_A85 : a9 85 = (84000, .inl r9.2.2.2.2.2.2.2.2.2.2.2.2.2.2.2.1) := hp9_A85
        have w_A86 : a9 86 = (84000, .inl r9.2.2.2.2.2.2.2.2.2.2.2.2.2.2.2.2) := hp9_A86
        have hoffa := offm hoffa hoa9 (by decide +kernel)
        refine lv_if_ne (tgt := 37) hx hb dX12_reaches_32 (by decide) (fun c10 => ?_) (fun c10 => ?_)
        · rw [if_neg c10] at hs1
          refine lv_iinc (v := v4k4 + 1) (lv' := [(4, .int (v4k4 + 1)), (0, .ref (q 69))]) hx hb dX12_reaches_37 hl (k := 1) rfl rfl (by decide) rfl (fun ls hl => ?_)
          refine lv_goto (tgt := 17) hx hb dX12_reaches_40 (by decide) ?_
          exact ih1 (v4k4 + 1) r9.2.1 r9.2.2.1 r9.2.2.2.1 r9.2.2.2.2.1 r9.2.2.2.2.2.1 r9.2.2.2.2.2.2.1 r9.2.2.2.2.2.2.2.1 r9.2.2.2.2.2.2.2.2.1 r9.2.2.2.2.2.2.2.2.2.1 r9.2.2.2.2.2.2.2.2.2.2.1 r9.2.2.2.2.2.2.2.2.2.2.2.1 r9.2.2.2.2.2.2.2.2.2.2.2.2.1 r9.2.2.2.2.2.2.2.2.2.2.2.2.2.1 r9.2.2.2.2.2.2.2.2.2.2.2.2.2.2.1 r9.2.2.2.2.2.2.2.2.2.2.2.2.2.2.2.1 r9.2.2.2.2.2.2.2.2.2.2.2.2.2.2.2.2 m9 a9 _ _ w_x69_19 w_x69_20 w_x69_21 w_x69_22 w_x69_27 w_x69_35 hoff hsh w_A76 w_A77 w_A78 w_A79 w_A80 w_A81 w_A82 w_A83 w_A84 w_A85 w_A86 hoffa ls (lv_sub hl [1, 0] rfl) (hXr1 _ (Option.some.inj hs1).symm) hW hS
        · rw [if_pos c10] at hs1
          exact hE1_35 (r9.2.1, r9.2.2.1, r9.2.2.2.1, r9.2.2.2.2.1, r9.2.2.2.2.2.1, r9.2.2.2.2.2.2.1, r9.2.2.2.2.2.2.2.1, r9.2.2.2.2.2.2.2.2.1, r9.2.2.2.2.2.2.2.2.2.1, r9.2.2.2.2.2.2.2.2.2.2.1, r9.2.2.2.2.2.2.2.2.2.2.2.1, r9.2.2.2.2.2.2.2.2.2.2.2.2.1, r9.2.2.2.2.2.2.2.2.2.2.2.2.2.1, r9.2.2.2.2.2.2.2.2.2.2.2.2.2.2.1, r9.2.2.2.2.2.2.2.2.2.2.2.2.2.2.2.1, r9.2.2.2.2.2.2.2.2.2.2.2.2.2.2.2.2) (hXl1 _ (Option.some.inj hs1).symm) m9 a9 _ _ w_x69_19 w_x69_20 w_x69_21 w_x69_22 w_x69_27 w_x69_35 hoff hsh w_A76 w_A77 w_A78 w_A79 w_A80 w_A81 w_A82 w_A83 w_A84 w_A85 w_A86 hoffa ls (lv_sub hl [] rfl) hW hS
  exact hL1 F 0 x69_19 x69_20 x69_21 r3.1 r2.2.1 A76 A77 A78 r3.2.1 r3.2.2 A81 A82 A83 A84 A85 A86 m3 a3 _ _ w_x69_19 w_x69_20 w_x69_21 w_x69_22 w_x69_27 w_x69_35 hoff hsh w_A76 w_A77 w_A78 w_A79 w_A80 w_A81 w_A82 w_A83 w_A84 w_A85 w_A86 hoffa ls (lv_sub hl [1, 0] rfl) hg4 hW hS
-- HealLinkModel.reached ()I
def fX12_reached (F : Nat) (x69_0 : Int32) (x69_1 : Int32) (x69_2 : Int32) (x69_3 : Int32) (x69_4 : Int64) (x69_18 : Int32) (x69_19 : Int64) (x69_20 : Int32) (x69_21 : Int32) (x69_22 : Int32) (x69_27 : Int32) (x69_35 : Int32) (A76 : Nat → Int32) (A77 : Nat → Int32) (A78 : Nat → Int32) (A79 : Nat → Int64) (A80 : Nat → Int32) (A81 : Nat → Int32) (A82 : Nat → Int32) (A83 : Nat → Int32) (A84 : Nat → Int32) (A85 : Nat → Int32) (A86 : Nat → Int32) : Option (Int32 × Int32 × Int64 × Int32 × Int32 × Int32 × Int32 × Int32 × (Nat → Int32) × (Nat → Int32) × (Nat → Int32) × (Nat → Int64) × (Nat → Int32) × (Nat → Int32) × (Nat → Int32) × (Nat → Int32) × (Nat → Int32) × (Nat → Int32) × (Nat → Int32)) := ((fX12_reaches F x69_0 x69_1 x69_3 x69_19 x69_20 x69_21 x69_22 x69_27 x69_35 A76 A77 A78 A79 A80 A81 A82 A83 A84 A85 A86 x69_4 x69_2).bind (fun r2 => (if r2.1 = 0 then some ((-3), 0, r2.2.1, r2.2.2.1, r2.2.2.2.1, r2.2.2.2.2.1, r2.2.2.2.2.2.1, r2.2.2.2.2.2.2.1, r2.2.2.2.2.2.2.2.1, r2.2.2.2.2.2.2.2.2.1, r2.2.2.2.2.2.2.2.2.2.1, r2.2.2.2.2.2.2.2.2.2.2.1, r2.2.2.2.2.2.2.2.2.2.2.2.1, r2.2.2.2.2.2.2.2.2.2.2.2.2.1, r2.2.2.2.2.2.2.2.2.2.2.2.2.2.1, r2.2.2.2.2.2.2.2.2.2.2.2.2.2.2.1, r2.2.2.2.2.2.2.2.2.2.2.2.2.2.2.2.1, r2.2.2.2.2.2.2.2.2.2.2.2.2.2.2.2.2.1, r2.2.2.2.2.2.2.2.2.2.2.2.2.2.2.2.2.2) else some (r2.2.2.2.2.2.1, 0, r2.2.1, r2.2.2.1, r2.2.2.2.1, r2.2.2.2.2.1, r2.2.2.2.2.2.1, r2.2.2.2.2.2.2.1, r2.2.2.2.2.2.2.2.1, r2.2.2.2.2.2.2.2.2.1, r2.2.2.2.2.2.2.2.2.2.1, r2.2.2.2.2.2.2.2.2.2.2.1, r2.2.2.2.2.2.2.2.2.2.2.2.1, r2.2.2.2.2.2.2.2.2.2.2.2.2.1, r2.2.2.2.2.2.2.2.2.2.2.2.2.2.1, r2.2.2.2.2.2.2.2.2.2.2.2.2.2.2.1, r2.2.2.2.2.2.2.2.2.2.2.2.2.2.2.2.1, r2.2.2.2.2.2.2.2.2.2.2.2.2.2.2.2.2.1, r2.2.2.2.2.2.2.2.2.2.2.2.2.2.2.2.2.2))))
theorem dX12_reached_0 : decode cX12_reached 0 = .ok (.aload_n 0, 1) := by decide +kernel
theorem dX12_reached_1 : decode cX12_reached 1 = .ok (.iconst 0, 1) := by decide +kernel
theorem dX12_reached_2 : decode cX12_reached 2 = .ok (.putfield 137, 3) := by decide +kernel
theorem dX12_reached_5 : decode cX12_reached 5 = .ok (.aload_n 0, 1) := by decide +kernel
theorem dX12_reached_6 : decode cX12_reached 6 = .ok (.aload_n 0, 1) := by decide +kernel
theorem dX12_reached_7 : decode cX12_reached 7 = .ok (.getfield 133, 3) := by decide +kernel
theorem dX12_reached_10 : decode cX12_reached 10 = .ok (.aload_n 0, 1) := by decide +kernel
theorem dX12_reached_11 : decode cX12_reached 11 = .ok (.getfield 16, 3) := by decide +kernel
theorem dX12_reached_14 : decode cX12_reached 14 = .ok (.invokevirtual 278, 3) := by decide +kernel
theorem dX12_reached_17 : decode cX12_reached 17 = .ok (.ifCond .eq 10, 3) := by decide +kernel
theorem dX12_reached_20 : decode cX12_reached 20 = .ok (.aload_n 0, 1) := by decide +kernel
theorem dX12_reached_21 : decode cX12_reached 21 = .ok (.getfield 255, 3) := by decide +kernel
theorem dX12_reached_24 : decode cX12_reached 24 = .ok (.goto 5, 3) := by decide +kernel
theorem dX12_reached_27 : decode cX12_reached 27 = .ok (.bipush (-3), 2) := by decide +kernel
theorem dX12_reached_29 : decode cX12_reached 29 = .ok (.ireturn, 1) := by decide +kernel
set_option maxHeartbeats 4000000 in
set_option maxRecDepth 100000 in
theorem kX12_reached {l : Launch} {D : va_G} {cy : Nat → ClassId} {N : Nat} {q : Nat → Nat} {m0 : Nat → Value} {a0 : Nat → vp_A} {sz : Nat} (hN : 105 ≤ N) (hsh : SH q m0) {x69_0 : Int32} (h_x69_0 : m0 6900 = .int x69_0) {x69_1 : Int32} (h_x69_1 : m0 6901 = .int x69_1) {x69_2 : Int32} (h_x69_2 : m0 6902 = .int x69_2) {x69_3 : Int32} (h_x69_3 : m0 6903 = .int x69_3) {x69_4 : Int64} (h_x69_4 : m0 6904 = .long x69_4) {x69_18 : Int32} (h_x69_18 : m0 6918 = .int x69_18) {x69_19 : Int64} (h_x69_19 : m0 6919 = .long x69_19) {x69_20 : Int32} (h_x69_20 : m0 6920 = .int x69_20) {x69_21 : Int32} (h_x69_21 : m0 6921 = .int x69_21) {x69_22 : Int32} (h_x69_22 : m0 6922 = .int x69_22) {x69_27 : Int32} (h_x69_27 : m0 6927 = .int x69_27) {x69_35 : Int32} (h_x69_35 : m0 6935 = .int x69_35) {A76 : Nat → Int32} (h_A76 : a0 76 = (40, .inl A76)) {A77 : Nat → Int32} (h_A77 : a0 77 = (40, .inl A77)) {A78 : Nat → Int32} (h_A78 : a0 78 = (40, .inl A78)) {A79 : Nat → Int64} (h_A79 : a0 79 = (6001, .inr (.inl A79))) {A80 : Nat → Int32} (h_A80 : a0 80 = (16384, .inl A80)) {A81 : Nat → Int32} (h_A81 : a0 81 = (6002, .inl A81)) {A82 : Nat → Int32} (h_A82 : a0 82 = (84000, .inl A82)) {A83 : Nat → Int32} (h_A83 : a0 83 = (84000, .inl A83)) {A84 : Nat → Int32} (h_A84 : a0 84 = (84000, .inl A84)) {A85 : Nat → Int32} (h_A85 : a0 85 = (84000, .inl A85)) {A86 : Nat → Int32} (h_A86 : a0 86 = (84000, .inl A86)) (F : Nat) {X0 : Int32 × Int32 × Int64 × Int32 × Int32 × Int32 × Int32 × Int32 × (Nat → Int32) × (Nat → Int32) × (Nat → Int32) × (Nat → Int64) × (Nat → Int32) × (Nat → Int32) × (Nat → Int32) × (Nat → Int32) × (Nat → Int32) × (Nat → Int32) × (Nat → Int32)} (hs0 : fX12_reached F x69_0 x69_1 x69_2 x69_3 x69_4 x69_18 x69_19 x69_20 x69_21 x69_22 x69_27 x69_35 A76 A77 A78 A79 A80 A81 A82 A83 A84 A85 A86 = some X0) : gMi l yX12_reached cX12_reached 1 (some .int) ({ frames := 8, cells := 0, slots := 0, locals := 188 } : Room) D cy N q m0 a0 sz [.ref (q 69)] (fun r m' a' => r = X0.1 ∧ m' 6918 = .int X0.2.1 ∧ m' 6919 = .long X0.2.2.1 ∧ m' 6920 = .int X0.2.2.2.1 ∧ m' 6921 = .int X0.2.2.2.2.1 ∧ m' 6922 = .int X0.2.2.2.2.2.1 ∧ m' 6927 = .int X0.2.2.2.2.2.2.1 ∧ m' 6935 = .int X0.2.2.2.2.2.2.2.1 ∧ (∀ j, nel j [6918, 6919, 6920, 6921, 6922, 6927, 6935] = false → m' j = m0 j) ∧ a' 76 = (40, .inl X0.2.2.2.2.2.2.2.2.1) ∧ a' 77 = (40, .inl X0.2.2.2.2.2.2.2.2.2.1) ∧ a' 78 = (40, .inl X0.2.2.2.2.2.2.2.2.2.2.1) ∧ a' 79 = (6001, .inr (.inl X0.2.2.2.2.2.2.2.2.2.2.2.1)) ∧ a' 80 = (16384, .inl X0.2.2.2.2.2.2.2.2.2.2.2.2.1) ∧ a' 81 = (6002, .inl X0.2.2.2.2.2.2.2.2.2.2.2.2.2.1) ∧ a' 82 = (84000, .inl X0.2.2.2.2.2.2.2.2.2.2.2.2.2.2.1) ∧ a' 83 = (84000, .inl X0.2.2.2.2.2.2.2.2.2.2.2.2.2.2.2.1) ∧ a' 84 = (84000, .inl X0.2.2.2.2.2.2.2.2.2.2.2.2.2.2.2.2.1) ∧ a' 85 = (84000, .inl X0.2.2.2.2.2.2.2.2.2.2.2.2.2.2.2.2.2.1) ∧ a' 86 = (84000, .inl X0.2.2.2.2.2.2.2.2.2.2.2.2.2.2.2.2.2.2) ∧ (∀ j, nel j [76, 77, 78, 79, 80, 81, 82, 83, 84, 85, 86] = false → a' j = a0 j)) := by
  refine g_ofi (by decide) (Nat.le_of_ble_eq_true rfl) ?_
  intro p e s M args below meth c hx hb hr hG hown hin hlocks hml hW hS ls hl
  unfold fX12_reached at hs0
  have hoff : ∀ j, nel j [6918, 6919, 6920, 6921, 6922, 6927, 6935] = false → m0 j = m0 j := off0
  have hoffa : ∀ j, nel j [76, 77, 78, 79, 80, 81, 82, 83, 84, 85, 86] = false → a0 j = a0 j := off0
  refine lv_aload_n hx hb dX12_reached_0 rfl (lv_at hl 0 rfl) ?_
  refine lv_iconst (v := 0) hx hb dX12_reached_1 (by decide) ?_
  refine gp12_18 hx hb hG hown hW hS (o := 69) (ltN hN 69 rfl) gk69 (v := 0) gx246 dX12_reached_2 (fun m1 H locs hm1 ho1 hW hS => ?_)
  have ho1 := off1 ho1
  have w_x69_18 : m1 6918 = .int 0 := hm1
  have w_x69_19 : m1 6919 = .long x69_19 := (ho1 6919 rfl).trans h_x69_19
  have w_x69_20 : m1 6920 = .int x69_20 := (ho1 6920 rfl).trans h_x69_20
  have w_x69_21 : m1 6921 = .int x69_21 := (ho1 6921 rfl).trans h_x69_21
  have w_x69_22 : m1 6922 = .int x69_22 := (ho1 6922 rfl).trans h_x69_22
  have w_x69_27 : m1 6927 = .int x69_27 := (ho1 6927 rfl).trans h_x69_27
  have w_x69_35 : m1 6935 = .int x69_35 := (ho1 6935 rfl).trans h_x69_35
  have hoff := offm hoff ho1 (by decide +kernel)
  have hsh := SH.off hsh ho1 (by decide +kernel)
  refine lv_aload_n hx hb dX12_reached_5 rfl (lv_at hl 0 rfl) ?_
  refine lv_aload_n hx hb dX12_reached_6 rfl (lv_at hl 0 rfl) ?_
  refine gf12_4 hx hb hG hown hW (o := 69) (ltN hN 69 rfl) gk69 (v := .long x69_4) ((hoff 6904 rfl).trans h_x69_4) gx202 dX12_reached_7 ?_
  refine lv_aload_n hx hb dX12_reached_10 rfl (lv_at hl 0 rfl) ?_
  refine gf12_2 hx hb hG hown hW (o := 69) (ltN hN 69 rfl) gk69 (v := .int x69_2) ((hoff 6902 rfl).trans h_x69_2) gx164 dX12_reached_11 ?_
  obtain ⟨r2, hf2, hs0⟩ := obind hs0
  refine g_Vi (n := 2) hx hb hml hown hG hW hS [.long x69_4, .int x69_2] (kX12_reaches hN hsh ((hoff 6900 rfl).trans h_x69_0) ((hoff 6901 rfl).trans h_x69_1) ((hoff 6903 rfl).trans h_x69_3) w_x69_19 w_x69_20 w_x69_21 w_x69_22 w_x69_27 w_x69_35 h_A76 h_A77 h_A78 h_A79 h_A80 h_A81 h_A82 h_A83 h_A84 h_A85 h_A86 F x69_4 x69_2 hf2) (ltN hN 69 rfl) gk69 (by decide) rfl rfl (gd_V gx714 gx715 gx716 gx5 gx717) rfl rfl (by decide) ⟨Nat.le_of_ble_eq_true rfl, Nat.le_of_ble_eq_true rfl⟩ rfl hl (Nat.le_of_ble_eq_true rfl) ⟨Nat.zero_le _, Nat.zero_le _⟩ dX12_reached_14 (fun x2 m2 a2 H locs hp2 hW hS => ?_)
  obtain ⟨hx2, hp2_x69_19, hp2_x69_20, hp2_x69_21, hp2_x69_22, hp2_x69_27, hp2_x69_35, ho2, hp2_A76, hp2_A77, hp2_A78, hp2_A79, hp2_A80, hp2_A81, hp2_A82, hp2_A83, hp2_A84, hp2_A85, hp2_A86, hoa2⟩ := hp2
  subst hx2
  have w_x69_18 : m2 6918 = .int 0 := (ho2 6918 rfl).trans w_x69_18
  have w_x69_19 : m2 6919 = .long r2.2.1 := hp2_x69_19
  have w_x69_20 : m2 6920 = .int r2.2.2.1 := hp2_x69_20
  have w_x69_21 : m2 6921 = .int r2.2.2.2.1 := hp2_x69_21
  have w_x69_22 : m2 6922 = .int r2.2.2.2.2.1 := hp2_x69_22
  have w_x69_27 : m2 6927 = .int r2.2.2.2.2.2.1 := hp2_x69_27
  have w_x69_35 : m2 6935 = .int r2.2.2.2.2.2.2.1 := hp2_x69_35
  have hoff := offm hoff ho2 (by decide +kernel)
  have hsh := SH.off hsh ho2 (by decide +kernel)
  have w_A76 : a2 76 = (40, .inl r2.2.2.2.2.2.2.2.1) := hp2_A76
  have w_A77 : a2 77 = (40, .inl r2.2.2.2.2.2.2.2.2.1) := hp2_A77
  have w_A78 : a2 78 = (40, .inl r2.2.2.2.2.2.2.2.2.2.1) := hp2_A78
  have w_A79 : a2 79 = (6001, .inr (.inl r2.2.2.2.2.2.2.2.2.2.2.1)) := hp2_A79
  have w_A80 : a2 80 = (16384, .inl r2.2.2.2.2.2.2.2.2.2.2.2.1) := hp2_A80
  have w_A81 : a2 81 = (6002, .inl r2.2.2.2.2.2.2.2.2.2.2.2.2.1) := hp2_A81
  have w_A82 : a2 82 = (84000, .inl r2.2.2.2.2.2.2.2.2.2.2.2.2.2.1) := hp2_A82
  have w_A83 : a2 83 = (84000, .inl r2.2.2.2.2.2.2.2.2.2.2.2.2.2.2.1) := hp2_A83
  have w_A84 : a2 84 = (84000, .inl r2.2.2.2.2.2.2.2.2.2.2.2.2.2.2.2.1) := hp2_A84
  have w_A85 : a2 85 = (84000, .inl r2.2.2.2.2.2.2.2.2.2.2.2.2.2.2.2.2.1) := hp2_A85
  have w_A86 : a2 86 = (84000, .inl r2.2.2.2.2.2.2.2.2.2.2.2.2.2.2.2.2.2) := hp2_A86
  have hoffa := offm hoffa hoa2 (by decide +kernel)
  refine lv_if_eq (tgt := 27) hx hb dX12_reached_17 (by decide) (fun c3 => ?_) (fun c3 => ?_)
  · rw [if_pos c3] at hs0
    refine lv_bipush (v := (-3)) hx hb dX12_reached_27 (by decide) ?_
    have hs0 := Option.some.inj hs0
    subst hs0
    exact W.zret hx hb hr rfl (fun t ht hw => ⟨⟨_, (m2, a2), rfl, ⟨rfl, w_x69_18, w_x69_19, w_x69_20, w_x69_21, w_x69_22, w_x69_27, w_x69_35, hoff, w_A76, w_A77, w_A78, w_A79, w_A80, w_A81, w_A82, w_A83, w_A84, w_A85, w_A86, hoffa⟩, g_end hW ht hw⟩, hS.F ht⟩) hS.2.2 dX12_reached_29 hlocks
  · rw [if_neg c3] at hs0
    refine lv_aload_n hx hb dX12_reached_20 rfl (lv_at hl 0 rfl) ?_
    refine gf12_27 hx hb hG hown hW (o := 69) (ltN hN 69 rfl) gk69 (v := .int r2.2.2.2.2.2.1) w_x69_27 gx713 dX12_reached_21 ?_
    refine lv_goto (tgt := 29) hx hb dX12_reached_24 (by decide) ?_
    have hs0 := Option.some.inj hs0
    subst hs0
    exact W.zret hx hb hr rfl (fun t ht hw => ⟨⟨_, (m2, a2), rfl, ⟨rfl, w_x69_18, w_x69_19, w_x69_20, w_x69_21, w_x69_22, w_x69_27, w_x69_35, hoff, w_A76, w_A77, w_A78, w_A79, w_A80, w_A81, w_A82, w_A83, w_A84, w_A85, w_A86, hoffa⟩, g_end hW ht hw⟩, hS.F ht⟩) hS.2.2 dX12_reached_29 hlocks
