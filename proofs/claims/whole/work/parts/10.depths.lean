/-! 10.depths (by program): the pure function of each method, its rows, its contract -/
-- HealLink$Depths.greater (II)I
def fX4_greater (p0 : Int32) (p1 : Int32) : Int32 := (if p0 = (-2) then (-2) else (if p1 = (-2) then (-2) else (if p0 ≤ p1 then p1 else p0)))
theorem dX4_greater_0 : decode cX4_greater 0 = .ok (.iload_n 0, 1) := by decide +kernel
theorem dX4_greater_1 : decode cX4_greater 1 = .ok (.bipush (-2), 2) := by decide +kernel
theorem dX4_greater_3 : decode cX4_greater 3 = .ok (.if_icmp .eq 9, 3) := by decide +kernel
theorem dX4_greater_6 : decode cX4_greater 6 = .ok (.iload_n 1, 1) := by decide +kernel
theorem dX4_greater_7 : decode cX4_greater 7 = .ok (.bipush (-2), 2) := by decide +kernel
theorem dX4_greater_9 : decode cX4_greater 9 = .ok (.if_icmp .ne 6, 3) := by decide +kernel
theorem dX4_greater_12 : decode cX4_greater 12 = .ok (.bipush (-2), 2) := by decide +kernel
theorem dX4_greater_14 : decode cX4_greater 14 = .ok (.ireturn, 1) := by decide +kernel
theorem dX4_greater_15 : decode cX4_greater 15 = .ok (.iload_n 0, 1) := by decide +kernel
theorem dX4_greater_16 : decode cX4_greater 16 = .ok (.iload_n 1, 1) := by decide +kernel
theorem dX4_greater_17 : decode cX4_greater 17 = .ok (.if_icmp .le 7, 3) := by decide +kernel
theorem dX4_greater_20 : decode cX4_greater 20 = .ok (.iload_n 0, 1) := by decide +kernel
theorem dX4_greater_21 : decode cX4_greater 21 = .ok (.goto 4, 3) := by decide +kernel
theorem dX4_greater_24 : decode cX4_greater 24 = .ok (.iload_n 1, 1) := by decide +kernel
theorem dX4_greater_25 : decode cX4_greater 25 = .ok (.ireturn, 1) := by decide +kernel
set_option maxHeartbeats 4000000 in
set_option maxRecDepth 100000 in
theorem kX4_greater {l : Launch} {D : va_G} {cy : Nat → ClassId} {N : Nat} {q : Nat → Nat} {m0 : Nat → Value} {a0 : Nat → vp_A} {sz : Nat} (hN : 105 ≤ N) (p0 : Int32) (p1 : Int32) : gMi l yX4_greater cX4_greater 2 (some .int) ({ frames := 0, cells := 0, slots := 0, locals := 0 } : Room) D cy N q m0 a0 sz [.int p0, .int p1] (fun r m' a' => r = (fX4_greater p0 p1) ∧ m' = m0 ∧ a' = a0) := by
  generalize hs0 : fX4_greater p0 p1 = X0
  refine g_ofi (by decide) (Nat.le_of_ble_eq_true rfl) ?_
  intro p e s M args below meth c hx hb hr hG hown hin hlocks hml hW hS ls hl
  unfold fX4_greater at hs0
  refine lv_iload_n hx hb dX4_greater_0 rfl (lv_at hl 0 rfl) ?_
  refine lv_bipush (v := (-2)) hx hb dX4_greater_1 (by decide) ?_
  refine lv_icmp_eq (tgt := 12) hx hb dX4_greater_3 (by decide) (fun c1 => ?_) (fun c1 => ?_)
  · rw [if_pos c1] at hs0
    refine lv_bipush (v := (-2)) hx hb dX4_greater_12 (by decide) ?_
    subst hs0
    exact W.zret hx hb hr rfl (fun t ht hw => ⟨⟨_, (m0, a0), rfl, ⟨rfl, rfl, rfl⟩, g_end hW ht hw⟩, hS.F ht⟩) hS.2.2 dX4_greater_14 hlocks
  · rw [if_neg c1] at hs0
    refine lv_iload_n hx hb dX4_greater_6 rfl (lv_at hl 1 rfl) ?_
    refine lv_bipush (v := (-2)) hx hb dX4_greater_7 (by decide) ?_
    refine lv_icmp_ne (tgt := 15) hx hb dX4_greater_9 (by decide) (fun c2 => ?_) (fun c2 => ?_)
    · rw [if_neg c2] at hs0
      refine lv_iload_n hx hb dX4_greater_15 rfl (lv_at hl 0 rfl) ?_
      refine lv_iload_n hx hb dX4_greater_16 rfl (lv_at hl 1 rfl) ?_
      refine lv_icmp_le (tgt := 24) hx hb dX4_greater_17 (by decide) (fun c3 => ?_) (fun c3 => ?_)
      · rw [if_pos c3] at hs0
        refine lv_iload_n hx hb dX4_greater_24 rfl (lv_at hl 1 rfl) ?_
        subst hs0
        exact W.zret hx hb hr rfl (fun t ht hw => ⟨⟨_, (m0, a0), rfl, ⟨rfl, rfl, rfl⟩, g_end hW ht hw⟩, hS.F ht⟩) hS.2.2 dX4_greater_25 hlocks
      · rw [if_neg c3] at hs0
        refine lv_iload_n hx hb dX4_greater_20 rfl (lv_at hl 0 rfl) ?_
        refine lv_goto (tgt := 25) hx hb dX4_greater_21 (by decide) ?_
        subst hs0
        exact W.zret hx hb hr rfl (fun t ht hw => ⟨⟨_, (m0, a0), rfl, ⟨rfl, rfl, rfl⟩, g_end hW ht hw⟩, hS.F ht⟩) hS.2.2 dX4_greater_25 hlocks
    · rw [if_pos c2] at hs0
      refine lv_bipush (v := (-2)) hx hb dX4_greater_12 (by decide) ?_
      subst hs0
      exact W.zret hx hb hr rfl (fun t ht hw => ⟨⟨_, (m0, a0), rfl, ⟨rfl, rfl, rfl⟩, g_end hW ht hw⟩, hS.F ht⟩) hS.2.2 dX4_greater_14 hlocks
-- HealLink$Depths.greatestOf (LHealLink$Atlas;I)I
def fX4_greatestOf_J103 (F : Nat) (A30 : Nat → Int32) (A35 : Nat → Int32) (A44 : Nat → Int32) (v2 : Int32) (v3j16 : Int32) (v4j16 : Int32) : Option ((Int32) ⊕ (Int32 × Int32)) := some (Sum.inr (v3j16, v4j16 + 1))
def fX4_greatestOf_J99 (F : Nat) (A30 : Nat → Int32) (A35 : Nat → Int32) (A44 : Nat → Int32) (v2 : Int32) (v4j12 : Int32) (s0j12 : Int32) (s1j12 : Int32) : Option ((Int32) ⊕ (Int32 × Int32)) := fX4_greatestOf_J103 F A30 A35 A44 v2 (fX4_greater s1j12 s0j12) v4j12
def fX4_greatestOf_J97 (F : Nat) (A30 : Nat → Int32) (A35 : Nat → Int32) (A44 : Nat → Int32) (v2 : Int32) (v4j10 : Int32) (v5j10 : Int32) (s0j10 : Int32) : Option ((Int32) ⊕ (Int32 × Int32)) := fX4_greatestOf_J99 F A30 A35 A44 v2 v4j10 v5j10 s0j10
def fX4_greatestOf_J70 (F : Nat) (A30 : Nat → Int32) (A35 : Nat → Int32) (A44 : Nat → Int32) (v2 : Int32) (v4j14 : Int32) (s0j14 : Int32) (s1j14 : Int32) : Option ((Int32) ⊕ (Int32 × Int32)) := fX4_greatestOf_J103 F A30 A35 A44 v2 (fX4_greater s1j14 s0j14) v4j14
def fX4_greatestOf_S12 (F : Nat) (A30 : Nat → Int32) (A35 : Nat → Int32) (A44 : Nat → Int32) (v2 : Int32) (v3 : Int32) (v4 : Int32) : Option ((Int32) ⊕ (Int32 × Int32)) := (if (cAt 6001 A30 (v2 + 1)) ≤ v4 then some (Sum.inl v3) else (if (cAt 6000 A44 (fX1_targetOf A35 v4)) = (-3) then (if (fX1_hasMark A35 v4 1) = 0 then fX4_greatestOf_J70 F A30 A35 A44 v2 v4 0 v3 else fX4_greatestOf_J70 F A30 A35 A44 v2 v4 (-2) v3) else (if (fX1_hasMark A35 v4 1) = 0 then fX4_greatestOf_J97 F A30 A35 A44 v2 v4 (cAt 6000 A44 (fX1_targetOf A35 v4)) v3 else (if (cAt 6000 A44 (fX1_targetOf A35 v4)) = (-2) then fX4_greatestOf_J97 F A30 A35 A44 v2 v4 (cAt 6000 A44 (fX1_targetOf A35 v4)) v3 else fX4_greatestOf_J99 F A30 A35 A44 v2 v4 ((cAt 6000 A44 (fX1_targetOf A35 v4)) + 1) v3))))
def fX4_greatestOf (F : Nat) (A30 : Nat → Int32) (A35 : Nat → Int32) (A44 : Nat → Int32) (p2 : Int32) : Option (Int32) := (gloop (fun u2 : (Int32 × Int32) => fX4_greatestOf_S12 F A30 A35 A44 p2 u2.1 u2.2) F (0, (cAt 6001 A30 p2))).bind (fun t2_109 => some t2_109)
theorem dX4_greatestOf_0 : decode cX4_greatestOf 0 = .ok (.iconst 0, 1) := by decide +kernel
theorem dX4_greatestOf_1 : decode cX4_greatestOf 1 = .ok (.istore_n 3, 1) := by decide +kernel
theorem dX4_greatestOf_2 : decode cX4_greatestOf 2 = .ok (.aload_n 1, 1) := by decide +kernel
theorem dX4_greatestOf_3 : decode cX4_greatestOf 3 = .ok (.getfield 62, 3) := by decide +kernel
theorem dX4_greatestOf_6 : decode cX4_greatestOf 6 = .ok (.iload_n 2, 1) := by decide +kernel
theorem dX4_greatestOf_7 : decode cX4_greatestOf 7 = .ok (.invokevirtual 50, 3) := by decide +kernel
theorem dX4_greatestOf_10 : decode cX4_greatestOf 10 = .ok (.istore 4, 2) := by decide +kernel
theorem dX4_greatestOf_12 : decode cX4_greatestOf 12 = .ok (.iload 4, 2) := by decide +kernel
theorem dX4_greatestOf_14 : decode cX4_greatestOf 14 = .ok (.aload_n 1, 1) := by decide +kernel
theorem dX4_greatestOf_15 : decode cX4_greatestOf 15 = .ok (.getfield 62, 3) := by decide +kernel
theorem dX4_greatestOf_18 : decode cX4_greatestOf 18 = .ok (.iload_n 2, 1) := by decide +kernel
theorem dX4_greatestOf_19 : decode cX4_greatestOf 19 = .ok (.iconst 1, 1) := by decide +kernel
theorem dX4_greatestOf_20 : decode cX4_greatestOf 20 = .ok (.iadd, 1) := by decide +kernel
theorem dX4_greatestOf_21 : decode cX4_greatestOf 21 = .ok (.invokevirtual 50, 3) := by decide +kernel
theorem dX4_greatestOf_24 : decode cX4_greatestOf 24 = .ok (.if_icmp .ge 85, 3) := by decide +kernel
theorem dX4_greatestOf_27 : decode cX4_greatestOf 27 = .ok (.aload_n 0, 1) := by decide +kernel
theorem dX4_greatestOf_28 : decode cX4_greatestOf 28 = .ok (.getfield 14, 3) := by decide +kernel
theorem dX4_greatestOf_31 : decode cX4_greatestOf 31 = .ok (.aload_n 1, 1) := by decide +kernel
theorem dX4_greatestOf_32 : decode cX4_greatestOf 32 = .ok (.iload 4, 2) := by decide +kernel
theorem dX4_greatestOf_34 : decode cX4_greatestOf 34 = .ok (.invokevirtual 69, 3) := by decide +kernel
theorem dX4_greatestOf_37 : decode cX4_greatestOf 37 = .ok (.invokevirtual 50, 3) := by decide +kernel
theorem dX4_greatestOf_40 : decode cX4_greatestOf 40 = .ok (.istore 5, 2) := by decide +kernel
theorem dX4_greatestOf_42 : decode cX4_greatestOf 42 = .ok (.aload_n 1, 1) := by decide +kernel
theorem dX4_greatestOf_43 : decode cX4_greatestOf 43 = .ok (.iload 4, 2) := by decide +kernel
theorem dX4_greatestOf_45 : decode cX4_greatestOf 45 = .ok (.iconst 1, 1) := by decide +kernel
theorem dX4_greatestOf_46 : decode cX4_greatestOf 46 = .ok (.invokevirtual 91, 3) := by decide +kernel
theorem dX4_greatestOf_49 : decode cX4_greatestOf 49 = .ok (.istore 6, 2) := by decide +kernel
theorem dX4_greatestOf_51 : decode cX4_greatestOf 51 = .ok (.iload 5, 2) := by decide +kernel
theorem dX4_greatestOf_53 : decode cX4_greatestOf 53 = .ok (.bipush (-3), 2) := by decide +kernel
theorem dX4_greatestOf_55 : decode cX4_greatestOf 55 = .ok (.if_icmp .ne 22, 3) := by decide +kernel
theorem dX4_greatestOf_58 : decode cX4_greatestOf 58 = .ok (.iload_n 3, 1) := by decide +kernel
theorem dX4_greatestOf_59 : decode cX4_greatestOf 59 = .ok (.iload 6, 2) := by decide +kernel
theorem dX4_greatestOf_61 : decode cX4_greatestOf 61 = .ok (.ifCond .eq 8, 3) := by decide +kernel
theorem dX4_greatestOf_64 : decode cX4_greatestOf 64 = .ok (.bipush (-2), 2) := by decide +kernel
theorem dX4_greatestOf_66 : decode cX4_greatestOf 66 = .ok (.goto 4, 3) := by decide +kernel
theorem dX4_greatestOf_69 : decode cX4_greatestOf 69 = .ok (.iconst 0, 1) := by decide +kernel
theorem dX4_greatestOf_70 : decode cX4_greatestOf 70 = .ok (.invokestatic 88, 3) := by decide +kernel
theorem dX4_greatestOf_73 : decode cX4_greatestOf 73 = .ok (.istore_n 3, 1) := by decide +kernel
theorem dX4_greatestOf_74 : decode cX4_greatestOf 74 = .ok (.goto 29, 3) := by decide +kernel
theorem dX4_greatestOf_77 : decode cX4_greatestOf 77 = .ok (.iload_n 3, 1) := by decide +kernel
theorem dX4_greatestOf_78 : decode cX4_greatestOf 78 = .ok (.iload 6, 2) := by decide +kernel
theorem dX4_greatestOf_80 : decode cX4_greatestOf 80 = .ok (.ifCond .eq 17, 3) := by decide +kernel
theorem dX4_greatestOf_83 : decode cX4_greatestOf 83 = .ok (.iload 5, 2) := by decide +kernel
theorem dX4_greatestOf_85 : decode cX4_greatestOf 85 = .ok (.bipush (-2), 2) := by decide +kernel
theorem dX4_greatestOf_87 : decode cX4_greatestOf 87 = .ok (.if_icmp .eq 10, 3) := by decide +kernel
theorem dX4_greatestOf_90 : decode cX4_greatestOf 90 = .ok (.iload 5, 2) := by decide +kernel
theorem dX4_greatestOf_92 : decode cX4_greatestOf 92 = .ok (.iconst 1, 1) := by decide +kernel
theorem dX4_greatestOf_93 : decode cX4_greatestOf 93 = .ok (.iadd, 1) := by decide +kernel
theorem dX4_greatestOf_94 : decode cX4_greatestOf 94 = .ok (.goto 5, 3) := by decide +kernel
theorem dX4_greatestOf_97 : decode cX4_greatestOf 97 = .ok (.iload 5, 2) := by decide +kernel
theorem dX4_greatestOf_99 : decode cX4_greatestOf 99 = .ok (.invokestatic 88, 3) := by decide +kernel
theorem dX4_greatestOf_102 : decode cX4_greatestOf 102 = .ok (.istore_n 3, 1) := by decide +kernel
theorem dX4_greatestOf_103 : decode cX4_greatestOf 103 = .ok (.iinc 4 1, 3) := by decide +kernel
theorem dX4_greatestOf_106 : decode cX4_greatestOf 106 = .ok (.goto (-94), 3) := by decide +kernel
theorem dX4_greatestOf_109 : decode cX4_greatestOf 109 = .ok (.iload_n 3, 1) := by decide +kernel
theorem dX4_greatestOf_110 : decode cX4_greatestOf 110 = .ok (.ireturn, 1) := by decide +kernel
set_option maxHeartbeats 4000000 in
set_option maxRecDepth 100000 in
theorem kX4_greatestOf {l : Launch} {D : va_G} {cy : Nat → ClassId} {N : Nat} {q : Nat → Nat} {m0 : Nat → Value} {a0 : Nat → vp_A} {sz : Nat} (hN : 105 ≤ N) (hsh : SH q m0) {A30 : Nat → Int32} (h_A30 : a0 30 = (6001, .inl A30)) {A35 : Nat → Int32} (h_A35 : a0 35 = (60000, .inl A35)) {A44 : Nat → Int32} (h_A44 : a0 44 = (6000, .inl A44)) (F : Nat) (p2 : Int32) {X0 : Int32} (hs0 : fX4_greatestOf F A30 A35 A44 p2 = some X0) : gMi l yX4_greatestOf cX4_greatestOf 7 (some .int) ({ frames := 2, cells := 0, slots := 0, locals := 43 } : Room) D cy N q m0 a0 sz [.ref (q 42), .ref (q 28), .int p2] (fun r m' a' => r = X0 ∧ m' = m0 ∧ a' = a0) := by
  refine g_ofi (by decide) (Nat.le_of_ble_eq_true rfl) ?_
  intro p e s M args below meth c hx hb hr hG hown hin hlocks hml hW hS ls hl
  unfold fX4_greatestOf at hs0
  refine lv_iconst (v := 0) hx hb dX4_greatestOf_0 (by decide) ?_
  refine lv_istore_n (lv' := [(3, .int 0), (0, .ref (q 42)), (1, .ref (q 28)), (2, .int p2)]) hx hb dX4_greatestOf_1 rfl hl (by decide) rfl (fun ls hl => ?_)
  refine lv_aload_n hx hb dX4_greatestOf_2 rfl (lv_at hl 2 rfl) ?_
  refine gf1_0 hx hb hG hown hW (o := 28) (ltN hN 28 rfl) gk28 (v := .ref (q 29)) (sh28_0 hsh) gx765 dX4_greatestOf_3 ?_
  refine lv_iload_n hx hb dX4_greatestOf_6 rfl (lv_at hl 3 rfl) ?_
  refine g_ViR (n := 1) hx hb hml hown hG hW hS [.int p2] (kX2_at (ltN hN 29 rfl) gk29 (ltN hN 30 rfl) gk30 (sh29_0 hsh) (by decide) h_A30 p2) (ltN hN 29 rfl) gk29 (by decide) rfl rfl (gd_V gx760 gx564 gx565 gx47 gx566) rfl rfl (by decide) ⟨Nat.le_of_ble_eq_true rfl, Nat.le_of_ble_eq_true rfl⟩ rfl hl (Nat.le_of_ble_eq_true rfl) ⟨Nat.zero_le _, Nat.zero_le _⟩ dX4_greatestOf_7 (fun H locs hW hS => ?_)
  refine lv_istore (lv' := [(4, .int (cAt 6001 A30 p2)), (3, .int 0), (0, .ref (q 42)), (1, .ref (q 28)), (2, .int p2)]) hx hb dX4_greatestOf_10 hl (by decide) rfl (fun ls hl => ?_)
  obtain ⟨r2, hg2, hs0⟩ := obind hs0
  have hE1_109 : ∀ (t2_109 : Int32) (hr2 : t2_109 = r2) (H : Heap) (locs : List Loc) (ls : Array Slot) (hl : lv_has ls 7 [(3, .int t2_109)]) (hW : GW D cy (gA N q s.heap.size) N q m0 a0 s H) (hS : va_S (gA N q s.heap.size) s.heap H locs), W p l e ({ frames := 2, cells := 0, slots := 0, locals := 43 } : Room) s M args below meth c H locs 0 0 (MQ below (va_Qi (fun (r : Int32) (u : (Nat → Value) × (Nat → vp_A)) => r = X0 ∧ u.1 = m0 ∧ u.2 = a0) (gB D cy N q s.heap.size) (gA N q s.heap.size)) args s 0 0 (gA N q s.heap.size)) (F0 M 109 ls []) := by
    intro t2_109 hr2 H locs ls hl hW hS
    subst hr2
    refine lv_iload_n hx hb dX4_greatestOf_109 rfl (lv_at hl 0 rfl) ?_
    have hs0 := Option.some.inj hs0
    subst hs0
    exact W.zret hx hb hr rfl (fun t ht hw => ⟨⟨_, (m0, a0), rfl, ⟨rfl, rfl, rfl⟩, g_end hW ht hw⟩, hS.F ht⟩) hS.2.2 dX4_greatestOf_110 hlocks
  have hL1 : ∀ (n : Nat) (v3k2 : Int32) (v4k2 : Int32) (H : Heap) (locs : List Loc) (ls : Array Slot) (hl : lv_has ls 7 [(0, .ref (q 42)), (1, .ref (q 28)), (2, .int p2), (3, .int v3k2), (4, .int v4k2)]) (hg2 : gloop (fun u2 : (Int32 × Int32) => fX4_greatestOf_S12 F A30 A35 A44 p2 u2.1 u2.2) n (v3k2, v4k2) = some r2) (hW : GW D cy (gA N q s.heap.size) N q m0 a0 s H) (hS : va_S (gA N q s.heap.size) s.heap H locs), W p l e ({ frames := 2, cells := 0, slots := 0, locals := 43 } : Room) s M args below meth c H locs 0 0 (MQ below (va_Qi (fun (r : Int32) (u : (Nat → Value) × (Nat → vp_A)) => r = X0 ∧ u.1 = m0 ∧ u.2 = a0) (gB D cy N q s.heap.size) (gA N q s.heap.size)) args s 0 0 (gA N q s.heap.size)) (F0 M 12 ls []) := by
    intro n
    induction n with
    | zero => intro v3k2 v4k2 H locs ls hl hg2 hW hS; exact (gl_zero hg2).elim
    | succ n ih1 =>
      intro v3k2 v4k2 H locs ls hl hg2 hW hS
      obtain ⟨X1, hs1, hXl1, hXr1⟩ := gl_succ hg2
      have hs1 : fX4_greatestOf_S12 F A30 A35 A44 p2 v3k2 v4k2 = some X1 := hs1
      unfold fX4_greatestOf_S12 at hs1
      have hJ103_1 : ∀ (v3j31 : Int32) (v4j31 : Int32) (H : Heap) (locs : List Loc) (ls : Array Slot) (hl : lv_has ls 7 [(0, .ref (q 42)), (1, .ref (q 28)), (2, .int p2), (3, .int v3j31), (4, .int v4j31)]) (hs1 : fX4_greatestOf_J103 F A30 A35 A44 p2 v3j31 v4j31 = some X1) (hW : GW D cy (gA N q s.heap.size) N q m0 a0 s H) (hS : va_S (gA N q s.heap.size) s.heap H locs), W p l e ({ frames := 2, cells := 0, slots := 0, locals := 43 } : Room) s M args below meth c H locs 0 0 (MQ below (va_Qi (fun (r : Int32) (u : (Nat → Value) × (Nat → vp_A)) => r = X0 ∧ u.1 = m0 ∧ u.2 = a0) (gB D cy N q s.heap.size) (gA N q s.heap.size)) args s 0 0 (gA N q s.heap.size)) (F0 M 103 ls []) := by
        intro v3j31 v4j31 H locs ls hl hs1 hW hS
        unfold fX4_greatestOf_J103 at hs1
        refine lv_iinc (v := v4j31 + 1) (lv' := [(4, .int (v4j31 + 1)), (0, .ref (q 42)), (1, .ref (q 28)), (2, .int p2), (3, .int v3j31)]) hx hb dX4_greatestOf_103 hl (k := 4) rfl rfl (by decide) rfl (fun ls hl => ?_)
        refine lv_goto (tgt := 12) hx hb dX4_greatestOf_106 (by decide) ?_
        exact ih1 v3j31 (v4j31 + 1) _ _ ls (lv_sub hl [1, 2, 3, 4, 0] rfl) (hXr1 _ (Option.some.inj hs1).symm) hW hS
      have hJ99_1 : ∀ (v4j27 : Int32) (s0j27 : Int32) (s1j27 : Int32) (H : Heap) (locs : List Loc) (ls : Array Slot) (hl : lv_has ls 7 [(0, .ref (q 42)), (1, .ref (q 28)), (2, .int p2), (4, .int v4j27)]) (hs1 : fX4_greatestOf_J99 F A30 A35 A44 p2 v4j27 s0j27 s1j27 = some X1) (hW : GW D cy (gA N q s.heap.size) N q m0 a0 s H) (hS : va_S (gA N q s.heap.size) s.heap H locs), W p l e ({ frames := 2, cells := 0, slots := 0, locals := 43 } : Room) s M args below meth c H locs 0 0 (MQ below (va_Qi (fun (r : Int32) (u : (Nat → Value) × (Nat → vp_A)) => r = X0 ∧ u.1 = m0 ∧ u.2 = a0) (gB D cy N q s.heap.size) (gA N q s.heap.size)) args s 0 0 (gA N q s.heap.size)) (F0 M 99 ls [.int s0j27, .int s1j27]) := by
        intro v4j27 s0j27 s1j27 H locs ls hl hs1 hW hS
        unfold fX4_greatestOf_J99 at hs1
        refine g_SiR (n := 2) hx hb hml hown hG hW hS [.int s1j27, .int s0j27] (kX4_greater hN s1j27 s0j27) rfl (gd_S gx792 gx793 gx94 gx794) rfl rfl (by decide) ⟨Nat.le_of_ble_eq_true rfl, Nat.le_of_ble_eq_true rfl⟩ rfl hl (Nat.le_of_ble_eq_true rfl) ⟨Nat.zero_le _, Nat.zero_le _⟩ dX4_greatestOf_99 (fun H locs hW hS => ?_)
        refine lv_istore_n (lv' := [(3, .int (fX4_greater s1j27 s0j27)), (0, .ref (q 42)), (1, .ref (q 28)), (2, .int p2), (4, .int v4j27)]) hx hb dX4_greatestOf_102 rfl hl (by decide) rfl (fun ls hl => ?_)
        exact hJ103_1 (fX4_greater s1j27 s0j27) v4j27 _ _ ls (lv_sub hl [1, 2, 3, 0, 4] rfl) hs1 hW hS
      have hJ97_1 : ∀ (v4j25 : Int32) (v5j25 : Int32) (s0j25 : Int32) (H : Heap) (locs : List Loc) (ls : Array Slot) (hl : lv_has ls 7 [(0, .ref (q 42)), (1, .ref (q 28)), (2, .int p2), (4, .int v4j25), (5, .int v5j25)]) (hs1 : fX4_greatestOf_J97 F A30 A35 A44 p2 v4j25 v5j25 s0j25 = some X1) (hW : GW D cy (gA N q s.heap.size) N q m0 a0 s H) (hS : va_S (gA N q s.heap.size) s.heap H locs), W p l e ({ frames := 2, cells := 0, slots := 0, locals := 43 } : Room) s M args below meth c H locs 0 0 (MQ below (va_Qi (fun (r : Int32) (u : (Nat → Value) × (Nat → vp_A)) => r = X0 ∧ u.1 = m0 ∧ u.2 = a0) (gB D cy N q s.heap.size) (gA N q s.heap.size)) args s 0 0 (gA N q s.heap.size)) (F0 M 97 ls [.int s0j25]) := by
        intro v4j25 v5j25 s0j25 H locs ls hl hs1 hW hS
        unfold fX4_greatestOf_J97 at hs1
        refine lv_iload hx hb dX4_greatestOf_97 (lv_at hl 4 rfl) ?_
        exact hJ99_1 v4j25 v5j25 s0j25 _ _ ls (lv_sub hl [0, 1, 2, 3] rfl) hs1 hW hS
      have hJ70_1 : ∀ (v4j29 : Int32) (s0j29 : Int32) (s1j29 : Int32) (H : Heap) (locs : List Loc) (ls : Array Slot) (hl : lv_has ls 7 [(0, .ref (q 42)), (1, .ref (q 28)), (2, .int p2), (4, .int v4j29)]) (hs1 : fX4_greatestOf_J70 F A30 A35 A44 p2 v4j29 s0j29 s1j29 = some X1) (hW : GW D cy (gA N q s.heap.size) N q m0 a0 s H) (hS : va_S (gA N q s.heap.size) s.heap H locs), W p l e ({ frames := 2, cells := 0, slots := 0, locals := 43 } : Room) s M args below meth c H locs 0 0 (MQ below (va_Qi (fun (r : Int32) (u : (Nat → Value) × (Nat → vp_A)) => r = X0 ∧ u.1 = m0 ∧ u.2 = a0) (gB D cy N q s.heap.size) (gA N q s.heap.size)) args s 0 0 (gA N q s.heap.size)) (F0 M 70 ls [.int s0j29, .int s1j29]) := by
        intro v4j29 s0j29 s1j29 H locs ls hl hs1 hW hS
        unfold fX4_greatestOf_J70 at hs1
        refine g_SiR (n := 2) hx hb hml hown hG hW hS [.int s1j29, .int s0j29] (kX4_greater hN s1j29 s0j29) rfl (gd_S gx792 gx793 gx94 gx794) rfl rfl (by decide) ⟨Nat.le_of_ble_eq_true rfl, Nat.le_of_ble_eq_true rfl⟩ rfl hl (Nat.le_of_ble_eq_true rfl) ⟨Nat.zero_le _, Nat.zero_le _⟩ dX4_greatestOf_70 (fun H locs hW hS => ?_)
        refine lv_istore_n (lv' := [(3, .int (fX4_greater s1j29 s0j29)), (0, .ref (q 42)), (1, .ref (q 28)), (2, .int p2), (4, .int v4j29)]) hx hb dX4_greatestOf_73 rfl hl (by decide) rfl (fun ls hl => ?_)
        refine lv_goto (tgt := 103) hx hb dX4_greatestOf_74 (by decide) ?_
        exact hJ103_1 (fX4_greater s1j29 s0j29) v4j29 _ _ ls (lv_sub hl [1, 2, 3, 0, 4] rfl) hs1 hW hS
      refine lv_iload hx hb dX4_greatestOf_12 (lv_at hl 4 rfl) ?_
      refine lv_aload_n hx hb dX4_greatestOf_14 rfl (lv_at hl 1 rfl) ?_
      refine gf1_0 hx hb hG hown hW (o := 28) (ltN hN 28 rfl) gk28 (v := .ref (q 29)) (sh28_0 hsh) gx765 dX4_greatestOf_15 ?_
      refine lv_iload_n hx hb dX4_greatestOf_18 rfl (lv_at hl 2 rfl) ?_
      refine lv_iconst (v := 1) hx hb dX4_greatestOf_19 (by decide) ?_
      refine lv_iadd hx hb dX4_greatestOf_20 ?_
      refine g_ViR (n := 1) hx hb hml hown hG hW hS [.int (p2 + 1)] (kX2_at (ltN hN 29 rfl) gk29 (ltN hN 30 rfl) gk30 (sh29_0 hsh) (by decide) h_A30 (p2 + 1)) (ltN hN 29 rfl) gk29 (by decide) rfl rfl (gd_V gx760 gx564 gx565 gx47 gx566) rfl rfl (by decide) ⟨Nat.le_of_ble_eq_true rfl, Nat.le_of_ble_eq_true rfl⟩ rfl hl (Nat.le_of_ble_eq_true rfl) ⟨Nat.zero_le _, Nat.zero_le _⟩ dX4_greatestOf_21 (fun H locs hW hS => ?_)
      refine lv_icmp_ge (tgt := 109) hx hb dX4_greatestOf_24 (by decide) (fun c19 => ?_) (fun c19 => ?_)
      · rw [if_pos c19] at hs1
        exact hE1_109 v3k2 (hXl1 _ (Option.some.inj hs1).symm) _ _ ls (lv_sub hl [3] rfl) hW hS
      · rw [if_neg c19] at hs1
        refine lv_aload_n hx hb dX4_greatestOf_27 rfl (lv_at hl 0 rfl) ?_
        refine gf4_0 hx hb hG hown hW (o := 42) (ltN hN 42 rfl) gk42 (v := .ref (q 43)) (sh42_0 hsh) gx127 dX4_greatestOf_28 ?_
        refine lv_aload_n hx hb dX4_greatestOf_31 rfl (lv_at hl 1 rfl) ?_
        refine lv_iload hx hb dX4_greatestOf_32 (lv_at hl 4 rfl) ?_
        refine g_ViR (n := 1) hx hb hml hown hG hW hS [.int v4k2] (kX1_targetOf hN hsh h_A35 v4k2) (ltN hN 28 rfl) gk28 (by decide) rfl rfl (gd_V gx771 gx772 gx773 gx86 gx774) rfl rfl (by decide) ⟨Nat.le_of_ble_eq_true rfl, Nat.le_of_ble_eq_true rfl⟩ rfl hl (Nat.le_of_ble_eq_true rfl) ⟨Nat.zero_le _, Nat.zero_le _⟩ dX4_greatestOf_34 (fun H locs hW hS => ?_)
        refine g_ViR (n := 1) hx hb hml hown hG hW hS [.int (fX1_targetOf A35 v4k2)] (kX2_at (ltN hN 43 rfl) gk43 (ltN hN 44 rfl) gk44 (sh43_0 hsh) (by decide) h_A44 (fX1_targetOf A35 v4k2)) (ltN hN 43 rfl) gk43 (by decide) rfl rfl (gd_V gx760 gx564 gx565 gx47 gx566) rfl rfl (by decide) ⟨Nat.le_of_ble_eq_true rfl, Nat.le_of_ble_eq_true rfl⟩ rfl hl (Nat.le_of_ble_eq_true rfl) ⟨Nat.zero_le _, Nat.zero_le _⟩ dX4_greatestOf_37 (fun H locs hW hS => ?_)
        refine lv_istore (lv' := [(5, .int (cAt 6000 A44 (fX1_targetOf A35 v4k2))), (0, .ref (q 42)), (1, .ref (q 28)), (2, .int p2), (3, .int v3k2), (4, .int v4k2)]) hx hb dX4_greatestOf_40 hl (by decide) rfl (fun ls hl => ?_)
        refine lv_aload_n hx hb dX4_greatestOf_42 rfl (lv_at hl 2 rfl) ?_
        refine lv_iload hx hb dX4_greatestOf_43 (lv_at hl 5 rfl) ?_
        refine lv_iconst (v := 1) hx hb dX4_greatestOf_45 (by decide) ?_
        refine g_ViR (n := 2) hx hb hml hown hG hW hS [.int v4k2, .int 1] (kX1_hasMark hN hsh h_A35 v4k2 1) (ltN hN 28 rfl) gk28 (by decide) rfl rfl (gd_V gx788 gx789 gx790 gx86 gx791) rfl rfl (by decide) ⟨Nat.le_of_ble_eq_true rfl, Nat.le_of_ble_eq_true rfl⟩ rfl hl (Nat.le_of_ble_eq_true rfl) ⟨Nat.zero_le _, Nat.zero_le _⟩ dX4_greatestOf_46 (fun H locs hW hS => ?_)
        refine lv_istore (lv' := [(6, .int (fX1_hasMark A35 v4k2 1)), (5, .int (cAt 6000 A44 (fX1_targetOf A35 v4k2))), (0, .ref (q 42)), (1, .ref (q 28)), (2, .int p2), (3, .int v3k2), (4, .int v4k2)]) hx hb dX4_greatestOf_49 hl (by decide) rfl (fun ls hl => ?_)
        refine lv_iload hx hb dX4_greatestOf_51 (lv_at hl 1 rfl) ?_
        refine lv_bipush (v := (-3)) hx hb dX4_greatestOf_53 (by decide) ?_
        refine lv_icmp_ne (tgt := 77) hx hb dX4_greatestOf_55 (by decide) (fun c23 => ?_) (fun c23 => ?_)
        · rw [if_neg c23] at hs1
          refine lv_iload_n hx hb dX4_greatestOf_77 rfl (lv_at hl 5 rfl) ?_
          refine lv_iload hx hb dX4_greatestOf_78 (lv_at hl 0 rfl) ?_
          refine lv_if_eq (tgt := 97) hx hb dX4_greatestOf_80 (by decide) (fun c24 => ?_) (fun c24 => ?_)
          · rw [if_pos c24] at hs1
            exact hJ97_1 v4k2 (cAt 6000 A44 (fX1_targetOf A35 v4k2)) v3k2 _ _ ls (lv_sub hl [2, 3, 4, 6, 1] rfl) hs1 hW hS
          · rw [if_neg c24] at hs1
            refine lv_iload hx hb dX4_greatestOf_83 (lv_at hl 1 rfl) ?_
            refine lv_bipush (v := (-2)) hx hb dX4_greatestOf_85 (by decide) ?_
            refine lv_icmp_eq (tgt := 97) hx hb dX4_greatestOf_87 (by decide) (fun c26 => ?_) (fun c26 => ?_)
            · rw [if_pos c26] at hs1
              exact hJ97_1 v4k2 (cAt 6000 A44 (fX1_targetOf A35 v4k2)) v3k2 _ _ ls (lv_sub hl [2, 3, 4, 6, 1] rfl) hs1 hW hS
            · rw [if_neg c26] at hs1
              refine lv_iload hx hb dX4_greatestOf_90 (lv_at hl 1 rfl) ?_
              refine lv_iconst (v := 1) hx hb dX4_greatestOf_92 (by decide) ?_
              refine lv_iadd hx hb dX4_greatestOf_93 ?_
              refine lv_goto (tgt := 99) hx hb dX4_greatestOf_94 (by decide) ?_
              exact hJ99_1 v4k2 ((cAt 6000 A44 (fX1_targetOf A35 v4k2)) + 1) v3k2 _ _ ls (lv_sub hl [2, 3, 4, 6] rfl) hs1 hW hS
        · rw [if_pos c23] at hs1
          refine lv_iload_n hx hb dX4_greatestOf_58 rfl (lv_at hl 5 rfl) ?_
          refine lv_iload hx hb dX4_greatestOf_59 (lv_at hl 0 rfl) ?_
          refine lv_if_eq (tgt := 69) hx hb dX4_greatestOf_61 (by decide) (fun c28 => ?_) (fun c28 => ?_)
          · rw [if_pos c28] at hs1
            refine lv_iconst (v := 0) hx hb dX4_greatestOf_69 (by decide) ?_
            exact hJ70_1 v4k2 0 v3k2 _ _ ls (lv_sub hl [2, 3, 4, 6] rfl) hs1 hW hS
          · rw [if_neg c28] at hs1
            refine lv_bipush (v := (-2)) hx hb dX4_greatestOf_64 (by decide) ?_
            refine lv_goto (tgt := 70) hx hb dX4_greatestOf_66 (by decide) ?_
            exact hJ70_1 v4k2 (-2) v3k2 _ _ ls (lv_sub hl [2, 3, 4, 6] rfl) hs1 hW hS
  exact hL1 F 0 (cAt 6001 A30 p2) _ _ ls (lv_sub hl [2, 3, 4, 1, 0] rfl) hg2 hW hS
-- HealLink$Depths.closeAt (LHealLink$Atlas;I)V
def fX4_closeAt_J81 (F : Nat) (A30 : Nat → Int32) (A35 : Nat → Int32) (A46 : Nat → Int32) (A48 : Nat → Int32) (A50 : Nat → Int32) (v2 : Int32) (v3j12 : Int32) (v4j12 : Int32) (s0j12 : Int32) (x42_7 : Int32) (A44 : Nat → Int32) : Option ((Int32 × Int32) ⊕ (Int32 × Int32 × Int32)) := some (Sum.inr (v3j12, v4j12, s0j12))
def fX4_closeAt_S31 (F : Nat) (A30 : Nat → Int32) (A35 : Nat → Int32) (A46 : Nat → Int32) (A48 : Nat → Int32) (A50 : Nat → Int32) (v2 : Int32) (x42_7 : Int32) (A44 : Nat → Int32) (v3 : Int32) (v4 : Int32) (v5 : Int32) : Option ((Int32 × Int32) ⊕ (Int32 × Int32 × Int32)) := (if v4 ≤ 0 then some (Sum.inl (v3, v4)) else (if v5 = 0 then ((fX4_greatestOf F A30 A35 A44 (cAt 6000 A50 (v4 + (-1)))).bind (fun r8 => (if (cAt 6000 A50 (v4 + (-1))) = v2 then fX4_closeAt_J81 F A30 A35 A46 A48 A50 v2 (fX4_greater v3 r8) (v4 + (-1)) 1 x42_7 A44 else fX4_closeAt_J81 F A30 A35 A46 A48 A50 v2 (fX4_greater v3 r8) (v4 + (-1)) 0 x42_7 A44))) else some (Sum.inl (v3, v4))))
def fX4_closeAt_S90 (F : Nat) (A30 : Nat → Int32) (A35 : Nat → Int32) (A46 : Nat → Int32) (A48 : Nat → Int32) (A50 : Nat → Int32) (v3 : Int32) (v4 : Int32) (x42_7 : Int32) (v6 : Int32) (A44 : Nat → Int32) : Option (((Nat → Int32)) ⊕ (Int32 × (Nat → Int32))) := (if x42_7 ≤ v6 then some (Sum.inl A44) else some (Sum.inr (v6 + 1, (cPut 6000 A44 (cAt 6000 A50 v6) v3))))
def fX4_closeAt_J86 (F : Nat) (A30 : Nat → Int32) (A35 : Nat → Int32) (A46 : Nat → Int32) (A48 : Nat → Int32) (A50 : Nat → Int32) (v3j13 : Int32) (v4j13 : Int32) (x42_7j13 : Int32) (A44j13 : Nat → Int32) : Option (Int32 × (Nat → Int32)) := (gloop (fun u22 : (Int32 × (Nat → Int32)) => fX4_closeAt_S90 F A30 A35 A46 A48 A50 v3j13 v4j13 x42_7j13 u22.1 u22.2) F (v4j13, A44j13)).bind (fun t22_122 => some (v4j13, t22_122))
def fX4_closeAt (F : Nat) (A30 : Nat → Int32) (A35 : Nat → Int32) (A46 : Nat → Int32) (A48 : Nat → Int32) (A50 : Nat → Int32) (x42_7 : Int32) (A44 : Nat → Int32) (p2 : Int32) : Option (Int32 × (Nat → Int32)) := (if (cAt 6000 A48 p2) = (cAt 6000 A46 p2) then (gloop (fun u4 : (Int32 × Int32 × Int32) => fX4_closeAt_S31 F A30 A35 A46 A48 A50 p2 x42_7 A44 u4.1 u4.2.1 u4.2.2) F (0, x42_7, 0)).bind (fun t4_86 => fX4_closeAt_J86 F A30 A35 A46 A48 A50 t4_86.1 t4_86.2 x42_7 A44) else some (x42_7, A44))
theorem dX4_closeAt_0 : decode cX4_closeAt 0 = .ok (.aload_n 0, 1) := by decide +kernel
theorem dX4_closeAt_1 : decode cX4_closeAt 1 = .ok (.getfield 23, 3) := by decide +kernel
theorem dX4_closeAt_4 : decode cX4_closeAt 4 = .ok (.iload_n 2, 1) := by decide +kernel
theorem dX4_closeAt_5 : decode cX4_closeAt 5 = .ok (.invokevirtual 50, 3) := by decide +kernel
theorem dX4_closeAt_8 : decode cX4_closeAt 8 = .ok (.aload_n 0, 1) := by decide +kernel
theorem dX4_closeAt_9 : decode cX4_closeAt 9 = .ok (.getfield 20, 3) := by decide +kernel
theorem dX4_closeAt_12 : decode cX4_closeAt 12 = .ok (.iload_n 2, 1) := by decide +kernel
theorem dX4_closeAt_13 : decode cX4_closeAt 13 = .ok (.invokevirtual 50, 3) := by decide +kernel
theorem dX4_closeAt_16 : decode cX4_closeAt 16 = .ok (.if_icmp .eq 4, 3) := by decide +kernel
theorem dX4_closeAt_19 : decode cX4_closeAt 19 = .ok (.return_, 1) := by decide +kernel
theorem dX4_closeAt_20 : decode cX4_closeAt 20 = .ok (.iconst 0, 1) := by decide +kernel
theorem dX4_closeAt_21 : decode cX4_closeAt 21 = .ok (.istore_n 3, 1) := by decide +kernel
theorem dX4_closeAt_22 : decode cX4_closeAt 22 = .ok (.aload_n 0, 1) := by decide +kernel
theorem dX4_closeAt_23 : decode cX4_closeAt 23 = .ok (.getfield 42, 3) := by decide +kernel
theorem dX4_closeAt_26 : decode cX4_closeAt 26 = .ok (.istore 4, 2) := by decide +kernel
theorem dX4_closeAt_28 : decode cX4_closeAt 28 = .ok (.iconst 0, 1) := by decide +kernel
theorem dX4_closeAt_29 : decode cX4_closeAt 29 = .ok (.istore 5, 2) := by decide +kernel
theorem dX4_closeAt_31 : decode cX4_closeAt 31 = .ok (.iload 4, 2) := by decide +kernel
theorem dX4_closeAt_33 : decode cX4_closeAt 33 = .ok (.ifCond .le 53, 3) := by decide +kernel
theorem dX4_closeAt_36 : decode cX4_closeAt 36 = .ok (.iload 5, 2) := by decide +kernel
theorem dX4_closeAt_38 : decode cX4_closeAt 38 = .ok (.ifCond .ne 48, 3) := by decide +kernel
theorem dX4_closeAt_41 : decode cX4_closeAt 41 = .ok (.iinc 4 (-1), 3) := by decide +kernel
theorem dX4_closeAt_44 : decode cX4_closeAt 44 = .ok (.iload_n 3, 1) := by decide +kernel
theorem dX4_closeAt_45 : decode cX4_closeAt 45 = .ok (.aload_n 0, 1) := by decide +kernel
theorem dX4_closeAt_46 : decode cX4_closeAt 46 = .ok (.aload_n 1, 1) := by decide +kernel
theorem dX4_closeAt_47 : decode cX4_closeAt 47 = .ok (.aload_n 0, 1) := by decide +kernel
theorem dX4_closeAt_48 : decode cX4_closeAt 48 = .ok (.getfield 26, 3) := by decide +kernel
theorem dX4_closeAt_51 : decode cX4_closeAt 51 = .ok (.iload 4, 2) := by decide +kernel
theorem dX4_closeAt_53 : decode cX4_closeAt 53 = .ok (.invokevirtual 50, 3) := by decide +kernel
theorem dX4_closeAt_56 : decode cX4_closeAt 56 = .ok (.invokevirtual 84, 3) := by decide +kernel
theorem dX4_closeAt_59 : decode cX4_closeAt 59 = .ok (.invokestatic 88, 3) := by decide +kernel
theorem dX4_closeAt_62 : decode cX4_closeAt 62 = .ok (.istore_n 3, 1) := by decide +kernel
theorem dX4_closeAt_63 : decode cX4_closeAt 63 = .ok (.aload_n 0, 1) := by decide +kernel
theorem dX4_closeAt_64 : decode cX4_closeAt 64 = .ok (.getfield 26, 3) := by decide +kernel
theorem dX4_closeAt_67 : decode cX4_closeAt 67 = .ok (.iload 4, 2) := by decide +kernel
theorem dX4_closeAt_69 : decode cX4_closeAt 69 = .ok (.invokevirtual 50, 3) := by decide +kernel
theorem dX4_closeAt_72 : decode cX4_closeAt 72 = .ok (.iload_n 2, 1) := by decide +kernel
theorem dX4_closeAt_73 : decode cX4_closeAt 73 = .ok (.if_icmp .ne 7, 3) := by decide +kernel
theorem dX4_closeAt_76 : decode cX4_closeAt 76 = .ok (.iconst 1, 1) := by decide +kernel
theorem dX4_closeAt_77 : decode cX4_closeAt 77 = .ok (.goto 4, 3) := by decide +kernel
theorem dX4_closeAt_80 : decode cX4_closeAt 80 = .ok (.iconst 0, 1) := by decide +kernel
theorem dX4_closeAt_81 : decode cX4_closeAt 81 = .ok (.istore 5, 2) := by decide +kernel
theorem dX4_closeAt_83 : decode cX4_closeAt 83 = .ok (.goto (-52), 3) := by decide +kernel
theorem dX4_closeAt_86 : decode cX4_closeAt 86 = .ok (.iload 4, 2) := by decide +kernel
theorem dX4_closeAt_88 : decode cX4_closeAt 88 = .ok (.istore 6, 2) := by decide +kernel
theorem dX4_closeAt_90 : decode cX4_closeAt 90 = .ok (.iload 6, 2) := by decide +kernel
theorem dX4_closeAt_92 : decode cX4_closeAt 92 = .ok (.aload_n 0, 1) := by decide +kernel
theorem dX4_closeAt_93 : decode cX4_closeAt 93 = .ok (.getfield 42, 3) := by decide +kernel
theorem dX4_closeAt_96 : decode cX4_closeAt 96 = .ok (.if_icmp .ge 26, 3) := by decide +kernel
theorem dX4_closeAt_99 : decode cX4_closeAt 99 = .ok (.aload_n 0, 1) := by decide +kernel
theorem dX4_closeAt_100 : decode cX4_closeAt 100 = .ok (.getfield 14, 3) := by decide +kernel
theorem dX4_closeAt_103 : decode cX4_closeAt 103 = .ok (.aload_n 0, 1) := by decide +kernel
theorem dX4_closeAt_104 : decode cX4_closeAt 104 = .ok (.getfield 26, 3) := by decide +kernel
theorem dX4_closeAt_107 : decode cX4_closeAt 107 = .ok (.iload 6, 2) := by decide +kernel
theorem dX4_closeAt_109 : decode cX4_closeAt 109 = .ok (.invokevirtual 50, 3) := by decide +kernel
theorem dX4_closeAt_112 : decode cX4_closeAt 112 = .ok (.iload_n 3, 1) := by decide +kernel
theorem dX4_closeAt_113 : decode cX4_closeAt 113 = .ok (.invokevirtual 65, 3) := by decide +kernel
theorem dX4_closeAt_116 : decode cX4_closeAt 116 = .ok (.iinc 6 1, 3) := by decide +kernel
theorem dX4_closeAt_119 : decode cX4_closeAt 119 = .ok (.goto (-29), 3) := by decide +kernel
theorem dX4_closeAt_122 : decode cX4_closeAt 122 = .ok (.aload_n 0, 1) := by decide +kernel
theorem dX4_closeAt_123 : decode cX4_closeAt 123 = .ok (.iload 4, 2) := by decide +kernel
theorem dX4_closeAt_125 : decode cX4_closeAt 125 = .ok (.putfield 42, 3) := by decide +kernel
theorem dX4_closeAt_128 : decode cX4_closeAt 128 = .ok (.return_, 1) := by decide +kernel
set_option maxHeartbeats 4000000 in
set_option maxRecDepth 100000 in
theorem kX4_closeAt {l : Launch} {D : va_G} {cy : Nat → ClassId} {N : Nat} {q : Nat → Nat} {m0 : Nat → Value} {a0 : Nat → vp_A} {sz : Nat} (hN : 105 ≤ N) (hsh : SH q m0) {A30 : Nat → Int32} (h_A30 : a0 30 = (6001, .inl A30)) {A35 : Nat → Int32} (h_A35 : a0 35 = (60000, .inl A35)) {A46 : Nat → Int32} (h_A46 : a0 46 = (6000, .inl A46)) {A48 : Nat → Int32} (h_A48 : a0 48 = (6000, .inl A48)) {A50 : Nat → Int32} (h_A50 : a0 50 = (6000, .inl A50)) {x42_7 : Int32} (h_x42_7 : m0 4207 = .int x42_7) {A44 : Nat → Int32} (h_A44 : a0 44 = (6000, .inl A44)) (F : Nat) (p2 : Int32) {X0 : Int32 × (Nat → Int32)} (hs0 : fX4_closeAt F A30 A35 A46 A48 A50 x42_7 A44 p2 = some X0) : gMv l yX4_closeAt cX4_closeAt 7 none ({ frames := 3, cells := 0, slots := 0, locals := 69 } : Room) D cy N q m0 a0 sz [.ref (q 42), .ref (q 28), .int p2] (fun m' a' => m' 4207 = .int X0.1 ∧ (∀ j, nel j [4207] = false → m' j = m0 j) ∧ a' 44 = (6000, .inl X0.2) ∧ (∀ j, nel j [44] = false → a' j = a0 j)) := by
  refine g_ofv (by decide) (Nat.le_of_ble_eq_true rfl) ?_
  intro p e s M args below meth c hx hb hr hG hown hin hlocks hml hW hS ls hl
  unfold fX4_closeAt at hs0
  have hoff : ∀ j, nel j [4207] = false → m0 j = m0 j := off0
  have hoffa : ∀ j, nel j [44] = false → a0 j = a0 j := off0
  have hJ86_0 : ∀ (v3j13 : Int32) (v4j13 : Int32) (x42_7j13 : Int32) (A44j13 : Nat → Int32) (m : Nat → Value) (a : Nat → vp_A) (H : Heap) (locs : List Loc) (w_x42_7 : m 4207 = .int x42_7j13) (hoff : ∀ j, nel j [4207] = false → m j = m0 j) (hsh : SH q m) (w_A44 : a 44 = (6000, .inl A44j13)) (hoffa : ∀ j, nel j [44] = false → a j = a0 j) (ls : Array Slot) (hl : lv_has ls 7 [(0, .ref (q 42)), (3, .int v3j13), (4, .int v4j13)]) (hs0 : fX4_closeAt_J86 F A30 A35 A46 A48 A50 v3j13 v4j13 x42_7j13 A44j13 = some X0) (hW : GW D cy (gA N q s.heap.size) N q m a s H) (hS : va_S (gA N q s.heap.size) s.heap H locs), W p l e ({ frames := 3, cells := 0, slots := 0, locals := 69 } : Room) s M args below meth c H locs 0 0 (MQ below (va_Qv (fun (u : (Nat → Value) × (Nat → vp_A)) => u.1 4207 = .int X0.1 ∧ (∀ j, nel j [4207] = false → u.1 j = m0 j) ∧ u.2 44 = (6000, .inl X0.2) ∧ (∀ j, nel j [44] = false → u.2 j = a0 j)) (gB D cy N q s.heap.size) (gA N q s.heap.size)) args s 0 0 (gA N q s.heap.size)) (F0 M 86 ls []) := by
    intro v3j13 v4j13 x42_7j13 A44j13 m a H locs w_x42_7 hoff hsh w_A44 hoffa ls hl hs0 hW hS
    unfold fX4_closeAt_J86 at hs0
    refine lv_iload hx hb dX4_closeAt_86 (lv_at hl 2 rfl) ?_
    refine lv_istore (lv' := [(6, .int v4j13), (0, .ref (q 42)), (3, .int v3j13), (4, .int v4j13)]) hx hb dX4_closeAt_88 hl (by decide) rfl (fun ls hl => ?_)
    obtain ⟨r22, hg22, hs0⟩ := obind hs0
    have hE1_122 : ∀ (t22_122 : (Nat → Int32)) (hr22 : t22_122 = r22) (m : Nat → Value) (a : Nat → vp_A) (H : Heap) (locs : List Loc) (w_x42_7 : m 4207 = .int x42_7j13) (hoff : ∀ j, nel j [4207] = false → m j = m0 j) (hsh : SH q m) (w_A44 : a 44 = (6000, .inl t22_122)) (hoffa : ∀ j, nel j [44] = false → a j = a0 j) (ls : Array Slot) (hl : lv_has ls 7 [(0, .ref (q 42)), (4, .int v4j13)]) (hW : GW D cy (gA N q s.heap.size) N q m a s H) (hS : va_S (gA N q s.heap.size) s.heap H locs), W p l e ({ frames := 3, cells := 0, slots := 0, locals := 69 } : Room) s M args below meth c H locs 0 0 (MQ below (va_Qv (fun (u : (Nat → Value) × (Nat → vp_A)) => u.1 4207 = .int X0.1 ∧ (∀ j, nel j [4207] = false → u.1 j = m0 j) ∧ u.2 44 = (6000, .inl X0.2) ∧ (∀ j, nel j [44] = false → u.2 j = a0 j)) (gB D cy N q s.heap.size) (gA N q s.heap.size)) args s 0 0 (gA N q s.heap.size)) (F0 M 122 ls []) := by
      intro t22_122 hr22 m a H locs w_x42_7 hoff hsh w_A44 hoffa ls hl hW hS
      subst hr22
      refine lv_aload_n hx hb dX4_closeAt_122 rfl (lv_at hl 0 rfl) ?_
      refine lv_iload hx hb dX4_closeAt_123 (lv_at hl 1 rfl) ?_
      refine gp4_7 hx hb hG hown hW hS (o := 42) (ltN hN 42 rfl) gk42 (v := v4j13) gx757 dX4_closeAt_125 (fun m26 H locs hm26 ho26 hW hS => ?_)
      have ho26 := off1 ho26
      have w_x42_7 : m26 4207 = .int v4j13 := hm26
      have hoff := offm hoff ho26 (by decide +kernel)
      have hsh := SH.off hsh ho26 (by decide +kernel)
      have hs0 := Option.some.inj hs0
      subst hs0
      exact W.vret hx hb hr (fun t ht hw => ⟨⟨(m26, a), rfl, ⟨w_x42_7, hoff, w_A44, hoffa⟩, g_end hW ht hw⟩, hS.F ht⟩) hS.2.2 dX4_closeAt_128 hlocks
    have hL1 : ∀ (n : Nat) (v6k22 : Int32) (A44k22 : Nat → Int32) (m : Nat → Value) (a : Nat → vp_A) (H : Heap) (locs : List Loc) (w_x42_7 : m 4207 = .int x42_7j13) (hoff : ∀ j, nel j [4207] = false → m j = m0 j) (hsh : SH q m) (w_A44 : a 44 = (6000, .inl A44k22)) (hoffa : ∀ j, nel j [44] = false → a j = a0 j) (ls : Array Slot) (hl : lv_has ls 7 [(0, .ref (q 42)), (3, .int v3j13), (4, .int v4j13), (6, .int v6k22)]) (hg22 : gloop (fun u22 : (Int32 × (Nat → Int32)) => fX4_closeAt_S90 F A30 A35 A46 A48 A50 v3j13 v4j13 x42_7j13 u22.1 u22.2) n (v6k22, A44k22) = some r22) (hW : GW D cy (gA N q s.heap.size) N q m a s H) (hS : va_S (gA N q s.heap.size) s.heap H locs), W p l e ({ frames := 3, cells := 0, slots := 0, locals := 69 } : Room) s M args below meth c H locs 0 0 (MQ below (va_Qv (fun (u : (Nat → Value) × (Nat → vp_A)) => u.1 4207 = .int X0.1 ∧ (∀ j, nel j [4207] = false → u.1 j = m0 j) ∧ u.2 44 = (6000, .inl X0.2) ∧ (∀ j, nel j [44] = false → u.2 j = a0 j)) (gB D cy N q s.heap.size) (gA N q s.heap.size)) args s 0 0 (gA N q s.heap.size)) (F0 M 90 ls []) := by
      intro n
      induction n with
      | zero => intro v6k22 A44k22 m a H locs w_x42_7 hoff hsh w_A44 hoffa ls hl hg22 hW hS; exact (gl_zero hg22).elim
      | succ n ih1 =>
        intro v6k22 A44k22 m a H locs w_x42_7 hoff hsh w_A44 hoffa ls hl hg22 hW hS
        obtain ⟨X1, hs1, hXl1, hXr1⟩ := gl_succ hg22
        have hs1 : fX4_closeAt_S90 F A30 A35 A46 A48 A50 v3j13 v4j13 x42_7j13 v6k22 A44k22 = some X1 := hs1
        unfold fX4_closeAt_S90 at hs1
        refine lv_iload hx hb dX4_closeAt_90 (lv_at hl 3 rfl) ?_
        refine lv_aload_n hx hb dX4_closeAt_92 rfl (lv_at hl 0 rfl) ?_
        refine gf4_7 hx hb hG hown hW (o := 42) (ltN hN 42 rfl) gk42 (v := .int x42_7j13) w_x42_7 gx757 dX4_closeAt_93 ?_
        refine lv_icmp_ge (tgt := 122) hx hb dX4_closeAt_96 (by decide) (fun c27 => ?_) (fun c27 => ?_)
        · rw [if_pos c27] at hs1
          exact hE1_122 A44k22 (hXl1 _ (Option.some.inj hs1).symm) m a _ _ w_x42_7 hoff hsh w_A44 hoffa ls (lv_sub hl [0, 2] rfl) hW hS
        · rw [if_neg c27] at hs1
          refine lv_aload_n hx hb dX4_closeAt_99 rfl (lv_at hl 0 rfl) ?_
          refine gf4_0 hx hb hG hown hW (o := 42) (ltN hN 42 rfl) gk42 (v := .ref (q 43)) (sh42_0 hsh) gx127 dX4_closeAt_100 ?_
          refine lv_aload_n hx hb dX4_closeAt_103 rfl (lv_at hl 0 rfl) ?_
          refine gf4_3 hx hb hG hown hW (o := 42) (ltN hN 42 rfl) gk42 (v := .ref (q 49)) (sh42_3 hsh) gx130 dX4_closeAt_104 ?_
          refine lv_iload hx hb dX4_closeAt_107 (lv_at hl 3 rfl) ?_
          refine g_ViR (n := 1) hx hb hml hown hG hW hS [.int v6k22] (kX2_at (ltN hN 49 rfl) gk49 (ltN hN 50 rfl) gk50 (sh49_0 hsh) (by decide) ((hoffa 50 rfl).trans h_A50) v6k22) (ltN hN 49 rfl) gk49 (by decide) rfl rfl (gd_V gx760 gx564 gx565 gx47 gx566) rfl rfl (by decide) ⟨Nat.le_of_ble_eq_true rfl, Nat.le_of_ble_eq_true rfl⟩ rfl hl (Nat.le_of_ble_eq_true rfl) ⟨Nat.zero_le _, Nat.zero_le _⟩ dX4_closeAt_109 (fun H locs hW hS => ?_)
          refine lv_iload_n hx hb dX4_closeAt_112 rfl (lv_at hl 1 rfl) ?_
          refine g_Vv (n := 2) hx hb hml hown hG hW hS [.int (cAt 6000 A50 v6k22), .int v3j13] (kX2_put (ltN hN 43 rfl) gk43 (ltN hN 44 rfl) gk44 (sh43_0 hsh) (by decide) w_A44 (cAt 6000 A50 v6k22) v3j13) (ltN hN 43 rfl) gk43 (by decide) rfl rfl (gd_V gx770 gx551 gx552 gx47 gx553) rfl rfl (by decide) ⟨Nat.le_of_ble_eq_true rfl, Nat.le_of_ble_eq_true rfl⟩ rfl hl (Nat.le_of_ble_eq_true rfl) ⟨Nat.zero_le _, Nat.zero_le _⟩ dX4_closeAt_113 (fun m29 a29 H locs hp29 hW hS => ?_)
          obtain ⟨hm29, hp29_A44, hoa29⟩ := hp29
          rw [hm29] at hW
          have w_A44 : a29 44 = (6000, .inl (cPut 6000 A44k22 (cAt 6000 A50 v6k22) v3j13)) := hp29_A44
          have hoffa := offm hoffa hoa29 (by decide +kernel)
          refine lv_iinc (v := v6k22 + 1) (lv' := [(6, .int (v6k22 + 1)), (0, .ref (q 42)), (3, .int v3j13), (4, .int v4j13)]) hx hb dX4_closeAt_116 hl (k := 3) rfl rfl (by decide) rfl (fun ls hl => ?_)
          refine lv_goto (tgt := 90) hx hb dX4_closeAt_119 (by decide) ?_
          exact ih1 (v6k22 + 1) (cPut 6000 A44k22 (cAt 6000 A50 v6k22) v3j13) m a29 _ _ w_x42_7 hoff hsh w_A44 hoffa ls (lv_sub hl [1, 2, 3, 0] rfl) (hXr1 _ (Option.some.inj hs1).symm) hW hS
    exact hL1 F v4j13 A44j13 m a _ _ w_x42_7 hoff hsh w_A44 hoffa ls (lv_sub hl [1, 2, 3, 0] rfl) hg22 hW hS
  refine lv_aload_n hx hb dX4_closeAt_0 rfl (lv_at hl 0 rfl) ?_
  refine gf4_2 hx hb hG hown hW (o := 42) (ltN hN 42 rfl) gk42 (v := .ref (q 47)) (sh42_2 hsh) gx129 dX4_closeAt_1 ?_
  refine lv_iload_n hx hb dX4_closeAt_4 rfl (lv_at hl 2 rfl) ?_
  refine g_ViR (n := 1) hx hb hml hown hG hW hS [.int p2] (kX2_at (ltN hN 47 rfl) gk47 (ltN hN 48 rfl) gk48 (sh47_0 hsh) (by decide) ((hoffa 48 rfl).trans h_A48) p2) (ltN hN 47 rfl) gk47 (by decide) rfl rfl (gd_V gx760 gx564 gx565 gx47 gx566) rfl rfl (by decide) ⟨Nat.le_of_ble_eq_true rfl, Nat.le_of_ble_eq_true rfl⟩ rfl hl (Nat.le_of_ble_eq_true rfl) ⟨Nat.zero_le _, Nat.zero_le _⟩ dX4_closeAt_5 (fun H locs hW hS => ?_)
  refine lv_aload_n hx hb dX4_closeAt_8 rfl (lv_at hl 0 rfl) ?_
  refine gf4_1 hx hb hG hown hW (o := 42) (ltN hN 42 rfl) gk42 (v := .ref (q 45)) (sh42_1 hsh) gx128 dX4_closeAt_9 ?_
  refine lv_iload_n hx hb dX4_closeAt_12 rfl (lv_at hl 2 rfl) ?_
  refine g_ViR (n := 1) hx hb hml hown hG hW hS [.int p2] (kX2_at (ltN hN 45 rfl) gk45 (ltN hN 46 rfl) gk46 (sh45_0 hsh) (by decide) ((hoffa 46 rfl).trans h_A46) p2) (ltN hN 45 rfl) gk45 (by decide) rfl rfl (gd_V gx760 gx564 gx565 gx47 gx566) rfl rfl (by decide) ⟨Nat.le_of_ble_eq_true rfl, Nat.le_of_ble_eq_true rfl⟩ rfl hl (Nat.le_of_ble_eq_true rfl) ⟨Nat.zero_le _, Nat.zero_le _⟩ dX4_closeAt_13 (fun H locs hW hS => ?_)
  refine lv_icmp_eq (tgt := 20) hx hb dX4_closeAt_16 (by decide) (fun c3 => ?_) (fun c3 => ?_)
  · rw [if_pos c3] at hs0
    refine lv_iconst (v := 0) hx hb dX4_closeAt_20 (by decide) ?_
    refine lv_istore_n (lv' := [(3, .int 0), (0, .ref (q 42)), (1, .ref (q 28)), (2, .int p2)]) hx hb dX4_closeAt_21 rfl hl (by decide) rfl (fun ls hl => ?_)
    refine lv_aload_n hx hb dX4_closeAt_22 rfl (lv_at hl 1 rfl) ?_
    refine gf4_7 hx hb hG hown hW (o := 42) (ltN hN 42 rfl) gk42 (v := .int x42_7) h_x42_7 gx757 dX4_closeAt_23 ?_
    refine lv_istore (lv' := [(4, .int x42_7), (3, .int 0), (0, .ref (q 42)), (1, .ref (q 28)), (2, .int p2)]) hx hb dX4_closeAt_26 hl (by decide) rfl (fun ls hl => ?_)
    refine lv_iconst (v := 0) hx hb dX4_closeAt_28 (by decide) ?_
    refine lv_istore (lv' := [(5, .int 0), (4, .int x42_7), (3, .int 0), (0, .ref (q 42)), (1, .ref (q 28)), (2, .int p2)]) hx hb dX4_closeAt_29 hl (by decide) rfl (fun ls hl => ?_)
    obtain ⟨r4, hg4, hs0⟩ := obind hs0
    have hE1_86 : ∀ (t4_86 : Int32 × Int32) (hr4 : t4_86 = r4) (m : Nat → Value) (a : Nat → vp_A) (H : Heap) (locs : List Loc) (w_x42_7 : m 4207 = .int x42_7) (hoff : ∀ j, nel j [4207] = false → m j = m0 j) (hsh : SH q m) (w_A44 : a 44 = (6000, .inl A44)) (hoffa : ∀ j, nel j [44] = false → a j = a0 j) (ls : Array Slot) (hl : lv_has ls 7 [(0, .ref (q 42)), (3, .int t4_86.1), (4, .int t4_86.2)]) (hW : GW D cy (gA N q s.heap.size) N q m a s H) (hS : va_S (gA N q s.heap.size) s.heap H locs), W p l e ({ frames := 3, cells := 0, slots := 0, locals := 69 } : Room) s M args below meth c H locs 0 0 (MQ below (va_Qv (fun (u : (Nat → Value) × (Nat → vp_A)) => u.1 4207 = .int X0.1 ∧ (∀ j, nel j [4207] = false → u.1 j = m0 j) ∧ u.2 44 = (6000, .inl X0.2) ∧ (∀ j, nel j [44] = false → u.2 j = a0 j)) (gB D cy N q s.heap.size) (gA N q s.heap.size)) args s 0 0 (gA N q s.heap.size)) (F0 M 86 ls []) := by
      intro t4_86 hr4 m a H locs w_x42_7 hoff hsh w_A44 hoffa ls hl hW hS
      subst hr4
      exact hJ86_0 t4_86.1 t4_86.2 x42_7 A44 m a _ _ w_x42_7 hoff hsh w_A44 hoffa ls (lv_sub hl [0, 1, 2] rfl) hs0 hW hS
    have hL1 : ∀ (n : Nat) (v3k4 : Int32) (v4k4 : Int32) (v5k4 : Int32) (m : Nat → Value) (a : Nat → vp_A) (H : Heap) (locs : List Loc) (w_x42_7 : m 4207 = .int x42_7) (hoff : ∀ j, nel j [4207] = false → m j = m0 j) (hsh : SH q m) (w_A44 : a 44 = (6000, .inl A44)) (hoffa : ∀ j, nel j [44] = false → a j = a0 j) (ls : Array Slot) (hl : lv_has ls 7 [(0, .ref (q 42)), (1, .ref (q 28)), (2, .int p2), (3, .int v3k4), (4, .int v4k4), (5, .int v5k4)]) (hg4 : gloop (fun u4 : (Int32 × Int32 × Int32) => fX4_closeAt_S31 F A30 A35 A46 A48 A50 p2 x42_7 A44 u4.1 u4.2.1 u4.2.2) n (v3k4, v4k4, v5k4) = some r4) (hW : GW D cy (gA N q s.heap.size) N q m a s H) (hS : va_S (gA N q s.heap.size) s.heap H locs), W p l e ({ frames := 3, cells := 0, slots := 0, locals := 69 } : Room) s M args below meth c H locs 0 0 (MQ below (va_Qv (fun (u : (Nat → Value) × (Nat → vp_A)) => u.1 4207 = .int X0.1 ∧ (∀ j, nel j [4207] = false → u.1 j = m0 j) ∧ u.2 44 = (6000, .inl X0.2) ∧ (∀ j, nel j [44] = false → u.2 j = a0 j)) (gB D cy N q s.heap.size) (gA N q s.heap.size)) args s 0 0 (gA N q s.heap.size)) (F0 M 31 ls []) := by
      intro n
      induction n with
      | zero => intro v3k4 v4k4 v5k4 m a H locs w_x42_7 hoff hsh w_A44 hoffa ls hl hg4 hW hS; exact (gl_zero hg4).elim
      | succ n ih1 =>
        intro v3k4 v4k4 v5k4 m a H locs w_x42_7 hoff hsh w_A44 hoffa ls hl hg4 hW hS
        obtain ⟨X1, hs1, hXl1, hXr1⟩ := gl_succ hg4
        have hs1 : fX4_closeAt_S31 F A30 A35 A46 A48 A50 p2 x42_7 A44 v3k4 v4k4 v5k4 = some X1 := hs1
        unfold fX4_closeAt_S31 at hs1
        have hJ81_1 : ∀ (v3j21 : Int32) (v4j21 : Int32) (s0j21 : Int32) (m : Nat → Value) (a : Nat → vp_A) (H : Heap) (locs : List Loc) (w_x42_7 : m 4207 = .int x42_7) (hoff : ∀ j, nel j [4207] = false → m j = m0 j) (hsh : SH q m) (w_A44 : a 44 = (6000, .inl A44)) (hoffa : ∀ j, nel j [44] = false → a j = a0 j) (ls : Array Slot) (hl : lv_has ls 7 [(0, .ref (q 42)), (1, .ref (q 28)), (2, .int p2), (3, .int v3j21), (4, .int v4j21)]) (hs1 : fX4_closeAt_J81 F A30 A35 A46 A48 A50 p2 v3j21 v4j21 s0j21 x42_7 A44 = some X1) (hW : GW D cy (gA N q s.heap.size) N q m a s H) (hS : va_S (gA N q s.heap.size) s.heap H locs), W p l e ({ frames := 3, cells := 0, slots := 0, locals := 69 } : Room) s M args below meth c H locs 0 0 (MQ below (va_Qv (fun (u : (Nat → Value) × (Nat → vp_A)) => u.1 4207 = .int X0.1 ∧ (∀ j, nel j [4207] = false → u.1 j = m0 j) ∧ u.2 44 = (6000, .inl X0.2) ∧ (∀ j, nel j [44] = false → u.2 j = a0 j)) (gB D cy N q s.heap.size) (gA N q s.heap.size)) args s 0 0 (gA N q s.heap.size)) (F0 M 81 ls [.int s0j21]) := by
          intro v3j21 v4j21 s0j21 m a H locs w_x42_7 hoff hsh w_A44 hoffa ls hl hs1 hW hS
          unfold fX4_closeAt_J81 at hs1
          refine lv_istore (lv' := [(5, .int s0j21), (0, .ref (q 42)), (1, .ref (q 28)), (2, .int p2), (3, .int v3j21), (4, .int v4j21)]) hx hb dX4_closeAt_81 hl (by decide) rfl (fun ls hl => ?_)
          refine lv_goto (tgt := 31) hx hb dX4_closeAt_83 (by decide) ?_
          exact ih1 v3j21 v4j21 s0j21 m a _ _ w_x42_7 hoff hsh w_A44 hoffa ls (lv_sub hl [1, 2, 3, 4, 5, 0] rfl) (hXr1 _ (Option.some.inj hs1).symm) hW hS
        refine lv_iload hx hb dX4_closeAt_31 (lv_at hl 4 rfl) ?_
        refine lv_if_le (tgt := 86) hx hb dX4_closeAt_33 (by decide) (fun c14 => ?_) (fun c14 => ?_)
        · rw [if_pos c14] at hs1
          exact hE1_86 (v3k4, v4k4) (hXl1 _ (Option.some.inj hs1).symm) m a _ _ w_x42_7 hoff hsh w_A44 hoffa ls (lv_sub hl [0, 3, 4] rfl) hW hS
        · rw [if_neg c14] at hs1
          refine lv_iload hx hb dX4_closeAt_36 (lv_at hl 5 rfl) ?_
          refine lv_if_ne (tgt := 86) hx hb dX4_closeAt_38 (by decide) (fun c15 => ?_) (fun c15 => ?_)
          · rw [if_neg c15] at hs1
            exact hE1_86 (v3k4, v4k4) (hXl1 _ (Option.some.inj hs1).symm) m a _ _ w_x42_7 hoff hsh w_A44 hoffa ls (lv_sub hl [0, 3, 4] rfl) hW hS
          · rw [if_pos c15] at hs1
            refine lv_iinc (v := v4k4 + (-1)) (lv' := [(4, .int (v4k4 + (-1))), (0, .ref (q 42)), (1, .ref (q 28)), (2, .int p2), (3, .int v3k4), (5, .int v5k4)]) hx hb dX4_closeAt_41 hl (k := 4) rfl (congrArg (fun z => v4k4 + z) (by decide : Int32.ofInt (-1) = (-1))) (by decide) rfl (fun ls hl => ?_)
            refine lv_iload_n hx hb dX4_closeAt_44 rfl (lv_at hl 4 rfl) ?_
            refine lv_aload_n hx hb dX4_closeAt_45 rfl (lv_at hl 1 rfl) ?_
            refine lv_aload_n hx hb dX4_closeAt_46 rfl (lv_at hl 2 rfl) ?_
            refine lv_aload_n hx hb dX4_closeAt_47 rfl (lv_at hl 1 rfl) ?_
            refine gf4_3 hx hb hG hown hW (o := 42) (ltN hN 42 rfl) gk42 (v := .ref (q 49)) (sh42_3 hsh) gx130 dX4_closeAt_48 ?_
            refine lv_iload hx hb dX4_closeAt_51 (lv_at hl 0 rfl) ?_
            refine g_ViR (n := 1) hx hb hml hown hG hW hS [.int (v4k4 + (-1))] (kX2_at (ltN hN 49 rfl) gk49 (ltN hN 50 rfl) gk50 (sh49_0 hsh) (by decide) ((hoffa 50 rfl).trans h_A50) (v4k4 + (-1))) (ltN hN 49 rfl) gk49 (by decide) rfl rfl (gd_V gx760 gx564 gx565 gx47 gx566) rfl rfl (by decide) ⟨Nat.le_of_ble_eq_true rfl, Nat.le_of_ble_eq_true rfl⟩ rfl hl (Nat.le_of_ble_eq_true rfl) ⟨Nat.zero_le _, Nat.zero_le _⟩ dX4_closeAt_53 (fun H locs hW hS => ?_)
            obtain ⟨r17, hf17, hs1⟩ := obind hs1
            refine g_ViR (n := 2) hx hb hml hown hG hW hS [.ref (q 28), .int (cAt 6000 A50 (v4k4 + (-1)))] (kX4_greatestOf hN hsh ((hoffa 30 rfl).trans h_A30) ((hoffa 35 rfl).trans h_A35) w_A44 F (cAt 6000 A50 (v4k4 + (-1))) hf17) (ltN hN 42 rfl) gk42 (by decide) rfl rfl (gd_V gx784 gx785 gx786 gx94 gx787) rfl rfl (by decide) ⟨Nat.le_of_ble_eq_true rfl, Nat.le_of_ble_eq_true rfl⟩ rfl hl (Nat.le_of_ble_eq_true rfl) ⟨Nat.zero_le _, Nat.zero_le _⟩ dX4_closeAt_56 (fun H locs hW hS => ?_)
            refine g_SiR (n := 2) hx hb hml hown hG hW hS [.int v3k4, .int r17] (kX4_greater hN v3k4 r17) rfl (gd_S gx792 gx793 gx94 gx794) rfl rfl (by decide) ⟨Nat.le_of_ble_eq_true rfl, Nat.le_of_ble_eq_true rfl⟩ rfl hl (Nat.le_of_ble_eq_true rfl) ⟨Nat.zero_le _, Nat.zero_le _⟩ dX4_closeAt_59 (fun H locs hW hS => ?_)
            refine lv_istore_n (lv' := [(3, .int (fX4_greater v3k4 r17)), (4, .int (v4k4 + (-1))), (0, .ref (q 42)), (1, .ref (q 28)), (2, .int p2), (5, .int v5k4)]) hx hb dX4_closeAt_62 rfl hl (by decide) rfl (fun ls hl => ?_)
            refine lv_aload_n hx hb dX4_closeAt_63 rfl (lv_at hl 2 rfl) ?_
            refine gf4_3 hx hb hG hown hW (o := 42) (ltN hN 42 rfl) gk42 (v := .ref (q 49)) (sh42_3 hsh) gx130 dX4_closeAt_64 ?_
            refine lv_iload hx hb dX4_closeAt_67 (lv_at hl 1 rfl) ?_
            refine g_ViR (n := 1) hx hb hml hown hG hW hS [.int (v4k4 + (-1))] (kX2_at (ltN hN 49 rfl) gk49 (ltN hN 50 rfl) gk50 (sh49_0 hsh) (by decide) ((hoffa 50 rfl).trans h_A50) (v4k4 + (-1))) (ltN hN 49 rfl) gk49 (by decide) rfl rfl (gd_V gx760 gx564 gx565 gx47 gx566) rfl rfl (by decide) ⟨Nat.le_of_ble_eq_true rfl, Nat.le_of_ble_eq_true rfl⟩ rfl hl (Nat.le_of_ble_eq_true rfl) ⟨Nat.zero_le _, Nat.zero_le _⟩ dX4_closeAt_69 (fun H locs hW hS => ?_)
            refine lv_iload_n hx hb dX4_closeAt_72 rfl (lv_at hl 4 rfl) ?_
            refine lv_icmp_ne (tgt := 80) hx hb dX4_closeAt_73 (by decide) (fun c20 => ?_) (fun c20 => ?_)
            · rw [if_neg c20] at hs1
              refine lv_iconst (v := 0) hx hb dX4_closeAt_80 (by decide) ?_
              exact hJ81_1 (fX4_greater v3k4 r17) (v4k4 + (-1)) 0 m a _ _ w_x42_7 hoff hsh w_A44 hoffa ls (lv_sub hl [2, 3, 4, 0, 1] rfl) hs1 hW hS
            · rw [if_pos c20] at hs1
              refine lv_iconst (v := 1) hx hb dX4_closeAt_76 (by decide) ?_
              refine lv_goto (tgt := 81) hx hb dX4_closeAt_77 (by decide) ?_
              exact hJ81_1 (fX4_greater v3k4 r17) (v4k4 + (-1)) 1 m a _ _ w_x42_7 hoff hsh w_A44 hoffa ls (lv_sub hl [2, 3, 4, 0, 1] rfl) hs1 hW hS
    exact hL1 F 0 x42_7 0 m0 a0 _ _ h_x42_7 hoff hsh h_A44 hoffa ls (lv_sub hl [3, 4, 5, 2, 1, 0] rfl) hg4 hW hS
  · rw [if_neg c3] at hs0
    have hs0 := Option.some.inj hs0
    subst hs0
    exact W.vret hx hb hr (fun t ht hw => ⟨⟨(m0, a0), rfl, ⟨h_x42_7, hoff, h_A44, hoffa⟩, g_end hW ht hw⟩, hS.F ht⟩) hS.2.2 dX4_closeAt_19 hlocks
-- HealLink$Depths.enter (LHealLink$Atlas;II)V
def fX4_enter (A30 : Nat → Int32) (x42_6 : Int32) (x42_7 : Int32) (A46 : Nat → Int32) (A48 : Nat → Int32) (A50 : Nat → Int32) (A52 : Nat → Int32) (A54 : Nat → Int32) (p2 : Int32) (p3 : Int32) : Int32 × Int32 × (Nat → Int32) × (Nat → Int32) × (Nat → Int32) × (Nat → Int32) × (Nat → Int32) := (x42_6 + 1, x42_7 + 1, (cPut 6000 A46 p2 (x42_6 + 1)), (cPut 6000 A48 p2 (x42_6 + 1)), (cPut 6000 A50 x42_7 p2), (cPut 6000 A52 p3 p2), (cPut 6000 A54 p3 (cAt 6001 A30 p2)))
theorem dX4_enter_0 : decode cX4_enter 0 = .ok (.aload_n 0, 1) := by decide +kernel
theorem dX4_enter_1 : decode cX4_enter 1 = .ok (.dup, 1) := by decide +kernel
theorem dX4_enter_2 : decode cX4_enter 2 = .ok (.getfield 38, 3) := by decide +kernel
theorem dX4_enter_5 : decode cX4_enter 5 = .ok (.iconst 1, 1) := by decide +kernel
theorem dX4_enter_6 : decode cX4_enter 6 = .ok (.iadd, 1) := by decide +kernel
theorem dX4_enter_7 : decode cX4_enter 7 = .ok (.putfield 38, 3) := by decide +kernel
theorem dX4_enter_10 : decode cX4_enter 10 = .ok (.aload_n 0, 1) := by decide +kernel
theorem dX4_enter_11 : decode cX4_enter 11 = .ok (.getfield 20, 3) := by decide +kernel
theorem dX4_enter_14 : decode cX4_enter 14 = .ok (.iload_n 2, 1) := by decide +kernel
theorem dX4_enter_15 : decode cX4_enter 15 = .ok (.aload_n 0, 1) := by decide +kernel
theorem dX4_enter_16 : decode cX4_enter 16 = .ok (.getfield 38, 3) := by decide +kernel
theorem dX4_enter_19 : decode cX4_enter 19 = .ok (.invokevirtual 65, 3) := by decide +kernel
theorem dX4_enter_22 : decode cX4_enter 22 = .ok (.aload_n 0, 1) := by decide +kernel
theorem dX4_enter_23 : decode cX4_enter 23 = .ok (.getfield 23, 3) := by decide +kernel
theorem dX4_enter_26 : decode cX4_enter 26 = .ok (.iload_n 2, 1) := by decide +kernel
theorem dX4_enter_27 : decode cX4_enter 27 = .ok (.aload_n 0, 1) := by decide +kernel
theorem dX4_enter_28 : decode cX4_enter 28 = .ok (.getfield 38, 3) := by decide +kernel
theorem dX4_enter_31 : decode cX4_enter 31 = .ok (.invokevirtual 65, 3) := by decide +kernel
theorem dX4_enter_34 : decode cX4_enter 34 = .ok (.aload_n 0, 1) := by decide +kernel
theorem dX4_enter_35 : decode cX4_enter 35 = .ok (.getfield 26, 3) := by decide +kernel
theorem dX4_enter_38 : decode cX4_enter 38 = .ok (.aload_n 0, 1) := by decide +kernel
theorem dX4_enter_39 : decode cX4_enter 39 = .ok (.getfield 42, 3) := by decide +kernel
theorem dX4_enter_42 : decode cX4_enter 42 = .ok (.iload_n 2, 1) := by decide +kernel
theorem dX4_enter_43 : decode cX4_enter 43 = .ok (.invokevirtual 65, 3) := by decide +kernel
theorem dX4_enter_46 : decode cX4_enter 46 = .ok (.aload_n 0, 1) := by decide +kernel
theorem dX4_enter_47 : decode cX4_enter 47 = .ok (.dup, 1) := by decide +kernel
theorem dX4_enter_48 : decode cX4_enter 48 = .ok (.getfield 42, 3) := by decide +kernel
theorem dX4_enter_51 : decode cX4_enter 51 = .ok (.iconst 1, 1) := by decide +kernel
theorem dX4_enter_52 : decode cX4_enter 52 = .ok (.iadd, 1) := by decide +kernel
theorem dX4_enter_53 : decode cX4_enter 53 = .ok (.putfield 42, 3) := by decide +kernel
theorem dX4_enter_56 : decode cX4_enter 56 = .ok (.aload_n 0, 1) := by decide +kernel
theorem dX4_enter_57 : decode cX4_enter 57 = .ok (.getfield 29, 3) := by decide +kernel
theorem dX4_enter_60 : decode cX4_enter 60 = .ok (.iload_n 3, 1) := by decide +kernel
theorem dX4_enter_61 : decode cX4_enter 61 = .ok (.iload_n 2, 1) := by decide +kernel
theorem dX4_enter_62 : decode cX4_enter 62 = .ok (.invokevirtual 65, 3) := by decide +kernel
theorem dX4_enter_65 : decode cX4_enter 65 = .ok (.aload_n 0, 1) := by decide +kernel
theorem dX4_enter_66 : decode cX4_enter 66 = .ok (.getfield 32, 3) := by decide +kernel
theorem dX4_enter_69 : decode cX4_enter 69 = .ok (.iload_n 3, 1) := by decide +kernel
theorem dX4_enter_70 : decode cX4_enter 70 = .ok (.aload_n 1, 1) := by decide +kernel
theorem dX4_enter_71 : decode cX4_enter 71 = .ok (.getfield 62, 3) := by decide +kernel
theorem dX4_enter_74 : decode cX4_enter 74 = .ok (.iload_n 2, 1) := by decide +kernel
theorem dX4_enter_75 : decode cX4_enter 75 = .ok (.invokevirtual 50, 3) := by decide +kernel
theorem dX4_enter_78 : decode cX4_enter 78 = .ok (.invokevirtual 65, 3) := by decide +kernel
theorem dX4_enter_81 : decode cX4_enter 81 = .ok (.return_, 1) := by decide +kernel
set_option maxHeartbeats 4000000 in
set_option maxRecDepth 100000 in
theorem kX4_enter {l : Launch} {D : va_G} {cy : Nat → ClassId} {N : Nat} {q : Nat → Nat} {m0 : Nat → Value} {a0 : Nat → vp_A} {sz : Nat} (hN : 105 ≤ N) (hsh : SH q m0) {A30 : Nat → Int32} (h_A30 : a0 30 = (6001, .inl A30)) {x42_6 : Int32} (h_x42_6 : m0 4206 = .int x42_6) {x42_7 : Int32} (h_x42_7 : m0 4207 = .int x42_7) {A46 : Nat → Int32} (h_A46 : a0 46 = (6000, .inl A46)) {A48 : Nat → Int32} (h_A48 : a0 48 = (6000, .inl A48)) {A50 : Nat → Int32} (h_A50 : a0 50 = (6000, .inl A50)) {A52 : Nat → Int32} (h_A52 : a0 52 = (6000, .inl A52)) {A54 : Nat → Int32} (h_A54 : a0 54 = (6000, .inl A54)) (p2 : Int32) (p3 : Int32) : gMv l yX4_enter cX4_enter 4 none ({ frames := 1, cells := 0, slots := 0, locals := 22 } : Room) D cy N q m0 a0 sz [.ref (q 42), .ref (q 28), .int p2, .int p3] (fun m' a' => m' 4206 = .int ((fX4_enter A30 x42_6 x42_7 A46 A48 A50 A52 A54 p2 p3).1) ∧ m' 4207 = .int ((fX4_enter A30 x42_6 x42_7 A46 A48 A50 A52 A54 p2 p3).2.1) ∧ (∀ j, nel j [4206, 4207] = false → m' j = m0 j) ∧ a' 46 = (6000, .inl ((fX4_enter A30 x42_6 x42_7 A46 A48 A50 A52 A54 p2 p3).2.2.1)) ∧ a' 48 = (6000, .inl ((fX4_enter A30 x42_6 x42_7 A46 A48 A50 A52 A54 p2 p3).2.2.2.1)) ∧ a' 50 = (6000, .inl ((fX4_enter A30 x42_6 x42_7 A46 A48 A50 A52 A54 p2 p3).2.2.2.2.1)) ∧ a' 52 = (6000, .inl ((fX4_enter A30 x42_6 x42_7 A46 A48 A50 A52 A54 p2 p3).2.2.2.2.2.1)) ∧ a' 54 = (6000, .inl ((fX4_enter A30 x42_6 x42_7 A46 A48 A50 A52 A54 p2 p3).2.2.2.2.2.2)) ∧ (∀ j, nel j [46, 48, 50, 52, 54] = false → a' j = a0 j)) := by
  generalize hs0 : fX4_enter A30 x42_6 x42_7 A46 A48 A50 A52 A54 p2 p3 = X0
  refine g_ofv (by decide) (Nat.le_of_ble_eq_true rfl) ?_
  intro p e s M args below meth c hx hb hr hG hown hin hlocks hml hW hS ls hl
  unfold fX4_enter at hs0
  have hoff : ∀ j, nel j [4206, 4207] = false → m0 j = m0 j := off0
  have hoffa : ∀ j, nel j [46, 48, 50, 52, 54] = false → a0 j = a0 j := off0
  refine lv_aload_n hx hb dX4_enter_0 rfl (lv_at hl 0 rfl) ?_
  refine lv_dup hx hb dX4_enter_1 rfl ?_
  refine gf4_6 hx hb hG hown hW (o := 42) (ltN hN 42 rfl) gk42 (v := .int x42_6) h_x42_6 gx756 dX4_enter_2 ?_
  refine lv_iconst (v := 1) hx hb dX4_enter_5 (by decide) ?_
  refine lv_iadd hx hb dX4_enter_6 ?_
  refine gp4_6 hx hb hG hown hW hS (o := 42) (ltN hN 42 rfl) gk42 (v := (x42_6 + 1)) gx756 dX4_enter_7 (fun m1 H locs hm1 ho1 hW hS => ?_)
  have ho1 := off1 ho1
  have w_x42_6 : m1 4206 = .int (x42_6 + 1) := hm1
  have w_x42_7 : m1 4207 = .int x42_7 := (ho1 4207 rfl).trans h_x42_7
  have hoff := offm hoff ho1 (by decide +kernel)
  have hsh := SH.off hsh ho1 (by decide +kernel)
  refine lv_aload_n hx hb dX4_enter_10 rfl (lv_at hl 0 rfl) ?_
  refine gf4_1 hx hb hG hown hW (o := 42) (ltN hN 42 rfl) gk42 (v := .ref (q 45)) (sh42_1 hsh) gx128 dX4_enter_11 ?_
  refine lv_iload_n hx hb dX4_enter_14 rfl (lv_at hl 2 rfl) ?_
  refine lv_aload_n hx hb dX4_enter_15 rfl (lv_at hl 0 rfl) ?_
  refine gf4_6 hx hb hG hown hW (o := 42) (ltN hN 42 rfl) gk42 (v := .int (x42_6 + 1)) w_x42_6 gx756 dX4_enter_16 ?_
  refine g_Vv (n := 2) hx hb hml hown hG hW hS [.int p2, .int (x42_6 + 1)] (kX2_put (ltN hN 45 rfl) gk45 (ltN hN 46 rfl) gk46 (sh45_0 hsh) (by decide) h_A46 p2 (x42_6 + 1)) (ltN hN 45 rfl) gk45 (by decide) rfl rfl (gd_V gx770 gx551 gx552 gx47 gx553) rfl rfl (by decide) ⟨Nat.le_of_ble_eq_true rfl, Nat.le_of_ble_eq_true rfl⟩ rfl hl (Nat.le_of_ble_eq_true rfl) ⟨Nat.zero_le _, Nat.zero_le _⟩ dX4_enter_19 (fun m2 a2 H locs hp2 hW hS => ?_)
  obtain ⟨hm2, hp2_A46, hoa2⟩ := hp2
  rw [hm2] at hW
  have w_A46 : a2 46 = (6000, .inl (cPut 6000 A46 p2 (x42_6 + 1))) := hp2_A46
  have w_A48 : a2 48 = (6000, .inl A48) := (hoa2 48 rfl).trans h_A48
  have w_A50 : a2 50 = (6000, .inl A50) := (hoa2 50 rfl).trans h_A50
  have w_A52 : a2 52 = (6000, .inl A52) := (hoa2 52 rfl).trans h_A52
  have w_A54 : a2 54 = (6000, .inl A54) := (hoa2 54 rfl).trans h_A54
  have hoffa := offm hoffa hoa2 (by decide +kernel)
  refine lv_aload_n hx hb dX4_enter_22 rfl (lv_at hl 0 rfl) ?_
  refine gf4_2 hx hb hG hown hW (o := 42) (ltN hN 42 rfl) gk42 (v := .ref (q 47)) (sh42_2 hsh) gx129 dX4_enter_23 ?_
  refine lv_iload_n hx hb dX4_enter_26 rfl (lv_at hl 2 rfl) ?_
  refine lv_aload_n hx hb dX4_enter_27 rfl (lv_at hl 0 rfl) ?_
  refine gf4_6 hx hb hG hown hW (o := 42) (ltN hN 42 rfl) gk42 (v := .int (x42_6 + 1)) w_x42_6 gx756 dX4_enter_28 ?_
  refine g_Vv (n := 2) hx hb hml hown hG hW hS [.int p2, .int (x42_6 + 1)] (kX2_put (ltN hN 47 rfl) gk47 (ltN hN 48 rfl) gk48 (sh47_0 hsh) (by decide) w_A48 p2 (x42_6 + 1)) (ltN hN 47 rfl) gk47 (by decide) rfl rfl (gd_V gx770 gx551 gx552 gx47 gx553) rfl rfl (by decide) ⟨Nat.le_of_ble_eq_true rfl, Nat.le_of_ble_eq_true rfl⟩ rfl hl (Nat.le_of_ble_eq_true rfl) ⟨Nat.zero_le _, Nat.zero_le _⟩ dX4_enter_31 (fun m3 a3 H locs hp3 hW hS => ?_)
  obtain ⟨hm3, hp3_A48, hoa3⟩ := hp3
  rw [hm3] at hW
  have w_A46 : a3 46 = (6000, .inl (cPut 6000 A46 p2 (x42_6 + 1))) := (hoa3 46 rfl).trans w_A46
  have w_A48 : a3 48 = (6000, .inl (cPut 6000 A48 p2 (x42_6 + 1))) := hp3_A48
  have w_A50 : a3 50 = (6000, .inl A50) := (hoa3 50 rfl).trans w_A50
  have w_A52 : a3 52 = (6000, .inl A52) := (hoa3 52 rfl).trans w_A52
  have w_A54 : a3 54 = (6000, .inl A54) := (hoa3 54 rfl).trans w_A54
  have hoffa := offm hoffa hoa3 (by decide +kernel)
  refine lv_aload_n hx hb dX4_enter_34 rfl (lv_at hl 0 rfl) ?_
  refine gf4_3 hx hb hG hown hW (o := 42) (ltN hN 42 rfl) gk42 (v := .ref (q 49)) (sh42_3 hsh) gx130 dX4_enter_35 ?_
  refine lv_aload_n hx hb dX4_enter_38 rfl (lv_at hl 0 rfl) ?_
  refine gf4_7 hx hb hG hown hW (o := 42) (ltN hN 42 rfl) gk42 (v := .int x42_7) w_x42_7 gx757 dX4_enter_39 ?_
  refine lv_iload_n hx hb dX4_enter_42 rfl (lv_at hl 2 rfl) ?_
  refine g_Vv (n := 2) hx hb hml hown hG hW hS [.int x42_7, .int p2] (kX2_put (ltN hN 49 rfl) gk49 (ltN hN 50 rfl) gk50 (sh49_0 hsh) (by decide) w_A50 x42_7 p2) (ltN hN 49 rfl) gk49 (by decide) rfl rfl (gd_V gx770 gx551 gx552 gx47 gx553) rfl rfl (by decide) ⟨Nat.le_of_ble_eq_true rfl, Nat.le_of_ble_eq_true rfl⟩ rfl hl (Nat.le_of_ble_eq_true rfl) ⟨Nat.zero_le _, Nat.zero_le _⟩ dX4_enter_43 (fun m4 a4 H locs hp4 hW hS => ?_)
  obtain ⟨hm4, hp4_A50, hoa4⟩ := hp4
  rw [hm4] at hW
  have w_A46 : a4 46 = (6000, .inl (cPut 6000 A46 p2 (x42_6 + 1))) := (hoa4 46 rfl).trans w_A46
  have w_A48 : a4 48 = (6000, .inl (cPut 6000 A48 p2 (x42_6 + 1))) := (hoa4 48 rfl).trans w_A48
  have w_A50 : a4 50 = (6000, .inl (cPut 6000 A50 x42_7 p2)) := hp4_A50
  have w_A52 : a4 52 = (6000, .inl A52) := (hoa4 52 rfl).trans w_A52
  have w_A54 : a4 54 = (6000, .inl A54) := (hoa4 54 rfl).trans w_A54
  have hoffa := offm hoffa hoa4 (by decide +kernel)
  refine lv_aload_n hx hb dX4_enter_46 rfl (lv_at hl 0 rfl) ?_
  refine lv_dup hx hb dX4_enter_47 rfl ?_
  refine gf4_7 hx hb hG hown hW (o := 42) (ltN hN 42 rfl) gk42 (v := .int x42_7) w_x42_7 gx757 dX4_enter_48 ?_
  refine lv_iconst (v := 1) hx hb dX4_enter_51 (by decide) ?_
  refine lv_iadd hx hb dX4_enter_52 ?_
  refine gp4_7 hx hb hG hown hW hS (o := 42) (ltN hN 42 rfl) gk42 (v := (x42_7 + 1)) gx757 dX4_enter_53 (fun m5 H locs hm5 ho5 hW hS => ?_)
  have ho5 := off1 ho5
  have w_x42_6 : m5 4206 = .int (x42_6 + 1) := (ho5 4206 rfl).trans w_x42_6
  have w_x42_7 : m5 4207 = .int (x42_7 + 1) := hm5
  have hoff := offm hoff ho5 (by decide +kernel)
  have hsh := SH.off hsh ho5 (by decide +kernel)
  refine lv_aload_n hx hb dX4_enter_56 rfl (lv_at hl 0 rfl) ?_
  refine gf4_4 hx hb hG hown hW (o := 42) (ltN hN 42 rfl) gk42 (v := .ref (q 51)) (sh42_4 hsh) gx131 dX4_enter_57 ?_
  refine lv_iload_n hx hb dX4_enter_60 rfl (lv_at hl 3 rfl) ?_
  refine lv_iload_n hx hb dX4_enter_61 rfl (lv_at hl 2 rfl) ?_
  refine g_Vv (n := 2) hx hb hml hown hG hW hS [.int p3, .int p2] (kX2_put (ltN hN 51 rfl) gk51 (ltN hN 52 rfl) gk52 (sh51_0 hsh) (by decide) w_A52 p3 p2) (ltN hN 51 rfl) gk51 (by decide) rfl rfl (gd_V gx770 gx551 gx552 gx47 gx553) rfl rfl (by decide) ⟨Nat.le_of_ble_eq_true rfl, Nat.le_of_ble_eq_true rfl⟩ rfl hl (Nat.le_of_ble_eq_true rfl) ⟨Nat.zero_le _, Nat.zero_le _⟩ dX4_enter_62 (fun m6 a6 H locs hp6 hW hS => ?_)
  obtain ⟨hm6, hp6_A52, hoa6⟩ := hp6
  rw [hm6] at hW
  have w_A46 : a6 46 = (6000, .inl (cPut 6000 A46 p2 (x42_6 + 1))) := (hoa6 46 rfl).trans w_A46
  have w_A48 : a6 48 = (6000, .inl (cPut 6000 A48 p2 (x42_6 + 1))) := (hoa6 48 rfl).trans w_A48
  have w_A50 : a6 50 = (6000, .inl (cPut 6000 A50 x42_7 p2)) := (hoa6 50 rfl).trans w_A50
  have w_A52 : a6 52 = (6000, .inl (cPut 6000 A52 p3 p2)) := hp6_A52
  have w_A54 : a6 54 = (6000, .inl A54) := (hoa6 54 rfl).trans w_A54
  have hoffa := offm hoffa hoa6 (by decide +kernel)
  refine lv_aload_n hx hb dX4_enter_65 rfl (lv_at hl 0 rfl) ?_
  refine gf4_5 hx hb hG hown hW (o := 42) (ltN hN 42 rfl) gk42 (v := .ref (q 53)) (sh42_5 hsh) gx132 dX4_enter_66 ?_
  refine lv_iload_n hx hb dX4_enter_69 rfl (lv_at hl 3 rfl) ?_
  refine lv_aload_n hx hb dX4_enter_70 rfl (lv_at hl 1 rfl) ?_
  refine gf1_0 hx hb hG hown hW (o := 28) (ltN hN 28 rfl) gk28 (v := .ref (q 29)) (sh28_0 hsh) gx765 dX4_enter_71 ?_
  refine lv_iload_n hx hb dX4_enter_74 rfl (lv_at hl 2 rfl) ?_
  refine g_ViR (n := 1) hx hb hml hown hG hW hS [.int p2] (kX2_at (ltN hN 29 rfl) gk29 (ltN hN 30 rfl) gk30 (sh29_0 hsh) (by decide) ((hoffa 30 rfl).trans h_A30) p2) (ltN hN 29 rfl) gk29 (by decide) rfl rfl (gd_V gx760 gx564 gx565 gx47 gx566) rfl rfl (by decide) ⟨Nat.le_of_ble_eq_true rfl, Nat.le_of_ble_eq_true rfl⟩ rfl hl (Nat.le_of_ble_eq_true rfl) ⟨Nat.zero_le _, Nat.zero_le _⟩ dX4_enter_75 (fun H locs hW hS => ?_)
  refine g_Vv (n := 2) hx hb hml hown hG hW hS [.int p3, .int (cAt 6001 A30 p2)] (kX2_put (ltN hN 53 rfl) gk53 (ltN hN 54 rfl) gk54 (sh53_0 hsh) (by decide) w_A54 p3 (cAt 6001 A30 p2)) (ltN hN 53 rfl) gk53 (by decide) rfl rfl (gd_V gx770 gx551 gx552 gx47 gx553) rfl rfl (by decide) ⟨Nat.le_of_ble_eq_true rfl, Nat.le_of_ble_eq_true rfl⟩ rfl hl (Nat.le_of_ble_eq_true rfl) ⟨Nat.zero_le _, Nat.zero_le _⟩ dX4_enter_78 (fun m8 a8 H locs hp8 hW hS => ?_)
  obtain ⟨hm8, hp8_A54, hoa8⟩ := hp8
  rw [hm8] at hW
  have w_A46 : a8 46 = (6000, .inl (cPut 6000 A46 p2 (x42_6 + 1))) := (hoa8 46 rfl).trans w_A46
  have w_A48 : a8 48 = (6000, .inl (cPut 6000 A48 p2 (x42_6 + 1))) := (hoa8 48 rfl).trans w_A48
  have w_A50 : a8 50 = (6000, .inl (cPut 6000 A50 x42_7 p2)) := (hoa8 50 rfl).trans w_A50
  have w_A52 : a8 52 = (6000, .inl (cPut 6000 A52 p3 p2)) := (hoa8 52 rfl).trans w_A52
  have w_A54 : a8 54 = (6000, .inl (cPut 6000 A54 p3 (cAt 6001 A30 p2))) := hp8_A54
  have hoffa := offm hoffa hoa8 (by decide +kernel)
  subst hs0
  exact W.vret hx hb hr (fun t ht hw => ⟨⟨(m5, a8), rfl, ⟨w_x42_6, w_x42_7, hoff, w_A46, w_A48, w_A50, w_A52, w_A54, hoffa⟩, g_end hW ht hw⟩, hS.F ht⟩) hS.2.2 dX4_enter_81 hlocks
-- HealLink$Depths.lower (II)V
def fX4_lower (A48 : Nat → Int32) (p1 : Int32) (p2 : Int32) : (Nat → Int32) := (cPut 6000 A48 p1 (if p2 < (cAt 6000 A48 p1) then p2 else (cAt 6000 A48 p1)))
theorem dX4_lower_0 : decode cX4_lower 0 = .ok (.aload_n 0, 1) := by decide +kernel
theorem dX4_lower_1 : decode cX4_lower 1 = .ok (.getfield 23, 3) := by decide +kernel
theorem dX4_lower_4 : decode cX4_lower 4 = .ok (.iload_n 1, 1) := by decide +kernel
theorem dX4_lower_5 : decode cX4_lower 5 = .ok (.aload_n 0, 1) := by decide +kernel
theorem dX4_lower_6 : decode cX4_lower 6 = .ok (.getfield 23, 3) := by decide +kernel
theorem dX4_lower_9 : decode cX4_lower 9 = .ok (.iload_n 1, 1) := by decide +kernel
theorem dX4_lower_10 : decode cX4_lower 10 = .ok (.invokevirtual 50, 3) := by decide +kernel
theorem dX4_lower_13 : decode cX4_lower 13 = .ok (.iload_n 2, 1) := by decide +kernel
theorem dX4_lower_14 : decode cX4_lower 14 = .ok (.invokestatic 78, 3) := by decide +kernel
theorem dX4_lower_17 : decode cX4_lower 17 = .ok (.invokevirtual 65, 3) := by decide +kernel
theorem dX4_lower_20 : decode cX4_lower 20 = .ok (.return_, 1) := by decide +kernel
set_option maxHeartbeats 4000000 in
set_option maxRecDepth 100000 in
theorem kX4_lower {l : Launch} {D : va_G} {cy : Nat → ClassId} {N : Nat} {q : Nat → Nat} {m0 : Nat → Value} {a0 : Nat → vp_A} {sz : Nat} (hN : 105 ≤ N) (hsh : SH q m0) {A48 : Nat → Int32} (h_A48 : a0 48 = (6000, .inl A48)) (p1 : Int32) (p2 : Int32) : gMv l yX4_lower cX4_lower 3 none ({ frames := 1, cells := 0, slots := 0, locals := 22 } : Room) D cy N q m0 a0 sz [.ref (q 42), .int p1, .int p2] (fun m' a' => m' = m0 ∧ a' 48 = (6000, .inl (fX4_lower A48 p1 p2)) ∧ (∀ j, nel j [48] = false → a' j = a0 j)) := by
  generalize hs0 : fX4_lower A48 p1 p2 = X0
  refine g_ofv (by decide) (Nat.le_of_ble_eq_true rfl) ?_
  intro p e s M args below meth c hx hb hr hG hown hin hlocks hml hW hS ls hl
  unfold fX4_lower at hs0
  have hoffa : ∀ j, nel j [48] = false → a0 j = a0 j := off0
  refine lv_aload_n hx hb dX4_lower_0 rfl (lv_at hl 0 rfl) ?_
  refine gf4_2 hx hb hG hown hW (o := 42) (ltN hN 42 rfl) gk42 (v := .ref (q 47)) (sh42_2 hsh) gx129 dX4_lower_1 ?_
  refine lv_iload_n hx hb dX4_lower_4 rfl (lv_at hl 1 rfl) ?_
  refine lv_aload_n hx hb dX4_lower_5 rfl (lv_at hl 0 rfl) ?_
  refine gf4_2 hx hb hG hown hW (o := 42) (ltN hN 42 rfl) gk42 (v := .ref (q 47)) (sh42_2 hsh) gx129 dX4_lower_6 ?_
  refine lv_iload_n hx hb dX4_lower_9 rfl (lv_at hl 1 rfl) ?_
  refine g_ViR (n := 1) hx hb hml hown hG hW hS [.int p1] (kX2_at (ltN hN 47 rfl) gk47 (ltN hN 48 rfl) gk48 (sh47_0 hsh) (by decide) h_A48 p1) (ltN hN 47 rfl) gk47 (by decide) rfl rfl (gd_V gx760 gx564 gx565 gx47 gx566) rfl rfl (by decide) ⟨Nat.le_of_ble_eq_true rfl, Nat.le_of_ble_eq_true rfl⟩ rfl hl (Nat.le_of_ble_eq_true rfl) ⟨Nat.zero_le _, Nat.zero_le _⟩ dX4_lower_10 (fun H locs hW hS => ?_)
  refine lv_iload_n hx hb dX4_lower_13 rfl (lv_at hl 2 rfl) ?_
  refine va_mmin hx hb (hml.trans hl.1.symm) hown (hG _ gx779) (hG _ gx487) (hG _ gx55) (hG _ gx488) (Nat.le_of_ble_eq_true rfl) (Nat.le_of_ble_eq_true rfl) (Nat.zero_le _) (Nat.zero_le _) dX4_lower_14 ?_
  refine g_Vv (n := 2) hx hb hml hown hG hW hS [.int p1, .int (if p2 < (cAt 6000 A48 p1) then p2 else (cAt 6000 A48 p1))] (kX2_put (ltN hN 47 rfl) gk47 (ltN hN 48 rfl) gk48 (sh47_0 hsh) (by decide) h_A48 p1 (if p2 < (cAt 6000 A48 p1) then p2 else (cAt 6000 A48 p1))) (ltN hN 47 rfl) gk47 (by decide) rfl rfl (gd_V gx770 gx551 gx552 gx47 gx553) rfl rfl (by decide) ⟨Nat.le_of_ble_eq_true rfl, Nat.le_of_ble_eq_true rfl⟩ rfl hl (Nat.le_of_ble_eq_true rfl) ⟨Nat.zero_le _, Nat.zero_le _⟩ dX4_lower_17 (fun m2 a2 H locs hp2 hW hS => ?_)
  obtain ⟨hm2, hp2_A48, hoa2⟩ := hp2
  rw [hm2] at hW
  have w_A48 : a2 48 = (6000, .inl (cPut 6000 A48 p1 (if p2 < (cAt 6000 A48 p1) then p2 else (cAt 6000 A48 p1)))) := hp2_A48
  have hoffa := offm hoffa hoa2 (by decide +kernel)
  subst hs0
  exact W.vret hx hb hr (fun t ht hw => ⟨⟨(m0, a2), rfl, ⟨rfl, w_A48, hoffa⟩, g_end hW ht hw⟩, hS.F ht⟩) hS.2.2 dX4_lower_20 hlocks
-- HealLink$Depths.visit (LHealLink$Atlas;I)V
def fX4_visit_J190 (F : Nat) (x28_2 : Int32) (A30 : Nat → Int32) (A35 : Nat → Int32) (v3j12 : Int32) (v4 : Int32) (v5j12 : Int32) (x42_6j12 : Int32) (x42_7j12 : Int32) (A44j12 : Nat → Int32) (A46j12 : Nat → Int32) (A48j12 : Nat → Int32) (A50j12 : Nat → Int32) (A52j12 : Nat → Int32) (A54j12 : Nat → Int32) : Option ((Int32 × Int32 × (Nat → Int32) × (Nat → Int32) × (Nat → Int32) × (Nat → Int32) × (Nat → Int32) × (Nat → Int32)) ⊕ (Int32 × Int32 × Int32 × Int32 × (Nat → Int32) × (Nat → Int32) × (Nat → Int32) × (Nat → Int32) × (Nat → Int32) × (Nat → Int32))) := some (Sum.inr (v3j12, v5j12 + 1, x42_6j12, x42_7j12, A44j12, A46j12, A48j12, A50j12, A52j12, A54j12))
def fX4_visit_J152 (F : Nat) (x28_2 : Int32) (A30 : Nat → Int32) (A35 : Nat → Int32) (v3j22 : Int32) (v4 : Int32) (v5j22 : Int32) (x42_6j22 : Int32) (x42_7j22 : Int32) (A44j22 : Nat → Int32) (A46j22 : Nat → Int32) (A48j22 : Nat → Int32) (A50j22 : Nat → Int32) (A52j22 : Nat → Int32) (A54j22 : Nat → Int32) : Option ((Int32 × Int32 × (Nat → Int32) × (Nat → Int32) × (Nat → Int32) × (Nat → Int32) × (Nat → Int32) × (Nat → Int32)) ⊕ (Int32 × Int32 × Int32 × Int32 × (Nat → Int32) × (Nat → Int32) × (Nat → Int32) × (Nat → Int32) × (Nat → Int32) × (Nat → Int32))) := fX4_visit_J190 F x28_2 A30 A35 v3j22 v4 v5j22 x42_6j22 x42_7j22 A44j22 A46j22 A48j22 A50j22 A52j22 A54j22
def fX4_visit_S30 (F : Nat) (x28_2 : Int32) (A30 : Nat → Int32) (A35 : Nat → Int32) (v4 : Int32) (v3 : Int32) (v5 : Int32) (x42_6 : Int32) (x42_7 : Int32) (A44 : Nat → Int32) (A46 : Nat → Int32) (A48 : Nat → Int32) (A50 : Nat → Int32) (A52 : Nat → Int32) (A54 : Nat → Int32) : Option ((Int32 × Int32 × (Nat → Int32) × (Nat → Int32) × (Nat → Int32) × (Nat → Int32) × (Nat → Int32) × (Nat → Int32)) ⊕ (Int32 × Int32 × Int32 × Int32 × (Nat → Int32) × (Nat → Int32) × (Nat → Int32) × (Nat → Int32) × (Nat → Int32) × (Nat → Int32))) := (if v4 ≤ v5 then some (Sum.inl (x42_6, x42_7, A44, A46, A48, A50, A52, A54)) else (if v3 < 0 then some (Sum.inl (x42_6, x42_7, A44, A46, A48, A50, A52, A54)) else (if (cAt 6001 A30 ((cAt 6000 A52 v3) + 1)) ≤ (cAt 6000 A54 v3) then ((fX4_closeAt F A30 A35 A46 A48 A50 x42_7 A44 (cAt 6000 A52 v3)).bind (fun r10 => (if (v3 + (-1)) < 0 then fX4_visit_J190 F x28_2 A30 A35 (v3 + (-1)) v4 v5 x42_6 r10.1 r10.2 A46 A48 A50 A52 A54 else fX4_visit_J190 F x28_2 A30 A35 (v3 + (-1)) v4 v5 x42_6 r10.1 r10.2 A46 (fX4_lower A48 (cAt 6000 A52 (v3 + (-1))) (cAt 6000 A48 (cAt 6000 A52 v3))) A50 A52 A54))) else (if (cAt 6000 A46 (fX1_targetOf A35 (cAt 6000 A54 v3))) = 0 then fX4_visit_J152 F x28_2 A30 A35 (v3 + 1) v4 v5 ((fX4_enter A30 x42_6 x42_7 A46 A48 A50 A52 (cPut 6000 A54 v3 ((cAt 6000 A54 v3) + 1)) (fX1_targetOf A35 (cAt 6000 A54 v3)) (v3 + 1)).1) ((fX4_enter A30 x42_6 x42_7 A46 A48 A50 A52 (cPut 6000 A54 v3 ((cAt 6000 A54 v3) + 1)) (fX1_targetOf A35 (cAt 6000 A54 v3)) (v3 + 1)).2.1) A44 ((fX4_enter A30 x42_6 x42_7 A46 A48 A50 A52 (cPut 6000 A54 v3 ((cAt 6000 A54 v3) + 1)) (fX1_targetOf A35 (cAt 6000 A54 v3)) (v3 + 1)).2.2.1) ((fX4_enter A30 x42_6 x42_7 A46 A48 A50 A52 (cPut 6000 A54 v3 ((cAt 6000 A54 v3) + 1)) (fX1_targetOf A35 (cAt 6000 A54 v3)) (v3 + 1)).2.2.2.1) ((fX4_enter A30 x42_6 x42_7 A46 A48 A50 A52 (cPut 6000 A54 v3 ((cAt 6000 A54 v3) + 1)) (fX1_targetOf A35 (cAt 6000 A54 v3)) (v3 + 1)).2.2.2.2.1) ((fX4_enter A30 x42_6 x42_7 A46 A48 A50 A52 (cPut 6000 A54 v3 ((cAt 6000 A54 v3) + 1)) (fX1_targetOf A35 (cAt 6000 A54 v3)) (v3 + 1)).2.2.2.2.2.1) ((fX4_enter A30 x42_6 x42_7 A46 A48 A50 A52 (cPut 6000 A54 v3 ((cAt 6000 A54 v3) + 1)) (fX1_targetOf A35 (cAt 6000 A54 v3)) (v3 + 1)).2.2.2.2.2.2) else (if (cAt 6000 A44 (fX1_targetOf A35 (cAt 6000 A54 v3))) = (-3) then fX4_visit_J152 F x28_2 A30 A35 v3 v4 v5 x42_6 x42_7 A44 A46 (fX4_lower A48 (cAt 6000 A52 v3) (cAt 6000 A46 (fX1_targetOf A35 (cAt 6000 A54 v3)))) A50 A52 (cPut 6000 A54 v3 ((cAt 6000 A54 v3) + 1)) else fX4_visit_J152 F x28_2 A30 A35 v3 v4 v5 x42_6 x42_7 A44 A46 A48 A50 A52 (cPut 6000 A54 v3 ((cAt 6000 A54 v3) + 1)))))))
def fX4_visit (F : Nat) (x28_2 : Int32) (A30 : Nat → Int32) (A35 : Nat → Int32) (x42_6 : Int32) (x42_7 : Int32) (A44 : Nat → Int32) (A46 : Nat → Int32) (A48 : Nat → Int32) (A50 : Nat → Int32) (A52 : Nat → Int32) (A54 : Nat → Int32) (p2 : Int32) : Option (Int32 × Int32 × (Nat → Int32) × (Nat → Int32) × (Nat → Int32) × (Nat → Int32) × (Nat → Int32) × (Nat → Int32)) := (gloop (fun u3 : (Int32 × Int32 × Int32 × Int32 × (Nat → Int32) × (Nat → Int32) × (Nat → Int32) × (Nat → Int32) × (Nat → Int32) × (Nat → Int32)) => fX4_visit_S30 F x28_2 A30 A35 ((cAt 6001 A30 x28_2) + x28_2) u3.1 u3.2.1 u3.2.2.1 u3.2.2.2.1 u3.2.2.2.2.1 u3.2.2.2.2.2.1 u3.2.2.2.2.2.2.1 u3.2.2.2.2.2.2.2.1 u3.2.2.2.2.2.2.2.2.1 u3.2.2.2.2.2.2.2.2.2) F (0, 0, (fX4_enter A30 x42_6 x42_7 A46 A48 A50 A52 A54 p2 0).1, (fX4_enter A30 x42_6 x42_7 A46 A48 A50 A52 A54 p2 0).2.1, A44, (fX4_enter A30 x42_6 x42_7 A46 A48 A50 A52 A54 p2 0).2.2.1, (fX4_enter A30 x42_6 x42_7 A46 A48 A50 A52 A54 p2 0).2.2.2.1, (fX4_enter A30 x42_6 x42_7 A46 A48 A50 A52 A54 p2 0).2.2.2.2.1, (fX4_enter A30 x42_6 x42_7 A46 A48 A50 A52 A54 p2 0).2.2.2.2.2.1, (fX4_enter A30 x42_6 x42_7 A46 A48 A50 A52 A54 p2 0).2.2.2.2.2.2)).bind (fun t3_196 => some (t3_196.1, t3_196.2.1, t3_196.2.2.1, t3_196.2.2.2.1, t3_196.2.2.2.2.1, t3_196.2.2.2.2.2.1, t3_196.2.2.2.2.2.2.1, t3_196.2.2.2.2.2.2.2))
theorem dX4_visit_0 : decode cX4_visit 0 = .ok (.iconst 0, 1) := by decide +kernel
theorem dX4_visit_1 : decode cX4_visit 1 = .ok (.istore_n 3, 1) := by decide +kernel
theorem dX4_visit_2 : decode cX4_visit 2 = .ok (.aload_n 0, 1) := by decide +kernel
theorem dX4_visit_3 : decode cX4_visit 3 = .ok (.aload_n 1, 1) := by decide +kernel
theorem dX4_visit_4 : decode cX4_visit 4 = .ok (.iload_n 2, 1) := by decide +kernel
theorem dX4_visit_5 : decode cX4_visit 5 = .ok (.iload_n 3, 1) := by decide +kernel
theorem dX4_visit_6 : decode cX4_visit 6 = .ok (.invokevirtual 58, 3) := by decide +kernel
theorem dX4_visit_9 : decode cX4_visit 9 = .ok (.aload_n 1, 1) := by decide +kernel
theorem dX4_visit_10 : decode cX4_visit 10 = .ok (.getfield 62, 3) := by decide +kernel
theorem dX4_visit_13 : decode cX4_visit 13 = .ok (.aload_n 1, 1) := by decide +kernel
theorem dX4_visit_14 : decode cX4_visit 14 = .ok (.getfield 45, 3) := by decide +kernel
theorem dX4_visit_17 : decode cX4_visit 17 = .ok (.invokevirtual 50, 3) := by decide +kernel
theorem dX4_visit_20 : decode cX4_visit 20 = .ok (.aload_n 1, 1) := by decide +kernel
theorem dX4_visit_21 : decode cX4_visit 21 = .ok (.getfield 45, 3) := by decide +kernel
theorem dX4_visit_24 : decode cX4_visit 24 = .ok (.iadd, 1) := by decide +kernel
theorem dX4_visit_25 : decode cX4_visit 25 = .ok (.istore 4, 2) := by decide +kernel
theorem dX4_visit_27 : decode cX4_visit 27 = .ok (.iconst 0, 1) := by decide +kernel
theorem dX4_visit_28 : decode cX4_visit 28 = .ok (.istore 5, 2) := by decide +kernel
theorem dX4_visit_30 : decode cX4_visit 30 = .ok (.iload 5, 2) := by decide +kernel
theorem dX4_visit_32 : decode cX4_visit 32 = .ok (.iload 4, 2) := by decide +kernel
theorem dX4_visit_34 : decode cX4_visit 34 = .ok (.if_icmp .ge 162, 3) := by decide +kernel
theorem dX4_visit_37 : decode cX4_visit 37 = .ok (.iload_n 3, 1) := by decide +kernel
theorem dX4_visit_38 : decode cX4_visit 38 = .ok (.ifCond .lt 158, 3) := by decide +kernel
theorem dX4_visit_41 : decode cX4_visit 41 = .ok (.aload_n 0, 1) := by decide +kernel
theorem dX4_visit_42 : decode cX4_visit 42 = .ok (.getfield 29, 3) := by decide +kernel
theorem dX4_visit_45 : decode cX4_visit 45 = .ok (.iload_n 3, 1) := by decide +kernel
theorem dX4_visit_46 : decode cX4_visit 46 = .ok (.invokevirtual 50, 3) := by decide +kernel
theorem dX4_visit_49 : decode cX4_visit 49 = .ok (.istore 6, 2) := by decide +kernel
theorem dX4_visit_51 : decode cX4_visit 51 = .ok (.aload_n 0, 1) := by decide +kernel
theorem dX4_visit_52 : decode cX4_visit 52 = .ok (.getfield 32, 3) := by decide +kernel
theorem dX4_visit_55 : decode cX4_visit 55 = .ok (.iload_n 3, 1) := by decide +kernel
theorem dX4_visit_56 : decode cX4_visit 56 = .ok (.invokevirtual 50, 3) := by decide +kernel
theorem dX4_visit_59 : decode cX4_visit 59 = .ok (.istore 7, 2) := by decide +kernel
theorem dX4_visit_61 : decode cX4_visit 61 = .ok (.iload 7, 2) := by decide +kernel
theorem dX4_visit_63 : decode cX4_visit 63 = .ok (.aload_n 1, 1) := by decide +kernel
theorem dX4_visit_64 : decode cX4_visit 64 = .ok (.getfield 62, 3) := by decide +kernel
theorem dX4_visit_67 : decode cX4_visit 67 = .ok (.iload 6, 2) := by decide +kernel
theorem dX4_visit_69 : decode cX4_visit 69 = .ok (.iconst 1, 1) := by decide +kernel
theorem dX4_visit_70 : decode cX4_visit 70 = .ok (.iadd, 1) := by decide +kernel
theorem dX4_visit_71 : decode cX4_visit 71 = .ok (.invokevirtual 50, 3) := by decide +kernel
theorem dX4_visit_74 : decode cX4_visit 74 = .ok (.if_icmp .ge 81, 3) := by decide +kernel
theorem dX4_visit_77 : decode cX4_visit 77 = .ok (.aload_n 0, 1) := by decide +kernel
theorem dX4_visit_78 : decode cX4_visit 78 = .ok (.getfield 32, 3) := by decide +kernel
theorem dX4_visit_81 : decode cX4_visit 81 = .ok (.iload_n 3, 1) := by decide +kernel
theorem dX4_visit_82 : decode cX4_visit 82 = .ok (.iload 7, 2) := by decide +kernel
theorem dX4_visit_84 : decode cX4_visit 84 = .ok (.iconst 1, 1) := by decide +kernel
theorem dX4_visit_85 : decode cX4_visit 85 = .ok (.iadd, 1) := by decide +kernel
theorem dX4_visit_86 : decode cX4_visit 86 = .ok (.invokevirtual 65, 3) := by decide +kernel
theorem dX4_visit_89 : decode cX4_visit 89 = .ok (.aload_n 1, 1) := by decide +kernel
theorem dX4_visit_90 : decode cX4_visit 90 = .ok (.iload 7, 2) := by decide +kernel
theorem dX4_visit_92 : decode cX4_visit 92 = .ok (.invokevirtual 69, 3) := by decide +kernel
theorem dX4_visit_95 : decode cX4_visit 95 = .ok (.istore 8, 2) := by decide +kernel
theorem dX4_visit_97 : decode cX4_visit 97 = .ok (.aload_n 0, 1) := by decide +kernel
theorem dX4_visit_98 : decode cX4_visit 98 = .ok (.getfield 20, 3) := by decide +kernel
theorem dX4_visit_101 : decode cX4_visit 101 = .ok (.iload 8, 2) := by decide +kernel
theorem dX4_visit_103 : decode cX4_visit 103 = .ok (.invokevirtual 50, 3) := by decide +kernel
theorem dX4_visit_106 : decode cX4_visit 106 = .ok (.ifCond .ne 17, 3) := by decide +kernel
theorem dX4_visit_109 : decode cX4_visit 109 = .ok (.iinc 3 1, 3) := by decide +kernel
theorem dX4_visit_112 : decode cX4_visit 112 = .ok (.aload_n 0, 1) := by decide +kernel
theorem dX4_visit_113 : decode cX4_visit 113 = .ok (.aload_n 1, 1) := by decide +kernel
theorem dX4_visit_114 : decode cX4_visit 114 = .ok (.iload 8, 2) := by decide +kernel
theorem dX4_visit_116 : decode cX4_visit 116 = .ok (.iload_n 3, 1) := by decide +kernel
theorem dX4_visit_117 : decode cX4_visit 117 = .ok (.invokevirtual 58, 3) := by decide +kernel
theorem dX4_visit_120 : decode cX4_visit 120 = .ok (.goto 32, 3) := by decide +kernel
theorem dX4_visit_123 : decode cX4_visit 123 = .ok (.aload_n 0, 1) := by decide +kernel
theorem dX4_visit_124 : decode cX4_visit 124 = .ok (.getfield 14, 3) := by decide +kernel
theorem dX4_visit_127 : decode cX4_visit 127 = .ok (.iload 8, 2) := by decide +kernel
theorem dX4_visit_129 : decode cX4_visit 129 = .ok (.invokevirtual 50, 3) := by decide +kernel
theorem dX4_visit_132 : decode cX4_visit 132 = .ok (.bipush (-3), 2) := by decide +kernel
theorem dX4_visit_134 : decode cX4_visit 134 = .ok (.if_icmp .ne 18, 3) := by decide +kernel
theorem dX4_visit_137 : decode cX4_visit 137 = .ok (.aload_n 0, 1) := by decide +kernel
theorem dX4_visit_138 : decode cX4_visit 138 = .ok (.iload 6, 2) := by decide +kernel
theorem dX4_visit_140 : decode cX4_visit 140 = .ok (.aload_n 0, 1) := by decide +kernel
theorem dX4_visit_141 : decode cX4_visit 141 = .ok (.getfield 20, 3) := by decide +kernel
theorem dX4_visit_144 : decode cX4_visit 144 = .ok (.iload 8, 2) := by decide +kernel
theorem dX4_visit_146 : decode cX4_visit 146 = .ok (.invokevirtual 50, 3) := by decide +kernel
theorem dX4_visit_149 : decode cX4_visit 149 = .ok (.invokevirtual 72, 3) := by decide +kernel
theorem dX4_visit_152 : decode cX4_visit 152 = .ok (.goto 38, 3) := by decide +kernel
theorem dX4_visit_155 : decode cX4_visit 155 = .ok (.aload_n 0, 1) := by decide +kernel
theorem dX4_visit_156 : decode cX4_visit 156 = .ok (.aload_n 1, 1) := by decide +kernel
theorem dX4_visit_157 : decode cX4_visit 157 = .ok (.iload 6, 2) := by decide +kernel
theorem dX4_visit_159 : decode cX4_visit 159 = .ok (.invokevirtual 75, 3) := by decide +kernel
theorem dX4_visit_162 : decode cX4_visit 162 = .ok (.iinc 3 (-1), 3) := by decide +kernel
theorem dX4_visit_165 : decode cX4_visit 165 = .ok (.iload_n 3, 1) := by decide +kernel
theorem dX4_visit_166 : decode cX4_visit 166 = .ok (.ifCond .lt 24, 3) := by decide +kernel
theorem dX4_visit_169 : decode cX4_visit 169 = .ok (.aload_n 0, 1) := by decide +kernel
theorem dX4_visit_170 : decode cX4_visit 170 = .ok (.aload_n 0, 1) := by decide +kernel
theorem dX4_visit_171 : decode cX4_visit 171 = .ok (.getfield 29, 3) := by decide +kernel
theorem dX4_visit_174 : decode cX4_visit 174 = .ok (.iload_n 3, 1) := by decide +kernel
theorem dX4_visit_175 : decode cX4_visit 175 = .ok (.invokevirtual 50, 3) := by decide +kernel
theorem dX4_visit_178 : decode cX4_visit 178 = .ok (.aload_n 0, 1) := by decide +kernel
theorem dX4_visit_179 : decode cX4_visit 179 = .ok (.getfield 23, 3) := by decide +kernel
theorem dX4_visit_182 : decode cX4_visit 182 = .ok (.iload 6, 2) := by decide +kernel
theorem dX4_visit_184 : decode cX4_visit 184 = .ok (.invokevirtual 50, 3) := by decide +kernel
theorem dX4_visit_187 : decode cX4_visit 187 = .ok (.invokevirtual 72, 3) := by decide +kernel
theorem dX4_visit_190 : decode cX4_visit 190 = .ok (.iinc 5 1, 3) := by decide +kernel
theorem dX4_visit_193 : decode cX4_visit 193 = .ok (.goto (-163), 3) := by decide +kernel
theorem dX4_visit_196 : decode cX4_visit 196 = .ok (.return_, 1) := by decide +kernel
set_option maxHeartbeats 4000000 in
set_option maxRecDepth 100000 in
theorem kX4_visit {l : Launch} {D : va_G} {cy : Nat → ClassId} {N : Nat} {q : Nat → Nat} {m0 : Nat → Value} {a0 : Nat → vp_A} {sz : Nat} (hN : 105 ≤ N) (hsh : SH q m0) {x28_2 : Int32} (h_x28_2 : m0 2802 = .int x28_2) {A30 : Nat → Int32} (h_A30 : a0 30 = (6001, .inl A30)) {A35 : Nat → Int32} (h_A35 : a0 35 = (60000, .inl A35)) {x42_6 : Int32} (h_x42_6 : m0 4206 = .int x42_6) {x42_7 : Int32} (h_x42_7 : m0 4207 = .int x42_7) {A44 : Nat → Int32} (h_A44 : a0 44 = (6000, .inl A44)) {A46 : Nat → Int32} (h_A46 : a0 46 = (6000, .inl A46)) {A48 : Nat → Int32} (h_A48 : a0 48 = (6000, .inl A48)) {A50 : Nat → Int32} (h_A50 : a0 50 = (6000, .inl A50)) {A52 : Nat → Int32} (h_A52 : a0 52 = (6000, .inl A52)) {A54 : Nat → Int32} (h_A54 : a0 54 = (6000, .inl A54)) (F : Nat) (p2 : Int32) {X0 : Int32 × Int32 × (Nat → Int32) × (Nat → Int32) × (Nat → Int32) × (Nat → Int32) × (Nat → Int32) × (Nat → Int32)} (hs0 : fX4_visit F x28_2 A30 A35 x42_6 x42_7 A44 A46 A48 A50 A52 A54 p2 = some X0) : gMv l yX4_visit cX4_visit 9 none ({ frames := 4, cells := 0, slots := 0, locals := 95 } : Room) D cy N q m0 a0 sz [.ref (q 42), .ref (q 28), .int p2] (fun m' a' => m' 4206 = .int X0.1 ∧ m' 4207 = .int X0.2.1 ∧ (∀ j, nel j [4206, 4207] = false → m' j = m0 j) ∧ a' 44 = (6000, .inl X0.2.2.1) ∧ a' 46 = (6000, .inl X0.2.2.2.1) ∧ a' 48 = (6000, .inl X0.2.2.2.2.1) ∧ a' 50 = (6000, .inl X0.2.2.2.2.2.1) ∧ a' 52 = (6000, .inl X0.2.2.2.2.2.2.1) ∧ a' 54 = (6000, .inl X0.2.2.2.2.2.2.2) ∧ (∀ j, nel j [44, 46, 48, 50, 52, 54] = false → a' j = a0 j)) := by
  refine g_ofv (by decide) (Nat.le_of_ble_eq_true rfl) ?_
  intro p e s M args below meth c hx hb hr hG hown hin hlocks hml hW hS ls hl
  unfold fX4_visit at hs0
  have hoff : ∀ j, nel j [4206, 4207] = false → m0 j = m0 j := off0
  have hoffa : ∀ j, nel j [44, 46, 48, 50, 52, 54] = false → a0 j = a0 j := off0
  refine lv_iconst (v := 0) hx hb dX4_visit_0 (by decide) ?_
  refine lv_istore_n (lv' := [(3, .int 0), (0, .ref (q 42)), (1, .ref (q 28)), (2, .int p2)]) hx hb dX4_visit_1 rfl hl (by decide) rfl (fun ls hl => ?_)
  refine lv_aload_n hx hb dX4_visit_2 rfl (lv_at hl 1 rfl) ?_
  refine lv_aload_n hx hb dX4_visit_3 rfl (lv_at hl 2 rfl) ?_
  refine lv_iload_n hx hb dX4_visit_4 rfl (lv_at hl 3 rfl) ?_
  refine lv_iload_n hx hb dX4_visit_5 rfl (lv_at hl 0 rfl) ?_
  refine g_Vv (n := 3) hx hb hml hown hG hW hS [.ref (q 28), .int p2, .int 0] (kX4_enter hN hsh ((hoffa 30 rfl).trans h_A30) h_x42_6 h_x42_7 h_A46 h_A48 h_A50 h_A52 h_A54 p2 0) (ltN hN 42 rfl) gk42 (by decide) rfl rfl (gd_V gx766 gx767 gx768 gx94 gx769) rfl rfl (by decide) ⟨Nat.le_of_ble_eq_true rfl, Nat.le_of_ble_eq_true rfl⟩ rfl hl (Nat.le_of_ble_eq_true rfl) ⟨Nat.zero_le _, Nat.zero_le _⟩ dX4_visit_6 (fun m1 a1 H locs hp1 hW hS => ?_)
  obtain ⟨hp1_x42_6, hp1_x42_7, ho1, hp1_A46, hp1_A48, hp1_A50, hp1_A52, hp1_A54, hoa1⟩ := hp1
  have w_x42_6 : m1 4206 = .int ((fX4_enter A30 x42_6 x42_7 A46 A48 A50 A52 A54 p2 0).1) := hp1_x42_6
  have w_x42_7 : m1 4207 = .int ((fX4_enter A30 x42_6 x42_7 A46 A48 A50 A52 A54 p2 0).2.1) := hp1_x42_7
  have hoff := offm hoff ho1 (by decide +kernel)
  have hsh := SH.off hsh ho1 (by decide +kernel)
  have w_A44 : a1 44 = (6000, .inl A44) := (hoa1 44 rfl).trans h_A44
  have w_A46 : a1 46 = (6000, .inl ((fX4_enter A30 x42_6 x42_7 A46 A48 A50 A52 A54 p2 0).2.2.1)) := hp1_A46
  have w_A48 : a1 48 = (6000, .inl ((fX4_enter A30 x42_6 x42_7 A46 A48 A50 A52 A54 p2 0).2.2.2.1)) := hp1_A48
  have w_A50 : a1 50 = (6000, .inl ((fX4_enter A30 x42_6 x42_7 A46 A48 A50 A52 A54 p2 0).2.2.2.2.1)) := hp1_A50
  have w_A52 : a1 52 = (6000, .inl ((fX4_enter A30 x42_6 x42_7 A46 A48 A50 A52 A54 p2 0).2.2.2.2.2.1)) := hp1_A52
  have w_A54 : a1 54 = (6000, .inl ((fX4_enter A30 x42_6 x42_7 A46 A48 A50 A52 A54 p2 0).2.2.2.2.2.2)) := hp1_A54
  have hoffa := offm hoffa hoa1 (by decide +kernel)
  refine lv_aload_n hx hb dX4_visit_9 rfl (lv_at hl 2 rfl) ?_
  refine gf1_0 hx hb hG hown hW (o := 28) (ltN hN 28 rfl) gk28 (v := .ref (q 29)) (sh28_0 hsh) gx765 dX4_visit_10 ?_
  refine lv_aload_n hx hb dX4_visit_13 rfl (lv_at hl 2 rfl) ?_
  refine gf1_2 hx hb hG hown hW (o := 28) (ltN hN 28 rfl) gk28 (v := .int x28_2) ((hoff 2802 rfl).trans h_x28_2) gx758 dX4_visit_14 ?_
  refine g_ViR (n := 1) hx hb hml hown hG hW hS [.int x28_2] (kX2_at (ltN hN 29 rfl) gk29 (ltN hN 30 rfl) gk30 (sh29_0 hsh) (by decide) ((hoffa 30 rfl).trans h_A30) x28_2) (ltN hN 29 rfl) gk29 (by decide) rfl rfl (gd_V gx760 gx564 gx565 gx47 gx566) rfl rfl (by decide) ⟨Nat.le_of_ble_eq_true rfl, Nat.le_of_ble_eq_true rfl⟩ rfl hl (Nat.le_of_ble_eq_true rfl) ⟨Nat.zero_le _, Nat.zero_le _⟩ dX4_visit_17 (fun H locs hW hS => ?_)
  refine lv_aload_n hx hb dX4_visit_20 rfl (lv_at hl 2 rfl) ?_
  refine gf1_2 hx hb hG hown hW (o := 28) (ltN hN 28 rfl) gk28 (v := .int x28_2) ((hoff 2802 rfl).trans h_x28_2) gx758 dX4_visit_21 ?_
  refine lv_iadd hx hb dX4_visit_24 ?_
  refine lv_istore (lv' := [(4, .int ((cAt 6001 A30 x28_2) + x28_2)), (3, .int 0), (0, .ref (q 42)), (1, .ref (q 28)), (2, .int p2)]) hx hb dX4_visit_25 hl (by decide) rfl (fun ls hl => ?_)
  refine lv_iconst (v := 0) hx hb dX4_visit_27 (by decide) ?_
  refine lv_istore (lv' := [(5, .int 0), (4, .int ((cAt 6001 A30 x28_2) + x28_2)), (3, .int 0), (0, .ref (q 42)), (1, .ref (q 28)), (2, .int p2)]) hx hb dX4_visit_28 hl (by decide) rfl (fun ls hl => ?_)
  obtain ⟨r3, hg3, hs0⟩ := obind hs0
  have hE1_196 : ∀ (t3_196 : Int32 × Int32 × (Nat → Int32) × (Nat → Int32) × (Nat → Int32) × (Nat → Int32) × (Nat → Int32) × (Nat → Int32)) (hr3 : t3_196 = r3) (m : Nat → Value) (a : Nat → vp_A) (H : Heap) (locs : List Loc) (w_x42_6 : m 4206 = .int t3_196.1) (w_x42_7 : m 4207 = .int t3_196.2.1) (hoff : ∀ j, nel j [4206, 4207] = false → m j = m0 j) (hsh : SH q m) (w_A44 : a 44 = (6000, .inl t3_196.2.2.1)) (w_A46 : a 46 = (6000, .inl t3_196.2.2.2.1)) (w_A48 : a 48 = (6000, .inl t3_196.2.2.2.2.1)) (w_A50 : a 50 = (6000, .inl t3_196.2.2.2.2.2.1)) (w_A52 : a 52 = (6000, .inl t3_196.2.2.2.2.2.2.1)) (w_A54 : a 54 = (6000, .inl t3_196.2.2.2.2.2.2.2)) (hoffa : ∀ j, nel j [44, 46, 48, 50, 52, 54] = false → a j = a0 j) (ls : Array Slot) (hl : lv_has ls 9 []) (hW : GW D cy (gA N q s.heap.size) N q m a s H) (hS : va_S (gA N q s.heap.size) s.heap H locs), W p l e ({ frames := 4, cells := 0, slots := 0, locals := 95 } : Room) s M args below meth c H locs 0 0 (MQ below (va_Qv (fun (u : (Nat → Value) × (Nat → vp_A)) => u.1 4206 = .int X0.1 ∧ u.1 4207 = .int X0.2.1 ∧ (∀ j, nel j [4206, 4207] = false → u.1 j = m0 j) ∧ u.2 44 = (6000, .inl X0.2.2.1) ∧ u.2 46 = (6000, .inl X0.2.2.2.1) ∧ u.2 48 = (6000, .inl X0.2.2.2.2.1) ∧ u.2 50 = (6000, .inl X0.2.2.2.2.2.1) ∧ u.2 52 = (6000, .inl X0.2.2.2.2.2.2.1) ∧ u.2 54 = (6000, .inl X0.2.2.2.2.2.2.2) ∧ (∀ j, nel j [44, 46, 48, 50, 52, 54] = false → u.2 j = a0 j)) (gB D cy N q s.heap.size) (gA N q s.heap.size)) args s 0 0 (gA N q s.heap.size)) (F0 M 196 ls []) := by
    intro t3_196 hr3 m a H locs w_x42_6 w_x42_7 hoff hsh w_A44 w_A46 w_A48 w_A50 w_A52 w_A54 hoffa ls hl hW hS
    subst hr3
    have hs0 := Option.some.inj hs0
    subst hs0
    exact W.vret hx hb hr (fun t ht hw => ⟨⟨(m, a), rfl, ⟨w_x42_6, w_x42_7, hoff, w_A44, w_A46, w_A48, w_A50, w_A52, w_A54, hoffa⟩, g_end hW ht hw⟩, hS.F ht⟩) hS.2.2 dX4_visit_196 hlocks
  have hL1 : ∀ (n : Nat) (v3k3 : Int32) (v5k3 : Int32) (x42_6k3 : Int32) (x42_7k3 : Int32) (A44k3 : Nat → Int32) (A46k3 : Nat → Int32) (A48k3 : Nat → Int32) (A50k3 : Nat → Int32) (A52k3 : Nat → Int32) (A54k3 : Nat → Int32) (m : Nat → Value) (a : Nat → vp_A) (H : Heap) (locs : List Loc) (w_x42_6 : m 4206 = .int x42_6k3) (w_x42_7 : m 4207 = .int x42_7k3) (hoff : ∀ j, nel j [4206, 4207] = false → m j = m0 j) (hsh : SH q m) (w_A44 : a 44 = (6000, .inl A44k3)) (w_A46 : a 46 = (6000, .inl A46k3)) (w_A48 : a 48 = (6000, .inl A48k3)) (w_A50 : a 50 = (6000, .inl A50k3)) (w_A52 : a 52 = (6000, .inl A52k3)) (w_A54 : a 54 = (6000, .inl A54k3)) (hoffa : ∀ j, nel j [44, 46, 48, 50, 52, 54] = false → a j = a0 j) (ls : Array Slot) (hl : lv_has ls 9 [(0, .ref (q 42)), (1, .ref (q 28)), (3, .int v3k3), (4, .int ((cAt 6001 A30 x28_2) + x28_2)), (5, .int v5k3)]) (hg3 : gloop (fun u3 : (Int32 × Int32 × Int32 × Int32 × (Nat → Int32) × (Nat → Int32) × (Nat → Int32) × (Nat → Int32) × (Nat → Int32) × (Nat → Int32)) => fX4_visit_S30 F x28_2 A30 A35 ((cAt 6001 A30 x28_2) + x28_2) u3.1 u3.2.1 u3.2.2.1 u3.2.2.2.1 u3.2.2.2.2.1 u3.2.2.2.2.2.1 u3.2.2.2.2.2.2.1 u3.2.2.2.2.2.2.2.1 u3.2.2.2.2.2.2.2.2.1 u3.2.2.2.2.2.2.2.2.2) n (v3k3, v5k3, x42_6k3, x42_7k3, A44k3, A46k3, A48k3, A50k3, A52k3, A54k3) = some r3) (hW : GW D cy (gA N q s.heap.size) N q m a s H) (hS : va_S (gA N q s.heap.size) s.heap H locs), W p l e ({ frames := 4, cells := 0, slots := 0, locals := 95 } : Room) s M args below meth c H locs 0 0 (MQ below (va_Qv (fun (u : (Nat → Value) × (Nat → vp_A)) => u.1 4206 = .int X0.1 ∧ u.1 4207 = .int X0.2.1 ∧ (∀ j, nel j [4206, 4207] = false → u.1 j = m0 j) ∧ u.2 44 = (6000, .inl X0.2.2.1) ∧ u.2 46 = (6000, .inl X0.2.2.2.1) ∧ u.2 48 = (6000, .inl X0.2.2.2.2.1) ∧ u.2 50 = (6000, .inl X0.2.2.2.2.2.1) ∧ u.2 52 = (6000, .inl X0.2.2.2.2.2.2.1) ∧ u.2 54 = (6000, .inl X0.2.2.2.2.2.2.2) ∧ (∀ j, nel j [44, 46, 48, 50, 52, 54] = false → u.2 j = a0 j)) (gB D cy N q s.heap.size) (gA N q s.heap.size)) args s 0 0 (gA N q s.heap.size)) (F0 M 30 ls []) := by
    intro n
    induction n with
    | zero => intro v3k3 v5k3 x42_6k3 x42_7k3 A44k3 A46k3 A48k3 A50k3 A52k3 A54k3 m a H locs w_x42_6 w_x42_7 hoff hsh w_A44 w_A46 w_A48 w_A50 w_A52 w_A54 hoffa ls hl hg3 hW hS; exact (gl_zero hg3).elim
    | succ n ih1 =>
      intro v3k3 v5k3 x42_6k3 x42_7k3 A44k3 A46k3 A48k3 A50k3 A52k3 A54k3 m a H locs w_x42_6 w_x42_7 hoff hsh w_A44 w_A46 w_A48 w_A50 w_A52 w_A54 hoffa ls hl hg3 hW hS
      obtain ⟨X1, hs1, hXl1, hXr1⟩ := gl_succ hg3
      have hs1 : fX4_visit_S30 F x28_2 A30 A35 ((cAt 6001 A30 x28_2) + x28_2) v3k3 v5k3 x42_6k3 x42_7k3 A44k3 A46k3 A48k3 A50k3 A52k3 A54k3 = some X1 := hs1
      unfold fX4_visit_S30 at hs1
      have hJ190_1 : ∀ (v3j34 : Int32) (v5j34 : Int32) (x42_6j34 : Int32) (x42_7j34 : Int32) (A44j34 : Nat → Int32) (A46j34 : Nat → Int32) (A48j34 : Nat → Int32) (A50j34 : Nat → Int32) (A52j34 : Nat → Int32) (A54j34 : Nat → Int32) (m : Nat → Value) (a : Nat → vp_A) (H : Heap) (locs : List Loc) (w_x42_6 : m 4206 = .int x42_6j34) (w_x42_7 : m 4207 = .int x42_7j34) (hoff : ∀ j, nel j [4206, 4207] = false → m j = m0 j) (hsh : SH q m) (w_A44 : a 44 = (6000, .inl A44j34)) (w_A46 : a 46 = (6000, .inl A46j34)) (w_A48 : a 48 = (6000, .inl A48j34)) (w_A50 : a 50 = (6000, .inl A50j34)) (w_A52 : a 52 = (6000, .inl A52j34)) (w_A54 : a 54 = (6000, .inl A54j34)) (hoffa : ∀ j, nel j [44, 46, 48, 50, 52, 54] = false → a j = a0 j) (ls : Array Slot) (hl : lv_has ls 9 [(0, .ref (q 42)), (1, .ref (q 28)), (3, .int v3j34), (4, .int ((cAt 6001 A30 x28_2) + x28_2)), (5, .int v5j34)]) (hs1 : fX4_visit_J190 F x28_2 A30 A35 v3j34 ((cAt 6001 A30 x28_2) + x28_2) v5j34 x42_6j34 x42_7j34 A44j34 A46j34 A48j34 A50j34 A52j34 A54j34 = some X1) (hW : GW D cy (gA N q s.heap.size) N q m a s H) (hS : va_S (gA N q s.heap.size) s.heap H locs), W p l e ({ frames := 4, cells := 0, slots := 0, locals := 95 } : Room) s M args below meth c H locs 0 0 (MQ below (va_Qv (fun (u : (Nat → Value) × (Nat → vp_A)) => u.1 4206 = .int X0.1 ∧ u.1 4207 = .int X0.2.1 ∧ (∀ j, nel j [4206, 4207] = false → u.1 j = m0 j) ∧ u.2 44 = (6000, .inl X0.2.2.1) ∧ u.2 46 = (6000, .inl X0.2.2.2.1) ∧ u.2 48 = (6000, .inl X0.2.2.2.2.1) ∧ u.2 50 = (6000, .inl X0.2.2.2.2.2.1) ∧ u.2 52 = (6000, .inl X0.2.2.2.2.2.2.1) ∧ u.2 54 = (6000, .inl X0.2.2.2.2.2.2.2) ∧ (∀ j, nel j [44, 46, 48, 50, 52, 54] = false → u.2 j = a0 j)) (gB D cy N q s.heap.size) (gA N q s.heap.size)) args s 0 0 (gA N q s.heap.size)) (F0 M 190 ls []) := by
        intro v3j34 v5j34 x42_6j34 x42_7j34 A44j34 A46j34 A48j34 A50j34 A52j34 A54j34 m a H locs w_x42_6 w_x42_7 hoff hsh w_A44 w_A46 w_A48 w_A50 w_A52 w_A54 hoffa ls hl hs1 hW hS
        unfold fX4_visit_J190 at hs1
        refine lv_iinc (v := v5j34 + 1) (lv' := [(5, .int (v5j34 + 1)), (0, .ref (q 42)), (1, .ref (q 28)), (3, .int v3j34), (4, .int ((cAt 6001 A30 x28_2) + x28_2))]) hx hb dX4_visit_190 hl (k := 4) rfl rfl (by decide) rfl (fun ls hl => ?_)
        refine lv_goto (tgt := 30) hx hb dX4_visit_193 (by decide) ?_
        exact ih1 v3j34 (v5j34 + 1) x42_6j34 x42_7j34 A44j34 A46j34 A48j34 A50j34 A52j34 A54j34 m a _ _ w_x42_6 w_x42_7 hoff hsh w_A44 w_A46 w_A48 w_A50 w_A52 w_A54 hoffa ls (lv_sub hl [1, 2, 3, 4, 0] rfl) (hXr1 _ (Option.some.inj hs1).symm) hW hS
      have hJ152_1 : ∀ (v3j44 : Int32) (v5j44 : Int32) (x42_6j44 : Int32) (x42_7j44 : Int32) (A44j44 : Nat → Int32) (A46j44 : Nat → Int32) (A48j44 : Nat → Int32) (A50j44 : Nat → Int32) (A52j44 : Nat → Int32) (A54j44 : Nat → Int32) (m : Nat → Value) (a : Nat → vp_A) (H : Heap) (locs : List Loc) (w_x42_6 : m 4206 = .int x42_6j44) (w_x42_7 : m 4207 = .int x42_7j44) (hoff : ∀ j, nel j [4206, 4207] = false → m j = m0 j) (hsh : SH q m) (w_A44 : a 44 = (6000, .inl A44j44)) (w_A46 : a 46 = (6000, .inl A46j44)) (w_A48 : a 48 = (6000, .inl A48j44)) (w_A50 : a 50 = (6000, .inl A50j44)) (w_A52 : a 52 = (6000, .inl A52j44)) (w_A54 : a 54 = (6000, .inl A54j44)) (hoffa : ∀ j, nel j [44, 46, 48, 50, 52, 54] = false → a j = a0 j) (ls : Array Slot) (hl : lv_has ls 9 [(0, .ref (q 42)), (1, .ref (q 28)), (3, .int v3j44), (4, .int ((cAt 6001 A30 x28_2) + x28_2)), (5, .int v5j44)]) (hs1 : fX4_visit_J152 F x28_2 A30 A35 v3j44 ((cAt 6001 A30 x28_2) + x28_2) v5j44 x42_6j44 x42_7j44 A44j44 A46j44 A48j44 A50j44 A52j44 A54j44 = some X1) (hW : GW D cy (gA N q s.heap.size) N q m a s H) (hS : va_S (gA N q s.heap.size) s.heap H locs), W p l e ({ frames := 4, cells := 0, slots := 0, locals := 95 } : Room) s M args below meth c H locs 0 0 (MQ below (va_Qv (fun (u : (Nat → Value) × (Nat → vp_A)) => u.1 4206 = .int X0.1 ∧ u.1 4207 = .int X0.2.1 ∧ (∀ j, nel j [4206, 4207] = false → u.1 j = m0 j) ∧ u.2 44 = (6000, .inl X0.2.2.1) ∧ u.2 46 = (6000, .inl X0.2.2.2.1) ∧ u.2 48 = (6000, .inl X0.2.2.2.2.1) ∧ u.2 50 = (6000, .inl X0.2.2.2.2.2.1) ∧ u.2 52 = (6000, .inl X0.2.2.2.2.2.2.1) ∧ u.2 54 = (6000, .inl X0.2.2.2.2.2.2.2) ∧ (∀ j, nel j [44, 46, 48, 50, 52, 54] = false → u.2 j = a0 j)) (gB D cy N q s.heap.size) (gA N q s.heap.size)) args s 0 0 (gA N q s.heap.size)) (F0 M 152 ls []) := by
        intro v3j44 v5j44 x42_6j44 x42_7j44 A44j44 A46j44 A48j44 A50j44 A52j44 A54j44 m a H locs w_x42_6 w_x42_7 hoff hsh w_A44 w_A46 w_A48 w_A50 w_A52 w_A54 hoffa ls hl hs1 hW hS
        unfold fX4_visit_J152 at hs1
        refine lv_goto (tgt := 190) hx hb dX4_visit_152 (by decide) ?_
        exact hJ190_1 v3j44 v5j44 x42_6j44 x42_7j44 A44j44 A46j44 A48j44 A50j44 A52j44 A54j44 m a _ _ w_x42_6 w_x42_7 hoff hsh w_A44 w_A46 w_A48 w_A50 w_A52 w_A54 hoffa ls (lv_sub hl [0, 1, 2, 3, 4] rfl) hs1 hW hS
      refine lv_iload hx hb dX4_visit_30 (lv_at hl 4 rfl) ?_
      refine lv_iload hx hb dX4_visit_32 (lv_at hl 3 rfl) ?_
      refine lv_icmp_ge (tgt := 196) hx hb dX4_visit_34 (by decide) (fun c26 => ?_) (fun c26 => ?_)
      · rw [if_pos c26] at hs1
        exact hE1_196 (x42_6k3, x42_7k3, A44k3, A46k3, A48k3, A50k3, A52k3, A54k3) (hXl1 _ (Option.some.inj hs1).symm) m a _ _ w_x42_6 w_x42_7 hoff hsh w_A44 w_A46 w_A48 w_A50 w_A52 w_A54 hoffa ls (lv_sub hl [] rfl) hW hS
      · rw [if_neg c26] at hs1
        refine lv_iload_n hx hb dX4_visit_37 rfl (lv_at hl 2 rfl) ?_
        refine lv_if_lt (tgt := 196) hx hb dX4_visit_38 (by decide) (fun c27 => ?_) (fun c27 => ?_)
        · rw [if_pos c27] at hs1
          exact hE1_196 (x42_6k3, x42_7k3, A44k3, A46k3, A48k3, A50k3, A52k3, A54k3) (hXl1 _ (Option.some.inj hs1).symm) m a _ _ w_x42_6 w_x42_7 hoff hsh w_A44 w_A46 w_A48 w_A50 w_A52 w_A54 hoffa ls (lv_sub hl [] rfl) hW hS
        · rw [if_neg c27] at hs1
          refine lv_aload_n hx hb dX4_visit_41 rfl (lv_at hl 0 rfl) ?_
          refine gf4_4 hx hb hG hown hW (o := 42) (ltN hN 42 rfl) gk42 (v := .ref (q 51)) (sh42_4 hsh) gx131 dX4_visit_42 ?_
          refine lv_iload_n hx hb dX4_visit_45 rfl (lv_at hl 2 rfl) ?_
          refine g_ViR (n := 1) hx hb hml hown hG hW hS [.int v3k3] (kX2_at (ltN hN 51 rfl) gk51 (ltN hN 52 rfl) gk52 (sh51_0 hsh) (by decide) w_A52 v3k3) (ltN hN 51 rfl) gk51 (by decide) rfl rfl (gd_V gx760 gx564 gx565 gx47 gx566) rfl rfl (by decide) ⟨Nat.le_of_ble_eq_true rfl, Nat.le_of_ble_eq_true rfl⟩ rfl hl (Nat.le_of_ble_eq_true rfl) ⟨Nat.zero_le _, Nat.zero_le _⟩ dX4_visit_46 (fun H locs hW hS => ?_)
          refine lv_istore (lv' := [(6, .int (cAt 6000 A52k3 v3k3)), (0, .ref (q 42)), (1, .ref (q 28)), (3, .int v3k3), (4, .int ((cAt 6001 A30 x28_2) + x28_2)), (5, .int v5k3)]) hx hb dX4_visit_49 hl (by decide) rfl (fun ls hl => ?_)
          refine lv_aload_n hx hb dX4_visit_51 rfl (lv_at hl 1 rfl) ?_
          refine gf4_5 hx hb hG hown hW (o := 42) (ltN hN 42 rfl) gk42 (v := .ref (q 53)) (sh42_5 hsh) gx132 dX4_visit_52 ?_
          refine lv_iload_n hx hb dX4_visit_55 rfl (lv_at hl 3 rfl) ?_
          refine g_ViR (n := 1) hx hb hml hown hG hW hS [.int v3k3] (kX2_at (ltN hN 53 rfl) gk53 (ltN hN 54 rfl) gk54 (sh53_0 hsh) (by decide) w_A54 v3k3) (ltN hN 53 rfl) gk53 (by decide) rfl rfl (gd_V gx760 gx564 gx565 gx47 gx566) rfl rfl (by decide) ⟨Nat.le_of_ble_eq_true rfl, Nat.le_of_ble_eq_true rfl⟩ rfl hl (Nat.le_of_ble_eq_true rfl) ⟨Nat.zero_le _, Nat.zero_le _⟩ dX4_visit_56 (fun H locs hW hS => ?_)
          refine lv_istore (lv' := [(7, .int (cAt 6000 A54k3 v3k3)), (6, .int (cAt 6000 A52k3 v3k3)), (0, .ref (q 42)), (1, .ref (q 28)), (3, .int v3k3), (4, .int ((cAt 6001 A30 x28_2) + x28_2)), (5, .int v5k3)]) hx hb dX4_visit_59 hl (by decide) rfl (fun ls hl => ?_)
          refine lv_iload hx hb dX4_visit_61 (lv_at hl 0 rfl) ?_
          refine lv_aload_n hx hb dX4_visit_63 rfl (lv_at hl 3 rfl) ?_
          refine gf1_0 hx hb hG hown hW (o := 28) (ltN hN 28 rfl) gk28 (v := .ref (q 29)) (sh28_0 hsh) gx765 dX4_visit_64 ?_
          refine lv_iload hx hb dX4_visit_67 (lv_at hl 1 rfl) ?_
          refine lv_iconst (v := 1) hx hb dX4_visit_69 (by decide) ?_
          refine lv_iadd hx hb dX4_visit_70 ?_
          refine g_ViR (n := 1) hx hb hml hown hG hW hS [.int ((cAt 6000 A52k3 v3k3) + 1)] (kX2_at (ltN hN 29 rfl) gk29 (ltN hN 30 rfl) gk30 (sh29_0 hsh) (by decide) ((hoffa 30 rfl).trans h_A30) ((cAt 6000 A52k3 v3k3) + 1)) (ltN hN 29 rfl) gk29 (by decide) rfl rfl (gd_V gx760 gx564 gx565 gx47 gx566) rfl rfl (by decide) ⟨Nat.le_of_ble_eq_true rfl, Nat.le_of_ble_eq_true rfl⟩ rfl hl (Nat.le_of_ble_eq_true rfl) ⟨Nat.zero_le _, Nat.zero_le _⟩ dX4_visit_71 (fun H locs hW hS => ?_)
          refine lv_icmp_ge (tgt := 155) hx hb dX4_visit_74 (by decide) (fun c31 => ?_) (fun c31 => ?_)
          · rw [if_pos c31] at hs1
            refine lv_aload_n hx hb dX4_visit_155 rfl (lv_at hl 2 rfl) ?_
            refine lv_aload_n hx hb dX4_visit_156 rfl (lv_at hl 3 rfl) ?_
            refine lv_iload hx hb dX4_visit_157 (lv_at hl 1 rfl) ?_
            obtain ⟨r32, hf32, hs1⟩ := obind hs1
            refine g_Vv (n := 2) hx hb hml hown hG hW hS [.ref (q 28), .int (cAt 6000 A52k3 v3k3)] (kX4_closeAt hN hsh ((hoffa 30 rfl).trans h_A30) ((hoffa 35 rfl).trans h_A35) w_A46 w_A48 w_A50 w_x42_7 w_A44 F (cAt 6000 A52k3 v3k3) hf32) (ltN hN 42 rfl) gk42 (by decide) rfl rfl (gd_V gx780 gx781 gx782 gx94 gx783) rfl rfl (by decide) ⟨Nat.le_of_ble_eq_true rfl, Nat.le_of_ble_eq_true rfl⟩ rfl hl (Nat.le_of_ble_eq_true rfl) ⟨Nat.zero_le _, Nat.zero_le _⟩ dX4_visit_159 (fun m32 a32 H locs hp32 hW hS => ?_)
            obtain ⟨hp32_x42_7, ho32, hp32_A44, hoa32⟩ := hp32
            have w_x42_6 : m32 4206 = .int x42_6k3 := (ho32 4206 rfl).trans w_x42_6
            have w_x42_7 : m32 4207 = .int r32.1 := hp32_x42_7
            have hoff := offm hoff ho32 (by decide +kernel)
            have hsh := SH.off hsh ho32 (by decide +kernel)
            have w_A44 : a32 44 = (6000, .inl r32.2) := hp32_A44
            have w_A46 : a32 46 = (6000, .inl A46k3) := (hoa32 46 rfl).trans w_A46
            have w_A48 : a32 48 = (6000, .inl A48k3) := (hoa32 48 rfl).trans w_A48
            have w_A50 : a32 50 = (6000, .inl A50k3) := (hoa32 50 rfl).trans w_A50
            have w_A52 : a32 52 = (6000, .inl A52k3) := (hoa32 52 rfl).trans w_A52
            have w_A54 : a32 54 = (6000, .inl A54k3) := (hoa32 54 rfl).trans w_A54
            have hoffa := offm hoffa hoa32 (by decide +kernel)
            refine lv_iinc (v := v3k3 + (-1)) (lv' := [(3, .int (v3k3 + (-1))), (7, .int (cAt 6000 A54k3 v3k3)), (6, .int (cAt 6000 A52k3 v3k3)), (0, .ref (q 42)), (1, .ref (q 28)), (4, .int ((cAt 6001 A30 x28_2) + x28_2)), (5, .int v5k3)]) hx hb dX4_visit_162 hl (k := 4) rfl (congrArg (fun z => v3k3 + z) (by decide : Int32.ofInt (-1) = (-1))) (by decide) rfl (fun ls hl => ?_)
            refine lv_iload_n hx hb dX4_visit_165 rfl (lv_at hl 0 rfl) ?_
            refine lv_if_lt (tgt := 190) hx hb dX4_visit_166 (by decide) (fun c33 => ?_) (fun c33 => ?_)
            · rw [if_pos c33] at hs1
              exact hJ190_1 (v3k3 + (-1)) v5k3 x42_6k3 r32.1 r32.2 A46k3 A48k3 A50k3 A52k3 A54k3 m32 a32 _ _ w_x42_6 w_x42_7 hoff hsh w_A44 w_A46 w_A48 w_A50 w_A52 w_A54 hoffa ls (lv_sub hl [3, 4, 0, 5, 6] rfl) hs1 hW hS
            · rw [if_neg c33] at hs1
              refine lv_aload_n hx hb dX4_visit_169 rfl (lv_at hl 3 rfl) ?_
              refine lv_aload_n hx hb dX4_visit_170 rfl (lv_at hl 3 rfl) ?_
              refine gf4_4 hx hb hG hown hW (o := 42) (ltN hN 42 rfl) gk42 (v := .ref (q 51)) (sh42_4 hsh) gx131 dX4_visit_171 ?_
              refine lv_iload_n hx hb dX4_visit_174 rfl (lv_at hl 0 rfl) ?_
              refine g_ViR (n := 1) hx hb hml hown hG hW hS [.int (v3k3 + (-1))] (kX2_at (ltN hN 51 rfl) gk51 (ltN hN 52 rfl) gk52 (sh51_0 hsh) (by decide) w_A52 (v3k3 + (-1))) (ltN hN 51 rfl) gk51 (by decide) rfl rfl (gd_V gx760 gx564 gx565 gx47 gx566) rfl rfl (by decide) ⟨Nat.le_of_ble_eq_true rfl, Nat.le_of_ble_eq_true rfl⟩ rfl hl (Nat.le_of_ble_eq_true rfl) ⟨Nat.zero_le _, Nat.zero_le _⟩ dX4_visit_175 (fun H locs hW hS => ?_)
              refine lv_aload_n hx hb dX4_visit_178 rfl (lv_at hl 3 rfl) ?_
              refine gf4_2 hx hb hG hown hW (o := 42) (ltN hN 42 rfl) gk42 (v := .ref (q 47)) (sh42_2 hsh) gx129 dX4_visit_179 ?_
              refine lv_iload hx hb dX4_visit_182 (lv_at hl 2 rfl) ?_
              refine g_ViR (n := 1) hx hb hml hown hG hW hS [.int (cAt 6000 A52k3 v3k3)] (kX2_at (ltN hN 47 rfl) gk47 (ltN hN 48 rfl) gk48 (sh47_0 hsh) (by decide) w_A48 (cAt 6000 A52k3 v3k3)) (ltN hN 47 rfl) gk47 (by decide) rfl rfl (gd_V gx760 gx564 gx565 gx47 gx566) rfl rfl (by decide) ⟨Nat.le_of_ble_eq_true rfl, Nat.le_of_ble_eq_true rfl⟩ rfl hl (Nat.le_of_ble_eq_true rfl) ⟨Nat.zero_le _, Nat.zero_le _⟩ dX4_visit_184 (fun H locs hW hS => ?_)
              refine g_Vv (n := 2) hx hb hml hown hG hW hS [.int (cAt 6000 A52k3 (v3k3 + (-1))), .int (cAt 6000 A48k3 (cAt 6000 A52k3 v3k3))] (kX4_lower hN hsh w_A48 (cAt 6000 A52k3 (v3k3 + (-1))) (cAt 6000 A48k3 (cAt 6000 A52k3 v3k3))) (ltN hN 42 rfl) gk42 (by decide) rfl rfl (gd_V gx775 gx776 gx777 gx94 gx778) rfl rfl (by decide) ⟨Nat.le_of_ble_eq_true rfl, Nat.le_of_ble_eq_true rfl⟩ rfl hl (Nat.le_of_ble_eq_true rfl) ⟨Nat.zero_le _, Nat.zero_le _⟩ dX4_visit_187 (fun m37 a37 H locs hp37 hW hS => ?_)
              obtain ⟨hm37, hp37_A48, hoa37⟩ := hp37
              rw [hm37] at hW
              have w_A44 : a37 44 = (6000, .inl r32.2) := (hoa37 44 rfl).trans w_A44
              have w_A46 : a37 46 = (6000, .inl A46k3) := (hoa37 46 rfl).trans w_A46
              have w_A48 : a37 48 = (6000, .inl (fX4_lower A48k3 (cAt 6000 A52k3 (v3k3 + (-1))) (cAt 6000 A48k3 (cAt 6000 A52k3 v3k3)))) := hp37_A48
              have w_A50 : a37 50 = (6000, .inl A50k3) := (hoa37 50 rfl).trans w_A50
              have w_A52 : a37 52 = (6000, .inl A52k3) := (hoa37 52 rfl).trans w_A52
              have w_A54 : a37 54 = (6000, .inl A54k3) := (hoa37 54 rfl).trans w_A54
              have hoffa := offm hoffa hoa37 (by decide +kernel)
              exact hJ190_1 (v3k3 + (-1)) v5k3 x42_6k3 r32.1 r32.2 A46k3 (fX4_lower A48k3 (cAt 6000 A52k3 (v3k3 + (-1))) (cAt 6000 A48k3 (cAt 6000 A52k3 v3k3))) A50k3 A52k3 A54k3 m32 a37 _ _ w_x42_6 w_x42_7 hoff hsh w_A44 w_A46 w_A48 w_A50 w_A52 w_A54 hoffa ls (lv_sub hl [3, 4, 0, 5, 6] rfl) hs1 hW hS
          · rw [if_neg c31] at hs1
            refine lv_aload_n hx hb dX4_visit_77 rfl (lv_at hl 2 rfl) ?_
            refine gf4_5 hx hb hG hown hW (o := 42) (ltN hN 42 rfl) gk42 (v := .ref (q 53)) (sh42_5 hsh) gx132 dX4_visit_78 ?_
            refine lv_iload_n hx hb dX4_visit_81 rfl (lv_at hl 4 rfl) ?_
            refine lv_iload hx hb dX4_visit_82 (lv_at hl 0 rfl) ?_
            refine lv_iconst (v := 1) hx hb dX4_visit_84 (by decide) ?_
            refine lv_iadd hx hb dX4_visit_85 ?_
            refine g_Vv (n := 2) hx hb hml hown hG hW hS [.int v3k3, .int ((cAt 6000 A54k3 v3k3) + 1)] (kX2_put (ltN hN 53 rfl) gk53 (ltN hN 54 rfl) gk54 (sh53_0 hsh) (by decide) w_A54 v3k3 ((cAt 6000 A54k3 v3k3) + 1)) (ltN hN 53 rfl) gk53 (by decide) rfl rfl (gd_V gx770 gx551 gx552 gx47 gx553) rfl rfl (by decide) ⟨Nat.le_of_ble_eq_true rfl, Nat.le_of_ble_eq_true rfl⟩ rfl hl (Nat.le_of_ble_eq_true rfl) ⟨Nat.zero_le _, Nat.zero_le _⟩ dX4_visit_86 (fun m38 a38 H locs hp38 hW hS => ?_)
            obtain ⟨hm38, hp38_A54, hoa38⟩ := hp38
            rw [hm38] at hW
            have w_A44 : a38 44 = (6000, .inl A44k3) := (hoa38 44 rfl).trans w_A44
            have w_A46 : a38 46 = (6000, .inl A46k3) := (hoa38 46 rfl).trans w_A46
            have w_A48 : a38 48 = (6000, .inl A48k3) := (hoa38 48 rfl).trans w_A48
            have w_A50 : a38 50 = (6000, .inl A50k3) := (hoa38 50 rfl).trans w_A50
            have w_A52 : a38 52 = (6000, .inl A52k3) := (hoa38 52 rfl).trans w_A52
            have w_A54 : a38 54 = (6000, .inl (cPut 6000 A54k3 v3k3 ((cAt 6000 A54k3 v3k3) + 1))) := hp38_A54
            have hoffa := offm hoffa hoa38 (by decide +kernel)
            refine lv_aload_n hx hb dX4_visit_89 rfl (lv_at hl 3 rfl) ?_
            refine lv_iload hx hb dX4_visit_90 (lv_at hl 0 rfl) ?_
            refine g_ViR (n := 1) hx hb hml hown hG hW hS [.int (cAt 6000 A54k3 v3k3)] (kX1_targetOf hN hsh ((hoffa 35 rfl).trans h_A35) (cAt 6000 A54k3 v3k3)) (ltN hN 28 rfl) gk28 (by decide) rfl rfl (gd_V gx771 gx772 gx773 gx86 gx774) rfl rfl (by decide) ⟨Nat.le_of_ble_eq_true rfl, Nat.le_of_ble_eq_true rfl⟩ rfl hl (Nat.le_of_ble_eq_true rfl) ⟨Nat.zero_le _, Nat.zero_le _⟩ dX4_visit_92 (fun H locs hW hS => ?_)
            refine lv_istore (lv' := [(8, .int (fX1_targetOf A35 (cAt 6000 A54k3 v3k3))), (7, .int (cAt 6000 A54k3 v3k3)), (6, .int (cAt 6000 A52k3 v3k3)), (0, .ref (q 42)), (1, .ref (q 28)), (3, .int v3k3), (4, .int ((cAt 6001 A30 x28_2) + x28_2)), (5, .int v5k3)]) hx hb dX4_visit_95 hl (by decide) rfl (fun ls hl => ?_)
            refine lv_aload_n hx hb dX4_visit_97 rfl (lv_at hl 3 rfl) ?_
            refine gf4_1 hx hb hG hown hW (o := 42) (ltN hN 42 rfl) gk42 (v := .ref (q 45)) (sh42_1 hsh) gx128 dX4_visit_98 ?_
            refine lv_iload hx hb dX4_visit_101 (lv_at hl 0 rfl) ?_
            refine g_ViR (n := 1) hx hb hml hown hG hW hS [.int (fX1_targetOf A35 (cAt 6000 A54k3 v3k3))] (kX2_at (ltN hN 45 rfl) gk45 (ltN hN 46 rfl) gk46 (sh45_0 hsh) (by decide) w_A46 (fX1_targetOf A35 (cAt 6000 A54k3 v3k3))) (ltN hN 45 rfl) gk45 (by decide) rfl rfl (gd_V gx760 gx564 gx565 gx47 gx566) rfl rfl (by decide) ⟨Nat.le_of_ble_eq_true rfl, Nat.le_of_ble_eq_true rfl⟩ rfl hl (Nat.le_of_ble_eq_true rfl) ⟨Nat.zero_le _, Nat.zero_le _⟩ dX4_visit_103 (fun H locs hW hS => ?_)
            refine lv_if_ne (tgt := 123) hx hb dX4_visit_106 (by decide) (fun c41 => ?_) (fun c41 => ?_)
            · rw [if_neg c41] at hs1
              refine lv_aload_n hx hb dX4_visit_123 rfl (lv_at hl 3 rfl) ?_
              refine gf4_0 hx hb hG hown hW (o := 42) (ltN hN 42 rfl) gk42 (v := .ref (q 43)) (sh42_0 hsh) gx127 dX4_visit_124 ?_
              refine lv_iload hx hb dX4_visit_127 (lv_at hl 0 rfl) ?_
              refine g_ViR (n := 1) hx hb hml hown hG hW hS [.int (fX1_targetOf A35 (cAt 6000 A54k3 v3k3))] (kX2_at (ltN hN 43 rfl) gk43 (ltN hN 44 rfl) gk44 (sh43_0 hsh) (by decide) w_A44 (fX1_targetOf A35 (cAt 6000 A54k3 v3k3))) (ltN hN 43 rfl) gk43 (by decide) rfl rfl (gd_V gx760 gx564 gx565 gx47 gx566) rfl rfl (by decide) ⟨Nat.le_of_ble_eq_true rfl, Nat.le_of_ble_eq_true rfl⟩ rfl hl (Nat.le_of_ble_eq_true rfl) ⟨Nat.zero_le _, Nat.zero_le _⟩ dX4_visit_129 (fun H locs hW hS => ?_)
              refine lv_bipush (v := (-3)) hx hb dX4_visit_132 (by decide) ?_
              refine lv_icmp_ne (tgt := 152) hx hb dX4_visit_134 (by decide) (fun c43 => ?_) (fun c43 => ?_)
              · rw [if_neg c43] at hs1
                exact hJ152_1 v3k3 v5k3 x42_6k3 x42_7k3 A44k3 A46k3 A48k3 A50k3 A52k3 (cPut 6000 A54k3 v3k3 ((cAt 6000 A54k3 v3k3) + 1)) m a38 _ _ w_x42_6 w_x42_7 hoff hsh w_A44 w_A46 w_A48 w_A50 w_A52 w_A54 hoffa ls (lv_sub hl [3, 4, 5, 6, 7] rfl) hs1 hW hS
              · rw [if_pos c43] at hs1
                refine lv_aload_n hx hb dX4_visit_137 rfl (lv_at hl 3 rfl) ?_
                refine lv_iload hx hb dX4_visit_138 (lv_at hl 2 rfl) ?_
                refine lv_aload_n hx hb dX4_visit_140 rfl (lv_at hl 3 rfl) ?_
                refine gf4_1 hx hb hG hown hW (o := 42) (ltN hN 42 rfl) gk42 (v := .ref (q 45)) (sh42_1 hsh) gx128 dX4_visit_141 ?_
                refine lv_iload hx hb dX4_visit_144 (lv_at hl 0 rfl) ?_
                refine g_ViR (n := 1) hx hb hml hown hG hW hS [.int (fX1_targetOf A35 (cAt 6000 A54k3 v3k3))] (kX2_at (ltN hN 45 rfl) gk45 (ltN hN 46 rfl) gk46 (sh45_0 hsh) (by decide) w_A46 (fX1_targetOf A35 (cAt 6000 A54k3 v3k3))) (ltN hN 45 rfl) gk45 (by decide) rfl rfl (gd_V gx760 gx564 gx565 gx47 gx566) rfl rfl (by decide) ⟨Nat.le_of_ble_eq_true rfl, Nat.le_of_ble_eq_true rfl⟩ rfl hl (Nat.le_of_ble_eq_true rfl) ⟨Nat.zero_le _, Nat.zero_le _⟩ dX4_visit_146 (fun H locs hW hS => ?_)
                refine g_Vv (n := 2) hx hb hml hown hG hW hS [.int (cAt 6000 A52k3 v3k3), .int (cAt 6000 A46k3 (fX1_targetOf A35 (cAt 6000 A54k3 v3k3)))] (kX4_lower hN hsh w_A48 (cAt 6000 A52k3 v3k3) (cAt 6000 A46k3 (fX1_targetOf A35 (cAt 6000 A54k3 v3k3)))) (ltN hN 42 rfl) gk42 (by decide) rfl rfl (gd_V gx775 gx776 gx777 gx94 gx778) rfl rfl (by decide) ⟨Nat.le_of_ble_eq_true rfl, Nat.le_of_ble_eq_true rfl⟩ rfl hl (Nat.le_of_ble_eq_true rfl) ⟨Nat.zero_le _, Nat.zero_le _⟩ dX4_visit_149 (fun m46 a46 H locs hp46 hW hS => ?_)
                obtain ⟨hm46, hp46_A48, hoa46⟩ := hp46
                rw [hm46] at hW
                have w_A44 : a46 44 = (6000, .inl A44k3) := (hoa46 44 rfl).trans w_A44
                have w_A46 : a46 46 = (6000, .inl A46k3) := (hoa46 46 rfl).trans w_A46
                have w_A48 : a46 48 = (6000, .inl (fX4_lower A48k3 (cAt 6000 A52k3 v3k3) (cAt 6000 A46k3 (fX1_targetOf A35 (cAt 6000 A54k3 v3k3))))) := hp46_A48
                have w_A50 : a46 50 = (6000, .inl A50k3) := (hoa46 50 rfl).trans w_A50
                have w_A52 : a46 52 = (6000, .inl A52k3) := (hoa46 52 rfl).trans w_A52
                have w_A54 : a46 54 = (6000, .inl (cPut 6000 A54k3 v3k3 ((cAt 6000 A54k3 v3k3) + 1))) := (hoa46 54 rfl).trans w_A54
                have hoffa := offm hoffa hoa46 (by decide +kernel)
                exact hJ152_1 v3k3 v5k3 x42_6k3 x42_7k3 A44k3 A46k3 (fX4_lower A48k3 (cAt 6000 A52k3 v3k3) (cAt 6000 A46k3 (fX1_targetOf A35 (cAt 6000 A54k3 v3k3)))) A50k3 A52k3 (cPut 6000 A54k3 v3k3 ((cAt 6000 A54k3 v3k3) + 1)) m a46 _ _ w_x42_6 w_x42_7 hoff hsh w_A44 w_A46 w_A48 w_A50 w_A52 w_A54 hoffa ls (lv_sub hl [3, 4, 5, 6, 7] rfl) hs1 hW hS
            · rw [if_pos c41] at hs1
              refine lv_iinc (v := v3k3 + 1) (lv' := [(3, .int (v3k3 + 1)), (8, .int (fX1_targetOf A35 (cAt 6000 A54k3 v3k3))), (7, .int (cAt 6000 A54k3 v3k3)), (6, .int (cAt 6000 A52k3 v3k3)), (0, .ref (q 42)), (1, .ref (q 28)), (4, .int ((cAt 6001 A30 x28_2) + x28_2)), (5, .int v5k3)]) hx hb dX4_visit_109 hl (k := 5) rfl rfl (by decide) rfl (fun ls hl => ?_)
              refine lv_aload_n hx hb dX4_visit_112 rfl (lv_at hl 4 rfl) ?_
              refine lv_aload_n hx hb dX4_visit_113 rfl (lv_at hl 5 rfl) ?_
              refine lv_iload hx hb dX4_visit_114 (lv_at hl 1 rfl) ?_
              refine lv_iload_n hx hb dX4_visit_116 rfl (lv_at hl 0 rfl) ?_
              refine g_Vv (n := 3) hx hb hml hown hG hW hS [.ref (q 28), .int (fX1_targetOf A35 (cAt 6000 A54k3 v3k3)), .int (v3k3 + 1)] (kX4_enter hN hsh ((hoffa 30 rfl).trans h_A30) w_x42_6 w_x42_7 w_A46 w_A48 w_A50 w_A52 w_A54 (fX1_targetOf A35 (cAt 6000 A54k3 v3k3)) (v3k3 + 1)) (ltN hN 42 rfl) gk42 (by decide) rfl rfl (gd_V gx766 gx767 gx768 gx94 gx769) rfl rfl (by decide) ⟨Nat.le_of_ble_eq_true rfl, Nat.le_of_ble_eq_true rfl⟩ rfl hl (Nat.le_of_ble_eq_true rfl) ⟨Nat.zero_le _, Nat.zero_le _⟩ dX4_visit_117 (fun m47 a47 H locs hp47 hW hS => ?_)
              obtain ⟨hp47_x42_6, hp47_x42_7, ho47, hp47_A46, hp47_A48, hp47_A50, hp47_A52, hp47_A54, hoa47⟩ := hp47
              have w_x42_6 : m47 4206 = .int ((fX4_enter A30 x42_6k3 x42_7k3 A46k3 A48k3 A50k3 A52k3 (cPut 6000 A54k3 v3k3 ((cAt 6000 A54k3 v3k3) + 1)) (fX1_targetOf A35 (cAt 6000 A54k3 v3k3)) (v3k3 + 1)).1) := hp47_x42_6
              have w_x42_7 : m47 4207 = .int ((fX4_enter A30 x42_6k3 x42_7k3 A46k3 A48k3 A50k3 A52k3 (cPut 6000 A54k3 v3k3 ((cAt 6000 A54k3 v3k3) + 1)) (fX1_targetOf A35 (cAt 6000 A54k3 v3k3)) (v3k3 + 1)).2.1) := hp47_x42_7
              have hoff := offm hoff ho47 (by decide +kernel)
              have hsh := SH.off hsh ho47 (by decide +kernel)
              have w_A44 : a47 44 = (6000, .inl A44k3) := (hoa47 44 rfl).trans w_A44
              have w_A46 : a47 46 = (6000, .inl ((fX4_enter A30 x42_6k3 x42_7k3 A46k3 A48k3 A50k3 A52k3 (cPut 6000 A54k3 v3k3 ((cAt 6000 A54k3 v3k3) + 1)) (fX1_targetOf A35 (cAt 6000 A54k3 v3k3)) (v3k3 + 1)).2.2.1)) := hp47_A46
              have w_A48 : a47 48 = (6000, .inl ((fX4_enter A30 x42_6k3 x42_7k3 A46k3 A48k3 A50k3 A52k3 (cPut 6000 A54k3 v3k3 ((cAt 6000 A54k3 v3k3) + 1)) (fX1_targetOf A35 (cAt 6000 A54k3 v3k3)) (v3k3 + 1)).2.2.2.1)) := hp47_A48
              have w_A50 : a47 50 = (6000, .inl ((fX4_enter A30 x42_6k3 x42_7k3 A46k3 A48k3 A50k3 A52k3 (cPut 6000 A54k3 v3k3 ((cAt 6000 A54k3 v3k3) + 1)) (fX1_targetOf A35 (cAt 6000 A54k3 v3k3)) (v3k3 + 1)).2.2.2.2.1)) := hp47_A50
              have w_A52 : a47 52 = (6000, .inl ((fX4_enter A30 x42_6k3 x42_7k3 A46k3 A48k3 A50k3 A52k3 (cPut 6000 A54k3 v3k3 ((cAt 6000 A54k3 v3k3) + 1)) (fX1_targetOf A35 (cAt 6000 A54k3 v3k3)) (v3k3 + 1)).2.2.2.2.2.1)) := hp47_A52
              have w_A54 : a47 54 = (6000, .inl ((fX4_enter A30 x42_6k3 x42_7k3 A46k3 A48k3 A50k3 A52k3 (cPut 6000 A54k3 v3k3 ((cAt 6000 A54k3 v3k3) + 1)) (fX1_targetOf A35 (cAt 6000 A54k3 v3k3)) (v3k3 + 1)).2.2.2.2.2.2)) := hp47_A54
              have hoffa := offm hoffa hoa47 (by decide +kernel)
              refine lv_goto (tgt := 152) hx hb dX4_visit_120 (by decide) ?_
              exact hJ152_1 (v3k3 + 1) v5k3 ((fX4_enter A30 x42_6k3 x42_7k3 A46k3 A48k3 A50k3 A52k3 (cPut 6000 A54k3 v3k3 ((cAt 6000 A54k3 v3k3) + 1)) (fX1_targetOf A35 (cAt 6000 A54k3 v3k3)) (v3k3 + 1)).1) ((fX4_enter A30 x42_6k3 x42_7k3 A46k3 A48k3 A50k3 A52k3 (cPut 6000 A54k3 v3k3 ((cAt 6000 A54k3 v3k3) + 1)) (fX1_targetOf A35 (cAt 6000 A54k3 v3k3)) (v3k3 + 1)).2.1) A44k3 ((fX4_enter A30 x42_6k3 x42_7k3 A46k3 A48k3 A50k3 A52k3 (cPut 6000 A54k3 v3k3 ((cAt 6000 A54k3 v3k3) + 1)) (fX1_targetOf A35 (cAt 6000 A54k3 v3k3)) (v3k3 + 1)).2.2.1) ((fX4_enter A30 x42_6k3 x42_7k3 A46k3 A48k3 A50k3 A52k3 (cPut 6000 A54k3 v3k3 ((cAt 6000 A54k3 v3k3) + 1)) (fX1_targetOf A35 (cAt 6000 A54k3 v3k3)) (v3k3 + 1)).2.2.2.1) ((fX4_enter A30 x42_6k3 x42_7k3 A46k3 A48k3 A50k3 A52k3 (cPut 6000 A54k3 v3k3 ((cAt 6000 A54k3 v3k3) + 1)) (fX1_targetOf A35 (cAt 6000 A54k3 v3k3)) (v3k3 + 1)).2.2.2.2.1) ((fX4_enter A30 x42_6k3 x42_7k3 A46k3 A48k3 A50k3 A52k3 (cPut 6000 A54k3 v3k3 ((cAt 6000 A54k3 v3k3) + 1)) (fX1_targetOf A35 (cAt 6000 A54k3 v3k3)) (v3k3 + 1)).2.2.2.2.2.1) ((fX4_enter A30 x42_6k3 x42_7k3 A46k3 A48k3 A50k3 A52k3 (cPut 6000 A54k3 v3k3 ((cAt 6000 A54k3 v3k3) + 1)) (fX1_targetOf A35 (cAt 6000 A54k3 v3k3)) (v3k3 + 1)).2.2.2.2.2.2) m47 a47 _ _ w_x42_6 w_x42_7 hoff hsh w_A44 w_A46 w_A48 w_A50 w_A52 w_A54 hoffa ls (lv_sub hl [4, 5, 0, 6, 7] rfl) hs1 hW hS
  exact hL1 F 0 0 ((fX4_enter A30 x42_6 x42_7 A46 A48 A50 A52 A54 p2 0).1) ((fX4_enter A30 x42_6 x42_7 A46 A48 A50 A52 A54 p2 0).2.1) A44 ((fX4_enter A30 x42_6 x42_7 A46 A48 A50 A52 A54 p2 0).2.2.1) ((fX4_enter A30 x42_6 x42_7 A46 A48 A50 A52 A54 p2 0).2.2.2.1) ((fX4_enter A30 x42_6 x42_7 A46 A48 A50 A52 A54 p2 0).2.2.2.2.1) ((fX4_enter A30 x42_6 x42_7 A46 A48 A50 A52 A54 p2 0).2.2.2.2.2.1) ((fX4_enter A30 x42_6 x42_7 A46 A48 A50 A52 A54 p2 0).2.2.2.2.2.2) m1 a1 _ _ w_x42_6 w_x42_7 hoff hsh w_A44 w_A46 w_A48 w_A50 w_A52 w_A54 hoffa ls (lv_sub hl [3, 4, 2, 1, 0] rfl) hg3 hW hS
-- HealLink$Depths.measure (LHealLink$Atlas;)V
def fX4_measure_J54 (F : Nat) (x28_2 : Int32) (A30 : Nat → Int32) (A35 : Nat → Int32) (v2j9 : Int32) (x42_6j9 : Int32) (x42_7j9 : Int32) (A44j9 : Nat → Int32) (A46j9 : Nat → Int32) (A48j9 : Nat → Int32) (A50j9 : Nat → Int32) (A52j9 : Nat → Int32) (A54j9 : Nat → Int32) : Option ((Int32 × Int32 × (Nat → Int32) × (Nat → Int32) × (Nat → Int32) × (Nat → Int32) × (Nat → Int32) × (Nat → Int32)) ⊕ (Int32 × Int32 × Int32 × (Nat → Int32) × (Nat → Int32) × (Nat → Int32) × (Nat → Int32) × (Nat → Int32) × (Nat → Int32))) := some (Sum.inr (v2j9 + 1, x42_6j9, x42_7j9, A44j9, A46j9, A48j9, A50j9, A52j9, A54j9))
def fX4_measure_S29 (F : Nat) (x28_2 : Int32) (A30 : Nat → Int32) (A35 : Nat → Int32) (v2 : Int32) (x42_6 : Int32) (x42_7 : Int32) (A44 : Nat → Int32) (A46 : Nat → Int32) (A48 : Nat → Int32) (A50 : Nat → Int32) (A52 : Nat → Int32) (A54 : Nat → Int32) : Option ((Int32 × Int32 × (Nat → Int32) × (Nat → Int32) × (Nat → Int32) × (Nat → Int32) × (Nat → Int32) × (Nat → Int32)) ⊕ (Int32 × Int32 × Int32 × (Nat → Int32) × (Nat → Int32) × (Nat → Int32) × (Nat → Int32) × (Nat → Int32) × (Nat → Int32))) := (if x28_2 ≤ v2 then some (Sum.inl (x42_6, x42_7, A44, A46, A48, A50, A52, A54)) else (if (cAt 6000 A46 v2) = 0 then ((fX4_visit F x28_2 A30 A35 x42_6 x42_7 A44 A46 A48 A50 A52 A54 v2).bind (fun r10 => fX4_measure_J54 F x28_2 A30 A35 v2 r10.1 r10.2.1 r10.2.2.1 r10.2.2.2.1 r10.2.2.2.2.1 r10.2.2.2.2.2.1 r10.2.2.2.2.2.2.1 r10.2.2.2.2.2.2.2)) else fX4_measure_J54 F x28_2 A30 A35 v2 x42_6 x42_7 A44 A46 A48 A50 A52 A54))
def fX4_measure (F : Nat) (x28_2 : Int32) (A30 : Nat → Int32) (A35 : Nat → Int32) (x42_6 : Int32) (x42_7 : Int32) (A44 : Nat → Int32) (A46 : Nat → Int32) (A48 : Nat → Int32) (A50 : Nat → Int32) (A52 : Nat → Int32) (A54 : Nat → Int32) : Option (Int32 × Int32 × (Nat → Int32) × (Nat → Int32) × (Nat → Int32) × (Nat → Int32) × (Nat → Int32) × (Nat → Int32)) := (gloop (fun u5 : (Int32 × Int32 × Int32 × (Nat → Int32) × (Nat → Int32) × (Nat → Int32) × (Nat → Int32) × (Nat → Int32) × (Nat → Int32)) => fX4_measure_S29 F x28_2 A30 A35 u5.1 u5.2.1 u5.2.2.1 u5.2.2.2.1 u5.2.2.2.2.1 u5.2.2.2.2.2.1 u5.2.2.2.2.2.2.1 u5.2.2.2.2.2.2.2.1 u5.2.2.2.2.2.2.2.2) F (0, 0, 0, (cFill 6000 A44 (-3)), (cFill 6000 A46 0), A48, A50, A52, A54)).bind (fun t5_60 => some (t5_60.1, t5_60.2.1, t5_60.2.2.1, t5_60.2.2.2.1, t5_60.2.2.2.2.1, t5_60.2.2.2.2.2.1, t5_60.2.2.2.2.2.2.1, t5_60.2.2.2.2.2.2.2))
theorem dX4_measure_0 : decode cX4_measure 0 = .ok (.aload_n 0, 1) := by decide +kernel
theorem dX4_measure_1 : decode cX4_measure 1 = .ok (.getfield 20, 3) := by decide +kernel
theorem dX4_measure_4 : decode cX4_measure 4 = .ok (.iconst 0, 1) := by decide +kernel
theorem dX4_measure_5 : decode cX4_measure 5 = .ok (.invokevirtual 35, 3) := by decide +kernel
theorem dX4_measure_8 : decode cX4_measure 8 = .ok (.aload_n 0, 1) := by decide +kernel
theorem dX4_measure_9 : decode cX4_measure 9 = .ok (.getfield 14, 3) := by decide +kernel
theorem dX4_measure_12 : decode cX4_measure 12 = .ok (.bipush (-3), 2) := by decide +kernel
theorem dX4_measure_14 : decode cX4_measure 14 = .ok (.invokevirtual 35, 3) := by decide +kernel
theorem dX4_measure_17 : decode cX4_measure 17 = .ok (.aload_n 0, 1) := by decide +kernel
theorem dX4_measure_18 : decode cX4_measure 18 = .ok (.iconst 0, 1) := by decide +kernel
theorem dX4_measure_19 : decode cX4_measure 19 = .ok (.putfield 38, 3) := by decide +kernel
theorem dX4_measure_22 : decode cX4_measure 22 = .ok (.aload_n 0, 1) := by decide +kernel
theorem dX4_measure_23 : decode cX4_measure 23 = .ok (.iconst 0, 1) := by decide +kernel
theorem dX4_measure_24 : decode cX4_measure 24 = .ok (.putfield 42, 3) := by decide +kernel
theorem dX4_measure_27 : decode cX4_measure 27 = .ok (.iconst 0, 1) := by decide +kernel
theorem dX4_measure_28 : decode cX4_measure 28 = .ok (.istore_n 2, 1) := by decide +kernel
theorem dX4_measure_29 : decode cX4_measure 29 = .ok (.iload_n 2, 1) := by decide +kernel
theorem dX4_measure_30 : decode cX4_measure 30 = .ok (.aload_n 1, 1) := by decide +kernel
theorem dX4_measure_31 : decode cX4_measure 31 = .ok (.getfield 45, 3) := by decide +kernel
theorem dX4_measure_34 : decode cX4_measure 34 = .ok (.if_icmp .ge 26, 3) := by decide +kernel
theorem dX4_measure_37 : decode cX4_measure 37 = .ok (.aload_n 0, 1) := by decide +kernel
theorem dX4_measure_38 : decode cX4_measure 38 = .ok (.getfield 20, 3) := by decide +kernel
theorem dX4_measure_41 : decode cX4_measure 41 = .ok (.iload_n 2, 1) := by decide +kernel
theorem dX4_measure_42 : decode cX4_measure 42 = .ok (.invokevirtual 50, 3) := by decide +kernel
theorem dX4_measure_45 : decode cX4_measure 45 = .ok (.ifCond .ne 9, 3) := by decide +kernel
theorem dX4_measure_48 : decode cX4_measure 48 = .ok (.aload_n 0, 1) := by decide +kernel
theorem dX4_measure_49 : decode cX4_measure 49 = .ok (.aload_n 1, 1) := by decide +kernel
theorem dX4_measure_50 : decode cX4_measure 50 = .ok (.iload_n 2, 1) := by decide +kernel
theorem dX4_measure_51 : decode cX4_measure 51 = .ok (.invokevirtual 54, 3) := by decide +kernel
theorem dX4_measure_54 : decode cX4_measure 54 = .ok (.iinc 2 1, 3) := by decide +kernel
theorem dX4_measure_57 : decode cX4_measure 57 = .ok (.goto (-28), 3) := by decide +kernel
theorem dX4_measure_60 : decode cX4_measure 60 = .ok (.return_, 1) := by decide +kernel
set_option maxHeartbeats 4000000 in
set_option maxRecDepth 100000 in
theorem kX4_measure {l : Launch} {D : va_G} {cy : Nat → ClassId} {N : Nat} {q : Nat → Nat} {m0 : Nat → Value} {a0 : Nat → vp_A} {sz : Nat} (hN : 105 ≤ N) (hsh : SH q m0) {x28_2 : Int32} (h_x28_2 : m0 2802 = .int x28_2) {A30 : Nat → Int32} (h_A30 : a0 30 = (6001, .inl A30)) {A35 : Nat → Int32} (h_A35 : a0 35 = (60000, .inl A35)) {x42_6 : Int32} (h_x42_6 : m0 4206 = .int x42_6) {x42_7 : Int32} (h_x42_7 : m0 4207 = .int x42_7) {A44 : Nat → Int32} (h_A44 : a0 44 = (6000, .inl A44)) {A46 : Nat → Int32} (h_A46 : a0 46 = (6000, .inl A46)) {A48 : Nat → Int32} (h_A48 : a0 48 = (6000, .inl A48)) {A50 : Nat → Int32} (h_A50 : a0 50 = (6000, .inl A50)) {A52 : Nat → Int32} (h_A52 : a0 52 = (6000, .inl A52)) {A54 : Nat → Int32} (h_A54 : a0 54 = (6000, .inl A54)) (F : Nat) {X0 : Int32 × Int32 × (Nat → Int32) × (Nat → Int32) × (Nat → Int32) × (Nat → Int32) × (Nat → Int32) × (Nat → Int32)} (hs0 : fX4_measure F x28_2 A30 A35 x42_6 x42_7 A44 A46 A48 A50 A52 A54 = some X0) : gMv l yX4_measure cX4_measure 3 none ({ frames := 5, cells := 0, slots := 0, locals := 123 } : Room) D cy N q m0 a0 sz [.ref (q 42), .ref (q 28)] (fun m' a' => m' 4206 = .int X0.1 ∧ m' 4207 = .int X0.2.1 ∧ (∀ j, nel j [4206, 4207] = false → m' j = m0 j) ∧ a' 44 = (6000, .inl X0.2.2.1) ∧ a' 46 = (6000, .inl X0.2.2.2.1) ∧ a' 48 = (6000, .inl X0.2.2.2.2.1) ∧ a' 50 = (6000, .inl X0.2.2.2.2.2.1) ∧ a' 52 = (6000, .inl X0.2.2.2.2.2.2.1) ∧ a' 54 = (6000, .inl X0.2.2.2.2.2.2.2) ∧ (∀ j, nel j [44, 46, 48, 50, 52, 54] = false → a' j = a0 j)) := by
  refine g_ofv (by decide) (Nat.le_of_ble_eq_true rfl) ?_
  intro p e s M args below meth c hx hb hr hG hown hin hlocks hml hW hS ls hl
  unfold fX4_measure at hs0
  have hoff : ∀ j, nel j [4206, 4207] = false → m0 j = m0 j := off0
  have hoffa : ∀ j, nel j [44, 46, 48, 50, 52, 54] = false → a0 j = a0 j := off0
  refine lv_aload_n hx hb dX4_measure_0 rfl (lv_at hl 0 rfl) ?_
  refine gf4_1 hx hb hG hown hW (o := 42) (ltN hN 42 rfl) gk42 (v := .ref (q 45)) (sh42_1 hsh) gx128 dX4_measure_1 ?_
  refine lv_iconst (v := 0) hx hb dX4_measure_4 (by decide) ?_
  refine g_Vv (n := 1) hx hb hml hown hG hW hS [.int 0] (kX2_fill (ltN hN 45 rfl) gk45 (ltN hN 46 rfl) gk46 (sh45_0 hsh) (by decide) h_A46 0) (ltN hN 45 rfl) gk45 (by decide) rfl rfl (gd_V gx759 gx678 gx679 gx47 gx680) rfl rfl (by decide) ⟨Nat.le_of_ble_eq_true rfl, Nat.le_of_ble_eq_true rfl⟩ rfl hl (Nat.le_of_ble_eq_true rfl) ⟨Nat.zero_le _, Nat.zero_le _⟩ dX4_measure_5 (fun m1 a1 H locs hp1 hW hS => ?_)
  obtain ⟨hm1, hp1_A46, hoa1⟩ := hp1
  rw [hm1] at hW
  have w_A44 : a1 44 = (6000, .inl A44) := (hoa1 44 rfl).trans h_A44
  have w_A46 : a1 46 = (6000, .inl (cFill 6000 A46 0)) := hp1_A46
  have w_A48 : a1 48 = (6000, .inl A48) := (hoa1 48 rfl).trans h_A48
  have w_A50 : a1 50 = (6000, .inl A50) := (hoa1 50 rfl).trans h_A50
  have w_A52 : a1 52 = (6000, .inl A52) := (hoa1 52 rfl).trans h_A52
  have w_A54 : a1 54 = (6000, .inl A54) := (hoa1 54 rfl).trans h_A54
  have hoffa := offm hoffa hoa1 (by decide +kernel)
  refine lv_aload_n hx hb dX4_measure_8 rfl (lv_at hl 0 rfl) ?_
  refine gf4_0 hx hb hG hown hW (o := 42) (ltN hN 42 rfl) gk42 (v := .ref (q 43)) (sh42_0 hsh) gx127 dX4_measure_9 ?_
  refine lv_bipush (v := (-3)) hx hb dX4_measure_12 (by decide) ?_
  refine g_Vv (n := 1) hx hb hml hown hG hW hS [.int (-3)] (kX2_fill (ltN hN 43 rfl) gk43 (ltN hN 44 rfl) gk44 (sh43_0 hsh) (by decide) w_A44 (-3)) (ltN hN 43 rfl) gk43 (by decide) rfl rfl (gd_V gx759 gx678 gx679 gx47 gx680) rfl rfl (by decide) ⟨Nat.le_of_ble_eq_true rfl, Nat.le_of_ble_eq_true rfl⟩ rfl hl (Nat.le_of_ble_eq_true rfl) ⟨Nat.zero_le _, Nat.zero_le _⟩ dX4_measure_14 (fun m2 a2 H locs hp2 hW hS => ?_)
  obtain ⟨hm2, hp2_A44, hoa2⟩ := hp2
  rw [hm2] at hW
  have w_A44 : a2 44 = (6000, .inl (cFill 6000 A44 (-3))) := hp2_A44
  have w_A46 : a2 46 = (6000, .inl (cFill 6000 A46 0)) := (hoa2 46 rfl).trans w_A46
  have w_A48 : a2 48 = (6000, .inl A48) := (hoa2 48 rfl).trans w_A48
  have w_A50 : a2 50 = (6000, .inl A50) := (hoa2 50 rfl).trans w_A50
  have w_A52 : a2 52 = (6000, .inl A52) := (hoa2 52 rfl).trans w_A52
  have w_A54 : a2 54 = (6000, .inl A54) := (hoa2 54 rfl).trans w_A54
  have hoffa := offm hoffa hoa2 (by decide +kernel)
  refine lv_aload_n hx hb dX4_measure_17 rfl (lv_at hl 0 rfl) ?_
  refine lv_iconst (v := 0) hx hb dX4_measure_18 (by decide) ?_
  refine gp4_6 hx hb hG hown hW hS (o := 42) (ltN hN 42 rfl) gk42 (v := 0) gx756 dX4_measure_19 (fun m3 H locs hm3 ho3 hW hS => ?_)
  have ho3 := off1 ho3
  have w_x42_6 : m3 4206 = .int 0 := hm3
  have w_x42_7 : m3 4207 = .int x42_7 := (ho3 4207 rfl).trans h_x42_7
  have hoff := offm hoff ho3 (by decide +kernel)
  have hsh := SH.off hsh ho3 (by decide +kernel)
  refine lv_aload_n hx hb dX4_measure_22 rfl (lv_at hl 0 rfl) ?_
  refine lv_iconst (v := 0) hx hb dX4_measure_23 (by decide) ?_
  refine gp4_7 hx hb hG hown hW hS (o := 42) (ltN hN 42 rfl) gk42 (v := 0) gx757 dX4_measure_24 (fun m4 H locs hm4 ho4 hW hS => ?_)
  have ho4 := off1 ho4
  have w_x42_6 : m4 4206 = .int 0 := (ho4 4206 rfl).trans w_x42_6
  have w_x42_7 : m4 4207 = .int 0 := hm4
  have hoff := offm hoff ho4 (by decide +kernel)
  have hsh := SH.off hsh ho4 (by decide +kernel)
  refine lv_iconst (v := 0) hx hb dX4_measure_27 (by decide) ?_
  refine lv_istore_n (lv' := [(2, .int 0), (0, .ref (q 42)), (1, .ref (q 28))]) hx hb dX4_measure_28 rfl hl (by decide) rfl (fun ls hl => ?_)
  obtain ⟨r5, hg5, hs0⟩ := obind hs0
  have hE1_60 : ∀ (t5_60 : Int32 × Int32 × (Nat → Int32) × (Nat → Int32) × (Nat → Int32) × (Nat → Int32) × (Nat → Int32) × (Nat → Int32)) (hr5 : t5_60 = r5) (m : Nat → Value) (a : Nat → vp_A) (H : Heap) (locs : List Loc) (w_x42_6 : m 4206 = .int t5_60.1) (w_x42_7 : m 4207 = .int t5_60.2.1) (hoff : ∀ j, nel j [4206, 4207] = false → m j = m0 j) (hsh : SH q m) (w_A44 : a 44 = (6000, .inl t5_60.2.2.1)) (w_A46 : a 46 = (6000, .inl t5_60.2.2.2.1)) (w_A48 : a 48 = (6000, .inl t5_60.2.2.2.2.1)) (w_A50 : a 50 = (6000, .inl t5_60.2.2.2.2.2.1)) (w_A52 : a 52 = (6000, .inl t5_60.2.2.2.2.2.2.1)) (w_A54 : a 54 = (6000, .inl t5_60.2.2.2.2.2.2.2)) (hoffa : ∀ j, nel j [44, 46, 48, 50, 52, 54] = false → a j = a0 j) (ls : Array Slot) (hl : lv_has ls 3 []) (hW : GW D cy (gA N q s.heap.size) N q m a s H) (hS : va_S (gA N q s.heap.size) s.heap H locs), W p l e ({ frames := 5, cells := 0, slots := 0, locals := 123 } : Room) s M args below meth c H locs 0 0 (MQ below (va_Qv (fun (u : (Nat → Value) × (Nat → vp_A)) => u.1 4206 = .int X0.1 ∧ u.1 4207 = .int X0.2.1 ∧ (∀ j, nel j [4206, 4207] = false → u.1 j = m0 j) ∧ u.2 44 = (6000, .inl X0.2.2.1) ∧ u.2 46 = (6000, .inl X0.2.2.2.1) ∧ u.2 48 = (6000, .inl X0.2.2.2.2.1) ∧ u.2 50 = (6000, .inl X0.2.2.2.2.2.1) ∧ u.2 52 = (6000, .inl X0.2.2.2.2.2.2.1) ∧ u.2 54 = (6000, .inl X0.2.2.2.2.2.2.2) ∧ (∀ j, nel j [44, 46, 48, 50, 52, 54] = false → u.2 j = a0 j)) (gB D cy N q s.heap.size) (gA N q s.heap.size)) args s 0 0 (gA N q s.heap.size)) (F0 M 60 ls []) := by
    intro t5_60 hr5 m a H locs w_x42_6 w_x42_7 hoff hsh w_A44 w_A46 w_A48 w_A50 w_A52 w_A54 hoffa ls hl hW hS
    subst hr5
    have hs0 := Option.some.inj hs0
    subst hs0
    exact W.vret hx hb hr (fun t ht hw => ⟨⟨(m, a), rfl, ⟨w_x42_6, w_x42_7, hoff, w_A44, w_A46, w_A48, w_A50, w_A52, w_A54, hoffa⟩, g_end hW ht hw⟩, hS.F ht⟩) hS.2.2 dX4_measure_60 hlocks
  have hL1 : ∀ (n : Nat) (v2k5 : Int32) (x42_6k5 : Int32) (x42_7k5 : Int32) (A44k5 : Nat → Int32) (A46k5 : Nat → Int32) (A48k5 : Nat → Int32) (A50k5 : Nat → Int32) (A52k5 : Nat → Int32) (A54k5 : Nat → Int32) (m : Nat → Value) (a : Nat → vp_A) (H : Heap) (locs : List Loc) (w_x42_6 : m 4206 = .int x42_6k5) (w_x42_7 : m 4207 = .int x42_7k5) (hoff : ∀ j, nel j [4206, 4207] = false → m j = m0 j) (hsh : SH q m) (w_A44 : a 44 = (6000, .inl A44k5)) (w_A46 : a 46 = (6000, .inl A46k5)) (w_A48 : a 48 = (6000, .inl A48k5)) (w_A50 : a 50 = (6000, .inl A50k5)) (w_A52 : a 52 = (6000, .inl A52k5)) (w_A54 : a 54 = (6000, .inl A54k5)) (hoffa : ∀ j, nel j [44, 46, 48, 50, 52, 54] = false → a j = a0 j) (ls : Array Slot) (hl : lv_has ls 3 [(0, .ref (q 42)), (1, .ref (q 28)), (2, .int v2k5)]) (hg5 : gloop (fun u5 : (Int32 × Int32 × Int32 × (Nat → Int32) × (Nat → Int32) × (Nat → Int32) × (Nat → Int32) × (Nat → Int32) × (Nat → Int32)) => fX4_measure_S29 F x28_2 A30 A35 u5.1 u5.2.1 u5.2.2.1 u5.2.2.2.1 u5.2.2.2.2.1 u5.2.2.2.2.2.1 u5.2.2.2.2.2.2.1 u5.2.2.2.2.2.2.2.1 u5.2.2.2.2.2.2.2.2) n (v2k5, x42_6k5, x42_7k5, A44k5, A46k5, A48k5, A50k5, A52k5, A54k5) = some r5) (hW : GW D cy (gA N q s.heap.size) N q m a s H) (hS : va_S (gA N q s.heap.size) s.heap H locs), W p l e ({ frames := 5, cells := 0, slots := 0, locals := 123 } : Room) s M args below meth c H locs 0 0 (MQ below (va_Qv (fun (u : (Nat → Value) × (Nat → vp_A)) => u.1 4206 = .int X0.1 ∧ u.1 4207 = .int X0.2.1 ∧ (∀ j, nel j [4206, 4207] = false → u.1 j = m0 j) ∧ u.2 44 = (6000, .inl X0.2.2.1) ∧ u.2 46 = (6000, .inl X0.2.2.2.1) ∧ u.2 48 = (6000, .inl X0.2.2.2.2.1) ∧ u.2 50 = (6000, .inl X0.2.2.2.2.2.1) ∧ u.2 52 = (6000, .inl X0.2.2.2.2.2.2.1) ∧ u.2 54 = (6000, .inl X0.2.2.2.2.2.2.2) ∧ (∀ j, nel j [44, 46, 48, 50, 52, 54] = false → u.2 j = a0 j)) (gB D cy N q s.heap.size) (gA N q s.heap.size)) args s 0 0 (gA N q s.heap.size)) (F0 M 29 ls []) := by
    intro n
    induction n with
    | zero => intro v2k5 x42_6k5 x42_7k5 A44k5 A46k5 A48k5 A50k5 A52k5 A54k5 m a H locs w_x42_6 w_x42_7 hoff hsh w_A44 w_A46 w_A48 w_A50 w_A52 w_A54 hoffa ls hl hg5 hW hS; exact (gl_zero hg5).elim
    | succ n ih1 =>
      intro v2k5 x42_6k5 x42_7k5 A44k5 A46k5 A48k5 A50k5 A52k5 A54k5 m a H locs w_x42_6 w_x42_7 hoff hsh w_A44 w_A46 w_A48 w_A50 w_A52 w_A54 hoffa ls hl hg5 hW hS
      obtain ⟨X1, hs1, hXl1, hXr1⟩ := gl_succ hg5
      have hs1 : fX4_measure_S29 F x28_2 A30 A35 v2k5 x42_6k5 x42_7k5 A44k5 A46k5 A48k5 A50k5 A52k5 A54k5 = some X1 := hs1
      unfold fX4_measure_S29 at hs1
      have hJ54_1 : ∀ (v2j14 : Int32) (x42_6j14 : Int32) (x42_7j14 : Int32) (A44j14 : Nat → Int32) (A46j14 : Nat → Int32) (A48j14 : Nat → Int32) (A50j14 : Nat → Int32) (A52j14 : Nat → Int32) (A54j14 : Nat → Int32) (m : Nat → Value) (a : Nat → vp_A) (H : Heap) (locs : List Loc) (w_x42_6 : m 4206 = .int x42_6j14) (w_x42_7 : m 4207 = .int x42_7j14) (hoff : ∀ j, nel j [4206, 4207] = false → m j = m0 j) (hsh : SH q m) (w_A44 : a 44 = (6000, .inl A44j14)) (w_A46 : a 46 = (6000, .inl A46j14)) (w_A48 : a 48 = (6000, .inl A48j14)) (w_A50 : a 50 = (6000, .inl A50j14)) (w_A52 : a 52 = (6000, .inl A52j14)) (w_A54 : a 54 = (6000, .inl A54j14)) (hoffa : ∀ j, nel j [44, 46, 48, 50, 52, 54] = false → a j = a0 j) (ls : Array Slot) (hl : lv_has ls 3 [(0, .ref (q 42)), (1, .ref (q 28)), (2, .int v2j14)]) (hs1 : fX4_measure_J54 F x28_2 A30 A35 v2j14 x42_6j14 x42_7j14 A44j14 A46j14 A48j14 A50j14 A52j14 A54j14 = some X1) (hW : GW D cy (gA N q s.heap.size) N q m a s H) (hS : va_S (gA N q s.heap.size) s.heap H locs), W p l e ({ frames := 5, cells := 0, slots := 0, locals := 123 } : Room) s M args below meth c H locs 0 0 (MQ below (va_Qv (fun (u : (Nat → Value) × (Nat → vp_A)) => u.1 4206 = .int X0.1 ∧ u.1 4207 = .int X0.2.1 ∧ (∀ j, nel j [4206, 4207] = false → u.1 j = m0 j) ∧ u.2 44 = (6000, .inl X0.2.2.1) ∧ u.2 46 = (6000, .inl X0.2.2.2.1) ∧ u.2 48 = (6000, .inl X0.2.2.2.2.1) ∧ u.2 50 = (6000, .inl X0.2.2.2.2.2.1) ∧ u.2 52 = (6000, .inl X0.2.2.2.2.2.2.1) ∧ u.2 54 = (6000, .inl X0.2.2.2.2.2.2.2) ∧ (∀ j, nel j [44, 46, 48, 50, 52, 54] = false → u.2 j = a0 j)) (gB D cy N q s.heap.size) (gA N q s.heap.size)) args s 0 0 (gA N q s.heap.size)) (F0 M 54 ls []) := by
        intro v2j14 x42_6j14 x42_7j14 A44j14 A46j14 A48j14 A50j14 A52j14 A54j14 m a H locs w_x42_6 w_x42_7 hoff hsh w_A44 w_A46 w_A48 w_A50 w_A52 w_A54 hoffa ls hl hs1 hW hS
        unfold fX4_measure_J54 at hs1
        refine lv_iinc (v := v2j14 + 1) (lv' := [(2, .int (v2j14 + 1)), (0, .ref (q 42)), (1, .ref (q 28))]) hx hb dX4_measure_54 hl (k := 2) rfl rfl (by decide) rfl (fun ls hl => ?_)
        refine lv_goto (tgt := 29) hx hb dX4_measure_57 (by decide) ?_
        exact ih1 (v2j14 + 1) x42_6j14 x42_7j14 A44j14 A46j14 A48j14 A50j14 A52j14 A54j14 m a _ _ w_x42_6 w_x42_7 hoff hsh w_A44 w_A46 w_A48 w_A50 w_A52 w_A54 hoffa ls (lv_sub hl [1, 2, 0] rfl) (hXr1 _ (Option.some.inj hs1).symm) hW hS
      refine lv_iload_n hx hb dX4_measure_29 rfl (lv_at hl 2 rfl) ?_
      refine lv_aload_n hx hb dX4_measure_30 rfl (lv_at hl 1 rfl) ?_
      refine gf1_2 hx hb hG hown hW (o := 28) (ltN hN 28 rfl) gk28 (v := .int x28_2) ((hoff 2802 rfl).trans h_x28_2) gx758 dX4_measure_31 ?_
      refine lv_icmp_ge (tgt := 60) hx hb dX4_measure_34 (by decide) (fun c11 => ?_) (fun c11 => ?_)
      · rw [if_pos c11] at hs1
        exact hE1_60 (x42_6k5, x42_7k5, A44k5, A46k5, A48k5, A50k5, A52k5, A54k5) (hXl1 _ (Option.some.inj hs1).symm) m a _ _ w_x42_6 w_x42_7 hoff hsh w_A44 w_A46 w_A48 w_A50 w_A52 w_A54 hoffa ls (lv_sub hl [] rfl) hW hS
      · rw [if_neg c11] at hs1
        refine lv_aload_n hx hb dX4_measure_37 rfl (lv_at hl 0 rfl) ?_
        refine gf4_1 hx hb hG hown hW (o := 42) (ltN hN 42 rfl) gk42 (v := .ref (q 45)) (sh42_1 hsh) gx128 dX4_measure_38 ?_
        refine lv_iload_n hx hb dX4_measure_41 rfl (lv_at hl 2 rfl) ?_
        refine g_ViR (n := 1) hx hb hml hown hG hW hS [.int v2k5] (kX2_at (ltN hN 45 rfl) gk45 (ltN hN 46 rfl) gk46 (sh45_0 hsh) (by decide) w_A46 v2k5) (ltN hN 45 rfl) gk45 (by decide) rfl rfl (gd_V gx760 gx564 gx565 gx47 gx566) rfl rfl (by decide) ⟨Nat.le_of_ble_eq_true rfl, Nat.le_of_ble_eq_true rfl⟩ rfl hl (Nat.le_of_ble_eq_true rfl) ⟨Nat.zero_le _, Nat.zero_le _⟩ dX4_measure_42 (fun H locs hW hS => ?_)
        refine lv_if_ne (tgt := 54) hx hb dX4_measure_45 (by decide) (fun c13 => ?_) (fun c13 => ?_)
        · rw [if_neg c13] at hs1
          exact hJ54_1 v2k5 x42_6k5 x42_7k5 A44k5 A46k5 A48k5 A50k5 A52k5 A54k5 m a _ _ w_x42_6 w_x42_7 hoff hsh w_A44 w_A46 w_A48 w_A50 w_A52 w_A54 hoffa ls (lv_sub hl [0, 1, 2] rfl) hs1 hW hS
        · rw [if_pos c13] at hs1
          refine lv_aload_n hx hb dX4_measure_48 rfl (lv_at hl 0 rfl) ?_
          refine lv_aload_n hx hb dX4_measure_49 rfl (lv_at hl 1 rfl) ?_
          refine lv_iload_n hx hb dX4_measure_50 rfl (lv_at hl 2 rfl) ?_
          obtain ⟨r15, hf15, hs1⟩ := obind hs1
          refine g_Vv (n := 2) hx hb hml hown hG hW hS [.ref (q 28), .int v2k5] (kX4_visit hN hsh ((hoff 2802 rfl).trans h_x28_2) ((hoffa 30 rfl).trans h_A30) ((hoffa 35 rfl).trans h_A35) w_x42_6 w_x42_7 w_A44 w_A46 w_A48 w_A50 w_A52 w_A54 F v2k5 hf15) (ltN hN 42 rfl) gk42 (by decide) rfl rfl (gd_V gx761 gx762 gx763 gx94 gx764) rfl rfl (by decide) ⟨Nat.le_of_ble_eq_true rfl, Nat.le_of_ble_eq_true rfl⟩ rfl hl (Nat.le_of_ble_eq_true rfl) ⟨Nat.zero_le _, Nat.zero_le _⟩ dX4_measure_51 (fun m15 a15 H locs hp15 hW hS => ?_)
          obtain ⟨hp15_x42_6, hp15_x42_7, ho15, hp15_A44, hp15_A46, hp15_A48, hp15_A50, hp15_A52, hp15_A54, hoa15⟩ := hp15
          have w_x42_6 : m15 4206 = .int r15.1 := hp15_x42_6
          have w_x42_7 : m15 4207 = .int r15.2.1 := hp15_x42_7
          have hoff := offm hoff ho15 (by decide +kernel)
          have hsh := SH.off hsh ho15 (by decide +kernel)
          have w_A44 : a15 44 = (6000, .inl r15.2.2.1) := hp15_A44
          have w_A46 : a15 46 = (6000, .inl r15.2.2.2.1) := hp15_A46
          have w_A48 : a15 48 = (6000, .inl r15.2.2.2.2.1) := hp15_A48
          have w_A50 : a15 50 = (6000, .inl r15.2.2.2.2.2.1) := hp15_A50
          have w_A52 : a15 52 = (6000, .inl r15.2.2.2.2.2.2.1) := hp15_A52
          have w_A54 : a15 54 = (6000, .inl r15.2.2.2.2.2.2.2) := hp15_A54
          have hoffa := offm hoffa hoa15 (by decide +kernel)
          exact hJ54_1 v2k5 r15.1 r15.2.1 r15.2.2.1 r15.2.2.2.1 r15.2.2.2.2.1 r15.2.2.2.2.2.1 r15.2.2.2.2.2.2.1 r15.2.2.2.2.2.2.2 m15 a15 _ _ w_x42_6 w_x42_7 hoff hsh w_A44 w_A46 w_A48 w_A50 w_A52 w_A54 hoffa ls (lv_sub hl [0, 1, 2] rfl) hs1 hW hS
  exact hL1 F 0 0 0 (cFill 6000 A44 (-3)) (cFill 6000 A46 0) A48 A50 A52 A54 m4 a2 _ _ w_x42_6 w_x42_7 hoff hsh w_A44 w_A46 w_A48 w_A50 w_A52 w_A54 hoffa ls (lv_sub hl [1, 2, 0] rfl) hg5 hW hS
-- HealLink$Depths.hardest (I)I
def fX4_hardest_J56 (F : Nat) (A44 : Nat → Int32) (v1 : Int32) (v2j11 : Int32) (v3j11 : Int32) : Option ((Int32) ⊕ (Int32 × Int32)) := some (Sum.inr (v2j11, v3j11 + 1))
def fX4_hardest_J54 (F : Nat) (A44 : Nat → Int32) (v1 : Int32) (v3j7 : Int32) : Option ((Int32) ⊕ (Int32 × Int32)) := fX4_hardest_J56 F A44 v1 v3j7 v3j7
def fX4_hardest_S4 (F : Nat) (A44 : Nat → Int32) (v1 : Int32) (v2 : Int32) (v3 : Int32) : Option ((Int32) ⊕ (Int32 × Int32)) := (if v1 ≤ v3 then some (Sum.inl v2) else (if (cAt 6000 A44 v2) = (-2) then some (Sum.inl v2) else (if (cAt 6000 A44 v3) = (-2) then fX4_hardest_J54 F A44 v1 v3 else (if (cAt 6000 A44 v3) ≤ (cAt 6000 A44 v2) then fX4_hardest_J56 F A44 v1 v2 v3 else fX4_hardest_J54 F A44 v1 v3))))
def fX4_hardest (F : Nat) (A44 : Nat → Int32) (p1 : Int32) : Option (Int32) := (gloop (fun u1 : (Int32 × Int32) => fX4_hardest_S4 F A44 p1 u1.1 u1.2) F (0, 1)).bind (fun t1_62 => some t1_62)
theorem dX4_hardest_0 : decode cX4_hardest 0 = .ok (.iconst 0, 1) := by decide +kernel
theorem dX4_hardest_1 : decode cX4_hardest 1 = .ok (.istore_n 2, 1) := by decide +kernel
theorem dX4_hardest_2 : decode cX4_hardest 2 = .ok (.iconst 1, 1) := by decide +kernel
theorem dX4_hardest_3 : decode cX4_hardest 3 = .ok (.istore_n 3, 1) := by decide +kernel
theorem dX4_hardest_4 : decode cX4_hardest 4 = .ok (.iload_n 3, 1) := by decide +kernel
theorem dX4_hardest_5 : decode cX4_hardest 5 = .ok (.iload_n 1, 1) := by decide +kernel
theorem dX4_hardest_6 : decode cX4_hardest 6 = .ok (.if_icmp .ge 56, 3) := by decide +kernel
theorem dX4_hardest_9 : decode cX4_hardest 9 = .ok (.aload_n 0, 1) := by decide +kernel
theorem dX4_hardest_10 : decode cX4_hardest 10 = .ok (.getfield 14, 3) := by decide +kernel
theorem dX4_hardest_13 : decode cX4_hardest 13 = .ok (.iload_n 2, 1) := by decide +kernel
theorem dX4_hardest_14 : decode cX4_hardest 14 = .ok (.invokevirtual 50, 3) := by decide +kernel
theorem dX4_hardest_17 : decode cX4_hardest 17 = .ok (.bipush (-2), 2) := by decide +kernel
theorem dX4_hardest_19 : decode cX4_hardest 19 = .ok (.if_icmp .eq 43, 3) := by decide +kernel
theorem dX4_hardest_22 : decode cX4_hardest 22 = .ok (.aload_n 0, 1) := by decide +kernel
theorem dX4_hardest_23 : decode cX4_hardest 23 = .ok (.getfield 14, 3) := by decide +kernel
theorem dX4_hardest_26 : decode cX4_hardest 26 = .ok (.iload_n 3, 1) := by decide +kernel
theorem dX4_hardest_27 : decode cX4_hardest 27 = .ok (.invokevirtual 50, 3) := by decide +kernel
theorem dX4_hardest_30 : decode cX4_hardest 30 = .ok (.bipush (-2), 2) := by decide +kernel
theorem dX4_hardest_32 : decode cX4_hardest 32 = .ok (.if_icmp .eq 22, 3) := by decide +kernel
theorem dX4_hardest_35 : decode cX4_hardest 35 = .ok (.aload_n 0, 1) := by decide +kernel
theorem dX4_hardest_36 : decode cX4_hardest 36 = .ok (.getfield 14, 3) := by decide +kernel
theorem dX4_hardest_39 : decode cX4_hardest 39 = .ok (.iload_n 3, 1) := by decide +kernel
theorem dX4_hardest_40 : decode cX4_hardest 40 = .ok (.invokevirtual 50, 3) := by decide +kernel
theorem dX4_hardest_43 : decode cX4_hardest 43 = .ok (.aload_n 0, 1) := by decide +kernel
theorem dX4_hardest_44 : decode cX4_hardest 44 = .ok (.getfield 14, 3) := by decide +kernel
theorem dX4_hardest_47 : decode cX4_hardest 47 = .ok (.iload_n 2, 1) := by decide +kernel
theorem dX4_hardest_48 : decode cX4_hardest 48 = .ok (.invokevirtual 50, 3) := by decide +kernel
theorem dX4_hardest_51 : decode cX4_hardest 51 = .ok (.if_icmp .le 5, 3) := by decide +kernel
theorem dX4_hardest_54 : decode cX4_hardest 54 = .ok (.iload_n 3, 1) := by decide +kernel
theorem dX4_hardest_55 : decode cX4_hardest 55 = .ok (.istore_n 2, 1) := by decide +kernel
theorem dX4_hardest_56 : decode cX4_hardest 56 = .ok (.iinc 3 1, 3) := by decide +kernel
theorem dX4_hardest_59 : decode cX4_hardest 59 = .ok (.goto (-55), 3) := by decide +kernel
theorem dX4_hardest_62 : decode cX4_hardest 62 = .ok (.iload_n 2, 1) := by decide +kernel
theorem dX4_hardest_63 : decode cX4_hardest 63 = .ok (.ireturn, 1) := by decide +kernel
set_option maxHeartbeats 4000000 in
set_option maxRecDepth 100000 in
theorem kX4_hardest {l : Launch} {D : va_G} {cy : Nat → ClassId} {N : Nat} {q : Nat → Nat} {m0 : Nat → Value} {a0 : Nat → vp_A} {sz : Nat} (hN : 105 ≤ N) (hsh : SH q m0) {A44 : Nat → Int32} (h_A44 : a0 44 = (6000, .inl A44)) (F : Nat) (p1 : Int32) {X0 : Int32} (hs0 : fX4_hardest F A44 p1 = some X0) : gMi l yX4_hardest cX4_hardest 4 (some .int) ({ frames := 1, cells := 0, slots := 0, locals := 21 } : Room) D cy N q m0 a0 sz [.ref (q 42), .int p1] (fun r m' a' => r = X0 ∧ m' = m0 ∧ a' = a0) := by
  refine g_ofi (by decide) (Nat.le_of_ble_eq_true rfl) ?_
  intro p e s M args below meth c hx hb hr hG hown hin hlocks hml hW hS ls hl
  unfold fX4_hardest at hs0
  refine lv_iconst (v := 0) hx hb dX4_hardest_0 (by decide) ?_
  refine lv_istore_n (lv' := [(2, .int 0), (0, .ref (q 42)), (1, .int p1)]) hx hb dX4_hardest_1 rfl hl (by decide) rfl (fun ls hl => ?_)
  refine lv_iconst (v := 1) hx hb dX4_hardest_2 (by decide) ?_
  refine lv_istore_n (lv' := [(3, .int 1), (2, .int 0), (0, .ref (q 42)), (1, .int p1)]) hx hb dX4_hardest_3 rfl hl (by decide) rfl (fun ls hl => ?_)
  obtain ⟨r1, hg1, hs0⟩ := obind hs0
  have hE1_62 : ∀ (t1_62 : Int32) (hr1 : t1_62 = r1) (H : Heap) (locs : List Loc) (ls : Array Slot) (hl : lv_has ls 4 [(2, .int t1_62)]) (hW : GW D cy (gA N q s.heap.size) N q m0 a0 s H) (hS : va_S (gA N q s.heap.size) s.heap H locs), W p l e ({ frames := 1, cells := 0, slots := 0, locals := 21 } : Room) s M args below meth c H locs 0 0 (MQ below (va_Qi (fun (r : Int32) (u : (Nat → Value) × (Nat → vp_A)) => r = X0 ∧ u.1 = m0 ∧ u.2 = a0) (gB D cy N q s.heap.size) (gA N q s.heap.size)) args s 0 0 (gA N q s.heap.size)) (F0 M 62 ls []) := by
    intro t1_62 hr1 H locs ls hl hW hS
    subst hr1
    refine lv_iload_n hx hb dX4_hardest_62 rfl (lv_at hl 0 rfl) ?_
    have hs0 := Option.some.inj hs0
    subst hs0
    exact W.zret hx hb hr rfl (fun t ht hw => ⟨⟨_, (m0, a0), rfl, ⟨rfl, rfl, rfl⟩, g_end hW ht hw⟩, hS.F ht⟩) hS.2.2 dX4_hardest_63 hlocks
  have hL1 : ∀ (n : Nat) (v2k1 : Int32) (v3k1 : Int32) (H : Heap) (locs : List Loc) (ls : Array Slot) (hl : lv_has ls 4 [(0, .ref (q 42)), (1, .int p1), (2, .int v2k1), (3, .int v3k1)]) (hg1 : gloop (fun u1 : (Int32 × Int32) => fX4_hardest_S4 F A44 p1 u1.1 u1.2) n (v2k1, v3k1) = some r1) (hW : GW D cy (gA N q s.heap.size) N q m0 a0 s H) (hS : va_S (gA N q s.heap.size) s.heap H locs), W p l e ({ frames := 1, cells := 0, slots := 0, locals := 21 } : Room) s M args below meth c H locs 0 0 (MQ below (va_Qi (fun (r : Int32) (u : (Nat → Value) × (Nat → vp_A)) => r = X0 ∧ u.1 = m0 ∧ u.2 = a0) (gB D cy N q s.heap.size) (gA N q s.heap.size)) args s 0 0 (gA N q s.heap.size)) (F0 M 4 ls []) := by
    intro n
    induction n with
    | zero => intro v2k1 v3k1 H locs ls hl hg1 hW hS; exact (gl_zero hg1).elim
    | succ n ih1 =>
      intro v2k1 v3k1 H locs ls hl hg1 hW hS
      obtain ⟨X1, hs1, hXl1, hXr1⟩ := gl_succ hg1
      have hs1 : fX4_hardest_S4 F A44 p1 v2k1 v3k1 = some X1 := hs1
      unfold fX4_hardest_S4 at hs1
      have hJ56_1 : ∀ (v2j21 : Int32) (v3j21 : Int32) (H : Heap) (locs : List Loc) (ls : Array Slot) (hl : lv_has ls 4 [(0, .ref (q 42)), (1, .int p1), (2, .int v2j21), (3, .int v3j21)]) (hs1 : fX4_hardest_J56 F A44 p1 v2j21 v3j21 = some X1) (hW : GW D cy (gA N q s.heap.size) N q m0 a0 s H) (hS : va_S (gA N q s.heap.size) s.heap H locs), W p l e ({ frames := 1, cells := 0, slots := 0, locals := 21 } : Room) s M args below meth c H locs 0 0 (MQ below (va_Qi (fun (r : Int32) (u : (Nat → Value) × (Nat → vp_A)) => r = X0 ∧ u.1 = m0 ∧ u.2 = a0) (gB D cy N q s.heap.size) (gA N q s.heap.size)) args s 0 0 (gA N q s.heap.size)) (F0 M 56 ls []) := by
        intro v2j21 v3j21 H locs ls hl hs1 hW hS
        unfold fX4_hardest_J56 at hs1
        refine lv_iinc (v := v3j21 + 1) (lv' := [(3, .int (v3j21 + 1)), (0, .ref (q 42)), (1, .int p1), (2, .int v2j21)]) hx hb dX4_hardest_56 hl (k := 3) rfl rfl (by decide) rfl (fun ls hl => ?_)
        refine lv_goto (tgt := 4) hx hb dX4_hardest_59 (by decide) ?_
        exact ih1 v2j21 (v3j21 + 1) _ _ ls (lv_sub hl [1, 2, 3, 0] rfl) (hXr1 _ (Option.some.inj hs1).symm) hW hS
      have hJ54_1 : ∀ (v3j17 : Int32) (H : Heap) (locs : List Loc) (ls : Array Slot) (hl : lv_has ls 4 [(0, .ref (q 42)), (1, .int p1), (3, .int v3j17)]) (hs1 : fX4_hardest_J54 F A44 p1 v3j17 = some X1) (hW : GW D cy (gA N q s.heap.size) N q m0 a0 s H) (hS : va_S (gA N q s.heap.size) s.heap H locs), W p l e ({ frames := 1, cells := 0, slots := 0, locals := 21 } : Room) s M args below meth c H locs 0 0 (MQ below (va_Qi (fun (r : Int32) (u : (Nat → Value) × (Nat → vp_A)) => r = X0 ∧ u.1 = m0 ∧ u.2 = a0) (gB D cy N q s.heap.size) (gA N q s.heap.size)) args s 0 0 (gA N q s.heap.size)) (F0 M 54 ls []) := by
        intro v3j17 H locs ls hl hs1 hW hS
        unfold fX4_hardest_J54 at hs1
        refine lv_iload_n hx hb dX4_hardest_54 rfl (lv_at hl 2 rfl) ?_
        refine lv_istore_n (lv' := [(2, .int v3j17), (0, .ref (q 42)), (1, .int p1), (3, .int v3j17)]) hx hb dX4_hardest_55 rfl hl (by decide) rfl (fun ls hl => ?_)
        exact hJ56_1 v3j17 v3j17 _ _ ls (lv_sub hl [1, 2, 0, 3] rfl) hs1 hW hS
      refine lv_iload_n hx hb dX4_hardest_4 rfl (lv_at hl 3 rfl) ?_
      refine lv_iload_n hx hb dX4_hardest_5 rfl (lv_at hl 1 rfl) ?_
      refine lv_icmp_ge (tgt := 62) hx hb dX4_hardest_6 (by decide) (fun c12 => ?_) (fun c12 => ?_)
      · rw [if_pos c12] at hs1
        exact hE1_62 v2k1 (hXl1 _ (Option.some.inj hs1).symm) _ _ ls (lv_sub hl [2] rfl) hW hS
      · rw [if_neg c12] at hs1
        refine lv_aload_n hx hb dX4_hardest_9 rfl (lv_at hl 0 rfl) ?_
        refine gf4_0 hx hb hG hown hW (o := 42) (ltN hN 42 rfl) gk42 (v := .ref (q 43)) (sh42_0 hsh) gx127 dX4_hardest_10 ?_
        refine lv_iload_n hx hb dX4_hardest_13 rfl (lv_at hl 2 rfl) ?_
        refine g_ViR (n := 1) hx hb hml hown hG hW hS [.int v2k1] (kX2_at (ltN hN 43 rfl) gk43 (ltN hN 44 rfl) gk44 (sh43_0 hsh) (by decide) h_A44 v2k1) (ltN hN 43 rfl) gk43 (by decide) rfl rfl (gd_V gx760 gx564 gx565 gx47 gx566) rfl rfl (by decide) ⟨Nat.le_of_ble_eq_true rfl, Nat.le_of_ble_eq_true rfl⟩ rfl hl (Nat.le_of_ble_eq_true rfl) ⟨Nat.zero_le _, Nat.zero_le _⟩ dX4_hardest_14 (fun H locs hW hS => ?_)
        refine lv_bipush (v := (-2)) hx hb dX4_hardest_17 (by decide) ?_
        refine lv_icmp_eq (tgt := 62) hx hb dX4_hardest_19 (by decide) (fun c14 => ?_) (fun c14 => ?_)
        · rw [if_pos c14] at hs1
          exact hE1_62 v2k1 (hXl1 _ (Option.some.inj hs1).symm) _ _ ls (lv_sub hl [2] rfl) hW hS
        · rw [if_neg c14] at hs1
          refine lv_aload_n hx hb dX4_hardest_22 rfl (lv_at hl 0 rfl) ?_
          refine gf4_0 hx hb hG hown hW (o := 42) (ltN hN 42 rfl) gk42 (v := .ref (q 43)) (sh42_0 hsh) gx127 dX4_hardest_23 ?_
          refine lv_iload_n hx hb dX4_hardest_26 rfl (lv_at hl 3 rfl) ?_
          refine g_ViR (n := 1) hx hb hml hown hG hW hS [.int v3k1] (kX2_at (ltN hN 43 rfl) gk43 (ltN hN 44 rfl) gk44 (sh43_0 hsh) (by decide) h_A44 v3k1) (ltN hN 43 rfl) gk43 (by decide) rfl rfl (gd_V gx760 gx564 gx565 gx47 gx566) rfl rfl (by decide) ⟨Nat.le_of_ble_eq_true rfl, Nat.le_of_ble_eq_true rfl⟩ rfl hl (Nat.le_of_ble_eq_true rfl) ⟨Nat.zero_le _, Nat.zero_le _⟩ dX4_hardest_27 (fun H locs hW hS => ?_)
          refine lv_bipush (v := (-2)) hx hb dX4_hardest_30 (by decide) ?_
          refine lv_icmp_eq (tgt := 54) hx hb dX4_hardest_32 (by decide) (fun c16 => ?_) (fun c16 => ?_)
          · rw [if_pos c16] at hs1
            exact hJ54_1 v3k1 _ _ ls (lv_sub hl [0, 1, 3] rfl) hs1 hW hS
          · rw [if_neg c16] at hs1
            refine lv_aload_n hx hb dX4_hardest_35 rfl (lv_at hl 0 rfl) ?_
            refine gf4_0 hx hb hG hown hW (o := 42) (ltN hN 42 rfl) gk42 (v := .ref (q 43)) (sh42_0 hsh) gx127 dX4_hardest_36 ?_
            refine lv_iload_n hx hb dX4_hardest_39 rfl (lv_at hl 3 rfl) ?_
            refine g_ViR (n := 1) hx hb hml hown hG hW hS [.int v3k1] (kX2_at (ltN hN 43 rfl) gk43 (ltN hN 44 rfl) gk44 (sh43_0 hsh) (by decide) h_A44 v3k1) (ltN hN 43 rfl) gk43 (by decide) rfl rfl (gd_V gx760 gx564 gx565 gx47 gx566) rfl rfl (by decide) ⟨Nat.le_of_ble_eq_true rfl, Nat.le_of_ble_eq_true rfl⟩ rfl hl (Nat.le_of_ble_eq_true rfl) ⟨Nat.zero_le _, Nat.zero_le _⟩ dX4_hardest_40 (fun H locs hW hS => ?_)
            refine lv_aload_n hx hb dX4_hardest_43 rfl (lv_at hl 0 rfl) ?_
            refine gf4_0 hx hb hG hown hW (o := 42) (ltN hN 42 rfl) gk42 (v := .ref (q 43)) (sh42_0 hsh) gx127 dX4_hardest_44 ?_
            refine lv_iload_n hx hb dX4_hardest_47 rfl (lv_at hl 2 rfl) ?_
            refine g_ViR (n := 1) hx hb hml hown hG hW hS [.int v2k1] (kX2_at (ltN hN 43 rfl) gk43 (ltN hN 44 rfl) gk44 (sh43_0 hsh) (by decide) h_A44 v2k1) (ltN hN 43 rfl) gk43 (by decide) rfl rfl (gd_V gx760 gx564 gx565 gx47 gx566) rfl rfl (by decide) ⟨Nat.le_of_ble_eq_true rfl, Nat.le_of_ble_eq_true rfl⟩ rfl hl (Nat.le_of_ble_eq_true rfl) ⟨Nat.zero_le _, Nat.zero_le _⟩ dX4_hardest_48 (fun H locs hW hS => ?_)
            refine lv_icmp_le (tgt := 56) hx hb dX4_hardest_51 (by decide) (fun c20 => ?_) (fun c20 => ?_)
            · rw [if_pos c20] at hs1
              exact hJ56_1 v2k1 v3k1 _ _ ls (lv_sub hl [0, 1, 2, 3] rfl) hs1 hW hS
            · rw [if_neg c20] at hs1
              exact hJ54_1 v3k1 _ _ ls (lv_sub hl [0, 1, 3] rfl) hs1 hW hS
  exact hL1 F 0 1 _ _ ls (lv_sub hl [2, 3, 1, 0] rfl) hg1 hW hS
