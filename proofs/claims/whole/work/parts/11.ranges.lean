/-! 11.ranges (by program): the pure function of each method, its rows, its contract -/
-- HealLink$Ranges.canDo (LHealLink$Atlas;II)Z
def fX5_canDo_S9 (F : Nat) (A30 : Nat → Int32) (A35 : Nat → Int32) (v1 : Int32) (v2 : Int32) (v3 : Int32) : Option (((Unit) ⊕ (Unit)) ⊕ (Int32)) := (if (cAt 6001 A30 (v1 + 1)) ≤ v3 then some (Sum.inl (Sum.inr (()))) else (if (fX1_hasMark A35 v3 v2) = 0 then some (Sum.inr (v3 + 1)) else some (Sum.inl (Sum.inl ()))))
def fX5_canDo (F : Nat) (A30 : Nat → Int32) (A35 : Nat → Int32) (p1 : Int32) (p2 : Int32) : Option (Int32) := (gloop (fun u2 : Int32 => fX5_canDo_S9 F A30 A35 p1 p2 u2) F (cAt 6001 A30 p1)).bind (Sum.elim (fun t2_32 => some 1) (fun t2_40 => some 0))
theorem dX5_canDo_0 : decode cX5_canDo 0 = .ok (.aload_n 0, 1) := by decide +kernel
theorem dX5_canDo_1 : decode cX5_canDo 1 = .ok (.getfield 43, 3) := by decide +kernel
theorem dX5_canDo_4 : decode cX5_canDo 4 = .ok (.iload_n 1, 1) := by decide +kernel
theorem dX5_canDo_5 : decode cX5_canDo 5 = .ok (.invokevirtual 50, 3) := by decide +kernel
theorem dX5_canDo_8 : decode cX5_canDo 8 = .ok (.istore_n 3, 1) := by decide +kernel
theorem dX5_canDo_9 : decode cX5_canDo 9 = .ok (.iload_n 3, 1) := by decide +kernel
theorem dX5_canDo_10 : decode cX5_canDo 10 = .ok (.aload_n 0, 1) := by decide +kernel
theorem dX5_canDo_11 : decode cX5_canDo 11 = .ok (.getfield 43, 3) := by decide +kernel
theorem dX5_canDo_14 : decode cX5_canDo 14 = .ok (.iload_n 1, 1) := by decide +kernel
theorem dX5_canDo_15 : decode cX5_canDo 15 = .ok (.iconst 1, 1) := by decide +kernel
theorem dX5_canDo_16 : decode cX5_canDo 16 = .ok (.iadd, 1) := by decide +kernel
theorem dX5_canDo_17 : decode cX5_canDo 17 = .ok (.invokevirtual 50, 3) := by decide +kernel
theorem dX5_canDo_20 : decode cX5_canDo 20 = .ok (.if_icmp .ge 20, 3) := by decide +kernel
theorem dX5_canDo_23 : decode cX5_canDo 23 = .ok (.aload_n 0, 1) := by decide +kernel
theorem dX5_canDo_24 : decode cX5_canDo 24 = .ok (.iload_n 3, 1) := by decide +kernel
theorem dX5_canDo_25 : decode cX5_canDo 25 = .ok (.iload_n 2, 1) := by decide +kernel
theorem dX5_canDo_26 : decode cX5_canDo 26 = .ok (.invokevirtual 68, 3) := by decide +kernel
theorem dX5_canDo_29 : decode cX5_canDo 29 = .ok (.ifCond .eq 5, 3) := by decide +kernel
theorem dX5_canDo_32 : decode cX5_canDo 32 = .ok (.iconst 1, 1) := by decide +kernel
theorem dX5_canDo_33 : decode cX5_canDo 33 = .ok (.ireturn, 1) := by decide +kernel
theorem dX5_canDo_34 : decode cX5_canDo 34 = .ok (.iinc 3 1, 3) := by decide +kernel
theorem dX5_canDo_37 : decode cX5_canDo 37 = .ok (.goto (-28), 3) := by decide +kernel
theorem dX5_canDo_40 : decode cX5_canDo 40 = .ok (.iconst 0, 1) := by decide +kernel
theorem dX5_canDo_41 : decode cX5_canDo 41 = .ok (.ireturn, 1) := by decide +kernel
set_option maxHeartbeats 4000000 in
set_option maxRecDepth 100000 in
theorem kX5_canDo {l : Launch} {D : va_G} {cy : Nat → ClassId} {N : Nat} {q : Nat → Nat} {m0 : Nat → Value} {a0 : Nat → vp_A} {sz : Nat} (hN : 105 ≤ N) (hsh : SH q m0) {A30 : Nat → Int32} (h_A30 : a0 30 = (6001, .inl A30)) {A35 : Nat → Int32} (h_A35 : a0 35 = (60000, .inl A35)) (F : Nat) (p1 : Int32) (p2 : Int32) {X0 : Int32} (hs0 : fX5_canDo F A30 A35 p1 p2 = some X0) : gMi l yX5_canDo cX5_canDo 4 (some .boolean) ({ frames := 2, cells := 0, slots := 0, locals := 43 } : Room) D cy N q m0 a0 sz [.ref (q 28), .int p1, .int p2] (fun r m' a' => r = X0 ∧ m' = m0 ∧ a' = a0) := by
  refine g_ofi (by decide) (Nat.le_of_ble_eq_true rfl) ?_
  intro p e s M args below meth c hx hb hr hG hown hin hlocks hml hW hS ls hl
  unfold fX5_canDo at hs0
  refine lv_aload_n hx hb dX5_canDo_0 rfl (lv_at hl 0 rfl) ?_
  refine gf1_0 hx hb hG hown hW (o := 28) (ltN hN 28 rfl) gk28 (v := .ref (q 29)) (sh28_0 hsh) gx848 dX5_canDo_1 ?_
  refine lv_iload_n hx hb dX5_canDo_4 rfl (lv_at hl 1 rfl) ?_
  refine g_ViR (n := 1) hx hb hml hown hG hW hS [.int p1] (kX2_at (ltN hN 29 rfl) gk29 (ltN hN 30 rfl) gk30 (sh29_0 hsh) (by decide) h_A30 p1) (ltN hN 29 rfl) gk29 (by decide) rfl rfl (gd_V gx850 gx564 gx565 gx47 gx566) rfl rfl (by decide) ⟨Nat.le_of_ble_eq_true rfl, Nat.le_of_ble_eq_true rfl⟩ rfl hl (Nat.le_of_ble_eq_true rfl) ⟨Nat.zero_le _, Nat.zero_le _⟩ dX5_canDo_5 (fun H locs hW hS => ?_)
  refine lv_istore_n (lv' := [(3, .int (cAt 6001 A30 p1)), (0, .ref (q 28)), (1, .int p1), (2, .int p2)]) hx hb dX5_canDo_8 rfl hl (by decide) rfl (fun ls hl => ?_)
  obtain ⟨r2, hg2, hs0⟩ := obind hs0
  have hE1_32 : ∀ (t2_32 : Unit) (hr2 : Sum.inl t2_32 = r2) (H : Heap) (locs : List Loc) (ls : Array Slot) (hl : lv_has ls 4 []) (hW : GW D cy (gA N q s.heap.size) N q m0 a0 s H) (hS : va_S (gA N q s.heap.size) s.heap H locs), W p l e ({ frames := 2, cells := 0, slots := 0, locals := 43 } : Room) s M args below meth c H locs 0 0 (MQ below (va_Qi (fun (r : Int32) (u : (Nat → Value) × (Nat → vp_A)) => r = X0 ∧ u.1 = m0 ∧ u.2 = a0) (gB D cy N q s.heap.size) (gA N q s.heap.size)) args s 0 0 (gA N q s.heap.size)) (F0 M 32 ls []) := by
    intro t2_32 hr2 H locs ls hl hW hS
    subst hr2
    have hs0 := osum_l hs0
    refine lv_iconst (v := 1) hx hb dX5_canDo_32 (by decide) ?_
    have hs0 := Option.some.inj hs0
    subst hs0
    exact W.zret hx hb hr rfl (fun t ht hw => ⟨⟨_, (m0, a0), rfl, ⟨rfl, rfl, rfl⟩, g_end hW ht hw⟩, hS.F ht⟩) hS.2.2 dX5_canDo_33 hlocks
  have hE1_40 : ∀ (t2_40 : Unit) (hr2 : Sum.inr (t2_40) = r2) (H : Heap) (locs : List Loc) (ls : Array Slot) (hl : lv_has ls 4 []) (hW : GW D cy (gA N q s.heap.size) N q m0 a0 s H) (hS : va_S (gA N q s.heap.size) s.heap H locs), W p l e ({ frames := 2, cells := 0, slots := 0, locals := 43 } : Room) s M args below meth c H locs 0 0 (MQ below (va_Qi (fun (r : Int32) (u : (Nat → Value) × (Nat → vp_A)) => r = X0 ∧ u.1 = m0 ∧ u.2 = a0) (gB D cy N q s.heap.size) (gA N q s.heap.size)) args s 0 0 (gA N q s.heap.size)) (F0 M 40 ls []) := by
    intro t2_40 hr2 H locs ls hl hW hS
    subst hr2
    have hs0 := osum_r hs0
    refine lv_iconst (v := 0) hx hb dX5_canDo_40 (by decide) ?_
    have hs0 := Option.some.inj hs0
    subst hs0
    exact W.zret hx hb hr rfl (fun t ht hw => ⟨⟨_, (m0, a0), rfl, ⟨rfl, rfl, rfl⟩, g_end hW ht hw⟩, hS.F ht⟩) hS.2.2 dX5_canDo_41 hlocks
  have hL1 : ∀ (n : Nat) (v3k2 : Int32) (H : Heap) (locs : List Loc) (ls : Array Slot) (hl : lv_has ls 4 [(0, .ref (q 28)), (1, .int p1), (2, .int p2), (3, .int v3k2)]) (hg2 : gloop (fun u2 : Int32 => fX5_canDo_S9 F A30 A35 p1 p2 u2) n v3k2 = some r2) (hW : GW D cy (gA N q s.heap.size) N q m0 a0 s H) (hS : va_S (gA N q s.heap.size) s.heap H locs), W p l e ({ frames := 2, cells := 0, slots := 0, locals := 43 } : Room) s M args below meth c H locs 0 0 (MQ below (va_Qi (fun (r : Int32) (u : (Nat → Value) × (Nat → vp_A)) => r = X0 ∧ u.1 = m0 ∧ u.2 = a0) (gB D cy N q s.heap.size) (gA N q s.heap.size)) args s 0 0 (gA N q s.heap.size)) (F0 M 9 ls []) := by
    intro n
    induction n with
    | zero => intro v3k2 H locs ls hl hg2 hW hS; exact (gl_zero hg2).elim
    | succ n ih1 =>
      intro v3k2 H locs ls hl hg2 hW hS
      obtain ⟨X1, hs1, hXl1, hXr1⟩ := gl_succ hg2
      have hs1 : fX5_canDo_S9 F A30 A35 p1 p2 v3k2 = some X1 := hs1
      unfold fX5_canDo_S9 at hs1
      refine lv_iload_n hx hb dX5_canDo_9 rfl (lv_at hl 3 rfl) ?_
      refine lv_aload_n hx hb dX5_canDo_10 rfl (lv_at hl 0 rfl) ?_
      refine gf1_0 hx hb hG hown hW (o := 28) (ltN hN 28 rfl) gk28 (v := .ref (q 29)) (sh28_0 hsh) gx848 dX5_canDo_11 ?_
      refine lv_iload_n hx hb dX5_canDo_14 rfl (lv_at hl 1 rfl) ?_
      refine lv_iconst (v := 1) hx hb dX5_canDo_15 (by decide) ?_
      refine lv_iadd hx hb dX5_canDo_16 ?_
      refine g_ViR (n := 1) hx hb hml hown hG hW hS [.int (p1 + 1)] (kX2_at (ltN hN 29 rfl) gk29 (ltN hN 30 rfl) gk30 (sh29_0 hsh) (by decide) h_A30 (p1 + 1)) (ltN hN 29 rfl) gk29 (by decide) rfl rfl (gd_V gx850 gx564 gx565 gx47 gx566) rfl rfl (by decide) ⟨Nat.le_of_ble_eq_true rfl, Nat.le_of_ble_eq_true rfl⟩ rfl hl (Nat.le_of_ble_eq_true rfl) ⟨Nat.zero_le _, Nat.zero_le _⟩ dX5_canDo_17 (fun H locs hW hS => ?_)
      refine lv_icmp_ge (tgt := 40) hx hb dX5_canDo_20 (by decide) (fun c8 => ?_) (fun c8 => ?_)
      · rw [if_pos c8] at hs1
        exact hE1_40 () (hXl1 _ (Option.some.inj hs1).symm) _ _ ls (lv_sub hl [] rfl) hW hS
      · rw [if_neg c8] at hs1
        refine lv_aload_n hx hb dX5_canDo_23 rfl (lv_at hl 0 rfl) ?_
        refine lv_iload_n hx hb dX5_canDo_24 rfl (lv_at hl 3 rfl) ?_
        refine lv_iload_n hx hb dX5_canDo_25 rfl (lv_at hl 2 rfl) ?_
        refine g_ViR (n := 2) hx hb hml hown hG hW hS [.int v3k2, .int p2] (kX1_hasMark hN hsh h_A35 v3k2 p2) (ltN hN 28 rfl) gk28 (by decide) rfl rfl (gd_V gx861 gx789 gx790 gx86 gx791) rfl rfl (by decide) ⟨Nat.le_of_ble_eq_true rfl, Nat.le_of_ble_eq_true rfl⟩ rfl hl (Nat.le_of_ble_eq_true rfl) ⟨Nat.zero_le _, Nat.zero_le _⟩ dX5_canDo_26 (fun H locs hW hS => ?_)
        refine lv_if_eq (tgt := 34) hx hb dX5_canDo_29 (by decide) (fun c10 => ?_) (fun c10 => ?_)
        · rw [if_pos c10] at hs1
          refine lv_iinc (v := v3k2 + 1) (lv' := [(3, .int (v3k2 + 1)), (0, .ref (q 28)), (1, .int p1), (2, .int p2)]) hx hb dX5_canDo_34 hl (k := 3) rfl rfl (by decide) rfl (fun ls hl => ?_)
          refine lv_goto (tgt := 9) hx hb dX5_canDo_37 (by decide) ?_
          exact ih1 (v3k2 + 1) _ _ ls (lv_sub hl [1, 2, 3, 0] rfl) (hXr1 _ (Option.some.inj hs1).symm) hW hS
        · rw [if_neg c10] at hs1
          exact hE1_32 () (hXl1 _ (Option.some.inj hs1).symm) _ _ ls (lv_sub hl [] rfl) hW hS
  exact hL1 F (cAt 6001 A30 p1) _ _ ls (lv_sub hl [1, 2, 3, 0] rfl) hg2 hW hS
-- HealLink$Ranges.spread (LHealLink$Atlas;ILHealLink$Cells;)V
def fX5_spread_J60 (F : Nat) (x28_2 : Int32) (A30 : Nat → Int32) (A35 : Nat → Int32) (A63 : Nat → Int32) (A65 : Nat → Int32) (v2 : Int32) (v4j9 : Int32) (v5j9 : Int32) (A57j9 : Nat → Int32) (A61j9 : Nat → Int32) : Option ((Int32 × (Nat → Int32) × (Nat → Int32)) ⊕ (Int32 × Int32 × (Nat → Int32) × (Nat → Int32))) := some (Sum.inr (v4j9, v5j9 + 1, A57j9, A61j9))
def fX5_spread_J33 (F : Nat) (x28_2 : Int32) (A30 : Nat → Int32) (A35 : Nat → Int32) (A63 : Nat → Int32) (A65 : Nat → Int32) (v2 : Int32) (v4j5 : Int32) (v5j5 : Int32) (s0j5 : Int32) (s1j5 : Int32) (A57j5 : Nat → Int32) (A61j5 : Nat → Int32) : Option ((Int32 × (Nat → Int32) × (Nat → Int32)) ⊕ (Int32 × Int32 × (Nat → Int32) × (Nat → Int32))) := (if (cAt 6000 (cPut 6000 A57j5 s1j5 s0j5) v5j5) = 1 then fX5_spread_J60 F x28_2 A30 A35 A63 A65 v2 (v4j5 + 1) v5j5 (cPut 6000 A57j5 s1j5 s0j5) (cPut 6000 A61j5 v4j5 v5j5) else fX5_spread_J60 F x28_2 A30 A35 A63 A65 v2 v4j5 v5j5 (cPut 6000 A57j5 s1j5 s0j5) A61j5)
def fX5_spread_S6 (F : Nat) (x28_2 : Int32) (A30 : Nat → Int32) (A35 : Nat → Int32) (A63 : Nat → Int32) (A65 : Nat → Int32) (v2 : Int32) (v4 : Int32) (v5 : Int32) (A57 : Nat → Int32) (A61 : Nat → Int32) : Option ((Int32 × (Nat → Int32) × (Nat → Int32)) ⊕ (Int32 × Int32 × (Nat → Int32) × (Nat → Int32))) := (if x28_2 ≤ v5 then some (Sum.inl (v4, A57, A61)) else ((fX5_canDo F A30 A35 v5 v2).bind (fun r3 => (if r3 = 0 then fX5_spread_J33 F x28_2 A30 A35 A63 A65 v2 v4 v5 0 v5 A57 A61 else fX5_spread_J33 F x28_2 A30 A35 A63 A65 v2 v4 v5 1 v5 A57 A61))))
def fX5_spread_J170 (F : Nat) (x28_2 : Int32) (A30 : Nat → Int32) (A35 : Nat → Int32) (A63 : Nat → Int32) (A65 : Nat → Int32) (v4j22 : Int32) (v5 : Int32) (v6 : Int32) (v7j22 : Int32) (A57j22 : Nat → Int32) (A61j22 : Nat → Int32) : Option ((Int32 × (Nat → Int32) × (Nat → Int32)) ⊕ (Int32 × Int32 × (Nat → Int32) × (Nat → Int32))) := some (Sum.inr (v4j22, v7j22 + 1, A57j22, A61j22))
def fX5_spread_S106 (F : Nat) (x28_2 : Int32) (A30 : Nat → Int32) (A35 : Nat → Int32) (A63 : Nat → Int32) (A65 : Nat → Int32) (v5 : Int32) (v6 : Int32) (v4 : Int32) (v7 : Int32) (A57 : Nat → Int32) (A61 : Nat → Int32) : Option ((Int32 × (Nat → Int32) × (Nat → Int32)) ⊕ (Int32 × Int32 × (Nat → Int32) × (Nat → Int32))) := (if (cAt 6001 A63 (v6 + 1)) ≤ v7 then some (Sum.inl (v4, A57, A61)) else (if (cAt 6000 A57 (cAt 60000 A65 v7)) = 0 then fX5_spread_J170 F x28_2 A30 A35 A63 A65 (v4 + 1) v5 v6 v7 (cPut 6000 A57 (cAt 60000 A65 v7) ((cAt 6000 A57 v6) + 1)) (cPut 6000 A61 v4 (cAt 60000 A65 v7)) else fX5_spread_J170 F x28_2 A30 A35 A63 A65 v4 v5 v6 v7 A57 A61))
def fX5_spread_S69 (F : Nat) (x28_2 : Int32) (A30 : Nat → Int32) (A35 : Nat → Int32) (A63 : Nat → Int32) (A65 : Nat → Int32) (v4 : Int32) (v5 : Int32) (A57 : Nat → Int32) (A61 : Nat → Int32) : Option (((Nat → Int32) × (Nat → Int32)) ⊕ (Int32 × Int32 × (Nat → Int32) × (Nat → Int32))) := (if v4 ≤ v5 then some (Sum.inl (A57, A61)) else (if 6000 ≤ v5 then some (Sum.inl (A57, A61)) else (gloop (fun u16 : (Int32 × Int32 × (Nat → Int32) × (Nat → Int32)) => fX5_spread_S106 F x28_2 A30 A35 A63 A65 v5 (cAt 6000 A61 v5) u16.1 u16.2.1 u16.2.2.1 u16.2.2.2) F (v4, (cAt 6001 A63 (cAt 6000 A61 v5)), A57, A61)).bind (fun t16_176 => some (Sum.inr (t16_176.1, v5 + 1, t16_176.2.1, t16_176.2.2)))))
def fX5_spread (F : Nat) (x28_2 : Int32) (A30 : Nat → Int32) (A35 : Nat → Int32) (A63 : Nat → Int32) (A65 : Nat → Int32) (A57 : Nat → Int32) (A61 : Nat → Int32) (p2 : Int32) : Option ((Nat → Int32) × (Nat → Int32)) := (gloop (fun u1 : (Int32 × Int32 × (Nat → Int32) × (Nat → Int32)) => fX5_spread_S6 F x28_2 A30 A35 A63 A65 p2 u1.1 u1.2.1 u1.2.2.1 u1.2.2.2) F (0, 0, A57, A61)).bind (fun t1_66 => (gloop (fun u11 : (Int32 × Int32 × (Nat → Int32) × (Nat → Int32)) => fX5_spread_S69 F x28_2 A30 A35 A63 A65 u11.1 u11.2.1 u11.2.2.1 u11.2.2.2) F (t1_66.1, 0, t1_66.2.1, t1_66.2.2)).bind (fun t11_182 => some (t11_182.1, t11_182.2)))
theorem dX5_spread_0 : decode cX5_spread 0 = .ok (.iconst 0, 1) := by decide +kernel
theorem dX5_spread_1 : decode cX5_spread 1 = .ok (.istore 4, 2) := by decide +kernel
theorem dX5_spread_3 : decode cX5_spread 3 = .ok (.iconst 0, 1) := by decide +kernel
theorem dX5_spread_4 : decode cX5_spread 4 = .ok (.istore 5, 2) := by decide +kernel
theorem dX5_spread_6 : decode cX5_spread 6 = .ok (.iload 5, 2) := by decide +kernel
theorem dX5_spread_8 : decode cX5_spread 8 = .ok (.aload_n 1, 1) := by decide +kernel
theorem dX5_spread_9 : decode cX5_spread 9 = .ok (.getfield 46, 3) := by decide +kernel
theorem dX5_spread_12 : decode cX5_spread 12 = .ok (.if_icmp .ge 54, 3) := by decide +kernel
theorem dX5_spread_15 : decode cX5_spread 15 = .ok (.aload_n 3, 1) := by decide +kernel
theorem dX5_spread_16 : decode cX5_spread 16 = .ok (.iload 5, 2) := by decide +kernel
theorem dX5_spread_18 : decode cX5_spread 18 = .ok (.aload_n 1, 1) := by decide +kernel
theorem dX5_spread_19 : decode cX5_spread 19 = .ok (.iload 5, 2) := by decide +kernel
theorem dX5_spread_21 : decode cX5_spread 21 = .ok (.iload_n 2, 1) := by decide +kernel
theorem dX5_spread_22 : decode cX5_spread 22 = .ok (.invokestatic 64, 3) := by decide +kernel
theorem dX5_spread_25 : decode cX5_spread 25 = .ok (.ifCond .eq 7, 3) := by decide +kernel
theorem dX5_spread_28 : decode cX5_spread 28 = .ok (.iconst 1, 1) := by decide +kernel
theorem dX5_spread_29 : decode cX5_spread 29 = .ok (.goto 4, 3) := by decide +kernel
theorem dX5_spread_32 : decode cX5_spread 32 = .ok (.iconst 0, 1) := by decide +kernel
theorem dX5_spread_33 : decode cX5_spread 33 = .ok (.invokevirtual 60, 3) := by decide +kernel
theorem dX5_spread_36 : decode cX5_spread 36 = .ok (.aload_n 3, 1) := by decide +kernel
theorem dX5_spread_37 : decode cX5_spread 37 = .ok (.iload 5, 2) := by decide +kernel
theorem dX5_spread_39 : decode cX5_spread 39 = .ok (.invokevirtual 50, 3) := by decide +kernel
theorem dX5_spread_42 : decode cX5_spread 42 = .ok (.iconst 1, 1) := by decide +kernel
theorem dX5_spread_43 : decode cX5_spread 43 = .ok (.if_icmp .ne 17, 3) := by decide +kernel
theorem dX5_spread_46 : decode cX5_spread 46 = .ok (.aload_n 0, 1) := by decide +kernel
theorem dX5_spread_47 : decode cX5_spread 47 = .ok (.getfield 23, 3) := by decide +kernel
theorem dX5_spread_50 : decode cX5_spread 50 = .ok (.iload 4, 2) := by decide +kernel
theorem dX5_spread_52 : decode cX5_spread 52 = .ok (.iload 5, 2) := by decide +kernel
theorem dX5_spread_54 : decode cX5_spread 54 = .ok (.invokevirtual 60, 3) := by decide +kernel
theorem dX5_spread_57 : decode cX5_spread 57 = .ok (.iinc 4 1, 3) := by decide +kernel
theorem dX5_spread_60 : decode cX5_spread 60 = .ok (.iinc 5 1, 3) := by decide +kernel
theorem dX5_spread_63 : decode cX5_spread 63 = .ok (.goto (-57), 3) := by decide +kernel
theorem dX5_spread_66 : decode cX5_spread 66 = .ok (.iconst 0, 1) := by decide +kernel
theorem dX5_spread_67 : decode cX5_spread 67 = .ok (.istore 5, 2) := by decide +kernel
theorem dX5_spread_69 : decode cX5_spread 69 = .ok (.iload 5, 2) := by decide +kernel
theorem dX5_spread_71 : decode cX5_spread 71 = .ok (.iload 4, 2) := by decide +kernel
theorem dX5_spread_73 : decode cX5_spread 73 = .ok (.if_icmp .ge 109, 3) := by decide +kernel
theorem dX5_spread_76 : decode cX5_spread 76 = .ok (.iload 5, 2) := by decide +kernel
theorem dX5_spread_78 : decode cX5_spread 78 = .ok (.sipush 6000, 3) := by decide +kernel
theorem dX5_spread_81 : decode cX5_spread 81 = .ok (.if_icmp .ge 101, 3) := by decide +kernel
theorem dX5_spread_84 : decode cX5_spread 84 = .ok (.aload_n 0, 1) := by decide +kernel
theorem dX5_spread_85 : decode cX5_spread 85 = .ok (.getfield 23, 3) := by decide +kernel
theorem dX5_spread_88 : decode cX5_spread 88 = .ok (.iload 5, 2) := by decide +kernel
theorem dX5_spread_90 : decode cX5_spread 90 = .ok (.invokevirtual 50, 3) := by decide +kernel
theorem dX5_spread_93 : decode cX5_spread 93 = .ok (.istore 6, 2) := by decide +kernel
theorem dX5_spread_95 : decode cX5_spread 95 = .ok (.aload_n 0, 1) := by decide +kernel
theorem dX5_spread_96 : decode cX5_spread 96 = .ok (.getfield 26, 3) := by decide +kernel
theorem dX5_spread_99 : decode cX5_spread 99 = .ok (.iload 6, 2) := by decide +kernel
theorem dX5_spread_101 : decode cX5_spread 101 = .ok (.invokevirtual 50, 3) := by decide +kernel
theorem dX5_spread_104 : decode cX5_spread 104 = .ok (.istore 7, 2) := by decide +kernel
theorem dX5_spread_106 : decode cX5_spread 106 = .ok (.iload 7, 2) := by decide +kernel
theorem dX5_spread_108 : decode cX5_spread 108 = .ok (.aload_n 0, 1) := by decide +kernel
theorem dX5_spread_109 : decode cX5_spread 109 = .ok (.getfield 26, 3) := by decide +kernel
theorem dX5_spread_112 : decode cX5_spread 112 = .ok (.iload 6, 2) := by decide +kernel
theorem dX5_spread_114 : decode cX5_spread 114 = .ok (.iconst 1, 1) := by decide +kernel
theorem dX5_spread_115 : decode cX5_spread 115 = .ok (.iadd, 1) := by decide +kernel
theorem dX5_spread_116 : decode cX5_spread 116 = .ok (.invokevirtual 50, 3) := by decide +kernel
theorem dX5_spread_119 : decode cX5_spread 119 = .ok (.if_icmp .ge 57, 3) := by decide +kernel
theorem dX5_spread_122 : decode cX5_spread 122 = .ok (.aload_n 0, 1) := by decide +kernel
theorem dX5_spread_123 : decode cX5_spread 123 = .ok (.getfield 30, 3) := by decide +kernel
theorem dX5_spread_126 : decode cX5_spread 126 = .ok (.iload 7, 2) := by decide +kernel
theorem dX5_spread_128 : decode cX5_spread 128 = .ok (.invokevirtual 50, 3) := by decide +kernel
theorem dX5_spread_131 : decode cX5_spread 131 = .ok (.istore 8, 2) := by decide +kernel
theorem dX5_spread_133 : decode cX5_spread 133 = .ok (.aload_n 3, 1) := by decide +kernel
theorem dX5_spread_134 : decode cX5_spread 134 = .ok (.iload 8, 2) := by decide +kernel
theorem dX5_spread_136 : decode cX5_spread 136 = .ok (.invokevirtual 50, 3) := by decide +kernel
theorem dX5_spread_139 : decode cX5_spread 139 = .ok (.ifCond .ne 31, 3) := by decide +kernel
theorem dX5_spread_142 : decode cX5_spread 142 = .ok (.aload_n 3, 1) := by decide +kernel
theorem dX5_spread_143 : decode cX5_spread 143 = .ok (.iload 8, 2) := by decide +kernel
theorem dX5_spread_145 : decode cX5_spread 145 = .ok (.aload_n 3, 1) := by decide +kernel
theorem dX5_spread_146 : decode cX5_spread 146 = .ok (.iload 6, 2) := by decide +kernel
theorem dX5_spread_148 : decode cX5_spread 148 = .ok (.invokevirtual 50, 3) := by decide +kernel
theorem dX5_spread_151 : decode cX5_spread 151 = .ok (.iconst 1, 1) := by decide +kernel
theorem dX5_spread_152 : decode cX5_spread 152 = .ok (.iadd, 1) := by decide +kernel
theorem dX5_spread_153 : decode cX5_spread 153 = .ok (.invokevirtual 60, 3) := by decide +kernel
theorem dX5_spread_156 : decode cX5_spread 156 = .ok (.aload_n 0, 1) := by decide +kernel
theorem dX5_spread_157 : decode cX5_spread 157 = .ok (.getfield 23, 3) := by decide +kernel
theorem dX5_spread_160 : decode cX5_spread 160 = .ok (.iload 4, 2) := by decide +kernel
theorem dX5_spread_162 : decode cX5_spread 162 = .ok (.iload 8, 2) := by decide +kernel
theorem dX5_spread_164 : decode cX5_spread 164 = .ok (.invokevirtual 60, 3) := by decide +kernel
theorem dX5_spread_167 : decode cX5_spread 167 = .ok (.iinc 4 1, 3) := by decide +kernel
theorem dX5_spread_170 : decode cX5_spread 170 = .ok (.iinc 7 1, 3) := by decide +kernel
theorem dX5_spread_173 : decode cX5_spread 173 = .ok (.goto (-67), 3) := by decide +kernel
theorem dX5_spread_176 : decode cX5_spread 176 = .ok (.iinc 5 1, 3) := by decide +kernel
theorem dX5_spread_179 : decode cX5_spread 179 = .ok (.goto (-110), 3) := by decide +kernel
theorem dX5_spread_182 : decode cX5_spread 182 = .ok (.return_, 1) := by decide +kernel
set_option maxHeartbeats 4000000 in
set_option maxRecDepth 100000 in
theorem kX5_spread_56 {l : Launch} {D : va_G} {cy : Nat → ClassId} {N : Nat} {q : Nat → Nat} {m0 : Nat → Value} {a0 : Nat → vp_A} {sz : Nat} (hN : 105 ≤ N) (hsh : SH q m0) {x28_2 : Int32} (h_x28_2 : m0 2802 = .int x28_2) {A30 : Nat → Int32} (h_A30 : a0 30 = (6001, .inl A30)) {A35 : Nat → Int32} (h_A35 : a0 35 = (60000, .inl A35)) {A63 : Nat → Int32} (h_A63 : a0 63 = (6001, .inl A63)) {A65 : Nat → Int32} (h_A65 : a0 65 = (60000, .inl A65)) {A57 : Nat → Int32} (h_A57 : a0 57 = (6000, .inl A57)) {A61 : Nat → Int32} (h_A61 : a0 61 = (6000, .inl A61)) (F : Nat) (p2 : Int32) {X0 : (Nat → Int32) × (Nat → Int32)} (hs0 : fX5_spread F x28_2 A30 A35 A63 A65 A57 A61 p2 = some X0) : gMv l yX5_spread cX5_spread 9 none ({ frames := 3, cells := 0, slots := 0, locals := 66 } : Room) D cy N q m0 a0 sz [.ref (q 55), .ref (q 28), .int p2, .ref (q 56)] (fun m' a' => m' = m0 ∧ a' 57 = (6000, .inl X0.1) ∧ a' 61 = (6000, .inl X0.2) ∧ (∀ j, nel j [57, 61] = false → a' j = a0 j)) := by
  refine g_ofv (by decide) (Nat.le_of_ble_eq_true rfl) ?_
  intro p e s M args below meth c hx hb hr hG hown hin hlocks hml hW hS ls hl
  unfold fX5_spread at hs0
  have hoffa : ∀ j, nel j [57, 61] = false → a0 j = a0 j := off0
  refine lv_iconst (v := 0) hx hb dX5_spread_0 (by decide) ?_
  refine lv_istore (lv' := [(4, .int 0), (0, .ref (q 55)), (1, .ref (q 28)), (2, .int p2), (3, .ref (q 56))]) hx hb dX5_spread_1 hl (by decide) rfl (fun ls hl => ?_)
  refine lv_iconst (v := 0) hx hb dX5_spread_3 (by decide) ?_
  refine lv_istore (lv' := [(5, .int 0), (4, .int 0), (0, .ref (q 55)), (1, .ref (q 28)), (2, .int p2), (3, .ref (q 56))]) hx hb dX5_spread_4 hl (by decide) rfl (fun ls hl => ?_)
  obtain ⟨r1, hg1, hs0⟩ := obind hs0
  have hE1_66 : ∀ (t1_66 : Int32 × (Nat → Int32) × (Nat → Int32)) (hr1 : t1_66 = r1) (a : Nat → vp_A) (H : Heap) (locs : List Loc) (w_A57 : a 57 = (6000, .inl t1_66.2.1)) (w_A61 : a 61 = (6000, .inl t1_66.2.2)) (hoffa : ∀ j, nel j [57, 61] = false → a j = a0 j) (ls : Array Slot) (hl : lv_has ls 9 [(0, .ref (q 55)), (3, .ref (q 56)), (4, .int t1_66.1)]) (hW : GW D cy (gA N q s.heap.size) N q m0 a s H) (hS : va_S (gA N q s.heap.size) s.heap H locs), W p l e ({ frames := 3, cells := 0, slots := 0, locals := 66 } : Room) s M args below meth c H locs 0 0 (MQ below (va_Qv (fun (u : (Nat → Value) × (Nat → vp_A)) => u.1 = m0 ∧ u.2 57 = (6000, .inl X0.1) ∧ u.2 61 = (6000, .inl X0.2) ∧ (∀ j, nel j [57, 61] = false → u.2 j = a0 j)) (gB D cy N q s.heap.size) (gA N q s.heap.size)) args s 0 0 (gA N q s.heap.size)) (F0 M 66 ls []) := by
    intro t1_66 hr1 a H locs w_A57 w_A61 hoffa ls hl hW hS
    subst hr1
    refine lv_iconst (v := 0) hx hb dX5_spread_66 (by decide) ?_
    refine lv_istore (lv' := [(5, .int 0), (0, .ref (q 55)), (3, .ref (q 56)), (4, .int t1_66.1)]) hx hb dX5_spread_67 hl (by decide) rfl (fun ls hl => ?_)
    obtain ⟨r11, hg11, hs0⟩ := obind hs0
    have hE1_182 : ∀ (t11_182 : (Nat → Int32) × (Nat → Int32)) (hr11 : t11_182 = r11) (a : Nat → vp_A) (H : Heap) (locs : List Loc) (w_A57 : a 57 = (6000, .inl t11_182.1)) (w_A61 : a 61 = (6000, .inl t11_182.2)) (hoffa : ∀ j, nel j [57, 61] = false → a j = a0 j) (ls : Array Slot) (hl : lv_has ls 9 []) (hW : GW D cy (gA N q s.heap.size) N q m0 a s H) (hS : va_S (gA N q s.heap.size) s.heap H locs), W p l e ({ frames := 3, cells := 0, slots := 0, locals := 66 } : Room) s M args below meth c H locs 0 0 (MQ below (va_Qv (fun (u : (Nat → Value) × (Nat → vp_A)) => u.1 = m0 ∧ u.2 57 = (6000, .inl X0.1) ∧ u.2 61 = (6000, .inl X0.2) ∧ (∀ j, nel j [57, 61] = false → u.2 j = a0 j)) (gB D cy N q s.heap.size) (gA N q s.heap.size)) args s 0 0 (gA N q s.heap.size)) (F0 M 182 ls []) := by
      intro t11_182 hr11 a H locs w_A57 w_A61 hoffa ls hl hW hS
      subst hr11
      have hs0 := Option.some.inj hs0
      subst hs0
      exact W.vret hx hb hr (fun t ht hw => ⟨⟨(m0, a), rfl, ⟨rfl, w_A57, w_A61, hoffa⟩, g_end hW ht hw⟩, hS.F ht⟩) hS.2.2 dX5_spread_182 hlocks
    have hL1 : ∀ (n : Nat) (v4k11 : Int32) (v5k11 : Int32) (A57k11 : Nat → Int32) (A61k11 : Nat → Int32) (a : Nat → vp_A) (H : Heap) (locs : List Loc) (w_A57 : a 57 = (6000, .inl A57k11)) (w_A61 : a 61 = (6000, .inl A61k11)) (hoffa : ∀ j, nel j [57, 61] = false → a j = a0 j) (ls : Array Slot) (hl : lv_has ls 9 [(0, .ref (q 55)), (3, .ref (q 56)), (4, .int v4k11), (5, .int v5k11)]) (hg11 : gloop (fun u11 : (Int32 × Int32 × (Nat → Int32) × (Nat → Int32)) => fX5_spread_S69 F x28_2 A30 A35 A63 A65 u11.1 u11.2.1 u11.2.2.1 u11.2.2.2) n (v4k11, v5k11, A57k11, A61k11) = some r11) (hW : GW D cy (gA N q s.heap.size) N q m0 a s H) (hS : va_S (gA N q s.heap.size) s.heap H locs), W p l e ({ frames := 3, cells := 0, slots := 0, locals := 66 } : Room) s M args below meth c H locs 0 0 (MQ below (va_Qv (fun (u : (Nat → Value) × (Nat → vp_A)) => u.1 = m0 ∧ u.2 57 = (6000, .inl X0.1) ∧ u.2 61 = (6000, .inl X0.2) ∧ (∀ j, nel j [57, 61] = false → u.2 j = a0 j)) (gB D cy N q s.heap.size) (gA N q s.heap.size)) args s 0 0 (gA N q s.heap.size)) (F0 M 69 ls []) := by
      intro n
      induction n with
      | zero => intro v4k11 v5k11 A57k11 A61k11 a H locs w_A57 w_A61 hoffa ls hl hg11 hW hS; exact (gl_zero hg11).elim
      | succ n ih1 =>
        intro v4k11 v5k11 A57k11 A61k11 a H locs w_A57 w_A61 hoffa ls hl hg11 hW hS
        obtain ⟨X1, hs1, hXl1, hXr1⟩ := gl_succ hg11
        have hs1 : fX5_spread_S69 F x28_2 A30 A35 A63 A65 v4k11 v5k11 A57k11 A61k11 = some X1 := hs1
        unfold fX5_spread_S69 at hs1
        refine lv_iload hx hb dX5_spread_69 (lv_at hl 3 rfl) ?_
        refine lv_iload hx hb dX5_spread_71 (lv_at hl 2 rfl) ?_
        refine lv_icmp_ge (tgt := 182) hx hb dX5_spread_73 (by decide) (fun c35 => ?_) (fun c35 => ?_)
        · rw [if_pos c35] at hs1
          exact hE1_182 (A57k11, A61k11) (hXl1 _ (Option.some.inj hs1).symm) a _ _ w_A57 w_A61 hoffa ls (lv_sub hl [] rfl) hW hS
        · rw [if_neg c35] at hs1
          refine lv_iload hx hb dX5_spread_76 (lv_at hl 3 rfl) ?_
          refine lv_sipush (v := 6000) hx hb dX5_spread_78 (by decide) ?_
          refine lv_icmp_ge (tgt := 182) hx hb dX5_spread_81 (by decide) (fun c36 => ?_) (fun c36 => ?_)
          · rw [if_pos c36] at hs1
            exact hE1_182 (A57k11, A61k11) (hXl1 _ (Option.some.inj hs1).symm) a _ _ w_A57 w_A61 hoffa ls (lv_sub hl [] rfl) hW hS
          · rw [if_neg c36] at hs1
            refine lv_aload_n hx hb dX5_spread_84 rfl (lv_at hl 0 rfl) ?_
            refine gf5_2 hx hb hG hown hW (o := 55) (ltN hN 55 rfl) gk55 (v := .ref (q 60)) (sh55_2 hsh) gx140 dX5_spread_85 ?_
            refine lv_iload hx hb dX5_spread_88 (lv_at hl 3 rfl) ?_
            refine g_ViR (n := 1) hx hb hml hown hG hW hS [.int v5k11] (kX2_at (ltN hN 60 rfl) gk60 (ltN hN 61 rfl) gk61 (sh60_0 hsh) (by decide) w_A61 v5k11) (ltN hN 60 rfl) gk60 (by decide) rfl rfl (gd_V gx850 gx564 gx565 gx47 gx566) rfl rfl (by decide) ⟨Nat.le_of_ble_eq_true rfl, Nat.le_of_ble_eq_true rfl⟩ rfl hl (Nat.le_of_ble_eq_true rfl) ⟨Nat.zero_le _, Nat.zero_le _⟩ dX5_spread_90 (fun H locs hW hS => ?_)
            refine lv_istore (lv' := [(6, .int (cAt 6000 A61k11 v5k11)), (0, .ref (q 55)), (3, .ref (q 56)), (4, .int v4k11), (5, .int v5k11)]) hx hb dX5_spread_93 hl (by decide) rfl (fun ls hl => ?_)
            refine lv_aload_n hx hb dX5_spread_95 rfl (lv_at hl 1 rfl) ?_
            refine gf5_3 hx hb hG hown hW (o := 55) (ltN hN 55 rfl) gk55 (v := .ref (q 62)) (sh55_3 hsh) gx141 dX5_spread_96 ?_
            refine lv_iload hx hb dX5_spread_99 (lv_at hl 0 rfl) ?_
            refine g_ViR (n := 1) hx hb hml hown hG hW hS [.int (cAt 6000 A61k11 v5k11)] (kX2_at (ltN hN 62 rfl) gk62 (ltN hN 63 rfl) gk63 (sh62_0 hsh) (by decide) ((hoffa 63 rfl).trans h_A63) (cAt 6000 A61k11 v5k11)) (ltN hN 62 rfl) gk62 (by decide) rfl rfl (gd_V gx850 gx564 gx565 gx47 gx566) rfl rfl (by decide) ⟨Nat.le_of_ble_eq_true rfl, Nat.le_of_ble_eq_true rfl⟩ rfl hl (Nat.le_of_ble_eq_true rfl) ⟨Nat.zero_le _, Nat.zero_le _⟩ dX5_spread_101 (fun H locs hW hS => ?_)
            refine lv_istore (lv' := [(7, .int (cAt 6001 A63 (cAt 6000 A61k11 v5k11))), (6, .int (cAt 6000 A61k11 v5k11)), (0, .ref (q 55)), (3, .ref (q 56)), (4, .int v4k11), (5, .int v5k11)]) hx hb dX5_spread_104 hl (by decide) rfl (fun ls hl => ?_)
            obtain ⟨r39, hg39, hs1⟩ := obind hs1
            have hE2_176 : ∀ (t39_176 : Int32 × (Nat → Int32) × (Nat → Int32)) (hr39 : t39_176 = r39) (a : Nat → vp_A) (H : Heap) (locs : List Loc) (w_A57 : a 57 = (6000, .inl t39_176.2.1)) (w_A61 : a 61 = (6000, .inl t39_176.2.2)) (hoffa : ∀ j, nel j [57, 61] = false → a j = a0 j) (ls : Array Slot) (hl : lv_has ls 9 [(0, .ref (q 55)), (3, .ref (q 56)), (4, .int t39_176.1), (5, .int v5k11)]) (hW : GW D cy (gA N q s.heap.size) N q m0 a s H) (hS : va_S (gA N q s.heap.size) s.heap H locs), W p l e ({ frames := 3, cells := 0, slots := 0, locals := 66 } : Room) s M args below meth c H locs 0 0 (MQ below (va_Qv (fun (u : (Nat → Value) × (Nat → vp_A)) => u.1 = m0 ∧ u.2 57 = (6000, .inl X0.1) ∧ u.2 61 = (6000, .inl X0.2) ∧ (∀ j, nel j [57, 61] = false → u.2 j = a0 j)) (gB D cy N q s.heap.size) (gA N q s.heap.size)) args s 0 0 (gA N q s.heap.size)) (F0 M 176 ls []) := by
              intro t39_176 hr39 a H locs w_A57 w_A61 hoffa ls hl hW hS
              subst hr39
              refine lv_iinc (v := v5k11 + 1) (lv' := [(5, .int (v5k11 + 1)), (0, .ref (q 55)), (3, .ref (q 56)), (4, .int t39_176.1)]) hx hb dX5_spread_176 hl (k := 3) rfl rfl (by decide) rfl (fun ls hl => ?_)
              refine lv_goto (tgt := 69) hx hb dX5_spread_179 (by decide) ?_
              exact ih1 t39_176.1 (v5k11 + 1) t39_176.2.1 t39_176.2.2 a _ _ w_A57 w_A61 hoffa ls (lv_sub hl [1, 2, 3, 0] rfl) (hXr1 _ (Option.some.inj hs1).symm) hW hS
            have hL2 : ∀ (n : Nat) (v4k39 : Int32) (v7k39 : Int32) (A57k39 : Nat → Int32) (A61k39 : Nat → Int32) (a : Nat → vp_A) (H : Heap) (locs : List Loc) (w_A57 : a 57 = (6000, .inl A57k39)) (w_A61 : a 61 = (6000, .inl A61k39)) (hoffa : ∀ j, nel j [57, 61] = false → a j = a0 j) (ls : Array Slot) (hl : lv_has ls 9 [(0, .ref (q 55)), (3, .ref (q 56)), (4, .int v4k39), (5, .int v5k11), (6, .int (cAt 6000 A61k11 v5k11)), (7, .int v7k39)]) (hg39 : gloop (fun u39 : (Int32 × Int32 × (Nat → Int32) × (Nat → Int32)) => fX5_spread_S106 F x28_2 A30 A35 A63 A65 v5k11 (cAt 6000 A61k11 v5k11) u39.1 u39.2.1 u39.2.2.1 u39.2.2.2) n (v4k39, v7k39, A57k39, A61k39) = some r39) (hW : GW D cy (gA N q s.heap.size) N q m0 a s H) (hS : va_S (gA N q s.heap.size) s.heap H locs), W p l e ({ frames := 3, cells := 0, slots := 0, locals := 66 } : Room) s M args below meth c H locs 0 0 (MQ below (va_Qv (fun (u : (Nat → Value) × (Nat → vp_A)) => u.1 = m0 ∧ u.2 57 = (6000, .inl X0.1) ∧ u.2 61 = (6000, .inl X0.2) ∧ (∀ j, nel j [57, 61] = false → u.2 j = a0 j)) (gB D cy N q s.heap.size) (gA N q s.heap.size)) args s 0 0 (gA N q s.heap.size)) (F0 M 106 ls []) := by
              intro n
              induction n with
              | zero => intro v4k39 v7k39 A57k39 A61k39 a H locs w_A57 w_A61 hoffa ls hl hg39 hW hS; exact (gl_zero hg39).elim
              | succ n ih2 =>
                intro v4k39 v7k39 A57k39 A61k39 a H locs w_A57 w_A61 hoffa ls hl hg39 hW hS
                obtain ⟨X2, hs2, hXl2, hXr2⟩ := gl_succ hg39
                have hs2 : fX5_spread_S106 F x28_2 A30 A35 A63 A65 v5k11 (cAt 6000 A61k11 v5k11) v4k39 v7k39 A57k39 A61k39 = some X2 := hs2
                unfold fX5_spread_S106 at hs2
                have hJ170_2 : ∀ (v4j54 : Int32) (v7j54 : Int32) (A57j54 : Nat → Int32) (A61j54 : Nat → Int32) (a : Nat → vp_A) (H : Heap) (locs : List Loc) (w_A57 : a 57 = (6000, .inl A57j54)) (w_A61 : a 61 = (6000, .inl A61j54)) (hoffa : ∀ j, nel j [57, 61] = false → a j = a0 j) (ls : Array Slot) (hl : lv_has ls 9 [(0, .ref (q 55)), (3, .ref (q 56)), (4, .int v4j54), (5, .int v5k11), (6, .int (cAt 6000 A61k11 v5k11)), (7, .int v7j54)]) (hs2 : fX5_spread_J170 F x28_2 A30 A35 A63 A65 v4j54 v5k11 (cAt 6000 A61k11 v5k11) v7j54 A57j54 A61j54 = some X2) (hW : GW D cy (gA N q s.heap.size) N q m0 a s H) (hS : va_S (gA N q s.heap.size) s.heap H locs), W p l e ({ frames := 3, cells := 0, slots := 0, locals := 66 } : Room) s M args below meth c H locs 0 0 (MQ below (va_Qv (fun (u : (Nat → Value) × (Nat → vp_A)) => u.1 = m0 ∧ u.2 57 = (6000, .inl X0.1) ∧ u.2 61 = (6000, .inl X0.2) ∧ (∀ j, nel j [57, 61] = false → u.2 j = a0 j)) (gB D cy N q s.heap.size) (gA N q s.heap.size)) args s 0 0 (gA N q s.heap.size)) (F0 M 170 ls []) := by
                  intro v4j54 v7j54 A57j54 A61j54 a H locs w_A57 w_A61 hoffa ls hl hs2 hW hS
                  unfold fX5_spread_J170 at hs2
                  refine lv_iinc (v := v7j54 + 1) (lv' := [(7, .int (v7j54 + 1)), (0, .ref (q 55)), (3, .ref (q 56)), (4, .int v4j54), (5, .int v5k11), (6, .int (cAt 6000 A61k11 v5k11))]) hx hb dX5_spread_170 hl (k := 5) rfl rfl (by decide) rfl (fun ls hl => ?_)
                  refine lv_goto (tgt := 106) hx hb dX5_spread_173 (by decide) ?_
                  exact ih2 v4j54 (v7j54 + 1) A57j54 A61j54 a _ _ w_A57 w_A61 hoffa ls (lv_sub hl [1, 2, 3, 4, 5, 0] rfl) (hXr2 _ (Option.some.inj hs2).symm) hW hS
                refine lv_iload hx hb dX5_spread_106 (lv_at hl 5 rfl) ?_
                refine lv_aload_n hx hb dX5_spread_108 rfl (lv_at hl 0 rfl) ?_
                refine gf5_3 hx hb hG hown hW (o := 55) (ltN hN 55 rfl) gk55 (v := .ref (q 62)) (sh55_3 hsh) gx141 dX5_spread_109 ?_
                refine lv_iload hx hb dX5_spread_112 (lv_at hl 4 rfl) ?_
                refine lv_iconst (v := 1) hx hb dX5_spread_114 (by decide) ?_
                refine lv_iadd hx hb dX5_spread_115 ?_
                refine g_ViR (n := 1) hx hb hml hown hG hW hS [.int ((cAt 6000 A61k11 v5k11) + 1)] (kX2_at (ltN hN 62 rfl) gk62 (ltN hN 63 rfl) gk63 (sh62_0 hsh) (by decide) ((hoffa 63 rfl).trans h_A63) ((cAt 6000 A61k11 v5k11) + 1)) (ltN hN 62 rfl) gk62 (by decide) rfl rfl (gd_V gx850 gx564 gx565 gx47 gx566) rfl rfl (by decide) ⟨Nat.le_of_ble_eq_true rfl, Nat.le_of_ble_eq_true rfl⟩ rfl hl (Nat.le_of_ble_eq_true rfl) ⟨Nat.zero_le _, Nat.zero_le _⟩ dX5_spread_116 (fun H locs hW hS => ?_)
                refine lv_icmp_ge (tgt := 176) hx hb dX5_spread_119 (by decide) (fun c50 => ?_) (fun c50 => ?_)
                · rw [if_pos c50] at hs2
                  exact hE2_176 (v4k39, A57k39, A61k39) (hXl2 _ (Option.some.inj hs2).symm) a _ _ w_A57 w_A61 hoffa ls (lv_sub hl [0, 1, 2, 3] rfl) hW hS
                · rw [if_neg c50] at hs2
                  refine lv_aload_n hx hb dX5_spread_122 rfl (lv_at hl 0 rfl) ?_
                  refine gf5_4 hx hb hG hown hW (o := 55) (ltN hN 55 rfl) gk55 (v := .ref (q 64)) (sh55_4 hsh) gx143 dX5_spread_123 ?_
                  refine lv_iload hx hb dX5_spread_126 (lv_at hl 5 rfl) ?_
                  refine g_ViR (n := 1) hx hb hml hown hG hW hS [.int v7k39] (kX2_at (ltN hN 64 rfl) gk64 (ltN hN 65 rfl) gk65 (sh64_0 hsh) (by decide) ((hoffa 65 rfl).trans h_A65) v7k39) (ltN hN 64 rfl) gk64 (by decide) rfl rfl (gd_V gx850 gx564 gx565 gx47 gx566) rfl rfl (by decide) ⟨Nat.le_of_ble_eq_true rfl, Nat.le_of_ble_eq_true rfl⟩ rfl hl (Nat.le_of_ble_eq_true rfl) ⟨Nat.zero_le _, Nat.zero_le _⟩ dX5_spread_128 (fun H locs hW hS => ?_)
                  refine lv_istore (lv' := [(8, .int (cAt 60000 A65 v7k39)), (0, .ref (q 55)), (3, .ref (q 56)), (4, .int v4k39), (5, .int v5k11), (6, .int (cAt 6000 A61k11 v5k11)), (7, .int v7k39)]) hx hb dX5_spread_131 hl (by decide) rfl (fun ls hl => ?_)
                  refine lv_aload_n hx hb dX5_spread_133 rfl (lv_at hl 2 rfl) ?_
                  refine lv_iload hx hb dX5_spread_134 (lv_at hl 0 rfl) ?_
                  refine g_ViR (n := 1) hx hb hml hown hG hW hS [.int (cAt 60000 A65 v7k39)] (kX2_at (ltN hN 56 rfl) gk56 (ltN hN 57 rfl) gk57 (sh56_0 hsh) (by decide) w_A57 (cAt 60000 A65 v7k39)) (ltN hN 56 rfl) gk56 (by decide) rfl rfl (gd_V gx850 gx564 gx565 gx47 gx566) rfl rfl (by decide) ⟨Nat.le_of_ble_eq_true rfl, Nat.le_of_ble_eq_true rfl⟩ rfl hl (Nat.le_of_ble_eq_true rfl) ⟨Nat.zero_le _, Nat.zero_le _⟩ dX5_spread_136 (fun H locs hW hS => ?_)
                  refine lv_if_ne (tgt := 170) hx hb dX5_spread_139 (by decide) (fun c53 => ?_) (fun c53 => ?_)
                  · rw [if_neg c53] at hs2
                    exact hJ170_2 v4k39 v7k39 A57k39 A61k39 a _ _ w_A57 w_A61 hoffa ls (lv_sub hl [1, 2, 3, 4, 5, 6] rfl) hs2 hW hS
                  · rw [if_pos c53] at hs2
                    refine lv_aload_n hx hb dX5_spread_142 rfl (lv_at hl 2 rfl) ?_
                    refine lv_iload hx hb dX5_spread_143 (lv_at hl 0 rfl) ?_
                    refine lv_aload_n hx hb dX5_spread_145 rfl (lv_at hl 2 rfl) ?_
                    refine lv_iload hx hb dX5_spread_146 (lv_at hl 5 rfl) ?_
                    refine g_ViR (n := 1) hx hb hml hown hG hW hS [.int (cAt 6000 A61k11 v5k11)] (kX2_at (ltN hN 56 rfl) gk56 (ltN hN 57 rfl) gk57 (sh56_0 hsh) (by decide) w_A57 (cAt 6000 A61k11 v5k11)) (ltN hN 56 rfl) gk56 (by decide) rfl rfl (gd_V gx850 gx564 gx565 gx47 gx566) rfl rfl (by decide) ⟨Nat.le_of_ble_eq_true rfl, Nat.le_of_ble_eq_true rfl⟩ rfl hl (Nat.le_of_ble_eq_true rfl) ⟨Nat.zero_le _, Nat.zero_le _⟩ dX5_spread_148 (fun H locs hW hS => ?_)
                    refine lv_iconst (v := 1) hx hb dX5_spread_151 (by decide) ?_
                    refine lv_iadd hx hb dX5_spread_152 ?_
                    refine g_Vv (n := 2) hx hb hml hown hG hW hS [.int (cAt 60000 A65 v7k39), .int ((cAt 6000 A57k39 (cAt 6000 A61k11 v5k11)) + 1)] (kX2_put (ltN hN 56 rfl) gk56 (ltN hN 57 rfl) gk57 (sh56_0 hsh) (by decide) w_A57 (cAt 60000 A65 v7k39) ((cAt 6000 A57k39 (cAt 6000 A61k11 v5k11)) + 1)) (ltN hN 56 rfl) gk56 (by decide) rfl rfl (gd_V gx853 gx551 gx552 gx47 gx553) rfl rfl (by decide) ⟨Nat.le_of_ble_eq_true rfl, Nat.le_of_ble_eq_true rfl⟩ rfl hl (Nat.le_of_ble_eq_true rfl) ⟨Nat.zero_le _, Nat.zero_le _⟩ dX5_spread_153 (fun m56 a56 H locs hp56 hW hS => ?_)
                    obtain ⟨hm56, hp56_A57, hoa56⟩ := hp56
                    rw [hm56] at hW
                    have w_A57 : a56 57 = (6000, .inl (cPut 6000 A57k39 (cAt 60000 A65 v7k39) ((cAt 6000 A57k39 (cAt 6000 A61k11 v5k11)) + 1))) := hp56_A57
                    have w_A61 : a56 61 = (6000, .inl A61k39) := (hoa56 61 rfl).trans w_A61
                    have hoffa := offm hoffa hoa56 (by decide +kernel)
                    refine lv_aload_n hx hb dX5_spread_156 rfl (lv_at hl 1 rfl) ?_
                    refine gf5_2 hx hb hG hown hW (o := 55) (ltN hN 55 rfl) gk55 (v := .ref (q 60)) (sh55_2 hsh) gx140 dX5_spread_157 ?_
                    refine lv_iload hx hb dX5_spread_160 (lv_at hl 3 rfl) ?_
                    refine lv_iload hx hb dX5_spread_162 (lv_at hl 0 rfl) ?_
                    refine g_Vv (n := 2) hx hb hml hown hG hW hS [.int v4k39, .int (cAt 60000 A65 v7k39)] (kX2_put (ltN hN 60 rfl) gk60 (ltN hN 61 rfl) gk61 (sh60_0 hsh) (by decide) w_A61 v4k39 (cAt 60000 A65 v7k39)) (ltN hN 60 rfl) gk60 (by decide) rfl rfl (gd_V gx853 gx551 gx552 gx47 gx553) rfl rfl (by decide) ⟨Nat.le_of_ble_eq_true rfl, Nat.le_of_ble_eq_true rfl⟩ rfl hl (Nat.le_of_ble_eq_true rfl) ⟨Nat.zero_le _, Nat.zero_le _⟩ dX5_spread_164 (fun m57 a57 H locs hp57 hW hS => ?_)
                    obtain ⟨hm57, hp57_A61, hoa57⟩ := hp57
                    rw [hm57] at hW
                    have w_A57 : a57 57 = (6000, .inl (cPut 6000 A57k39 (cAt 60000 A65 v7k39) ((cAt 6000 A57k39 (cAt 6000 A61k11 v5k11)) + 1))) := (hoa57 57 rfl).trans w_A57
                    have w_A61 : a57 61 = (6000, .inl (cPut 6000 A61k39 v4k39 (cAt 60000 A65 v7k39))) := hp57_A61
                    have hoffa := offm hoffa hoa57 (by decide +kernel)
                    refine lv_iinc (v := v4k39 + 1) (lv' := [(4, .int (v4k39 + 1)), (8, .int (cAt 60000 A65 v7k39)), (0, .ref (q 55)), (3, .ref (q 56)), (5, .int v5k11), (6, .int (cAt 6000 A61k11 v5k11)), (7, .int v7k39)]) hx hb dX5_spread_167 hl (k := 3) rfl rfl (by decide) rfl (fun ls hl => ?_)
                    exact hJ170_2 (v4k39 + 1) v7k39 (cPut 6000 A57k39 (cAt 60000 A65 v7k39) ((cAt 6000 A57k39 (cAt 6000 A61k11 v5k11)) + 1)) (cPut 6000 A61k39 v4k39 (cAt 60000 A65 v7k39)) a57 _ _ w_A57 w_A61 hoffa ls (lv_sub hl [2, 3, 0, 4, 5, 6] rfl) hs2 hW hS
            exact hL2 F v4k11 (cAt 6001 A63 (cAt 6000 A61k11 v5k11)) A57k11 A61k11 a _ _ w_A57 w_A61 hoffa ls (lv_sub hl [2, 3, 4, 5, 1, 0] rfl) hg39 hW hS
    exact hL1 F t1_66.1 0 t1_66.2.1 t1_66.2.2 a _ _ w_A57 w_A61 hoffa ls (lv_sub hl [1, 2, 3, 0] rfl) hg11 hW hS
  have hL1 : ∀ (n : Nat) (v4k1 : Int32) (v5k1 : Int32) (A57k1 : Nat → Int32) (A61k1 : Nat → Int32) (a : Nat → vp_A) (H : Heap) (locs : List Loc) (w_A57 : a 57 = (6000, .inl A57k1)) (w_A61 : a 61 = (6000, .inl A61k1)) (hoffa : ∀ j, nel j [57, 61] = false → a j = a0 j) (ls : Array Slot) (hl : lv_has ls 9 [(0, .ref (q 55)), (1, .ref (q 28)), (2, .int p2), (3, .ref (q 56)), (4, .int v4k1), (5, .int v5k1)]) (hg1 : gloop (fun u1 : (Int32 × Int32 × (Nat → Int32) × (Nat → Int32)) => fX5_spread_S6 F x28_2 A30 A35 A63 A65 p2 u1.1 u1.2.1 u1.2.2.1 u1.2.2.2) n (v4k1, v5k1, A57k1, A61k1) = some r1) (hW : GW D cy (gA N q s.heap.size) N q m0 a s H) (hS : va_S (gA N q s.heap.size) s.heap H locs), W p l e ({ frames := 3, cells := 0, slots := 0, locals := 66 } : Room) s M args below meth c H locs 0 0 (MQ below (va_Qv (fun (u : (Nat → Value) × (Nat → vp_A)) => u.1 = m0 ∧ u.2 57 = (6000, .inl X0.1) ∧ u.2 61 = (6000, .inl X0.2) ∧ (∀ j, nel j [57, 61] = false → u.2 j = a0 j)) (gB D cy N q s.heap.size) (gA N q s.heap.size)) args s 0 0 (gA N q s.heap.size)) (F0 M 6 ls []) := by
    intro n
    induction n with
    | zero => intro v4k1 v5k1 A57k1 A61k1 a H locs w_A57 w_A61 hoffa ls hl hg1 hW hS; exact (gl_zero hg1).elim
    | succ n ih1 =>
      intro v4k1 v5k1 A57k1 A61k1 a H locs w_A57 w_A61 hoffa ls hl hg1 hW hS
      obtain ⟨X1, hs1, hXl1, hXr1⟩ := gl_succ hg1
      have hs1 : fX5_spread_S6 F x28_2 A30 A35 A63 A65 p2 v4k1 v5k1 A57k1 A61k1 = some X1 := hs1
      unfold fX5_spread_S6 at hs1
      have hJ60_1 : ∀ (v4j65 : Int32) (v5j65 : Int32) (A57j65 : Nat → Int32) (A61j65 : Nat → Int32) (a : Nat → vp_A) (H : Heap) (locs : List Loc) (w_A57 : a 57 = (6000, .inl A57j65)) (w_A61 : a 61 = (6000, .inl A61j65)) (hoffa : ∀ j, nel j [57, 61] = false → a j = a0 j) (ls : Array Slot) (hl : lv_has ls 9 [(0, .ref (q 55)), (1, .ref (q 28)), (2, .int p2), (3, .ref (q 56)), (4, .int v4j65), (5, .int v5j65)]) (hs1 : fX5_spread_J60 F x28_2 A30 A35 A63 A65 p2 v4j65 v5j65 A57j65 A61j65 = some X1) (hW : GW D cy (gA N q s.heap.size) N q m0 a s H) (hS : va_S (gA N q s.heap.size) s.heap H locs), W p l e ({ frames := 3, cells := 0, slots := 0, locals := 66 } : Room) s M args below meth c H locs 0 0 (MQ below (va_Qv (fun (u : (Nat → Value) × (Nat → vp_A)) => u.1 = m0 ∧ u.2 57 = (6000, .inl X0.1) ∧ u.2 61 = (6000, .inl X0.2) ∧ (∀ j, nel j [57, 61] = false → u.2 j = a0 j)) (gB D cy N q s.heap.size) (gA N q s.heap.size)) args s 0 0 (gA N q s.heap.size)) (F0 M 60 ls []) := by
        intro v4j65 v5j65 A57j65 A61j65 a H locs w_A57 w_A61 hoffa ls hl hs1 hW hS
        unfold fX5_spread_J60 at hs1
        refine lv_iinc (v := v5j65 + 1) (lv' := [(5, .int (v5j65 + 1)), (0, .ref (q 55)), (1, .ref (q 28)), (2, .int p2), (3, .ref (q 56)), (4, .int v4j65)]) hx hb dX5_spread_60 hl (k := 5) rfl rfl (by decide) rfl (fun ls hl => ?_)
        refine lv_goto (tgt := 6) hx hb dX5_spread_63 (by decide) ?_
        exact ih1 v4j65 (v5j65 + 1) A57j65 A61j65 a _ _ w_A57 w_A61 hoffa ls (lv_sub hl [1, 2, 3, 4, 5, 0] rfl) (hXr1 _ (Option.some.inj hs1).symm) hW hS
      have hJ33_1 : ∀ (v4j61 : Int32) (v5j61 : Int32) (s0j61 : Int32) (s1j61 : Int32) (A57j61 : Nat → Int32) (A61j61 : Nat → Int32) (a : Nat → vp_A) (H : Heap) (locs : List Loc) (w_A57 : a 57 = (6000, .inl A57j61)) (w_A61 : a 61 = (6000, .inl A61j61)) (hoffa : ∀ j, nel j [57, 61] = false → a j = a0 j) (ls : Array Slot) (hl : lv_has ls 9 [(0, .ref (q 55)), (1, .ref (q 28)), (2, .int p2), (3, .ref (q 56)), (4, .int v4j61), (5, .int v5j61)]) (hs1 : fX5_spread_J33 F x28_2 A30 A35 A63 A65 p2 v4j61 v5j61 s0j61 s1j61 A57j61 A61j61 = some X1) (hW : GW D cy (gA N q s.heap.size) N q m0 a s H) (hS : va_S (gA N q s.heap.size) s.heap H locs), W p l e ({ frames := 3, cells := 0, slots := 0, locals := 66 } : Room) s M args below meth c H locs 0 0 (MQ below (va_Qv (fun (u : (Nat → Value) × (Nat → vp_A)) => u.1 = m0 ∧ u.2 57 = (6000, .inl X0.1) ∧ u.2 61 = (6000, .inl X0.2) ∧ (∀ j, nel j [57, 61] = false → u.2 j = a0 j)) (gB D cy N q s.heap.size) (gA N q s.heap.size)) args s 0 0 (gA N q s.heap.size)) (F0 M 33 ls [.int s0j61, .int s1j61, .ref (q 56)]) := by
        intro v4j61 v5j61 s0j61 s1j61 A57j61 A61j61 a H locs w_A57 w_A61 hoffa ls hl hs1 hW hS
        unfold fX5_spread_J33 at hs1
        refine g_Vv (n := 2) hx hb hml hown hG hW hS [.int s1j61, .int s0j61] (kX2_put (ltN hN 56 rfl) gk56 (ltN hN 57 rfl) gk57 (sh56_0 hsh) (by decide) w_A57 s1j61 s0j61) (ltN hN 56 rfl) gk56 (by decide) rfl rfl (gd_V gx853 gx551 gx552 gx47 gx553) rfl rfl (by decide) ⟨Nat.le_of_ble_eq_true rfl, Nat.le_of_ble_eq_true rfl⟩ rfl hl (Nat.le_of_ble_eq_true rfl) ⟨Nat.zero_le _, Nat.zero_le _⟩ dX5_spread_33 (fun m62 a62 H locs hp62 hW hS => ?_)
        obtain ⟨hm62, hp62_A57, hoa62⟩ := hp62
        rw [hm62] at hW
        have w_A57 : a62 57 = (6000, .inl (cPut 6000 A57j61 s1j61 s0j61)) := hp62_A57
        have w_A61 : a62 61 = (6000, .inl A61j61) := (hoa62 61 rfl).trans w_A61
        have hoffa := offm hoffa hoa62 (by decide +kernel)
        refine lv_aload_n hx hb dX5_spread_36 rfl (lv_at hl 3 rfl) ?_
        refine lv_iload hx hb dX5_spread_37 (lv_at hl 5 rfl) ?_
        refine g_ViR (n := 1) hx hb hml hown hG hW hS [.int v5j61] (kX2_at (ltN hN 56 rfl) gk56 (ltN hN 57 rfl) gk57 (sh56_0 hsh) (by decide) w_A57 v5j61) (ltN hN 56 rfl) gk56 (by decide) rfl rfl (gd_V gx850 gx564 gx565 gx47 gx566) rfl rfl (by decide) ⟨Nat.le_of_ble_eq_true rfl, Nat.le_of_ble_eq_true rfl⟩ rfl hl (Nat.le_of_ble_eq_true rfl) ⟨Nat.zero_le _, Nat.zero_le _⟩ dX5_spread_39 (fun H locs hW hS => ?_)
        refine lv_iconst (v := 1) hx hb dX5_spread_42 (by decide) ?_
        refine lv_icmp_ne (tgt := 60) hx hb dX5_spread_43 (by decide) (fun c64 => ?_) (fun c64 => ?_)
        · rw [if_neg c64] at hs1
          exact hJ60_1 v4j61 v5j61 (cPut 6000 A57j61 s1j61 s0j61) A61j61 a62 _ _ w_A57 w_A61 hoffa ls (lv_sub hl [0, 1, 2, 3, 4, 5] rfl) hs1 hW hS
        · rw [if_pos c64] at hs1
          refine lv_aload_n hx hb dX5_spread_46 rfl (lv_at hl 0 rfl) ?_
          refine gf5_2 hx hb hG hown hW (o := 55) (ltN hN 55 rfl) gk55 (v := .ref (q 60)) (sh55_2 hsh) gx140 dX5_spread_47 ?_
          refine lv_iload hx hb dX5_spread_50 (lv_at hl 4 rfl) ?_
          refine lv_iload hx hb dX5_spread_52 (lv_at hl 5 rfl) ?_
          refine g_Vv (n := 2) hx hb hml hown hG hW hS [.int v4j61, .int v5j61] (kX2_put (ltN hN 60 rfl) gk60 (ltN hN 61 rfl) gk61 (sh60_0 hsh) (by decide) w_A61 v4j61 v5j61) (ltN hN 60 rfl) gk60 (by decide) rfl rfl (gd_V gx853 gx551 gx552 gx47 gx553) rfl rfl (by decide) ⟨Nat.le_of_ble_eq_true rfl, Nat.le_of_ble_eq_true rfl⟩ rfl hl (Nat.le_of_ble_eq_true rfl) ⟨Nat.zero_le _, Nat.zero_le _⟩ dX5_spread_54 (fun m66 a66 H locs hp66 hW hS => ?_)
          obtain ⟨hm66, hp66_A61, hoa66⟩ := hp66
          rw [hm66] at hW
          have w_A57 : a66 57 = (6000, .inl (cPut 6000 A57j61 s1j61 s0j61)) := (hoa66 57 rfl).trans w_A57
          have w_A61 : a66 61 = (6000, .inl (cPut 6000 A61j61 v4j61 v5j61)) := hp66_A61
          have hoffa := offm hoffa hoa66 (by decide +kernel)
          refine lv_iinc (v := v4j61 + 1) (lv' := [(4, .int (v4j61 + 1)), (0, .ref (q 55)), (1, .ref (q 28)), (2, .int p2), (3, .ref (q 56)), (5, .int v5j61)]) hx hb dX5_spread_57 hl (k := 4) rfl rfl (by decide) rfl (fun ls hl => ?_)
          exact hJ60_1 (v4j61 + 1) v5j61 (cPut 6000 A57j61 s1j61 s0j61) (cPut 6000 A61j61 v4j61 v5j61) a66 _ _ w_A57 w_A61 hoffa ls (lv_sub hl [1, 2, 3, 4, 0, 5] rfl) hs1 hW hS
      refine lv_iload hx hb dX5_spread_6 (lv_at hl 5 rfl) ?_
      refine lv_aload_n hx hb dX5_spread_8 rfl (lv_at hl 1 rfl) ?_
      refine gf1_2 hx hb hG hown hW (o := 28) (ltN hN 28 rfl) gk28 (v := .int x28_2) h_x28_2 gx849 dX5_spread_9 ?_
      refine lv_icmp_ge (tgt := 66) hx hb dX5_spread_12 (by decide) (fun c58 => ?_) (fun c58 => ?_)
      · rw [if_pos c58] at hs1
        exact hE1_66 (v4k1, A57k1, A61k1) (hXl1 _ (Option.some.inj hs1).symm) a _ _ w_A57 w_A61 hoffa ls (lv_sub hl [0, 3, 4] rfl) hW hS
      · rw [if_neg c58] at hs1
        refine lv_aload_n hx hb dX5_spread_15 rfl (lv_at hl 3 rfl) ?_
        refine lv_iload hx hb dX5_spread_16 (lv_at hl 5 rfl) ?_
        refine lv_aload_n hx hb dX5_spread_18 rfl (lv_at hl 1 rfl) ?_
        refine lv_iload hx hb dX5_spread_19 (lv_at hl 5 rfl) ?_
        refine lv_iload_n hx hb dX5_spread_21 rfl (lv_at hl 2 rfl) ?_
        obtain ⟨r59, hf59, hs1⟩ := obind hs1
        refine g_SiR (n := 3) hx hb hml hown hG hW hS [.ref (q 28), .int v5k1, .int p2] (kX5_canDo hN hsh ((hoffa 30 rfl).trans h_A30) ((hoffa 35 rfl).trans h_A35) F v5k1 p2 hf59) rfl (gd_S gx858 gx859 gx98 gx860) rfl rfl (by decide) ⟨Nat.le_of_ble_eq_true rfl, Nat.le_of_ble_eq_true rfl⟩ rfl hl (Nat.le_of_ble_eq_true rfl) ⟨Nat.zero_le _, Nat.zero_le _⟩ dX5_spread_22 (fun H locs hW hS => ?_)
        refine lv_if_eq (tgt := 32) hx hb dX5_spread_25 (by decide) (fun c60 => ?_) (fun c60 => ?_)
        · rw [if_pos c60] at hs1
          refine lv_iconst (v := 0) hx hb dX5_spread_32 (by decide) ?_
          exact hJ33_1 v4k1 v5k1 0 v5k1 A57k1 A61k1 a _ _ w_A57 w_A61 hoffa ls (lv_sub hl [0, 1, 2, 3, 4, 5] rfl) hs1 hW hS
        · rw [if_neg c60] at hs1
          refine lv_iconst (v := 1) hx hb dX5_spread_28 (by decide) ?_
          refine lv_goto (tgt := 33) hx hb dX5_spread_29 (by decide) ?_
          exact hJ33_1 v4k1 v5k1 1 v5k1 A57k1 A61k1 a _ _ w_A57 w_A61 hoffa ls (lv_sub hl [0, 1, 2, 3, 4, 5] rfl) hs1 hW hS
  exact hL1 F 0 0 A57 A61 a0 _ _ h_A57 h_A61 hoffa ls (lv_sub hl [2, 3, 4, 5, 1, 0] rfl) hg1 hW hS
set_option maxHeartbeats 4000000 in
set_option maxRecDepth 100000 in
theorem kX5_spread_58 {l : Launch} {D : va_G} {cy : Nat → ClassId} {N : Nat} {q : Nat → Nat} {m0 : Nat → Value} {a0 : Nat → vp_A} {sz : Nat} (hN : 105 ≤ N) (hsh : SH q m0) {x28_2 : Int32} (h_x28_2 : m0 2802 = .int x28_2) {A30 : Nat → Int32} (h_A30 : a0 30 = (6001, .inl A30)) {A35 : Nat → Int32} (h_A35 : a0 35 = (60000, .inl A35)) {A63 : Nat → Int32} (h_A63 : a0 63 = (6001, .inl A63)) {A65 : Nat → Int32} (h_A65 : a0 65 = (60000, .inl A65)) {A59 : Nat → Int32} (h_A59 : a0 59 = (6000, .inl A59)) {A61 : Nat → Int32} (h_A61 : a0 61 = (6000, .inl A61)) (F : Nat) (p2 : Int32) {X0 : (Nat → Int32) × (Nat → Int32)} (hs0 : fX5_spread F x28_2 A30 A35 A63 A65 A59 A61 p2 = some X0) : gMv l yX5_spread cX5_spread 9 none ({ frames := 3, cells := 0, slots := 0, locals := 66 } : Room) D cy N q m0 a0 sz [.ref (q 55), .ref (q 28), .int p2, .ref (q 58)] (fun m' a' => m' = m0 ∧ a' 59 = (6000, .inl X0.1) ∧ a' 61 = (6000, .inl X0.2) ∧ (∀ j, nel j [59, 61] = false → a' j = a0 j)) := by
  refine g_ofv (by decide) (Nat.le_of_ble_eq_true rfl) ?_
  intro p e s M args below meth c hx hb hr hG hown hin hlocks hml hW hS ls hl
  unfold fX5_spread at hs0
  have hoffa : ∀ j, nel j [59, 61] = false → a0 j = a0 j := off0
  refine lv_iconst (v := 0) hx hb dX5_spread_0 (by decide) ?_
  refine lv_istore (lv' := [(4, .int 0), (0, .ref (q 55)), (1, .ref (q 28)), (2, .int p2), (3, .ref (q 58))]) hx hb dX5_spread_1 hl (by decide) rfl (fun ls hl => ?_)
  refine lv_iconst (v := 0) hx hb dX5_spread_3 (by decide) ?_
  refine lv_istore (lv' := [(5, .int 0), (4, .int 0), (0, .ref (q 55)), (1, .ref (q 28)), (2, .int p2), (3, .ref (q 58))]) hx hb dX5_spread_4 hl (by decide) rfl (fun ls hl => ?_)
  obtain ⟨r1, hg1, hs0⟩ := obind hs0
  have hE1_66 : ∀ (t1_66 : Int32 × (Nat → Int32) × (Nat → Int32)) (hr1 : t1_66 = r1) (a : Nat → vp_A) (H : Heap) (locs : List Loc) (w_A59 : a 59 = (6000, .inl t1_66.2.1)) (w_A61 : a 61 = (6000, .inl t1_66.2.2)) (hoffa : ∀ j, nel j [59, 61] = false → a j = a0 j) (ls : Array Slot) (hl : lv_has ls 9 [(0, .ref (q 55)), (3, .ref (q 58)), (4, .int t1_66.1)]) (hW : GW D cy (gA N q s.heap.size) N q m0 a s H) (hS : va_S (gA N q s.heap.size) s.heap H locs), W p l e ({ frames := 3, cells := 0, slots := 0, locals := 66 } : Room) s M args below meth c H locs 0 0 (MQ below (va_Qv (fun (u : (Nat → Value) × (Nat → vp_A)) => u.1 = m0 ∧ u.2 59 = (6000, .inl X0.1) ∧ u.2 61 = (6000, .inl X0.2) ∧ (∀ j, nel j [59, 61] = false → u.2 j = a0 j)) (gB D cy N q s.heap.size) (gA N q s.heap.size)) args s 0 0 (gA N q s.heap.size)) (F0 M 66 ls []) := by
    intro t1_66 hr1 a H locs w_A59 w_A61 hoffa ls hl hW hS
    subst hr1
    refine lv_iconst (v := 0) hx hb dX5_spread_66 (by decide) ?_
    refine lv_istore (lv' := [(5, .int 0), (0, .ref (q 55)), (3, .ref (q 58)), (4, .int t1_66.1)]) hx hb dX5_spread_67 hl (by decide) rfl (fun ls hl => ?_)
    obtain ⟨r11, hg11, hs0⟩ := obind hs0
    have hE1_182 : ∀ (t11_182 : (Nat → Int32) × (Nat → Int32)) (hr11 : t11_182 = r11) (a : Nat → vp_A) (H : Heap) (locs : List Loc) (w_A59 : a 59 = (6000, .inl t11_182.1)) (w_A61 : a 61 = (6000, .inl t11_182.2)) (hoffa : ∀ j, nel j [59, 61] = false → a j = a0 j) (ls : Array Slot) (hl : lv_has ls 9 []) (hW : GW D cy (gA N q s.heap.size) N q m0 a s H) (hS : va_S (gA N q s.heap.size) s.heap H locs), W p l e ({ frames := 3, cells := 0, slots := 0, locals := 66 } : Room) s M args below meth c H locs 0 0 (MQ below (va_Qv (fun (u : (Nat → Value) × (Nat → vp_A)) => u.1 = m0 ∧ u.2 59 = (6000, .inl X0.1) ∧ u.2 61 = (6000, .inl X0.2) ∧ (∀ j, nel j [59, 61] = false → u.2 j = a0 j)) (gB D cy N q s.heap.size) (gA N q s.heap.size)) args s 0 0 (gA N q s.heap.size)) (F0 M 182 ls []) := by
      intro t11_182 hr11 a H locs w_A59 w_A61 hoffa ls hl hW hS
      subst hr11
      have hs0 := Option.some.inj hs0
      subst hs0
      exact W.vret hx hb hr (fun t ht hw => ⟨⟨(m0, a), rfl, ⟨rfl, w_A59, w_A61, hoffa⟩, g_end hW ht hw⟩, hS.F ht⟩) hS.2.2 dX5_spread_182 hlocks
    have hL1 : ∀ (n : Nat) (v4k11 : Int32) (v5k11 : Int32) (A59k11 : Nat → Int32) (A61k11 : Nat → Int32) (a : Nat → vp_A) (H : Heap) (locs : List Loc) (w_A59 : a 59 = (6000, .inl A59k11)) (w_A61 : a 61 = (6000, .inl A61k11)) (hoffa : ∀ j, nel j [59, 61] = false → a j = a0 j) (ls : Array Slot) (hl : lv_has ls 9 [(0, .ref (q 55)), (3, .ref (q 58)), (4, .int v4k11), (5, .int v5k11)]) (hg11 : gloop (fun u11 : (Int32 × Int32 × (Nat → Int32) × (Nat → Int32)) => fX5_spread_S69 F x28_2 A30 A35 A63 A65 u11.1 u11.2.1 u11.2.2.1 u11.2.2.2) n (v4k11, v5k11, A59k11, A61k11) = some r11) (hW : GW D cy (gA N q s.heap.size) N q m0 a s H) (hS : va_S (gA N q s.heap.size) s.heap H locs), W p l e ({ frames := 3, cells := 0, slots := 0, locals := 66 } : Room) s M args below meth c H locs 0 0 (MQ below (va_Qv (fun (u : (Nat → Value) × (Nat → vp_A)) => u.1 = m0 ∧ u.2 59 = (6000, .inl X0.1) ∧ u.2 61 = (6000, .inl X0.2) ∧ (∀ j, nel j [59, 61] = false → u.2 j = a0 j)) (gB D cy N q s.heap.size) (gA N q s.heap.size)) args s 0 0 (gA N q s.heap.size)) (F0 M 69 ls []) := by
      intro n
      induction n with
      | zero => intro v4k11 v5k11 A59k11 A61k11 a H locs w_A59 w_A61 hoffa ls hl hg11 hW hS; exact (gl_zero hg11).elim
      | succ n ih1 =>
        intro v4k11 v5k11 A59k11 A61k11 a H locs w_A59 w_A61 hoffa ls hl hg11 hW hS
        obtain ⟨X1, hs1, hXl1, hXr1⟩ := gl_succ hg11
        have hs1 : fX5_spread_S69 F x28_2 A30 A35 A63 A65 v4k11 v5k11 A59k11 A61k11 = some X1 := hs1
        unfold fX5_spread_S69 at hs1
        refine lv_iload hx hb dX5_spread_69 (lv_at hl 3 rfl) ?_
        refine lv_iload hx hb dX5_spread_71 (lv_at hl 2 rfl) ?_
        refine lv_icmp_ge (tgt := 182) hx hb dX5_spread_73 (by decide) (fun c35 => ?_) (fun c35 => ?_)
        · rw [if_pos c35] at hs1
          exact hE1_182 (A59k11, A61k11) (hXl1 _ (Option.some.inj hs1).symm) a _ _ w_A59 w_A61 hoffa ls (lv_sub hl [] rfl) hW hS
        · rw [if_neg c35] at hs1
          refine lv_iload hx hb dX5_spread_76 (lv_at hl 3 rfl) ?_
          refine lv_sipush (v := 6000) hx hb dX5_spread_78 (by decide) ?_
          refine lv_icmp_ge (tgt := 182) hx hb dX5_spread_81 (by decide) (fun c36 => ?_) (fun c36 => ?_)
          · rw [if_pos c36] at hs1
            exact hE1_182 (A59k11, A61k11) (hXl1 _ (Option.some.inj hs1).symm) a _ _ w_A59 w_A61 hoffa ls (lv_sub hl [] rfl) hW hS
          · rw [if_neg c36] at hs1
            refine lv_aload_n hx hb dX5_spread_84 rfl (lv_at hl 0 rfl) ?_
            refine gf5_2 hx hb hG hown hW (o := 55) (ltN hN 55 rfl) gk55 (v := .ref (q 60)) (sh55_2 hsh) gx140 dX5_spread_85 ?_
            refine lv_iload hx hb dX5_spread_88 (lv_at hl 3 rfl) ?_
            refine g_ViR (n := 1) hx hb hml hown hG hW hS [.int v5k11] (kX2_at (ltN hN 60 rfl) gk60 (ltN hN 61 rfl) gk61 (sh60_0 hsh) (by decide) w_A61 v5k11) (ltN hN 60 rfl) gk60 (by decide) rfl rfl (gd_V gx850 gx564 gx565 gx47 gx566) rfl rfl (by decide) ⟨Nat.le_of_ble_eq_true rfl, Nat.le_of_ble_eq_true rfl⟩ rfl hl (Nat.le_of_ble_eq_true rfl) ⟨Nat.zero_le _, Nat.zero_le _⟩ dX5_spread_90 (fun H locs hW hS => ?_)
            refine lv_istore (lv' := [(6, .int (cAt 6000 A61k11 v5k11)), (0, .ref (q 55)), (3, .ref (q 58)), (4, .int v4k11), (5, .int v5k11)]) hx hb dX5_spread_93 hl (by decide) rfl (fun ls hl => ?_)
            refine lv_aload_n hx hb dX5_spread_95 rfl (lv_at hl 1 rfl) ?_
            refine gf5_3 hx hb hG hown hW (o := 55) (ltN hN 55 rfl) gk55 (v := .ref (q 62)) (sh55_3 hsh) gx141 dX5_spread_96 ?_
            refine lv_iload hx hb dX5_spread_99 (lv_at hl 0 rfl) ?_
            refine g_ViR (n := 1) hx hb hml hown hG hW hS [.int (cAt 6000 A61k11 v5k11)] (kX2_at (ltN hN 62 rfl) gk62 (ltN hN 63 rfl) gk63 (sh62_0 hsh) (by decide) ((hoffa 63 rfl).trans h_A63) (cAt 6000 A61k11 v5k11)) (ltN hN 62 rfl) gk62 (by decide) rfl rfl (gd_V gx850 gx564 gx565 gx47 gx566) rfl rfl (by decide) ⟨Nat.le_of_ble_eq_true rfl, Nat.le_of_ble_eq_true rfl⟩ rfl hl (Nat.le_of_ble_eq_true rfl) ⟨Nat.zero_le _, Nat.zero_le _⟩ dX5_spread_101 (fun H locs hW hS => ?_)
            refine lv_istore (lv' := [(7, .int (cAt 6001 A63 (cAt 6000 A61k11 v5k11))), (6, .int (cAt 6000 A61k11 v5k11)), (0, .ref (q 55)), (3, .ref (q 58)), (4, .int v4k11), (5, .int v5k11)]) hx hb dX5_spread_104 hl (by decide) rfl (fun ls hl => ?_)
            obtain ⟨r39, hg39, hs1⟩ := obind hs1
            have hE2_176 : ∀ (t39_176 : Int32 × (Nat → Int32) × (Nat → Int32)) (hr39 : t39_176 = r39) (a : Nat → vp_A) (H : Heap) (locs : List Loc) (w_A59 : a 59 = (6000, .inl t39_176.2.1)) (w_A61 : a 61 = (6000, .inl t39_176.2.2)) (hoffa : ∀ j, nel j [59, 61] = false → a j = a0 j) (ls : Array Slot) (hl : lv_has ls 9 [(0, .ref (q 55)), (3, .ref (q 58)), (4, .int t39_176.1), (5, .int v5k11)]) (hW : GW D cy (gA N q s.heap.size) N q m0 a s H) (hS : va_S (gA N q s.heap.size) s.heap H locs), W p l e ({ frames := 3, cells := 0, slots := 0, locals := 66 } : Room) s M args below meth c H locs 0 0 (MQ below (va_Qv (fun (u : (Nat → Value) × (Nat → vp_A)) => u.1 = m0 ∧ u.2 59 = (6000, .inl X0.1) ∧ u.2 61 = (6000, .inl X0.2) ∧ (∀ j, nel j [59, 61] = false → u.2 j = a0 j)) (gB D cy N q s.heap.size) (gA N q s.heap.size)) args s 0 0 (gA N q s.heap.size)) (F0 M 176 ls []) := by
              intro t39_176 hr39 a H locs w_A59 w_A61 hoffa ls hl hW hS
              subst hr39
              refine lv_iinc (v := v5k11 + 1) (lv' := [(5, .int (v5k11 + 1)), (0, .ref (q 55)), (3, .ref (q 58)), (4, .int t39_176.1)]) hx hb dX5_spread_176 hl (k := 3) rfl rfl (by decide) rfl (fun ls hl => ?_)
              refine lv_goto (tgt := 69) hx hb dX5_spread_179 (by decide) ?_
              exact ih1 t39_176.1 (v5k11 + 1) t39_176.2.1 t39_176.2.2 a _ _ w_A59 w_A61 hoffa ls (lv_sub hl [1, 2, 3, 0] rfl) (hXr1 _ (Option.some.inj hs1).symm) hW hS
            have hL2 : ∀ (n : Nat) (v4k39 : Int32) (v7k39 : Int32) (A59k39 : Nat → Int32) (A61k39 : Nat → Int32) (a : Nat → vp_A) (H : Heap) (locs : List Loc) (w_A59 : a 59 = (6000, .inl A59k39)) (w_A61 : a 61 = (6000, .inl A61k39)) (hoffa : ∀ j, nel j [59, 61] = false → a j = a0 j) (ls : Array Slot) (hl : lv_has ls 9 [(0, .ref (q 55)), (3, .ref (q 58)), (4, .int v4k39), (5, .int v5k11), (6, .int (cAt 6000 A61k11 v5k11)), (7, .int v7k39)]) (hg39 : gloop (fun u39 : (Int32 × Int32 × (Nat → Int32) × (Nat → Int32)) => fX5_spread_S106 F x28_2 A30 A35 A63 A65 v5k11 (cAt 6000 A61k11 v5k11) u39.1 u39.2.1 u39.2.2.1 u39.2.2.2) n (v4k39, v7k39, A59k39, A61k39) = some r39) (hW : GW D cy (gA N q s.heap.size) N q m0 a s H) (hS : va_S (gA N q s.heap.size) s.heap H locs), W p l e ({ frames := 3, cells := 0, slots := 0, locals := 66 } : Room) s M args below meth c H locs 0 0 (MQ below (va_Qv (fun (u : (Nat → Value) × (Nat → vp_A)) => u.1 = m0 ∧ u.2 59 = (6000, .inl X0.1) ∧ u.2 61 = (6000, .inl X0.2) ∧ (∀ j, nel j [59, 61] = false → u.2 j = a0 j)) (gB D cy N q s.heap.size) (gA N q s.heap.size)) args s 0 0 (gA N q s.heap.size)) (F0 M 106 ls []) := by
              intro n
              induction n with
              | zero => intro v4k39 v7k39 A59k39 A61k39 a H locs w_A59 w_A61 hoffa ls hl hg39 hW hS; exact (gl_zero hg39).elim
              | succ n ih2 =>
                intro v4k39 v7k39 A59k39 A61k39 a H locs w_A59 w_A61 hoffa ls hl hg39 hW hS
                obtain ⟨X2, hs2, hXl2, hXr2⟩ := gl_succ hg39
                have hs2 : fX5_spread_S106 F x28_2 A30 A35 A63 A65 v5k11 (cAt 6000 A61k11 v5k11) v4k39 v7k39 A59k39 A61k39 = some X2 := hs2
                unfold fX5_spread_S106 at hs2
                have hJ170_2 : ∀ (v4j54 : Int32) (v7j54 : Int32) (A59j54 : Nat → Int32) (A61j54 : Nat → Int32) (a : Nat → vp_A) (H : Heap) (locs : List Loc) (w_A59 : a 59 = (6000, .inl A59j54)) (w_A61 : a 61 = (6000, .inl A61j54)) (hoffa : ∀ j, nel j [59, 61] = false → a j = a0 j) (ls : Array Slot) (hl : lv_has ls 9 [(0, .ref (q 55)), (3, .ref (q 58)), (4, .int v4j54), (5, .int v5k11), (6, .int (cAt 6000 A61k11 v5k11)), (7, .int v7j54)]) (hs2 : fX5_spread_J170 F x28_2 A30 A35 A63 A65 v4j54 v5k11 (cAt 6000 A61k11 v5k11) v7j54 A59j54 A61j54 = some X2) (hW : GW D cy (gA N q s.heap.size) N q m0 a s H) (hS : va_S (gA N q s.heap.size) s.heap H locs), W p l e ({ frames := 3, cells := 0, slots := 0, locals := 66 } : Room) s M args below meth c H locs 0 0 (MQ below (va_Qv (fun (u : (Nat → Value) × (Nat → vp_A)) => u.1 = m0 ∧ u.2 59 = (6000, .inl X0.1) ∧ u.2 61 = (6000, .inl X0.2) ∧ (∀ j, nel j [59, 61] = false → u.2 j = a0 j)) (gB D cy N q s.heap.size) (gA N q s.heap.size)) args s 0 0 (gA N q s.heap.size)) (F0 M 170 ls []) := by
                  intro v4j54 v7j54 A59j54 A61j54 a H locs w_A59 w_A61 hoffa ls hl hs2 hW hS
                  unfold fX5_spread_J170 at hs2
                  refine lv_iinc (v := v7j54 + 1) (lv' := [(7, .int (v7j54 + 1)), (0, .ref (q 55)), (3, .ref (q 58)), (4, .int v4j54), (5, .int v5k11), (6, .int (cAt 6000 A61k11 v5k11))]) hx hb dX5_spread_170 hl (k := 5) rfl rfl (by decide) rfl (fun ls hl => ?_)
                  refine lv_goto (tgt := 106) hx hb dX5_spread_173 (by decide) ?_
                  exact ih2 v4j54 (v7j54 + 1) A59j54 A61j54 a _ _ w_A59 w_A61 hoffa ls (lv_sub hl [1, 2, 3, 4, 5, 0] rfl) (hXr2 _ (Option.some.inj hs2).symm) hW hS
                refine lv_iload hx hb dX5_spread_106 (lv_at hl 5 rfl) ?_
                refine lv_aload_n hx hb dX5_spread_108 rfl (lv_at hl 0 rfl) ?_
                refine gf5_3 hx hb hG hown hW (o := 55) (ltN hN 55 rfl) gk55 (v := .ref (q 62)) (sh55_3 hsh) gx141 dX5_spread_109 ?_
                refine lv_iload hx hb dX5_spread_112 (lv_at hl 4 rfl) ?_
                refine lv_iconst (v := 1) hx hb dX5_spread_114 (by decide) ?_
                refine lv_iadd hx hb dX5_spread_115 ?_
                refine g_ViR (n := 1) hx hb hml hown hG hW hS [.int ((cAt 6000 A61k11 v5k11) + 1)] (kX2_at (ltN hN 62 rfl) gk62 (ltN hN 63 rfl) gk63 (sh62_0 hsh) (by decide) ((hoffa 63 rfl).trans h_A63) ((cAt 6000 A61k11 v5k11) + 1)) (ltN hN 62 rfl) gk62 (by decide) rfl rfl (gd_V gx850 gx564 gx565 gx47 gx566) rfl rfl (by decide) ⟨Nat.le_of_ble_eq_true rfl, Nat.le_of_ble_eq_true rfl⟩ rfl hl (Nat.le_of_ble_eq_true rfl) ⟨Nat.zero_le _, Nat.zero_le _⟩ dX5_spread_116 (fun H locs hW hS => ?_)
                refine lv_icmp_ge (tgt := 176) hx hb dX5_spread_119 (by decide) (fun c50 => ?_) (fun c50 => ?_)
                · rw [if_pos c50] at hs2
                  exact hE2_176 (v4k39, A59k39, A61k39) (hXl2 _ (Option.some.inj hs2).symm) a _ _ w_A59 w_A61 hoffa ls (lv_sub hl [0, 1, 2, 3] rfl) hW hS
                · rw [if_neg c50] at hs2
                  refine lv_aload_n hx hb dX5_spread_122 rfl (lv_at hl 0 rfl) ?_
                  refine gf5_4 hx hb hG hown hW (o := 55) (ltN hN 55 rfl) gk55 (v := .ref (q 64)) (sh55_4 hsh) gx143 dX5_spread_123 ?_
                  refine lv_iload hx hb dX5_spread_126 (lv_at hl 5 rfl) ?_
                  refine g_ViR (n := 1) hx hb hml hown hG hW hS [.int v7k39] (kX2_at (ltN hN 64 rfl) gk64 (ltN hN 65 rfl) gk65 (sh64_0 hsh) (by decide) ((hoffa 65 rfl).trans h_A65) v7k39) (ltN hN 64 rfl) gk64 (by decide) rfl rfl (gd_V gx850 gx564 gx565 gx47 gx566) rfl rfl (by decide) ⟨Nat.le_of_ble_eq_true rfl, Nat.le_of_ble_eq_true rfl⟩ rfl hl (Nat.le_of_ble_eq_true rfl) ⟨Nat.zero_le _, Nat.zero_le _⟩ dX5_spread_128 (fun H locs hW hS => ?_)
                  refine lv_istore (lv' := [(8, .int (cAt 60000 A65 v7k39)), (0, .ref (q 55)), (3, .ref (q 58)), (4, .int v4k39), (5, .int v5k11), (6, .int (cAt 6000 A61k11 v5k11)), (7, .int v7k39)]) hx hb dX5_spread_131 hl (by decide) rfl (fun ls hl => ?_)
                  refine lv_aload_n hx hb dX5_spread_133 rfl (lv_at hl 2 rfl) ?_
                  refine lv_iload hx hb dX5_spread_134 (lv_at hl 0 rfl) ?_
                  refine g_ViR (n := 1) hx hb hml hown hG hW hS [.int (cAt 60000 A65 v7k39)] (kX2_at (ltN hN 58 rfl) gk58 (ltN hN 59 rfl) gk59 (sh58_0 hsh) (by decide) w_A59 (cAt 60000 A65 v7k39)) (ltN hN 58 rfl) gk58 (by decide) rfl rfl (gd_V gx850 gx564 gx565 gx47 gx566) rfl rfl (by decide) ⟨Nat.le_of_ble_eq_true rfl, Nat.le_of_ble_eq_true rfl⟩ rfl hl (Nat.le_of_ble_eq_true rfl) ⟨Nat.zero_le _, Nat.zero_le _⟩ dX5_spread_136 (fun H locs hW hS => ?_)
                  refine lv_if_ne (tgt := 170) hx hb dX5_spread_139 (by decide) (fun c53 => ?_) (fun c53 => ?_)
                  · rw [if_neg c53] at hs2
                    exact hJ170_2 v4k39 v7k39 A59k39 A61k39 a _ _ w_A59 w_A61 hoffa ls (lv_sub hl [1, 2, 3, 4, 5, 6] rfl) hs2 hW hS
                  · rw [if_pos c53] at hs2
                    refine lv_aload_n hx hb dX5_spread_142 rfl (lv_at hl 2 rfl) ?_
                    refine lv_iload hx hb dX5_spread_143 (lv_at hl 0 rfl) ?_
                    refine lv_aload_n hx hb dX5_spread_145 rfl (lv_at hl 2 rfl) ?_
                    refine lv_iload hx hb dX5_spread_146 (lv_at hl 5 rfl) ?_
                    refine g_ViR (n := 1) hx hb hml hown hG hW hS [.int (cAt 6000 A61k11 v5k11)] (kX2_at (ltN hN 58 rfl) gk58 (ltN hN 59 rfl) gk59 (sh58_0 hsh) (by decide) w_A59 (cAt 6000 A61k11 v5k11)) (ltN hN 58 rfl) gk58 (by decide) rfl rfl (gd_V gx850 gx564 gx565 gx47 gx566) rfl rfl (by decide) ⟨Nat.le_of_ble_eq_true rfl, Nat.le_of_ble_eq_true rfl⟩ rfl hl (Nat.le_of_ble_eq_true rfl) ⟨Nat.zero_le _, Nat.zero_le _⟩ dX5_spread_148 (fun H locs hW hS => ?_)
                    refine lv_iconst (v := 1) hx hb dX5_spread_151 (by decide) ?_
                    refine lv_iadd hx hb dX5_spread_152 ?_
                    refine g_Vv (n := 2) hx hb hml hown hG hW hS [.int (cAt 60000 A65 v7k39), .int ((cAt 6000 A59k39 (cAt 6000 A61k11 v5k11)) + 1)] (kX2_put (ltN hN 58 rfl) gk58 (ltN hN 59 rfl) gk59 (sh58_0 hsh) (by decide) w_A59 (cAt 60000 A65 v7k39) ((cAt 6000 A59k39 (cAt 6000 A61k11 v5k11)) + 1)) (ltN hN 58 rfl) gk58 (by decide) rfl rfl (gd_V gx853 gx551 gx552 gx47 gx553) rfl rfl (by decide) ⟨Nat.le_of_ble_eq_true rfl, Nat.le_of_ble_eq_true rfl⟩ rfl hl (Nat.le_of_ble_eq_true rfl) ⟨Nat.zero_le _, Nat.zero_le _⟩ dX5_spread_153 (fun m56 a56 H locs hp56 hW hS => ?_)
                    obtain ⟨hm56, hp56_A59, hoa56⟩ := hp56
                    rw [hm56] at hW
                    have w_A59 : a56 59 = (6000, .inl (cPut 6000 A59k39 (cAt 60000 A65 v7k39) ((cAt 6000 A59k39 (cAt 6000 A61k11 v5k11)) + 1))) := hp56_A59
                    have w_A61 : a56 61 = (6000, .inl A61k39) := (hoa56 61 rfl).trans w_A61
                    have hoffa := offm hoffa hoa56 (by decide +kernel)
                    refine lv_aload_n hx hb dX5_spread_156 rfl (lv_at hl 1 rfl) ?_
                    refine gf5_2 hx hb hG hown hW (o := 55) (ltN hN 55 rfl) gk55 (v := .ref (q 60)) (sh55_2 hsh) gx140 dX5_spread_157 ?_
                    refine lv_iload hx hb dX5_spread_160 (lv_at hl 3 rfl) ?_
                    refine lv_iload hx hb dX5_spread_162 (lv_at hl 0 rfl) ?_
                    refine g_Vv (n := 2) hx hb hml hown hG hW hS [.int v4k39, .int (cAt 60000 A65 v7k39)] (kX2_put (ltN hN 60 rfl) gk60 (ltN hN 61 rfl) gk61 (sh60_0 hsh) (by decide) w_A61 v4k39 (cAt 60000 A65 v7k39)) (ltN hN 60 rfl) gk60 (by decide) rfl rfl (gd_V gx853 gx551 gx552 gx47 gx553) rfl rfl (by decide) ⟨Nat.le_of_ble_eq_true rfl, Nat.le_of_ble_eq_true rfl⟩ rfl hl (Nat.le_of_ble_eq_true rfl) ⟨Nat.zero_le _, Nat.zero_le _⟩ dX5_spread_164 (fun m57 a57 H locs hp57 hW hS => ?_)
                    obtain ⟨hm57, hp57_A61, hoa57⟩ := hp57
                    rw [hm57] at hW
                    have w_A59 : a57 59 = (6000, .inl (cPut 6000 A59k39 (cAt 60000 A65 v7k39) ((cAt 6000 A59k39 (cAt 6000 A61k11 v5k11)) + 1))) := (hoa57 59 rfl).trans w_A59
                    have w_A61 : a57 61 = (6000, .inl (cPut 6000 A61k39 v4k39 (cAt 60000 A65 v7k39))) := hp57_A61
                    have hoffa := offm hoffa hoa57 (by decide +kernel)
                    refine lv_iinc (v := v4k39 + 1) (lv' := [(4, .int (v4k39 + 1)), (8, .int (cAt 60000 A65 v7k39)), (0, .ref (q 55)), (3, .ref (q 58)), (5, .int v5k11), (6, .int (cAt 6000 A61k11 v5k11)), (7, .int v7k39)]) hx hb dX5_spread_167 hl (k := 3) rfl rfl (by decide) rfl (fun ls hl => ?_)
                    exact hJ170_2 (v4k39 + 1) v7k39 (cPut 6000 A59k39 (cAt 60000 A65 v7k39) ((cAt 6000 A59k39 (cAt 6000 A61k11 v5k11)) + 1)) (cPut 6000 A61k39 v4k39 (cAt 60000 A65 v7k39)) a57 _ _ w_A59 w_A61 hoffa ls (lv_sub hl [2, 3, 0, 4, 5, 6] rfl) hs2 hW hS
            exact hL2 F v4k11 (cAt 6001 A63 (cAt 6000 A61k11 v5k11)) A59k11 A61k11 a _ _ w_A59 w_A61 hoffa ls (lv_sub hl [2, 3, 4, 5, 1, 0] rfl) hg39 hW hS
    exact hL1 F t1_66.1 0 t1_66.2.1 t1_66.2.2 a _ _ w_A59 w_A61 hoffa ls (lv_sub hl [1, 2, 3, 0] rfl) hg11 hW hS
  have hL1 : ∀ (n : Nat) (v4k1 : Int32) (v5k1 : Int32) (A59k1 : Nat → Int32) (A61k1 : Nat → Int32) (a : Nat → vp_A) (H : Heap) (locs : List Loc) (w_A59 : a 59 = (6000, .inl A59k1)) (w_A61 : a 61 = (6000, .inl A61k1)) (hoffa : ∀ j, nel j [59, 61] = false → a j = a0 j) (ls : Array Slot) (hl : lv_has ls 9 [(0, .ref (q 55)), (1, .ref (q 28)), (2, .int p2), (3, .ref (q 58)), (4, .int v4k1), (5, .int v5k1)]) (hg1 : gloop (fun u1 : (Int32 × Int32 × (Nat → Int32) × (Nat → Int32)) => fX5_spread_S6 F x28_2 A30 A35 A63 A65 p2 u1.1 u1.2.1 u1.2.2.1 u1.2.2.2) n (v4k1, v5k1, A59k1, A61k1) = some r1) (hW : GW D cy (gA N q s.heap.size) N q m0 a s H) (hS : va_S (gA N q s.heap.size) s.heap H locs), W p l e ({ frames := 3, cells := 0, slots := 0, locals := 66 } : Room) s M args below meth c H locs 0 0 (MQ below (va_Qv (fun (u : (Nat → Value) × (Nat → vp_A)) => u.1 = m0 ∧ u.2 59 = (6000, .inl X0.1) ∧ u.2 61 = (6000, .inl X0.2) ∧ (∀ j, nel j [59, 61] = false → u.2 j = a0 j)) (gB D cy N q s.heap.size) (gA N q s.heap.size)) args s 0 0 (gA N q s.heap.size)) (F0 M 6 ls []) := by
    intro n
    induction n with
    | zero => intro v4k1 v5k1 A59k1 A61k1 a H locs w_A59 w_A61 hoffa ls hl hg1 hW hS; exact (gl_zero hg1).elim
    | succ n ih1 =>
      intro v4k1 v5k1 A59k1 A61k1 a H locs w_A59 w_A61 hoffa ls hl hg1 hW hS
      obtain ⟨X1, hs1, hXl1, hXr1⟩ := gl_succ hg1
      have hs1 : fX5_spread_S6 F x28_2 A30 A35 A63 A65 p2 v4k1 v5k1 A59k1 A61k1 = some X1 := hs1
      unfold fX5_spread_S6 at hs1
      have hJ60_1 : ∀ (v4j65 : Int32) (v5j65 : Int32) (A59j65 : Nat → Int32) (A61j65 : Nat → Int32) (a : Nat → vp_A) (H : Heap) (locs : List Loc) (w_A59 : a 59 = (6000, .inl A59j65)) (w_A61 : a 61 = (6000, .inl A61j65)) (hoffa : ∀ j, nel j [59, 61] = false → a j = a0 j) (ls : Array Slot) (hl : lv_has ls 9 [(0, .ref (q 55)), (1, .ref (q 28)), (2, .int p2), (3, .ref (q 58)), (4, .int v4j65), (5, .int v5j65)]) (hs1 : fX5_spread_J60 F x28_2 A30 A35 A63 A65 p2 v4j65 v5j65 A59j65 A61j65 = some X1) (hW : GW D cy (gA N q s.heap.size) N q m0 a s H) (hS : va_S (gA N q s.heap.size) s.heap H locs), W p l e ({ frames := 3, cells := 0, slots := 0, locals := 66 } : Room) s M args below meth c H locs 0 0 (MQ below (va_Qv (fun (u : (Nat → Value) × (Nat → vp_A)) => u.1 = m0 ∧ u.2 59 = (6000, .inl X0.1) ∧ u.2 61 = (6000, .inl X0.2) ∧ (∀ j, nel j [59, 61] = false → u.2 j = a0 j)) (gB D cy N q s.heap.size) (gA N q s.heap.size)) args s 0 0 (gA N q s.heap.size)) (F0 M 60 ls []) := by
        intro v4j65 v5j65 A59j65 A61j65 a H locs w_A59 w_A61 hoffa ls hl hs1 hW hS
        unfold fX5_spread_J60 at hs1
        refine lv_iinc (v := v5j65 + 1) (lv' := [(5, .int (v5j65 + 1)), (0, .ref (q 55)), (1, .ref (q 28)), (2, .int p2), (3, .ref (q 58)), (4, .int v4j65)]) hx hb dX5_spread_60 hl (k := 5) rfl rfl (by decide) rfl (fun ls hl => ?_)
        refine lv_goto (tgt := 6) hx hb dX5_spread_63 (by decide) ?_
        exact ih1 v4j65 (v5j65 + 1) A59j65 A61j65 a _ _ w_A59 w_A61 hoffa ls (lv_sub hl [1, 2, 3, 4, 5, 0] rfl) (hXr1 _ (Option.some.inj hs1).symm) hW hS
      have hJ33_1 : ∀ (v4j61 : Int32) (v5j61 : Int32) (s0j61 : Int32) (s1j61 : Int32) (A59j61 : Nat → Int32) (A61j61 : Nat → Int32) (a : Nat → vp_A) (H : Heap) (locs : List Loc) (w_A59 : a 59 = (6000, .inl A59j61)) (w_A61 : a 61 = (6000, .inl A61j61)) (hoffa : ∀ j, nel j [59, 61] = false → a j = a0 j) (ls : Array Slot) (hl : lv_has ls 9 [(0, .ref (q 55)), (1, .ref (q 28)), (2, .int p2), (3, .ref (q 58)), (4, .int v4j61), (5, .int v5j61)]) (hs1 : fX5_spread_J33 F x28_2 A30 A35 A63 A65 p2 v4j61 v5j61 s0j61 s1j61 A59j61 A61j61 = some X1) (hW : GW D cy (gA N q s.heap.size) N q m0 a s H) (hS : va_S (gA N q s.heap.size) s.heap H locs), W p l e ({ frames := 3, cells := 0, slots := 0, locals := 66 } : Room) s M args below meth c H locs 0 0 (MQ below (va_Qv (fun (u : (Nat → Value) × (Nat → vp_A)) => u.1 = m0 ∧ u.2 59 = (6000, .inl X0.1) ∧ u.2 61 = (6000, .inl X0.2) ∧ (∀ j, nel j [59, 61] = false → u.2 j = a0 j)) (gB D cy N q s.heap.size) (gA N q s.heap.size)) args s 0 0 (gA N q s.heap.size)) (F0 M 33 ls [.int s0j61, .int s1j61, .ref (q 58)]) := by
        intro v4j61 v5j61 s0j61 s1j61 A59j61 A61j61 a H locs w_A59 w_A61 hoffa ls hl hs1 hW hS
        unfold fX5_spread_J33 at hs1
        refine g_Vv (n := 2) hx hb hml hown hG hW hS [.int s1j61, .int s0j61] (kX2_put (ltN hN 58 rfl) gk58 (ltN hN 59 rfl) gk59 (sh58_0 hsh) (by decide) w_A59 s1j61 s0j61) (ltN hN 58 rfl) gk58 (by decide) rfl rfl (gd_V gx853 gx551 gx552 gx47 gx553) rfl rfl (by decide) ⟨Nat.le_of_ble_eq_true rfl, Nat.le_of_ble_eq_true rfl⟩ rfl hl (Nat.le_of_ble_eq_true rfl) ⟨Nat.zero_le _, Nat.zero_le _⟩ dX5_spread_33 (fun m62 a62 H locs hp62 hW hS => ?_)
        obtain ⟨hm62, hp62_A59, hoa62⟩ := hp62
        rw [hm62] at hW
        have w_A59 : a62 59 = (6000, .inl (cPut 6000 A59j61 s1j61 s0j61)) := hp62_A59
        have w_A61 : a62 61 = (6000, .inl A61j61) := (hoa62 61 rfl).trans w_A61
        have hoffa := offm hoffa hoa62 (by decide +kernel)
        refine lv_aload_n hx hb dX5_spread_36 rfl (lv_at hl 3 rfl) ?_
        refine lv_iload hx hb dX5_spread_37 (lv_at hl 5 rfl) ?_
        refine g_ViR (n := 1) hx hb hml hown hG hW hS [.int v5j61] (kX2_at (ltN hN 58 rfl) gk58 (ltN hN 59 rfl) gk59 (sh58_0 hsh) (by decide) w_A59 v5j61) (ltN hN 58 rfl) gk58 (by decide) rfl rfl (gd_V gx850 gx564 gx565 gx47 gx566) rfl rfl (by decide) ⟨Nat.le_of_ble_eq_true rfl, Nat.le_of_ble_eq_true rfl⟩ rfl hl (Nat.le_of_ble_eq_true rfl) ⟨Nat.zero_le _, Nat.zero_le _⟩ dX5_spread_39 (fun H locs hW hS => ?_)
        refine lv_iconst (v := 1) hx hb dX5_spread_42 (by decide) ?_
        refine lv_icmp_ne (tgt := 60) hx hb dX5_spread_43 (by decide) (fun c64 => ?_) (fun c64 => ?_)
        · rw [if_neg c64] at hs1
          exact hJ60_1 v4j61 v5j61 (cPut 6000 A59j61 s1j61 s0j61) A61j61 a62 _ _ w_A59 w_A61 hoffa ls (lv_sub hl [0, 1, 2, 3, 4, 5] rfl) hs1 hW hS
        · rw [if_pos c64] at hs1
          refine lv_aload_n hx hb dX5_spread_46 rfl (lv_at hl 0 rfl) ?_
          refine gf5_2 hx hb hG hown hW (o := 55) (ltN hN 55 rfl) gk55 (v := .ref (q 60)) (sh55_2 hsh) gx140 dX5_spread_47 ?_
          refine lv_iload hx hb dX5_spread_50 (lv_at hl 4 rfl) ?_
          refine lv_iload hx hb dX5_spread_52 (lv_at hl 5 rfl) ?_
          refine g_Vv (n := 2) hx hb hml hown hG hW hS [.int v4j61, .int v5j61] (kX2_put (ltN hN 60 rfl) gk60 (ltN hN 61 rfl) gk61 (sh60_0 hsh) (by decide) w_A61 v4j61 v5j61) (ltN hN 60 rfl) gk60 (by decide) rfl rfl (gd_V gx853 gx551 gx552 gx47 gx553) rfl rfl (by decide) ⟨Nat.le_of_ble_eq_true rfl, Nat.le_of_ble_eq_true rfl⟩ rfl hl (Nat.le_of_ble_eq_true rfl) ⟨Nat.zero_le _, Nat.zero_le _⟩ dX5_spread_54 (fun m66 a66 H locs hp66 hW hS => ?_)
          obtain ⟨hm66, hp66_A61, hoa66⟩ := hp66
          rw [hm66] at hW
          have w_A59 : a66 59 = (6000, .inl (cPut 6000 A59j61 s1j61 s0j61)) := (hoa66 59 rfl).trans w_A59
          have w_A61 : a66 61 = (6000, .inl (cPut 6000 A61j61 v4j61 v5j61)) := hp66_A61
          have hoffa := offm hoffa hoa66 (by decide +kernel)
          refine lv_iinc (v := v4j61 + 1) (lv' := [(4, .int (v4j61 + 1)), (0, .ref (q 55)), (1, .ref (q 28)), (2, .int p2), (3, .ref (q 58)), (5, .int v5j61)]) hx hb dX5_spread_57 hl (k := 4) rfl rfl (by decide) rfl (fun ls hl => ?_)
          exact hJ60_1 (v4j61 + 1) v5j61 (cPut 6000 A59j61 s1j61 s0j61) (cPut 6000 A61j61 v4j61 v5j61) a66 _ _ w_A59 w_A61 hoffa ls (lv_sub hl [1, 2, 3, 4, 0, 5] rfl) hs1 hW hS
      refine lv_iload hx hb dX5_spread_6 (lv_at hl 5 rfl) ?_
      refine lv_aload_n hx hb dX5_spread_8 rfl (lv_at hl 1 rfl) ?_
      refine gf1_2 hx hb hG hown hW (o := 28) (ltN hN 28 rfl) gk28 (v := .int x28_2) h_x28_2 gx849 dX5_spread_9 ?_
      refine lv_icmp_ge (tgt := 66) hx hb dX5_spread_12 (by decide) (fun c58 => ?_) (fun c58 => ?_)
      · rw [if_pos c58] at hs1
        exact hE1_66 (v4k1, A59k1, A61k1) (hXl1 _ (Option.some.inj hs1).symm) a _ _ w_A59 w_A61 hoffa ls (lv_sub hl [0, 3, 4] rfl) hW hS
      · rw [if_neg c58] at hs1
        refine lv_aload_n hx hb dX5_spread_15 rfl (lv_at hl 3 rfl) ?_
        refine lv_iload hx hb dX5_spread_16 (lv_at hl 5 rfl) ?_
        refine lv_aload_n hx hb dX5_spread_18 rfl (lv_at hl 1 rfl) ?_
        refine lv_iload hx hb dX5_spread_19 (lv_at hl 5 rfl) ?_
        refine lv_iload_n hx hb dX5_spread_21 rfl (lv_at hl 2 rfl) ?_
        obtain ⟨r59, hf59, hs1⟩ := obind hs1
        refine g_SiR (n := 3) hx hb hml hown hG hW hS [.ref (q 28), .int v5k1, .int p2] (kX5_canDo hN hsh ((hoffa 30 rfl).trans h_A30) ((hoffa 35 rfl).trans h_A35) F v5k1 p2 hf59) rfl (gd_S gx858 gx859 gx98 gx860) rfl rfl (by decide) ⟨Nat.le_of_ble_eq_true rfl, Nat.le_of_ble_eq_true rfl⟩ rfl hl (Nat.le_of_ble_eq_true rfl) ⟨Nat.zero_le _, Nat.zero_le _⟩ dX5_spread_22 (fun H locs hW hS => ?_)
        refine lv_if_eq (tgt := 32) hx hb dX5_spread_25 (by decide) (fun c60 => ?_) (fun c60 => ?_)
        · rw [if_pos c60] at hs1
          refine lv_iconst (v := 0) hx hb dX5_spread_32 (by decide) ?_
          exact hJ33_1 v4k1 v5k1 0 v5k1 A59k1 A61k1 a _ _ w_A59 w_A61 hoffa ls (lv_sub hl [0, 1, 2, 3, 4, 5] rfl) hs1 hW hS
        · rw [if_neg c60] at hs1
          refine lv_iconst (v := 1) hx hb dX5_spread_28 (by decide) ?_
          refine lv_goto (tgt := 33) hx hb dX5_spread_29 (by decide) ?_
          exact hJ33_1 v4k1 v5k1 1 v5k1 A59k1 A61k1 a _ _ w_A59 w_A61 hoffa ls (lv_sub hl [0, 1, 2, 3, 4, 5] rfl) hs1 hW hS
  exact hL1 F 0 0 A59 A61 a0 _ _ h_A59 h_A61 hoffa ls (lv_sub hl [2, 3, 4, 5, 1, 0] rfl) hg1 hW hS
-- HealLink$Ranges.turnRound (LHealLink$Atlas;)V
def fX5_turnRound_S22 (F : Nat) (x28_2 : Int32) (A30 : Nat → Int32) (A35 : Nat → Int32) (v2 : Int32) (A65 : Nat → Int32) (v3 : Int32) (A63 : Nat → Int32) : Option (((Nat → Int32)) ⊕ (Int32 × (Nat → Int32))) := (if v2 ≤ v3 then some (Sum.inl A63) else some (Sum.inr (v3 + 1, (cPut 6001 A63 (fX1_targetOf A35 v3) ((cAt 6001 A63 (fX1_targetOf A35 v3)) + 1)))))
def fX5_turnRound_S62 (F : Nat) (x28_2 : Int32) (A30 : Nat → Int32) (A35 : Nat → Int32) (A65 : Nat → Int32) (v3 : Int32) (A63 : Nat → Int32) : Option (((Nat → Int32)) ⊕ (Int32 × (Nat → Int32))) := (if x28_2 < v3 then some (Sum.inl A63) else some (Sum.inr (v3 + 1, (cPut 6001 A63 v3 ((cAt 6001 A63 v3) + (cAt 6001 A63 (v3 - 1)))))))
def fX5_turnRound_S123 (F : Nat) (x28_2 : Int32) (A30 : Nat → Int32) (A35 : Nat → Int32) (v3 : Int32) (v4 : Int32) (A63 : Nat → Int32) (A65 : Nat → Int32) : Option (((Nat → Int32) × (Nat → Int32)) ⊕ (Int32 × (Nat → Int32) × (Nat → Int32))) := (if (cAt 6001 A30 (v3 + 1)) ≤ v4 then some (Sum.inl (A63, A65)) else some (Sum.inr (v4 + 1, (cPut 6001 A63 (fX1_targetOf A35 v4) ((cAt 6001 A63 (fX1_targetOf A35 v4)) - 1)), (cPut 60000 A65 ((cAt 6001 A63 (fX1_targetOf A35 v4)) - 1) v3))))
def fX5_turnRound_S105 (F : Nat) (x28_2 : Int32) (A30 : Nat → Int32) (A35 : Nat → Int32) (v3 : Int32) (A63 : Nat → Int32) (A65 : Nat → Int32) : Option (((Nat → Int32) × (Nat → Int32)) ⊕ (Int32 × (Nat → Int32) × (Nat → Int32))) := (if x28_2 ≤ v3 then some (Sum.inl (A63, A65)) else (gloop (fun u16 : (Int32 × (Nat → Int32) × (Nat → Int32)) => fX5_turnRound_S123 F x28_2 A30 A35 v3 u16.1 u16.2.1 u16.2.2) F ((cAt 6001 A30 v3), A63, A65)).bind (fun t16_186 => some (Sum.inr (v3 + 1, t16_186.1, t16_186.2))))
def fX5_turnRound (F : Nat) (x28_2 : Int32) (A30 : Nat → Int32) (A35 : Nat → Int32) (A63 : Nat → Int32) (A65 : Nat → Int32) : Option ((Nat → Int32) × (Nat → Int32)) := (gloop (fun u3 : (Int32 × (Nat → Int32)) => fX5_turnRound_S22 F x28_2 A30 A35 (cAt 6001 A30 x28_2) A65 u3.1 u3.2) F (0, (cFill 6001 A63 0))).bind (fun t3_60 => (gloop (fun u8 : (Int32 × (Nat → Int32)) => fX5_turnRound_S62 F x28_2 A30 A35 A65 u8.1 u8.2) F (1, t3_60)).bind (fun t8_103 => (gloop (fun u13 : (Int32 × (Nat → Int32) × (Nat → Int32)) => fX5_turnRound_S105 F x28_2 A30 A35 u13.1 u13.2.1 u13.2.2) F (0, t8_103, A65)).bind (fun t13_192 => some (t13_192.1, t13_192.2))))
theorem dX5_turnRound_0 : decode cX5_turnRound 0 = .ok (.aload_n 1, 1) := by decide +kernel
theorem dX5_turnRound_1 : decode cX5_turnRound 1 = .ok (.getfield 43, 3) := by decide +kernel
theorem dX5_turnRound_4 : decode cX5_turnRound 4 = .ok (.aload_n 1, 1) := by decide +kernel
theorem dX5_turnRound_5 : decode cX5_turnRound 5 = .ok (.getfield 46, 3) := by decide +kernel
theorem dX5_turnRound_8 : decode cX5_turnRound 8 = .ok (.invokevirtual 50, 3) := by decide +kernel
theorem dX5_turnRound_11 : decode cX5_turnRound 11 = .ok (.istore_n 2, 1) := by decide +kernel
theorem dX5_turnRound_12 : decode cX5_turnRound 12 = .ok (.aload_n 0, 1) := by decide +kernel
theorem dX5_turnRound_13 : decode cX5_turnRound 13 = .ok (.getfield 26, 3) := by decide +kernel
theorem dX5_turnRound_16 : decode cX5_turnRound 16 = .ok (.iconst 0, 1) := by decide +kernel
theorem dX5_turnRound_17 : decode cX5_turnRound 17 = .ok (.invokevirtual 54, 3) := by decide +kernel
theorem dX5_turnRound_20 : decode cX5_turnRound 20 = .ok (.iconst 0, 1) := by decide +kernel
theorem dX5_turnRound_21 : decode cX5_turnRound 21 = .ok (.istore_n 3, 1) := by decide +kernel
theorem dX5_turnRound_22 : decode cX5_turnRound 22 = .ok (.iload_n 3, 1) := by decide +kernel
theorem dX5_turnRound_23 : decode cX5_turnRound 23 = .ok (.iload_n 2, 1) := by decide +kernel
theorem dX5_turnRound_24 : decode cX5_turnRound 24 = .ok (.if_icmp .ge 36, 3) := by decide +kernel
theorem dX5_turnRound_27 : decode cX5_turnRound 27 = .ok (.aload_n 1, 1) := by decide +kernel
theorem dX5_turnRound_28 : decode cX5_turnRound 28 = .ok (.iload_n 3, 1) := by decide +kernel
theorem dX5_turnRound_29 : decode cX5_turnRound 29 = .ok (.invokevirtual 57, 3) := by decide +kernel
theorem dX5_turnRound_32 : decode cX5_turnRound 32 = .ok (.istore 4, 2) := by decide +kernel
theorem dX5_turnRound_34 : decode cX5_turnRound 34 = .ok (.aload_n 0, 1) := by decide +kernel
theorem dX5_turnRound_35 : decode cX5_turnRound 35 = .ok (.getfield 26, 3) := by decide +kernel
theorem dX5_turnRound_38 : decode cX5_turnRound 38 = .ok (.iload 4, 2) := by decide +kernel
theorem dX5_turnRound_40 : decode cX5_turnRound 40 = .ok (.aload_n 0, 1) := by decide +kernel
theorem dX5_turnRound_41 : decode cX5_turnRound 41 = .ok (.getfield 26, 3) := by decide +kernel
theorem dX5_turnRound_44 : decode cX5_turnRound 44 = .ok (.iload 4, 2) := by decide +kernel
theorem dX5_turnRound_46 : decode cX5_turnRound 46 = .ok (.invokevirtual 50, 3) := by decide +kernel
theorem dX5_turnRound_49 : decode cX5_turnRound 49 = .ok (.iconst 1, 1) := by decide +kernel
theorem dX5_turnRound_50 : decode cX5_turnRound 50 = .ok (.iadd, 1) := by decide +kernel
theorem dX5_turnRound_51 : decode cX5_turnRound 51 = .ok (.invokevirtual 60, 3) := by decide +kernel
theorem dX5_turnRound_54 : decode cX5_turnRound 54 = .ok (.iinc 3 1, 3) := by decide +kernel
theorem dX5_turnRound_57 : decode cX5_turnRound 57 = .ok (.goto (-35), 3) := by decide +kernel
theorem dX5_turnRound_60 : decode cX5_turnRound 60 = .ok (.iconst 1, 1) := by decide +kernel
theorem dX5_turnRound_61 : decode cX5_turnRound 61 = .ok (.istore_n 3, 1) := by decide +kernel
theorem dX5_turnRound_62 : decode cX5_turnRound 62 = .ok (.iload_n 3, 1) := by decide +kernel
theorem dX5_turnRound_63 : decode cX5_turnRound 63 = .ok (.aload_n 1, 1) := by decide +kernel
theorem dX5_turnRound_64 : decode cX5_turnRound 64 = .ok (.getfield 46, 3) := by decide +kernel
theorem dX5_turnRound_67 : decode cX5_turnRound 67 = .ok (.if_icmp .gt 36, 3) := by decide +kernel
theorem dX5_turnRound_70 : decode cX5_turnRound 70 = .ok (.aload_n 0, 1) := by decide +kernel
theorem dX5_turnRound_71 : decode cX5_turnRound 71 = .ok (.getfield 26, 3) := by decide +kernel
theorem dX5_turnRound_74 : decode cX5_turnRound 74 = .ok (.iload_n 3, 1) := by decide +kernel
theorem dX5_turnRound_75 : decode cX5_turnRound 75 = .ok (.aload_n 0, 1) := by decide +kernel
theorem dX5_turnRound_76 : decode cX5_turnRound 76 = .ok (.getfield 26, 3) := by decide +kernel
theorem dX5_turnRound_79 : decode cX5_turnRound 79 = .ok (.iload_n 3, 1) := by decide +kernel
theorem dX5_turnRound_80 : decode cX5_turnRound 80 = .ok (.invokevirtual 50, 3) := by decide +kernel
theorem dX5_turnRound_83 : decode cX5_turnRound 83 = .ok (.aload_n 0, 1) := by decide +kernel
theorem dX5_turnRound_84 : decode cX5_turnRound 84 = .ok (.getfield 26, 3) := by decide +kernel
theorem dX5_turnRound_87 : decode cX5_turnRound 87 = .ok (.iload_n 3, 1) := by decide +kernel
theorem dX5_turnRound_88 : decode cX5_turnRound 88 = .ok (.iconst 1, 1) := by decide +kernel
theorem dX5_turnRound_89 : decode cX5_turnRound 89 = .ok (.isub, 1) := by decide +kernel
theorem dX5_turnRound_90 : decode cX5_turnRound 90 = .ok (.invokevirtual 50, 3) := by decide +kernel
theorem dX5_turnRound_93 : decode cX5_turnRound 93 = .ok (.iadd, 1) := by decide +kernel
theorem dX5_turnRound_94 : decode cX5_turnRound 94 = .ok (.invokevirtual 60, 3) := by decide +kernel
theorem dX5_turnRound_97 : decode cX5_turnRound 97 = .ok (.iinc 3 1, 3) := by decide +kernel
theorem dX5_turnRound_100 : decode cX5_turnRound 100 = .ok (.goto (-38), 3) := by decide +kernel
theorem dX5_turnRound_103 : decode cX5_turnRound 103 = .ok (.iconst 0, 1) := by decide +kernel
theorem dX5_turnRound_104 : decode cX5_turnRound 104 = .ok (.istore_n 3, 1) := by decide +kernel
theorem dX5_turnRound_105 : decode cX5_turnRound 105 = .ok (.iload_n 3, 1) := by decide +kernel
theorem dX5_turnRound_106 : decode cX5_turnRound 106 = .ok (.aload_n 1, 1) := by decide +kernel
theorem dX5_turnRound_107 : decode cX5_turnRound 107 = .ok (.getfield 46, 3) := by decide +kernel
theorem dX5_turnRound_110 : decode cX5_turnRound 110 = .ok (.if_icmp .ge 82, 3) := by decide +kernel
theorem dX5_turnRound_113 : decode cX5_turnRound 113 = .ok (.aload_n 1, 1) := by decide +kernel
theorem dX5_turnRound_114 : decode cX5_turnRound 114 = .ok (.getfield 43, 3) := by decide +kernel
theorem dX5_turnRound_117 : decode cX5_turnRound 117 = .ok (.iload_n 3, 1) := by decide +kernel
theorem dX5_turnRound_118 : decode cX5_turnRound 118 = .ok (.invokevirtual 50, 3) := by decide +kernel
theorem dX5_turnRound_121 : decode cX5_turnRound 121 = .ok (.istore 4, 2) := by decide +kernel
theorem dX5_turnRound_123 : decode cX5_turnRound 123 = .ok (.iload 4, 2) := by decide +kernel
theorem dX5_turnRound_125 : decode cX5_turnRound 125 = .ok (.aload_n 1, 1) := by decide +kernel
theorem dX5_turnRound_126 : decode cX5_turnRound 126 = .ok (.getfield 43, 3) := by decide +kernel
theorem dX5_turnRound_129 : decode cX5_turnRound 129 = .ok (.iload_n 3, 1) := by decide +kernel
theorem dX5_turnRound_130 : decode cX5_turnRound 130 = .ok (.iconst 1, 1) := by decide +kernel
theorem dX5_turnRound_131 : decode cX5_turnRound 131 = .ok (.iadd, 1) := by decide +kernel
theorem dX5_turnRound_132 : decode cX5_turnRound 132 = .ok (.invokevirtual 50, 3) := by decide +kernel
theorem dX5_turnRound_135 : decode cX5_turnRound 135 = .ok (.if_icmp .ge 51, 3) := by decide +kernel
theorem dX5_turnRound_138 : decode cX5_turnRound 138 = .ok (.aload_n 1, 1) := by decide +kernel
theorem dX5_turnRound_139 : decode cX5_turnRound 139 = .ok (.iload 4, 2) := by decide +kernel
theorem dX5_turnRound_141 : decode cX5_turnRound 141 = .ok (.invokevirtual 57, 3) := by decide +kernel
theorem dX5_turnRound_144 : decode cX5_turnRound 144 = .ok (.istore 5, 2) := by decide +kernel
theorem dX5_turnRound_146 : decode cX5_turnRound 146 = .ok (.aload_n 0, 1) := by decide +kernel
theorem dX5_turnRound_147 : decode cX5_turnRound 147 = .ok (.getfield 26, 3) := by decide +kernel
theorem dX5_turnRound_150 : decode cX5_turnRound 150 = .ok (.iload 5, 2) := by decide +kernel
theorem dX5_turnRound_152 : decode cX5_turnRound 152 = .ok (.invokevirtual 50, 3) := by decide +kernel
theorem dX5_turnRound_155 : decode cX5_turnRound 155 = .ok (.iconst 1, 1) := by decide +kernel
theorem dX5_turnRound_156 : decode cX5_turnRound 156 = .ok (.isub, 1) := by decide +kernel
theorem dX5_turnRound_157 : decode cX5_turnRound 157 = .ok (.istore 6, 2) := by decide +kernel
theorem dX5_turnRound_159 : decode cX5_turnRound 159 = .ok (.aload_n 0, 1) := by decide +kernel
theorem dX5_turnRound_160 : decode cX5_turnRound 160 = .ok (.getfield 26, 3) := by decide +kernel
theorem dX5_turnRound_163 : decode cX5_turnRound 163 = .ok (.iload 5, 2) := by decide +kernel
theorem dX5_turnRound_165 : decode cX5_turnRound 165 = .ok (.iload 6, 2) := by decide +kernel
theorem dX5_turnRound_167 : decode cX5_turnRound 167 = .ok (.invokevirtual 60, 3) := by decide +kernel
theorem dX5_turnRound_170 : decode cX5_turnRound 170 = .ok (.aload_n 0, 1) := by decide +kernel
theorem dX5_turnRound_171 : decode cX5_turnRound 171 = .ok (.getfield 30, 3) := by decide +kernel
theorem dX5_turnRound_174 : decode cX5_turnRound 174 = .ok (.iload 6, 2) := by decide +kernel
theorem dX5_turnRound_176 : decode cX5_turnRound 176 = .ok (.iload_n 3, 1) := by decide +kernel
theorem dX5_turnRound_177 : decode cX5_turnRound 177 = .ok (.invokevirtual 60, 3) := by decide +kernel
theorem dX5_turnRound_180 : decode cX5_turnRound 180 = .ok (.iinc 4 1, 3) := by decide +kernel
theorem dX5_turnRound_183 : decode cX5_turnRound 183 = .ok (.goto (-60), 3) := by decide +kernel
theorem dX5_turnRound_186 : decode cX5_turnRound 186 = .ok (.iinc 3 1, 3) := by decide +kernel
theorem dX5_turnRound_189 : decode cX5_turnRound 189 = .ok (.goto (-84), 3) := by decide +kernel
theorem dX5_turnRound_192 : decode cX5_turnRound 192 = .ok (.return_, 1) := by decide +kernel
set_option maxHeartbeats 4000000 in
set_option maxRecDepth 100000 in
theorem kX5_turnRound {l : Launch} {D : va_G} {cy : Nat → ClassId} {N : Nat} {q : Nat → Nat} {m0 : Nat → Value} {a0 : Nat → vp_A} {sz : Nat} (hN : 105 ≤ N) (hsh : SH q m0) {x28_2 : Int32} (h_x28_2 : m0 2802 = .int x28_2) {A30 : Nat → Int32} (h_A30 : a0 30 = (6001, .inl A30)) {A35 : Nat → Int32} (h_A35 : a0 35 = (60000, .inl A35)) {A63 : Nat → Int32} (h_A63 : a0 63 = (6001, .inl A63)) {A65 : Nat → Int32} (h_A65 : a0 65 = (60000, .inl A65)) (F : Nat) {X0 : (Nat → Int32) × (Nat → Int32)} (hs0 : fX5_turnRound F x28_2 A30 A35 A63 A65 = some X0) : gMv l yX5_turnRound cX5_turnRound 7 none ({ frames := 2, cells := 0, slots := 0, locals := 44 } : Room) D cy N q m0 a0 sz [.ref (q 55), .ref (q 28)] (fun m' a' => m' = m0 ∧ a' 63 = (6001, .inl X0.1) ∧ a' 65 = (60000, .inl X0.2) ∧ (∀ j, nel j [63, 65] = false → a' j = a0 j)) := by
  refine g_ofv (by decide) (Nat.le_of_ble_eq_true rfl) ?_
  intro p e s M args below meth c hx hb hr hG hown hin hlocks hml hW hS ls hl
  unfold fX5_turnRound at hs0
  have hoffa : ∀ j, nel j [63, 65] = false → a0 j = a0 j := off0
  refine lv_aload_n hx hb dX5_turnRound_0 rfl (lv_at hl 1 rfl) ?_
  refine gf1_0 hx hb hG hown hW (o := 28) (ltN hN 28 rfl) gk28 (v := .ref (q 29)) (sh28_0 hsh) gx848 dX5_turnRound_1 ?_
  refine lv_aload_n hx hb dX5_turnRound_4 rfl (lv_at hl 1 rfl) ?_
  refine gf1_2 hx hb hG hown hW (o := 28) (ltN hN 28 rfl) gk28 (v := .int x28_2) h_x28_2 gx849 dX5_turnRound_5 ?_
  refine g_ViR (n := 1) hx hb hml hown hG hW hS [.int x28_2] (kX2_at (ltN hN 29 rfl) gk29 (ltN hN 30 rfl) gk30 (sh29_0 hsh) (by decide) ((hoffa 30 rfl).trans h_A30) x28_2) (ltN hN 29 rfl) gk29 (by decide) rfl rfl (gd_V gx850 gx564 gx565 gx47 gx566) rfl rfl (by decide) ⟨Nat.le_of_ble_eq_true rfl, Nat.le_of_ble_eq_true rfl⟩ rfl hl (Nat.le_of_ble_eq_true rfl) ⟨Nat.zero_le _, Nat.zero_le _⟩ dX5_turnRound_8 (fun H locs hW hS => ?_)
  refine lv_istore_n (lv' := [(2, .int (cAt 6001 A30 x28_2)), (0, .ref (q 55)), (1, .ref (q 28))]) hx hb dX5_turnRound_11 rfl hl (by decide) rfl (fun ls hl => ?_)
  refine lv_aload_n hx hb dX5_turnRound_12 rfl (lv_at hl 1 rfl) ?_
  refine gf5_3 hx hb hG hown hW (o := 55) (ltN hN 55 rfl) gk55 (v := .ref (q 62)) (sh55_3 hsh) gx141 dX5_turnRound_13 ?_
  refine lv_iconst (v := 0) hx hb dX5_turnRound_16 (by decide) ?_
  refine g_Vv (n := 1) hx hb hml hown hG hW hS [.int 0] (kX2_fill (ltN hN 62 rfl) gk62 (ltN hN 63 rfl) gk63 (sh62_0 hsh) (by decide) h_A63 0) (ltN hN 62 rfl) gk62 (by decide) rfl rfl (gd_V gx851 gx678 gx679 gx47 gx680) rfl rfl (by decide) ⟨Nat.le_of_ble_eq_true rfl, Nat.le_of_ble_eq_true rfl⟩ rfl hl (Nat.le_of_ble_eq_true rfl) ⟨Nat.zero_le _, Nat.zero_le _⟩ dX5_turnRound_17 (fun m2 a2 H locs hp2 hW hS => ?_)
  obtain ⟨hm2, hp2_A63, hoa2⟩ := hp2
  rw [hm2] at hW
  have w_A63 : a2 63 = (6001, .inl (cFill 6001 A63 0)) := hp2_A63
  have w_A65 : a2 65 = (60000, .inl A65) := (hoa2 65 rfl).trans h_A65
  have hoffa := offm hoffa hoa2 (by decide +kernel)
  refine lv_iconst (v := 0) hx hb dX5_turnRound_20 (by decide) ?_
  refine lv_istore_n (lv' := [(3, .int 0), (2, .int (cAt 6001 A30 x28_2)), (0, .ref (q 55)), (1, .ref (q 28))]) hx hb dX5_turnRound_21 rfl hl (by decide) rfl (fun ls hl => ?_)
  obtain ⟨r3, hg3, hs0⟩ := obind hs0
  have hE1_60 : ∀ (t3_60 : (Nat → Int32)) (hr3 : t3_60 = r3) (a : Nat → vp_A) (H : Heap) (locs : List Loc) (w_A63 : a 63 = (6001, .inl t3_60)) (w_A65 : a 65 = (60000, .inl A65)) (hoffa : ∀ j, nel j [63, 65] = false → a j = a0 j) (ls : Array Slot) (hl : lv_has ls 7 [(0, .ref (q 55)), (1, .ref (q 28))]) (hW : GW D cy (gA N q s.heap.size) N q m0 a s H) (hS : va_S (gA N q s.heap.size) s.heap H locs), W p l e ({ frames := 2, cells := 0, slots := 0, locals := 44 } : Room) s M args below meth c H locs 0 0 (MQ below (va_Qv (fun (u : (Nat → Value) × (Nat → vp_A)) => u.1 = m0 ∧ u.2 63 = (6001, .inl X0.1) ∧ u.2 65 = (60000, .inl X0.2) ∧ (∀ j, nel j [63, 65] = false → u.2 j = a0 j)) (gB D cy N q s.heap.size) (gA N q s.heap.size)) args s 0 0 (gA N q s.heap.size)) (F0 M 60 ls []) := by
    intro t3_60 hr3 a H locs w_A63 w_A65 hoffa ls hl hW hS
    subst hr3
    refine lv_iconst (v := 1) hx hb dX5_turnRound_60 (by decide) ?_
    refine lv_istore_n (lv' := [(3, .int 1), (0, .ref (q 55)), (1, .ref (q 28))]) hx hb dX5_turnRound_61 rfl hl (by decide) rfl (fun ls hl => ?_)
    obtain ⟨r8, hg8, hs0⟩ := obind hs0
    have hE1_103 : ∀ (t8_103 : (Nat → Int32)) (hr8 : t8_103 = r8) (a : Nat → vp_A) (H : Heap) (locs : List Loc) (w_A63 : a 63 = (6001, .inl t8_103)) (w_A65 : a 65 = (60000, .inl A65)) (hoffa : ∀ j, nel j [63, 65] = false → a j = a0 j) (ls : Array Slot) (hl : lv_has ls 7 [(0, .ref (q 55)), (1, .ref (q 28))]) (hW : GW D cy (gA N q s.heap.size) N q m0 a s H) (hS : va_S (gA N q s.heap.size) s.heap H locs), W p l e ({ frames := 2, cells := 0, slots := 0, locals := 44 } : Room) s M args below meth c H locs 0 0 (MQ below (va_Qv (fun (u : (Nat → Value) × (Nat → vp_A)) => u.1 = m0 ∧ u.2 63 = (6001, .inl X0.1) ∧ u.2 65 = (60000, .inl X0.2) ∧ (∀ j, nel j [63, 65] = false → u.2 j = a0 j)) (gB D cy N q s.heap.size) (gA N q s.heap.size)) args s 0 0 (gA N q s.heap.size)) (F0 M 103 ls []) := by
      intro t8_103 hr8 a H locs w_A63 w_A65 hoffa ls hl hW hS
      subst hr8
      refine lv_iconst (v := 0) hx hb dX5_turnRound_103 (by decide) ?_
      refine lv_istore_n (lv' := [(3, .int 0), (0, .ref (q 55)), (1, .ref (q 28))]) hx hb dX5_turnRound_104 rfl hl (by decide) rfl (fun ls hl => ?_)
      obtain ⟨r13, hg13, hs0⟩ := obind hs0
      have hE1_192 : ∀ (t13_192 : (Nat → Int32) × (Nat → Int32)) (hr13 : t13_192 = r13) (a : Nat → vp_A) (H : Heap) (locs : List Loc) (w_A63 : a 63 = (6001, .inl t13_192.1)) (w_A65 : a 65 = (60000, .inl t13_192.2)) (hoffa : ∀ j, nel j [63, 65] = false → a j = a0 j) (ls : Array Slot) (hl : lv_has ls 7 []) (hW : GW D cy (gA N q s.heap.size) N q m0 a s H) (hS : va_S (gA N q s.heap.size) s.heap H locs), W p l e ({ frames := 2, cells := 0, slots := 0, locals := 44 } : Room) s M args below meth c H locs 0 0 (MQ below (va_Qv (fun (u : (Nat → Value) × (Nat → vp_A)) => u.1 = m0 ∧ u.2 63 = (6001, .inl X0.1) ∧ u.2 65 = (60000, .inl X0.2) ∧ (∀ j, nel j [63, 65] = false → u.2 j = a0 j)) (gB D cy N q s.heap.size) (gA N q s.heap.size)) args s 0 0 (gA N q s.heap.size)) (F0 M 192 ls []) := by
        intro t13_192 hr13 a H locs w_A63 w_A65 hoffa ls hl hW hS
        subst hr13
        have hs0 := Option.some.inj hs0
        subst hs0
        exact W.vret hx hb hr (fun t ht hw => ⟨⟨(m0, a), rfl, ⟨rfl, w_A63, w_A65, hoffa⟩, g_end hW ht hw⟩, hS.F ht⟩) hS.2.2 dX5_turnRound_192 hlocks
      have hL1 : ∀ (n : Nat) (v3k13 : Int32) (A63k13 : Nat → Int32) (A65k13 : Nat → Int32) (a : Nat → vp_A) (H : Heap) (locs : List Loc) (w_A63 : a 63 = (6001, .inl A63k13)) (w_A65 : a 65 = (60000, .inl A65k13)) (hoffa : ∀ j, nel j [63, 65] = false → a j = a0 j) (ls : Array Slot) (hl : lv_has ls 7 [(0, .ref (q 55)), (1, .ref (q 28)), (3, .int v3k13)]) (hg13 : gloop (fun u13 : (Int32 × (Nat → Int32) × (Nat → Int32)) => fX5_turnRound_S105 F x28_2 A30 A35 u13.1 u13.2.1 u13.2.2) n (v3k13, A63k13, A65k13) = some r13) (hW : GW D cy (gA N q s.heap.size) N q m0 a s H) (hS : va_S (gA N q s.heap.size) s.heap H locs), W p l e ({ frames := 2, cells := 0, slots := 0, locals := 44 } : Room) s M args below meth c H locs 0 0 (MQ below (va_Qv (fun (u : (Nat → Value) × (Nat → vp_A)) => u.1 = m0 ∧ u.2 63 = (6001, .inl X0.1) ∧ u.2 65 = (60000, .inl X0.2) ∧ (∀ j, nel j [63, 65] = false → u.2 j = a0 j)) (gB D cy N q s.heap.size) (gA N q s.heap.size)) args s 0 0 (gA N q s.heap.size)) (F0 M 105 ls []) := by
        intro n
        induction n with
        | zero => intro v3k13 A63k13 A65k13 a H locs w_A63 w_A65 hoffa ls hl hg13 hW hS; exact (gl_zero hg13).elim
        | succ n ih1 =>
          intro v3k13 A63k13 A65k13 a H locs w_A63 w_A65 hoffa ls hl hg13 hW hS
          obtain ⟨X1, hs1, hXl1, hXr1⟩ := gl_succ hg13
          have hs1 : fX5_turnRound_S105 F x28_2 A30 A35 v3k13 A63k13 A65k13 = some X1 := hs1
          unfold fX5_turnRound_S105 at hs1
          refine lv_iload_n hx hb dX5_turnRound_105 rfl (lv_at hl 2 rfl) ?_
          refine lv_aload_n hx hb dX5_turnRound_106 rfl (lv_at hl 1 rfl) ?_
          refine gf1_2 hx hb hG hown hW (o := 28) (ltN hN 28 rfl) gk28 (v := .int x28_2) h_x28_2 gx849 dX5_turnRound_107 ?_
          refine lv_icmp_ge (tgt := 192) hx hb dX5_turnRound_110 (by decide) (fun c29 => ?_) (fun c29 => ?_)
          · rw [if_pos c29] at hs1
            exact hE1_192 (A63k13, A65k13) (hXl1 _ (Option.some.inj hs1).symm) a _ _ w_A63 w_A65 hoffa ls (lv_sub hl [] rfl) hW hS
          · rw [if_neg c29] at hs1
            refine lv_aload_n hx hb dX5_turnRound_113 rfl (lv_at hl 1 rfl) ?_
            refine gf1_0 hx hb hG hown hW (o := 28) (ltN hN 28 rfl) gk28 (v := .ref (q 29)) (sh28_0 hsh) gx848 dX5_turnRound_114 ?_
            refine lv_iload_n hx hb dX5_turnRound_117 rfl (lv_at hl 2 rfl) ?_
            refine g_ViR (n := 1) hx hb hml hown hG hW hS [.int v3k13] (kX2_at (ltN hN 29 rfl) gk29 (ltN hN 30 rfl) gk30 (sh29_0 hsh) (by decide) ((hoffa 30 rfl).trans h_A30) v3k13) (ltN hN 29 rfl) gk29 (by decide) rfl rfl (gd_V gx850 gx564 gx565 gx47 gx566) rfl rfl (by decide) ⟨Nat.le_of_ble_eq_true rfl, Nat.le_of_ble_eq_true rfl⟩ rfl hl (Nat.le_of_ble_eq_true rfl) ⟨Nat.zero_le _, Nat.zero_le _⟩ dX5_turnRound_118 (fun H locs hW hS => ?_)
            refine lv_istore (lv' := [(4, .int (cAt 6001 A30 v3k13)), (0, .ref (q 55)), (1, .ref (q 28)), (3, .int v3k13)]) hx hb dX5_turnRound_121 hl (by decide) rfl (fun ls hl => ?_)
            obtain ⟨r31, hg31, hs1⟩ := obind hs1
            have hE2_186 : ∀ (t31_186 : (Nat → Int32) × (Nat → Int32)) (hr31 : t31_186 = r31) (a : Nat → vp_A) (H : Heap) (locs : List Loc) (w_A63 : a 63 = (6001, .inl t31_186.1)) (w_A65 : a 65 = (60000, .inl t31_186.2)) (hoffa : ∀ j, nel j [63, 65] = false → a j = a0 j) (ls : Array Slot) (hl : lv_has ls 7 [(0, .ref (q 55)), (1, .ref (q 28)), (3, .int v3k13)]) (hW : GW D cy (gA N q s.heap.size) N q m0 a s H) (hS : va_S (gA N q s.heap.size) s.heap H locs), W p l e ({ frames := 2, cells := 0, slots := 0, locals := 44 } : Room) s M args below meth c H locs 0 0 (MQ below (va_Qv (fun (u : (Nat → Value) × (Nat → vp_A)) => u.1 = m0 ∧ u.2 63 = (6001, .inl X0.1) ∧ u.2 65 = (60000, .inl X0.2) ∧ (∀ j, nel j [63, 65] = false → u.2 j = a0 j)) (gB D cy N q s.heap.size) (gA N q s.heap.size)) args s 0 0 (gA N q s.heap.size)) (F0 M 186 ls []) := by
              intro t31_186 hr31 a H locs w_A63 w_A65 hoffa ls hl hW hS
              subst hr31
              refine lv_iinc (v := v3k13 + 1) (lv' := [(3, .int (v3k13 + 1)), (0, .ref (q 55)), (1, .ref (q 28))]) hx hb dX5_turnRound_186 hl (k := 2) rfl rfl (by decide) rfl (fun ls hl => ?_)
              refine lv_goto (tgt := 105) hx hb dX5_turnRound_189 (by decide) ?_
              exact ih1 (v3k13 + 1) t31_186.1 t31_186.2 a _ _ w_A63 w_A65 hoffa ls (lv_sub hl [1, 2, 0] rfl) (hXr1 _ (Option.some.inj hs1).symm) hW hS
            have hL2 : ∀ (n : Nat) (v4k31 : Int32) (A63k31 : Nat → Int32) (A65k31 : Nat → Int32) (a : Nat → vp_A) (H : Heap) (locs : List Loc) (w_A63 : a 63 = (6001, .inl A63k31)) (w_A65 : a 65 = (60000, .inl A65k31)) (hoffa : ∀ j, nel j [63, 65] = false → a j = a0 j) (ls : Array Slot) (hl : lv_has ls 7 [(0, .ref (q 55)), (1, .ref (q 28)), (3, .int v3k13), (4, .int v4k31)]) (hg31 : gloop (fun u31 : (Int32 × (Nat → Int32) × (Nat → Int32)) => fX5_turnRound_S123 F x28_2 A30 A35 v3k13 u31.1 u31.2.1 u31.2.2) n (v4k31, A63k31, A65k31) = some r31) (hW : GW D cy (gA N q s.heap.size) N q m0 a s H) (hS : va_S (gA N q s.heap.size) s.heap H locs), W p l e ({ frames := 2, cells := 0, slots := 0, locals := 44 } : Room) s M args below meth c H locs 0 0 (MQ below (va_Qv (fun (u : (Nat → Value) × (Nat → vp_A)) => u.1 = m0 ∧ u.2 63 = (6001, .inl X0.1) ∧ u.2 65 = (60000, .inl X0.2) ∧ (∀ j, nel j [63, 65] = false → u.2 j = a0 j)) (gB D cy N q s.heap.size) (gA N q s.heap.size)) args s 0 0 (gA N q s.heap.size)) (F0 M 123 ls []) := by
              intro n
              induction n with
              | zero => intro v4k31 A63k31 A65k31 a H locs w_A63 w_A65 hoffa ls hl hg31 hW hS; exact (gl_zero hg31).elim
              | succ n ih2 =>
                intro v4k31 A63k31 A65k31 a H locs w_A63 w_A65 hoffa ls hl hg31 hW hS
                obtain ⟨X2, hs2, hXl2, hXr2⟩ := gl_succ hg31
                have hs2 : fX5_turnRound_S123 F x28_2 A30 A35 v3k13 v4k31 A63k31 A65k31 = some X2 := hs2
                unfold fX5_turnRound_S123 at hs2
                refine lv_iload hx hb dX5_turnRound_123 (lv_at hl 3 rfl) ?_
                refine lv_aload_n hx hb dX5_turnRound_125 rfl (lv_at hl 1 rfl) ?_
                refine gf1_0 hx hb hG hown hW (o := 28) (ltN hN 28 rfl) gk28 (v := .ref (q 29)) (sh28_0 hsh) gx848 dX5_turnRound_126 ?_
                refine lv_iload_n hx hb dX5_turnRound_129 rfl (lv_at hl 2 rfl) ?_
                refine lv_iconst (v := 1) hx hb dX5_turnRound_130 (by decide) ?_
                refine lv_iadd hx hb dX5_turnRound_131 ?_
                refine g_ViR (n := 1) hx hb hml hown hG hW hS [.int (v3k13 + 1)] (kX2_at (ltN hN 29 rfl) gk29 (ltN hN 30 rfl) gk30 (sh29_0 hsh) (by decide) ((hoffa 30 rfl).trans h_A30) (v3k13 + 1)) (ltN hN 29 rfl) gk29 (by decide) rfl rfl (gd_V gx850 gx564 gx565 gx47 gx566) rfl rfl (by decide) ⟨Nat.le_of_ble_eq_true rfl, Nat.le_of_ble_eq_true rfl⟩ rfl hl (Nat.le_of_ble_eq_true rfl) ⟨Nat.zero_le _, Nat.zero_le _⟩ dX5_turnRound_132 (fun H locs hW hS => ?_)
                refine lv_icmp_ge (tgt := 186) hx hb dX5_turnRound_135 (by decide) (fun c39 => ?_) (fun c39 => ?_)
                · rw [if_pos c39] at hs2
                  exact hE2_186 (A63k31, A65k31) (hXl2 _ (Option.some.inj hs2).symm) a _ _ w_A63 w_A65 hoffa ls (lv_sub hl [0, 1, 2] rfl) hW hS
                · rw [if_neg c39] at hs2
                  refine lv_aload_n hx hb dX5_turnRound_138 rfl (lv_at hl 1 rfl) ?_
                  refine lv_iload hx hb dX5_turnRound_139 (lv_at hl 3 rfl) ?_
                  refine g_ViR (n := 1) hx hb hml hown hG hW hS [.int v4k31] (kX1_targetOf hN hsh ((hoffa 35 rfl).trans h_A35) v4k31) (ltN hN 28 rfl) gk28 (by decide) rfl rfl (gd_V gx852 gx772 gx773 gx86 gx774) rfl rfl (by decide) ⟨Nat.le_of_ble_eq_true rfl, Nat.le_of_ble_eq_true rfl⟩ rfl hl (Nat.le_of_ble_eq_true rfl) ⟨Nat.zero_le _, Nat.zero_le _⟩ dX5_turnRound_141 (fun H locs hW hS => ?_)
                  refine lv_istore (lv' := [(5, .int (fX1_targetOf A35 v4k31)), (0, .ref (q 55)), (1, .ref (q 28)), (3, .int v3k13), (4, .int v4k31)]) hx hb dX5_turnRound_144 hl (by decide) rfl (fun ls hl => ?_)
                  refine lv_aload_n hx hb dX5_turnRound_146 rfl (lv_at hl 1 rfl) ?_
                  refine gf5_3 hx hb hG hown hW (o := 55) (ltN hN 55 rfl) gk55 (v := .ref (q 62)) (sh55_3 hsh) gx141 dX5_turnRound_147 ?_
                  refine lv_iload hx hb dX5_turnRound_150 (lv_at hl 0 rfl) ?_
                  refine g_ViR (n := 1) hx hb hml hown hG hW hS [.int (fX1_targetOf A35 v4k31)] (kX2_at (ltN hN 62 rfl) gk62 (ltN hN 63 rfl) gk63 (sh62_0 hsh) (by decide) w_A63 (fX1_targetOf A35 v4k31)) (ltN hN 62 rfl) gk62 (by decide) rfl rfl (gd_V gx850 gx564 gx565 gx47 gx566) rfl rfl (by decide) ⟨Nat.le_of_ble_eq_true rfl, Nat.le_of_ble_eq_true rfl⟩ rfl hl (Nat.le_of_ble_eq_true rfl) ⟨Nat.zero_le _, Nat.zero_le _⟩ dX5_turnRound_152 (fun H locs hW hS => ?_)
                  refine lv_iconst (v := 1) hx hb dX5_turnRound_155 (by decide) ?_
                  refine lv_isub hx hb dX5_turnRound_156 ?_
                  refine lv_istore (lv' := [(6, .int ((cAt 6001 A63k31 (fX1_targetOf A35 v4k31)) - 1)), (5, .int (fX1_targetOf A35 v4k31)), (0, .ref (q 55)), (1, .ref (q 28)), (3, .int v3k13), (4, .int v4k31)]) hx hb dX5_turnRound_157 hl (by decide) rfl (fun ls hl => ?_)
                  refine lv_aload_n hx hb dX5_turnRound_159 rfl (lv_at hl 2 rfl) ?_
                  refine gf5_3 hx hb hG hown hW (o := 55) (ltN hN 55 rfl) gk55 (v := .ref (q 62)) (sh55_3 hsh) gx141 dX5_turnRound_160 ?_
                  refine lv_iload hx hb dX5_turnRound_163 (lv_at hl 1 rfl) ?_
                  refine lv_iload hx hb dX5_turnRound_165 (lv_at hl 0 rfl) ?_
                  refine g_Vv (n := 2) hx hb hml hown hG hW hS [.int (fX1_targetOf A35 v4k31), .int ((cAt 6001 A63k31 (fX1_targetOf A35 v4k31)) - 1)] (kX2_put (ltN hN 62 rfl) gk62 (ltN hN 63 rfl) gk63 (sh62_0 hsh) (by decide) w_A63 (fX1_targetOf A35 v4k31) ((cAt 6001 A63k31 (fX1_targetOf A35 v4k31)) - 1)) (ltN hN 62 rfl) gk62 (by decide) rfl rfl (gd_V gx853 gx551 gx552 gx47 gx553) rfl rfl (by decide) ⟨Nat.le_of_ble_eq_true rfl, Nat.le_of_ble_eq_true rfl⟩ rfl hl (Nat.le_of_ble_eq_true rfl) ⟨Nat.zero_le _, Nat.zero_le _⟩ dX5_turnRound_167 (fun m42 a42 H locs hp42 hW hS => ?_)
                  obtain ⟨hm42, hp42_A63, hoa42⟩ := hp42
                  rw [hm42] at hW
                  have w_A63 : a42 63 = (6001, .inl (cPut 6001 A63k31 (fX1_targetOf A35 v4k31) ((cAt 6001 A63k31 (fX1_targetOf A35 v4k31)) - 1))) := hp42_A63
                  have w_A65 : a42 65 = (60000, .inl A65k31) := (hoa42 65 rfl).trans w_A65
                  have hoffa := offm hoffa hoa42 (by decide +kernel)
                  refine lv_aload_n hx hb dX5_turnRound_170 rfl (lv_at hl 2 rfl) ?_
                  refine gf5_4 hx hb hG hown hW (o := 55) (ltN hN 55 rfl) gk55 (v := .ref (q 64)) (sh55_4 hsh) gx143 dX5_turnRound_171 ?_
                  refine lv_iload hx hb dX5_turnRound_174 (lv_at hl 0 rfl) ?_
                  refine lv_iload_n hx hb dX5_turnRound_176 rfl (lv_at hl 4 rfl) ?_
                  refine g_Vv (n := 2) hx hb hml hown hG hW hS [.int ((cAt 6001 A63k31 (fX1_targetOf A35 v4k31)) - 1), .int v3k13] (kX2_put (ltN hN 64 rfl) gk64 (ltN hN 65 rfl) gk65 (sh64_0 hsh) (by decide) w_A65 ((cAt 6001 A63k31 (fX1_targetOf A35 v4k31)) - 1) v3k13) (ltN hN 64 rfl) gk64 (by decide) rfl rfl (gd_V gx853 gx551 gx552 gx47 gx553) rfl rfl (by decide) ⟨Nat.le_of_ble_eq_true rfl, Nat.le_of_ble_eq_true rfl⟩ rfl hl (Nat.le_of_ble_eq_true rfl) ⟨Nat.zero_le _, Nat.zero_le _⟩ dX5_turnRound_177 (fun m43 a43 H locs hp43 hW hS => ?_)
                  obtain ⟨hm43, hp43_A65, hoa43⟩ := hp43
                  rw [hm43] at hW
                  have w_A63 : a43 63 = (6001, .inl (cPut 6001 A63k31 (fX1_targetOf A35 v4k31) ((cAt 6001 A63k31 (fX1_targetOf A35 v4k31)) - 1))) := (hoa43 63 rfl).trans w_A63
                  have w_A65 : a43 65 = (60000, .inl (cPut 60000 A65k31 ((cAt 6001 A63k31 (fX1_targetOf A35 v4k31)) - 1) v3k13)) := hp43_A65
                  have hoffa := offm hoffa hoa43 (by decide +kernel)
                  refine lv_iinc (v := v4k31 + 1) (lv' := [(4, .int (v4k31 + 1)), (6, .int ((cAt 6001 A63k31 (fX1_targetOf A35 v4k31)) - 1)), (5, .int (fX1_targetOf A35 v4k31)), (0, .ref (q 55)), (1, .ref (q 28)), (3, .int v3k13)]) hx hb dX5_turnRound_180 hl (k := 5) rfl rfl (by decide) rfl (fun ls hl => ?_)
                  refine lv_goto (tgt := 123) hx hb dX5_turnRound_183 (by decide) ?_
                  exact ih2 (v4k31 + 1) (cPut 6001 A63k31 (fX1_targetOf A35 v4k31) ((cAt 6001 A63k31 (fX1_targetOf A35 v4k31)) - 1)) (cPut 60000 A65k31 ((cAt 6001 A63k31 (fX1_targetOf A35 v4k31)) - 1) v3k13) a43 _ _ w_A63 w_A65 hoffa ls (lv_sub hl [3, 4, 5, 0] rfl) (hXr2 _ (Option.some.inj hs2).symm) hW hS
            exact hL2 F (cAt 6001 A30 v3k13) A63k13 A65k13 a _ _ w_A63 w_A65 hoffa ls (lv_sub hl [1, 2, 3, 0] rfl) hg31 hW hS
      exact hL1 F 0 t8_103 A65 a _ _ w_A63 w_A65 hoffa ls (lv_sub hl [1, 2, 0] rfl) hg13 hW hS
    have hL1 : ∀ (n : Nat) (v3k8 : Int32) (A63k8 : Nat → Int32) (a : Nat → vp_A) (H : Heap) (locs : List Loc) (w_A63 : a 63 = (6001, .inl A63k8)) (w_A65 : a 65 = (60000, .inl A65)) (hoffa : ∀ j, nel j [63, 65] = false → a j = a0 j) (ls : Array Slot) (hl : lv_has ls 7 [(0, .ref (q 55)), (1, .ref (q 28)), (3, .int v3k8)]) (hg8 : gloop (fun u8 : (Int32 × (Nat → Int32)) => fX5_turnRound_S62 F x28_2 A30 A35 A65 u8.1 u8.2) n (v3k8, A63k8) = some r8) (hW : GW D cy (gA N q s.heap.size) N q m0 a s H) (hS : va_S (gA N q s.heap.size) s.heap H locs), W p l e ({ frames := 2, cells := 0, slots := 0, locals := 44 } : Room) s M args below meth c H locs 0 0 (MQ below (va_Qv (fun (u : (Nat → Value) × (Nat → vp_A)) => u.1 = m0 ∧ u.2 63 = (6001, .inl X0.1) ∧ u.2 65 = (60000, .inl X0.2) ∧ (∀ j, nel j [63, 65] = false → u.2 j = a0 j)) (gB D cy N q s.heap.size) (gA N q s.heap.size)) args s 0 0 (gA N q s.heap.size)) (F0 M 62 ls []) := by
      intro n
      induction n with
      | zero => intro v3k8 A63k8 a H locs w_A63 w_A65 hoffa ls hl hg8 hW hS; exact (gl_zero hg8).elim
      | succ n ih1 =>
        intro v3k8 A63k8 a H locs w_A63 w_A65 hoffa ls hl hg8 hW hS
        obtain ⟨X1, hs1, hXl1, hXr1⟩ := gl_succ hg8
        have hs1 : fX5_turnRound_S62 F x28_2 A30 A35 A65 v3k8 A63k8 = some X1 := hs1
        unfold fX5_turnRound_S62 at hs1
        refine lv_iload_n hx hb dX5_turnRound_62 rfl (lv_at hl 2 rfl) ?_
        refine lv_aload_n hx hb dX5_turnRound_63 rfl (lv_at hl 1 rfl) ?_
        refine gf1_2 hx hb hG hown hW (o := 28) (ltN hN 28 rfl) gk28 (v := .int x28_2) h_x28_2 gx849 dX5_turnRound_64 ?_
        refine lv_icmp_gt (tgt := 103) hx hb dX5_turnRound_67 (by decide) (fun c44 => ?_) (fun c44 => ?_)
        · rw [if_pos c44] at hs1
          exact hE1_103 A63k8 (hXl1 _ (Option.some.inj hs1).symm) a _ _ w_A63 w_A65 hoffa ls (lv_sub hl [0, 1] rfl) hW hS
        · rw [if_neg c44] at hs1
          refine lv_aload_n hx hb dX5_turnRound_70 rfl (lv_at hl 0 rfl) ?_
          refine gf5_3 hx hb hG hown hW (o := 55) (ltN hN 55 rfl) gk55 (v := .ref (q 62)) (sh55_3 hsh) gx141 dX5_turnRound_71 ?_
          refine lv_iload_n hx hb dX5_turnRound_74 rfl (lv_at hl 2 rfl) ?_
          refine lv_aload_n hx hb dX5_turnRound_75 rfl (lv_at hl 0 rfl) ?_
          refine gf5_3 hx hb hG hown hW (o := 55) (ltN hN 55 rfl) gk55 (v := .ref (q 62)) (sh55_3 hsh) gx141 dX5_turnRound_76 ?_
          refine lv_iload_n hx hb dX5_turnRound_79 rfl (lv_at hl 2 rfl) ?_
          refine g_ViR (n := 1) hx hb hml hown hG hW hS [.int v3k8] (kX2_at (ltN hN 62 rfl) gk62 (ltN hN 63 rfl) gk63 (sh62_0 hsh) (by decide) w_A63 v3k8) (ltN hN 62 rfl) gk62 (by decide) rfl rfl (gd_V gx850 gx564 gx565 gx47 gx566) rfl rfl (by decide) ⟨Nat.le_of_ble_eq_true rfl, Nat.le_of_ble_eq_true rfl⟩ rfl hl (Nat.le_of_ble_eq_true rfl) ⟨Nat.zero_le _, Nat.zero_le _⟩ dX5_turnRound_80 (fun H locs hW hS => ?_)
          refine lv_aload_n hx hb dX5_turnRound_83 rfl (lv_at hl 0 rfl) ?_
          refine gf5_3 hx hb hG hown hW (o := 55) (ltN hN 55 rfl) gk55 (v := .ref (q 62)) (sh55_3 hsh) gx141 dX5_turnRound_84 ?_
          refine lv_iload_n hx hb dX5_turnRound_87 rfl (lv_at hl 2 rfl) ?_
          refine lv_iconst (v := 1) hx hb dX5_turnRound_88 (by decide) ?_
          refine lv_isub hx hb dX5_turnRound_89 ?_
          refine g_ViR (n := 1) hx hb hml hown hG hW hS [.int (v3k8 - 1)] (kX2_at (ltN hN 62 rfl) gk62 (ltN hN 63 rfl) gk63 (sh62_0 hsh) (by decide) w_A63 (v3k8 - 1)) (ltN hN 62 rfl) gk62 (by decide) rfl rfl (gd_V gx850 gx564 gx565 gx47 gx566) rfl rfl (by decide) ⟨Nat.le_of_ble_eq_true rfl, Nat.le_of_ble_eq_true rfl⟩ rfl hl (Nat.le_of_ble_eq_true rfl) ⟨Nat.zero_le _, Nat.zero_le _⟩ dX5_turnRound_90 (fun H locs hW hS => ?_)
          refine lv_iadd hx hb dX5_turnRound_93 ?_
          refine g_Vv (n := 2) hx hb hml hown hG hW hS [.int v3k8, .int ((cAt 6001 A63k8 v3k8) + (cAt 6001 A63k8 (v3k8 - 1)))] (kX2_put (ltN hN 62 rfl) gk62 (ltN hN 63 rfl) gk63 (sh62_0 hsh) (by decide) w_A63 v3k8 ((cAt 6001 A63k8 v3k8) + (cAt 6001 A63k8 (v3k8 - 1)))) (ltN hN 62 rfl) gk62 (by decide) rfl rfl (gd_V gx853 gx551 gx552 gx47 gx553) rfl rfl (by decide) ⟨Nat.le_of_ble_eq_true rfl, Nat.le_of_ble_eq_true rfl⟩ rfl hl (Nat.le_of_ble_eq_true rfl) ⟨Nat.zero_le _, Nat.zero_le _⟩ dX5_turnRound_94 (fun m47 a47 H locs hp47 hW hS => ?_)
          obtain ⟨hm47, hp47_A63, hoa47⟩ := hp47
          rw [hm47] at hW
          have w_A63 : a47 63 = (6001, .inl (cPut 6001 A63k8 v3k8 ((cAt 6001 A63k8 v3k8) + (cAt 6001 A63k8 (v3k8 - 1))))) := hp47_A63
          have w_A65 : a47 65 = (60000, .inl A65) := (hoa47 65 rfl).trans w_A65
          have hoffa := offm hoffa hoa47 (by decide +kernel)
          refine lv_iinc (v := v3k8 + 1) (lv' := [(3, .int (v3k8 + 1)), (0, .ref (q 55)), (1, .ref (q 28))]) hx hb dX5_turnRound_97 hl (k := 2) rfl rfl (by decide) rfl (fun ls hl => ?_)
          refine lv_goto (tgt := 62) hx hb dX5_turnRound_100 (by decide) ?_
          exact ih1 (v3k8 + 1) (cPut 6001 A63k8 v3k8 ((cAt 6001 A63k8 v3k8) + (cAt 6001 A63k8 (v3k8 - 1)))) a47 _ _ w_A63 w_A65 hoffa ls (lv_sub hl [1, 2, 0] rfl) (hXr1 _ (Option.some.inj hs1).symm) hW hS
    exact hL1 F 1 t3_60 a _ _ w_A63 w_A65 hoffa ls (lv_sub hl [1, 2, 0] rfl) hg8 hW hS
  have hL1 : ∀ (n : Nat) (v3k3 : Int32) (A63k3 : Nat → Int32) (a : Nat → vp_A) (H : Heap) (locs : List Loc) (w_A63 : a 63 = (6001, .inl A63k3)) (w_A65 : a 65 = (60000, .inl A65)) (hoffa : ∀ j, nel j [63, 65] = false → a j = a0 j) (ls : Array Slot) (hl : lv_has ls 7 [(0, .ref (q 55)), (1, .ref (q 28)), (2, .int (cAt 6001 A30 x28_2)), (3, .int v3k3)]) (hg3 : gloop (fun u3 : (Int32 × (Nat → Int32)) => fX5_turnRound_S22 F x28_2 A30 A35 (cAt 6001 A30 x28_2) A65 u3.1 u3.2) n (v3k3, A63k3) = some r3) (hW : GW D cy (gA N q s.heap.size) N q m0 a s H) (hS : va_S (gA N q s.heap.size) s.heap H locs), W p l e ({ frames := 2, cells := 0, slots := 0, locals := 44 } : Room) s M args below meth c H locs 0 0 (MQ below (va_Qv (fun (u : (Nat → Value) × (Nat → vp_A)) => u.1 = m0 ∧ u.2 63 = (6001, .inl X0.1) ∧ u.2 65 = (60000, .inl X0.2) ∧ (∀ j, nel j [63, 65] = false → u.2 j = a0 j)) (gB D cy N q s.heap.size) (gA N q s.heap.size)) args s 0 0 (gA N q s.heap.size)) (F0 M 22 ls []) := by
    intro n
    induction n with
    | zero => intro v3k3 A63k3 a H locs w_A63 w_A65 hoffa ls hl hg3 hW hS; exact (gl_zero hg3).elim
    | succ n ih1 =>
      intro v3k3 A63k3 a H locs w_A63 w_A65 hoffa ls hl hg3 hW hS
      obtain ⟨X1, hs1, hXl1, hXr1⟩ := gl_succ hg3
      have hs1 : fX5_turnRound_S22 F x28_2 A30 A35 (cAt 6001 A30 x28_2) A65 v3k3 A63k3 = some X1 := hs1
      unfold fX5_turnRound_S22 at hs1
      refine lv_iload_n hx hb dX5_turnRound_22 rfl (lv_at hl 3 rfl) ?_
      refine lv_iload_n hx hb dX5_turnRound_23 rfl (lv_at hl 2 rfl) ?_
      refine lv_icmp_ge (tgt := 60) hx hb dX5_turnRound_24 (by decide) (fun c48 => ?_) (fun c48 => ?_)
      · rw [if_pos c48] at hs1
        exact hE1_60 A63k3 (hXl1 _ (Option.some.inj hs1).symm) a _ _ w_A63 w_A65 hoffa ls (lv_sub hl [0, 1] rfl) hW hS
      · rw [if_neg c48] at hs1
        refine lv_aload_n hx hb dX5_turnRound_27 rfl (lv_at hl 1 rfl) ?_
        refine lv_iload_n hx hb dX5_turnRound_28 rfl (lv_at hl 3 rfl) ?_
        refine g_ViR (n := 1) hx hb hml hown hG hW hS [.int v3k3] (kX1_targetOf hN hsh ((hoffa 35 rfl).trans h_A35) v3k3) (ltN hN 28 rfl) gk28 (by decide) rfl rfl (gd_V gx852 gx772 gx773 gx86 gx774) rfl rfl (by decide) ⟨Nat.le_of_ble_eq_true rfl, Nat.le_of_ble_eq_true rfl⟩ rfl hl (Nat.le_of_ble_eq_true rfl) ⟨Nat.zero_le _, Nat.zero_le _⟩ dX5_turnRound_29 (fun H locs hW hS => ?_)
        refine lv_istore (lv' := [(4, .int (fX1_targetOf A35 v3k3)), (0, .ref (q 55)), (1, .ref (q 28)), (2, .int (cAt 6001 A30 x28_2)), (3, .int v3k3)]) hx hb dX5_turnRound_32 hl (by decide) rfl (fun ls hl => ?_)
        refine lv_aload_n hx hb dX5_turnRound_34 rfl (lv_at hl 1 rfl) ?_
        refine gf5_3 hx hb hG hown hW (o := 55) (ltN hN 55 rfl) gk55 (v := .ref (q 62)) (sh55_3 hsh) gx141 dX5_turnRound_35 ?_
        refine lv_iload hx hb dX5_turnRound_38 (lv_at hl 0 rfl) ?_
        refine lv_aload_n hx hb dX5_turnRound_40 rfl (lv_at hl 1 rfl) ?_
        refine gf5_3 hx hb hG hown hW (o := 55) (ltN hN 55 rfl) gk55 (v := .ref (q 62)) (sh55_3 hsh) gx141 dX5_turnRound_41 ?_
        refine lv_iload hx hb dX5_turnRound_44 (lv_at hl 0 rfl) ?_
        refine g_ViR (n := 1) hx hb hml hown hG hW hS [.int (fX1_targetOf A35 v3k3)] (kX2_at (ltN hN 62 rfl) gk62 (ltN hN 63 rfl) gk63 (sh62_0 hsh) (by decide) w_A63 (fX1_targetOf A35 v3k3)) (ltN hN 62 rfl) gk62 (by decide) rfl rfl (gd_V gx850 gx564 gx565 gx47 gx566) rfl rfl (by decide) ⟨Nat.le_of_ble_eq_true rfl, Nat.le_of_ble_eq_true rfl⟩ rfl hl (Nat.le_of_ble_eq_true rfl) ⟨Nat.zero_le _, Nat.zero_le _⟩ dX5_turnRound_46 (fun H locs hW hS => ?_)
        refine lv_iconst (v := 1) hx hb dX5_turnRound_49 (by decide) ?_
        refine lv_iadd hx hb dX5_turnRound_50 ?_
        refine g_Vv (n := 2) hx hb hml hown hG hW hS [.int (fX1_targetOf A35 v3k3), .int ((cAt 6001 A63k3 (fX1_targetOf A35 v3k3)) + 1)] (kX2_put (ltN hN 62 rfl) gk62 (ltN hN 63 rfl) gk63 (sh62_0 hsh) (by decide) w_A63 (fX1_targetOf A35 v3k3) ((cAt 6001 A63k3 (fX1_targetOf A35 v3k3)) + 1)) (ltN hN 62 rfl) gk62 (by decide) rfl rfl (gd_V gx853 gx551 gx552 gx47 gx553) rfl rfl (by decide) ⟨Nat.le_of_ble_eq_true rfl, Nat.le_of_ble_eq_true rfl⟩ rfl hl (Nat.le_of_ble_eq_true rfl) ⟨Nat.zero_le _, Nat.zero_le _⟩ dX5_turnRound_51 (fun m51 a51 H locs hp51 hW hS => ?_)
        obtain ⟨hm51, hp51_A63, hoa51⟩ := hp51
        rw [hm51] at hW
        have w_A63 : a51 63 = (6001, .inl (cPut 6001 A63k3 (fX1_targetOf A35 v3k3) ((cAt 6001 A63k3 (fX1_targetOf A35 v3k3)) + 1))) := hp51_A63
        have w_A65 : a51 65 = (60000, .inl A65) := (hoa51 65 rfl).trans w_A65
        have hoffa := offm hoffa hoa51 (by decide +kernel)
        refine lv_iinc (v := v3k3 + 1) (lv' := [(3, .int (v3k3 + 1)), (4, .int (fX1_targetOf A35 v3k3)), (0, .ref (q 55)), (1, .ref (q 28)), (2, .int (cAt 6001 A30 x28_2))]) hx hb dX5_turnRound_54 hl (k := 4) rfl rfl (by decide) rfl (fun ls hl => ?_)
        refine lv_goto (tgt := 22) hx hb dX5_turnRound_57 (by decide) ?_
        exact ih1 (v3k3 + 1) (cPut 6001 A63k3 (fX1_targetOf A35 v3k3) ((cAt 6001 A63k3 (fX1_targetOf A35 v3k3)) + 1)) a51 _ _ w_A63 w_A65 hoffa ls (lv_sub hl [2, 3, 4, 0] rfl) (hXr1 _ (Option.some.inj hs1).symm) hW hS
  exact hL1 F 0 (cFill 6001 A63 0) a2 _ _ w_A63 w_A65 hoffa ls (lv_sub hl [2, 3, 1, 0] rfl) hg3 hW hS
-- HealLink$Ranges.measure (LHealLink$Atlas;)V
def fX5_measure (F : Nat) (x28_2 : Int32) (A30 : Nat → Int32) (A35 : Nat → Int32) (A57 : Nat → Int32) (A59 : Nat → Int32) (A61 : Nat → Int32) (A63 : Nat → Int32) (A65 : Nat → Int32) : Option ((Nat → Int32) × (Nat → Int32) × (Nat → Int32) × (Nat → Int32) × (Nat → Int32)) := ((fX5_turnRound F x28_2 A30 A35 A63 A65).bind (fun r1 => ((fX5_spread F x28_2 A30 A35 r1.1 r1.2 A57 A61 1).bind (fun r2 => ((fX5_spread F x28_2 A30 A35 r1.1 r1.2 A59 r2.2 2).bind (fun r3 => some (r2.1, r3.1, r3.2, r1.1, r1.2)))))))
theorem dX5_measure_0 : decode cX5_measure 0 = .ok (.aload_n 0, 1) := by decide +kernel
theorem dX5_measure_1 : decode cX5_measure 1 = .ok (.aload_n 1, 1) := by decide +kernel
theorem dX5_measure_2 : decode cX5_measure 2 = .ok (.invokevirtual 33, 3) := by decide +kernel
theorem dX5_measure_5 : decode cX5_measure 5 = .ok (.aload_n 0, 1) := by decide +kernel
theorem dX5_measure_6 : decode cX5_measure 6 = .ok (.aload_n 1, 1) := by decide +kernel
theorem dX5_measure_7 : decode cX5_measure 7 = .ok (.iconst 1, 1) := by decide +kernel
theorem dX5_measure_8 : decode cX5_measure 8 = .ok (.aload_n 0, 1) := by decide +kernel
theorem dX5_measure_9 : decode cX5_measure 9 = .ok (.getfield 14, 3) := by decide +kernel
theorem dX5_measure_12 : decode cX5_measure 12 = .ok (.invokevirtual 39, 3) := by decide +kernel
theorem dX5_measure_15 : decode cX5_measure 15 = .ok (.aload_n 0, 1) := by decide +kernel
theorem dX5_measure_16 : decode cX5_measure 16 = .ok (.aload_n 1, 1) := by decide +kernel
theorem dX5_measure_17 : decode cX5_measure 17 = .ok (.iconst 2, 1) := by decide +kernel
theorem dX5_measure_18 : decode cX5_measure 18 = .ok (.aload_n 0, 1) := by decide +kernel
theorem dX5_measure_19 : decode cX5_measure 19 = .ok (.getfield 20, 3) := by decide +kernel
theorem dX5_measure_22 : decode cX5_measure 22 = .ok (.invokevirtual 39, 3) := by decide +kernel
theorem dX5_measure_25 : decode cX5_measure 25 = .ok (.return_, 1) := by decide +kernel
set_option maxHeartbeats 4000000 in
set_option maxRecDepth 100000 in
theorem kX5_measure {l : Launch} {D : va_G} {cy : Nat → ClassId} {N : Nat} {q : Nat → Nat} {m0 : Nat → Value} {a0 : Nat → vp_A} {sz : Nat} (hN : 105 ≤ N) (hsh : SH q m0) {x28_2 : Int32} (h_x28_2 : m0 2802 = .int x28_2) {A30 : Nat → Int32} (h_A30 : a0 30 = (6001, .inl A30)) {A35 : Nat → Int32} (h_A35 : a0 35 = (60000, .inl A35)) {A57 : Nat → Int32} (h_A57 : a0 57 = (6000, .inl A57)) {A59 : Nat → Int32} (h_A59 : a0 59 = (6000, .inl A59)) {A61 : Nat → Int32} (h_A61 : a0 61 = (6000, .inl A61)) {A63 : Nat → Int32} (h_A63 : a0 63 = (6001, .inl A63)) {A65 : Nat → Int32} (h_A65 : a0 65 = (60000, .inl A65)) (F : Nat) {X0 : (Nat → Int32) × (Nat → Int32) × (Nat → Int32) × (Nat → Int32) × (Nat → Int32)} (hs0 : fX5_measure F x28_2 A30 A35 A57 A59 A61 A63 A65 = some X0) : gMv l yX5_measure cX5_measure 2 none ({ frames := 4, cells := 0, slots := 0, locals := 94 } : Room) D cy N q m0 a0 sz [.ref (q 55), .ref (q 28)] (fun m' a' => m' = m0 ∧ a' 57 = (6000, .inl X0.1) ∧ a' 59 = (6000, .inl X0.2.1) ∧ a' 61 = (6000, .inl X0.2.2.1) ∧ a' 63 = (6001, .inl X0.2.2.2.1) ∧ a' 65 = (60000, .inl X0.2.2.2.2) ∧ (∀ j, nel j [57, 59, 61, 63, 65] = false → a' j = a0 j)) := by
  refine g_ofv (by decide) (Nat.le_of_ble_eq_true rfl) ?_
  intro p e s M args below meth c hx hb hr hG hown hin hlocks hml hW hS ls hl
  unfold fX5_measure at hs0
  have hoffa : ∀ j, nel j [57, 59, 61, 63, 65] = false → a0 j = a0 j := off0
  refine lv_aload_n hx hb dX5_measure_0 rfl (lv_at hl 0 rfl) ?_
  refine lv_aload_n hx hb dX5_measure_1 rfl (lv_at hl 1 rfl) ?_
  obtain ⟨r1, hf1, hs0⟩ := obind hs0
  refine g_Vv (n := 1) hx hb hml hown hG hW hS [.ref (q 28)] (kX5_turnRound hN hsh h_x28_2 ((hoffa 30 rfl).trans h_A30) ((hoffa 35 rfl).trans h_A35) h_A63 h_A65 F hf1) (ltN hN 55 rfl) gk55 (by decide) rfl rfl (gd_V gx844 gx845 gx846 gx98 gx847) rfl rfl (by decide) ⟨Nat.le_of_ble_eq_true rfl, Nat.le_of_ble_eq_true rfl⟩ rfl hl (Nat.le_of_ble_eq_true rfl) ⟨Nat.zero_le _, Nat.zero_le _⟩ dX5_measure_2 (fun m1 a1 H locs hp1 hW hS => ?_)
  obtain ⟨hm1, hp1_A63, hp1_A65, hoa1⟩ := hp1
  rw [hm1] at hW
  have w_A57 : a1 57 = (6000, .inl A57) := (hoa1 57 rfl).trans h_A57
  have w_A59 : a1 59 = (6000, .inl A59) := (hoa1 59 rfl).trans h_A59
  have w_A61 : a1 61 = (6000, .inl A61) := (hoa1 61 rfl).trans h_A61
  have w_A63 : a1 63 = (6001, .inl r1.1) := hp1_A63
  have w_A65 : a1 65 = (60000, .inl r1.2) := hp1_A65
  have hoffa := offm hoffa hoa1 (by decide +kernel)
  refine lv_aload_n hx hb dX5_measure_5 rfl (lv_at hl 0 rfl) ?_
  refine lv_aload_n hx hb dX5_measure_6 rfl (lv_at hl 1 rfl) ?_
  refine lv_iconst (v := 1) hx hb dX5_measure_7 (by decide) ?_
  refine lv_aload_n hx hb dX5_measure_8 rfl (lv_at hl 0 rfl) ?_
  refine gf5_0 hx hb hG hown hW (o := 55) (ltN hN 55 rfl) gk55 (v := .ref (q 56)) (sh55_0 hsh) gx138 dX5_measure_9 ?_
  obtain ⟨r2, hf2, hs0⟩ := obind hs0
  refine g_Vv (n := 3) hx hb hml hown hG hW hS [.ref (q 28), .int 1, .ref (q 56)] (kX5_spread_56 hN hsh h_x28_2 ((hoffa 30 rfl).trans h_A30) ((hoffa 35 rfl).trans h_A35) w_A63 w_A65 w_A57 w_A61 F 1 hf2) (ltN hN 55 rfl) gk55 (by decide) rfl rfl (gd_V gx854 gx855 gx856 gx98 gx857) rfl rfl (by decide) ⟨Nat.le_of_ble_eq_true rfl, Nat.le_of_ble_eq_true rfl⟩ rfl hl (Nat.le_of_ble_eq_true rfl) ⟨Nat.zero_le _, Nat.zero_le _⟩ dX5_measure_12 (fun m2 a2 H locs hp2 hW hS => ?_)
  obtain ⟨hm2, hp2_A57, hp2_A61, hoa2⟩ := hp2
  rw [hm2] at hW
  have w_A57 : a2 57 = (6000, .inl r2.1) := hp2_A57
  have w_A59 : a2 59 = (6000, .inl A59) := (hoa2 59 rfl).trans w_A59
  have w_A61 : a2 61 = (6000, .inl r2.2) := hp2_A61
  have w_A63 : a2 63 = (6001, .inl r1.1) := (hoa2 63 rfl).trans w_A63
  have w_A65 : a2 65 = (60000, .inl r1.2) := (hoa2 65 rfl).trans w_A65
  have hoffa := offm hoffa hoa2 (by decide +kernel)
  refine lv_aload_n hx hb dX5_measure_15 rfl (lv_at hl 0 rfl) ?_
  refine lv_aload_n hx hb dX5_measure_16 rfl (lv_at hl 1 rfl) ?_
  refine lv_iconst (v := 2) hx hb dX5_measure_17 (by decide) ?_
  refine lv_aload_n hx hb dX5_measure_18 rfl (lv_at hl 0 rfl) ?_
  refine gf5_1 hx hb hG hown hW (o := 55) (ltN hN 55 rfl) gk55 (v := .ref (q 58)) (sh55_1 hsh) gx139 dX5_measure_19 ?_
  obtain ⟨r3, hf3, hs0⟩ := obind hs0
  refine g_Vv (n := 3) hx hb hml hown hG hW hS [.ref (q 28), .int 2, .ref (q 58)] (kX5_spread_58 hN hsh h_x28_2 ((hoffa 30 rfl).trans h_A30) ((hoffa 35 rfl).trans h_A35) w_A63 w_A65 w_A59 w_A61 F 2 hf3) (ltN hN 55 rfl) gk55 (by decide) rfl rfl (gd_V gx854 gx855 gx856 gx98 gx857) rfl rfl (by decide) ⟨Nat.le_of_ble_eq_true rfl, Nat.le_of_ble_eq_true rfl⟩ rfl hl (Nat.le_of_ble_eq_true rfl) ⟨Nat.zero_le _, Nat.zero_le _⟩ dX5_measure_22 (fun m3 a3 H locs hp3 hW hS => ?_)
  obtain ⟨hm3, hp3_A59, hp3_A61, hoa3⟩ := hp3
  rw [hm3] at hW
  have w_A57 : a3 57 = (6000, .inl r2.1) := (hoa3 57 rfl).trans w_A57
  have w_A59 : a3 59 = (6000, .inl r3.1) := hp3_A59
  have w_A61 : a3 61 = (6000, .inl r3.2) := hp3_A61
  have w_A63 : a3 63 = (6001, .inl r1.1) := (hoa3 63 rfl).trans w_A63
  have w_A65 : a3 65 = (60000, .inl r1.2) := (hoa3 65 rfl).trans w_A65
  have hoffa := offm hoffa hoa3 (by decide +kernel)
  have hs0 := Option.some.inj hs0
  subst hs0
  exact W.vret hx hb hr (fun t ht hw => ⟨⟨(m0, a3), rfl, ⟨rfl, w_A57, w_A59, w_A61, w_A63, w_A65, hoffa⟩, g_end hW ht hw⟩, hS.F ht⟩) hS.2.2 dX5_measure_25 hlocks
