/-! 21.model (by program): the pure function of each method, its rows, its contract -/
-- HealLinkModel.comesTo ([III)I
def fX12_comesTo_S16 (F : Nat) (v2 : Int32) (v3 : Int32) (A72 : Nat → Int32) : Option (((Nat → Int32)) ⊕ (Int32 × (Nat → Int32))) := (if 40 ≤ v3 then some (Sum.inl A72) else (if inb v3 40 = true then (if inb (v3 - 1) 40 = true then some (Sum.inr (v3 + 1, upd A72 (v3 - 1).toNatClampNeg (A72 v3.toNatClampNeg))) else none) else none))
def fX12_comesTo (F : Nat) (A72 : Nat → Int32) (p1 : Int32) (p2 : Int32) : Option (Int32 × (Nat → Int32)) := (if 40 ≤ p1 then (gloop (fun u2 : (Int32 × (Nat → Int32)) => fX12_comesTo_S16 F p2 u2.1 u2.2) F (1, A72)).bind (fun t2_36 => some (40, upd t2_36 (39 : Int32).toNatClampNeg p2)) else (if inb p1 40 = true then some (p1 + 1, upd A72 p1.toNatClampNeg p2) else none))
theorem dX12_comesTo_0 : decode cX12_comesTo 0 = .ok (.iload_n 1, 1) := by decide +kernel
theorem dX12_comesTo_1 : decode cX12_comesTo 1 = .ok (.bipush 40, 2) := by decide +kernel
theorem dX12_comesTo_3 : decode cX12_comesTo 3 = .ok (.if_icmp .ge 11, 3) := by decide +kernel
theorem dX12_comesTo_6 : decode cX12_comesTo 6 = .ok (.aload_n 0, 1) := by decide +kernel
theorem dX12_comesTo_7 : decode cX12_comesTo 7 = .ok (.iload_n 1, 1) := by decide +kernel
theorem dX12_comesTo_8 : decode cX12_comesTo 8 = .ok (.iload_n 2, 1) := by decide +kernel
theorem dX12_comesTo_9 : decode cX12_comesTo 9 = .ok (.iastore, 1) := by decide +kernel
theorem dX12_comesTo_10 : decode cX12_comesTo 10 = .ok (.iload_n 1, 1) := by decide +kernel
theorem dX12_comesTo_11 : decode cX12_comesTo 11 = .ok (.iconst 1, 1) := by decide +kernel
theorem dX12_comesTo_12 : decode cX12_comesTo 12 = .ok (.iadd, 1) := by decide +kernel
theorem dX12_comesTo_13 : decode cX12_comesTo 13 = .ok (.ireturn, 1) := by decide +kernel
theorem dX12_comesTo_14 : decode cX12_comesTo 14 = .ok (.iconst 1, 1) := by decide +kernel
theorem dX12_comesTo_15 : decode cX12_comesTo 15 = .ok (.istore_n 3, 1) := by decide +kernel
theorem dX12_comesTo_16 : decode cX12_comesTo 16 = .ok (.iload_n 3, 1) := by decide +kernel
theorem dX12_comesTo_17 : decode cX12_comesTo 17 = .ok (.bipush 40, 2) := by decide +kernel
theorem dX12_comesTo_19 : decode cX12_comesTo 19 = .ok (.if_icmp .ge 17, 3) := by decide +kernel
theorem dX12_comesTo_22 : decode cX12_comesTo 22 = .ok (.aload_n 0, 1) := by decide +kernel
theorem dX12_comesTo_23 : decode cX12_comesTo 23 = .ok (.iload_n 3, 1) := by decide +kernel
theorem dX12_comesTo_24 : decode cX12_comesTo 24 = .ok (.iconst 1, 1) := by decide +kernel
theorem dX12_comesTo_25 : decode cX12_comesTo 25 = .ok (.isub, 1) := by decide +kernel
theorem dX12_comesTo_26 : decode cX12_comesTo 26 = .ok (.aload_n 0, 1) := by decide +kernel
theorem dX12_comesTo_27 : decode cX12_comesTo 27 = .ok (.iload_n 3, 1) := by decide +kernel
theorem dX12_comesTo_28 : decode cX12_comesTo 28 = .ok (.iaload, 1) := by decide +kernel
theorem dX12_comesTo_29 : decode cX12_comesTo 29 = .ok (.iastore, 1) := by decide +kernel
theorem dX12_comesTo_30 : decode cX12_comesTo 30 = .ok (.iinc 3 1, 3) := by decide +kernel
theorem dX12_comesTo_33 : decode cX12_comesTo 33 = .ok (.goto (-17), 3) := by decide +kernel
theorem dX12_comesTo_36 : decode cX12_comesTo 36 = .ok (.aload_n 0, 1) := by decide +kernel
theorem dX12_comesTo_37 : decode cX12_comesTo 37 = .ok (.bipush 39, 2) := by decide +kernel
theorem dX12_comesTo_39 : decode cX12_comesTo 39 = .ok (.iload_n 2, 1) := by decide +kernel
theorem dX12_comesTo_40 : decode cX12_comesTo 40 = .ok (.iastore, 1) := by decide +kernel
theorem dX12_comesTo_41 : decode cX12_comesTo 41 = .ok (.bipush 40, 2) := by decide +kernel
theorem dX12_comesTo_43 : decode cX12_comesTo 43 = .ok (.ireturn, 1) := by decide +kernel
set_option maxHeartbeats 4000000 in
set_option maxRecDepth 100000 in
theorem kX12_comesTo_72 {l : Launch} {D : va_G} {cy : Nat → ClassId} {N : Nat} {q : Nat → Nat} {m0 : Nat → Value} {a0 : Nat → vp_A} {sz : Nat} (hN : 105 ≤ N) {A72 : Nat → Int32} (h_A72 : a0 72 = (40, .inl A72)) (F : Nat) (p1 : Int32) (p2 : Int32) {X0 : Int32 × (Nat → Int32)} (hs0 : fX12_comesTo F A72 p1 p2 = some X0) : gMi l yX12_comesTo cX12_comesTo 4 (some .int) ({ frames := 0, cells := 0, slots := 0, locals := 0 } : Room) D cy N q m0 a0 sz [.ref (q 72), .int p1, .int p2] (fun r m' a' => r = X0.1 ∧ m' = m0 ∧ a' 72 = (40, .inl X0.2) ∧ (∀ j, nel j [72] = false → a' j = a0 j)) := by
  refine g_ofi (by decide) (Nat.le_of_ble_eq_true rfl) ?_
  intro p e s M args below meth c hx hb hr hG hown hin hlocks hml hW hS ls hl
  unfold fX12_comesTo at hs0
  have hoffa : ∀ j, nel j [72] = false → a0 j = a0 j := off0
  refine lv_iload_n hx hb dX12_comesTo_0 rfl (lv_at hl 1 rfl) ?_
  refine lv_bipush (v := 40) hx hb dX12_comesTo_1 (by decide) ?_
  refine lv_icmp_ge (tgt := 14) hx hb dX12_comesTo_3 (by decide) (fun c1 => ?_) (fun c1 => ?_)
  · rw [if_pos c1] at hs0
    refine lv_iconst (v := 1) hx hb dX12_comesTo_14 (by decide) ?_
    refine lv_istore_n (lv' := [(3, .int 1), (0, .ref (q 72)), (1, .int p1), (2, .int p2)]) hx hb dX12_comesTo_15 rfl hl (by decide) rfl (fun ls hl => ?_)
    obtain ⟨r2, hg2, hs0⟩ := obind hs0
    have hE1_36 : ∀ (t2_36 : (Nat → Int32)) (hr2 : t2_36 = r2) (a : Nat → vp_A) (H : Heap) (locs : List Loc) (w_A72 : a 72 = (40, .inl t2_36)) (hoffa : ∀ j, nel j [72] = false → a j = a0 j) (ls : Array Slot) (hl : lv_has ls 4 [(0, .ref (q 72)), (2, .int p2)]) (hW : GW D cy (gA N q s.heap.size) N q m0 a s H) (hS : va_S (gA N q s.heap.size) s.heap H locs), W p l e ({ frames := 0, cells := 0, slots := 0, locals := 0 } : Room) s M args below meth c H locs 0 0 (MQ below (va_Qi (fun (r : Int32) (u : (Nat → Value) × (Nat → vp_A)) => r = X0.1 ∧ u.1 = m0 ∧ u.2 72 = (40, .inl X0.2) ∧ (∀ j, nel j [72] = false → u.2 j = a0 j)) (gB D cy N q s.heap.size) (gA N q s.heap.size)) args s 0 0 (gA N q s.heap.size)) (F0 M 36 ls []) := by
      intro t2_36 hr2 a H locs w_A72 hoffa ls hl hW hS
      subst hr2
      refine lv_aload_n hx hb dX12_comesTo_36 rfl (lv_at hl 0 rfl) ?_
      refine lv_bipush (v := 39) hx hb dX12_comesTo_37 (by decide) ?_
      refine lv_iload_n hx hb dX12_comesTo_39 rfl (lv_at hl 1 rfl) ?_
      refine g_iast hx hb hW hS (o := 72) (ltN hN 72 rfl) gk72 w_A72 (vin (by decide)) dX12_comesTo_40 (fun a7 H locs ha7 ho7 hW hS => ?_)
      have ho7 := off1 ho7
      have w_A72 : a7 72 = (40, .inl (upd t2_36 (39 : Int32).toNatClampNeg p2)) := ha7
      have hoffa := offm hoffa ho7 (by decide +kernel)
      refine lv_bipush (v := 40) hx hb dX12_comesTo_41 (by decide) ?_
      have hs0 := Option.some.inj hs0
      subst hs0
      exact W.zret hx hb hr rfl (fun t ht hw => ⟨⟨_, (m0, a7), rfl, ⟨rfl, rfl, w_A72, hoffa⟩, g_end hW ht hw⟩, hS.F ht⟩) hS.2.2 dX12_comesTo_43 hlocks
    have hL1 : ∀ (n : Nat) (v3k2 : Int32) (A72k2 : Nat → Int32) (a : Nat → vp_A) (H : Heap) (locs : List Loc) (w_A72 : a 72 = (40, .inl A72k2)) (hoffa : ∀ j, nel j [72] = false → a j = a0 j) (ls : Array Slot) (hl : lv_has ls 4 [(0, .ref (q 72)), (2, .int p2), (3, .int v3k2)]) (hg2 : gloop (fun u2 : (Int32 × (Nat → Int32)) => fX12_comesTo_S16 F p2 u2.1 u2.2) n (v3k2, A72k2) = some r2) (hW : GW D cy (gA N q s.heap.size) N q m0 a s H) (hS : va_S (gA N q s.heap.size) s.heap H locs), W p l e ({ frames := 0, cells := 0, slots := 0, locals := 0 } : Room) s M args below meth c H locs 0 0 (MQ below (va_Qi (fun (r : Int32) (u : (Nat → Value) × (Nat → vp_A)) => r = X0.1 ∧ u.1 = m0 ∧ u.2 72 = (40, .inl X0.2) ∧ (∀ j, nel j [72] = false → u.2 j = a0 j)) (gB D cy N q s.heap.size) (gA N q s.heap.size)) args s 0 0 (gA N q s.heap.size)) (F0 M 16 ls []) := by
      intro n
      induction n with
      | zero => intro v3k2 A72k2 a H locs w_A72 hoffa ls hl hg2 hW hS; exact (gl_zero hg2).elim
      | succ n ih1 =>
        intro v3k2 A72k2 a H locs w_A72 hoffa ls hl hg2 hW hS
        obtain ⟨X1, hs1, hXl1, hXr1⟩ := gl_succ hg2
        have hs1 : fX12_comesTo_S16 F p2 v3k2 A72k2 = some X1 := hs1
        unfold fX12_comesTo_S16 at hs1
        refine lv_iload_n hx hb dX12_comesTo_16 rfl (lv_at hl 2 rfl) ?_
        refine lv_bipush (v := 40) hx hb dX12_comesTo_17 (by decide) ?_
        refine lv_icmp_ge (tgt := 36) hx hb dX12_comesTo_19 (by decide) (fun c8 => ?_) (fun c8 => ?_)
        · rw [if_pos c8] at hs1
          exact hE1_36 A72k2 (hXl1 _ (Option.some.inj hs1).symm) a _ _ w_A72 hoffa ls (lv_sub hl [0, 1] rfl) hW hS
        · rw [if_neg c8] at hs1
          refine lv_aload_n hx hb dX12_comesTo_22 rfl (lv_at hl 0 rfl) ?_
          refine lv_iload_n hx hb dX12_comesTo_23 rfl (lv_at hl 2 rfl) ?_
          refine lv_iconst (v := 1) hx hb dX12_comesTo_24 (by decide) ?_
          refine lv_isub hx hb dX12_comesTo_25 ?_
          refine lv_aload_n hx hb dX12_comesTo_26 rfl (lv_at hl 0 rfl) ?_
          refine lv_iload_n hx hb dX12_comesTo_27 rfl (lv_at hl 2 rfl) ?_
          obtain ⟨hi9, hs1⟩ := oif hs1
          refine g_iald hx hb hW (o := 72) (ltN hN 72 rfl) gk72 w_A72 (vin hi9) dX12_comesTo_28 ?_
          obtain ⟨hi10, hs1⟩ := oif hs1
          refine g_iast hx hb hW hS (o := 72) (ltN hN 72 rfl) gk72 w_A72 (vin hi10) dX12_comesTo_29 (fun a11 H locs ha11 ho11 hW hS => ?_)
          have ho11 := off1 ho11
          have w_A72 : a11 72 = (40, .inl (upd A72k2 (v3k2 - 1).toNatClampNeg (A72k2 v3k2.toNatClampNeg))) := ha11
          have hoffa := offm hoffa ho11 (by decide +kernel)
          refine lv_iinc (v := v3k2 + 1) (lv' := [(3, .int (v3k2 + 1)), (0, .ref (q 72)), (2, .int p2)]) hx hb dX12_comesTo_30 hl (k := 2) rfl rfl (by decide) rfl (fun ls hl => ?_)
          refine lv_goto (tgt := 16) hx hb dX12_comesTo_33 (by decide) ?_
          exact ih1 (v3k2 + 1) (upd A72k2 (v3k2 - 1).toNatClampNeg (A72k2 v3k2.toNatClampNeg)) a11 _ _ w_A72 hoffa ls (lv_sub hl [1, 2, 0] rfl) (hXr1 _ (Option.some.inj hs1).symm) hW hS
    exact hL1 F 1 A72 a0 _ _ h_A72 hoffa ls (lv_sub hl [1, 3, 0] rfl) hg2 hW hS
  · rw [if_neg c1] at hs0
    refine lv_aload_n hx hb dX12_comesTo_6 rfl (lv_at hl 0 rfl) ?_
    refine lv_iload_n hx hb dX12_comesTo_7 rfl (lv_at hl 1 rfl) ?_
    refine lv_iload_n hx hb dX12_comesTo_8 rfl (lv_at hl 2 rfl) ?_
    obtain ⟨hi12, hs0⟩ := oif hs0
    refine g_iast hx hb hW hS (o := 72) (ltN hN 72 rfl) gk72 h_A72 (vin hi12) dX12_comesTo_9 (fun a13 H locs ha13 ho13 hW hS => ?_)
    have ho13 := off1 ho13
    have w_A72 : a13 72 = (40, .inl (upd A72 p1.toNatClampNeg p2)) := ha13
    have hoffa := offm hoffa ho13 (by decide +kernel)
    refine lv_iload_n hx hb dX12_comesTo_10 rfl (lv_at hl 1 rfl) ?_
    refine lv_iconst (v := 1) hx hb dX12_comesTo_11 (by decide) ?_
    refine lv_iadd hx hb dX12_comesTo_12 ?_
    have hs0 := Option.some.inj hs0
    subst hs0
    exact W.zret hx hb hr rfl (fun t ht hw => ⟨⟨_, (m0, a13), rfl, ⟨rfl, rfl, w_A72, hoffa⟩, g_end hW ht hw⟩, hS.F ht⟩) hS.2.2 dX12_comesTo_13 hlocks
set_option maxHeartbeats 4000000 in
set_option maxRecDepth 100000 in
theorem kX12_comesTo_73 {l : Launch} {D : va_G} {cy : Nat → ClassId} {N : Nat} {q : Nat → Nat} {m0 : Nat → Value} {a0 : Nat → vp_A} {sz : Nat} (hN : 105 ≤ N) {A73 : Nat → Int32} (h_A73 : a0 73 = (40, .inl A73)) (F : Nat) (p1 : Int32) (p2 : Int32) {X0 : Int32 × (Nat → Int32)} (hs0 : fX12_comesTo F A73 p1 p2 = some X0) : gMi l yX12_comesTo cX12_comesTo 4 (some .int) ({ frames := 0, cells := 0, slots := 0, locals := 0 } : Room) D cy N q m0 a0 sz [.ref (q 73), .int p1, .int p2] (fun r m' a' => r = X0.1 ∧ m' = m0 ∧ a' 73 = (40, .inl X0.2) ∧ (∀ j, nel j [73] = false → a' j = a0 j)) := by
  refine g_ofi (by decide) (Nat.le_of_ble_eq_true rfl) ?_
  intro p e s M args below meth c hx hb hr hG hown hin hlocks hml hW hS ls hl
  unfold fX12_comesTo at hs0
  have hoffa : ∀ j, nel j [73] = false → a0 j = a0 j := off0
  refine lv_iload_n hx hb dX12_comesTo_0 rfl (lv_at hl 1 rfl) ?_
  refine lv_bipush (v := 40) hx hb dX12_comesTo_1 (by decide) ?_
  refine lv_icmp_ge (tgt := 14) hx hb dX12_comesTo_3 (by decide) (fun c1 => ?_) (fun c1 => ?_)
  · rw [if_pos c1] at hs0
    refine lv_iconst (v := 1) hx hb dX12_comesTo_14 (by decide) ?_
    refine lv_istore_n (lv' := [(3, .int 1), (0, .ref (q 73)), (1, .int p1), (2, .int p2)]) hx hb dX12_comesTo_15 rfl hl (by decide) rfl (fun ls hl => ?_)
    obtain ⟨r2, hg2, hs0⟩ := obind hs0
    have hE1_36 : ∀ (t2_36 : (Nat → Int32)) (hr2 : t2_36 = r2) (a : Nat → vp_A) (H : Heap) (locs : List Loc) (w_A73 : a 73 = (40, .inl t2_36)) (hoffa : ∀ j, nel j [73] = false → a j = a0 j) (ls : Array Slot) (hl : lv_has ls 4 [(0, .ref (q 73)), (2, .int p2)]) (hW : GW D cy (gA N q s.heap.size) N q m0 a s H) (hS : va_S (gA N q s.heap.size) s.heap H locs), W p l e ({ frames := 0, cells := 0, slots := 0, locals := 0 } : Room) s M args below meth c H locs 0 0 (MQ below (va_Qi (fun (r : Int32) (u : (Nat → Value) × (Nat → vp_A)) => r = X0.1 ∧ u.1 = m0 ∧ u.2 73 = (40, .inl X0.2) ∧ (∀ j, nel j [73] = false → u.2 j = a0 j)) (gB D cy N q s.heap.size) (gA N q s.heap.size)) args s 0 0 (gA N q s.heap.size)) (F0 M 36 ls []) := by
      intro t2_36 hr2 a H locs w_A73 hoffa ls hl hW hS
      subst hr2
      refine lv_aload_n hx hb dX12_comesTo_36 rfl (lv_at hl 0 rfl) ?_
      refine lv_bipush (v := 39) hx hb dX12_comesTo_37 (by decide) ?_
      refine lv_iload_n hx hb dX12_comesTo_39 rfl (lv_at hl 1 rfl) ?_
      refine g_iast hx hb hW hS (o := 73) (ltN hN 73 rfl) gk73 w_A73 (vin (by decide)) dX12_comesTo_40 (fun a7 H locs ha7 ho7 hW hS => ?_)
      have ho7 := off1 ho7
      have w_A73 : a7 73 = (40, .inl (upd t2_36 (39 : Int32).toNatClampNeg p2)) := ha7
      have hoffa := offm hoffa ho7 (by decide +kernel)
      refine lv_bipush (v := 40) hx hb dX12_comesTo_41 (by decide) ?_
      have hs0 := Option.some.inj hs0
      subst hs0
      exact W.zret hx hb hr rfl (fun t ht hw => ⟨⟨_, (m0, a7), rfl, ⟨rfl, rfl, w_A73, hoffa⟩, g_end hW ht hw⟩, hS.F ht⟩) hS.2.2 dX12_comesTo_43 hlocks
    have hL1 : ∀ (n : Nat) (v3k2 : Int32) (A73k2 : Nat → Int32) (a : Nat → vp_A) (H : Heap) (locs : List Loc) (w_A73 : a 73 = (40, .inl A73k2)) (hoffa : ∀ j, nel j [73] = false → a j = a0 j) (ls : Array Slot) (hl : lv_has ls 4 [(0, .ref (q 73)), (2, .int p2), (3, .int v3k2)]) (hg2 : gloop (fun u2 : (Int32 × (Nat → Int32)) => fX12_comesTo_S16 F p2 u2.1 u2.2) n (v3k2, A73k2) = some r2) (hW : GW D cy (gA N q s.heap.size) N q m0 a s H) (hS : va_S (gA N q s.heap.size) s.heap H locs), W p l e ({ frames := 0, cells := 0, slots := 0, locals := 0 } : Room) s M args below meth c H locs 0 0 (MQ below (va_Qi (fun (r : Int32) (u : (Nat → Value) × (Nat → vp_A)) => r = X0.1 ∧ u.1 = m0 ∧ u.2 73 = (40, .inl X0.2) ∧ (∀ j, nel j [73] = false → u.2 j = a0 j)) (gB D cy N q s.heap.size) (gA N q s.heap.size)) args s 0 0 (gA N q s.heap.size)) (F0 M 16 ls []) := by
      intro n
      induction n with
      | zero => intro v3k2 A73k2 a H locs w_A73 hoffa ls hl hg2 hW hS; exact (gl_zero hg2).elim
      | succ n ih1 =>
        intro v3k2 A73k2 a H locs w_A73 hoffa ls hl hg2 hW hS
        obtain ⟨X1, hs1, hXl1, hXr1⟩ := gl_succ hg2
        have hs1 : fX12_comesTo_S16 F p2 v3k2 A73k2 = some X1 := hs1
        unfold fX12_comesTo_S16 at hs1
        refine lv_iload_n hx hb dX12_comesTo_16 rfl (lv_at hl 2 rfl) ?_
        refine lv_bipush (v := 40) hx hb dX12_comesTo_17 (by decide) ?_
        refine lv_icmp_ge (tgt := 36) hx hb dX12_comesTo_19 (by decide) (fun c8 => ?_) (fun c8 => ?_)
        · rw [if_pos c8] at hs1
          exact hE1_36 A73k2 (hXl1 _ (Option.some.inj hs1).symm) a _ _ w_A73 hoffa ls (lv_sub hl [0, 1] rfl) hW hS
        · rw [if_neg c8] at hs1
          refine lv_aload_n hx hb dX12_comesTo_22 rfl (lv_at hl 0 rfl) ?_
          refine lv_iload_n hx hb dX12_comesTo_23 rfl (lv_at hl 2 rfl) ?_
          refine lv_iconst (v := 1) hx hb dX12_comesTo_24 (by decide) ?_
          refine lv_isub hx hb dX12_comesTo_25 ?_
          refine lv_aload_n hx hb dX12_comesTo_26 rfl (lv_at hl 0 rfl) ?_
          refine lv_iload_n hx hb dX12_comesTo_27 rfl (lv_at hl 2 rfl) ?_
          obtain ⟨hi9, hs1⟩ := oif hs1
          refine g_iald hx hb hW (o := 73) (ltN hN 73 rfl) gk73 w_A73 (vin hi9) dX12_comesTo_28 ?_
          obtain ⟨hi10, hs1⟩ := oif hs1
          refine g_iast hx hb hW hS (o := 73) (ltN hN 73 rfl) gk73 w_A73 (vin hi10) dX12_comesTo_29 (fun a11 H locs ha11 ho11 hW hS => ?_)
          have ho11 := off1 ho11
          have w_A73 : a11 73 = (40, .inl (upd A73k2 (v3k2 - 1).toNatClampNeg (A73k2 v3k2.toNatClampNeg))) := ha11
          have hoffa := offm hoffa ho11 (by decide +kernel)
          refine lv_iinc (v := v3k2 + 1) (lv' := [(3, .int (v3k2 + 1)), (0, .ref (q 73)), (2, .int p2)]) hx hb dX12_comesTo_30 hl (k := 2) rfl rfl (by decide) rfl (fun ls hl => ?_)
          refine lv_goto (tgt := 16) hx hb dX12_comesTo_33 (by decide) ?_
          exact ih1 (v3k2 + 1) (upd A73k2 (v3k2 - 1).toNatClampNeg (A73k2 v3k2.toNatClampNeg)) a11 _ _ w_A73 hoffa ls (lv_sub hl [1, 2, 0] rfl) (hXr1 _ (Option.some.inj hs1).symm) hW hS
    exact hL1 F 1 A73 a0 _ _ h_A73 hoffa ls (lv_sub hl [1, 3, 0] rfl) hg2 hW hS
  · rw [if_neg c1] at hs0
    refine lv_aload_n hx hb dX12_comesTo_6 rfl (lv_at hl 0 rfl) ?_
    refine lv_iload_n hx hb dX12_comesTo_7 rfl (lv_at hl 1 rfl) ?_
    refine lv_iload_n hx hb dX12_comesTo_8 rfl (lv_at hl 2 rfl) ?_
    obtain ⟨hi12, hs0⟩ := oif hs0
    refine g_iast hx hb hW hS (o := 73) (ltN hN 73 rfl) gk73 h_A73 (vin hi12) dX12_comesTo_9 (fun a13 H locs ha13 ho13 hW hS => ?_)
    have ho13 := off1 ho13
    have w_A73 : a13 73 = (40, .inl (upd A73 p1.toNatClampNeg p2)) := ha13
    have hoffa := offm hoffa ho13 (by decide +kernel)
    refine lv_iload_n hx hb dX12_comesTo_10 rfl (lv_at hl 1 rfl) ?_
    refine lv_iconst (v := 1) hx hb dX12_comesTo_11 (by decide) ?_
    refine lv_iadd hx hb dX12_comesTo_12 ?_
    have hs0 := Option.some.inj hs0
    subst hs0
    exact W.zret hx hb hr rfl (fun t ht hw => ⟨⟨_, (m0, a13), rfl, ⟨rfl, rfl, w_A73, hoffa⟩, g_end hW ht hw⟩, hS.F ht⟩) hS.2.2 dX12_comesTo_13 hlocks
-- HealLinkModel.acts (III)I
def fX12_acts_S205 (F : Nat) (x69_0 : Int32) (x69_1 : Int32) (x69_2 : Int32) (x69_3 : Int32) (x69_4 : Int64) (x69_6 : Int32) (x69_9 : Int32) (x69_11 : Int32) (x69_19 : Int64) (x69_20 : Int32) (x69_21 : Int32) (x69_22 : Int32) (A71 : Nat → Int32) (A72 : Nat → Int32) (A73 : Nat → Int32) (v6 : Int32) (A70 : Nat → Int32) : Option (((Nat → Int32)) ⊕ (Int32 × (Nat → Int32))) := (if x69_6 ≤ v6 then some (Sum.inl A70) else (if inb v6 30 = true then (if inb (v6 - 1) 30 = true then some (Sum.inr (v6 + 1, upd A70 (v6 - 1).toNatClampNeg (A70 v6.toNatClampNeg))) else none) else none))
def fX12_acts_J178 (F : Nat) (x69_0 : Int32) (x69_1 : Int32) (x69_2 : Int32) (x69_3 : Int32) (v5j28 : Int32) (x69_4j28 : Int64) (x69_6j28 : Int32) (x69_9j28 : Int32) (x69_11j28 : Int32) (x69_19j28 : Int64) (x69_20j28 : Int32) (x69_21j28 : Int32) (x69_22j28 : Int32) (A70j28 : Nat → Int32) (A71j28 : Nat → Int32) (A72j28 : Nat → Int32) (A73j28 : Nat → Int32) : Option (Int32 × Int64 × Int32 × Int32 × Int32 × Int64 × Int32 × Int32 × Int32 × (Nat → Int32) × (Nat → Int32) × (Nat → Int32) × (Nat → Int32)) := ((fX12_comesTo F A72j28 x69_9j28 v5j28).bind (fun r30 => (if x69_6j28 ≤ 0 then some (x69_20j28, x69_4j28, x69_6j28, r30.1, x69_11j28, x69_19j28, x69_20j28, x69_21j28, x69_22j28, A70j28, A71j28, r30.2, A73j28) else (gloop (fun u33 : (Int32 × (Nat → Int32)) => fX12_acts_S205 F x69_0 x69_1 x69_2 x69_3 x69_4j28 x69_6j28 r30.1 x69_11j28 x69_19j28 x69_20j28 x69_21j28 x69_22j28 A71j28 r30.2 A73j28 u33.1 u33.2) F (1, A70j28)).bind (fun t33_236 => some (x69_20j28, x69_4j28, x69_6j28 - 1, r30.1, x69_11j28, x69_19j28, x69_20j28, x69_21j28, x69_22j28, t33_236, A71j28, r30.2, A73j28)))))
def fX12_acts_J142 (F : Nat) (x69_0 : Int32) (x69_1 : Int32) (x69_2 : Int32) (x69_3 : Int32) (v5j16 : Int32) (x69_4j16 : Int64) (x69_6j16 : Int32) (x69_9j16 : Int32) (x69_11j16 : Int32) (x69_19j16 : Int64) (x69_20j16 : Int32) (x69_21j16 : Int32) (x69_22j16 : Int32) (A70j16 : Nat → Int32) (A71j16 : Nat → Int32) (A72j16 : Nat → Int32) (A73j16 : Nat → Int32) : Option (Int32 × Int64 × Int32 × Int32 × Int32 × Int64 × Int32 × Int32 × Int32 × (Nat → Int32) × (Nat → Int32) × (Nat → Int32) × (Nat → Int32)) := (if x69_20j16 < 4 then some (x69_20j16, x69_4j16, x69_6j16, x69_9j16, x69_11j16, x69_19j16, x69_20j16, x69_21j16, x69_22j16, A70j16, A71j16, A72j16, A73j16) else (if x69_20j16 = 5 then fX12_acts_J178 F x69_0 x69_1 x69_2 x69_3 v5j16 x69_4j16 x69_6j16 x69_9j16 x69_11j16 x69_19j16 x69_20j16 x69_21j16 x69_22j16 A70j16 (upd (upd A71j16 (5 : Int32).toNatClampNeg ((A71j16 (5 : Int32).toNatClampNeg) + 1)) (4 : Int32).toNatClampNeg (((upd A71j16 (5 : Int32).toNatClampNeg ((A71j16 (5 : Int32).toNatClampNeg) + 1)) (4 : Int32).toNatClampNeg) + 1)) A72j16 A73j16 else fX12_acts_J178 F x69_0 x69_1 x69_2 x69_3 v5j16 x69_4j16 x69_6j16 x69_9j16 x69_11j16 x69_19j16 x69_20j16 x69_21j16 x69_22j16 A70j16 (upd A71j16 (5 : Int32).toNatClampNeg ((A71j16 (5 : Int32).toNatClampNeg) + 1)) A72j16 A73j16))
def fX12_acts_J101 (F : Nat) (x69_0 : Int32) (x69_1 : Int32) (x69_2 : Int32) (x69_3 : Int32) (v3j9 : Int32) (v5j9 : Int32) (x69_4j9 : Int64) (x69_6j9 : Int32) (x69_9j9 : Int32) (x69_11j9 : Int32) (x69_19j9 : Int64) (x69_20j9 : Int32) (x69_21j9 : Int32) (x69_22j9 : Int32) (A70j9 : Nat → Int32) (A71j9 : Nat → Int32) (A72j9 : Nat → Int32) (A73j9 : Nat → Int32) : Option (Int32 × Int64 × Int32 × Int32 × Int32 × Int64 × Int32 × Int32 × Int32 × (Nat → Int32) × (Nat → Int32) × (Nat → Int32) × (Nat → Int32)) := (if (fX12_within x69_20j9 1 3) = 0 then fX12_acts_J142 F x69_0 x69_1 x69_2 x69_3 v5j9 x69_4j9 x69_6j9 x69_9j9 x69_11j9 x69_19j9 x69_20j9 x69_21j9 x69_22j9 A70j9 A71j9 A72j9 A73j9 else (if inb x69_20j9 8 = true then (if inb x69_20j9 8 = true then ((fX12_comesTo F A73j9 x69_11j9 v3j9).bind (fun r20 => fX12_acts_J142 F x69_0 x69_1 x69_2 x69_3 v5j9 x69_4j9 x69_6j9 x69_9j9 r20.1 x69_19j9 x69_20j9 x69_21j9 x69_22j9 A70j9 (upd A71j9 x69_20j9.toNatClampNeg ((A71j9 x69_20j9.toNatClampNeg) + 1)) A72j9 r20.2)) else none) else none))
def fX12_acts_J96 (F : Nat) (x69_0 : Int32) (x69_1 : Int32) (x69_2 : Int32) (x69_3 : Int32) (v3j13 : Int32) (v5j13 : Int32) (s0j13 : Int32) (x69_4j13 : Int64) (x69_6j13 : Int32) (x69_9j13 : Int32) (x69_11j13 : Int32) (x69_19j13 : Int64) (x69_20j13 : Int32) (x69_21j13 : Int32) (x69_22j13 : Int32) (A70j13 : Nat → Int32) (A71j13 : Nat → Int32) (A72j13 : Nat → Int32) (A73j13 : Nat → Int32) : Option (Int32 × Int64 × Int32 × Int32 × Int32 × Int64 × Int32 × Int32 × Int32 × (Nat → Int32) × (Nat → Int32) × (Nat → Int32) × (Nat → Int32)) := (if inb s0j13 8 = true then (if inb s0j13 8 = true then fX12_acts_J101 F x69_0 x69_1 x69_2 x69_3 v3j13 v5j13 x69_4j13 x69_6j13 x69_9j13 x69_11j13 x69_19j13 x69_20j13 x69_21j13 x69_22j13 A70j13 (upd A71j13 s0j13.toNatClampNeg ((A71j13 s0j13.toNatClampNeg) + 1)) A72j13 A73j13 else none) else none)
def fX12_acts_J89 (F : Nat) (x69_0 : Int32) (x69_1 : Int32) (x69_2 : Int32) (x69_3 : Int32) (v3j11 : Int32) (v5j11 : Int32) (x69_4j11 : Int64) (x69_6j11 : Int32) (x69_9j11 : Int32) (x69_11j11 : Int32) (x69_19j11 : Int64) (x69_20j11 : Int32) (x69_21j11 : Int32) (x69_22j11 : Int32) (A70j11 : Nat → Int32) (A71j11 : Nat → Int32) (A72j11 : Nat → Int32) (A73j11 : Nat → Int32) : Option (Int32 × Int64 × Int32 × Int32 × Int32 × Int64 × Int32 × Int32 × Int32 × (Nat → Int32) × (Nat → Int32) × (Nat → Int32) × (Nat → Int32)) := fX12_acts_J96 F x69_0 x69_1 x69_2 x69_3 v3j11 v5j11 6 x69_4j11 x69_6j11 x69_9j11 x69_11j11 x69_19j11 x69_20j11 x69_21j11 x69_22j11 A70j11 A71j11 A72j11 A73j11
def fX12_acts_J17 (F : Nat) (x69_0 : Int32) (x69_1 : Int32) (x69_2 : Int32) (x69_3 : Int32) (v1j2 : Int32) (v2j2 : Int32) (v3j2 : Int32) (s0j2 : Int32) (x69_4j2 : Int64) (x69_6j2 : Int32) (x69_9j2 : Int32) (x69_11j2 : Int32) (x69_19j2 : Int64) (x69_20j2 : Int32) (x69_21j2 : Int32) (x69_22j2 : Int32) (A70j2 : Nat → Int32) (A71j2 : Nat → Int32) (A72j2 : Nat → Int32) (A73j2 : Nat → Int32) : Option (Int32 × Int64 × Int32 × Int32 × Int32 × Int64 × Int32 × Int32 × Int32 × (Nat → Int32) × (Nat → Int32) × (Nat → Int32) × (Nat → Int32)) := ((fX12_does F x69_0 x69_1 x69_3 x69_2 x69_19j2 x69_20j2 x69_21j2 x69_4j2 v1j2 v2j2 v3j2 s0j2).bind (fun r5 => (if r5.2.2 = 0 then fX12_acts_J101 F x69_0 x69_1 x69_2 x69_3 v3j2 (fX12_get x69_4j2 2 1) r5.1 x69_6j2 x69_9j2 x69_11j2 r5.1 r5.2.1 r5.2.2 x69_2 A70j2 (upd A71j2 (0 : Int32).toNatClampNeg ((A71j2 (0 : Int32).toNatClampNeg) + 1)) A72j2 A73j2 else (if v1j2 = 0 then fX12_acts_J89 F x69_0 x69_1 x69_2 x69_3 v3j2 (fX12_get x69_4j2 2 1) r5.1 x69_6j2 x69_9j2 x69_11j2 r5.1 r5.2.1 r5.2.2 x69_2 A70j2 (upd A71j2 (0 : Int32).toNatClampNeg ((A71j2 (0 : Int32).toNatClampNeg) + 1)) A72j2 A73j2 else (if v1j2 = 3 then fX12_acts_J89 F x69_0 x69_1 x69_2 x69_3 v3j2 (fX12_get x69_4j2 2 1) r5.1 x69_6j2 x69_9j2 x69_11j2 r5.1 r5.2.1 r5.2.2 x69_2 A70j2 (upd A71j2 (0 : Int32).toNatClampNeg ((A71j2 (0 : Int32).toNatClampNeg) + 1)) A72j2 A73j2 else fX12_acts_J96 F x69_0 x69_1 x69_2 x69_3 v3j2 (fX12_get x69_4j2 2 1) 7 r5.1 x69_6j2 x69_9j2 x69_11j2 r5.1 r5.2.1 r5.2.2 x69_2 A70j2 (upd A71j2 (0 : Int32).toNatClampNeg ((A71j2 (0 : Int32).toNatClampNeg) + 1)) A72j2 A73j2)))))
def fX12_acts (F : Nat) (x69_0 : Int32) (x69_1 : Int32) (x69_2 : Int32) (x69_3 : Int32) (x69_4 : Int64) (x69_6 : Int32) (x69_9 : Int32) (x69_11 : Int32) (x69_19 : Int64) (x69_20 : Int32) (x69_21 : Int32) (x69_22 : Int32) (A70 : Nat → Int32) (A71 : Nat → Int32) (A72 : Nat → Int32) (A73 : Nat → Int32) (p1 : Int32) (p2 : Int32) (p3 : Int32) : Option (Int32 × Int64 × Int32 × Int32 × Int32 × Int64 × Int32 × Int32 × Int32 × (Nat → Int32) × (Nat → Int32) × (Nat → Int32) × (Nat → Int32)) := (if x69_6 ≤ 0 then fX12_acts_J17 F x69_0 x69_1 x69_2 x69_3 p1 p2 p3 0 x69_4 x69_6 x69_9 x69_11 x69_19 x69_20 x69_21 x69_22 A70 A71 A72 A73 else fX12_acts_J17 F x69_0 x69_1 x69_2 x69_3 p1 p2 p3 (A70 (0 : Int32).toNatClampNeg) x69_4 x69_6 x69_9 x69_11 x69_19 x69_20 x69_21 x69_22 A70 A71 A72 A73)
theorem dX12_acts_0 : decode cX12_acts 0 = .ok (.aload_n 0, 1) := by decide +kernel
theorem dX12_acts_1 : decode cX12_acts 1 = .ok (.getfield 146, 3) := by decide +kernel
theorem dX12_acts_4 : decode cX12_acts 4 = .ok (.ifCond .le 12, 3) := by decide +kernel
theorem dX12_acts_7 : decode cX12_acts 7 = .ok (.aload_n 0, 1) := by decide +kernel
theorem dX12_acts_8 : decode cX12_acts 8 = .ok (.getfield 22, 3) := by decide +kernel
theorem dX12_acts_11 : decode cX12_acts 11 = .ok (.iconst 0, 1) := by decide +kernel
theorem dX12_acts_12 : decode cX12_acts 12 = .ok (.iaload, 1) := by decide +kernel
theorem dX12_acts_13 : decode cX12_acts 13 = .ok (.goto 4, 3) := by decide +kernel
theorem dX12_acts_16 : decode cX12_acts 16 = .ok (.iconst 0, 1) := by decide +kernel
theorem dX12_acts_17 : decode cX12_acts 17 = .ok (.istore 4, 2) := by decide +kernel
theorem dX12_acts_19 : decode cX12_acts 19 = .ok (.aload_n 0, 1) := by decide +kernel
theorem dX12_acts_20 : decode cX12_acts 20 = .ok (.getfield 133, 3) := by decide +kernel
theorem dX12_acts_23 : decode cX12_acts 23 = .ok (.iconst 2, 1) := by decide +kernel
theorem dX12_acts_24 : decode cX12_acts 24 = .ok (.iconst 1, 1) := by decide +kernel
theorem dX12_acts_25 : decode cX12_acts 25 = .ok (.invokestatic 142, 3) := by decide +kernel
theorem dX12_acts_28 : decode cX12_acts 28 = .ok (.istore 5, 2) := by decide +kernel
theorem dX12_acts_30 : decode cX12_acts 30 = .ok (.aload_n 0, 1) := by decide +kernel
theorem dX12_acts_31 : decode cX12_acts 31 = .ok (.aload_n 0, 1) := by decide +kernel
theorem dX12_acts_32 : decode cX12_acts 32 = .ok (.getfield 16, 3) := by decide +kernel
theorem dX12_acts_35 : decode cX12_acts 35 = .ok (.putfield 213, 3) := by decide +kernel
theorem dX12_acts_38 : decode cX12_acts 38 = .ok (.aload_n 0, 1) := by decide +kernel
theorem dX12_acts_39 : decode cX12_acts 39 = .ok (.aload_n 0, 1) := by decide +kernel
theorem dX12_acts_40 : decode cX12_acts 40 = .ok (.getfield 133, 3) := by decide +kernel
theorem dX12_acts_43 : decode cX12_acts 43 = .ok (.iload_n 1, 1) := by decide +kernel
theorem dX12_acts_44 : decode cX12_acts 44 = .ok (.iload_n 2, 1) := by decide +kernel
theorem dX12_acts_45 : decode cX12_acts 45 = .ok (.iload_n 3, 1) := by decide +kernel
theorem dX12_acts_46 : decode cX12_acts 46 = .ok (.iload 4, 2) := by decide +kernel
theorem dX12_acts_48 : decode cX12_acts 48 = .ok (.invokevirtual 216, 3) := by decide +kernel
theorem dX12_acts_51 : decode cX12_acts 51 = .ok (.aload_n 0, 1) := by decide +kernel
theorem dX12_acts_52 : decode cX12_acts 52 = .ok (.aload_n 0, 1) := by decide +kernel
theorem dX12_acts_53 : decode cX12_acts 53 = .ok (.getfield 192, 3) := by decide +kernel
theorem dX12_acts_56 : decode cX12_acts 56 = .ok (.putfield 133, 3) := by decide +kernel
theorem dX12_acts_59 : decode cX12_acts 59 = .ok (.aload_n 0, 1) := by decide +kernel
theorem dX12_acts_60 : decode cX12_acts 60 = .ok (.getfield 26, 3) := by decide +kernel
theorem dX12_acts_63 : decode cX12_acts 63 = .ok (.iconst 0, 1) := by decide +kernel
theorem dX12_acts_64 : decode cX12_acts 64 = .ok (.dup2, 1) := by decide +kernel
theorem dX12_acts_65 : decode cX12_acts 65 = .ok (.iaload, 1) := by decide +kernel
theorem dX12_acts_66 : decode cX12_acts 66 = .ok (.iconst 1, 1) := by decide +kernel
theorem dX12_acts_67 : decode cX12_acts 67 = .ok (.iadd, 1) := by decide +kernel
theorem dX12_acts_68 : decode cX12_acts 68 = .ok (.iastore, 1) := by decide +kernel
theorem dX12_acts_69 : decode cX12_acts 69 = .ok (.aload_n 0, 1) := by decide +kernel
theorem dX12_acts_70 : decode cX12_acts 70 = .ok (.getfield 198, 3) := by decide +kernel
theorem dX12_acts_73 : decode cX12_acts 73 = .ok (.ifCond .eq 28, 3) := by decide +kernel
theorem dX12_acts_76 : decode cX12_acts 76 = .ok (.aload_n 0, 1) := by decide +kernel
theorem dX12_acts_77 : decode cX12_acts 77 = .ok (.getfield 26, 3) := by decide +kernel
theorem dX12_acts_80 : decode cX12_acts 80 = .ok (.iload_n 1, 1) := by decide +kernel
theorem dX12_acts_81 : decode cX12_acts 81 = .ok (.ifCond .eq 8, 3) := by decide +kernel
theorem dX12_acts_84 : decode cX12_acts 84 = .ok (.iload_n 1, 1) := by decide +kernel
theorem dX12_acts_85 : decode cX12_acts 85 = .ok (.iconst 3, 1) := by decide +kernel
theorem dX12_acts_86 : decode cX12_acts 86 = .ok (.if_icmp .ne 8, 3) := by decide +kernel
theorem dX12_acts_89 : decode cX12_acts 89 = .ok (.bipush 6, 2) := by decide +kernel
theorem dX12_acts_91 : decode cX12_acts 91 = .ok (.goto 5, 3) := by decide +kernel
theorem dX12_acts_94 : decode cX12_acts 94 = .ok (.bipush 7, 2) := by decide +kernel
theorem dX12_acts_96 : decode cX12_acts 96 = .ok (.dup2, 1) := by decide +kernel
theorem dX12_acts_97 : decode cX12_acts 97 = .ok (.iaload, 1) := by decide +kernel
theorem dX12_acts_98 : decode cX12_acts 98 = .ok (.iconst 1, 1) := by decide +kernel
theorem dX12_acts_99 : decode cX12_acts 99 = .ok (.iadd, 1) := by decide +kernel
theorem dX12_acts_100 : decode cX12_acts 100 = .ok (.iastore, 1) := by decide +kernel
theorem dX12_acts_101 : decode cX12_acts 101 = .ok (.aload_n 0, 1) := by decide +kernel
theorem dX12_acts_102 : decode cX12_acts 102 = .ok (.getfield 195, 3) := by decide +kernel
theorem dX12_acts_105 : decode cX12_acts 105 = .ok (.iconst 1, 1) := by decide +kernel
theorem dX12_acts_106 : decode cX12_acts 106 = .ok (.iconst 3, 1) := by decide +kernel
theorem dX12_acts_107 : decode cX12_acts 107 = .ok (.invokestatic 159, 3) := by decide +kernel
theorem dX12_acts_110 : decode cX12_acts 110 = .ok (.ifCond .eq 32, 3) := by decide +kernel
theorem dX12_acts_113 : decode cX12_acts 113 = .ok (.aload_n 0, 1) := by decide +kernel
theorem dX12_acts_114 : decode cX12_acts 114 = .ok (.getfield 26, 3) := by decide +kernel
theorem dX12_acts_117 : decode cX12_acts 117 = .ok (.aload_n 0, 1) := by decide +kernel
theorem dX12_acts_118 : decode cX12_acts 118 = .ok (.getfield 195, 3) := by decide +kernel
theorem dX12_acts_121 : decode cX12_acts 121 = .ok (.dup2, 1) := by decide +kernel
theorem dX12_acts_122 : decode cX12_acts 122 = .ok (.iaload, 1) := by decide +kernel
theorem dX12_acts_123 : decode cX12_acts 123 = .ok (.iconst 1, 1) := by decide +kernel
theorem dX12_acts_124 : decode cX12_acts 124 = .ok (.iadd, 1) := by decide +kernel
theorem dX12_acts_125 : decode cX12_acts 125 = .ok (.iastore, 1) := by decide +kernel
theorem dX12_acts_126 : decode cX12_acts 126 = .ok (.aload_n 0, 1) := by decide +kernel
theorem dX12_acts_127 : decode cX12_acts 127 = .ok (.aload_n 0, 1) := by decide +kernel
theorem dX12_acts_128 : decode cX12_acts 128 = .ok (.getfield 32, 3) := by decide +kernel
theorem dX12_acts_131 : decode cX12_acts 131 = .ok (.aload_n 0, 1) := by decide +kernel
theorem dX12_acts_132 : decode cX12_acts 132 = .ok (.getfield 152, 3) := by decide +kernel
theorem dX12_acts_135 : decode cX12_acts 135 = .ok (.iload_n 3, 1) := by decide +kernel
theorem dX12_acts_136 : decode cX12_acts 136 = .ok (.invokestatic 220, 3) := by decide +kernel
theorem dX12_acts_139 : decode cX12_acts 139 = .ok (.putfield 152, 3) := by decide +kernel
theorem dX12_acts_142 : decode cX12_acts 142 = .ok (.aload_n 0, 1) := by decide +kernel
theorem dX12_acts_143 : decode cX12_acts 143 = .ok (.getfield 195, 3) := by decide +kernel
theorem dX12_acts_146 : decode cX12_acts 146 = .ok (.iconst 4, 1) := by decide +kernel
theorem dX12_acts_147 : decode cX12_acts 147 = .ok (.if_icmp .lt 99, 3) := by decide +kernel
theorem dX12_acts_150 : decode cX12_acts 150 = .ok (.aload_n 0, 1) := by decide +kernel
theorem dX12_acts_151 : decode cX12_acts 151 = .ok (.getfield 26, 3) := by decide +kernel
theorem dX12_acts_154 : decode cX12_acts 154 = .ok (.iconst 5, 1) := by decide +kernel
theorem dX12_acts_155 : decode cX12_acts 155 = .ok (.dup2, 1) := by decide +kernel
theorem dX12_acts_156 : decode cX12_acts 156 = .ok (.iaload, 1) := by decide +kernel
theorem dX12_acts_157 : decode cX12_acts 157 = .ok (.iconst 1, 1) := by decide +kernel
theorem dX12_acts_158 : decode cX12_acts 158 = .ok (.iadd, 1) := by decide +kernel
theorem dX12_acts_159 : decode cX12_acts 159 = .ok (.iastore, 1) := by decide +kernel
theorem dX12_acts_160 : decode cX12_acts 160 = .ok (.aload_n 0, 1) := by decide +kernel
theorem dX12_acts_161 : decode cX12_acts 161 = .ok (.getfield 195, 3) := by decide +kernel
theorem dX12_acts_164 : decode cX12_acts 164 = .ok (.iconst 5, 1) := by decide +kernel
theorem dX12_acts_165 : decode cX12_acts 165 = .ok (.if_icmp .ne 13, 3) := by decide +kernel
theorem dX12_acts_168 : decode cX12_acts 168 = .ok (.aload_n 0, 1) := by decide +kernel
theorem dX12_acts_169 : decode cX12_acts 169 = .ok (.getfield 26, 3) := by decide +kernel
theorem dX12_acts_172 : decode cX12_acts 172 = .ok (.iconst 4, 1) := by decide +kernel
theorem dX12_acts_173 : decode cX12_acts 173 = .ok (.dup2, 1) := by decide +kernel
theorem dX12_acts_174 : decode cX12_acts 174 = .ok (.iaload, 1) := by decide +kernel
theorem dX12_acts_175 : decode cX12_acts 175 = .ok (.iconst 1, 1) := by decide +kernel
theorem dX12_acts_176 : decode cX12_acts 176 = .ok (.iadd, 1) := by decide +kernel
theorem dX12_acts_177 : decode cX12_acts 177 = .ok (.iastore, 1) := by decide +kernel
theorem dX12_acts_178 : decode cX12_acts 178 = .ok (.aload_n 0, 1) := by decide +kernel
theorem dX12_acts_179 : decode cX12_acts 179 = .ok (.aload_n 0, 1) := by decide +kernel
theorem dX12_acts_180 : decode cX12_acts 180 = .ok (.getfield 29, 3) := by decide +kernel
theorem dX12_acts_183 : decode cX12_acts 183 = .ok (.aload_n 0, 1) := by decide +kernel
theorem dX12_acts_184 : decode cX12_acts 184 = .ok (.getfield 149, 3) := by decide +kernel
theorem dX12_acts_187 : decode cX12_acts 187 = .ok (.iload 5, 2) := by decide +kernel
theorem dX12_acts_189 : decode cX12_acts 189 = .ok (.invokestatic 220, 3) := by decide +kernel
theorem dX12_acts_192 : decode cX12_acts 192 = .ok (.putfield 149, 3) := by decide +kernel
theorem dX12_acts_195 : decode cX12_acts 195 = .ok (.aload_n 0, 1) := by decide +kernel
theorem dX12_acts_196 : decode cX12_acts 196 = .ok (.getfield 146, 3) := by decide +kernel
theorem dX12_acts_199 : decode cX12_acts 199 = .ok (.ifCond .le 47, 3) := by decide +kernel
theorem dX12_acts_202 : decode cX12_acts 202 = .ok (.iconst 1, 1) := by decide +kernel
theorem dX12_acts_203 : decode cX12_acts 203 = .ok (.istore 6, 2) := by decide +kernel
theorem dX12_acts_205 : decode cX12_acts 205 = .ok (.iload 6, 2) := by decide +kernel
theorem dX12_acts_207 : decode cX12_acts 207 = .ok (.aload_n 0, 1) := by decide +kernel
theorem dX12_acts_208 : decode cX12_acts 208 = .ok (.getfield 146, 3) := by decide +kernel
theorem dX12_acts_211 : decode cX12_acts 211 = .ok (.if_icmp .ge 25, 3) := by decide +kernel
theorem dX12_acts_214 : decode cX12_acts 214 = .ok (.aload_n 0, 1) := by decide +kernel
theorem dX12_acts_215 : decode cX12_acts 215 = .ok (.getfield 22, 3) := by decide +kernel
theorem dX12_acts_218 : decode cX12_acts 218 = .ok (.iload 6, 2) := by decide +kernel
theorem dX12_acts_220 : decode cX12_acts 220 = .ok (.iconst 1, 1) := by decide +kernel
theorem dX12_acts_221 : decode cX12_acts 221 = .ok (.isub, 1) := by decide +kernel
theorem dX12_acts_222 : decode cX12_acts 222 = .ok (.aload_n 0, 1) := by decide +kernel
theorem dX12_acts_223 : decode cX12_acts 223 = .ok (.getfield 22, 3) := by decide +kernel
theorem dX12_acts_226 : decode cX12_acts 226 = .ok (.iload 6, 2) := by decide +kernel
theorem dX12_acts_228 : decode cX12_acts 228 = .ok (.iaload, 1) := by decide +kernel
theorem dX12_acts_229 : decode cX12_acts 229 = .ok (.iastore, 1) := by decide +kernel
theorem dX12_acts_230 : decode cX12_acts 230 = .ok (.iinc 6 1, 3) := by decide +kernel
theorem dX12_acts_233 : decode cX12_acts 233 = .ok (.goto (-28), 3) := by decide +kernel
theorem dX12_acts_236 : decode cX12_acts 236 = .ok (.aload_n 0, 1) := by decide +kernel
theorem dX12_acts_237 : decode cX12_acts 237 = .ok (.dup, 1) := by decide +kernel
theorem dX12_acts_238 : decode cX12_acts 238 = .ok (.getfield 146, 3) := by decide +kernel
theorem dX12_acts_241 : decode cX12_acts 241 = .ok (.iconst 1, 1) := by decide +kernel
theorem dX12_acts_242 : decode cX12_acts 242 = .ok (.isub, 1) := by decide +kernel
theorem dX12_acts_243 : decode cX12_acts 243 = .ok (.putfield 146, 3) := by decide +kernel
theorem dX12_acts_246 : decode cX12_acts 246 = .ok (.aload_n 0, 1) := by decide +kernel
theorem dX12_acts_247 : decode cX12_acts 247 = .ok (.getfield 195, 3) := by decide +kernel
theorem dX12_acts_250 : decode cX12_acts 250 = .ok (.ireturn, 1) := by decide +kernel
set_option maxHeartbeats 4000000 in
set_option maxRecDepth 100000 in
theorem kX12_acts {l : Launch} {D : va_G} {cy : Nat → ClassId} {N : Nat} {q : Nat → Nat} {m0 : Nat → Value} {a0 : Nat → vp_A} {sz : Nat} (hN : 105 ≤ N) (hsh : SH q m0) {x69_0 : Int32} (h_x69_0 : m0 6900 = .int x69_0) {x69_1 : Int32} (h_x69_1 : m0 6901 = .int x69_1) {x69_2 : Int32} (h_x69_2 : m0 6902 = .int x69_2) {x69_3 : Int32} (h_x69_3 : m0 6903 = .int x69_3) {x69_4 : Int64} (h_x69_4 : m0 6904 = .long x69_4) {x69_6 : Int32} (h_x69_6 : m0 6906 = .int x69_6) {x69_9 : Int32} (h_x69_9 : m0 6909 = .int x69_9) {x69_11 : Int32} (h_x69_11 : m0 6911 = .int x69_11) {x69_19 : Int64} (h_x69_19 : m0 6919 = .long x69_19) {x69_20 : Int32} (h_x69_20 : m0 6920 = .int x69_20) {x69_21 : Int32} (h_x69_21 : m0 6921 = .int x69_21) {x69_22 : Int32} (h_x69_22 : m0 6922 = .int x69_22) {A70 : Nat → Int32} (h_A70 : a0 70 = (30, .inl A70)) {A71 : Nat → Int32} (h_A71 : a0 71 = (8, .inl A71)) {A72 : Nat → Int32} (h_A72 : a0 72 = (40, .inl A72)) {A73 : Nat → Int32} (h_A73 : a0 73 = (40, .inl A73)) (F : Nat) (p1 : Int32) (p2 : Int32) (p3 : Int32) {X0 : Int32 × Int64 × Int32 × Int32 × Int32 × Int64 × Int32 × Int32 × Int32 × (Nat → Int32) × (Nat → Int32) × (Nat → Int32) × (Nat → Int32)} (hs0 : fX12_acts F x69_0 x69_1 x69_2 x69_3 x69_4 x69_6 x69_9 x69_11 x69_19 x69_20 x69_21 x69_22 A70 A71 A72 A73 p1 p2 p3 = some X0) : gMi l yX12_acts cX12_acts 7 (some .int) ({ frames := 3, cells := 0, slots := 0, locals := 74 } : Room) D cy N q m0 a0 sz [.ref (q 69), .int p1, .int p2, .int p3] (fun r m' a' => r = X0.1 ∧ m' 6904 = .long X0.2.1 ∧ m' 6906 = .int X0.2.2.1 ∧ m' 6909 = .int X0.2.2.2.1 ∧ m' 6911 = .int X0.2.2.2.2.1 ∧ m' 6919 = .long X0.2.2.2.2.2.1 ∧ m' 6920 = .int X0.2.2.2.2.2.2.1 ∧ m' 6921 = .int X0.2.2.2.2.2.2.2.1 ∧ m' 6922 = .int X0.2.2.2.2.2.2.2.2.1 ∧ (∀ j, nel j [6904, 6906, 6909, 6911, 6919, 6920, 6921, 6922] = false → m' j = m0 j) ∧ a' 70 = (30, .inl X0.2.2.2.2.2.2.2.2.2.1) ∧ a' 71 = (8, .inl X0.2.2.2.2.2.2.2.2.2.2.1) ∧ a' 72 = (40, .inl X0.2.2.2.2.2.2.2.2.2.2.2.1) ∧ a' 73 = (40, .inl X0.2.2.2.2.2.2.2.2.2.2.2.2) ∧ (∀ j, nel j [70, 71, 72, 73] = false → a' j = a0 j)) := by
  refine g_ofi (by decide) (Nat.le_of_ble_eq_true rfl) ?_
  intro p e s M args below meth c hx hb hr hG hown hin hlocks hml hW hS ls hl
  unfold fX12_acts at hs0
  have hoff : ∀ j, nel j [6904, 6906, 6909, 6911, 6919, 6920, 6921, 6922] = false → m0 j = m0 j := off0
  have hoffa : ∀ j, nel j [70, 71, 72, 73] = false → a0 j = a0 j := off0
  have hJ178_0 : ∀ (v5j28 : Int32) (x69_4j28 : Int64) (x69_6j28 : Int32) (x69_9j28 : Int32) (x69_11j28 : Int32) (x69_19j28 : Int64) (x69_20j28 : Int32) (x69_21j28 : Int32) (x69_22j28 : Int32) (A70j28 : Nat → Int32) (A71j28 : Nat → Int32) (A72j28 : Nat → Int32) (A73j28 : Nat → Int32) (m : Nat → Value) (a : Nat → vp_A) (H : Heap) (locs : List Loc) (w_x69_4 : m 6904 = .long x69_4j28) (w_x69_6 : m 6906 = .int x69_6j28) (w_x69_9 : m 6909 = .int x69_9j28) (w_x69_11 : m 6911 = .int x69_11j28) (w_x69_19 : m 6919 = .long x69_19j28) (w_x69_20 : m 6920 = .int x69_20j28) (w_x69_21 : m 6921 = .int x69_21j28) (w_x69_22 : m 6922 = .int x69_22j28) (hoff : ∀ j, nel j [6904, 6906, 6909, 6911, 6919, 6920, 6921, 6922] = false → m j = m0 j) (hsh : SH q m) (w_A70 : a 70 = (30, .inl A70j28)) (w_A71 : a 71 = (8, .inl A71j28)) (w_A72 : a 72 = (40, .inl A72j28)) (w_A73 : a 73 = (40, .inl A73j28)) (hoffa : ∀ j, nel j [70, 71, 72, 73] = false → a j = a0 j) (ls : Array Slot) (hl : lv_has ls 7 [(0, .ref (q 69)), (5, .int v5j28)]) (hs0 : fX12_acts_J178 F x69_0 x69_1 x69_2 x69_3 v5j28 x69_4j28 x69_6j28 x69_9j28 x69_11j28 x69_19j28 x69_20j28 x69_21j28 x69_22j28 A70j28 A71j28 A72j28 A73j28 = some X0) (hW : GW D cy (gA N q s.heap.size) N q m a s H) (hS : va_S (gA N q s.heap.size) s.heap H locs), W p l e ({ frames := 3, cells := 0, slots := 0, locals := 74 } : Room) s M args below meth c H locs 0 0 (MQ below (va_Qi (fun (r : Int32) (u : (Nat → Value) × (Nat → vp_A)) => r = X0.1 ∧ u.1 6904 = .long X0.2.1 ∧ u.1 6906 = .int X0.2.2.1 ∧ u.1 6909 = .int X0.2.2.2.1 ∧ u.1 6911 = .int X0.2.2.2.2.1 ∧ u.1 6919 = .long X0.2.2.2.2.2.1 ∧ u.1 6920 = .int X0.2.2.2.2.2.2.1 ∧ u.1 6921 = .int X0.2.2.2.2.2.2.2.1 ∧ u.1 6922 = .int X0.2.2.2.2.2.2.2.2.1 ∧ (∀ j, nel j [6904, 6906, 6909, 6911, 6919, 6920, 6921, 6922] = false → u.1 j = m0 j) ∧ u.2 70 = (30, .inl X0.2.2.2.2.2.2.2.2.2.1) ∧ u.2 71 = (8, .inl X0.2.2.2.2.2.2.2.2.2.2.1) ∧ u.2 72 = (40, .inl X0.2.2.2.2.2.2.2.2.2.2.2.1) ∧ u.2 73 = (40, .inl X0.2.2.2.2.2.2.2.2.2.2.2.2) ∧ (∀ j, nel j [70, 71, 72, 73] = false → u.2 j = a0 j)) (gB D cy N q s.heap.size) (gA N q s.heap.size)) args s 0 0 (gA N q s.heap.size)) (F0 M 178 ls []) := by
    intro v5j28 x69_4j28 x69_6j28 x69_9j28 x69_11j28 x69_19j28 x69_20j28 x69_21j28 x69_22j28 A70j28 A71j28 A72j28 A73j28 m a H locs w_x69_4 w_x69_6 w_x69_9 w_x69_11 w_x69_19 w_x69_20 w_x69_21 w_x69_22 hoff hsh w_A70 w_A71 w_A72 w_A73 hoffa ls hl hs0 hW hS
    unfold fX12_acts_J178 at hs0
    refine lv_aload_n hx hb dX12_acts_178 rfl (lv_at hl 0 rfl) ?_
    refine lv_aload_n hx hb dX12_acts_179 rfl (lv_at hl 0 rfl) ?_
    refine gf12_8 hx hb hG hown hW (o := 69) (ltN hN 69 rfl) gk69 (v := .ref (q 72)) (sh69_8 hsh) gx168 dX12_acts_180 ?_
    refine lv_aload_n hx hb dX12_acts_183 rfl (lv_at hl 0 rfl) ?_
    refine gf12_9 hx hb hG hown hW (o := 69) (ltN hN 69 rfl) gk69 (v := .int x69_9j28) w_x69_9 gx255 dX12_acts_184 ?_
    refine lv_iload hx hb dX12_acts_187 (lv_at hl 1 rfl) ?_
    obtain ⟨r30, hf30, hs0⟩ := obind hs0
    refine g_Si (n := 3) hx hb hml hown hG hW hS [.ref (q 72), .int x69_9j28, .int v5j28] (kX12_comesTo_72 hN w_A72 F x69_9j28 v5j28 hf30) rfl (gd_S gx524 gx525 gx5 gx526) rfl rfl (by decide) ⟨Nat.le_of_ble_eq_true rfl, Nat.le_of_ble_eq_true rfl⟩ rfl hl (Nat.le_of_ble_eq_true rfl) ⟨Nat.zero_le _, Nat.zero_le _⟩ dX12_acts_189 (fun x30 m30 a30 H locs hp30 hW hS => ?_)
    obtain ⟨hx30, hm30, hp30_A72, hoa30⟩ := hp30
    subst hx30
    rw [hm30] at hW
    have w_A70 : a30 70 = (30, .inl A70j28) := (hoa30 70 rfl).trans w_A70
    have w_A71 : a30 71 = (8, .inl A71j28) := (hoa30 71 rfl).trans w_A71
    have w_A72 : a30 72 = (40, .inl r30.2) := hp30_A72
    have w_A73 : a30 73 = (40, .inl A73j28) := (hoa30 73 rfl).trans w_A73
    have hoffa := offm hoffa hoa30 (by decide +kernel)
    refine gp12_9 hx hb hG hown hW hS (o := 69) (ltN hN 69 rfl) gk69 (v := r30.1) gx255 dX12_acts_192 (fun m31 H locs hm31 ho31 hW hS => ?_)
    have ho31 := off1 ho31
    have w_x69_4 : m31 6904 = .long x69_4j28 := (ho31 6904 rfl).trans w_x69_4
    have w_x69_6 : m31 6906 = .int x69_6j28 := (ho31 6906 rfl).trans w_x69_6
    have w_x69_9 : m31 6909 = .int r30.1 := hm31
    have w_x69_11 : m31 6911 = .int x69_11j28 := (ho31 6911 rfl).trans w_x69_11
    have w_x69_19 : m31 6919 = .long x69_19j28 := (ho31 6919 rfl).trans w_x69_19
    have w_x69_20 : m31 6920 = .int x69_20j28 := (ho31 6920 rfl).trans w_x69_20
    have w_x69_21 : m31 6921 = .int x69_21j28 := (ho31 6921 rfl).trans w_x69_21
    have w_x69_22 : m31 6922 = .int x69_22j28 := (ho31 6922 rfl).trans w_x69_22
    have hoff := offm hoff ho31 (by decide +kernel)
    have hsh := SH.off hsh ho31 (by decide +kernel)
    refine lv_aload_n hx hb dX12_acts_195 rfl (lv_at hl 0 rfl) ?_
    refine gf12_6 hx hb hG hown hW (o := 69) (ltN hN 69 rfl) gk69 (v := .int x69_6j28) w_x69_6 gx254 dX12_acts_196 ?_
    refine lv_if_le (tgt := 246) hx hb dX12_acts_199 (by decide) (fun c32 => ?_) (fun c32 => ?_)
    · rw [if_pos c32] at hs0
      refine lv_aload_n hx hb dX12_acts_246 rfl (lv_at hl 0 rfl) ?_
      refine gf12_20 hx hb hG hown hW (o := 69) (ltN hN 69 rfl) gk69 (v := .int x69_20j28) w_x69_20 gx508 dX12_acts_247 ?_
      have hs0 := Option.some.inj hs0
      subst hs0
      exact W.zret hx hb hr rfl (fun t ht hw => ⟨⟨_, (m31, a30), rfl, ⟨rfl, w_x69_4, w_x69_6, w_x69_9, w_x69_11, w_x69_19, w_x69_20, w_x69_21, w_x69_22, hoff, w_A70, w_A71, w_A72, w_A73, hoffa⟩, g_end hW ht hw⟩, hS.F ht⟩) hS.2.2 dX12_acts_250 hlocks
    · rw [if_neg c32] at hs0
      refine lv_iconst (v := 1) hx hb dX12_acts_202 (by decide) ?_
      refine lv_istore (lv' := [(6, .int 1), (0, .ref (q 69)), (5, .int v5j28)]) hx hb dX12_acts_203 hl (by decide) rfl (fun ls hl => ?_)
      obtain ⟨r33, hg33, hs0⟩ := obind hs0
      have hE1_236 : ∀ (t33_236 : (Nat → Int32)) (hr33 : t33_236 = r33) (m : Nat → Value) (a : Nat → vp_A) (H : Heap) (locs : List Loc) (w_x69_4 : m 6904 = .long x69_4j28) (w_x69_6 : m 6906 = .int x69_6j28) (w_x69_9 : m 6909 = .int r30.1) (w_x69_11 : m 6911 = .int x69_11j28) (w_x69_19 : m 6919 = .long x69_19j28) (w_x69_20 : m 6920 = .int x69_20j28) (w_x69_21 : m 6921 = .int x69_21j28) (w_x69_22 : m 6922 = .int x69_22j28) (hoff : ∀ j, nel j [6904, 6906, 6909, 6911, 6919, 6920, 6921, 6922] = false → m j = m0 j) (hsh : SH q m) (w_A70 : a 70 = (30, .inl t33_236)) (w_A71 : a 71 = (8, .inl A71j28)) (w_A72 : a 72 = (40, .inl r30.2)) (w_A73 : a 73 = (40, .inl A73j28)) (hoffa : ∀ j, nel j [70, 71, 72, 73] = false → a j = a0 j) (ls : Array Slot) (hl : lv_has ls 7 [(0, .ref (q 69))]) (hW : GW D cy (gA N q s.heap.size) N q m a s H) (hS : va_S (gA N q s.heap.size) s.heap H locs), W p l e ({ frames := 3, cells := 0, slots := 0, locals := 74 } : Room) s M args below meth c H locs 0 0 (MQ below (va_Qi (fun (r : Int32) (u : (Nat → Value) × (Nat → vp_A)) => r = X0.1 ∧ u.1 6904 = .long X0.2.1 ∧ u.1 6906 = .int X0.2.2.1 ∧ u.1 6909 = .int X0.2.2.2.1 ∧ u.1 6911 = .int X0.2.2.2.2.1 ∧ u.1 6919 = .long X0.2.2.2.2.2.1 ∧ u.1 6920 = .int X0.2.2.2.2.2.2.1 ∧ u.1 6921 = .int X0.2.2.2.2.2.2.2.1 ∧ u.1 6922 = .int X0.2.2.2.2.2.2.2.2.1 ∧ (∀ j, nel j [6904, 6906, 6909, 6911, 6919, 6920, 6921, 6922] = false → u.1 j = m0 j) ∧ u.2 70 = (30, .inl X0.2.2.2.2.2.2.2.2.2.1) ∧ u.2 71 = (8, .inl X0.2.2.2.2.2.2.2.2.2.2.1) ∧ u.2 72 = (40, .inl X0.2.2.2.2.2.2.2.2.2.2.2.1) ∧ u.2 73 = (40, .inl X0.2.2.2.2.2.2.2.2.2.2.2.2) ∧ (∀ j, nel j [70, 71, 72, 73] = false → u.2 j = a0 j)) (gB D cy N q s.heap.size) (gA N q s.heap.size)) args s 0 0 (gA N q s.heap.size)) (F0 M 236 ls []) := by
        intro t33_236 hr33 m a H locs w_x69_4 w_x69_6 w_x69_9 w_x69_11 w_x69_19 w_x69_20 w_x69_21 w_x69_22 hoff hsh w_A70 w_A71 w_A72 w_A73 hoffa ls hl hW hS
        subst hr33
        refine lv_aload_n hx hb dX12_acts_236 rfl (lv_at hl 0 rfl) ?_
        refine lv_dup hx hb dX12_acts_237 rfl ?_
        refine gf12_6 hx hb hG hown hW (o := 69) (ltN hN 69 rfl) gk69 (v := .int x69_6j28) w_x69_6 gx254 dX12_acts_238 ?_
        refine lv_iconst (v := 1) hx hb dX12_acts_241 (by decide) ?_
        refine lv_isub hx hb dX12_acts_242 ?_
        refine gp12_6 hx hb hG hown hW hS (o := 69) (ltN hN 69 rfl) gk69 (v := (x69_6j28 - 1)) gx254 dX12_acts_243 (fun m38 H locs hm38 ho38 hW hS => ?_)
        have ho38 := off1 ho38
        have w_x69_4 : m38 6904 = .long x69_4j28 := (ho38 6904 rfl).trans w_x69_4
        have w_x69_6 : m38 6906 = .int (x69_6j28 - 1) := hm38
        have w_x69_9 : m38 6909 = .int r30.1 := (ho38 6909 rfl).trans w_x69_9
        have w_x69_11 : m38 6911 = .int x69_11j28 := (ho38 6911 rfl).trans w_x69_11
        have w_x69_19 : m38 6919 = .long x69_19j28 := (ho38 6919 rfl).trans w_x69_19
        have w_x69_20 : m38 6920 = .int x69_20j28 := (ho38 6920 rfl).trans w_x69_20
        have w_x69_21 : m38 6921 = .int x69_21j28 := (ho38 6921 rfl).trans w_x69_21
        have w_x69_22 : m38 6922 = .int x69_22j28 := (ho38 6922 rfl).trans w_x69_22
        have hoff := offm hoff ho38 (by decide +kernel)
        have hsh := SH.off hsh ho38 (by decide +kernel)
        refine lv_aload_n hx hb dX12_acts_246 rfl (lv_at hl 0 rfl) ?_
        refine gf12_20 hx hb hG hown hW (o := 69) (ltN hN 69 rfl) gk69 (v := .int x69_20j28) w_x69_20 gx508 dX12_acts_247 ?_
        have hs0 := Option.some.inj hs0
        subst hs0
        exact W.zret hx hb hr rfl (fun t ht hw => ⟨⟨_, (m38, a), rfl, ⟨rfl, w_x69_4, w_x69_6, w_x69_9, w_x69_11, w_x69_19, w_x69_20, w_x69_21, w_x69_22, hoff, w_A70, w_A71, w_A72, w_A73, hoffa⟩, g_end hW ht hw⟩, hS.F ht⟩) hS.2.2 dX12_acts_250 hlocks
      have hL1 : ∀ (n : Nat) (v6k33 : Int32) (A70k33 : Nat → Int32) (m : Nat → Value) (a : Nat → vp_A) (H : Heap) (locs : List Loc) (w_x69_4 : m 6904 = .long x69_4j28) (w_x69_6 : m 6906 = .int x69_6j28) (w_x69_9 : m 6909 = .int r30.1) (w_x69_11 : m 6911 = .int x69_11j28) (w_x69_19 : m 6919 = .long x69_19j28) (w_x69_20 : m 6920 = .int x69_20j28) (w_x69_21 : m 6921 = .int x69_21j28) (w_x69_22 : m 6922 = .int x69_22j28) (hoff : ∀ j, nel j [6904, 6906, 6909, 6911, 6919, 6920, 6921, 6922] = false → m j = m0 j) (hsh : SH q m) (w_A70 : a 70 = (30, .inl A70k33)) (w_A71 : a 71 = (8, .inl A71j28)) (w_A72 : a 72 = (40, .inl r30.2)) (w_A73 : a 73 = (40, .inl A73j28)) (hoffa : ∀ j, nel j [70, 71, 72, 73] = false → a j = a0 j) (ls : Array Slot) (hl : lv_has ls 7 [(0, .ref (q 69)), (6, .int v6k33)]) (hg33 : gloop (fun u33 : (Int32 × (Nat → Int32)) => fX12_acts_S205 F x69_0 x69_1 x69_2 x69_3 x69_4j28 x69_6j28 r30.1 x69_11j28 x69_19j28 x69_20j28 x69_21j28 x69_22j28 A71j28 r30.2 A73j28 u33.1 u33.2) n (v6k33, A70k33) = some r33) (hW : GW D cy (gA N q s.heap.size) N q m a s H) (hS : va_S (gA N q s.heap.size) s.heap H locs), W p l e ({ frames := 3, cells := 0, slots := 0, locals := 74 } : Room) s M args below meth c H locs 0 0 (MQ below (va_Qi (fun (r : Int32) (u : (Nat → Value) × (Nat → vp_A)) => r = X0.1 ∧ u.1 6904 = .long X0.2.1 ∧ u.1 6906 = .int X0.2.2.1 ∧ u.1 6909 = .int X0.2.2.2.1 ∧ u.1 6911 = .int X0.2.2.2.2.1 ∧ u.1 6919 = .long X0.2.2.2.2.2.1 ∧ u.1 6920 = .int X0.2.2.2.2.2.2.1 ∧ u.1 6921 = .int X0.2.2.2.2.2.2.2.1 ∧ u.1 6922 = .int X0.2.2.2.2.2.2.2.2.1 ∧ (∀ j, nel j [6904, 6906, 6909, 6911, 6919, 6920, 6921, 6922] = false → u.1 j = m0 j) ∧ u.2 70 = (30, .inl X0.2.2.2.2.2.2.2.2.2.1) ∧ u.2 71 = (8, .inl X0.2.2.2.2.2.2.2.2.2.2.1) ∧ u.2 72 = (40, .inl X0.2.2.2.2.2.2.2.2.2.2.2.1) ∧ u.2 73 = (40, .inl X0.2.2.2.2.2.2.2.2.2.2.2.2) ∧ (∀ j, nel j [70, 71, 72, 73] = false → u.2 j = a0 j)) (gB D cy N q s.heap.size) (gA N q s.heap.size)) args s 0 0 (gA N q s.heap.size)) (F0 M 205 ls []) := by
        intro n
        induction n with
        | zero => intro v6k33 A70k33 m a H locs w_x69_4 w_x69_6 w_x69_9 w_x69_11 w_x69_19 w_x69_20 w_x69_21 w_x69_22 hoff hsh w_A70 w_A71 w_A72 w_A73 hoffa ls hl hg33 hW hS; exact (gl_zero hg33).elim
        | succ n ih1 =>
          intro v6k33 A70k33 m a H locs w_x69_4 w_x69_6 w_x69_9 w_x69_11 w_x69_19 w_x69_20 w_x69_21 w_x69_22 hoff hsh w_A70 w_A71 w_A72 w_A73 hoffa ls hl hg33 hW hS
          obtain ⟨X1, hs1, hXl1, hXr1⟩ := gl_succ hg33
          have hs1 : fX12_acts_S205 F x69_0 x69_1 x69_2 x69_3 x69_4j28 x69_6j28 r30.1 x69_11j28 x69_19j28 x69_20j28 x69_21j28 x69_22j28 A71j28 r30.2 A73j28 v6k33 A70k33 = some X1 := hs1
          unfold fX12_acts_S205 at hs1
          refine lv_iload hx hb dX12_acts_205 (lv_at hl 1 rfl) ?_
          refine lv_aload_n hx hb dX12_acts_207 rfl (lv_at hl 0 rfl) ?_
          refine gf12_6 hx hb hG hown hW (o := 69) (ltN hN 69 rfl) gk69 (v := .int x69_6j28) w_x69_6 gx254 dX12_acts_208 ?_
          refine lv_icmp_ge (tgt := 236) hx hb dX12_acts_211 (by decide) (fun c39 => ?_) (fun c39 => ?_)
          · rw [if_pos c39] at hs1
            exact hE1_236 A70k33 (hXl1 _ (Option.some.inj hs1).symm) m a _ _ w_x69_4 w_x69_6 w_x69_9 w_x69_11 w_x69_19 w_x69_20 w_x69_21 w_x69_22 hoff hsh w_A70 w_A71 w_A72 w_A73 hoffa ls (lv_sub hl [0] rfl) hW hS
          · rw [if_neg c39] at hs1
            refine lv_aload_n hx hb dX12_acts_214 rfl (lv_at hl 0 rfl) ?_
            refine gf12_5 hx hb hG hown hW (o := 69) (ltN hN 69 rfl) gk69 (v := .ref (q 70)) (sh69_5 hsh) gx166 dX12_acts_215 ?_
            refine lv_iload hx hb dX12_acts_218 (lv_at hl 1 rfl) ?_
            refine lv_iconst (v := 1) hx hb dX12_acts_220 (by decide) ?_
            refine lv_isub hx hb dX12_acts_221 ?_
            refine lv_aload_n hx hb dX12_acts_222 rfl (lv_at hl 0 rfl) ?_
            refine gf12_5 hx hb hG hown hW (o := 69) (ltN hN 69 rfl) gk69 (v := .ref (q 70)) (sh69_5 hsh) gx166 dX12_acts_223 ?_
            refine lv_iload hx hb dX12_acts_226 (lv_at hl 1 rfl) ?_
            obtain ⟨hi40, hs1⟩ := oif hs1
            refine g_iald hx hb hW (o := 70) (ltN hN 70 rfl) gk70 w_A70 (vin hi40) dX12_acts_228 ?_
            obtain ⟨hi41, hs1⟩ := oif hs1
            refine g_iast hx hb hW hS (o := 70) (ltN hN 70 rfl) gk70 w_A70 (vin hi41) dX12_acts_229 (fun a42 H locs ha42 ho42 hW hS => ?_)
            have ho42 := off1 ho42
            have w_A70 : a42 70 = (30, .inl (upd A70k33 (v6k33 - 1).toNatClampNeg (A70k33 v6k33.toNatClampNeg))) := ha42
            have w_A71 : a42 71 = (8, .inl A71j28) := (ho42 71 rfl).trans w_A71
            have w_A72 : a42 72 = (40, .inl r30.2) := (ho42 72 rfl).trans w_A72
            have w_A73 : a42 73 = (40, .inl A73j28) := (ho42 73 rfl).trans w_A73
            have hoffa := offm hoffa ho42 (by decide +kernel)
            refine lv_iinc (v := v6k33 + 1) (lv' := [(6, .int (v6k33 + 1)), (0, .ref (q 69))]) hx hb dX12_acts_230 hl (k := 1) rfl rfl (by decide) rfl (fun ls hl => ?_)
            refine lv_goto (tgt := 205) hx hb dX12_acts_233 (by decide) ?_
            exact ih1 (v6k33 + 1) (upd A70k33 (v6k33 - 1).toNatClampNeg (A70k33 v6k33.toNatClampNeg)) m a42 _ _ w_x69_4 w_x69_6 w_x69_9 w_x69_11 w_x69_19 w_x69_20 w_x69_21 w_x69_22 hoff hsh w_A70 w_A71 w_A72 w_A73 hoffa ls (lv_sub hl [1, 0] rfl) (hXr1 _ (Option.some.inj hs1).symm) hW hS
      exact hL1 F 1 A70j28 m31 a30 _ _ w_x69_4 w_x69_6 w_x69_9 w_x69_11 w_x69_19 w_x69_20 w_x69_21 w_x69_22 hoff hsh w_A70 w_A71 w_A72 w_A73 hoffa ls (lv_sub hl [1, 0] rfl) hg33 hW hS
  have hJ142_0 : ∀ (v5j16 : Int32) (x69_4j16 : Int64) (x69_6j16 : Int32) (x69_9j16 : Int32) (x69_11j16 : Int32) (x69_19j16 : Int64) (x69_20j16 : Int32) (x69_21j16 : Int32) (x69_22j16 : Int32) (A70j16 : Nat → Int32) (A71j16 : Nat → Int32) (A72j16 : Nat → Int32) (A73j16 : Nat → Int32) (m : Nat → Value) (a : Nat → vp_A) (H : Heap) (locs : List Loc) (w_x69_4 : m 6904 = .long x69_4j16) (w_x69_6 : m 6906 = .int x69_6j16) (w_x69_9 : m 6909 = .int x69_9j16) (w_x69_11 : m 6911 = .int x69_11j16) (w_x69_19 : m 6919 = .long x69_19j16) (w_x69_20 : m 6920 = .int x69_20j16) (w_x69_21 : m 6921 = .int x69_21j16) (w_x69_22 : m 6922 = .int x69_22j16) (hoff : ∀ j, nel j [6904, 6906, 6909, 6911, 6919, 6920, 6921, 6922] = false → m j = m0 j) (hsh : SH q m) (w_A70 : a 70 = (30, .inl A70j16)) (w_A71 : a 71 = (8, .inl A71j16)) (w_A72 : a 72 = (40, .inl A72j16)) (w_A73 : a 73 = (40, .inl A73j16)) (hoffa : ∀ j, nel j [70, 71, 72, 73] = false → a j = a0 j) (ls : Array Slot) (hl : lv_has ls 7 [(0, .ref (q 69)), (5, .int v5j16)]) (hs0 : fX12_acts_J142 F x69_0 x69_1 x69_2 x69_3 v5j16 x69_4j16 x69_6j16 x69_9j16 x69_11j16 x69_19j16 x69_20j16 x69_21j16 x69_22j16 A70j16 A71j16 A72j16 A73j16 = some X0) (hW : GW D cy (gA N q s.heap.size) N q m a s H) (hS : va_S (gA N q s.heap.size) s.heap H locs), W p l e ({ frames := 3, cells := 0, slots := 0, locals := 74 } : Room) s M args below meth c H locs 0 0 (MQ below (va_Qi (fun (r : Int32) (u : (Nat → Value) × (Nat → vp_A)) => r = X0.1 ∧ u.1 6904 = .long X0.2.1 ∧ u.1 6906 = .int X0.2.2.1 ∧ u.1 6909 = .int X0.2.2.2.1 ∧ u.1 6911 = .int X0.2.2.2.2.1 ∧ u.1 6919 = .long X0.2.2.2.2.2.1 ∧ u.1 6920 = .int X0.2.2.2.2.2.2.1 ∧ u.1 6921 = .int X0.2.2.2.2.2.2.2.1 ∧ u.1 6922 = .int X0.2.2.2.2.2.2.2.2.1 ∧ (∀ j, nel j [6904, 6906, 6909, 6911, 6919, 6920, 6921, 6922] = false → u.1 j = m0 j) ∧ u.2 70 = (30, .inl X0.2.2.2.2.2.2.2.2.2.1) ∧ u.2 71 = (8, .inl X0.2.2.2.2.2.2.2.2.2.2.1) ∧ u.2 72 = (40, .inl X0.2.2.2.2.2.2.2.2.2.2.2.1) ∧ u.2 73 = (40, .inl X0.2.2.2.2.2.2.2.2.2.2.2.2) ∧ (∀ j, nel j [70, 71, 72, 73] = false → u.2 j = a0 j)) (gB D cy N q s.heap.size) (gA N q s.heap.size)) args s 0 0 (gA N q s.heap.size)) (F0 M 142 ls []) := by
    intro v5j16 x69_4j16 x69_6j16 x69_9j16 x69_11j16 x69_19j16 x69_20j16 x69_21j16 x69_22j16 A70j16 A71j16 A72j16 A73j16 m a H locs w_x69_4 w_x69_6 w_x69_9 w_x69_11 w_x69_19 w_x69_20 w_x69_21 w_x69_22 hoff hsh w_A70 w_A71 w_A72 w_A73 hoffa ls hl hs0 hW hS
    unfold fX12_acts_J142 at hs0
    refine lv_aload_n hx hb dX12_acts_142 rfl (lv_at hl 0 rfl) ?_
    refine gf12_20 hx hb hG hown hW (o := 69) (ltN hN 69 rfl) gk69 (v := .int x69_20j16) w_x69_20 gx508 dX12_acts_143 ?_
    refine lv_iconst (v := 4) hx hb dX12_acts_146 (by decide) ?_
    refine lv_icmp_lt (tgt := 246) hx hb dX12_acts_147 (by decide) (fun c25 => ?_) (fun c25 => ?_)
    · rw [if_pos c25] at hs0
      refine lv_aload_n hx hb dX12_acts_246 rfl (lv_at hl 0 rfl) ?_
      refine gf12_20 hx hb hG hown hW (o := 69) (ltN hN 69 rfl) gk69 (v := .int x69_20j16) w_x69_20 gx508 dX12_acts_247 ?_
      have hs0 := Option.some.inj hs0
      subst hs0
      exact W.zret hx hb hr rfl (fun t ht hw => ⟨⟨_, (m, a), rfl, ⟨rfl, w_x69_4, w_x69_6, w_x69_9, w_x69_11, w_x69_19, w_x69_20, w_x69_21, w_x69_22, hoff, w_A70, w_A71, w_A72, w_A73, hoffa⟩, g_end hW ht hw⟩, hS.F ht⟩) hS.2.2 dX12_acts_250 hlocks
    · rw [if_neg c25] at hs0
      refine lv_aload_n hx hb dX12_acts_150 rfl (lv_at hl 0 rfl) ?_
      refine gf12_7 hx hb hG hown hW (o := 69) (ltN hN 69 rfl) gk69 (v := .ref (q 71)) (sh69_7 hsh) gx167 dX12_acts_151 ?_
      refine lv_iconst (v := 5) hx hb dX12_acts_154 (by decide) ?_
      refine lv_dup2_11 hx hb dX12_acts_155 rfl rfl ?_
      refine g_iald hx hb hW (o := 71) (ltN hN 71 rfl) gk71 w_A71 (vin (by decide)) dX12_acts_156 ?_
      refine lv_iconst (v := 1) hx hb dX12_acts_157 (by decide) ?_
      refine lv_iadd hx hb dX12_acts_158 ?_
      refine g_iast hx hb hW hS (o := 71) (ltN hN 71 rfl) gk71 w_A71 (vin (by decide)) dX12_acts_159 (fun a26 H locs ha26 ho26 hW hS => ?_)
      have ho26 := off1 ho26
      have w_A70 : a26 70 = (30, .inl A70j16) := (ho26 70 rfl).trans w_A70
      have w_A71 : a26 71 = (8, .inl (upd A71j16 (5 : Int32).toNatClampNeg ((A71j16 (5 : Int32).toNatClampNeg) + 1))) := ha26
      have w_A72 : a26 72 = (40, .inl A72j16) := (ho26 72 rfl).trans w_A72
      have w_A73 : a26 73 = (40, .inl A73j16) := (ho26 73 rfl).trans w_A73
      have hoffa := offm hoffa ho26 (by decide +kernel)
      refine lv_aload_n hx hb dX12_acts_160 rfl (lv_at hl 0 rfl) ?_
      refine gf12_20 hx hb hG hown hW (o := 69) (ltN hN 69 rfl) gk69 (v := .int x69_20j16) w_x69_20 gx508 dX12_acts_161 ?_
      refine lv_iconst (v := 5) hx hb dX12_acts_164 (by decide) ?_
      refine lv_icmp_ne (tgt := 178) hx hb dX12_acts_165 (by decide) (fun c27 => ?_) (fun c27 => ?_)
      · rw [if_neg c27] at hs0
        exact hJ178_0 v5j16 x69_4j16 x69_6j16 x69_9j16 x69_11j16 x69_19j16 x69_20j16 x69_21j16 x69_22j16 A70j16 (upd A71j16 (5 : Int32).toNatClampNeg ((A71j16 (5 : Int32).toNatClampNeg) + 1)) A72j16 A73j16 m a26 _ _ w_x69_4 w_x69_6 w_x69_9 w_x69_11 w_x69_19 w_x69_20 w_x69_21 w_x69_22 hoff hsh w_A70 w_A71 w_A72 w_A73 hoffa ls (lv_sub hl [0, 1] rfl) hs0 hW hS
      · rw [if_pos c27] at hs0
        refine lv_aload_n hx hb dX12_acts_168 rfl (lv_at hl 0 rfl) ?_
        refine gf12_7 hx hb hG hown hW (o := 69) (ltN hN 69 rfl) gk69 (v := .ref (q 71)) (sh69_7 hsh) gx167 dX12_acts_169 ?_
        refine lv_iconst (v := 4) hx hb dX12_acts_172 (by decide) ?_
        refine lv_dup2_11 hx hb dX12_acts_173 rfl rfl ?_
        refine g_iald hx hb hW (o := 71) (ltN hN 71 rfl) gk71 w_A71 (vin (by decide)) dX12_acts_174 ?_
        refine lv_iconst (v := 1) hx hb dX12_acts_175 (by decide) ?_
        refine lv_iadd hx hb dX12_acts_176 ?_
        refine g_iast hx hb hW hS (o := 71) (ltN hN 71 rfl) gk71 w_A71 (vin (by decide)) dX12_acts_177 (fun a29 H locs ha29 ho29 hW hS => ?_)
        have ho29 := off1 ho29
        have w_A70 : a29 70 = (30, .inl A70j16) := (ho29 70 rfl).trans w_A70
        have w_A71 : a29 71 = (8, .inl (upd (upd A71j16 (5 : Int32).toNatClampNeg ((A71j16 (5 : Int32).toNatClampNeg) + 1)) (4 : Int32).toNatClampNeg (((upd A71j16 (5 : Int32).toNatClampNeg ((A71j16 (5 : Int32).toNatClampNeg) + 1)) (4 : Int32).toNatClampNeg) + 1))) := ha29
        have w_A72 : a29 72 = (40, .inl A72j16) := (ho29 72 rfl).trans w_A72
        have w_A73 : a29 73 = (40, .inl A73j16) := (ho29 73 rfl).trans w_A73
        have hoffa := offm hoffa ho29 (by decide +kernel)
        exact hJ178_0 v5j16 x69_4j16 x69_6j16 x69_9j16 x69_11j16 x69_19j16 x69_20j16 x69_21j16 x69_22j16 A70j16 (upd (upd A71j16 (5 : Int32).toNatClampNeg ((A71j16 (5 : Int32).toNatClampNeg) + 1)) (4 : Int32).toNatClampNeg (((upd A71j16 (5 : Int32).toNatClampNeg ((A71j16 (5 : Int32).toNatClampNeg) + 1)) (4 : Int32).toNatClampNeg) + 1)) A72j16 A73j16 m a29 _ _ w_x69_4 w_x69_6 w_x69_9 w_x69_11 w_x69_19 w_x69_20 w_x69_21 w_x69_22 hoff hsh w_A70 w_A71 w_A72 w_A73 hoffa ls (lv_sub hl [0, 1] rfl) hs0 hW hS
  have hJ101_0 : ∀ (v3j9 : Int32) (v5j9 : Int32) (x69_4j9 : Int64) (x69_6j9 : Int32) (x69_9j9 : Int32) (x69_11j9 : Int32) (x69_19j9 : Int64) (x69_20j9 : Int32) (x69_21j9 : Int32) (x69_22j9 : Int32) (A70j9 : Nat → Int32) (A71j9 : Nat → Int32) (A72j9 : Nat → Int32) (A73j9 : Nat → Int32) (m : Nat → Value) (a : Nat → vp_A) (H : Heap) (locs : List Loc) (w_x69_4 : m 6904 = .long x69_4j9) (w_x69_6 : m 6906 = .int x69_6j9) (w_x69_9 : m 6909 = .int x69_9j9) (w_x69_11 : m 6911 = .int x69_11j9) (w_x69_19 : m 6919 = .long x69_19j9) (w_x69_20 : m 6920 = .int x69_20j9) (w_x69_21 : m 6921 = .int x69_21j9) (w_x69_22 : m 6922 = .int x69_22j9) (hoff : ∀ j, nel j [6904, 6906, 6909, 6911, 6919, 6920, 6921, 6922] = false → m j = m0 j) (hsh : SH q m) (w_A70 : a 70 = (30, .inl A70j9)) (w_A71 : a 71 = (8, .inl A71j9)) (w_A72 : a 72 = (40, .inl A72j9)) (w_A73 : a 73 = (40, .inl A73j9)) (hoffa : ∀ j, nel j [70, 71, 72, 73] = false → a j = a0 j) (ls : Array Slot) (hl : lv_has ls 7 [(0, .ref (q 69)), (3, .int v3j9), (5, .int v5j9)]) (hs0 : fX12_acts_J101 F x69_0 x69_1 x69_2 x69_3 v3j9 v5j9 x69_4j9 x69_6j9 x69_9j9 x69_11j9 x69_19j9 x69_20j9 x69_21j9 x69_22j9 A70j9 A71j9 A72j9 A73j9 = some X0) (hW : GW D cy (gA N q s.heap.size) N q m a s H) (hS : va_S (gA N q s.heap.size) s.heap H locs), W p l e ({ frames := 3, cells := 0, slots := 0, locals := 74 } : Room) s M args below meth c H locs 0 0 (MQ below (va_Qi (fun (r : Int32) (u : (Nat → Value) × (Nat → vp_A)) => r = X0.1 ∧ u.1 6904 = .long X0.2.1 ∧ u.1 6906 = .int X0.2.2.1 ∧ u.1 6909 = .int X0.2.2.2.1 ∧ u.1 6911 = .int X0.2.2.2.2.1 ∧ u.1 6919 = .long X0.2.2.2.2.2.1 ∧ u.1 6920 = .int X0.2.2.2.2.2.2.1 ∧ u.1 6921 = .int X0.2.2.2.2.2.2.2.1 ∧ u.1 6922 = .int X0.2.2.2.2.2.2.2.2.1 ∧ (∀ j, nel j [6904, 6906, 6909, 6911, 6919, 6920, 6921, 6922] = false → u.1 j = m0 j) ∧ u.2 70 = (30, .inl X0.2.2.2.2.2.2.2.2.2.1) ∧ u.2 71 = (8, .inl X0.2.2.2.2.2.2.2.2.2.2.1) ∧ u.2 72 = (40, .inl X0.2.2.2.2.2.2.2.2.2.2.2.1) ∧ u.2 73 = (40, .inl X0.2.2.2.2.2.2.2.2.2.2.2.2) ∧ (∀ j, nel j [70, 71, 72, 73] = false → u.2 j = a0 j)) (gB D cy N q s.heap.size) (gA N q s.heap.size)) args s 0 0 (gA N q s.heap.size)) (F0 M 101 ls []) := by
    intro v3j9 v5j9 x69_4j9 x69_6j9 x69_9j9 x69_11j9 x69_19j9 x69_20j9 x69_21j9 x69_22j9 A70j9 A71j9 A72j9 A73j9 m a H locs w_x69_4 w_x69_6 w_x69_9 w_x69_11 w_x69_19 w_x69_20 w_x69_21 w_x69_22 hoff hsh w_A70 w_A71 w_A72 w_A73 hoffa ls hl hs0 hW hS
    unfold fX12_acts_J101 at hs0
    refine lv_aload_n hx hb dX12_acts_101 rfl (lv_at hl 0 rfl) ?_
    refine gf12_20 hx hb hG hown hW (o := 69) (ltN hN 69 rfl) gk69 (v := .int x69_20j9) w_x69_20 gx508 dX12_acts_102 ?_
    refine lv_iconst (v := 1) hx hb dX12_acts_105 (by decide) ?_
    refine lv_iconst (v := 3) hx hb dX12_acts_106 (by decide) ?_
    refine g_SiR (n := 3) hx hb hml hown hG hW hS [.int x69_20j9, .int 1, .int 3] (kX12_within hN x69_20j9 1 3) rfl (gd_S gx247 gx248 gx5 gx249) rfl rfl (by decide) ⟨Nat.le_of_ble_eq_true rfl, Nat.le_of_ble_eq_true rfl⟩ rfl hl (Nat.le_of_ble_eq_true rfl) ⟨Nat.zero_le _, Nat.zero_le _⟩ dX12_acts_107 (fun H locs hW hS => ?_)
    refine lv_if_eq (tgt := 142) hx hb dX12_acts_110 (by decide) (fun c15 => ?_) (fun c15 => ?_)
    · rw [if_pos c15] at hs0
      exact hJ142_0 v5j9 x69_4j9 x69_6j9 x69_9j9 x69_11j9 x69_19j9 x69_20j9 x69_21j9 x69_22j9 A70j9 A71j9 A72j9 A73j9 m a _ _ w_x69_4 w_x69_6 w_x69_9 w_x69_11 w_x69_19 w_x69_20 w_x69_21 w_x69_22 hoff hsh w_A70 w_A71 w_A72 w_A73 hoffa ls (lv_sub hl [0, 2] rfl) hs0 hW hS
    · rw [if_neg c15] at hs0
      refine lv_aload_n hx hb dX12_acts_113 rfl (lv_at hl 0 rfl) ?_
      refine gf12_7 hx hb hG hown hW (o := 69) (ltN hN 69 rfl) gk69 (v := .ref (q 71)) (sh69_7 hsh) gx167 dX12_acts_114 ?_
      refine lv_aload_n hx hb dX12_acts_117 rfl (lv_at hl 0 rfl) ?_
      refine gf12_20 hx hb hG hown hW (o := 69) (ltN hN 69 rfl) gk69 (v := .int x69_20j9) w_x69_20 gx508 dX12_acts_118 ?_
      refine lv_dup2_11 hx hb dX12_acts_121 rfl rfl ?_
      obtain ⟨hi17, hs0⟩ := oif hs0
      refine g_iald hx hb hW (o := 71) (ltN hN 71 rfl) gk71 w_A71 (vin hi17) dX12_acts_122 ?_
      refine lv_iconst (v := 1) hx hb dX12_acts_123 (by decide) ?_
      refine lv_iadd hx hb dX12_acts_124 ?_
      obtain ⟨hi18, hs0⟩ := oif hs0
      refine g_iast hx hb hW hS (o := 71) (ltN hN 71 rfl) gk71 w_A71 (vin hi18) dX12_acts_125 (fun a19 H locs ha19 ho19 hW hS => ?_)
      have ho19 := off1 ho19
      have w_A70 : a19 70 = (30, .inl A70j9) := (ho19 70 rfl).trans w_A70
      have w_A71 : a19 71 = (8, .inl (upd A71j9 x69_20j9.toNatClampNeg ((A71j9 x69_20j9.toNatClampNeg) + 1))) := ha19
      have w_A72 : a19 72 = (40, .inl A72j9) := (ho19 72 rfl).trans w_A72
      have w_A73 : a19 73 = (40, .inl A73j9) := (ho19 73 rfl).trans w_A73
      have hoffa := offm hoffa ho19 (by decide +kernel)
      refine lv_aload_n hx hb dX12_acts_126 rfl (lv_at hl 0 rfl) ?_
      refine lv_aload_n hx hb dX12_acts_127 rfl (lv_at hl 0 rfl) ?_
      refine gf12_10 hx hb hG hown hW (o := 69) (ltN hN 69 rfl) gk69 (v := .ref (q 73)) (sh69_10 hsh) gx169 dX12_acts_128 ?_
      refine lv_aload_n hx hb dX12_acts_131 rfl (lv_at hl 0 rfl) ?_
      refine gf12_11 hx hb hG hown hW (o := 69) (ltN hN 69 rfl) gk69 (v := .int x69_11j9) w_x69_11 gx256 dX12_acts_132 ?_
      refine lv_iload_n hx hb dX12_acts_135 rfl (lv_at hl 1 rfl) ?_
      obtain ⟨r20, hf20, hs0⟩ := obind hs0
      refine g_Si (n := 3) hx hb hml hown hG hW hS [.ref (q 73), .int x69_11j9, .int v3j9] (kX12_comesTo_73 hN w_A73 F x69_11j9 v3j9 hf20) rfl (gd_S gx524 gx525 gx5 gx526) rfl rfl (by decide) ⟨Nat.le_of_ble_eq_true rfl, Nat.le_of_ble_eq_true rfl⟩ rfl hl (Nat.le_of_ble_eq_true rfl) ⟨Nat.zero_le _, Nat.zero_le _⟩ dX12_acts_136 (fun x20 m20 a20 H locs hp20 hW hS => ?_)
      obtain ⟨hx20, hm20, hp20_A73, hoa20⟩ := hp20
      subst hx20
      rw [hm20] at hW
      have w_A70 : a20 70 = (30, .inl A70j9) := (hoa20 70 rfl).trans w_A70
      have w_A71 : a20 71 = (8, .inl (upd A71j9 x69_20j9.toNatClampNeg ((A71j9 x69_20j9.toNatClampNeg) + 1))) := (hoa20 71 rfl).trans w_A71
      have w_A72 : a20 72 = (40, .inl A72j9) := (hoa20 72 rfl).trans w_A72
      have w_A73 : a20 73 = (40, .inl r20.2) := hp20_A73
      have hoffa := offm hoffa hoa20 (by decide +kernel)
      refine gp12_11 hx hb hG hown hW hS (o := 69) (ltN hN 69 rfl) gk69 (v := r20.1) gx256 dX12_acts_139 (fun m21 H locs hm21 ho21 hW hS => ?_)
      have ho21 := off1 ho21
      have w_x69_4 : m21 6904 = .long x69_4j9 := (ho21 6904 rfl).trans w_x69_4
      have w_x69_6 : m21 6906 = .int x69_6j9 := (ho21 6906 rfl).trans w_x69_6
      have w_x69_9 : m21 6909 = .int x69_9j9 := (ho21 6909 rfl).trans w_x69_9
      have w_x69_11 : m21 6911 = .int r20.1 := hm21
      have w_x69_19 : m21 6919 = .long x69_19j9 := (ho21 6919 rfl).trans w_x69_19
      have w_x69_20 : m21 6920 = .int x69_20j9 := (ho21 6920 rfl).trans w_x69_20
      have w_x69_21 : m21 6921 = .int x69_21j9 := (ho21 6921 rfl).trans w_x69_21
      have w_x69_22 : m21 6922 = .int x69_22j9 := (ho21 6922 rfl).trans w_x69_22
      have hoff := offm hoff ho21 (by decide +kernel)
      have hsh := SH.off hsh ho21 (by decide +kernel)
      exact hJ142_0 v5j9 x69_4j9 x69_6j9 x69_9j9 r20.1 x69_19j9 x69_20j9 x69_21j9 x69_22j9 A70j9 (upd A71j9 x69_20j9.toNatClampNeg ((A71j9 x69_20j9.toNatClampNeg) + 1)) A72j9 r20.2 m21 a20 _ _ w_x69_4 w_x69_6 w_x69_9 w_x69_11 w_x69_19 w_x69_20 w_x69_21 w_x69_22 hoff hsh w_A70 w_A71 w_A72 w_A73 hoffa ls (lv_sub hl [0, 2] rfl) hs0 hW hS
  have hJ96_0 : ∀ (v3j13 : Int32) (v5j13 : Int32) (s0j13 : Int32) (x69_4j13 : Int64) (x69_6j13 : Int32) (x69_9j13 : Int32) (x69_11j13 : Int32) (x69_19j13 : Int64) (x69_20j13 : Int32) (x69_21j13 : Int32) (x69_22j13 : Int32) (A70j13 : Nat → Int32) (A71j13 : Nat → Int32) (A72j13 : Nat → Int32) (A73j13 : Nat → Int32) (m : Nat → Value) (a : Nat → vp_A) (H : Heap) (locs : List Loc) (w_x69_4 : m 6904 = .long x69_4j13) (w_x69_6 : m 6906 = .int x69_6j13) (w_x69_9 : m 6909 = .int x69_9j13) (w_x69_11 : m 6911 = .int x69_11j13) (w_x69_19 : m 6919 = .long x69_19j13) (w_x69_20 : m 6920 = .int x69_20j13) (w_x69_21 : m 6921 = .int x69_21j13) (w_x69_22 : m 6922 = .int x69_22j13) (hoff : ∀ j, nel j [6904, 6906, 6909, 6911, 6919, 6920, 6921, 6922] = false → m j = m0 j) (hsh : SH q m) (w_A70 : a 70 = (30, .inl A70j13)) (w_A71 : a 71 = (8, .inl A71j13)) (w_A72 : a 72 = (40, .inl A72j13)) (w_A73 : a 73 = (40, .inl A73j13)) (hoffa : ∀ j, nel j [70, 71, 72, 73] = false → a j = a0 j) (ls : Array Slot) (hl : lv_has ls 7 [(0, .ref (q 69)), (3, .int v3j13), (5, .int v5j13)]) (hs0 : fX12_acts_J96 F x69_0 x69_1 x69_2 x69_3 v3j13 v5j13 s0j13 x69_4j13 x69_6j13 x69_9j13 x69_11j13 x69_19j13 x69_20j13 x69_21j13 x69_22j13 A70j13 A71j13 A72j13 A73j13 = some X0) (hW : GW D cy (gA N q s.heap.size) N q m a s H) (hS : va_S (gA N q s.heap.size) s.heap H locs), W p l e ({ frames := 3, cells := 0, slots := 0, locals := 74 } : Room) s M args below meth c H locs 0 0 (MQ below (va_Qi (fun (r : Int32) (u : (Nat → Value) × (Nat → vp_A)) => r = X0.1 ∧ u.1 6904 = .long X0.2.1 ∧ u.1 6906 = .int X0.2.2.1 ∧ u.1 6909 = .int X0.2.2.2.1 ∧ u.1 6911 = .int X0.2.2.2.2.1 ∧ u.1 6919 = .long X0.2.2.2.2.2.1 ∧ u.1 6920 = .int X0.2.2.2.2.2.2.1 ∧ u.1 6921 = .int X0.2.2.2.2.2.2.2.1 ∧ u.1 6922 = .int X0.2.2.2.2.2.2.2.2.1 ∧ (∀ j, nel j [6904, 6906, 6909, 6911, 6919, 6920, 6921, 6922] = false → u.1 j = m0 j) ∧ u.2 70 = (30, .inl X0.2.2.2.2.2.2.2.2.2.1) ∧ u.2 71 = (8, .inl X0.2.2.2.2.2.2.2.2.2.2.1) ∧ u.2 72 = (40, .inl X0.2.2.2.2.2.2.2.2.2.2.2.1) ∧ u.2 73 = (40, .inl X0.2.2.2.2.2.2.2.2.2.2.2.2) ∧ (∀ j, nel j [70, 71, 72, 73] = false → u.2 j = a0 j)) (gB D cy N q s.heap.size) (gA N q s.heap.size)) args s 0 0 (gA N q s.heap.size)) (F0 M 96 ls [.int s0j13, .ref (q 71)]) := by
    intro v3j13 v5j13 s0j13 x69_4j13 x69_6j13 x69_9j13 x69_11j13 x69_19j13 x69_20j13 x69_21j13 x69_22j13 A70j13 A71j13 A72j13 A73j13 m a H locs w_x69_4 w_x69_6 w_x69_9 w_x69_11 w_x69_19 w_x69_20 w_x69_21 w_x69_22 hoff hsh w_A70 w_A71 w_A72 w_A73 hoffa ls hl hs0 hW hS
    unfold fX12_acts_J96 at hs0
    refine lv_dup2_11 hx hb dX12_acts_96 rfl rfl ?_
    obtain ⟨hi22, hs0⟩ := oif hs0
    refine g_iald hx hb hW (o := 71) (ltN hN 71 rfl) gk71 w_A71 (vin hi22) dX12_acts_97 ?_
    refine lv_iconst (v := 1) hx hb dX12_acts_98 (by decide) ?_
    refine lv_iadd hx hb dX12_acts_99 ?_
    obtain ⟨hi23, hs0⟩ := oif hs0
    refine g_iast hx hb hW hS (o := 71) (ltN hN 71 rfl) gk71 w_A71 (vin hi23) dX12_acts_100 (fun a24 H locs ha24 ho24 hW hS => ?_)
    have ho24 := off1 ho24
    have w_A70 : a24 70 = (30, .inl A70j13) := (ho24 70 rfl).trans w_A70
    have w_A71 : a24 71 = (8, .inl (upd A71j13 s0j13.toNatClampNeg ((A71j13 s0j13.toNatClampNeg) + 1))) := ha24
    have w_A72 : a24 72 = (40, .inl A72j13) := (ho24 72 rfl).trans w_A72
    have w_A73 : a24 73 = (40, .inl A73j13) := (ho24 73 rfl).trans w_A73
    have hoffa := offm hoffa ho24 (by decide +kernel)
    exact hJ101_0 v3j13 v5j13 x69_4j13 x69_6j13 x69_9j13 x69_11j13 x69_19j13 x69_20j13 x69_21j13 x69_22j13 A70j13 (upd A71j13 s0j13.toNatClampNeg ((A71j13 s0j13.toNatClampNeg) + 1)) A72j13 A73j13 m a24 _ _ w_x69_4 w_x69_6 w_x69_9 w_x69_11 w_x69_19 w_x69_20 w_x69_21 w_x69_22 hoff hsh w_A70 w_A71 w_A72 w_A73 hoffa ls (lv_sub hl [0, 1, 2] rfl) hs0 hW hS
  have hJ89_0 : ∀ (v3j11 : Int32) (v5j11 : Int32) (x69_4j11 : Int64) (x69_6j11 : Int32) (x69_9j11 : Int32) (x69_11j11 : Int32) (x69_19j11 : Int64) (x69_20j11 : Int32) (x69_21j11 : Int32) (x69_22j11 : Int32) (A70j11 : Nat → Int32) (A71j11 : Nat → Int32) (A72j11 : Nat → Int32) (A73j11 : Nat → Int32) (m : Nat → Value) (a : Nat → vp_A) (H : Heap) (locs : List Loc) (w_x69_4 : m 6904 = .long x69_4j11) (w_x69_6 : m 6906 = .int x69_6j11) (w_x69_9 : m 6909 = .int x69_9j11) (w_x69_11 : m 6911 = .int x69_11j11) (w_x69_19 : m 6919 = .long x69_19j11) (w_x69_20 : m 6920 = .int x69_20j11) (w_x69_21 : m 6921 = .int x69_21j11) (w_x69_22 : m 6922 = .int x69_22j11) (hoff : ∀ j, nel j [6904, 6906, 6909, 6911, 6919, 6920, 6921, 6922] = false → m j = m0 j) (hsh : SH q m) (w_A70 : a 70 = (30, .inl A70j11)) (w_A71 : a 71 = (8, .inl A71j11)) (w_A72 : a 72 = (40, .inl A72j11)) (w_A73 : a 73 = (40, .inl A73j11)) (hoffa : ∀ j, nel j [70, 71, 72, 73] = false → a j = a0 j) (ls : Array Slot) (hl : lv_has ls 7 [(0, .ref (q 69)), (3, .int v3j11), (5, .int v5j11)]) (hs0 : fX12_acts_J89 F x69_0 x69_1 x69_2 x69_3 v3j11 v5j11 x69_4j11 x69_6j11 x69_9j11 x69_11j11 x69_19j11 x69_20j11 x69_21j11 x69_22j11 A70j11 A71j11 A72j11 A73j11 = some X0) (hW : GW D cy (gA N q s.heap.size) N q m a s H) (hS : va_S (gA N q s.heap.size) s.heap H locs), W p l e ({ frames := 3, cells := 0, slots := 0, locals := 74 } : Room) s M args below meth c H locs 0 0 (MQ below (va_Qi (fun (r : Int32) (u : (Nat → Value) × (Nat → vp_A)) => r = X0.1 ∧ u.1 6904 = .long X0.2.1 ∧ u.1 6906 = .int X0.2.2.1 ∧ u.1 6909 = .int X0.2.2.2.1 ∧ u.1 6911 = .int X0.2.2.2.2.1 ∧ u.1 6919 = .long X0.2.2.2.2.2.1 ∧ u.1 6920 = .int X0.2.2.2.2.2.2.1 ∧ u.1 6921 = .int X0.2.2.2.2.2.2.2.1 ∧ u.1 6922 = .int X0.2.2.2.2.2.2.2.2.1 ∧ (∀ j, nel j [6904, 6906, 6909, 6911, 6919, 6920, 6921, 6922] = false → u.1 j = m0 j) ∧ u.2 70 = (30, .inl X0.2.2.2.2.2.2.2.2.2.1) ∧ u.2 71 = (8, .inl X0.2.2.2.2.2.2.2.2.2.2.1) ∧ u.2 72 = (40, .inl X0.2.2.2.2.2.2.2.2.2.2.2.1) ∧ u.2 73 = (40, .inl X0.2.2.2.2.2.2.2.2.2.2.2.2) ∧ (∀ j, nel j [70, 71, 72, 73] = false → u.2 j = a0 j)) (gB D cy N q s.heap.size) (gA N q s.heap.size)) args s 0 0 (gA N q s.heap.size)) (F0 M 89 ls [.ref (q 71)]) := by
    intro v3j11 v5j11 x69_4j11 x69_6j11 x69_9j11 x69_11j11 x69_19j11 x69_20j11 x69_21j11 x69_22j11 A70j11 A71j11 A72j11 A73j11 m a H locs w_x69_4 w_x69_6 w_x69_9 w_x69_11 w_x69_19 w_x69_20 w_x69_21 w_x69_22 hoff hsh w_A70 w_A71 w_A72 w_A73 hoffa ls hl hs0 hW hS
    unfold fX12_acts_J89 at hs0
    refine lv_bipush (v := 6) hx hb dX12_acts_89 (by decide) ?_
    refine lv_goto (tgt := 96) hx hb dX12_acts_91 (by decide) ?_
    exact hJ96_0 v3j11 v5j11 6 x69_4j11 x69_6j11 x69_9j11 x69_11j11 x69_19j11 x69_20j11 x69_21j11 x69_22j11 A70j11 A71j11 A72j11 A73j11 m a _ _ w_x69_4 w_x69_6 w_x69_9 w_x69_11 w_x69_19 w_x69_20 w_x69_21 w_x69_22 hoff hsh w_A70 w_A71 w_A72 w_A73 hoffa ls (lv_sub hl [0, 1, 2] rfl) hs0 hW hS
  have hJ17_0 : ∀ (v1j2 : Int32) (v2j2 : Int32) (v3j2 : Int32) (s0j2 : Int32) (x69_4j2 : Int64) (x69_6j2 : Int32) (x69_9j2 : Int32) (x69_11j2 : Int32) (x69_19j2 : Int64) (x69_20j2 : Int32) (x69_21j2 : Int32) (x69_22j2 : Int32) (A70j2 : Nat → Int32) (A71j2 : Nat → Int32) (A72j2 : Nat → Int32) (A73j2 : Nat → Int32) (m : Nat → Value) (a : Nat → vp_A) (H : Heap) (locs : List Loc) (w_x69_4 : m 6904 = .long x69_4j2) (w_x69_6 : m 6906 = .int x69_6j2) (w_x69_9 : m 6909 = .int x69_9j2) (w_x69_11 : m 6911 = .int x69_11j2) (w_x69_19 : m 6919 = .long x69_19j2) (w_x69_20 : m 6920 = .int x69_20j2) (w_x69_21 : m 6921 = .int x69_21j2) (w_x69_22 : m 6922 = .int x69_22j2) (hoff : ∀ j, nel j [6904, 6906, 6909, 6911, 6919, 6920, 6921, 6922] = false → m j = m0 j) (hsh : SH q m) (w_A70 : a 70 = (30, .inl A70j2)) (w_A71 : a 71 = (8, .inl A71j2)) (w_A72 : a 72 = (40, .inl A72j2)) (w_A73 : a 73 = (40, .inl A73j2)) (hoffa : ∀ j, nel j [70, 71, 72, 73] = false → a j = a0 j) (ls : Array Slot) (hl : lv_has ls 7 [(0, .ref (q 69)), (1, .int v1j2), (2, .int v2j2), (3, .int v3j2)]) (hs0 : fX12_acts_J17 F x69_0 x69_1 x69_2 x69_3 v1j2 v2j2 v3j2 s0j2 x69_4j2 x69_6j2 x69_9j2 x69_11j2 x69_19j2 x69_20j2 x69_21j2 x69_22j2 A70j2 A71j2 A72j2 A73j2 = some X0) (hW : GW D cy (gA N q s.heap.size) N q m a s H) (hS : va_S (gA N q s.heap.size) s.heap H locs), W p l e ({ frames := 3, cells := 0, slots := 0, locals := 74 } : Room) s M args below meth c H locs 0 0 (MQ below (va_Qi (fun (r : Int32) (u : (Nat → Value) × (Nat → vp_A)) => r = X0.1 ∧ u.1 6904 = .long X0.2.1 ∧ u.1 6906 = .int X0.2.2.1 ∧ u.1 6909 = .int X0.2.2.2.1 ∧ u.1 6911 = .int X0.2.2.2.2.1 ∧ u.1 6919 = .long X0.2.2.2.2.2.1 ∧ u.1 6920 = .int X0.2.2.2.2.2.2.1 ∧ u.1 6921 = .int X0.2.2.2.2.2.2.2.1 ∧ u.1 6922 = .int X0.2.2.2.2.2.2.2.2.1 ∧ (∀ j, nel j [6904, 6906, 6909, 6911, 6919, 6920, 6921, 6922] = false → u.1 j = m0 j) ∧ u.2 70 = (30, .inl X0.2.2.2.2.2.2.2.2.2.1) ∧ u.2 71 = (8, .inl X0.2.2.2.2.2.2.2.2.2.2.1) ∧ u.2 72 = (40, .inl X0.2.2.2.2.2.2.2.2.2.2.2.1) ∧ u.2 73 = (40, .inl X0.2.2.2.2.2.2.2.2.2.2.2.2) ∧ (∀ j, nel j [70, 71, 72, 73] = false → u.2 j = a0 j)) (gB D cy N q s.heap.size) (gA N q s.heap.size)) args s 0 0 (gA N q s.heap.size)) (F0 M 17 ls [.int s0j2]) := by
    intro v1j2 v2j2 v3j2 s0j2 x69_4j2 x69_6j2 x69_9j2 x69_11j2 x69_19j2 x69_20j2 x69_21j2 x69_22j2 A70j2 A71j2 A72j2 A73j2 m a H locs w_x69_4 w_x69_6 w_x69_9 w_x69_11 w_x69_19 w_x69_20 w_x69_21 w_x69_22 hoff hsh w_A70 w_A71 w_A72 w_A73 hoffa ls hl hs0 hW hS
    unfold fX12_acts_J17 at hs0
    refine lv_istore (lv' := [(4, .int s0j2), (0, .ref (q 69)), (1, .int v1j2), (2, .int v2j2), (3, .int v3j2)]) hx hb dX12_acts_17 hl (by decide) rfl (fun ls hl => ?_)
    refine lv_aload_n hx hb dX12_acts_19 rfl (lv_at hl 1 rfl) ?_
    refine gf12_4 hx hb hG hown hW (o := 69) (ltN hN 69 rfl) gk69 (v := .long x69_4j2) w_x69_4 gx202 dX12_acts_20 ?_
    refine lv_iconst (v := 2) hx hb dX12_acts_23 (by decide) ?_
    refine lv_iconst (v := 1) hx hb dX12_acts_24 (by decide) ?_
    refine g_SiR (n := 3) hx hb hml hown hG hW hS [.long x69_4j2, .int 2, .int 1] (kX12_get hN x69_4j2 2 1) rfl (gd_S gx304 gx305 gx5 gx306) rfl rfl (by decide) ⟨Nat.le_of_ble_eq_true rfl, Nat.le_of_ble_eq_true rfl⟩ rfl hl (Nat.le_of_ble_eq_true rfl) ⟨Nat.zero_le _, Nat.zero_le _⟩ dX12_acts_25 (fun H locs hW hS => ?_)
    refine lv_istore (lv' := [(5, .int (fX12_get x69_4j2 2 1)), (4, .int s0j2), (0, .ref (q 69)), (1, .int v1j2), (2, .int v2j2), (3, .int v3j2)]) hx hb dX12_acts_28 hl (by decide) rfl (fun ls hl => ?_)
    refine lv_aload_n hx hb dX12_acts_30 rfl (lv_at hl 2 rfl) ?_
    refine lv_aload_n hx hb dX12_acts_31 rfl (lv_at hl 2 rfl) ?_
    refine gf12_2 hx hb hG hown hW (o := 69) (ltN hN 69 rfl) gk69 (v := .int x69_2) ((hoff 6902 rfl).trans h_x69_2) gx164 dX12_acts_32 ?_
    refine gp12_22 hx hb hG hown hW hS (o := 69) (ltN hN 69 rfl) gk69 (v := x69_2) gx505 dX12_acts_35 (fun m4 H locs hm4 ho4 hW hS => ?_)
    have ho4 := off1 ho4
    have w_x69_4 : m4 6904 = .long x69_4j2 := (ho4 6904 rfl).trans w_x69_4
    have w_x69_6 : m4 6906 = .int x69_6j2 := (ho4 6906 rfl).trans w_x69_6
    have w_x69_9 : m4 6909 = .int x69_9j2 := (ho4 6909 rfl).trans w_x69_9
    have w_x69_11 : m4 6911 = .int x69_11j2 := (ho4 6911 rfl).trans w_x69_11
    have w_x69_19 : m4 6919 = .long x69_19j2 := (ho4 6919 rfl).trans w_x69_19
    have w_x69_20 : m4 6920 = .int x69_20j2 := (ho4 6920 rfl).trans w_x69_20
    have w_x69_21 : m4 6921 = .int x69_21j2 := (ho4 6921 rfl).trans w_x69_21
    have w_x69_22 : m4 6922 = .int x69_2 := hm4
    have hoff := offm hoff ho4 (by decide +kernel)
    have hsh := SH.off hsh ho4 (by decide +kernel)
    refine lv_aload_n hx hb dX12_acts_38 rfl (lv_at hl 2 rfl) ?_
    refine lv_aload_n hx hb dX12_acts_39 rfl (lv_at hl 2 rfl) ?_
    refine gf12_4 hx hb hG hown hW (o := 69) (ltN hN 69 rfl) gk69 (v := .long x69_4j2) w_x69_4 gx202 dX12_acts_40 ?_
    refine lv_iload_n hx hb dX12_acts_43 rfl (lv_at hl 3 rfl) ?_
    refine lv_iload_n hx hb dX12_acts_44 rfl (lv_at hl 4 rfl) ?_
    refine lv_iload_n hx hb dX12_acts_45 rfl (lv_at hl 5 rfl) ?_
    refine lv_iload hx hb dX12_acts_46 (lv_at hl 1 rfl) ?_
    obtain ⟨r5, hf5, hs0⟩ := obind hs0
    refine g_Vv (n := 5) hx hb hml hown hG hW hS [.long x69_4j2, .int v1j2, .int v2j2, .int v3j2, .int s0j2] (kX12_does hN hsh ((hoff 6900 rfl).trans h_x69_0) ((hoff 6901 rfl).trans h_x69_1) ((hoff 6903 rfl).trans h_x69_3) w_x69_22 w_x69_19 w_x69_20 w_x69_21 F x69_4j2 v1j2 v2j2 v3j2 s0j2 hf5) (ltN hN 69 rfl) gk69 (by decide) rfl rfl (gd_V gx509 gx510 gx511 gx5 gx512) rfl rfl (by decide) ⟨Nat.le_of_ble_eq_true rfl, Nat.le_of_ble_eq_true rfl⟩ rfl hl (Nat.le_of_ble_eq_true rfl) ⟨Nat.zero_le _, Nat.zero_le _⟩ dX12_acts_48 (fun m5 a5 H locs hp5 hW hS => ?_)
    obtain ⟨hp5_x69_19, hp5_x69_20, hp5_x69_21, ho5, ha5⟩ := hp5
    rw [ha5] at hW
    have w_x69_4 : m5 6904 = .long x69_4j2 := (ho5 6904 rfl).trans w_x69_4
    have w_x69_6 : m5 6906 = .int x69_6j2 := (ho5 6906 rfl).trans w_x69_6
    have w_x69_9 : m5 6909 = .int x69_9j2 := (ho5 6909 rfl).trans w_x69_9
    have w_x69_11 : m5 6911 = .int x69_11j2 := (ho5 6911 rfl).trans w_x69_11
    have w_x69_19 : m5 6919 = .long r5.1 := hp5_x69_19
    have w_x69_20 : m5 6920 = .int r5.2.1 := hp5_x69_20
    have w_x69_21 : m5 6921 = .int r5.2.2 := hp5_x69_21
    have w_x69_22 : m5 6922 = .int x69_2 := (ho5 6922 rfl).trans w_x69_22
    have hoff := offm hoff ho5 (by decide +kernel)
    have hsh := SH.off hsh ho5 (by decide +kernel)
    refine lv_aload_n hx hb dX12_acts_51 rfl (lv_at hl 2 rfl) ?_
    refine lv_aload_n hx hb dX12_acts_52 rfl (lv_at hl 2 rfl) ?_
    refine gf12_19 hx hb hG hown hW (o := 69) (ltN hN 69 rfl) gk69 (v := .long r5.1) w_x69_19 gx506 dX12_acts_53 ?_
    refine gp12_4 hx hb hG hown hW hS (o := 69) (ltN hN 69 rfl) gk69 (v := r5.1) gx202 dX12_acts_56 (fun m6 H locs hm6 ho6 hW hS => ?_)
    have ho6 := off1 ho6
    have w_x69_4 : m6 6904 = .long r5.1 := hm6
    have w_x69_6 : m6 6906 = .int x69_6j2 := (ho6 6906 rfl).trans w_x69_6
    have w_x69_9 : m6 6909 = .int x69_9j2 := (ho6 6909 rfl).trans w_x69_9
    have w_x69_11 : m6 6911 = .int x69_11j2 := (ho6 6911 rfl).trans w_x69_11
    have w_x69_19 : m6 6919 = .long r5.1 := (ho6 6919 rfl).trans w_x69_19
    have w_x69_20 : m6 6920 = .int r5.2.1 := (ho6 6920 rfl).trans w_x69_20
    have w_x69_21 : m6 6921 = .int r5.2.2 := (ho6 6921 rfl).trans w_x69_21
    have w_x69_22 : m6 6922 = .int x69_2 := (ho6 6922 rfl).trans w_x69_22
    have hoff := offm hoff ho6 (by decide +kernel)
    have hsh := SH.off hsh ho6 (by decide +kernel)
    refine lv_aload_n hx hb dX12_acts_59 rfl (lv_at hl 2 rfl) ?_
    refine gf12_7 hx hb hG hown hW (o := 69) (ltN hN 69 rfl) gk69 (v := .ref (q 71)) (sh69_7 hsh) gx167 dX12_acts_60 ?_
    refine lv_iconst (v := 0) hx hb dX12_acts_63 (by decide) ?_
    refine lv_dup2_11 hx hb dX12_acts_64 rfl rfl ?_
    refine g_iald hx hb hW (o := 71) (ltN hN 71 rfl) gk71 w_A71 (vin (by decide)) dX12_acts_65 ?_
    refine lv_iconst (v := 1) hx hb dX12_acts_66 (by decide) ?_
    refine lv_iadd hx hb dX12_acts_67 ?_
    refine g_iast hx hb hW hS (o := 71) (ltN hN 71 rfl) gk71 w_A71 (vin (by decide)) dX12_acts_68 (fun a7 H locs ha7 ho7 hW hS => ?_)
    have ho7 := off1 ho7
    have w_A70 : a7 70 = (30, .inl A70j2) := (ho7 70 rfl).trans w_A70
    have w_A71 : a7 71 = (8, .inl (upd A71j2 (0 : Int32).toNatClampNeg ((A71j2 (0 : Int32).toNatClampNeg) + 1))) := ha7
    have w_A72 : a7 72 = (40, .inl A72j2) := (ho7 72 rfl).trans w_A72
    have w_A73 : a7 73 = (40, .inl A73j2) := (ho7 73 rfl).trans w_A73
    have hoffa := offm hoffa ho7 (by decide +kernel)
    refine lv_aload_n hx hb dX12_acts_69 rfl (lv_at hl 2 rfl) ?_
    refine gf12_21 hx hb hG hown hW (o := 69) (ltN hN 69 rfl) gk69 (v := .int r5.2.2) w_x69_21 gx507 dX12_acts_70 ?_
    refine lv_if_eq (tgt := 101) hx hb dX12_acts_73 (by decide) (fun c8 => ?_) (fun c8 => ?_)
    · rw [if_pos c8] at hs0
      exact hJ101_0 v3j2 (fX12_get x69_4j2 2 1) r5.1 x69_6j2 x69_9j2 x69_11j2 r5.1 r5.2.1 r5.2.2 x69_2 A70j2 (upd A71j2 (0 : Int32).toNatClampNeg ((A71j2 (0 : Int32).toNatClampNeg) + 1)) A72j2 A73j2 m6 a7 _ _ w_x69_4 w_x69_6 w_x69_9 w_x69_11 w_x69_19 w_x69_20 w_x69_21 w_x69_22 hoff hsh w_A70 w_A71 w_A72 w_A73 hoffa ls (lv_sub hl [2, 5, 0] rfl) hs0 hW hS
    · rw [if_neg c8] at hs0
      refine lv_aload_n hx hb dX12_acts_76 rfl (lv_at hl 2 rfl) ?_
      refine gf12_7 hx hb hG hown hW (o := 69) (ltN hN 69 rfl) gk69 (v := .ref (q 71)) (sh69_7 hsh) gx167 dX12_acts_77 ?_
      refine lv_iload_n hx hb dX12_acts_80 rfl (lv_at hl 3 rfl) ?_
      refine lv_if_eq (tgt := 89) hx hb dX12_acts_81 (by decide) (fun c10 => ?_) (fun c10 => ?_)
      · rw [if_pos c10] at hs0
        exact hJ89_0 v3j2 (fX12_get x69_4j2 2 1) r5.1 x69_6j2 x69_9j2 x69_11j2 r5.1 r5.2.1 r5.2.2 x69_2 A70j2 (upd A71j2 (0 : Int32).toNatClampNeg ((A71j2 (0 : Int32).toNatClampNeg) + 1)) A72j2 A73j2 m6 a7 _ _ w_x69_4 w_x69_6 w_x69_9 w_x69_11 w_x69_19 w_x69_20 w_x69_21 w_x69_22 hoff hsh w_A70 w_A71 w_A72 w_A73 hoffa ls (lv_sub hl [2, 5, 0] rfl) hs0 hW hS
      · rw [if_neg c10] at hs0
        refine lv_iload_n hx hb dX12_acts_84 rfl (lv_at hl 3 rfl) ?_
        refine lv_iconst (v := 3) hx hb dX12_acts_85 (by decide) ?_
        refine lv_icmp_ne (tgt := 94) hx hb dX12_acts_86 (by decide) (fun c12 => ?_) (fun c12 => ?_)
        · rw [if_neg c12] at hs0
          refine lv_bipush (v := 7) hx hb dX12_acts_94 (by decide) ?_
          exact hJ96_0 v3j2 (fX12_get x69_4j2 2 1) 7 r5.1 x69_6j2 x69_9j2 x69_11j2 r5.1 r5.2.1 r5.2.2 x69_2 A70j2 (upd A71j2 (0 : Int32).toNatClampNeg ((A71j2 (0 : Int32).toNatClampNeg) + 1)) A72j2 A73j2 m6 a7 _ _ w_x69_4 w_x69_6 w_x69_9 w_x69_11 w_x69_19 w_x69_20 w_x69_21 w_x69_22 hoff hsh w_A70 w_A71 w_A72 w_A73 hoffa ls (lv_sub hl [2, 5, 0] rfl) hs0 hW hS
        · rw [if_pos c12] at hs0
          exact hJ89_0 v3j2 (fX12_get x69_4j2 2 1) r5.1 x69_6j2 x69_9j2 x69_11j2 r5.1 r5.2.1 r5.2.2 x69_2 A70j2 (upd A71j2 (0 : Int32).toNatClampNeg ((A71j2 (0 : Int32).toNatClampNeg) + 1)) A72j2 A73j2 m6 a7 _ _ w_x69_4 w_x69_6 w_x69_9 w_x69_11 w_x69_19 w_x69_20 w_x69_21 w_x69_22 hoff hsh w_A70 w_A71 w_A72 w_A73 hoffa ls (lv_sub hl [2, 5, 0] rfl) hs0 hW hS
  refine lv_aload_n hx hb dX12_acts_0 rfl (lv_at hl 0 rfl) ?_
  refine gf12_6 hx hb hG hown hW (o := 69) (ltN hN 69 rfl) gk69 (v := .int x69_6) h_x69_6 gx254 dX12_acts_1 ?_
  refine lv_if_le (tgt := 16) hx hb dX12_acts_4 (by decide) (fun c1 => ?_) (fun c1 => ?_)
  · rw [if_pos c1] at hs0
    refine lv_iconst (v := 0) hx hb dX12_acts_16 (by decide) ?_
    exact hJ17_0 p1 p2 p3 0 x69_4 x69_6 x69_9 x69_11 x69_19 x69_20 x69_21 x69_22 A70 A71 A72 A73 m0 a0 _ _ h_x69_4 h_x69_6 h_x69_9 h_x69_11 h_x69_19 h_x69_20 h_x69_21 h_x69_22 hoff hsh h_A70 h_A71 h_A72 h_A73 hoffa ls (lv_sub hl [0, 1, 2, 3] rfl) hs0 hW hS
  · rw [if_neg c1] at hs0
    refine lv_aload_n hx hb dX12_acts_7 rfl (lv_at hl 0 rfl) ?_
    refine gf12_5 hx hb hG hown hW (o := 69) (ltN hN 69 rfl) gk69 (v := .ref (q 70)) (sh69_5 hsh) gx166 dX12_acts_8 ?_
    refine lv_iconst (v := 0) hx hb dX12_acts_11 (by decide) ?_
    refine g_iald hx hb hW (o := 70) (ltN hN 70 rfl) gk70 h_A70 (vin (by decide)) dX12_acts_12 ?_
    refine lv_goto (tgt := 17) hx hb dX12_acts_13 (by decide) ?_
    exact hJ17_0 p1 p2 p3 (A70 (0 : Int32).toNatClampNeg) x69_4 x69_6 x69_9 x69_11 x69_19 x69_20 x69_21 x69_22 A70 A71 A72 A73 m0 a0 _ _ h_x69_4 h_x69_6 h_x69_9 h_x69_11 h_x69_19 h_x69_20 h_x69_21 h_x69_22 hoff hsh h_A70 h_A71 h_A72 h_A73 hoffa ls (lv_sub hl [0, 1, 2, 3] rfl) hs0 hW hS
-- HealLinkModel.act (III)I
def fX12_act (F : Nat) (x69_0 : Int32) (x69_1 : Int32) (x69_2 : Int32) (x69_3 : Int32) (x69_4 : Int64) (x69_6 : Int32) (x69_9 : Int32) (x69_11 : Int32) (x69_18 : Int32) (x69_19 : Int64) (x69_20 : Int32) (x69_21 : Int32) (x69_22 : Int32) (A70 : Nat → Int32) (A71 : Nat → Int32) (A72 : Nat → Int32) (A73 : Nat → Int32) (p1 : Int32) (p2 : Int32) (p3 : Int32) : Option (Int32 × Int64 × Int32 × Int32 × Int32 × Int32 × Int64 × Int32 × Int32 × Int32 × (Nat → Int32) × (Nat → Int32) × (Nat → Int32) × (Nat → Int32)) := (if (fX12_within p1 0 4) = 0 then some ((-1), x69_4, x69_6, x69_9, x69_11, 0, x69_19, x69_20, x69_21, x69_22, A70, A71, A72, A73) else (if (fX12_isThere x69_1 x69_4 p1 p2 p3) = 0 then some ((-1), x69_4, x69_6, x69_9, x69_11, 0, x69_19, x69_20, x69_21, x69_22, A70, A71, A72, A73) else ((fX12_acts F x69_0 x69_1 x69_2 x69_3 x69_4 x69_6 x69_9 x69_11 x69_19 x69_20 x69_21 x69_22 A70 A71 A72 A73 p1 p2 p3).bind (fun r6 => some (r6.1, r6.2.1, r6.2.2.1, r6.2.2.2.1, r6.2.2.2.2.1, 0, r6.2.2.2.2.2.1, r6.2.2.2.2.2.2.1, r6.2.2.2.2.2.2.2.1, r6.2.2.2.2.2.2.2.2.1, r6.2.2.2.2.2.2.2.2.2.1, r6.2.2.2.2.2.2.2.2.2.2.1, r6.2.2.2.2.2.2.2.2.2.2.2.1, r6.2.2.2.2.2.2.2.2.2.2.2.2)))))
theorem dX12_act_0 : decode cX12_act 0 = .ok (.aload_n 0, 1) := by decide +kernel
theorem dX12_act_1 : decode cX12_act 1 = .ok (.iconst 0, 1) := by decide +kernel
theorem dX12_act_2 : decode cX12_act 2 = .ok (.putfield 137, 3) := by decide +kernel
theorem dX12_act_5 : decode cX12_act 5 = .ok (.iload_n 1, 1) := by decide +kernel
theorem dX12_act_6 : decode cX12_act 6 = .ok (.iconst 0, 1) := by decide +kernel
theorem dX12_act_7 : decode cX12_act 7 = .ok (.iconst 4, 1) := by decide +kernel
theorem dX12_act_8 : decode cX12_act 8 = .ok (.invokestatic 159, 3) := by decide +kernel
theorem dX12_act_11 : decode cX12_act 11 = .ok (.ifCond .eq 27, 3) := by decide +kernel
theorem dX12_act_14 : decode cX12_act 14 = .ok (.aload_n 0, 1) := by decide +kernel
theorem dX12_act_15 : decode cX12_act 15 = .ok (.aload_n 0, 1) := by decide +kernel
theorem dX12_act_16 : decode cX12_act 16 = .ok (.getfield 133, 3) := by decide +kernel
theorem dX12_act_19 : decode cX12_act 19 = .ok (.iload_n 1, 1) := by decide +kernel
theorem dX12_act_20 : decode cX12_act 20 = .ok (.iload_n 2, 1) := by decide +kernel
theorem dX12_act_21 : decode cX12_act 21 = .ok (.iload_n 3, 1) := by decide +kernel
theorem dX12_act_22 : decode cX12_act 22 = .ok (.invokevirtual 224, 3) := by decide +kernel
theorem dX12_act_25 : decode cX12_act 25 = .ok (.ifCond .eq 13, 3) := by decide +kernel
theorem dX12_act_28 : decode cX12_act 28 = .ok (.aload_n 0, 1) := by decide +kernel
theorem dX12_act_29 : decode cX12_act 29 = .ok (.iload_n 1, 1) := by decide +kernel
theorem dX12_act_30 : decode cX12_act 30 = .ok (.iload_n 2, 1) := by decide +kernel
theorem dX12_act_31 : decode cX12_act 31 = .ok (.iload_n 3, 1) := by decide +kernel
theorem dX12_act_32 : decode cX12_act 32 = .ok (.invokevirtual 228, 3) := by decide +kernel
theorem dX12_act_35 : decode cX12_act 35 = .ok (.goto 4, 3) := by decide +kernel
theorem dX12_act_38 : decode cX12_act 38 = .ok (.iconst (-1), 1) := by decide +kernel
theorem dX12_act_39 : decode cX12_act 39 = .ok (.ireturn, 1) := by decide +kernel
set_option maxHeartbeats 4000000 in
set_option maxRecDepth 100000 in
theorem kX12_act {l : Launch} {D : va_G} {cy : Nat → ClassId} {N : Nat} {q : Nat → Nat} {m0 : Nat → Value} {a0 : Nat → vp_A} {sz : Nat} (hN : 105 ≤ N) (hsh : SH q m0) {x69_0 : Int32} (h_x69_0 : m0 6900 = .int x69_0) {x69_1 : Int32} (h_x69_1 : m0 6901 = .int x69_1) {x69_2 : Int32} (h_x69_2 : m0 6902 = .int x69_2) {x69_3 : Int32} (h_x69_3 : m0 6903 = .int x69_3) {x69_4 : Int64} (h_x69_4 : m0 6904 = .long x69_4) {x69_6 : Int32} (h_x69_6 : m0 6906 = .int x69_6) {x69_9 : Int32} (h_x69_9 : m0 6909 = .int x69_9) {x69_11 : Int32} (h_x69_11 : m0 6911 = .int x69_11) {x69_18 : Int32} (h_x69_18 : m0 6918 = .int x69_18) {x69_19 : Int64} (h_x69_19 : m0 6919 = .long x69_19) {x69_20 : Int32} (h_x69_20 : m0 6920 = .int x69_20) {x69_21 : Int32} (h_x69_21 : m0 6921 = .int x69_21) {x69_22 : Int32} (h_x69_22 : m0 6922 = .int x69_22) {A70 : Nat → Int32} (h_A70 : a0 70 = (30, .inl A70)) {A71 : Nat → Int32} (h_A71 : a0 71 = (8, .inl A71)) {A72 : Nat → Int32} (h_A72 : a0 72 = (40, .inl A72)) {A73 : Nat → Int32} (h_A73 : a0 73 = (40, .inl A73)) (F : Nat) (p1 : Int32) (p2 : Int32) (p3 : Int32) {X0 : Int32 × Int64 × Int32 × Int32 × Int32 × Int32 × Int64 × Int32 × Int32 × Int32 × (Nat → Int32) × (Nat → Int32) × (Nat → Int32) × (Nat → Int32)} (hs0 : fX12_act F x69_0 x69_1 x69_2 x69_3 x69_4 x69_6 x69_9 x69_11 x69_18 x69_19 x69_20 x69_21 x69_22 A70 A71 A72 A73 p1 p2 p3 = some X0) : gMi l yX12_act cX12_act 4 (some .int) ({ frames := 4, cells := 0, slots := 0, locals := 100 } : Room) D cy N q m0 a0 sz [.ref (q 69), .int p1, .int p2, .int p3] (fun r m' a' => r = X0.1 ∧ m' 6904 = .long X0.2.1 ∧ m' 6906 = .int X0.2.2.1 ∧ m' 6909 = .int X0.2.2.2.1 ∧ m' 6911 = .int X0.2.2.2.2.1 ∧ m' 6918 = .int X0.2.2.2.2.2.1 ∧ m' 6919 = .long X0.2.2.2.2.2.2.1 ∧ m' 6920 = .int X0.2.2.2.2.2.2.2.1 ∧ m' 6921 = .int X0.2.2.2.2.2.2.2.2.1 ∧ m' 6922 = .int X0.2.2.2.2.2.2.2.2.2.1 ∧ (∀ j, nel j [6904, 6906, 6909, 6911, 6918, 6919, 6920, 6921, 6922] = false → m' j = m0 j) ∧ a' 70 = (30, .inl X0.2.2.2.2.2.2.2.2.2.2.1) ∧ a' 71 = (8, .inl X0.2.2.2.2.2.2.2.2.2.2.2.1) ∧ a' 72 = (40, .inl X0.2.2.2.2.2.2.2.2.2.2.2.2.1) ∧ a' 73 = (40, .inl X0.2.2.2.2.2.2.2.2.2.2.2.2.2) ∧ (∀ j, nel j [70, 71, 72, 73] = false → a' j = a0 j)) := by
  refine g_ofi (by decide) (Nat.le_of_ble_eq_true rfl) ?_
  intro p e s M args below meth c hx hb hr hG hown hin hlocks hml hW hS ls hl
  unfold fX12_act at hs0
  have hoff : ∀ j, nel j [6904, 6906, 6909, 6911, 6918, 6919, 6920, 6921, 6922] = false → m0 j = m0 j := off0
  have hoffa : ∀ j, nel j [70, 71, 72, 73] = false → a0 j = a0 j := off0
  refine lv_aload_n hx hb dX12_act_0 rfl (lv_at hl 0 rfl) ?_
  refine lv_iconst (v := 0) hx hb dX12_act_1 (by decide) ?_
  refine gp12_18 hx hb hG hown hW hS (o := 69) (ltN hN 69 rfl) gk69 (v := 0) gx246 dX12_act_2 (fun m1 H locs hm1 ho1 hW hS => ?_)
  have ho1 := off1 ho1
  have w_x69_4 : m1 6904 = .long x69_4 := (ho1 6904 rfl).trans h_x69_4
  have w_x69_6 : m1 6906 = .int x69_6 := (ho1 6906 rfl).trans h_x69_6
  have w_x69_9 : m1 6909 = .int x69_9 := (ho1 6909 rfl).trans h_x69_9
  have w_x69_11 : m1 6911 = .int x69_11 := (ho1 6911 rfl).trans h_x69_11
  have w_x69_18 : m1 6918 = .int 0 := hm1
  have w_x69_19 : m1 6919 = .long x69_19 := (ho1 6919 rfl).trans h_x69_19
  have w_x69_20 : m1 6920 = .int x69_20 := (ho1 6920 rfl).trans h_x69_20
  have w_x69_21 : m1 6921 = .int x69_21 := (ho1 6921 rfl).trans h_x69_21
  have w_x69_22 : m1 6922 = .int x69_22 := (ho1 6922 rfl).trans h_x69_22
  have hoff := offm hoff ho1 (by decide +kernel)
  have hsh := SH.off hsh ho1 (by decide +kernel)
  refine lv_iload_n hx hb dX12_act_5 rfl (lv_at hl 1 rfl) ?_
  refine lv_iconst (v := 0) hx hb dX12_act_6 (by decide) ?_
  refine lv_iconst (v := 4) hx hb dX12_act_7 (by decide) ?_
  refine g_SiR (n := 3) hx hb hml hown hG hW hS [.int p1, .int 0, .int 4] (kX12_within hN p1 0 4) rfl (gd_S gx247 gx248 gx5 gx249) rfl rfl (by decide) ⟨Nat.le_of_ble_eq_true rfl, Nat.le_of_ble_eq_true rfl⟩ rfl hl (Nat.le_of_ble_eq_true rfl) ⟨Nat.zero_le _, Nat.zero_le _⟩ dX12_act_8 (fun H locs hW hS => ?_)
  refine lv_if_eq (tgt := 38) hx hb dX12_act_11 (by decide) (fun c3 => ?_) (fun c3 => ?_)
  · rw [if_pos c3] at hs0
    refine lv_iconst (v := (-1)) hx hb dX12_act_38 (by decide) ?_
    have hs0 := Option.some.inj hs0
    subst hs0
    exact W.zret hx hb hr rfl (fun t ht hw => ⟨⟨_, (m1, a0), rfl, ⟨rfl, w_x69_4, w_x69_6, w_x69_9, w_x69_11, w_x69_18, w_x69_19, w_x69_20, w_x69_21, w_x69_22, hoff, h_A70, h_A71, h_A72, h_A73, hoffa⟩, g_end hW ht hw⟩, hS.F ht⟩) hS.2.2 dX12_act_39 hlocks
  · rw [if_neg c3] at hs0
    refine lv_aload_n hx hb dX12_act_14 rfl (lv_at hl 0 rfl) ?_
    refine lv_aload_n hx hb dX12_act_15 rfl (lv_at hl 0 rfl) ?_
    refine gf12_4 hx hb hG hown hW (o := 69) (ltN hN 69 rfl) gk69 (v := .long x69_4) w_x69_4 gx202 dX12_act_16 ?_
    refine lv_iload_n hx hb dX12_act_19 rfl (lv_at hl 1 rfl) ?_
    refine lv_iload_n hx hb dX12_act_20 rfl (lv_at hl 2 rfl) ?_
    refine lv_iload_n hx hb dX12_act_21 rfl (lv_at hl 3 rfl) ?_
    refine g_ViR (n := 4) hx hb hml hown hG hW hS [.long x69_4, .int p1, .int p2, .int p3] (kX12_isThere hN ((hoff 6901 rfl).trans h_x69_1) x69_4 p1 p2 p3) (ltN hN 69 rfl) gk69 (by decide) rfl rfl (gd_V gx497 gx498 gx499 gx5 gx500) rfl rfl (by decide) ⟨Nat.le_of_ble_eq_true rfl, Nat.le_of_ble_eq_true rfl⟩ rfl hl (Nat.le_of_ble_eq_true rfl) ⟨Nat.zero_le _, Nat.zero_le _⟩ dX12_act_22 (fun H locs hW hS => ?_)
    refine lv_if_eq (tgt := 38) hx hb dX12_act_25 (by decide) (fun c5 => ?_) (fun c5 => ?_)
    · rw [if_pos c5] at hs0
      refine lv_iconst (v := (-1)) hx hb dX12_act_38 (by decide) ?_
      have hs0 := Option.some.inj hs0
      subst hs0
      exact W.zret hx hb hr rfl (fun t ht hw => ⟨⟨_, (m1, a0), rfl, ⟨rfl, w_x69_4, w_x69_6, w_x69_9, w_x69_11, w_x69_18, w_x69_19, w_x69_20, w_x69_21, w_x69_22, hoff, h_A70, h_A71, h_A72, h_A73, hoffa⟩, g_end hW ht hw⟩, hS.F ht⟩) hS.2.2 dX12_act_39 hlocks
    · rw [if_neg c5] at hs0
      refine lv_aload_n hx hb dX12_act_28 rfl (lv_at hl 0 rfl) ?_
      refine lv_iload_n hx hb dX12_act_29 rfl (lv_at hl 1 rfl) ?_
      refine lv_iload_n hx hb dX12_act_30 rfl (lv_at hl 2 rfl) ?_
      refine lv_iload_n hx hb dX12_act_31 rfl (lv_at hl 3 rfl) ?_
      obtain ⟨r6, hf6, hs0⟩ := obind hs0
      refine g_Vi (n := 3) hx hb hml hown hG hW hS [.int p1, .int p2, .int p3] (kX12_acts hN hsh ((hoff 6900 rfl).trans h_x69_0) ((hoff 6901 rfl).trans h_x69_1) ((hoff 6902 rfl).trans h_x69_2) ((hoff 6903 rfl).trans h_x69_3) w_x69_4 w_x69_6 w_x69_9 w_x69_11 w_x69_19 w_x69_20 w_x69_21 w_x69_22 h_A70 h_A71 h_A72 h_A73 F p1 p2 p3 hf6) (ltN hN 69 rfl) gk69 (by decide) rfl rfl (gd_V gx501 gx502 gx503 gx5 gx504) rfl rfl (by decide) ⟨Nat.le_of_ble_eq_true rfl, Nat.le_of_ble_eq_true rfl⟩ rfl hl (Nat.le_of_ble_eq_true rfl) ⟨Nat.zero_le _, Nat.zero_le _⟩ dX12_act_32 (fun x6 m6 a6 H locs hp6 hW hS => ?_)
      obtain ⟨hx6, hp6_x69_4, hp6_x69_6, hp6_x69_9, hp6_x69_11, hp6_x69_19, hp6_x69_20, hp6_x69_21, hp6_x69_22, ho6, hp6_A70, hp6_A71, hp6_A72, hp6_A73, hoa6⟩ := hp6
      subst hx6
      have w_x69_4 : m6 6904 = .long r6.2.1 := hp6_x69_4
      have w_x69_6 : m6 6906 = .int r6.2.2.1 := hp6_x69_6
      have w_x69_9 : m6 6909 = .int r6.2.2.2.1 := hp6_x69_9
      have w_x69_11 : m6 6911 = .int r6.2.2.2.2.1 := hp6_x69_11
      have w_x69_18 : m6 6918 = .int 0 := (ho6 6918 rfl).trans w_x69_18
      have w_x69_19 : m6 6919 = .long r6.2.2.2.2.2.1 := hp6_x69_19
      have w_x69_20 : m6 6920 = .int r6.2.2.2.2.2.2.1 := hp6_x69_20
      have w_x69_21 : m6 6921 = .int r6.2.2.2.2.2.2.2.1 := hp6_x69_21
      have w_x69_22 : m6 6922 = .int r6.2.2.2.2.2.2.2.2.1 := hp6_x69_22
      have hoff := offm hoff ho6 (by decide +kernel)
      have hsh := SH.off hsh ho6 (by decide +kernel)
      have w_A70 : a6 70 = (30, .inl r6.2.2.2.2.2.2.2.2.2.1) := hp6_A70
      have w_A71 : a6 71 = (8, .inl r6.2.2.2.2.2.2.2.2.2.2.1) := hp6_A71
      have w_A72 : a6 72 = (40, .inl r6.2.2.2.2.2.2.2.2.2.2.2.1) := hp6_A72
      have w_A73 : a6 73 = (40, .inl r6.2.2.2.2.2.2.2.2.2.2.2.2) := hp6_A73
      have hoffa := offm hoffa hoa6 (by decide +kernel)
      refine lv_goto (tgt := 39) hx hb dX12_act_35 (by decide) ?_
      have hs0 := Option.some.inj hs0
      subst hs0
      exact W.zret hx hb hr rfl (fun t ht hw => ⟨⟨_, (m6, a6), rfl, ⟨rfl, w_x69_4, w_x69_6, w_x69_9, w_x69_11, w_x69_18, w_x69_19, w_x69_20, w_x69_21, w_x69_22, hoff, w_A70, w_A71, w_A72, w_A73, hoffa⟩, g_end hW ht hw⟩, hS.F ht⟩) hS.2.2 dX12_act_39 hlocks
-- HealLinkModel.lays (IIII)I
def fX12_lays (A76 : Nat → Int32) (A77 : Nat → Int32) (A78 : Nat → Int32) (p1 : Int32) (p2 : Int32) (p3 : Int32) (p4 : Int32) : Option (Int32 × (Nat → Int32) × (Nat → Int32) × (Nat → Int32)) := (if inb p1 40 = true then (if inb p1 40 = true then (if inb p1 40 = true then some (p1 + 1, upd A76 p1.toNatClampNeg p2, upd A77 p1.toNatClampNeg p3, upd A78 p1.toNatClampNeg p4) else none) else none) else none)
theorem dX12_lays_0 : decode cX12_lays 0 = .ok (.aload_n 0, 1) := by decide +kernel
theorem dX12_lays_1 : decode cX12_lays 1 = .ok (.getfield 41, 3) := by decide +kernel
theorem dX12_lays_4 : decode cX12_lays 4 = .ok (.iload_n 1, 1) := by decide +kernel
theorem dX12_lays_5 : decode cX12_lays 5 = .ok (.iload_n 2, 1) := by decide +kernel
theorem dX12_lays_6 : decode cX12_lays 6 = .ok (.iastore, 1) := by decide +kernel
theorem dX12_lays_7 : decode cX12_lays 7 = .ok (.aload_n 0, 1) := by decide +kernel
theorem dX12_lays_8 : decode cX12_lays 8 = .ok (.getfield 44, 3) := by decide +kernel
theorem dX12_lays_11 : decode cX12_lays 11 = .ok (.iload_n 1, 1) := by decide +kernel
theorem dX12_lays_12 : decode cX12_lays 12 = .ok (.iload_n 3, 1) := by decide +kernel
theorem dX12_lays_13 : decode cX12_lays 13 = .ok (.iastore, 1) := by decide +kernel
theorem dX12_lays_14 : decode cX12_lays 14 = .ok (.aload_n 0, 1) := by decide +kernel
theorem dX12_lays_15 : decode cX12_lays 15 = .ok (.getfield 47, 3) := by decide +kernel
theorem dX12_lays_18 : decode cX12_lays 18 = .ok (.iload_n 1, 1) := by decide +kernel
theorem dX12_lays_19 : decode cX12_lays 19 = .ok (.iload 4, 2) := by decide +kernel
theorem dX12_lays_21 : decode cX12_lays 21 = .ok (.iastore, 1) := by decide +kernel
theorem dX12_lays_22 : decode cX12_lays 22 = .ok (.iload_n 1, 1) := by decide +kernel
theorem dX12_lays_23 : decode cX12_lays 23 = .ok (.iconst 1, 1) := by decide +kernel
theorem dX12_lays_24 : decode cX12_lays 24 = .ok (.iadd, 1) := by decide +kernel
theorem dX12_lays_25 : decode cX12_lays 25 = .ok (.ireturn, 1) := by decide +kernel
set_option maxHeartbeats 4000000 in
set_option maxRecDepth 100000 in
theorem kX12_lays {l : Launch} {D : va_G} {cy : Nat → ClassId} {N : Nat} {q : Nat → Nat} {m0 : Nat → Value} {a0 : Nat → vp_A} {sz : Nat} (hN : 105 ≤ N) (hsh : SH q m0) {A76 : Nat → Int32} (h_A76 : a0 76 = (40, .inl A76)) {A77 : Nat → Int32} (h_A77 : a0 77 = (40, .inl A77)) {A78 : Nat → Int32} (h_A78 : a0 78 = (40, .inl A78)) (p1 : Int32) (p2 : Int32) (p3 : Int32) (p4 : Int32) {X0 : Int32 × (Nat → Int32) × (Nat → Int32) × (Nat → Int32)} (hs0 : fX12_lays A76 A77 A78 p1 p2 p3 p4 = some X0) : gMi l yX12_lays cX12_lays 5 (some .int) ({ frames := 0, cells := 0, slots := 0, locals := 0 } : Room) D cy N q m0 a0 sz [.ref (q 69), .int p1, .int p2, .int p3, .int p4] (fun r m' a' => r = X0.1 ∧ m' = m0 ∧ a' 76 = (40, .inl X0.2.1) ∧ a' 77 = (40, .inl X0.2.2.1) ∧ a' 78 = (40, .inl X0.2.2.2) ∧ (∀ j, nel j [76, 77, 78] = false → a' j = a0 j)) := by
  refine g_ofi (by decide) (Nat.le_of_ble_eq_true rfl) ?_
  intro p e s M args below meth c hx hb hr hG hown hin hlocks hml hW hS ls hl
  unfold fX12_lays at hs0
  have hoffa : ∀ j, nel j [76, 77, 78] = false → a0 j = a0 j := off0
  refine lv_aload_n hx hb dX12_lays_0 rfl (lv_at hl 0 rfl) ?_
  refine gf12_23 hx hb hG hown hW (o := 69) (ltN hN 69 rfl) gk69 (v := .ref (q 76)) (sh69_23 hsh) gx172 dX12_lays_1 ?_
  refine lv_iload_n hx hb dX12_lays_4 rfl (lv_at hl 1 rfl) ?_
  refine lv_iload_n hx hb dX12_lays_5 rfl (lv_at hl 2 rfl) ?_
  obtain ⟨hi1, hs0⟩ := oif hs0
  refine g_iast hx hb hW hS (o := 76) (ltN hN 76 rfl) gk76 h_A76 (vin hi1) dX12_lays_6 (fun a2 H locs ha2 ho2 hW hS => ?_)
  have ho2 := off1 ho2
  have w_A76 : a2 76 = (40, .inl (upd A76 p1.toNatClampNeg p2)) := ha2
  have w_A77 : a2 77 = (40, .inl A77) := (ho2 77 rfl).trans h_A77
  have w_A78 : a2 78 = (40, .inl A78) := (ho2 78 rfl).trans h_A78
  have hoffa := offm hoffa ho2 (by decide +kernel)
  refine lv_aload_n hx hb dX12_lays_7 rfl (lv_at hl 0 rfl) ?_
  refine gf12_24 hx hb hG hown hW (o := 69) (ltN hN 69 rfl) gk69 (v := .ref (q 77)) (sh69_24 hsh) gx173 dX12_lays_8 ?_
  refine lv_iload_n hx hb dX12_lays_11 rfl (lv_at hl 1 rfl) ?_
  refine lv_iload_n hx hb dX12_lays_12 rfl (lv_at hl 3 rfl) ?_
  obtain ⟨hi3, hs0⟩ := oif hs0
  refine g_iast hx hb hW hS (o := 77) (ltN hN 77 rfl) gk77 w_A77 (vin hi3) dX12_lays_13 (fun a4 H locs ha4 ho4 hW hS => ?_)
  have ho4 := off1 ho4
  have w_A76 : a4 76 = (40, .inl (upd A76 p1.toNatClampNeg p2)) := (ho4 76 rfl).trans w_A76
  have w_A77 : a4 77 = (40, .inl (upd A77 p1.toNatClampNeg p3)) := ha4
  have w_A78 : a4 78 = (40, .inl A78) := (ho4 78 rfl).trans w_A78
  have hoffa := offm hoffa ho4 (by decide +kernel)
  refine lv_aload_n hx hb dX12_lays_14 rfl (lv_at hl 0 rfl) ?_
  refine gf12_25 hx hb hG hown hW (o := 69) (ltN hN 69 rfl) gk69 (v := .ref (q 78)) (sh69_25 hsh) gx174 dX12_lays_15 ?_
  refine lv_iload_n hx hb dX12_lays_18 rfl (lv_at hl 1 rfl) ?_
  refine lv_iload hx hb dX12_lays_19 (lv_at hl 4 rfl) ?_
  obtain ⟨hi5, hs0⟩ := oif hs0
  refine g_iast hx hb hW hS (o := 78) (ltN hN 78 rfl) gk78 w_A78 (vin hi5) dX12_lays_21 (fun a6 H locs ha6 ho6 hW hS => ?_)
  have ho6 := off1 ho6
  have w_A76 : a6 76 = (40, .inl (upd A76 p1.toNatClampNeg p2)) := (ho6 76 rfl).trans w_A76
  have w_A77 : a6 77 = (40, .inl (upd A77 p1.toNatClampNeg p3)) := (ho6 77 rfl).trans w_A77
  have w_A78 : a6 78 = (40, .inl (upd A78 p1.toNatClampNeg p4)) := ha6
  have hoffa := offm hoffa ho6 (by decide +kernel)
  refine lv_iload_n hx hb dX12_lays_22 rfl (lv_at hl 1 rfl) ?_
  refine lv_iconst (v := 1) hx hb dX12_lays_23 (by decide) ?_
  refine lv_iadd hx hb dX12_lays_24 ?_
  have hs0 := Option.some.inj hs0
  subst hs0
  exact W.zret hx hb hr rfl (fun t ht hw => ⟨⟨_, (m0, a6), rfl, ⟨rfl, rfl, w_A76, w_A77, w_A78, hoffa⟩, g_end hW ht hw⟩, hS.F ht⟩) hS.2.2 dX12_lays_25 hlocks
-- HealLinkModel.laysSort (JII)I
def fX12_laysSort_J93 (F : Nat) (x69_1 : Int32) (v1 : Int64) (v4 : Int32) (v5j10 : Int32) (v6 : Int32) (v7j10 : Int32) (A76j10 : Nat → Int32) (A77j10 : Nat → Int32) (A78j10 : Nat → Int32) : Option ((Int32 × (Nat → Int32) × (Nat → Int32) × (Nat → Int32)) ⊕ (Int32 × Int32 × (Nat → Int32) × (Nat → Int32) × (Nat → Int32))) := some (Sum.inr (v5j10, v7j10 + 1, A76j10, A77j10, A78j10))
def fX12_laysSort_S59 (F : Nat) (x69_1 : Int32) (v1 : Int64) (v4 : Int32) (v6 : Int32) (v5 : Int32) (v7 : Int32) (A76 : Nat → Int32) (A77 : Nat → Int32) (A78 : Nat → Int32) : Option ((Int32 × (Nat → Int32) × (Nat → Int32) × (Nat → Int32)) ⊕ (Int32 × Int32 × (Nat → Int32) × (Nat → Int32) × (Nat → Int32))) := (if 2 ≤ v7 then some (Sum.inl (v5, A76, A77, A78)) else (if (fX12_isThere x69_1 v1 v4 v6 v7) = 0 then fX12_laysSort_J93 F x69_1 v1 v4 v5 v6 v7 A76 A77 A78 else ((fX12_lays A76 A77 A78 v5 v4 v6 v7).bind (fun r11 => fX12_laysSort_J93 F x69_1 v1 v4 r11.1 v6 v7 r11.2.1 r11.2.2.1 r11.2.2.2))))
def fX12_laysSort_J99 (F : Nat) (x69_1 : Int32) (v1 : Int64) (v4 : Int32) (v5j12 : Int32) (v6j12 : Int32) (A76j12 : Nat → Int32) (A77j12 : Nat → Int32) (A78j12 : Nat → Int32) : Option ((Int32 × (Nat → Int32) × (Nat → Int32) × (Nat → Int32)) ⊕ (Int32 × Int32 × (Nat → Int32) × (Nat → Int32) × (Nat → Int32))) := some (Sum.inr (v5j12, v6j12 + 1, A76j12, A77j12, A78j12))
def fX12_laysSort_J27 (F : Nat) (x69_1 : Int32) (v1 : Int64) (v4 : Int32) (v5j4 : Int32) (v6j4 : Int32) (A76j4 : Nat → Int32) (A77j4 : Nat → Int32) (A78j4 : Nat → Int32) : Option ((Int32 × (Nat → Int32) × (Nat → Int32) × (Nat → Int32)) ⊕ (Int32 × Int32 × (Nat → Int32) × (Nat → Int32) × (Nat → Int32))) := (if (fX12_isThere x69_1 v1 v4 v6j4 0) = 0 then fX12_laysSort_J99 F x69_1 v1 v4 v5j4 v6j4 A76j4 A77j4 A78j4 else ((fX12_lays A76j4 A77j4 A78j4 v5j4 v4 v6j4 (-1)).bind (fun r20 => fX12_laysSort_J99 F x69_1 v1 v4 r20.1 v6j4 r20.2.1 r20.2.2.1 r20.2.2.2)))
def fX12_laysSort_S6 (F : Nat) (x69_1 : Int32) (v1 : Int64) (v4 : Int32) (v5 : Int32) (v6 : Int32) (A76 : Nat → Int32) (A77 : Nat → Int32) (A78 : Nat → Int32) : Option ((Int32 × (Nat → Int32) × (Nat → Int32) × (Nat → Int32)) ⊕ (Int32 × Int32 × (Nat → Int32) × (Nat → Int32) × (Nat → Int32))) := (if x69_1 ≤ v6 then some (Sum.inl (v5, A76, A77, A78)) else (if v4 = 2 then fX12_laysSort_J27 F x69_1 v1 v4 v5 v6 A76 A77 A78 else (if v4 = 4 then fX12_laysSort_J27 F x69_1 v1 v4 v5 v6 A76 A77 A78 else (gloop (fun u6 : (Int32 × Int32 × (Nat → Int32) × (Nat → Int32) × (Nat → Int32)) => fX12_laysSort_S59 F x69_1 v1 v4 v6 u6.1 u6.2.1 u6.2.2.1 u6.2.2.2.1 u6.2.2.2.2) F (v5, 0, A76, A77, A78)).bind (fun t6_99 => fX12_laysSort_J99 F x69_1 v1 v4 t6_99.1 v6 t6_99.2.1 t6_99.2.2.1 t6_99.2.2.2))))
def fX12_laysSort (F : Nat) (x69_1 : Int32) (A76 : Nat → Int32) (A77 : Nat → Int32) (A78 : Nat → Int32) (p1 : Int64) (p3 : Int32) (p4 : Int32) : Option (Int32 × (Nat → Int32) × (Nat → Int32) × (Nat → Int32)) := (gloop (fun u1 : (Int32 × Int32 × (Nat → Int32) × (Nat → Int32) × (Nat → Int32)) => fX12_laysSort_S6 F x69_1 p1 p4 u1.1 u1.2.1 u1.2.2.1 u1.2.2.2.1 u1.2.2.2.2) F (p3, 0, A76, A77, A78)).bind (fun t1_105 => some (t1_105.1, t1_105.2.1, t1_105.2.2.1, t1_105.2.2.2))
theorem dX12_laysSort_0 : decode cX12_laysSort 0 = .ok (.iload_n 3, 1) := by decide +kernel
theorem dX12_laysSort_1 : decode cX12_laysSort 1 = .ok (.istore 5, 2) := by decide +kernel
theorem dX12_laysSort_3 : decode cX12_laysSort 3 = .ok (.iconst 0, 1) := by decide +kernel
theorem dX12_laysSort_4 : decode cX12_laysSort 4 = .ok (.istore 6, 2) := by decide +kernel
theorem dX12_laysSort_6 : decode cX12_laysSort 6 = .ok (.iload 6, 2) := by decide +kernel
theorem dX12_laysSort_8 : decode cX12_laysSort 8 = .ok (.aload_n 0, 1) := by decide +kernel
theorem dX12_laysSort_9 : decode cX12_laysSort 9 = .ok (.getfield 13, 3) := by decide +kernel
theorem dX12_laysSort_12 : decode cX12_laysSort 12 = .ok (.if_icmp .ge 93, 3) := by decide +kernel
theorem dX12_laysSort_15 : decode cX12_laysSort 15 = .ok (.iload 4, 2) := by decide +kernel
theorem dX12_laysSort_17 : decode cX12_laysSort 17 = .ok (.iconst 2, 1) := by decide +kernel
theorem dX12_laysSort_18 : decode cX12_laysSort 18 = .ok (.if_icmp .eq 9, 3) := by decide +kernel
theorem dX12_laysSort_21 : decode cX12_laysSort 21 = .ok (.iload 4, 2) := by decide +kernel
theorem dX12_laysSort_23 : decode cX12_laysSort 23 = .ok (.iconst 4, 1) := by decide +kernel
theorem dX12_laysSort_24 : decode cX12_laysSort 24 = .ok (.if_icmp .ne 32, 3) := by decide +kernel
theorem dX12_laysSort_27 : decode cX12_laysSort 27 = .ok (.aload_n 0, 1) := by decide +kernel
theorem dX12_laysSort_28 : decode cX12_laysSort 28 = .ok (.lload_n 1, 1) := by decide +kernel
theorem dX12_laysSort_29 : decode cX12_laysSort 29 = .ok (.iload 4, 2) := by decide +kernel
theorem dX12_laysSort_31 : decode cX12_laysSort 31 = .ok (.iload 6, 2) := by decide +kernel
theorem dX12_laysSort_33 : decode cX12_laysSort 33 = .ok (.iconst 0, 1) := by decide +kernel
theorem dX12_laysSort_34 : decode cX12_laysSort 34 = .ok (.invokevirtual 224, 3) := by decide +kernel
theorem dX12_laysSort_37 : decode cX12_laysSort 37 = .ok (.ifCond .eq 62, 3) := by decide +kernel
theorem dX12_laysSort_40 : decode cX12_laysSort 40 = .ok (.aload_n 0, 1) := by decide +kernel
theorem dX12_laysSort_41 : decode cX12_laysSort 41 = .ok (.iload 5, 2) := by decide +kernel
theorem dX12_laysSort_43 : decode cX12_laysSort 43 = .ok (.iload 4, 2) := by decide +kernel
theorem dX12_laysSort_45 : decode cX12_laysSort 45 = .ok (.iload 6, 2) := by decide +kernel
theorem dX12_laysSort_47 : decode cX12_laysSort 47 = .ok (.iconst (-1), 1) := by decide +kernel
theorem dX12_laysSort_48 : decode cX12_laysSort 48 = .ok (.invokevirtual 232, 3) := by decide +kernel
theorem dX12_laysSort_51 : decode cX12_laysSort 51 = .ok (.istore 5, 2) := by decide +kernel
theorem dX12_laysSort_53 : decode cX12_laysSort 53 = .ok (.goto 46, 3) := by decide +kernel
theorem dX12_laysSort_56 : decode cX12_laysSort 56 = .ok (.iconst 0, 1) := by decide +kernel
theorem dX12_laysSort_57 : decode cX12_laysSort 57 = .ok (.istore 7, 2) := by decide +kernel
theorem dX12_laysSort_59 : decode cX12_laysSort 59 = .ok (.iload 7, 2) := by decide +kernel
theorem dX12_laysSort_61 : decode cX12_laysSort 61 = .ok (.iconst 2, 1) := by decide +kernel
theorem dX12_laysSort_62 : decode cX12_laysSort 62 = .ok (.if_icmp .ge 37, 3) := by decide +kernel
theorem dX12_laysSort_65 : decode cX12_laysSort 65 = .ok (.aload_n 0, 1) := by decide +kernel
theorem dX12_laysSort_66 : decode cX12_laysSort 66 = .ok (.lload_n 1, 1) := by decide +kernel
theorem dX12_laysSort_67 : decode cX12_laysSort 67 = .ok (.iload 4, 2) := by decide +kernel
theorem dX12_laysSort_69 : decode cX12_laysSort 69 = .ok (.iload 6, 2) := by decide +kernel
theorem dX12_laysSort_71 : decode cX12_laysSort 71 = .ok (.iload 7, 2) := by decide +kernel
theorem dX12_laysSort_73 : decode cX12_laysSort 73 = .ok (.invokevirtual 224, 3) := by decide +kernel
theorem dX12_laysSort_76 : decode cX12_laysSort 76 = .ok (.ifCond .eq 17, 3) := by decide +kernel
theorem dX12_laysSort_79 : decode cX12_laysSort 79 = .ok (.aload_n 0, 1) := by decide +kernel
theorem dX12_laysSort_80 : decode cX12_laysSort 80 = .ok (.iload 5, 2) := by decide +kernel
theorem dX12_laysSort_82 : decode cX12_laysSort 82 = .ok (.iload 4, 2) := by decide +kernel
theorem dX12_laysSort_84 : decode cX12_laysSort 84 = .ok (.iload 6, 2) := by decide +kernel
theorem dX12_laysSort_86 : decode cX12_laysSort 86 = .ok (.iload 7, 2) := by decide +kernel
theorem dX12_laysSort_88 : decode cX12_laysSort 88 = .ok (.invokevirtual 232, 3) := by decide +kernel
theorem dX12_laysSort_91 : decode cX12_laysSort 91 = .ok (.istore 5, 2) := by decide +kernel
theorem dX12_laysSort_93 : decode cX12_laysSort 93 = .ok (.iinc 7 1, 3) := by decide +kernel
theorem dX12_laysSort_96 : decode cX12_laysSort 96 = .ok (.goto (-37), 3) := by decide +kernel
theorem dX12_laysSort_99 : decode cX12_laysSort 99 = .ok (.iinc 6 1, 3) := by decide +kernel
theorem dX12_laysSort_102 : decode cX12_laysSort 102 = .ok (.goto (-96), 3) := by decide +kernel
theorem dX12_laysSort_105 : decode cX12_laysSort 105 = .ok (.iload 5, 2) := by decide +kernel
theorem dX12_laysSort_107 : decode cX12_laysSort 107 = .ok (.ireturn, 1) := by decide +kernel
set_option maxHeartbeats 4000000 in
set_option maxRecDepth 100000 in
theorem kX12_laysSort {l : Launch} {D : va_G} {cy : Nat → ClassId} {N : Nat} {q : Nat → Nat} {m0 : Nat → Value} {a0 : Nat → vp_A} {sz : Nat} (hN : 105 ≤ N) (hsh : SH q m0) {x69_1 : Int32} (h_x69_1 : m0 6901 = .int x69_1) {A76 : Nat → Int32} (h_A76 : a0 76 = (40, .inl A76)) {A77 : Nat → Int32} (h_A77 : a0 77 = (40, .inl A77)) {A78 : Nat → Int32} (h_A78 : a0 78 = (40, .inl A78)) (F : Nat) (p1 : Int64) (p3 : Int32) (p4 : Int32) {X0 : Int32 × (Nat → Int32) × (Nat → Int32) × (Nat → Int32)} (hs0 : fX12_laysSort F x69_1 A76 A77 A78 p1 p3 p4 = some X0) : gMi l yX12_laysSort cX12_laysSort 8 (some .int) ({ frames := 4, cells := 0, slots := 0, locals := 90 } : Room) D cy N q m0 a0 sz [.ref (q 69), .long p1, .int p3, .int p4] (fun r m' a' => r = X0.1 ∧ m' = m0 ∧ a' 76 = (40, .inl X0.2.1) ∧ a' 77 = (40, .inl X0.2.2.1) ∧ a' 78 = (40, .inl X0.2.2.2) ∧ (∀ j, nel j [76, 77, 78] = false → a' j = a0 j)) := by
  refine g_ofi (by decide) (Nat.le_of_ble_eq_true rfl) ?_
  intro p e s M args below meth c hx hb hr hG hown hin hlocks hml hW hS ls hl
  unfold fX12_laysSort at hs0
  have hoffa : ∀ j, nel j [76, 77, 78] = false → a0 j = a0 j := off0
  refine lv_iload_n hx hb dX12_laysSort_0 rfl (lv_at hl 2 rfl) ?_
  refine lv_istore (lv' := [(5, .int p3), (0, .ref (q 69)), (1, .long p1), (3, .int p3), (4, .int p4)]) hx hb dX12_laysSort_1 hl (by decide) rfl (fun ls hl => ?_)
  refine lv_iconst (v := 0) hx hb dX12_laysSort_3 (by decide) ?_
  refine lv_istore (lv' := [(6, .int 0), (5, .int p3), (0, .ref (q 69)), (1, .long p1), (3, .int p3), (4, .int p4)]) hx hb dX12_laysSort_4 hl (by decide) rfl (fun ls hl => ?_)
  obtain ⟨r1, hg1, hs0⟩ := obind hs0
  have hE1_105 : ∀ (t1_105 : Int32 × (Nat → Int32) × (Nat → Int32) × (Nat → Int32)) (hr1 : t1_105 = r1) (a : Nat → vp_A) (H : Heap) (locs : List Loc) (w_A76 : a 76 = (40, .inl t1_105.2.1)) (w_A77 : a 77 = (40, .inl t1_105.2.2.1)) (w_A78 : a 78 = (40, .inl t1_105.2.2.2)) (hoffa : ∀ j, nel j [76, 77, 78] = false → a j = a0 j) (ls : Array Slot) (hl : lv_has ls 8 [(5, .int t1_105.1)]) (hW : GW D cy (gA N q s.heap.size) N q m0 a s H) (hS : va_S (gA N q s.heap.size) s.heap H locs), W p l e ({ frames := 4, cells := 0, slots := 0, locals := 90 } : Room) s M args below meth c H locs 0 0 (MQ below (va_Qi (fun (r : Int32) (u : (Nat → Value) × (Nat → vp_A)) => r = X0.1 ∧ u.1 = m0 ∧ u.2 76 = (40, .inl X0.2.1) ∧ u.2 77 = (40, .inl X0.2.2.1) ∧ u.2 78 = (40, .inl X0.2.2.2) ∧ (∀ j, nel j [76, 77, 78] = false → u.2 j = a0 j)) (gB D cy N q s.heap.size) (gA N q s.heap.size)) args s 0 0 (gA N q s.heap.size)) (F0 M 105 ls []) := by
    intro t1_105 hr1 a H locs w_A76 w_A77 w_A78 hoffa ls hl hW hS
    subst hr1
    refine lv_iload hx hb dX12_laysSort_105 (lv_at hl 0 rfl) ?_
    have hs0 := Option.some.inj hs0
    subst hs0
    exact W.zret hx hb hr rfl (fun t ht hw => ⟨⟨_, (m0, a), rfl, ⟨rfl, rfl, w_A76, w_A77, w_A78, hoffa⟩, g_end hW ht hw⟩, hS.F ht⟩) hS.2.2 dX12_laysSort_107 hlocks
  have hL1 : ∀ (n : Nat) (v5k1 : Int32) (v6k1 : Int32) (A76k1 : Nat → Int32) (A77k1 : Nat → Int32) (A78k1 : Nat → Int32) (a : Nat → vp_A) (H : Heap) (locs : List Loc) (w_A76 : a 76 = (40, .inl A76k1)) (w_A77 : a 77 = (40, .inl A77k1)) (w_A78 : a 78 = (40, .inl A78k1)) (hoffa : ∀ j, nel j [76, 77, 78] = false → a j = a0 j) (ls : Array Slot) (hl : lv_has ls 8 [(0, .ref (q 69)), (1, .long p1), (4, .int p4), (5, .int v5k1), (6, .int v6k1)]) (hg1 : gloop (fun u1 : (Int32 × Int32 × (Nat → Int32) × (Nat → Int32) × (Nat → Int32)) => fX12_laysSort_S6 F x69_1 p1 p4 u1.1 u1.2.1 u1.2.2.1 u1.2.2.2.1 u1.2.2.2.2) n (v5k1, v6k1, A76k1, A77k1, A78k1) = some r1) (hW : GW D cy (gA N q s.heap.size) N q m0 a s H) (hS : va_S (gA N q s.heap.size) s.heap H locs), W p l e ({ frames := 4, cells := 0, slots := 0, locals := 90 } : Room) s M args below meth c H locs 0 0 (MQ below (va_Qi (fun (r : Int32) (u : (Nat → Value) × (Nat → vp_A)) => r = X0.1 ∧ u.1 = m0 ∧ u.2 76 = (40, .inl X0.2.1) ∧ u.2 77 = (40, .inl X0.2.2.1) ∧ u.2 78 = (40, .inl X0.2.2.2) ∧ (∀ j, nel j [76, 77, 78] = false → u.2 j = a0 j)) (gB D cy N q s.heap.size) (gA N q s.heap.size)) args s 0 0 (gA N q s.heap.size)) (F0 M 6 ls []) := by
    intro n
    induction n with
    | zero => intro v5k1 v6k1 A76k1 A77k1 A78k1 a H locs w_A76 w_A77 w_A78 hoffa ls hl hg1 hW hS; exact (gl_zero hg1).elim
    | succ n ih1 =>
      intro v5k1 v6k1 A76k1 A77k1 A78k1 a H locs w_A76 w_A77 w_A78 hoffa ls hl hg1 hW hS
      obtain ⟨X1, hs1, hXl1, hXr1⟩ := gl_succ hg1
      have hs1 : fX12_laysSort_S6 F x69_1 p1 p4 v5k1 v6k1 A76k1 A77k1 A78k1 = some X1 := hs1
      unfold fX12_laysSort_S6 at hs1
      have hJ99_1 : ∀ (v5j31 : Int32) (v6j31 : Int32) (A76j31 : Nat → Int32) (A77j31 : Nat → Int32) (A78j31 : Nat → Int32) (a : Nat → vp_A) (H : Heap) (locs : List Loc) (w_A76 : a 76 = (40, .inl A76j31)) (w_A77 : a 77 = (40, .inl A77j31)) (w_A78 : a 78 = (40, .inl A78j31)) (hoffa : ∀ j, nel j [76, 77, 78] = false → a j = a0 j) (ls : Array Slot) (hl : lv_has ls 8 [(0, .ref (q 69)), (1, .long p1), (4, .int p4), (5, .int v5j31), (6, .int v6j31)]) (hs1 : fX12_laysSort_J99 F x69_1 p1 p4 v5j31 v6j31 A76j31 A77j31 A78j31 = some X1) (hW : GW D cy (gA N q s.heap.size) N q m0 a s H) (hS : va_S (gA N q s.heap.size) s.heap H locs), W p l e ({ frames := 4, cells := 0, slots := 0, locals := 90 } : Room) s M args below meth c H locs 0 0 (MQ below (va_Qi (fun (r : Int32) (u : (Nat → Value) × (Nat → vp_A)) => r = X0.1 ∧ u.1 = m0 ∧ u.2 76 = (40, .inl X0.2.1) ∧ u.2 77 = (40, .inl X0.2.2.1) ∧ u.2 78 = (40, .inl X0.2.2.2) ∧ (∀ j, nel j [76, 77, 78] = false → u.2 j = a0 j)) (gB D cy N q s.heap.size) (gA N q s.heap.size)) args s 0 0 (gA N q s.heap.size)) (F0 M 99 ls []) := by
        intro v5j31 v6j31 A76j31 A77j31 A78j31 a H locs w_A76 w_A77 w_A78 hoffa ls hl hs1 hW hS
        unfold fX12_laysSort_J99 at hs1
        refine lv_iinc (v := v6j31 + 1) (lv' := [(6, .int (v6j31 + 1)), (0, .ref (q 69)), (1, .long p1), (4, .int p4), (5, .int v5j31)]) hx hb dX12_laysSort_99 hl (k := 4) rfl rfl (by decide) rfl (fun ls hl => ?_)
        refine lv_goto (tgt := 6) hx hb dX12_laysSort_102 (by decide) ?_
        exact ih1 v5j31 (v6j31 + 1) A76j31 A77j31 A78j31 a _ _ w_A76 w_A77 w_A78 hoffa ls (lv_sub hl [1, 2, 3, 4, 0] rfl) (hXr1 _ (Option.some.inj hs1).symm) hW hS
      have hJ27_1 : ∀ (v5j23 : Int32) (v6j23 : Int32) (A76j23 : Nat → Int32) (A77j23 : Nat → Int32) (A78j23 : Nat → Int32) (a : Nat → vp_A) (H : Heap) (locs : List Loc) (w_A76 : a 76 = (40, .inl A76j23)) (w_A77 : a 77 = (40, .inl A77j23)) (w_A78 : a 78 = (40, .inl A78j23)) (hoffa : ∀ j, nel j [76, 77, 78] = false → a j = a0 j) (ls : Array Slot) (hl : lv_has ls 8 [(0, .ref (q 69)), (1, .long p1), (4, .int p4), (5, .int v5j23), (6, .int v6j23)]) (hs1 : fX12_laysSort_J27 F x69_1 p1 p4 v5j23 v6j23 A76j23 A77j23 A78j23 = some X1) (hW : GW D cy (gA N q s.heap.size) N q m0 a s H) (hS : va_S (gA N q s.heap.size) s.heap H locs), W p l e ({ frames := 4, cells := 0, slots := 0, locals := 90 } : Room) s M args below meth c H locs 0 0 (MQ below (va_Qi (fun (r : Int32) (u : (Nat → Value) × (Nat → vp_A)) => r = X0.1 ∧ u.1 = m0 ∧ u.2 76 = (40, .inl X0.2.1) ∧ u.2 77 = (40, .inl X0.2.2.1) ∧ u.2 78 = (40, .inl X0.2.2.2) ∧ (∀ j, nel j [76, 77, 78] = false → u.2 j = a0 j)) (gB D cy N q s.heap.size) (gA N q s.heap.size)) args s 0 0 (gA N q s.heap.size)) (F0 M 27 ls []) := by
        intro v5j23 v6j23 A76j23 A77j23 A78j23 a H locs w_A76 w_A77 w_A78 hoffa ls hl hs1 hW hS
        unfold fX12_laysSort_J27 at hs1
        refine lv_aload_n hx hb dX12_laysSort_27 rfl (lv_at hl 0 rfl) ?_
        refine lv_lload_n hx hb dX12_laysSort_28 rfl (lv_at hl 1 rfl) ?_
        refine lv_iload hx hb dX12_laysSort_29 (lv_at hl 2 rfl) ?_
        refine lv_iload hx hb dX12_laysSort_31 (lv_at hl 4 rfl) ?_
        refine lv_iconst (v := 0) hx hb dX12_laysSort_33 (by decide) ?_
        refine g_ViR (n := 4) hx hb hml hown hG hW hS [.long p1, .int p4, .int v6j23, .int 0] (kX12_isThere hN h_x69_1 p1 p4 v6j23 0) (ltN hN 69 rfl) gk69 (by decide) rfl rfl (gd_V gx497 gx498 gx499 gx5 gx500) rfl rfl (by decide) ⟨Nat.le_of_ble_eq_true rfl, Nat.le_of_ble_eq_true rfl⟩ rfl hl (Nat.le_of_ble_eq_true rfl) ⟨Nat.zero_le _, Nat.zero_le _⟩ dX12_laysSort_34 (fun H locs hW hS => ?_)
        refine lv_if_eq (tgt := 99) hx hb dX12_laysSort_37 (by decide) (fun c38 => ?_) (fun c38 => ?_)
        · rw [if_pos c38] at hs1
          exact hJ99_1 v5j23 v6j23 A76j23 A77j23 A78j23 a _ _ w_A76 w_A77 w_A78 hoffa ls (lv_sub hl [0, 1, 2, 3, 4] rfl) hs1 hW hS
        · rw [if_neg c38] at hs1
          refine lv_aload_n hx hb dX12_laysSort_40 rfl (lv_at hl 0 rfl) ?_
          refine lv_iload hx hb dX12_laysSort_41 (lv_at hl 3 rfl) ?_
          refine lv_iload hx hb dX12_laysSort_43 (lv_at hl 2 rfl) ?_
          refine lv_iload hx hb dX12_laysSort_45 (lv_at hl 4 rfl) ?_
          refine lv_iconst (v := (-1)) hx hb dX12_laysSort_47 (by decide) ?_
          obtain ⟨r39, hf39, hs1⟩ := obind hs1
          refine g_Vi (n := 4) hx hb hml hown hG hW hS [.int v5j23, .int p4, .int v6j23, .int (-1)] (kX12_lays hN hsh w_A76 w_A77 w_A78 v5j23 p4 v6j23 (-1) hf39) (ltN hN 69 rfl) gk69 (by decide) rfl rfl (gd_V gx576 gx577 gx578 gx5 gx579) rfl rfl (by decide) ⟨Nat.le_of_ble_eq_true rfl, Nat.le_of_ble_eq_true rfl⟩ rfl hl (Nat.le_of_ble_eq_true rfl) ⟨Nat.zero_le _, Nat.zero_le _⟩ dX12_laysSort_48 (fun x39 m39 a39 H locs hp39 hW hS => ?_)
          obtain ⟨hx39, hm39, hp39_A76, hp39_A77, hp39_A78, hoa39⟩ := hp39
          subst hx39
          rw [hm39] at hW
          have w_A76 : a39 76 = (40, .inl r39.2.1) := hp39_A76
          have w_A77 : a39 77 = (40, .inl r39.2.2.1) := hp39_A77
          have w_A78 : a39 78 = (40, .inl r39.2.2.2) := hp39_A78
          have hoffa := offm hoffa hoa39 (by decide +kernel)
          refine lv_istore (lv' := [(5, .int r39.1), (0, .ref (q 69)), (1, .long p1), (4, .int p4), (6, .int v6j23)]) hx hb dX12_laysSort_51 hl (by decide) rfl (fun ls hl => ?_)
          refine lv_goto (tgt := 99) hx hb dX12_laysSort_53 (by decide) ?_
          exact hJ99_1 r39.1 v6j23 r39.2.1 r39.2.2.1 r39.2.2.2 a39 _ _ w_A76 w_A77 w_A78 hoffa ls (lv_sub hl [1, 2, 3, 0, 4] rfl) hs1 hW hS
      refine lv_iload hx hb dX12_laysSort_6 (lv_at hl 4 rfl) ?_
      refine lv_aload_n hx hb dX12_laysSort_8 rfl (lv_at hl 0 rfl) ?_
      refine gf12_1 hx hb hG hown hW (o := 69) (ltN hN 69 rfl) gk69 (v := .int x69_1) h_x69_1 gx163 dX12_laysSort_9 ?_
      refine lv_icmp_ge (tgt := 105) hx hb dX12_laysSort_12 (by decide) (fun c21 => ?_) (fun c21 => ?_)
      · rw [if_pos c21] at hs1
        exact hE1_105 (v5k1, A76k1, A77k1, A78k1) (hXl1 _ (Option.some.inj hs1).symm) a _ _ w_A76 w_A77 w_A78 hoffa ls (lv_sub hl [3] rfl) hW hS
      · rw [if_neg c21] at hs1
        refine lv_iload hx hb dX12_laysSort_15 (lv_at hl 2 rfl) ?_
        refine lv_iconst (v := 2) hx hb dX12_laysSort_17 (by decide) ?_
        refine lv_icmp_eq (tgt := 27) hx hb dX12_laysSort_18 (by decide) (fun c22 => ?_) (fun c22 => ?_)
        · rw [if_pos c22] at hs1
          exact hJ27_1 v5k1 v6k1 A76k1 A77k1 A78k1 a _ _ w_A76 w_A77 w_A78 hoffa ls (lv_sub hl [0, 1, 2, 3, 4] rfl) hs1 hW hS
        · rw [if_neg c22] at hs1
          refine lv_iload hx hb dX12_laysSort_21 (lv_at hl 2 rfl) ?_
          refine lv_iconst (v := 4) hx hb dX12_laysSort_23 (by decide) ?_
          refine lv_icmp_ne (tgt := 56) hx hb dX12_laysSort_24 (by decide) (fun c24 => ?_) (fun c24 => ?_)
          · rw [if_neg c24] at hs1
            refine lv_iconst (v := 0) hx hb dX12_laysSort_56 (by decide) ?_
            refine lv_istore (lv' := [(7, .int 0), (0, .ref (q 69)), (1, .long p1), (4, .int p4), (5, .int v5k1), (6, .int v6k1)]) hx hb dX12_laysSort_57 hl (by decide) rfl (fun ls hl => ?_)
            obtain ⟨r25, hg25, hs1⟩ := obind hs1
            have hE2_99 : ∀ (t25_99 : Int32 × (Nat → Int32) × (Nat → Int32) × (Nat → Int32)) (hr25 : t25_99 = r25) (a : Nat → vp_A) (H : Heap) (locs : List Loc) (w_A76 : a 76 = (40, .inl t25_99.2.1)) (w_A77 : a 77 = (40, .inl t25_99.2.2.1)) (w_A78 : a 78 = (40, .inl t25_99.2.2.2)) (hoffa : ∀ j, nel j [76, 77, 78] = false → a j = a0 j) (ls : Array Slot) (hl : lv_has ls 8 [(0, .ref (q 69)), (1, .long p1), (4, .int p4), (5, .int t25_99.1), (6, .int v6k1)]) (hW : GW D cy (gA N q s.heap.size) N q m0 a s H) (hS : va_S (gA N q s.heap.size) s.heap H locs), W p l e ({ frames := 4, cells := 0, slots := 0, locals := 90 } : Room) s M args below meth c H locs 0 0 (MQ below (va_Qi (fun (r : Int32) (u : (Nat → Value) × (Nat → vp_A)) => r = X0.1 ∧ u.1 = m0 ∧ u.2 76 = (40, .inl X0.2.1) ∧ u.2 77 = (40, .inl X0.2.2.1) ∧ u.2 78 = (40, .inl X0.2.2.2) ∧ (∀ j, nel j [76, 77, 78] = false → u.2 j = a0 j)) (gB D cy N q s.heap.size) (gA N q s.heap.size)) args s 0 0 (gA N q s.heap.size)) (F0 M 99 ls []) := by
              intro t25_99 hr25 a H locs w_A76 w_A77 w_A78 hoffa ls hl hW hS
              subst hr25
              exact hJ99_1 t25_99.1 v6k1 t25_99.2.1 t25_99.2.2.1 t25_99.2.2.2 a _ _ w_A76 w_A77 w_A78 hoffa ls (lv_sub hl [0, 1, 2, 3, 4] rfl) hs1 hW hS
            have hL2 : ∀ (n : Nat) (v5k25 : Int32) (v7k25 : Int32) (A76k25 : Nat → Int32) (A77k25 : Nat → Int32) (A78k25 : Nat → Int32) (a : Nat → vp_A) (H : Heap) (locs : List Loc) (w_A76 : a 76 = (40, .inl A76k25)) (w_A77 : a 77 = (40, .inl A77k25)) (w_A78 : a 78 = (40, .inl A78k25)) (hoffa : ∀ j, nel j [76, 77, 78] = false → a j = a0 j) (ls : Array Slot) (hl : lv_has ls 8 [(0, .ref (q 69)), (1, .long p1), (4, .int p4), (5, .int v5k25), (6, .int v6k1), (7, .int v7k25)]) (hg25 : gloop (fun u25 : (Int32 × Int32 × (Nat → Int32) × (Nat → Int32) × (Nat → Int32)) => fX12_laysSort_S59 F x69_1 p1 p4 v6k1 u25.1 u25.2.1 u25.2.2.1 u25.2.2.2.1 u25.2.2.2.2) n (v5k25, v7k25, A76k25, A77k25, A78k25) = some r25) (hW : GW D cy (gA N q s.heap.size) N q m0 a s H) (hS : va_S (gA N q s.heap.size) s.heap H locs), W p l e ({ frames := 4, cells := 0, slots := 0, locals := 90 } : Room) s M args below meth c H locs 0 0 (MQ below (va_Qi (fun (r : Int32) (u : (Nat → Value) × (Nat → vp_A)) => r = X0.1 ∧ u.1 = m0 ∧ u.2 76 = (40, .inl X0.2.1) ∧ u.2 77 = (40, .inl X0.2.2.1) ∧ u.2 78 = (40, .inl X0.2.2.2) ∧ (∀ j, nel j [76, 77, 78] = false → u.2 j = a0 j)) (gB D cy N q s.heap.size) (gA N q s.heap.size)) args s 0 0 (gA N q s.heap.size)) (F0 M 59 ls []) := by
              intro n
              induction n with
              | zero => intro v5k25 v7k25 A76k25 A77k25 A78k25 a H locs w_A76 w_A77 w_A78 hoffa ls hl hg25 hW hS; exact (gl_zero hg25).elim
              | succ n ih2 =>
                intro v5k25 v7k25 A76k25 A77k25 A78k25 a H locs w_A76 w_A77 w_A78 hoffa ls hl hg25 hW hS
                obtain ⟨X2, hs2, hXl2, hXr2⟩ := gl_succ hg25
                have hs2 : fX12_laysSort_S59 F x69_1 p1 p4 v6k1 v5k25 v7k25 A76k25 A77k25 A78k25 = some X2 := hs2
                unfold fX12_laysSort_S59 at hs2
                have hJ93_2 : ∀ (v5j35 : Int32) (v7j35 : Int32) (A76j35 : Nat → Int32) (A77j35 : Nat → Int32) (A78j35 : Nat → Int32) (a : Nat → vp_A) (H : Heap) (locs : List Loc) (w_A76 : a 76 = (40, .inl A76j35)) (w_A77 : a 77 = (40, .inl A77j35)) (w_A78 : a 78 = (40, .inl A78j35)) (hoffa : ∀ j, nel j [76, 77, 78] = false → a j = a0 j) (ls : Array Slot) (hl : lv_has ls 8 [(0, .ref (q 69)), (1, .long p1), (4, .int p4), (5, .int v5j35), (6, .int v6k1), (7, .int v7j35)]) (hs2 : fX12_laysSort_J93 F x69_1 p1 p4 v5j35 v6k1 v7j35 A76j35 A77j35 A78j35 = some X2) (hW : GW D cy (gA N q s.heap.size) N q m0 a s H) (hS : va_S (gA N q s.heap.size) s.heap H locs), W p l e ({ frames := 4, cells := 0, slots := 0, locals := 90 } : Room) s M args below meth c H locs 0 0 (MQ below (va_Qi (fun (r : Int32) (u : (Nat → Value) × (Nat → vp_A)) => r = X0.1 ∧ u.1 = m0 ∧ u.2 76 = (40, .inl X0.2.1) ∧ u.2 77 = (40, .inl X0.2.2.1) ∧ u.2 78 = (40, .inl X0.2.2.2) ∧ (∀ j, nel j [76, 77, 78] = false → u.2 j = a0 j)) (gB D cy N q s.heap.size) (gA N q s.heap.size)) args s 0 0 (gA N q s.heap.size)) (F0 M 93 ls []) := by
                  intro v5j35 v7j35 A76j35 A77j35 A78j35 a H locs w_A76 w_A77 w_A78 hoffa ls hl hs2 hW hS
                  unfold fX12_laysSort_J93 at hs2
                  refine lv_iinc (v := v7j35 + 1) (lv' := [(7, .int (v7j35 + 1)), (0, .ref (q 69)), (1, .long p1), (4, .int p4), (5, .int v5j35), (6, .int v6k1)]) hx hb dX12_laysSort_93 hl (k := 5) rfl rfl (by decide) rfl (fun ls hl => ?_)
                  refine lv_goto (tgt := 59) hx hb dX12_laysSort_96 (by decide) ?_
                  exact ih2 v5j35 (v7j35 + 1) A76j35 A77j35 A78j35 a _ _ w_A76 w_A77 w_A78 hoffa ls (lv_sub hl [1, 2, 3, 4, 5, 0] rfl) (hXr2 _ (Option.some.inj hs2).symm) hW hS
                refine lv_iload hx hb dX12_laysSort_59 (lv_at hl 5 rfl) ?_
                refine lv_iconst (v := 2) hx hb dX12_laysSort_61 (by decide) ?_
                refine lv_icmp_ge (tgt := 99) hx hb dX12_laysSort_62 (by decide) (fun c32 => ?_) (fun c32 => ?_)
                · rw [if_pos c32] at hs2
                  exact hE2_99 (v5k25, A76k25, A77k25, A78k25) (hXl2 _ (Option.some.inj hs2).symm) a _ _ w_A76 w_A77 w_A78 hoffa ls (lv_sub hl [0, 1, 2, 3, 4] rfl) hW hS
                · rw [if_neg c32] at hs2
                  refine lv_aload_n hx hb dX12_laysSort_65 rfl (lv_at hl 0 rfl) ?_
                  refine lv_lload_n hx hb dX12_laysSort_66 rfl (lv_at hl 1 rfl) ?_
                  refine lv_iload hx hb dX12_laysSort_67 (lv_at hl 2 rfl) ?_
                  refine lv_iload hx hb dX12_laysSort_69 (lv_at hl 4 rfl) ?_
                  refine lv_iload hx hb dX12_laysSort_71 (lv_at hl 5 rfl) ?_
                  refine g_ViR (n := 4) hx hb hml hown hG hW hS [.long p1, .int p4, .int v6k1, .int v7k25] (kX12_isThere hN h_x69_1 p1 p4 v6k1 v7k25) (ltN hN 69 rfl) gk69 (by decide) rfl rfl (gd_V gx497 gx498 gx499 gx5 gx500) rfl rfl (by decide) ⟨Nat.le_of_ble_eq_true rfl, Nat.le_of_ble_eq_true rfl⟩ rfl hl (Nat.le_of_ble_eq_true rfl) ⟨Nat.zero_le _, Nat.zero_le _⟩ dX12_laysSort_73 (fun H locs hW hS => ?_)
                  refine lv_if_eq (tgt := 93) hx hb dX12_laysSort_76 (by decide) (fun c34 => ?_) (fun c34 => ?_)
                  · rw [if_pos c34] at hs2
                    exact hJ93_2 v5k25 v7k25 A76k25 A77k25 A78k25 a _ _ w_A76 w_A77 w_A78 hoffa ls (lv_sub hl [0, 1, 2, 3, 4, 5] rfl) hs2 hW hS
                  · rw [if_neg c34] at hs2
                    refine lv_aload_n hx hb dX12_laysSort_79 rfl (lv_at hl 0 rfl) ?_
                    refine lv_iload hx hb dX12_laysSort_80 (lv_at hl 3 rfl) ?_
                    refine lv_iload hx hb dX12_laysSort_82 (lv_at hl 2 rfl) ?_
                    refine lv_iload hx hb dX12_laysSort_84 (lv_at hl 4 rfl) ?_
                    refine lv_iload hx hb dX12_laysSort_86 (lv_at hl 5 rfl) ?_
                    obtain ⟨r36, hf36, hs2⟩ := obind hs2
                    refine g_Vi (n := 4) hx hb hml hown hG hW hS [.int v5k25, .int p4, .int v6k1, .int v7k25] (kX12_lays hN hsh w_A76 w_A77 w_A78 v5k25 p4 v6k1 v7k25 hf36) (ltN hN 69 rfl) gk69 (by decide) rfl rfl (gd_V gx576 gx577 gx578 gx5 gx579) rfl rfl (by decide) ⟨Nat.le_of_ble_eq_true rfl, Nat.le_of_ble_eq_true rfl⟩ rfl hl (Nat.le_of_ble_eq_true rfl) ⟨Nat.zero_le _, Nat.zero_le _⟩ dX12_laysSort_88 (fun x36 m36 a36 H locs hp36 hW hS => ?_)
                    obtain ⟨hx36, hm36, hp36_A76, hp36_A77, hp36_A78, hoa36⟩ := hp36
                    subst hx36
                    rw [hm36] at hW
                    have w_A76 : a36 76 = (40, .inl r36.2.1) := hp36_A76
                    have w_A77 : a36 77 = (40, .inl r36.2.2.1) := hp36_A77
                    have w_A78 : a36 78 = (40, .inl r36.2.2.2) := hp36_A78
                    have hoffa := offm hoffa hoa36 (by decide +kernel)
                    refine lv_istore (lv' := [(5, .int r36.1), (0, .ref (q 69)), (1, .long p1), (4, .int p4), (6, .int v6k1), (7, .int v7k25)]) hx hb dX12_laysSort_91 hl (by decide) rfl (fun ls hl => ?_)
                    exact hJ93_2 r36.1 v7k25 r36.2.1 r36.2.2.1 r36.2.2.2 a36 _ _ w_A76 w_A77 w_A78 hoffa ls (lv_sub hl [1, 2, 3, 0, 4, 5] rfl) hs2 hW hS
            exact hL2 F v5k1 0 A76k1 A77k1 A78k1 a _ _ w_A76 w_A77 w_A78 hoffa ls (lv_sub hl [1, 2, 3, 4, 5, 0] rfl) hg25 hW hS
          · rw [if_pos c24] at hs1
            exact hJ27_1 v5k1 v6k1 A76k1 A77k1 A78k1 a _ _ w_A76 w_A77 w_A78 hoffa ls (lv_sub hl [0, 1, 2, 3, 4] rfl) hs1 hW hS
  exact hL1 F p3 0 A76 A77 A78 a0 _ _ h_A76 h_A77 h_A78 hoffa ls (lv_sub hl [2, 3, 5, 1, 0] rfl) hg1 hW hS
-- HealLinkModel.laysActs (JZ)I
def fX12_laysActs (F : Nat) (x69_1 : Int32) (A76 : Nat → Int32) (A77 : Nat → Int32) (A78 : Nat → Int32) (p1 : Int64) (p3 : Int32) : Option (Int32 × (Nat → Int32) × (Nat → Int32) × (Nat → Int32)) := ((fX12_lays A76 A77 A78 0 0 (-1) (-1)).bind (fun r1 => ((fX12_laysSort F x69_1 r1.2.1 r1.2.2.1 r1.2.2.2 p1 r1.1 1).bind (fun r2 => ((fX12_laysSort F x69_1 r2.2.1 r2.2.2.1 r2.2.2.2 p1 r2.1 2).bind (fun r3 => (if p3 = 0 then some (r3.1, r3.2.1, r3.2.2.1, r3.2.2.2) else ((fX12_laysSort F x69_1 r3.2.1 r3.2.2.1 r3.2.2.2 p1 r3.1 3).bind (fun r5 => ((fX12_laysSort F x69_1 r5.2.1 r5.2.2.1 r5.2.2.2 p1 r5.1 4).bind (fun r6 => some (r6.1, r6.2.1, r6.2.2.1, r6.2.2.2))))))))))))
theorem dX12_laysActs_0 : decode cX12_laysActs 0 = .ok (.aload_n 0, 1) := by decide +kernel
theorem dX12_laysActs_1 : decode cX12_laysActs 1 = .ok (.iconst 0, 1) := by decide +kernel
theorem dX12_laysActs_2 : decode cX12_laysActs 2 = .ok (.iconst 0, 1) := by decide +kernel
theorem dX12_laysActs_3 : decode cX12_laysActs 3 = .ok (.iconst (-1), 1) := by decide +kernel
theorem dX12_laysActs_4 : decode cX12_laysActs 4 = .ok (.iconst (-1), 1) := by decide +kernel
theorem dX12_laysActs_5 : decode cX12_laysActs 5 = .ok (.invokevirtual 232, 3) := by decide +kernel
theorem dX12_laysActs_8 : decode cX12_laysActs 8 = .ok (.istore 4, 2) := by decide +kernel
theorem dX12_laysActs_10 : decode cX12_laysActs 10 = .ok (.aload_n 0, 1) := by decide +kernel
theorem dX12_laysActs_11 : decode cX12_laysActs 11 = .ok (.lload_n 1, 1) := by decide +kernel
theorem dX12_laysActs_12 : decode cX12_laysActs 12 = .ok (.iload 4, 2) := by decide +kernel
theorem dX12_laysActs_14 : decode cX12_laysActs 14 = .ok (.iconst 1, 1) := by decide +kernel
theorem dX12_laysActs_15 : decode cX12_laysActs 15 = .ok (.invokevirtual 236, 3) := by decide +kernel
theorem dX12_laysActs_18 : decode cX12_laysActs 18 = .ok (.istore 4, 2) := by decide +kernel
theorem dX12_laysActs_20 : decode cX12_laysActs 20 = .ok (.aload_n 0, 1) := by decide +kernel
theorem dX12_laysActs_21 : decode cX12_laysActs 21 = .ok (.lload_n 1, 1) := by decide +kernel
theorem dX12_laysActs_22 : decode cX12_laysActs 22 = .ok (.iload 4, 2) := by decide +kernel
theorem dX12_laysActs_24 : decode cX12_laysActs 24 = .ok (.iconst 2, 1) := by decide +kernel
theorem dX12_laysActs_25 : decode cX12_laysActs 25 = .ok (.invokevirtual 236, 3) := by decide +kernel
theorem dX12_laysActs_28 : decode cX12_laysActs 28 = .ok (.istore 4, 2) := by decide +kernel
theorem dX12_laysActs_30 : decode cX12_laysActs 30 = .ok (.iload_n 3, 1) := by decide +kernel
theorem dX12_laysActs_31 : decode cX12_laysActs 31 = .ok (.ifCond .ne 6, 3) := by decide +kernel
theorem dX12_laysActs_34 : decode cX12_laysActs 34 = .ok (.iload 4, 2) := by decide +kernel
theorem dX12_laysActs_36 : decode cX12_laysActs 36 = .ok (.ireturn, 1) := by decide +kernel
theorem dX12_laysActs_37 : decode cX12_laysActs 37 = .ok (.aload_n 0, 1) := by decide +kernel
theorem dX12_laysActs_38 : decode cX12_laysActs 38 = .ok (.lload_n 1, 1) := by decide +kernel
theorem dX12_laysActs_39 : decode cX12_laysActs 39 = .ok (.iload 4, 2) := by decide +kernel
theorem dX12_laysActs_41 : decode cX12_laysActs 41 = .ok (.iconst 3, 1) := by decide +kernel
theorem dX12_laysActs_42 : decode cX12_laysActs 42 = .ok (.invokevirtual 236, 3) := by decide +kernel
theorem dX12_laysActs_45 : decode cX12_laysActs 45 = .ok (.istore 4, 2) := by decide +kernel
theorem dX12_laysActs_47 : decode cX12_laysActs 47 = .ok (.aload_n 0, 1) := by decide +kernel
theorem dX12_laysActs_48 : decode cX12_laysActs 48 = .ok (.lload_n 1, 1) := by decide +kernel
theorem dX12_laysActs_49 : decode cX12_laysActs 49 = .ok (.iload 4, 2) := by decide +kernel
theorem dX12_laysActs_51 : decode cX12_laysActs 51 = .ok (.iconst 4, 1) := by decide +kernel
theorem dX12_laysActs_52 : decode cX12_laysActs 52 = .ok (.invokevirtual 236, 3) := by decide +kernel
theorem dX12_laysActs_55 : decode cX12_laysActs 55 = .ok (.ireturn, 1) := by decide +kernel
set_option maxHeartbeats 4000000 in
set_option maxRecDepth 100000 in
theorem kX12_laysActs {l : Launch} {D : va_G} {cy : Nat → ClassId} {N : Nat} {q : Nat → Nat} {m0 : Nat → Value} {a0 : Nat → vp_A} {sz : Nat} (hN : 105 ≤ N) (hsh : SH q m0) {x69_1 : Int32} (h_x69_1 : m0 6901 = .int x69_1) {A76 : Nat → Int32} (h_A76 : a0 76 = (40, .inl A76)) {A77 : Nat → Int32} (h_A77 : a0 77 = (40, .inl A77)) {A78 : Nat → Int32} (h_A78 : a0 78 = (40, .inl A78)) (F : Nat) (p1 : Int64) (p3 : Int32) {X0 : Int32 × (Nat → Int32) × (Nat → Int32) × (Nat → Int32)} (hs0 : fX12_laysActs F x69_1 A76 A77 A78 p1 p3 = some X0) : gMi l yX12_laysActs cX12_laysActs 5 (some .int) ({ frames := 5, cells := 0, slots := 0, locals := 117 } : Room) D cy N q m0 a0 sz [.ref (q 69), .long p1, .int p3] (fun r m' a' => r = X0.1 ∧ m' = m0 ∧ a' 76 = (40, .inl X0.2.1) ∧ a' 77 = (40, .inl X0.2.2.1) ∧ a' 78 = (40, .inl X0.2.2.2) ∧ (∀ j, nel j [76, 77, 78] = false → a' j = a0 j)) := by
  refine g_ofi (by decide) (Nat.le_of_ble_eq_true rfl) ?_
  intro p e s M args below meth c hx hb hr hG hown hin hlocks hml hW hS ls hl
  unfold fX12_laysActs at hs0
  have hoffa : ∀ j, nel j [76, 77, 78] = false → a0 j = a0 j := off0
  refine lv_aload_n hx hb dX12_laysActs_0 rfl (lv_at hl 0 rfl) ?_
  refine lv_iconst (v := 0) hx hb dX12_laysActs_1 (by decide) ?_
  refine lv_iconst (v := 0) hx hb dX12_laysActs_2 (by decide) ?_
  refine lv_iconst (v := (-1)) hx hb dX12_laysActs_3 (by decide) ?_
  refine lv_iconst (v := (-1)) hx hb dX12_laysActs_4 (by decide) ?_
  obtain ⟨r1, hf1, hs0⟩ := obind hs0
  refine g_Vi (n := 4) hx hb hml hown hG hW hS [.int 0, .int 0, .int (-1), .int (-1)] (kX12_lays hN hsh h_A76 h_A77 h_A78 0 0 (-1) (-1) hf1) (ltN hN 69 rfl) gk69 (by decide) rfl rfl (gd_V gx576 gx577 gx578 gx5 gx579) rfl rfl (by decide) ⟨Nat.le_of_ble_eq_true rfl, Nat.le_of_ble_eq_true rfl⟩ rfl hl (Nat.le_of_ble_eq_true rfl) ⟨Nat.zero_le _, Nat.zero_le _⟩ dX12_laysActs_5 (fun x1 m1 a1 H locs hp1 hW hS => ?_)
  obtain ⟨hx1, hm1, hp1_A76, hp1_A77, hp1_A78, hoa1⟩ := hp1
  subst hx1
  rw [hm1] at hW
  have w_A76 : a1 76 = (40, .inl r1.2.1) := hp1_A76
  have w_A77 : a1 77 = (40, .inl r1.2.2.1) := hp1_A77
  have w_A78 : a1 78 = (40, .inl r1.2.2.2) := hp1_A78
  have hoffa := offm hoffa hoa1 (by decide +kernel)
  refine lv_istore (lv' := [(4, .int r1.1), (0, .ref (q 69)), (1, .long p1), (3, .int p3)]) hx hb dX12_laysActs_8 hl (by decide) rfl (fun ls hl => ?_)
  refine lv_aload_n hx hb dX12_laysActs_10 rfl (lv_at hl 1 rfl) ?_
  refine lv_lload_n hx hb dX12_laysActs_11 rfl (lv_at hl 2 rfl) ?_
  refine lv_iload hx hb dX12_laysActs_12 (lv_at hl 0 rfl) ?_
  refine lv_iconst (v := 1) hx hb dX12_laysActs_14 (by decide) ?_
  obtain ⟨r2, hf2, hs0⟩ := obind hs0
  refine g_Vi (n := 3) hx hb hml hown hG hW hS [.long p1, .int r1.1, .int 1] (kX12_laysSort hN hsh h_x69_1 w_A76 w_A77 w_A78 F p1 r1.1 1 hf2) (ltN hN 69 rfl) gk69 (by decide) rfl rfl (gd_V gx580 gx581 gx582 gx5 gx583) rfl rfl (by decide) ⟨Nat.le_of_ble_eq_true rfl, Nat.le_of_ble_eq_true rfl⟩ rfl hl (Nat.le_of_ble_eq_true rfl) ⟨Nat.zero_le _, Nat.zero_le _⟩ dX12_laysActs_15 (fun x2 m2 a2 H locs hp2 hW hS => ?_)
  obtain ⟨hx2, hm2, hp2_A76, hp2_A77, hp2_A78, hoa2⟩ := hp2
  subst hx2
  rw [hm2] at hW
  have w_A76 : a2 76 = (40, .inl r2.2.1) := hp2_A76
  have w_A77 : a2 77 = (40, .inl r2.2.2.1) := hp2_A77
  have w_A78 : a2 78 = (40, .inl r2.2.2.2) := hp2_A78
  have hoffa := offm hoffa hoa2 (by decide +kernel)
  refine lv_istore (lv' := [(4, .int r2.1), (0, .ref (q 69)), (1, .long p1), (3, .int p3)]) hx hb dX12_laysActs_18 hl (by decide) rfl (fun ls hl => ?_)
  refine lv_aload_n hx hb dX12_laysActs_20 rfl (lv_at hl 1 rfl) ?_
  refine lv_lload_n hx hb dX12_laysActs_21 rfl (lv_at hl 2 rfl) ?_
  refine lv_iload hx hb dX12_laysActs_22 (lv_at hl 0 rfl) ?_
  refine lv_iconst (v := 2) hx hb dX12_laysActs_24 (by decide) ?_
  obtain ⟨r3, hf3, hs0⟩ := obind hs0
  refine g_Vi (n := 3) hx hb hml hown hG hW hS [.long p1, .int r2.1, .int 2] (kX12_laysSort hN hsh h_x69_1 w_A76 w_A77 w_A78 F p1 r2.1 2 hf3) (ltN hN 69 rfl) gk69 (by decide) rfl rfl (gd_V gx580 gx581 gx582 gx5 gx583) rfl rfl (by decide) ⟨Nat.le_of_ble_eq_true rfl, Nat.le_of_ble_eq_true rfl⟩ rfl hl (Nat.le_of_ble_eq_true rfl) ⟨Nat.zero_le _, Nat.zero_le _⟩ dX12_laysActs_25 (fun x3 m3 a3 H locs hp3 hW hS => ?_)
  obtain ⟨hx3, hm3, hp3_A76, hp3_A77, hp3_A78, hoa3⟩ := hp3
  subst hx3
  rw [hm3] at hW
  have w_A76 : a3 76 = (40, .inl r3.2.1) := hp3_A76
  have w_A77 : a3 77 = (40, .inl r3.2.2.1) := hp3_A77
  have w_A78 : a3 78 = (40, .inl r3.2.2.2) := hp3_A78
  have hoffa := offm hoffa hoa3 (by decide +kernel)
  refine lv_istore (lv' := [(4, .int r3.1), (0, .ref (q 69)), (1, .long p1), (3, .int p3)]) hx hb dX12_laysActs_28 hl (by decide) rfl (fun ls hl => ?_)
  refine lv_iload_n hx hb dX12_laysActs_30 rfl (lv_at hl 3 rfl) ?_
  refine lv_if_ne (tgt := 37) hx hb dX12_laysActs_31 (by decide) (fun c4 => ?_) (fun c4 => ?_)
  · rw [if_neg c4] at hs0
    refine lv_aload_n hx hb dX12_laysActs_37 rfl (lv_at hl 1 rfl) ?_
    refine lv_lload_n hx hb dX12_laysActs_38 rfl (lv_at hl 2 rfl) ?_
    refine lv_iload hx hb dX12_laysActs_39 (lv_at hl 0 rfl) ?_
    refine lv_iconst (v := 3) hx hb dX12_laysActs_41 (by decide) ?_
    obtain ⟨r5, hf5, hs0⟩ := obind hs0
    refine g_Vi (n := 3) hx hb hml hown hG hW hS [.long p1, .int r3.1, .int 3] (kX12_laysSort hN hsh h_x69_1 w_A76 w_A77 w_A78 F p1 r3.1 3 hf5) (ltN hN 69 rfl) gk69 (by decide) rfl rfl (gd_V gx580 gx581 gx582 gx5 gx583) rfl rfl (by decide) ⟨Nat.le_of_ble_eq_true rfl, Nat.le_of_ble_eq_true rfl⟩ rfl hl (Nat.le_of_ble_eq_true rfl) ⟨Nat.zero_le _, Nat.zero_le _⟩ dX12_laysActs_42 (fun x5 m5 a5 H locs hp5 hW hS => ?_)
    obtain ⟨hx5, hm5, hp5_A76, hp5_A77, hp5_A78, hoa5⟩ := hp5
    subst hx5
    rw [hm5] at hW
    have w_A76 : a5 76 = (40, .inl r5.2.1) := hp5_A76
    have w_A77 : a5 77 = (40, .inl r5.2.2.1) := hp5_A77
    have w_A78 : a5 78 = (40, .inl r5.2.2.2) := hp5_A78
    have hoffa := offm hoffa hoa5 (by decide +kernel)
    refine lv_istore (lv' := [(4, .int r5.1), (0, .ref (q 69)), (1, .long p1), (3, .int p3)]) hx hb dX12_laysActs_45 hl (by decide) rfl (fun ls hl => ?_)
    refine lv_aload_n hx hb dX12_laysActs_47 rfl (lv_at hl 1 rfl) ?_
    refine lv_lload_n hx hb dX12_laysActs_48 rfl (lv_at hl 2 rfl) ?_
    refine lv_iload hx hb dX12_laysActs_49 (lv_at hl 0 rfl) ?_
    refine lv_iconst (v := 4) hx hb dX12_laysActs_51 (by decide) ?_
    obtain ⟨r6, hf6, hs0⟩ := obind hs0
    refine g_Vi (n := 3) hx hb hml hown hG hW hS [.long p1, .int r5.1, .int 4] (kX12_laysSort hN hsh h_x69_1 w_A76 w_A77 w_A78 F p1 r5.1 4 hf6) (ltN hN 69 rfl) gk69 (by decide) rfl rfl (gd_V gx580 gx581 gx582 gx5 gx583) rfl rfl (by decide) ⟨Nat.le_of_ble_eq_true rfl, Nat.le_of_ble_eq_true rfl⟩ rfl hl (Nat.le_of_ble_eq_true rfl) ⟨Nat.zero_le _, Nat.zero_le _⟩ dX12_laysActs_52 (fun x6 m6 a6 H locs hp6 hW hS => ?_)
    obtain ⟨hx6, hm6, hp6_A76, hp6_A77, hp6_A78, hoa6⟩ := hp6
    subst hx6
    rw [hm6] at hW
    have w_A76 : a6 76 = (40, .inl r6.2.1) := hp6_A76
    have w_A77 : a6 77 = (40, .inl r6.2.2.1) := hp6_A77
    have w_A78 : a6 78 = (40, .inl r6.2.2.2) := hp6_A78
    have hoffa := offm hoffa hoa6 (by decide +kernel)
    have hs0 := Option.some.inj hs0
    subst hs0
    exact W.zret hx hb hr rfl (fun t ht hw => ⟨⟨_, (m0, a6), rfl, ⟨rfl, rfl, w_A76, w_A77, w_A78, hoffa⟩, g_end hW ht hw⟩, hS.F ht⟩) hS.2.2 dX12_laysActs_55 hlocks
  · rw [if_pos c4] at hs0
    refine lv_iload hx hb dX12_laysActs_34 (lv_at hl 0 rfl) ?_
    have hs0 := Option.some.inj hs0
    subst hs0
    exact W.zret hx hb hr rfl (fun t ht hw => ⟨⟨_, (m0, a3), rfl, ⟨rfl, rfl, w_A76, w_A77, w_A78, hoffa⟩, g_end hW ht hw⟩, hS.F ht⟩) hS.2.2 dX12_laysActs_36 hlocks
-- HealLinkModel.run (IIZ)I
def fX12_run_J95 (F : Nat) (x69_0 : Int32) (x69_1 : Int32) (x69_2 : Int32) (x69_3 : Int32) (v1 : Int32) (v3 : Int32) (v4j14 : Int32) (v5j14 : Int32) (v6j14 : Int32) (x69_4j14 : Int64) (x69_6j14 : Int32) (x69_9j14 : Int32) (x69_11j14 : Int32) (x69_18 : Int32) (x69_19j14 : Int64) (x69_20j14 : Int32) (x69_21j14 : Int32) (x69_22j14 : Int32) (A70j14 : Nat → Int32) (A71j14 : Nat → Int32) (A72j14 : Nat → Int32) (A73j14 : Nat → Int32) (A76j14 : Nat → Int32) (A77j14 : Nat → Int32) (A78j14 : Nat → Int32) : Option ((Int32 × Int64 × Int32 × Int32 × Int32 × Int64 × Int32 × Int32 × Int32 × (Nat → Int32) × (Nat → Int32) × (Nat → Int32) × (Nat → Int32) × (Nat → Int32) × (Nat → Int32) × (Nat → Int32)) ⊕ (Int32 × Int32 × Int32 × Int64 × Int32 × Int32 × Int32 × Int64 × Int32 × Int32 × Int32 × (Nat → Int32) × (Nat → Int32) × (Nat → Int32) × (Nat → Int32) × (Nat → Int32) × (Nat → Int32) × (Nat → Int32))) := some (Sum.inr (v4j14, v5j14, v6j14 + 1, x69_4j14, x69_6j14, x69_9j14, x69_11j14, x69_19j14, x69_20j14, x69_21j14, x69_22j14, A70j14, A71j14, A72j14, A73j14, A76j14, A77j14, A78j14))
def fX12_run_S27 (F : Nat) (x69_0 : Int32) (x69_1 : Int32) (x69_2 : Int32) (x69_3 : Int32) (v1 : Int32) (v3 : Int32) (x69_18 : Int32) (v4 : Int32) (v5 : Int32) (v6 : Int32) (x69_4 : Int64) (x69_6 : Int32) (x69_9 : Int32) (x69_11 : Int32) (x69_19 : Int64) (x69_20 : Int32) (x69_21 : Int32) (x69_22 : Int32) (A70 : Nat → Int32) (A71 : Nat → Int32) (A72 : Nat → Int32) (A73 : Nat → Int32) (A76 : Nat → Int32) (A77 : Nat → Int32) (A78 : Nat → Int32) : Option ((Int32 × Int64 × Int32 × Int32 × Int32 × Int64 × Int32 × Int32 × Int32 × (Nat → Int32) × (Nat → Int32) × (Nat → Int32) × (Nat → Int32) × (Nat → Int32) × (Nat → Int32) × (Nat → Int32)) ⊕ (Int32 × Int32 × Int32 × Int64 × Int32 × Int32 × Int32 × Int64 × Int32 × Int32 × Int32 × (Nat → Int32) × (Nat → Int32) × (Nat → Int32) × (Nat → Int32) × (Nat → Int32) × (Nat → Int32) × (Nat → Int32))) := (if v1 ≤ v6 then some (Sum.inl (v5, x69_4, x69_6, x69_9, x69_11, x69_19, x69_20, x69_21, x69_22, A70, A71, A72, A73, A76, A77, A78)) else ((fX12_laysActs F x69_1 A76 A77 A78 x69_4 v3).bind (fun r6 => (if ¬ r6.1 = 0 then (if inb (((((v4 * 1103515245) + 12345).toUInt32 >>> ((8 : Int32).toUInt32 &&& Int32.toUInt32 31)).toInt32) - ((((v4 * 1103515245) + 12345).toUInt32 >>> ((8 : Int32).toUInt32 &&& Int32.toUInt32 31)).toInt32) / r6.1 * r6.1) 40 = true then (if inb (((((v4 * 1103515245) + 12345).toUInt32 >>> ((8 : Int32).toUInt32 &&& Int32.toUInt32 31)).toInt32) - ((((v4 * 1103515245) + 12345).toUInt32 >>> ((8 : Int32).toUInt32 &&& Int32.toUInt32 31)).toInt32) / r6.1 * r6.1) 40 = true then (if inb (((((v4 * 1103515245) + 12345).toUInt32 >>> ((8 : Int32).toUInt32 &&& Int32.toUInt32 31)).toInt32) - ((((v4 * 1103515245) + 12345).toUInt32 >>> ((8 : Int32).toUInt32 &&& Int32.toUInt32 31)).toInt32) / r6.1 * r6.1) 40 = true then ((fX12_acts F x69_0 x69_1 x69_2 x69_3 x69_4 x69_6 x69_9 x69_11 x69_19 x69_20 x69_21 x69_22 A70 A71 A72 A73 (r6.2.1 (((((v4 * 1103515245) + 12345).toUInt32 >>> ((8 : Int32).toUInt32 &&& Int32.toUInt32 31)).toInt32) - ((((v4 * 1103515245) + 12345).toUInt32 >>> ((8 : Int32).toUInt32 &&& Int32.toUInt32 31)).toInt32) / r6.1 * r6.1).toNatClampNeg) (r6.2.2.1 (((((v4 * 1103515245) + 12345).toUInt32 >>> ((8 : Int32).toUInt32 &&& Int32.toUInt32 31)).toInt32) - ((((v4 * 1103515245) + 12345).toUInt32 >>> ((8 : Int32).toUInt32 &&& Int32.toUInt32 31)).toInt32) / r6.1 * r6.1).toNatClampNeg) (r6.2.2.2 (((((v4 * 1103515245) + 12345).toUInt32 >>> ((8 : Int32).toUInt32 &&& Int32.toUInt32 31)).toInt32) - ((((v4 * 1103515245) + 12345).toUInt32 >>> ((8 : Int32).toUInt32 &&& Int32.toUInt32 31)).toInt32) / r6.1 * r6.1).toNatClampNeg)).bind (fun r11 => (if (fX12_isBad r11.1) = 0 then fX12_run_J95 F x69_0 x69_1 x69_2 x69_3 v1 v3 ((v4 * 1103515245) + 12345) v5 v6 r11.2.1 r11.2.2.1 r11.2.2.2.1 r11.2.2.2.2.1 x69_18 r11.2.2.2.2.2.1 r11.2.2.2.2.2.2.1 r11.2.2.2.2.2.2.2.1 r11.2.2.2.2.2.2.2.2.1 r11.2.2.2.2.2.2.2.2.2.1 r11.2.2.2.2.2.2.2.2.2.2.1 r11.2.2.2.2.2.2.2.2.2.2.2.1 r11.2.2.2.2.2.2.2.2.2.2.2.2 r6.2.1 r6.2.2.1 r6.2.2.2 else fX12_run_J95 F x69_0 x69_1 x69_2 x69_3 v1 v3 ((v4 * 1103515245) + 12345) (v5 + 1) v6 r11.2.1 r11.2.2.1 r11.2.2.2.1 r11.2.2.2.2.1 x69_18 r11.2.2.2.2.2.1 r11.2.2.2.2.2.2.1 r11.2.2.2.2.2.2.2.1 r11.2.2.2.2.2.2.2.2.1 r11.2.2.2.2.2.2.2.2.2.1 r11.2.2.2.2.2.2.2.2.2.2.1 r11.2.2.2.2.2.2.2.2.2.2.2.1 r11.2.2.2.2.2.2.2.2.2.2.2.2 r6.2.1 r6.2.2.1 r6.2.2.2))) else none) else none) else none) else none))))
def fX12_run (F : Nat) (x69_0 : Int32) (x69_1 : Int32) (x69_2 : Int32) (x69_3 : Int32) (x69_4 : Int64) (x69_6 : Int32) (x69_9 : Int32) (x69_11 : Int32) (x69_18 : Int32) (x69_19 : Int64) (x69_20 : Int32) (x69_21 : Int32) (x69_22 : Int32) (A70 : Nat → Int32) (A71 : Nat → Int32) (A72 : Nat → Int32) (A73 : Nat → Int32) (A76 : Nat → Int32) (A77 : Nat → Int32) (A78 : Nat → Int32) (p1 : Int32) (p2 : Int32) (p3 : Int32) : Option (Int32 × Int64 × Int32 × Int32 × Int32 × Int32 × Int64 × Int32 × Int32 × Int32 × (Nat → Int32) × (Nat → Int32) × (Nat → Int32) × (Nat → Int32) × (Nat → Int32) × (Nat → Int32) × (Nat → Int32)) := (if (fX12_within p1 1 200) = 0 then some ((-1), x69_4, x69_6, x69_9, x69_11, 0, x69_19, x69_20, x69_21, x69_22, A70, A71, A72, A73, A76, A77, A78) else (gloop (fun u4 : (Int32 × Int32 × Int32 × Int64 × Int32 × Int32 × Int32 × Int64 × Int32 × Int32 × Int32 × (Nat → Int32) × (Nat → Int32) × (Nat → Int32) × (Nat → Int32) × (Nat → Int32) × (Nat → Int32) × (Nat → Int32)) => fX12_run_S27 F x69_0 x69_1 x69_2 x69_3 p1 p3 0 u4.1 u4.2.1 u4.2.2.1 u4.2.2.2.1 u4.2.2.2.2.1 u4.2.2.2.2.2.1 u4.2.2.2.2.2.2.1 u4.2.2.2.2.2.2.2.1 u4.2.2.2.2.2.2.2.2.1 u4.2.2.2.2.2.2.2.2.2.1 u4.2.2.2.2.2.2.2.2.2.2.1 u4.2.2.2.2.2.2.2.2.2.2.2.1 u4.2.2.2.2.2.2.2.2.2.2.2.2.1 u4.2.2.2.2.2.2.2.2.2.2.2.2.2.1 u4.2.2.2.2.2.2.2.2.2.2.2.2.2.2.1 u4.2.2.2.2.2.2.2.2.2.2.2.2.2.2.2.1 u4.2.2.2.2.2.2.2.2.2.2.2.2.2.2.2.2.1 u4.2.2.2.2.2.2.2.2.2.2.2.2.2.2.2.2.2) F (p2, 0, 0, x69_4, x69_6, x69_9, x69_11, x69_19, x69_20, x69_21, x69_22, A70, A71, A72, A73, A76, A77, A78)).bind (fun t4_101 => some (t4_101.1, t4_101.2.1, t4_101.2.2.1, t4_101.2.2.2.1, t4_101.2.2.2.2.1, 0, t4_101.2.2.2.2.2.1, t4_101.2.2.2.2.2.2.1, t4_101.2.2.2.2.2.2.2.1, t4_101.2.2.2.2.2.2.2.2.1, t4_101.2.2.2.2.2.2.2.2.2.1, t4_101.2.2.2.2.2.2.2.2.2.2.1, t4_101.2.2.2.2.2.2.2.2.2.2.2.1, t4_101.2.2.2.2.2.2.2.2.2.2.2.2.1, t4_101.2.2.2.2.2.2.2.2.2.2.2.2.2.1, t4_101.2.2.2.2.2.2.2.2.2.2.2.2.2.2.1, t4_101.2.2.2.2.2.2.2.2.2.2.2.2.2.2.2)))
theorem dX12_run_0 : decode cX12_run 0 = .ok (.aload_n 0, 1) := by decide +kernel
theorem dX12_run_1 : decode cX12_run 1 = .ok (.iconst 0, 1) := by decide +kernel
theorem dX12_run_2 : decode cX12_run 2 = .ok (.putfield 137, 3) := by decide +kernel
theorem dX12_run_5 : decode cX12_run 5 = .ok (.iload_n 1, 1) := by decide +kernel
theorem dX12_run_6 : decode cX12_run 6 = .ok (.iconst 1, 1) := by decide +kernel
theorem dX12_run_7 : decode cX12_run 7 = .ok (.sipush 200, 3) := by decide +kernel
theorem dX12_run_10 : decode cX12_run 10 = .ok (.invokestatic 159, 3) := by decide +kernel
theorem dX12_run_13 : decode cX12_run 13 = .ok (.ifCond .ne 5, 3) := by decide +kernel
theorem dX12_run_16 : decode cX12_run 16 = .ok (.iconst (-1), 1) := by decide +kernel
theorem dX12_run_17 : decode cX12_run 17 = .ok (.ireturn, 1) := by decide +kernel
theorem dX12_run_18 : decode cX12_run 18 = .ok (.iload_n 2, 1) := by decide +kernel
theorem dX12_run_19 : decode cX12_run 19 = .ok (.istore 4, 2) := by decide +kernel
theorem dX12_run_21 : decode cX12_run 21 = .ok (.iconst 0, 1) := by decide +kernel
theorem dX12_run_22 : decode cX12_run 22 = .ok (.istore 5, 2) := by decide +kernel
theorem dX12_run_24 : decode cX12_run 24 = .ok (.iconst 0, 1) := by decide +kernel
theorem dX12_run_25 : decode cX12_run 25 = .ok (.istore 6, 2) := by decide +kernel
theorem dX12_run_27 : decode cX12_run 27 = .ok (.iload 6, 2) := by decide +kernel
theorem dX12_run_29 : decode cX12_run 29 = .ok (.iload_n 1, 1) := by decide +kernel
theorem dX12_run_30 : decode cX12_run 30 = .ok (.if_icmp .ge 71, 3) := by decide +kernel
theorem dX12_run_33 : decode cX12_run 33 = .ok (.iload 4, 2) := by decide +kernel
theorem dX12_run_35 : decode cX12_run 35 = .ok (.ldc 239, 2) := by decide +kernel
theorem dX12_run_37 : decode cX12_run 37 = .ok (.imul, 1) := by decide +kernel
theorem dX12_run_38 : decode cX12_run 38 = .ok (.sipush 12345, 3) := by decide +kernel
theorem dX12_run_41 : decode cX12_run 41 = .ok (.iadd, 1) := by decide +kernel
theorem dX12_run_42 : decode cX12_run 42 = .ok (.istore 4, 2) := by decide +kernel
theorem dX12_run_44 : decode cX12_run 44 = .ok (.iload 4, 2) := by decide +kernel
theorem dX12_run_46 : decode cX12_run 46 = .ok (.bipush 8, 2) := by decide +kernel
theorem dX12_run_48 : decode cX12_run 48 = .ok (.iushr, 1) := by decide +kernel
theorem dX12_run_49 : decode cX12_run 49 = .ok (.aload_n 0, 1) := by decide +kernel
theorem dX12_run_50 : decode cX12_run 50 = .ok (.aload_n 0, 1) := by decide +kernel
theorem dX12_run_51 : decode cX12_run 51 = .ok (.getfield 133, 3) := by decide +kernel
theorem dX12_run_54 : decode cX12_run 54 = .ok (.iload_n 3, 1) := by decide +kernel
theorem dX12_run_55 : decode cX12_run 55 = .ok (.invokevirtual 240, 3) := by decide +kernel
theorem dX12_run_58 : decode cX12_run 58 = .ok (.irem, 1) := by decide +kernel
theorem dX12_run_59 : decode cX12_run 59 = .ok (.istore 7, 2) := by decide +kernel
theorem dX12_run_61 : decode cX12_run 61 = .ok (.aload_n 0, 1) := by decide +kernel
theorem dX12_run_62 : decode cX12_run 62 = .ok (.aload_n 0, 1) := by decide +kernel
theorem dX12_run_63 : decode cX12_run 63 = .ok (.getfield 41, 3) := by decide +kernel
theorem dX12_run_66 : decode cX12_run 66 = .ok (.iload 7, 2) := by decide +kernel
theorem dX12_run_68 : decode cX12_run 68 = .ok (.iaload, 1) := by decide +kernel
theorem dX12_run_69 : decode cX12_run 69 = .ok (.aload_n 0, 1) := by decide +kernel
theorem dX12_run_70 : decode cX12_run 70 = .ok (.getfield 44, 3) := by decide +kernel
theorem dX12_run_73 : decode cX12_run 73 = .ok (.iload 7, 2) := by decide +kernel
theorem dX12_run_75 : decode cX12_run 75 = .ok (.iaload, 1) := by decide +kernel
theorem dX12_run_76 : decode cX12_run 76 = .ok (.aload_n 0, 1) := by decide +kernel
theorem dX12_run_77 : decode cX12_run 77 = .ok (.getfield 47, 3) := by decide +kernel
theorem dX12_run_80 : decode cX12_run 80 = .ok (.iload 7, 2) := by decide +kernel
theorem dX12_run_82 : decode cX12_run 82 = .ok (.iaload, 1) := by decide +kernel
theorem dX12_run_83 : decode cX12_run 83 = .ok (.invokevirtual 228, 3) := by decide +kernel
theorem dX12_run_86 : decode cX12_run 86 = .ok (.invokestatic 244, 3) := by decide +kernel
theorem dX12_run_89 : decode cX12_run 89 = .ok (.ifCond .eq 6, 3) := by decide +kernel
theorem dX12_run_92 : decode cX12_run 92 = .ok (.iinc 5 1, 3) := by decide +kernel
theorem dX12_run_95 : decode cX12_run 95 = .ok (.iinc 6 1, 3) := by decide +kernel
theorem dX12_run_98 : decode cX12_run 98 = .ok (.goto (-71), 3) := by decide +kernel
theorem dX12_run_101 : decode cX12_run 101 = .ok (.iload 5, 2) := by decide +kernel
theorem dX12_run_103 : decode cX12_run 103 = .ok (.ireturn, 1) := by decide +kernel
set_option maxHeartbeats 4000000 in
set_option maxRecDepth 100000 in
theorem kX12_run {l : Launch} {D : va_G} {cy : Nat → ClassId} {N : Nat} {q : Nat → Nat} {m0 : Nat → Value} {a0 : Nat → vp_A} {sz : Nat} (hN : 105 ≤ N) (hsh : SH q m0) {x69_0 : Int32} (h_x69_0 : m0 6900 = .int x69_0) {x69_1 : Int32} (h_x69_1 : m0 6901 = .int x69_1) {x69_2 : Int32} (h_x69_2 : m0 6902 = .int x69_2) {x69_3 : Int32} (h_x69_3 : m0 6903 = .int x69_3) {x69_4 : Int64} (h_x69_4 : m0 6904 = .long x69_4) {x69_6 : Int32} (h_x69_6 : m0 6906 = .int x69_6) {x69_9 : Int32} (h_x69_9 : m0 6909 = .int x69_9) {x69_11 : Int32} (h_x69_11 : m0 6911 = .int x69_11) {x69_18 : Int32} (h_x69_18 : m0 6918 = .int x69_18) {x69_19 : Int64} (h_x69_19 : m0 6919 = .long x69_19) {x69_20 : Int32} (h_x69_20 : m0 6920 = .int x69_20) {x69_21 : Int32} (h_x69_21 : m0 6921 = .int x69_21) {x69_22 : Int32} (h_x69_22 : m0 6922 = .int x69_22) {A70 : Nat → Int32} (h_A70 : a0 70 = (30, .inl A70)) {A71 : Nat → Int32} (h_A71 : a0 71 = (8, .inl A71)) {A72 : Nat → Int32} (h_A72 : a0 72 = (40, .inl A72)) {A73 : Nat → Int32} (h_A73 : a0 73 = (40, .inl A73)) {A76 : Nat → Int32} (h_A76 : a0 76 = (40, .inl A76)) {A77 : Nat → Int32} (h_A77 : a0 77 = (40, .inl A77)) {A78 : Nat → Int32} (h_A78 : a0 78 = (40, .inl A78)) (F : Nat) (p1 : Int32) (p2 : Int32) (p3 : Int32) {X0 : Int32 × Int64 × Int32 × Int32 × Int32 × Int32 × Int64 × Int32 × Int32 × Int32 × (Nat → Int32) × (Nat → Int32) × (Nat → Int32) × (Nat → Int32) × (Nat → Int32) × (Nat → Int32) × (Nat → Int32)} (hs0 : fX12_run F x69_0 x69_1 x69_2 x69_3 x69_4 x69_6 x69_9 x69_11 x69_18 x69_19 x69_20 x69_21 x69_22 A70 A71 A72 A73 A76 A77 A78 p1 p2 p3 = some X0) : gMi l yX12_run cX12_run 8 (some .int) ({ frames := 6, cells := 0, slots := 0, locals := 141 } : Room) D cy N q m0 a0 sz [.ref (q 69), .int p1, .int p2, .int p3] (fun r m' a' => r = X0.1 ∧ m' 6904 = .long X0.2.1 ∧ m' 6906 = .int X0.2.2.1 ∧ m' 6909 = .int X0.2.2.2.1 ∧ m' 6911 = .int X0.2.2.2.2.1 ∧ m' 6918 = .int X0.2.2.2.2.2.1 ∧ m' 6919 = .long X0.2.2.2.2.2.2.1 ∧ m' 6920 = .int X0.2.2.2.2.2.2.2.1 ∧ m' 6921 = .int X0.2.2.2.2.2.2.2.2.1 ∧ m' 6922 = .int X0.2.2.2.2.2.2.2.2.2.1 ∧ (∀ j, nel j [6904, 6906, 6909, 6911, 6918, 6919, 6920, 6921, 6922] = false → m' j = m0 j) ∧ a' 70 = (30, .inl X0.2.2.2.2.2.2.2.2.2.2.1) ∧ a' 71 = (8, .inl X0.2.2.2.2.2.2.2.2.2.2.2.1) ∧ a' 72 = (40, .inl X0.2.2.2.2.2.2.2.2.2.2.2.2.1) ∧ a' 73 = (40, .inl X0.2.2.2.2.2.2.2.2.2.2.2.2.2.1) ∧ a' 76 = (40, .inl X0.2.2.2.2.2.2.2.2.2.2.2.2.2.2.1) ∧ a' 77 = (40, .inl X0.2.2.2.2.2.2.2.2.2.2.2.2.2.2.2.1) ∧ a' 78 = (40, .inl X0.2.2.2.2.2.2.2.2.2.2.2.2.2.2.2.2) ∧ (∀ j, nel j [70, 71, 72, 73, 76, 77, 78] = false → a' j = a0 j)) := by
  refine g_ofi (by decide) (Nat.le_of_ble_eq_true rfl) ?_
  intro p e s M args below meth c hx hb hr hG hown hin hlocks hml hW hS ls hl
  unfold fX12_run at hs0
  have hoff : ∀ j, nel j [6904, 6906, 6909, 6911, 6918, 6919, 6920, 6921, 6922] = false → m0 j = m0 j := off0
  have hoffa : ∀ j, nel j [70, 71, 72, 73, 76, 77, 78] = false → a0 j = a0 j := off0
  refine lv_aload_n hx hb dX12_run_0 rfl (lv_at hl 0 rfl) ?_
  refine lv_iconst (v := 0) hx hb dX12_run_1 (by decide) ?_
  refine gp12_18 hx hb hG hown hW hS (o := 69) (ltN hN 69 rfl) gk69 (v := 0) gx246 dX12_run_2 (fun m1 H locs hm1 ho1 hW hS => ?_)
  have ho1 := off1 ho1
  have w_x69_4 : m1 6904 = .long x69_4 := (ho1 6904 rfl).trans h_x69_4
  have w_x69_6 : m1 6906 = .int x69_6 := (ho1 6906 rfl).trans h_x69_6
  have w_x69_9 : m1 6909 = .int x69_9 := (ho1 6909 rfl).trans h_x69_9
  have w_x69_11 : m1 6911 = .int x69_11 := (ho1 6911 rfl).trans h_x69_11
  have w_x69_18 : m1 6918 = .int 0 := hm1
  have w_x69_19 : m1 6919 = .long x69_19 := (ho1 6919 rfl).trans h_x69_19
  have w_x69_20 : m1 6920 = .int x69_20 := (ho1 6920 rfl).trans h_x69_20
  have w_x69_21 : m1 6921 = .int x69_21 := (ho1 6921 rfl).trans h_x69_21
  have w_x69_22 : m1 6922 = .int x69_22 := (ho1 6922 rfl).trans h_x69_22
  have hoff := offm hoff ho1 (by decide +kernel)
  have hsh := SH.off hsh ho1 (by decide +kernel)
  refine lv_iload_n hx hb dX12_run_5 rfl (lv_at hl 1 rfl) ?_
  refine lv_iconst (v := 1) hx hb dX12_run_6 (by decide) ?_
  refine lv_sipush (v := 200) hx hb dX12_run_7 (by decide) ?_
  refine g_SiR (n := 3) hx hb hml hown hG hW hS [.int p1, .int 1, .int 200] (kX12_within hN p1 1 200) rfl (gd_S gx247 gx248 gx5 gx249) rfl rfl (by decide) ⟨Nat.le_of_ble_eq_true rfl, Nat.le_of_ble_eq_true rfl⟩ rfl hl (Nat.le_of_ble_eq_true rfl) ⟨Nat.zero_le _, Nat.zero_le _⟩ dX12_run_10 (fun H locs hW hS => ?_)
  refine lv_if_ne (tgt := 18) hx hb dX12_run_13 (by decide) (fun c3 => ?_) (fun c3 => ?_)
  · rw [if_neg c3] at hs0
    refine lv_iload_n hx hb dX12_run_18 rfl (lv_at hl 2 rfl) ?_
    refine lv_istore (lv' := [(4, .int p2), (0, .ref (q 69)), (1, .int p1), (2, .int p2), (3, .int p3)]) hx hb dX12_run_19 hl (by decide) rfl (fun ls hl => ?_)
    refine lv_iconst (v := 0) hx hb dX12_run_21 (by decide) ?_
    refine lv_istore (lv' := [(5, .int 0), (4, .int p2), (0, .ref (q 69)), (1, .int p1), (2, .int p2), (3, .int p3)]) hx hb dX12_run_22 hl (by decide) rfl (fun ls hl => ?_)
    refine lv_iconst (v := 0) hx hb dX12_run_24 (by decide) ?_
    refine lv_istore (lv' := [(6, .int 0), (5, .int 0), (4, .int p2), (0, .ref (q 69)), (1, .int p1), (2, .int p2), (3, .int p3)]) hx hb dX12_run_25 hl (by decide) rfl (fun ls hl => ?_)
    obtain ⟨r4, hg4, hs0⟩ := obind hs0
    have hE1_101 : ∀ (t4_101 : Int32 × Int64 × Int32 × Int32 × Int32 × Int64 × Int32 × Int32 × Int32 × (Nat → Int32) × (Nat → Int32) × (Nat → Int32) × (Nat → Int32) × (Nat → Int32) × (Nat → Int32) × (Nat → Int32)) (hr4 : t4_101 = r4) (m : Nat → Value) (a : Nat → vp_A) (H : Heap) (locs : List Loc) (w_x69_4 : m 6904 = .long t4_101.2.1) (w_x69_6 : m 6906 = .int t4_101.2.2.1) (w_x69_9 : m 6909 = .int t4_101.2.2.2.1) (w_x69_11 : m 6911 = .int t4_101.2.2.2.2.1) (w_x69_18 : m 6918 = .int 0) (w_x69_19 : m 6919 = .long t4_101.2.2.2.2.2.1) (w_x69_20 : m 6920 = .int t4_101.2.2.2.2.2.2.1) (w_x69_21 : m 6921 = .int t4_101.2.2.2.2.2.2.2.1) (w_x69_22 : m 6922 = .int t4_101.2.2.2.2.2.2.2.2.1) (hoff : ∀ j, nel j [6904, 6906, 6909, 6911, 6918, 6919, 6920, 6921, 6922] = false → m j = m0 j) (hsh : SH q m) (w_A70 : a 70 = (30, .inl t4_101.2.2.2.2.2.2.2.2.2.1)) (w_A71 : a 71 = (8, .inl t4_101.2.2.2.2.2.2.2.2.2.2.1)) (w_A72 : a 72 = (40, .inl t4_101.2.2.2.2.2.2.2.2.2.2.2.1)) (w_A73 : a 73 = (40, .inl t4_101.2.2.2.2.2.2.2.2.2.2.2.2.1)) (w_A76 : a 76 = (40, .inl t4_101.2.2.2.2.2.2.2.2.2.2.2.2.2.1)) (w_A77 : a 77 = (40, .inl t4_101.2.2.2.2.2.2.2.2.2.2.2.2.2.2.1)) (w_A78 : a 78 = (40, .inl t4_101.2.2.2.2.2.2.2.2.2.2.2.2.2.2.2)) (hoffa : ∀ j, nel j [70, 71, 72, 73, 76, 77, 78] = false → a j = a0 j) (ls : Array Slot) (hl : lv_has ls 8 [(5, .int t4_101.1)]) (hW : GW D cy (gA N q s.heap.size) N q m a s H) (hS : va_S (gA N q s.heap.size) s.heap H locs), W p l e ({ frames := 6, cells := 0, slots := 0, locals := 141 } : Room) s M args below meth c H locs 0 0 (MQ below (va_Qi (fun (r : Int32) (u : (Nat → Value) × (Nat → vp_A)) => r = X0.1 ∧ u.1 6904 = .long X0.2.1 ∧ u.1 6906 = .int X0.2.2.1 ∧ u.1 6909 = .int X0.2.2.2.1 ∧ u.1 6911 = .int X0.2.2.2.2.1 ∧ u.1 6918 = .int X0.2.2.2.2.2.1 ∧ u.1 6919 = .long X0.2.2.2.2.2.2.1 ∧ u.1 6920 = .int X0.2.2.2.2.2.2.2.1 ∧ u.1 6921 = .int X0.2.2.2.2.2.2.2.2.1 ∧ u.1 6922 = .int X0.2.2.2.2.2.2.2.2.2.1 ∧ (∀ j, nel j [6904, 6906, 6909, 6911, 6918, 6919, 6920, 6921, 6922] = false → u.1 j = m0 j) ∧ u.2 70 = (30, .inl X0.2.2.2.2.2.2.2.2.2.2.1) ∧ u.2 71 = (8, .inl X0.2.2.2.2.2.2.2.2.2.2.2.1) ∧ u.2 72 = (40, .inl X0.2.2.2.2.2.2.2.2.2.2.2.2.1) ∧ u.2 73 = (40, .inl X0.2.2.2.2.2.2.2.2.2.2.2.2.2.1) ∧ u.2 76 = (40, .inl X0.2.2.2.2.2.2.2.2.2.2.2.2.2.2.1) ∧ u.2 77 = (40, .inl X0.2.2.2.2.2.2.2.2.2.2.2.2.2.2.2.1) ∧ u.2 78 = (40, .inl X0.2.2.2.2.2.2.2.2.2.2.2.2.2.2.2.2) ∧ (∀ j, nel j [70, 71, 72, 73, 76, 77, 78] = false → u.2 j = a0 j)) (gB D cy N q s.heap.size) (gA N q s.heap.size)) args s 0 0 (gA N q s.heap.size)) (F0 M 101 ls []) := by
      intro t4_101 hr4 m a H locs w_x69_4 w_x69_6 w_x69_9 w_x69_11 w_x69_18 w_x69_19 w_x69_20 w_x69_21 w_x69_22 hoff hsh w_A70 w_A71 w_A72 w_A73 w_A76 w_A77 w_A78 hoffa ls hl hW hS
      subst hr4
      refine lv_iload hx hb dX12_run_101 (lv_at hl 0 rfl) ?_
      have hs0 := Option.some.inj hs0
      subst hs0
      exact W.zret hx hb hr rfl (fun t ht hw => ⟨⟨_, (m, a), rfl, ⟨rfl, w_x69_4, w_x69_6, w_x69_9, w_x69_11, w_x69_18, w_x69_19, w_x69_20, w_x69_21, w_x69_22, hoff, w_A70, w_A71, w_A72, w_A73, w_A76, w_A77, w_A78, hoffa⟩, g_end hW ht hw⟩, hS.F ht⟩) hS.2.2 dX12_run_103 hlocks
    have hL1 : ∀ (n : Nat) (v4k4 : Int32) (v5k4 : Int32) (v6k4 : Int32) (x69_4k4 : Int64) (x69_6k4 : Int32) (x69_9k4 : Int32) (x69_11k4 : Int32) (x69_19k4 : Int64) (x69_20k4 : Int32) (x69_21k4 : Int32) (x69_22k4 : Int32) (A70k4 : Nat → Int32) (A71k4 : Nat → Int32) (A72k4 : Nat → Int32) (A73k4 : Nat → Int32) (A76k4 : Nat → Int32) (A77k4 : Nat → Int32) (A78k4 : Nat → Int32) (m : Nat → Value) (a : Nat → vp_A) (H : Heap) (locs : List Loc) (w_x69_4 : m 6904 = .long x69_4k4) (w_x69_6 : m 6906 = .int x69_6k4) (w_x69_9 : m 6909 = .int x69_9k4) (w_x69_11 : m 6911 = .int x69_11k4) (w_x69_18 : m 6918 = .int 0) (w_x69_19 : m 6919 = .long x69_19k4) (w_x69_20 : m 6920 = .int x69_20k4) (w_x69_21 : m 6921 = .int x69_21k4) (w_x69_22 : m 6922 = .int x69_22k4) (hoff : ∀ j, nel j [6904, 6906, 6909, 6911, 6918, 6919, 6920, 6921, 6922] = false → m j = m0 j) (hsh : SH q m) (w_A70 : a 70 = (30, .inl A70k4)) (w_A71 : a 71 = (8, .inl A71k4)) (w_A72 : a 72 = (40, .inl A72k4)) (w_A73 : a 73 = (40, .inl A73k4)) (w_A76 : a 76 = (40, .inl A76k4)) (w_A77 : a 77 = (40, .inl A77k4)) (w_A78 : a 78 = (40, .inl A78k4)) (hoffa : ∀ j, nel j [70, 71, 72, 73, 76, 77, 78] = false → a j = a0 j) (ls : Array Slot) (hl : lv_has ls 8 [(0, .ref (q 69)), (1, .int p1), (3, .int p3), (4, .int v4k4), (5, .int v5k4), (6, .int v6k4)]) (hg4 : gloop (fun u4 : (Int32 × Int32 × Int32 × Int64 × Int32 × Int32 × Int32 × Int64 × Int32 × Int32 × Int32 × (Nat → Int32) × (Nat → Int32) × (Nat → Int32) × (Nat → Int32) × (Nat → Int32) × (Nat → Int32) × (Nat → Int32)) => fX12_run_S27 F x69_0 x69_1 x69_2 x69_3 p1 p3 0 u4.1 u4.2.1 u4.2.2.1 u4.2.2.2.1 u4.2.2.2.2.1 u4.2.2.2.2.2.1 u4.2.2.2.2.2.2.1 u4.2.2.2.2.2.2.2.1 u4.2.2.2.2.2.2.2.2.1 u4.2.2.2.2.2.2.2.2.2.1 u4.2.2.2.2.2.2.2.2.2.2.1 u4.2.2.2.2.2.2.2.2.2.2.2.1 u4.2.2.2.2.2.2.2.2.2.2.2.2.1 u4.2.2.2.2.2.2.2.2.2.2.2.2.2.1 u4.2.2.2.2.2.2.2.2.2.2.2.2.2.2.1 u4.2.2.2.2.2.2.2.2.2.2.2.2.2.2.2.1 u4.2.2.2.2.2.2.2.2.2.2.2.2.2.2.2.2.1 u4.2.2.2.2.2.2.2.2.2.2.2.2.2.2.2.2.2) n (v4k4, v5k4, v6k4, x69_4k4, x69_6k4, x69_9k4, x69_11k4, x69_19k4, x69_20k4, x69_21k4, x69_22k4, A70k4, A71k4, A72k4, A73k4, A76k4, A77k4, A78k4) = some r4) (hW : GW D cy (gA N q s.heap.size) N q m a s H) (hS : va_S (gA N q s.heap.size) s.heap H locs), W p l e ({ frames := 6, cells := 0, slots := 0, locals := 141 } : Room) s M args below meth c H locs 0 0 (MQ below (va_Qi (fun (r : Int32) (u : (Nat → Value) × (Nat → vp_A)) => r = X0.1 ∧ u.1 6904 = .long X0.2.1 ∧ u.1 6906 = .int X0.2.2.1 ∧ u.1 6909 = .int X0.2.2.2.1 ∧ u.1 6911 = .int X0.2.2.2.2.1 ∧ u.1 6918 = .int X0.2.2.2.2.2.1 ∧ u.1 6919 = .long X0.2.2.2.2.2.2.1 ∧ u.1 6920 = .int X0.2.2.2.2.2.2.2.1 ∧ u.1 6921 = .int X0.2.2.2.2.2.2.2.2.1 ∧ u.1 6922 = .int X0.2.2.2.2.2.2.2.2.2.1 ∧ (∀ j, nel j [6904, 6906, 6909, 6911, 6918, 6919, 6920, 6921, 6922] = false → u.1 j = m0 j) ∧ u.2 70 = (30, .inl X0.2.2.2.2.2.2.2.2.2.2.1) ∧ u.2 71 = (8, .inl X0.2.2.2.2.2.2.2.2.2.2.2.1) ∧ u.2 72 = (40, .inl X0.2.2.2.2.2.2.2.2.2.2.2.2.1) ∧ u.2 73 = (40, .inl X0.2.2.2.2.2.2.2.2.2.2.2.2.2.1) ∧ u.2 76 = (40, .inl X0.2.2.2.2.2.2.2.2.2.2.2.2.2.2.1) ∧ u.2 77 = (40, .inl X0.2.2.2.2.2.2.2.2.2.2.2.2.2.2.2.1) ∧ u.2 78 = (40, .inl X0.2.2.2.2.2.2.2.2.2.2.2.2.2.2.2.2) ∧ (∀ j, nel j [70, 71, 72, 73, 76, 77, 78] = false → u.2 j = a0 j)) (gB D cy N q s.heap.size) (gA N q s.heap.size)) args s 0 0 (gA N q s.heap.size)) (F0 M 27 ls []) := by
      intro n
      induction n with
      | zero => intro v4k4 v5k4 v6k4 x69_4k4 x69_6k4 x69_9k4 x69_11k4 x69_19k4 x69_20k4 x69_21k4 x69_22k4 A70k4 A71k4 A72k4 A73k4 A76k4 A77k4 A78k4 m a H locs w_x69_4 w_x69_6 w_x69_9 w_x69_11 w_x69_18 w_x69_19 w_x69_20 w_x69_21 w_x69_22 hoff hsh w_A70 w_A71 w_A72 w_A73 w_A76 w_A77 w_A78 hoffa ls hl hg4 hW hS; exact (gl_zero hg4).elim
      | succ n ih1 =>
        intro v4k4 v5k4 v6k4 x69_4k4 x69_6k4 x69_9k4 x69_11k4 x69_19k4 x69_20k4 x69_21k4 x69_22k4 A70k4 A71k4 A72k4 A73k4 A76k4 A77k4 A78k4 m a H locs w_x69_4 w_x69_6 w_x69_9 w_x69_11 w_x69_18 w_x69_19 w_x69_20 w_x69_21 w_x69_22 hoff hsh w_A70 w_A71 w_A72 w_A73 w_A76 w_A77 w_A78 hoffa ls hl hg4 hW hS
        obtain ⟨X1, hs1, hXl1, hXr1⟩ := gl_succ hg4
        have hs1 : fX12_run_S27 F x69_0 x69_1 x69_2 x69_3 p1 p3 0 v4k4 v5k4 v6k4 x69_4k4 x69_6k4 x69_9k4 x69_11k4 x69_19k4 x69_20k4 x69_21k4 x69_22k4 A70k4 A71k4 A72k4 A73k4 A76k4 A77k4 A78k4 = some X1 := hs1
        unfold fX12_run_S27 at hs1
        have hJ95_1 : ∀ (v4j24 : Int32) (v5j24 : Int32) (v6j24 : Int32) (x69_4j24 : Int64) (x69_6j24 : Int32) (x69_9j24 : Int32) (x69_11j24 : Int32) (x69_19j24 : Int64) (x69_20j24 : Int32) (x69_21j24 : Int32) (x69_22j24 : Int32) (A70j24 : Nat → Int32) (A71j24 : Nat → Int32) (A72j24 : Nat → Int32) (A73j24 : Nat → Int32) (A76j24 : Nat → Int32) (A77j24 : Nat → Int32) (A78j24 : Nat → Int32) (m : Nat → Value) (a : Nat → vp_A) (H : Heap) (locs : List Loc) (w_x69_4 : m 6904 = .long x69_4j24) (w_x69_6 : m 6906 = .int x69_6j24) (w_x69_9 : m 6909 = .int x69_9j24) (w_x69_11 : m 6911 = .int x69_11j24) (w_x69_18 : m 6918 = .int 0) (w_x69_19 : m 6919 = .long x69_19j24) (w_x69_20 : m 6920 = .int x69_20j24) (w_x69_21 : m 6921 = .int x69_21j24) (w_x69_22 : m 6922 = .int x69_22j24) (hoff : ∀ j, nel j [6904, 6906, 6909, 6911, 6918, 6919, 6920, 6921, 6922] = false → m j = m0 j) (hsh : SH q m) (w_A70 : a 70 = (30, .inl A70j24)) (w_A71 : a 71 = (8, .inl A71j24)) (w_A72 : a 72 = (40, .inl A72j24)) (w_A73 : a 73 = (40, .inl A73j24)) (w_A76 : a 76 = (40, .inl A76j24)) (w_A77 : a 77 = (40, .inl A77j24)) (w_A78 : a 78 = (40, .inl A78j24)) (hoffa : ∀ j, nel j [70, 71, 72, 73, 76, 77, 78] = false → a j = a0 j) (ls : Array Slot) (hl : lv_has ls 8 [(0, .ref (q 69)), (1, .int p1), (3, .int p3), (4, .int v4j24), (5, .int v5j24), (6, .int v6j24)]) (hs1 : fX12_run_J95 F x69_0 x69_1 x69_2 x69_3 p1 p3 v4j24 v5j24 v6j24 x69_4j24 x69_6j24 x69_9j24 x69_11j24 0 x69_19j24 x69_20j24 x69_21j24 x69_22j24 A70j24 A71j24 A72j24 A73j24 A76j24 A77j24 A78j24 = some X1) (hW : GW D cy (gA N q s.heap.size) N q m a s H) (hS : va_S (gA N q s.heap.size) s.heap H locs), W p l e ({ frames := 6, cells := 0, slots := 0, locals := 141 } : Room) s M args below meth c H locs 0 0 (MQ below (va_Qi (fun (r : Int32) (u : (Nat → Value) × (Nat → vp_A)) => r = X0.1 ∧ u.1 6904 = .long X0.2.1 ∧ u.1 6906 = .int X0.2.2.1 ∧ u.1 6909 = .int X0.2.2.2.1 ∧ u.1 6911 = .int X0.2.2.2.2.1 ∧ u.1 6918 = .int X0.2.2.2.2.2.1 ∧ u.1 6919 = .long X0.2.2.2.2.2.2.1 ∧ u.1 6920 = .int X0.2.2.2.2.2.2.2.1 ∧ u.1 6921 = .int X0.2.2.2.2.2.2.2.2.1 ∧ u.1 6922 = .int X0.2.2.2.2.2.2.2.2.2.1 ∧ (∀ j, nel j [6904, 6906, 6909, 6911, 6918, 6919, 6920, 6921, 6922] = false → u.1 j = m0 j) ∧ u.2 70 = (30, .inl X0.2.2.2.2.2.2.2.2.2.2.1) ∧ u.2 71 = (8, .inl X0.2.2.2.2.2.2.2.2.2.2.2.1) ∧ u.2 72 = (40, .inl X0.2.2.2.2.2.2.2.2.2.2.2.2.1) ∧ u.2 73 = (40, .inl X0.2.2.2.2.2.2.2.2.2.2.2.2.2.1) ∧ u.2 76 = (40, .inl X0.2.2.2.2.2.2.2.2.2.2.2.2.2.2.1) ∧ u.2 77 = (40, .inl X0.2.2.2.2.2.2.2.2.2.2.2.2.2.2.2.1) ∧ u.2 78 = (40, .inl X0.2.2.2.2.2.2.2.2.2.2.2.2.2.2.2.2) ∧ (∀ j, nel j [70, 71, 72, 73, 76, 77, 78] = false → u.2 j = a0 j)) (gB D cy N q s.heap.size) (gA N q s.heap.size)) args s 0 0 (gA N q s.heap.size)) (F0 M 95 ls []) := by
          intro v4j24 v5j24 v6j24 x69_4j24 x69_6j24 x69_9j24 x69_11j24 x69_19j24 x69_20j24 x69_21j24 x69_22j24 A70j24 A71j24 A72j24 A73j24 A76j24 A77j24 A78j24 m a H locs w_x69_4 w_x69_6 w_x69_9 w_x69_11 w_x69_18 w_x69_19 w_x69_20 w_x69_21 w_x69_22 hoff hsh w_A70 w_A71 w_A72 w_A73 w_A76 w_A77 w_A78 hoffa ls hl hs1 hW hS
          unfold fX12_run_J95 at hs1
          refine lv_iinc (v := v6j24 + 1) (lv' := [(6, .int (v6j24 + 1)), (0, .ref (q 69)), (1, .int p1), (3, .int p3), (4, .int v4j24), (5, .int v5j24)]) hx hb dX12_run_95 hl (k := 5) rfl rfl (by decide) rfl (fun ls hl => ?_)
          refine lv_goto (tgt := 27) hx hb dX12_run_98 (by decide) ?_
          exact ih1 v4j24 v5j24 (v6j24 + 1) x69_4j24 x69_6j24 x69_9j24 x69_11j24 x69_19j24 x69_20j24 x69_21j24 x69_22j24 A70j24 A71j24 A72j24 A73j24 A76j24 A77j24 A78j24 m a _ _ w_x69_4 w_x69_6 w_x69_9 w_x69_11 w_x69_18 w_x69_19 w_x69_20 w_x69_21 w_x69_22 hoff hsh w_A70 w_A71 w_A72 w_A73 w_A76 w_A77 w_A78 hoffa ls (lv_sub hl [1, 2, 3, 4, 5, 0] rfl) (hXr1 _ (Option.some.inj hs1).symm) hW hS
        refine lv_iload hx hb dX12_run_27 (lv_at hl 5 rfl) ?_
        refine lv_iload_n hx hb dX12_run_29 rfl (lv_at hl 1 rfl) ?_
        refine lv_icmp_ge (tgt := 101) hx hb dX12_run_30 (by decide) (fun c15 => ?_) (fun c15 => ?_)
        · rw [if_pos c15] at hs1
          exact hE1_101 (v5k4, x69_4k4, x69_6k4, x69_9k4, x69_11k4, x69_19k4, x69_20k4, x69_21k4, x69_22k4, A70k4, A71k4, A72k4, A73k4, A76k4, A77k4, A78k4) (hXl1 _ (Option.some.inj hs1).symm) m a _ _ w_x69_4 w_x69_6 w_x69_9 w_x69_11 w_x69_18 w_x69_19 w_x69_20 w_x69_21 w_x69_22 hoff hsh w_A70 w_A71 w_A72 w_A73 w_A76 w_A77 w_A78 hoffa ls (lv_sub hl [4] rfl) hW hS
        · rw [if_neg c15] at hs1
          refine lv_iload hx hb dX12_run_33 (lv_at hl 3 rfl) ?_
          refine lv_ldc (v := 1103515245) hx hb hown (hG _ gx571) dX12_run_35 ?_
          refine lv_imul hx hb dX12_run_37 ?_
          refine lv_sipush (v := 12345) hx hb dX12_run_38 (by decide) ?_
          refine lv_iadd hx hb dX12_run_41 ?_
          refine lv_istore (lv' := [(4, .int ((v4k4 * 1103515245) + 12345)), (0, .ref (q 69)), (1, .int p1), (3, .int p3), (5, .int v5k4), (6, .int v6k4)]) hx hb dX12_run_42 hl (by decide) rfl (fun ls hl => ?_)
          refine lv_iload hx hb dX12_run_44 (lv_at hl 0 rfl) ?_
          refine lv_bipush (v := 8) hx hb dX12_run_46 (by decide) ?_
          refine lv_iushr hx hb dX12_run_48 rfl ?_
          refine lv_aload_n hx hb dX12_run_49 rfl (lv_at hl 1 rfl) ?_
          refine lv_aload_n hx hb dX12_run_50 rfl (lv_at hl 1 rfl) ?_
          refine gf12_4 hx hb hG hown hW (o := 69) (ltN hN 69 rfl) gk69 (v := .long x69_4k4) w_x69_4 gx202 dX12_run_51 ?_
          refine lv_iload_n hx hb dX12_run_54 rfl (lv_at hl 3 rfl) ?_
          obtain ⟨r16, hf16, hs1⟩ := obind hs1
          refine g_Vi (n := 2) hx hb hml hown hG hW hS [.long x69_4k4, .int p3] (kX12_laysActs hN hsh ((hoff 6901 rfl).trans h_x69_1) w_A76 w_A77 w_A78 F x69_4k4 p3 hf16) (ltN hN 69 rfl) gk69 (by decide) rfl rfl (gd_V gx572 gx573 gx574 gx5 gx575) rfl rfl (by decide) ⟨Nat.le_of_ble_eq_true rfl, Nat.le_of_ble_eq_true rfl⟩ rfl hl (Nat.le_of_ble_eq_true rfl) ⟨Nat.zero_le _, Nat.zero_le _⟩ dX12_run_55 (fun x16 m16 a16 H locs hp16 hW hS => ?_)
          obtain ⟨hx16, hm16, hp16_A76, hp16_A77, hp16_A78, hoa16⟩ := hp16
          subst hx16
          rw [hm16] at hW
          have w_A70 : a16 70 = (30, .inl A70k4) := (hoa16 70 rfl).trans w_A70
          have w_A71 : a16 71 = (8, .inl A71k4) := (hoa16 71 rfl).trans w_A71
          have w_A72 : a16 72 = (40, .inl A72k4) := (hoa16 72 rfl).trans w_A72
          have w_A73 : a16 73 = (40, .inl A73k4) := (hoa16 73 rfl).trans w_A73
          have w_A76 : a16 76 = (40, .inl r16.2.1) := hp16_A76
          have w_A77 : a16 77 = (40, .inl r16.2.2.1) := hp16_A77
          have w_A78 : a16 78 = (40, .inl r16.2.2.2) := hp16_A78
          have hoffa := offm hoffa hoa16 (by decide +kernel)
          obtain ⟨hz17, hs1⟩ := oif hs1
          refine lv_irem hx hb dX12_run_58 hz17 ?_
          refine lv_istore (lv' := [(7, .int (((((v4k4 * 1103515245) + 12345).toUInt32 >>> ((8 : Int32).toUInt32 &&& Int32.toUInt32 31)).toInt32) - ((((v4k4 * 1103515245) + 12345).toUInt32 >>> ((8 : Int32).toUInt32 &&& Int32.toUInt32 31)).toInt32) / r16.1 * r16.1)), (4, .int ((v4k4 * 1103515245) + 12345)), (0, .ref (q 69)), (1, .int p1), (3, .int p3), (5, .int v5k4), (6, .int v6k4)]) hx hb dX12_run_59 hl (by decide) rfl (fun ls hl => ?_)
          refine lv_aload_n hx hb dX12_run_61 rfl (lv_at hl 2 rfl) ?_
          refine lv_aload_n hx hb dX12_run_62 rfl (lv_at hl 2 rfl) ?_
          refine gf12_23 hx hb hG hown hW (o := 69) (ltN hN 69 rfl) gk69 (v := .ref (q 76)) (sh69_23 hsh) gx172 dX12_run_63 ?_
          refine lv_iload hx hb dX12_run_66 (lv_at hl 0 rfl) ?_
          obtain ⟨hi18, hs1⟩ := oif hs1
          refine g_iald hx hb hW (o := 76) (ltN hN 76 rfl) gk76 w_A76 (vin hi18) dX12_run_68 ?_
          refine lv_aload_n hx hb dX12_run_69 rfl (lv_at hl 2 rfl) ?_
          refine gf12_24 hx hb hG hown hW (o := 69) (ltN hN 69 rfl) gk69 (v := .ref (q 77)) (sh69_24 hsh) gx173 dX12_run_70 ?_
          refine lv_iload hx hb dX12_run_73 (lv_at hl 0 rfl) ?_
          obtain ⟨hi19, hs1⟩ := oif hs1
          refine g_iald hx hb hW (o := 77) (ltN hN 77 rfl) gk77 w_A77 (vin hi19) dX12_run_75 ?_
          refine lv_aload_n hx hb dX12_run_76 rfl (lv_at hl 2 rfl) ?_
          refine gf12_25 hx hb hG hown hW (o := 69) (ltN hN 69 rfl) gk69 (v := .ref (q 78)) (sh69_25 hsh) gx174 dX12_run_77 ?_
          refine lv_iload hx hb dX12_run_80 (lv_at hl 0 rfl) ?_
          obtain ⟨hi20, hs1⟩ := oif hs1
          refine g_iald hx hb hW (o := 78) (ltN hN 78 rfl) gk78 w_A78 (vin hi20) dX12_run_82 ?_
          obtain ⟨r21, hf21, hs1⟩ := obind hs1
          refine g_Vi (n := 3) hx hb hml hown hG hW hS [.int (r16.2.1 (((((v4k4 * 1103515245) + 12345).toUInt32 >>> ((8 : Int32).toUInt32 &&& Int32.toUInt32 31)).toInt32) - ((((v4k4 * 1103515245) + 12345).toUInt32 >>> ((8 : Int32).toUInt32 &&& Int32.toUInt32 31)).toInt32) / r16.1 * r16.1).toNatClampNeg), .int (r16.2.2.1 (((((v4k4 * 1103515245) + 12345).toUInt32 >>> ((8 : Int32).toUInt32 &&& Int32.toUInt32 31)).toInt32) - ((((v4k4 * 1103515245) + 12345).toUInt32 >>> ((8 : Int32).toUInt32 &&& Int32.toUInt32 31)).toInt32) / r16.1 * r16.1).toNatClampNeg), .int (r16.2.2.2 (((((v4k4 * 1103515245) + 12345).toUInt32 >>> ((8 : Int32).toUInt32 &&& Int32.toUInt32 31)).toInt32) - ((((v4k4 * 1103515245) + 12345).toUInt32 >>> ((8 : Int32).toUInt32 &&& Int32.toUInt32 31)).toInt32) / r16.1 * r16.1).toNatClampNeg)] (kX12_acts hN hsh ((hoff 6900 rfl).trans h_x69_0) ((hoff 6901 rfl).trans h_x69_1) ((hoff 6902 rfl).trans h_x69_2) ((hoff 6903 rfl).trans h_x69_3) w_x69_4 w_x69_6 w_x69_9 w_x69_11 w_x69_19 w_x69_20 w_x69_21 w_x69_22 w_A70 w_A71 w_A72 w_A73 F (r16.2.1 (((((v4k4 * 1103515245) + 12345).toUInt32 >>> ((8 : Int32).toUInt32 &&& Int32.toUInt32 31)).toInt32) - ((((v4k4 * 1103515245) + 12345).toUInt32 >>> ((8 : Int32).toUInt32 &&& Int32.toUInt32 31)).toInt32) / r16.1 * r16.1).toNatClampNeg) (r16.2.2.1 (((((v4k4 * 1103515245) + 12345).toUInt32 >>> ((8 : Int32).toUInt32 &&& Int32.toUInt32 31)).toInt32) - ((((v4k4 * 1103515245) + 12345).toUInt32 >>> ((8 : Int32).toUInt32 &&& Int32.toUInt32 31)).toInt32) / r16.1 * r16.1).toNatClampNeg) (r16.2.2.2 (((((v4k4 * 1103515245) + 12345).toUInt32 >>> ((8 : Int32).toUInt32 &&& Int32.toUInt32 31)).toInt32) - ((((v4k4 * 1103515245) + 12345).toUInt32 >>> ((8 : Int32).toUInt32 &&& Int32.toUInt32 31)).toInt32) / r16.1 * r16.1).toNatClampNeg) hf21) (ltN hN 69 rfl) gk69 (by decide) rfl rfl (gd_V gx501 gx502 gx503 gx5 gx504) rfl rfl (by decide) ⟨Nat.le_of_ble_eq_true rfl, Nat.le_of_ble_eq_true rfl⟩ rfl hl (Nat.le_of_ble_eq_true rfl) ⟨Nat.zero_le _, Nat.zero_le _⟩ dX12_run_83 (fun x21 m21 a21 H locs hp21 hW hS => ?_)
          obtain ⟨hx21, hp21_x69_4, hp21_x69_6, hp21_x69_9, hp21_x69_11, hp21_x69_19, hp21_x69_20, hp21_x69_21, hp21_x69_22, ho21, hp21_A70, hp21_A71, hp21_A72, hp21_A73, hoa21⟩ := hp21
          subst hx21
          have w_x69_4 : m21 6904 = .long r21.2.1 := hp21_x69_4
          have w_x69_6 : m21 6906 = .int r21.2.2.1 := hp21_x69_6
          have w_x69_9 : m21 6909 = .int r21.2.2.2.1 := hp21_x69_9
          have w_x69_11 : m21 6911 = .int r21.2.2.2.2.1 := hp21_x69_11
          have w_x69_18 : m21 6918 = .int 0 := (ho21 6918 rfl).trans w_x69_18
          have w_x69_19 : m21 6919 = .long r21.2.2.2.2.2.1 := hp21_x69_19
          have w_x69_20 : m21 6920 = .int r21.2.2.2.2.2.2.1 := hp21_x69_20
          have w_x69_21 : m21 6921 = .int r21.2.2.2.2.2.2.2.1 := hp21_x69_21
          have w_x69_22 : m21 6922 = .int r21.2.2.2.2.2.2.2.2.1 := hp21_x69_22
          have hoff := offm hoff ho21 (by decide +kernel)
          have hsh := SH.off hsh ho21 (by decide +kernel)
          have w_A70 : a21 70 = (30, .inl r21.2.2.2.2.2.2.2.2.2.1) := hp21_A70
          have w_A71 : a21 71 = (8, .inl r21.2.2.2.2.2.2.2.2.2.2.1) := hp21_A71
          have w_A72 : a21 72 = (40, .inl r21.2.2.2.2.2.2.2.2.2.2.2.1) := hp21_A72
          have w_A73 : a21 73 = (40, .inl r21.2.2.2.2.2.2.2.2.2.2.2.2) := hp21_A73
          have w_A76 : a21 76 = (40, .inl r16.2.1) := (hoa21 76 rfl).trans w_A76
          have w_A77 : a21 77 = (40, .inl r16.2.2.1) := (hoa21 77 rfl).trans w_A77
          have w_A78 : a21 78 = (40, .inl r16.2.2.2) := (hoa21 78 rfl).trans w_A78
          have hoffa := offm hoffa hoa21 (by decide +kernel)
          refine g_SiR (n := 1) hx hb hml hown hG hW hS [.int r21.1] (kX12_isBad hN r21.1) rfl (gd_S gx584 gx585 gx5 gx586) rfl rfl (by decide) ⟨Nat.le_of_ble_eq_true rfl, Nat.le_of_ble_eq_true rfl⟩ rfl hl (Nat.le_of_ble_eq_true rfl) ⟨Nat.zero_le _, Nat.zero_le _⟩ dX12_run_86 (fun H locs hW hS => ?_)
          refine lv_if_eq (tgt := 95) hx hb dX12_run_89 (by decide) (fun c23 => ?_) (fun c23 => ?_)
          · rw [if_pos c23] at hs1
            exact hJ95_1 ((v4k4 * 1103515245) + 12345) v5k4 v6k4 r21.2.1 r21.2.2.1 r21.2.2.2.1 r21.2.2.2.2.1 r21.2.2.2.2.2.1 r21.2.2.2.2.2.2.1 r21.2.2.2.2.2.2.2.1 r21.2.2.2.2.2.2.2.2.1 r21.2.2.2.2.2.2.2.2.2.1 r21.2.2.2.2.2.2.2.2.2.2.1 r21.2.2.2.2.2.2.2.2.2.2.2.1 r21.2.2.2.2.2.2.2.2.2.2.2.2 r16.2.1 r16.2.2.1 r16.2.2.2 m21 a21 _ _ w_x69_4 w_x69_6 w_x69_9 w_x69_11 w_x69_18 w_x69_19 w_x69_20 w_x69_21 w_x69_22 hoff hsh w_A70 w_A71 w_A72 w_A73 w_A76 w_A77 w_A78 hoffa ls (lv_sub hl [2, 3, 4, 1, 5, 6] rfl) hs1 hW hS
          · rw [if_neg c23] at hs1
            refine lv_iinc (v := v5k4 + 1) (lv' := [(5, .int (v5k4 + 1)), (7, .int (((((v4k4 * 1103515245) + 12345).toUInt32 >>> ((8 : Int32).toUInt32 &&& Int32.toUInt32 31)).toInt32) - ((((v4k4 * 1103515245) + 12345).toUInt32 >>> ((8 : Int32).toUInt32 &&& Int32.toUInt32 31)).toInt32) / r16.1 * r16.1)), (4, .int ((v4k4 * 1103515245) + 12345)), (0, .ref (q 69)), (1, .int p1), (3, .int p3), (6, .int v6k4)]) hx hb dX12_run_92 hl (k := 5) rfl rfl (by decide) rfl (fun ls hl => ?_)
            exact hJ95_1 ((v4k4 * 1103515245) + 12345) (v5k4 + 1) v6k4 r21.2.1 r21.2.2.1 r21.2.2.2.1 r21.2.2.2.2.1 r21.2.2.2.2.2.1 r21.2.2.2.2.2.2.1 r21.2.2.2.2.2.2.2.1 r21.2.2.2.2.2.2.2.2.1 r21.2.2.2.2.2.2.2.2.2.1 r21.2.2.2.2.2.2.2.2.2.2.1 r21.2.2.2.2.2.2.2.2.2.2.2.1 r21.2.2.2.2.2.2.2.2.2.2.2.2 r16.2.1 r16.2.2.1 r16.2.2.2 m21 a21 _ _ w_x69_4 w_x69_6 w_x69_9 w_x69_11 w_x69_18 w_x69_19 w_x69_20 w_x69_21 w_x69_22 hoff hsh w_A70 w_A71 w_A72 w_A73 w_A76 w_A77 w_A78 hoffa ls (lv_sub hl [3, 4, 5, 2, 0, 6] rfl) hs1 hW hS
    exact hL1 F p2 0 0 x69_4 x69_6 x69_9 x69_11 x69_19 x69_20 x69_21 x69_22 A70 A71 A72 A73 A76 A77 A78 m1 a0 _ _ w_x69_4 w_x69_6 w_x69_9 w_x69_11 w_x69_18 w_x69_19 w_x69_20 w_x69_21 w_x69_22 hoff hsh h_A70 h_A71 h_A72 h_A73 h_A76 h_A77 h_A78 hoffa ls (lv_sub hl [3, 4, 6, 2, 1, 0] rfl) hg4 hW hS
  · rw [if_pos c3] at hs0
    refine lv_iconst (v := (-1)) hx hb dX12_run_16 (by decide) ?_
    have hs0 := Option.some.inj hs0
    subst hs0
    exact W.zret hx hb hr rfl (fun t ht hw => ⟨⟨_, (m1, a0), rfl, ⟨rfl, w_x69_4, w_x69_6, w_x69_9, w_x69_11, w_x69_18, w_x69_19, w_x69_20, w_x69_21, w_x69_22, hoff, h_A70, h_A71, h_A72, h_A73, h_A76, h_A77, h_A78, hoffa⟩, g_end hW ht hw⟩, hS.F ht⟩) hS.2.2 dX12_run_17 hlocks
-- HealLinkModel.possible (II)I
def fX12_possible (F : Nat) (x69_1 : Int32) (x69_4 : Int64) (x69_18 : Int32) (A76 : Nat → Int32) (A77 : Nat → Int32) (A78 : Nat → Int32) (p1 : Int32) (p2 : Int32) : Option (Int32 × Int32 × (Nat → Int32) × (Nat → Int32) × (Nat → Int32)) := (if (fX12_within p2 0 2) = 0 then some ((-1), 0, A76, A77, A78) else ((fX12_laysActs F x69_1 A76 A77 A78 x69_4 1).bind (fun r4 => (if p1 = (-1) then some (r4.1, 0, r4.2.1, r4.2.2.1, r4.2.2.2) else (if (fX12_within p1 0 (r4.1 - 1)) = 0 then some ((-1), 0, r4.2.1, r4.2.2.1, r4.2.2.2) else (if p2 = 0 then (if inb p1 40 = true then some (r4.2.1 p1.toNatClampNeg, 0, r4.2.1, r4.2.2.1, r4.2.2.2) else none) else (if p2 = 1 then (if inb p1 40 = true then some (r4.2.2.1 p1.toNatClampNeg, 0, r4.2.1, r4.2.2.1, r4.2.2.2) else none) else (if inb p1 40 = true then some (r4.2.2.2 p1.toNatClampNeg, 0, r4.2.1, r4.2.2.1, r4.2.2.2) else none))))))))
theorem dX12_possible_0 : decode cX12_possible 0 = .ok (.aload_n 0, 1) := by decide +kernel
theorem dX12_possible_1 : decode cX12_possible 1 = .ok (.iconst 0, 1) := by decide +kernel
theorem dX12_possible_2 : decode cX12_possible 2 = .ok (.putfield 137, 3) := by decide +kernel
theorem dX12_possible_5 : decode cX12_possible 5 = .ok (.iload_n 2, 1) := by decide +kernel
theorem dX12_possible_6 : decode cX12_possible 6 = .ok (.iconst 0, 1) := by decide +kernel
theorem dX12_possible_7 : decode cX12_possible 7 = .ok (.iconst 2, 1) := by decide +kernel
theorem dX12_possible_8 : decode cX12_possible 8 = .ok (.invokestatic 159, 3) := by decide +kernel
theorem dX12_possible_11 : decode cX12_possible 11 = .ok (.ifCond .ne 5, 3) := by decide +kernel
theorem dX12_possible_14 : decode cX12_possible 14 = .ok (.iconst (-1), 1) := by decide +kernel
theorem dX12_possible_15 : decode cX12_possible 15 = .ok (.ireturn, 1) := by decide +kernel
theorem dX12_possible_16 : decode cX12_possible 16 = .ok (.aload_n 0, 1) := by decide +kernel
theorem dX12_possible_17 : decode cX12_possible 17 = .ok (.aload_n 0, 1) := by decide +kernel
theorem dX12_possible_18 : decode cX12_possible 18 = .ok (.getfield 133, 3) := by decide +kernel
theorem dX12_possible_21 : decode cX12_possible 21 = .ok (.iconst 1, 1) := by decide +kernel
theorem dX12_possible_22 : decode cX12_possible 22 = .ok (.invokevirtual 240, 3) := by decide +kernel
theorem dX12_possible_25 : decode cX12_possible 25 = .ok (.istore_n 3, 1) := by decide +kernel
theorem dX12_possible_26 : decode cX12_possible 26 = .ok (.iload_n 1, 1) := by decide +kernel
theorem dX12_possible_27 : decode cX12_possible 27 = .ok (.iconst (-1), 1) := by decide +kernel
theorem dX12_possible_28 : decode cX12_possible 28 = .ok (.if_icmp .ne 5, 3) := by decide +kernel
theorem dX12_possible_31 : decode cX12_possible 31 = .ok (.iload_n 3, 1) := by decide +kernel
theorem dX12_possible_32 : decode cX12_possible 32 = .ok (.ireturn, 1) := by decide +kernel
theorem dX12_possible_33 : decode cX12_possible 33 = .ok (.iload_n 1, 1) := by decide +kernel
theorem dX12_possible_34 : decode cX12_possible 34 = .ok (.iconst 0, 1) := by decide +kernel
theorem dX12_possible_35 : decode cX12_possible 35 = .ok (.iload_n 3, 1) := by decide +kernel
theorem dX12_possible_36 : decode cX12_possible 36 = .ok (.iconst 1, 1) := by decide +kernel
theorem dX12_possible_37 : decode cX12_possible 37 = .ok (.isub, 1) := by decide +kernel
theorem dX12_possible_38 : decode cX12_possible 38 = .ok (.invokestatic 159, 3) := by decide +kernel
theorem dX12_possible_41 : decode cX12_possible 41 = .ok (.ifCond .ne 5, 3) := by decide +kernel
theorem dX12_possible_44 : decode cX12_possible 44 = .ok (.iconst (-1), 1) := by decide +kernel
theorem dX12_possible_45 : decode cX12_possible 45 = .ok (.ireturn, 1) := by decide +kernel
theorem dX12_possible_46 : decode cX12_possible 46 = .ok (.iload_n 2, 1) := by decide +kernel
theorem dX12_possible_47 : decode cX12_possible 47 = .ok (.ifCond .ne 12, 3) := by decide +kernel
theorem dX12_possible_50 : decode cX12_possible 50 = .ok (.aload_n 0, 1) := by decide +kernel
theorem dX12_possible_51 : decode cX12_possible 51 = .ok (.getfield 41, 3) := by decide +kernel
theorem dX12_possible_54 : decode cX12_possible 54 = .ok (.iload_n 1, 1) := by decide +kernel
theorem dX12_possible_55 : decode cX12_possible 55 = .ok (.iaload, 1) := by decide +kernel
theorem dX12_possible_56 : decode cX12_possible 56 = .ok (.goto 23, 3) := by decide +kernel
theorem dX12_possible_59 : decode cX12_possible 59 = .ok (.iload_n 2, 1) := by decide +kernel
theorem dX12_possible_60 : decode cX12_possible 60 = .ok (.iconst 1, 1) := by decide +kernel
theorem dX12_possible_61 : decode cX12_possible 61 = .ok (.if_icmp .ne 12, 3) := by decide +kernel
theorem dX12_possible_64 : decode cX12_possible 64 = .ok (.aload_n 0, 1) := by decide +kernel
theorem dX12_possible_65 : decode cX12_possible 65 = .ok (.getfield 44, 3) := by decide +kernel
theorem dX12_possible_68 : decode cX12_possible 68 = .ok (.iload_n 1, 1) := by decide +kernel
theorem dX12_possible_69 : decode cX12_possible 69 = .ok (.iaload, 1) := by decide +kernel
theorem dX12_possible_70 : decode cX12_possible 70 = .ok (.goto 9, 3) := by decide +kernel
theorem dX12_possible_73 : decode cX12_possible 73 = .ok (.aload_n 0, 1) := by decide +kernel
theorem dX12_possible_74 : decode cX12_possible 74 = .ok (.getfield 47, 3) := by decide +kernel
theorem dX12_possible_77 : decode cX12_possible 77 = .ok (.iload_n 1, 1) := by decide +kernel
theorem dX12_possible_78 : decode cX12_possible 78 = .ok (.iaload, 1) := by decide +kernel
theorem dX12_possible_79 : decode cX12_possible 79 = .ok (.ireturn, 1) := by decide +kernel
set_option maxHeartbeats 4000000 in
set_option maxRecDepth 100000 in
theorem kX12_possible {l : Launch} {D : va_G} {cy : Nat → ClassId} {N : Nat} {q : Nat → Nat} {m0 : Nat → Value} {a0 : Nat → vp_A} {sz : Nat} (hN : 105 ≤ N) (hsh : SH q m0) {x69_1 : Int32} (h_x69_1 : m0 6901 = .int x69_1) {x69_4 : Int64} (h_x69_4 : m0 6904 = .long x69_4) {x69_18 : Int32} (h_x69_18 : m0 6918 = .int x69_18) {A76 : Nat → Int32} (h_A76 : a0 76 = (40, .inl A76)) {A77 : Nat → Int32} (h_A77 : a0 77 = (40, .inl A77)) {A78 : Nat → Int32} (h_A78 : a0 78 = (40, .inl A78)) (F : Nat) (p1 : Int32) (p2 : Int32) {X0 : Int32 × Int32 × (Nat → Int32) × (Nat → Int32) × (Nat → Int32)} (hs0 : fX12_possible F x69_1 x69_4 x69_18 A76 A77 A78 p1 p2 = some X0) : gMi l yX12_possible cX12_possible 4 (some .int) ({ frames := 6, cells := 0, slots := 0, locals := 141 } : Room) D cy N q m0 a0 sz [.ref (q 69), .int p1, .int p2] (fun r m' a' => r = X0.1 ∧ m' 6918 = .int X0.2.1 ∧ (∀ j, nel j [6918] = false → m' j = m0 j) ∧ a' 76 = (40, .inl X0.2.2.1) ∧ a' 77 = (40, .inl X0.2.2.2.1) ∧ a' 78 = (40, .inl X0.2.2.2.2) ∧ (∀ j, nel j [76, 77, 78] = false → a' j = a0 j)) := by
  refine g_ofi (by decide) (Nat.le_of_ble_eq_true rfl) ?_
  intro p e s M args below meth c hx hb hr hG hown hin hlocks hml hW hS ls hl
  unfold fX12_possible at hs0
  have hoff : ∀ j, nel j [6918] = false → m0 j = m0 j := off0
  have hoffa : ∀ j, nel j [76, 77, 78] = false → a0 j = a0 j := off0
  refine lv_aload_n hx hb dX12_possible_0 rfl (lv_at hl 0 rfl) ?_
  refine lv_iconst (v := 0) hx hb dX12_possible_1 (by decide) ?_
  refine gp12_18 hx hb hG hown hW hS (o := 69) (ltN hN 69 rfl) gk69 (v := 0) gx246 dX12_possible_2 (fun m1 H locs hm1 ho1 hW hS => ?_)
  have ho1 := off1 ho1
  have w_x69_18 : m1 6918 = .int 0 := hm1
  have hoff := offm hoff ho1 (by decide +kernel)
  have hsh := SH.off hsh ho1 (by decide +kernel)
  refine lv_iload_n hx hb dX12_possible_5 rfl (lv_at hl 2 rfl) ?_
  refine lv_iconst (v := 0) hx hb dX12_possible_6 (by decide) ?_
  refine lv_iconst (v := 2) hx hb dX12_possible_7 (by decide) ?_
  refine g_SiR (n := 3) hx hb hml hown hG hW hS [.int p2, .int 0, .int 2] (kX12_within hN p2 0 2) rfl (gd_S gx247 gx248 gx5 gx249) rfl rfl (by decide) ⟨Nat.le_of_ble_eq_true rfl, Nat.le_of_ble_eq_true rfl⟩ rfl hl (Nat.le_of_ble_eq_true rfl) ⟨Nat.zero_le _, Nat.zero_le _⟩ dX12_possible_8 (fun H locs hW hS => ?_)
  refine lv_if_ne (tgt := 16) hx hb dX12_possible_11 (by decide) (fun c3 => ?_) (fun c3 => ?_)
  · rw [if_neg c3] at hs0
    refine lv_aload_n hx hb dX12_possible_16 rfl (lv_at hl 0 rfl) ?_
    refine lv_aload_n hx hb dX12_possible_17 rfl (lv_at hl 0 rfl) ?_
    refine gf12_4 hx hb hG hown hW (o := 69) (ltN hN 69 rfl) gk69 (v := .long x69_4) ((hoff 6904 rfl).trans h_x69_4) gx202 dX12_possible_18 ?_
    refine lv_iconst (v := 1) hx hb dX12_possible_21 (by decide) ?_
    obtain ⟨r4, hf4, hs0⟩ := obind hs0
    refine g_Vi (n := 2) hx hb hml hown hG hW hS [.long x69_4, .int 1] (kX12_laysActs hN hsh ((hoff 6901 rfl).trans h_x69_1) h_A76 h_A77 h_A78 F x69_4 1 hf4) (ltN hN 69 rfl) gk69 (by decide) rfl rfl (gd_V gx572 gx573 gx574 gx5 gx575) rfl rfl (by decide) ⟨Nat.le_of_ble_eq_true rfl, Nat.le_of_ble_eq_true rfl⟩ rfl hl (Nat.le_of_ble_eq_true rfl) ⟨Nat.zero_le _, Nat.zero_le _⟩ dX12_possible_22 (fun x4 m4 a4 H locs hp4 hW hS => ?_)
    obtain ⟨hx4, hm4, hp4_A76, hp4_A77, hp4_A78, hoa4⟩ := hp4
    subst hx4
    rw [hm4] at hW
    have w_A76 : a4 76 = (40, .inl r4.2.1) := hp4_A76
    have w_A77 : a4 77 = (40, .inl r4.2.2.1) := hp4_A77
    have w_A78 : a4 78 = (40, .inl r4.2.2.2) := hp4_A78
    have hoffa := offm hoffa hoa4 (by decide +kernel)
    refine lv_istore_n (lv' := [(3, .int r4.1), (0, .ref (q 69)), (1, .int p1), (2, .int p2)]) hx hb dX12_possible_25 rfl hl (by decide) rfl (fun ls hl => ?_)
    refine lv_iload_n hx hb dX12_possible_26 rfl (lv_at hl 2 rfl) ?_
    refine lv_iconst (v := (-1)) hx hb dX12_possible_27 (by decide) ?_
    refine lv_icmp_ne (tgt := 33) hx hb dX12_possible_28 (by decide) (fun c5 => ?_) (fun c5 => ?_)
    · rw [if_neg c5] at hs0
      refine lv_iload_n hx hb dX12_possible_33 rfl (lv_at hl 2 rfl) ?_
      refine lv_iconst (v := 0) hx hb dX12_possible_34 (by decide) ?_
      refine lv_iload_n hx hb dX12_possible_35 rfl (lv_at hl 0 rfl) ?_
      refine lv_iconst (v := 1) hx hb dX12_possible_36 (by decide) ?_
      refine lv_isub hx hb dX12_possible_37 ?_
      refine g_SiR (n := 3) hx hb hml hown hG hW hS [.int p1, .int 0, .int (r4.1 - 1)] (kX12_within hN p1 0 (r4.1 - 1)) rfl (gd_S gx247 gx248 gx5 gx249) rfl rfl (by decide) ⟨Nat.le_of_ble_eq_true rfl, Nat.le_of_ble_eq_true rfl⟩ rfl hl (Nat.le_of_ble_eq_true rfl) ⟨Nat.zero_le _, Nat.zero_le _⟩ dX12_possible_38 (fun H locs hW hS => ?_)
      refine lv_if_ne (tgt := 46) hx hb dX12_possible_41 (by decide) (fun c7 => ?_) (fun c7 => ?_)
      · rw [if_neg c7] at hs0
        refine lv_iload_n hx hb dX12_possible_46 rfl (lv_at hl 3 rfl) ?_
        refine lv_if_ne (tgt := 59) hx hb dX12_possible_47 (by decide) (fun c8 => ?_) (fun c8 => ?_)
        · rw [if_neg c8] at hs0
          refine lv_iload_n hx hb dX12_possible_59 rfl (lv_at hl 3 rfl) ?_
          refine lv_iconst (v := 1) hx hb dX12_possible_60 (by decide) ?_
          refine lv_icmp_ne (tgt := 73) hx hb dX12_possible_61 (by decide) (fun c9 => ?_) (fun c9 => ?_)
          · rw [if_neg c9] at hs0
            refine lv_aload_n hx hb dX12_possible_73 rfl (lv_at hl 1 rfl) ?_
            refine gf12_25 hx hb hG hown hW (o := 69) (ltN hN 69 rfl) gk69 (v := .ref (q 78)) (sh69_25 hsh) gx174 dX12_possible_74 ?_
            refine lv_iload_n hx hb dX12_possible_77 rfl (lv_at hl 2 rfl) ?_
            obtain ⟨hi10, hs0⟩ := oif hs0
            refine g_iald hx hb hW (o := 78) (ltN hN 78 rfl) gk78 w_A78 (vin hi10) dX12_possible_78 ?_
            have hs0 := Option.some.inj hs0
            subst hs0
            exact W.zret hx hb hr rfl (fun t ht hw => ⟨⟨_, (m1, a4), rfl, ⟨rfl, w_x69_18, hoff, w_A76, w_A77, w_A78, hoffa⟩, g_end hW ht hw⟩, hS.F ht⟩) hS.2.2 dX12_possible_79 hlocks
          · rw [if_pos c9] at hs0
            refine lv_aload_n hx hb dX12_possible_64 rfl (lv_at hl 1 rfl) ?_
            refine gf12_24 hx hb hG hown hW (o := 69) (ltN hN 69 rfl) gk69 (v := .ref (q 77)) (sh69_24 hsh) gx173 dX12_possible_65 ?_
            refine lv_iload_n hx hb dX12_possible_68 rfl (lv_at hl 2 rfl) ?_
            obtain ⟨hi11, hs0⟩ := oif hs0
            refine g_iald hx hb hW (o := 77) (ltN hN 77 rfl) gk77 w_A77 (vin hi11) dX12_possible_69 ?_
            refine lv_goto (tgt := 79) hx hb dX12_possible_70 (by decide) ?_
            have hs0 := Option.some.inj hs0
            subst hs0
            exact W.zret hx hb hr rfl (fun t ht hw => ⟨⟨_, (m1, a4), rfl, ⟨rfl, w_x69_18, hoff, w_A76, w_A77, w_A78, hoffa⟩, g_end hW ht hw⟩, hS.F ht⟩) hS.2.2 dX12_possible_79 hlocks
        · rw [if_pos c8] at hs0
          refine lv_aload_n hx hb dX12_possible_50 rfl (lv_at hl 1 rfl) ?_
          refine gf12_23 hx hb hG hown hW (o := 69) (ltN hN 69 rfl) gk69 (v := .ref (q 76)) (sh69_23 hsh) gx172 dX12_possible_51 ?_
          refine lv_iload_n hx hb dX12_possible_54 rfl (lv_at hl 2 rfl) ?_
          obtain ⟨hi12, hs0⟩ := oif hs0
          refine g_iald hx hb hW (o := 76) (ltN hN 76 rfl) gk76 w_A76 (vin hi12) dX12_possible_55 ?_
          refine lv_goto (tgt := 79) hx hb dX12_possible_56 (by decide) ?_
          have hs0 := Option.some.inj hs0
          subst hs0
          exact W.zret hx hb hr rfl (fun t ht hw => ⟨⟨_, (m1, a4), rfl, ⟨rfl, w_x69_18, hoff, w_A76, w_A77, w_A78, hoffa⟩, g_end hW ht hw⟩, hS.F ht⟩) hS.2.2 dX12_possible_79 hlocks
      · rw [if_pos c7] at hs0
        refine lv_iconst (v := (-1)) hx hb dX12_possible_44 (by decide) ?_
        have hs0 := Option.some.inj hs0
        subst hs0
        exact W.zret hx hb hr rfl (fun t ht hw => ⟨⟨_, (m1, a4), rfl, ⟨rfl, w_x69_18, hoff, w_A76, w_A77, w_A78, hoffa⟩, g_end hW ht hw⟩, hS.F ht⟩) hS.2.2 dX12_possible_45 hlocks
    · rw [if_pos c5] at hs0
      refine lv_iload_n hx hb dX12_possible_31 rfl (lv_at hl 0 rfl) ?_
      have hs0 := Option.some.inj hs0
      subst hs0
      exact W.zret hx hb hr rfl (fun t ht hw => ⟨⟨_, (m1, a4), rfl, ⟨rfl, w_x69_18, hoff, w_A76, w_A77, w_A78, hoffa⟩, g_end hW ht hw⟩, hS.F ht⟩) hS.2.2 dX12_possible_32 hlocks
  · rw [if_pos c3] at hs0
    refine lv_iconst (v := (-1)) hx hb dX12_possible_14 (by decide) ?_
    have hs0 := Option.some.inj hs0
    subst hs0
    exact W.zret hx hb hr rfl (fun t ht hw => ⟨⟨_, (m1, a0), rfl, ⟨rfl, w_x69_18, hoff, h_A76, h_A77, h_A78, hoffa⟩, g_end hW ht hw⟩, hS.F ht⟩) hS.2.2 dX12_possible_15 hlocks
-- HealLinkModel.of (I)I
def fX12_of (F : Nat) (x69_0 : Int32) (x69_1 : Int32) (x69_2 : Int32) (x69_3 : Int32) (x69_4 : Int64) (x69_6 : Int32) (x69_17 : Int32) (x69_18 : Int32) (p1 : Int32) : Option (Int32 × Int32) := (if p1 = 0 then some ((fX12_get x69_4 0 2), 0) else (if p1 = 1 then some ((fX12_get x69_4 2 1), 0) else (if p1 = 2 then some ((fX12_get x69_4 3 3), 0) else (if p1 = 3 then some ((fX12_get x69_4 6 1), 0) else (if p1 = 4 then some ((fX12_get x69_4 7 2), 0) else (if p1 = 5 then ((fX12_packetsOf F x69_4).bind (fun r13 => some (r13, 0))) else (if p1 = 6 then ((fX12_lettersOf F x69_4).bind (fun r15 => some (r15, 0))) else (if p1 = 7 then some (x69_6, 0) else (if p1 = 8 then some (x69_0, 0) else (if p1 = 9 then some (x69_1, 0) else (if p1 = 10 then some (x69_2, 0) else (if p1 = 11 then some (x69_3, 0) else (if p1 = 12 then some (x69_17, 0) else some ((-1), 0))))))))))))))
theorem dX12_of_0 : decode cX12_of 0 = .ok (.aload_n 0, 1) := by decide +kernel
theorem dX12_of_1 : decode cX12_of 1 = .ok (.iconst 0, 1) := by decide +kernel
theorem dX12_of_2 : decode cX12_of 2 = .ok (.putfield 137, 3) := by decide +kernel
theorem dX12_of_5 : decode cX12_of 5 = .ok (.iload_n 1, 1) := by decide +kernel
theorem dX12_of_6 : decode cX12_of 6 = .ok (.tableswitch 164 0 12 #[66, 76, 86, 96, 107, 118, 126, 134, 139, 144, 149, 154, 159], 66) := by decide +kernel
theorem dX12_of_72 : decode cX12_of 72 = .ok (.aload_n 0, 1) := by decide +kernel
theorem dX12_of_73 : decode cX12_of 73 = .ok (.getfield 133, 3) := by decide +kernel
theorem dX12_of_76 : decode cX12_of 76 = .ok (.iconst 0, 1) := by decide +kernel
theorem dX12_of_77 : decode cX12_of 77 = .ok (.iconst 2, 1) := by decide +kernel
theorem dX12_of_78 : decode cX12_of 78 = .ok (.invokestatic 142, 3) := by decide +kernel
theorem dX12_of_81 : decode cX12_of 81 = .ok (.ireturn, 1) := by decide +kernel
theorem dX12_of_82 : decode cX12_of 82 = .ok (.aload_n 0, 1) := by decide +kernel
theorem dX12_of_83 : decode cX12_of 83 = .ok (.getfield 133, 3) := by decide +kernel
theorem dX12_of_86 : decode cX12_of 86 = .ok (.iconst 2, 1) := by decide +kernel
theorem dX12_of_87 : decode cX12_of 87 = .ok (.iconst 1, 1) := by decide +kernel
theorem dX12_of_88 : decode cX12_of 88 = .ok (.invokestatic 142, 3) := by decide +kernel
theorem dX12_of_91 : decode cX12_of 91 = .ok (.ireturn, 1) := by decide +kernel
theorem dX12_of_92 : decode cX12_of 92 = .ok (.aload_n 0, 1) := by decide +kernel
theorem dX12_of_93 : decode cX12_of 93 = .ok (.getfield 133, 3) := by decide +kernel
theorem dX12_of_96 : decode cX12_of 96 = .ok (.iconst 3, 1) := by decide +kernel
theorem dX12_of_97 : decode cX12_of 97 = .ok (.iconst 3, 1) := by decide +kernel
theorem dX12_of_98 : decode cX12_of 98 = .ok (.invokestatic 142, 3) := by decide +kernel
theorem dX12_of_101 : decode cX12_of 101 = .ok (.ireturn, 1) := by decide +kernel
theorem dX12_of_102 : decode cX12_of 102 = .ok (.aload_n 0, 1) := by decide +kernel
theorem dX12_of_103 : decode cX12_of 103 = .ok (.getfield 133, 3) := by decide +kernel
theorem dX12_of_106 : decode cX12_of 106 = .ok (.bipush 6, 2) := by decide +kernel
theorem dX12_of_108 : decode cX12_of 108 = .ok (.iconst 1, 1) := by decide +kernel
theorem dX12_of_109 : decode cX12_of 109 = .ok (.invokestatic 142, 3) := by decide +kernel
theorem dX12_of_112 : decode cX12_of 112 = .ok (.ireturn, 1) := by decide +kernel
theorem dX12_of_113 : decode cX12_of 113 = .ok (.aload_n 0, 1) := by decide +kernel
theorem dX12_of_114 : decode cX12_of 114 = .ok (.getfield 133, 3) := by decide +kernel
theorem dX12_of_117 : decode cX12_of 117 = .ok (.bipush 7, 2) := by decide +kernel
theorem dX12_of_119 : decode cX12_of 119 = .ok (.iconst 2, 1) := by decide +kernel
theorem dX12_of_120 : decode cX12_of 120 = .ok (.invokestatic 142, 3) := by decide +kernel
theorem dX12_of_123 : decode cX12_of 123 = .ok (.ireturn, 1) := by decide +kernel
theorem dX12_of_124 : decode cX12_of 124 = .ok (.aload_n 0, 1) := by decide +kernel
theorem dX12_of_125 : decode cX12_of 125 = .ok (.getfield 133, 3) := by decide +kernel
theorem dX12_of_128 : decode cX12_of 128 = .ok (.invokestatic 181, 3) := by decide +kernel
theorem dX12_of_131 : decode cX12_of 131 = .ok (.ireturn, 1) := by decide +kernel
theorem dX12_of_132 : decode cX12_of 132 = .ok (.aload_n 0, 1) := by decide +kernel
theorem dX12_of_133 : decode cX12_of 133 = .ok (.getfield 133, 3) := by decide +kernel
theorem dX12_of_136 : decode cX12_of 136 = .ok (.invokestatic 189, 3) := by decide +kernel
theorem dX12_of_139 : decode cX12_of 139 = .ok (.ireturn, 1) := by decide +kernel
theorem dX12_of_140 : decode cX12_of 140 = .ok (.aload_n 0, 1) := by decide +kernel
theorem dX12_of_141 : decode cX12_of 141 = .ok (.getfield 146, 3) := by decide +kernel
theorem dX12_of_144 : decode cX12_of 144 = .ok (.ireturn, 1) := by decide +kernel
theorem dX12_of_145 : decode cX12_of 145 = .ok (.aload_n 0, 1) := by decide +kernel
theorem dX12_of_146 : decode cX12_of 146 = .ok (.getfield 7, 3) := by decide +kernel
theorem dX12_of_149 : decode cX12_of 149 = .ok (.ireturn, 1) := by decide +kernel
theorem dX12_of_150 : decode cX12_of 150 = .ok (.aload_n 0, 1) := by decide +kernel
theorem dX12_of_151 : decode cX12_of 151 = .ok (.getfield 13, 3) := by decide +kernel
theorem dX12_of_154 : decode cX12_of 154 = .ok (.ireturn, 1) := by decide +kernel
theorem dX12_of_155 : decode cX12_of 155 = .ok (.aload_n 0, 1) := by decide +kernel
theorem dX12_of_156 : decode cX12_of 156 = .ok (.getfield 16, 3) := by decide +kernel
theorem dX12_of_159 : decode cX12_of 159 = .ok (.ireturn, 1) := by decide +kernel
theorem dX12_of_160 : decode cX12_of 160 = .ok (.aload_n 0, 1) := by decide +kernel
theorem dX12_of_161 : decode cX12_of 161 = .ok (.getfield 19, 3) := by decide +kernel
theorem dX12_of_164 : decode cX12_of 164 = .ok (.ireturn, 1) := by decide +kernel
theorem dX12_of_165 : decode cX12_of 165 = .ok (.aload_n 0, 1) := by decide +kernel
theorem dX12_of_166 : decode cX12_of 166 = .ok (.getfield 247, 3) := by decide +kernel
theorem dX12_of_169 : decode cX12_of 169 = .ok (.ireturn, 1) := by decide +kernel
theorem dX12_of_170 : decode cX12_of 170 = .ok (.iconst (-1), 1) := by decide +kernel
theorem dX12_of_171 : decode cX12_of 171 = .ok (.ireturn, 1) := by decide +kernel
set_option maxHeartbeats 4000000 in
set_option maxRecDepth 100000 in
theorem kX12_of {l : Launch} {D : va_G} {cy : Nat → ClassId} {N : Nat} {q : Nat → Nat} {m0 : Nat → Value} {a0 : Nat → vp_A} {sz : Nat} (hN : 105 ≤ N) (hsh : SH q m0) {x69_0 : Int32} (h_x69_0 : m0 6900 = .int x69_0) {x69_1 : Int32} (h_x69_1 : m0 6901 = .int x69_1) {x69_2 : Int32} (h_x69_2 : m0 6902 = .int x69_2) {x69_3 : Int32} (h_x69_3 : m0 6903 = .int x69_3) {x69_4 : Int64} (h_x69_4 : m0 6904 = .long x69_4) {x69_6 : Int32} (h_x69_6 : m0 6906 = .int x69_6) {x69_17 : Int32} (h_x69_17 : m0 6917 = .int x69_17) {x69_18 : Int32} (h_x69_18 : m0 6918 = .int x69_18) (F : Nat) (p1 : Int32) {X0 : Int32 × Int32} (hs0 : fX12_of F x69_0 x69_1 x69_2 x69_3 x69_4 x69_6 x69_17 x69_18 p1 = some X0) : gMi l yX12_of cX12_of 2 (some .int) ({ frames := 2, cells := 0, slots := 0, locals := 46 } : Room) D cy N q m0 a0 sz [.ref (q 69), .int p1] (fun r m' a' => r = X0.1 ∧ m' 6918 = .int X0.2 ∧ (∀ j, nel j [6918] = false → m' j = m0 j) ∧ a' = a0) := by
  refine g_ofi (by decide) (Nat.le_of_ble_eq_true rfl) ?_
  intro p e s M args below meth c hx hb hr hG hown hin hlocks hml hW hS ls hl
  unfold fX12_of at hs0
  have hoff : ∀ j, nel j [6918] = false → m0 j = m0 j := off0
  refine lv_aload_n hx hb dX12_of_0 rfl (lv_at hl 0 rfl) ?_
  refine lv_iconst (v := 0) hx hb dX12_of_1 (by decide) ?_
  refine gp12_18 hx hb hG hown hW hS (o := 69) (ltN hN 69 rfl) gk69 (v := 0) gx246 dX12_of_2 (fun m1 H locs hm1 ho1 hW hS => ?_)
  have ho1 := off1 ho1
  have w_x69_18 : m1 6918 = .int 0 := hm1
  have hoff := offm hoff ho1 (by decide +kernel)
  have hsh := SH.off hsh ho1 (by decide +kernel)
  refine lv_iload_n hx hb dX12_of_5 rfl (lv_at hl 1 rfl) ?_
  by_cases c2 : p1 = 0
  · rw [if_pos c2] at hs0
    refine lv_tableIn (tgt := 72) hx hb dX12_of_6 (by rw [c2]; decide) (by rw [c2]; decide) (by rw [c2]; rfl) (by decide) ?_
    refine lv_aload_n hx hb dX12_of_72 rfl (lv_at hl 0 rfl) ?_
    refine gf12_4 hx hb hG hown hW (o := 69) (ltN hN 69 rfl) gk69 (v := .long x69_4) ((hoff 6904 rfl).trans h_x69_4) gx202 dX12_of_73 ?_
    refine lv_iconst (v := 0) hx hb dX12_of_76 (by decide) ?_
    refine lv_iconst (v := 2) hx hb dX12_of_77 (by decide) ?_
    refine g_SiR (n := 3) hx hb hml hown hG hW hS [.long x69_4, .int 0, .int 2] (kX12_get hN x69_4 0 2) rfl (gd_S gx304 gx305 gx5 gx306) rfl rfl (by decide) ⟨Nat.le_of_ble_eq_true rfl, Nat.le_of_ble_eq_true rfl⟩ rfl hl (Nat.le_of_ble_eq_true rfl) ⟨Nat.zero_le _, Nat.zero_le _⟩ dX12_of_78 (fun H locs hW hS => ?_)
    have hs0 := Option.some.inj hs0
    subst hs0
    exact W.zret hx hb hr rfl (fun t ht hw => ⟨⟨_, (m1, a0), rfl, ⟨rfl, w_x69_18, hoff, rfl⟩, g_end hW ht hw⟩, hS.F ht⟩) hS.2.2 dX12_of_81 hlocks
  · rw [if_neg c2] at hs0
    by_cases c4 : p1 = 1
    · rw [if_pos c4] at hs0
      refine lv_tableIn (tgt := 82) hx hb dX12_of_6 (by rw [c4]; decide) (by rw [c4]; decide) (by rw [c4]; rfl) (by decide) ?_
      refine lv_aload_n hx hb dX12_of_82 rfl (lv_at hl 0 rfl) ?_
      refine gf12_4 hx hb hG hown hW (o := 69) (ltN hN 69 rfl) gk69 (v := .long x69_4) ((hoff 6904 rfl).trans h_x69_4) gx202 dX12_of_83 ?_
      refine lv_iconst (v := 2) hx hb dX12_of_86 (by decide) ?_
      refine lv_iconst (v := 1) hx hb dX12_of_87 (by decide) ?_
      refine g_SiR (n := 3) hx hb hml hown hG hW hS [.long x69_4, .int 2, .int 1] (kX12_get hN x69_4 2 1) rfl (gd_S gx304 gx305 gx5 gx306) rfl rfl (by decide) ⟨Nat.le_of_ble_eq_true rfl, Nat.le_of_ble_eq_true rfl⟩ rfl hl (Nat.le_of_ble_eq_true rfl) ⟨Nat.zero_le _, Nat.zero_le _⟩ dX12_of_88 (fun H locs hW hS => ?_)
      have hs0 := Option.some.inj hs0
      subst hs0
      exact W.zret hx hb hr rfl (fun t ht hw => ⟨⟨_, (m1, a0), rfl, ⟨rfl, w_x69_18, hoff, rfl⟩, g_end hW ht hw⟩, hS.F ht⟩) hS.2.2 dX12_of_91 hlocks
    · rw [if_neg c4] at hs0
      by_cases c6 : p1 = 2
      · rw [if_pos c6] at hs0
        refine lv_tableIn (tgt := 92) hx hb dX12_of_6 (by rw [c6]; decide) (by rw [c6]; decide) (by rw [c6]; rfl) (by decide) ?_
        refine lv_aload_n hx hb dX12_of_92 rfl (lv_at hl 0 rfl) ?_
        refine gf12_4 hx hb hG hown hW (o := 69) (ltN hN 69 rfl) gk69 (v := .long x69_4) ((hoff 6904 rfl).trans h_x69_4) gx202 dX12_of_93 ?_
        refine lv_iconst (v := 3) hx hb dX12_of_96 (by decide) ?_
        refine lv_iconst (v := 3) hx hb dX12_of_97 (by decide) ?_
        refine g_SiR (n := 3) hx hb hml hown hG hW hS [.long x69_4, .int 3, .int 3] (kX12_get hN x69_4 3 3) rfl (gd_S gx304 gx305 gx5 gx306) rfl rfl (by decide) ⟨Nat.le_of_ble_eq_true rfl, Nat.le_of_ble_eq_true rfl⟩ rfl hl (Nat.le_of_ble_eq_true rfl) ⟨Nat.zero_le _, Nat.zero_le _⟩ dX12_of_98 (fun H locs hW hS => ?_)
        have hs0 := Option.some.inj hs0
        subst hs0
        exact W.zret hx hb hr rfl (fun t ht hw => ⟨⟨_, (m1, a0), rfl, ⟨rfl, w_x69_18, hoff, rfl⟩, g_end hW ht hw⟩, hS.F ht⟩) hS.2.2 dX12_of_101 hlocks
      · rw [if_neg c6] at hs0
        by_cases c8 : p1 = 3
        · rw [if_pos c8] at hs0
          refine lv_tableIn (tgt := 102) hx hb dX12_of_6 (by rw [c8]; decide) (by rw [c8]; decide) (by rw [c8]; rfl) (by decide) ?_
          refine lv_aload_n hx hb dX12_of_102 rfl (lv_at hl 0 rfl) ?_
          refine gf12_4 hx hb hG hown hW (o := 69) (ltN hN 69 rfl) gk69 (v := .long x69_4) ((hoff 6904 rfl).trans h_x69_4) gx202 dX12_of_103 ?_
          refine lv_bipush (v := 6) hx hb dX12_of_106 (by decide) ?_
          refine lv_iconst (v := 1) hx hb dX12_of_108 (by decide) ?_
          refine g_SiR (n := 3) hx hb hml hown hG hW hS [.long x69_4, .int 6, .int 1] (kX12_get hN x69_4 6 1) rfl (gd_S gx304 gx305 gx5 gx306) rfl rfl (by decide) ⟨Nat.le_of_ble_eq_true rfl, Nat.le_of_ble_eq_true rfl⟩ rfl hl (Nat.le_of_ble_eq_true rfl) ⟨Nat.zero_le _, Nat.zero_le _⟩ dX12_of_109 (fun H locs hW hS => ?_)
          have hs0 := Option.some.inj hs0
          subst hs0
          exact W.zret hx hb hr rfl (fun t ht hw => ⟨⟨_, (m1, a0), rfl, ⟨rfl, w_x69_18, hoff, rfl⟩, g_end hW ht hw⟩, hS.F ht⟩) hS.2.2 dX12_of_112 hlocks
        · rw [if_neg c8] at hs0
          by_cases c10 : p1 = 4
          · rw [if_pos c10] at hs0
            refine lv_tableIn (tgt := 113) hx hb dX12_of_6 (by rw [c10]; decide) (by rw [c10]; decide) (by rw [c10]; rfl) (by decide) ?_
            refine lv_aload_n hx hb dX12_of_113 rfl (lv_at hl 0 rfl) ?_
            refine gf12_4 hx hb hG hown hW (o := 69) (ltN hN 69 rfl) gk69 (v := .long x69_4) ((hoff 6904 rfl).trans h_x69_4) gx202 dX12_of_114 ?_
            refine lv_bipush (v := 7) hx hb dX12_of_117 (by decide) ?_
            refine lv_iconst (v := 2) hx hb dX12_of_119 (by decide) ?_
            refine g_SiR (n := 3) hx hb hml hown hG hW hS [.long x69_4, .int 7, .int 2] (kX12_get hN x69_4 7 2) rfl (gd_S gx304 gx305 gx5 gx306) rfl rfl (by decide) ⟨Nat.le_of_ble_eq_true rfl, Nat.le_of_ble_eq_true rfl⟩ rfl hl (Nat.le_of_ble_eq_true rfl) ⟨Nat.zero_le _, Nat.zero_le _⟩ dX12_of_120 (fun H locs hW hS => ?_)
            have hs0 := Option.some.inj hs0
            subst hs0
            exact W.zret hx hb hr rfl (fun t ht hw => ⟨⟨_, (m1, a0), rfl, ⟨rfl, w_x69_18, hoff, rfl⟩, g_end hW ht hw⟩, hS.F ht⟩) hS.2.2 dX12_of_123 hlocks
          · rw [if_neg c10] at hs0
            by_cases c12 : p1 = 5
            · rw [if_pos c12] at hs0
              refine lv_tableIn (tgt := 124) hx hb dX12_of_6 (by rw [c12]; decide) (by rw [c12]; decide) (by rw [c12]; rfl) (by decide) ?_
              refine lv_aload_n hx hb dX12_of_124 rfl (lv_at hl 0 rfl) ?_
              refine gf12_4 hx hb hG hown hW (o := 69) (ltN hN 69 rfl) gk69 (v := .long x69_4) ((hoff 6904 rfl).trans h_x69_4) gx202 dX12_of_125 ?_
              obtain ⟨r13, hf13, hs0⟩ := obind hs0
              refine g_SiR (n := 1) hx hb hml hown hG hW hS [.long x69_4] (kX12_packetsOf hN F x69_4 hf13) rfl (gd_S gx361 gx362 gx5 gx363) rfl rfl (by decide) ⟨Nat.le_of_ble_eq_true rfl, Nat.le_of_ble_eq_true rfl⟩ rfl hl (Nat.le_of_ble_eq_true rfl) ⟨Nat.zero_le _, Nat.zero_le _⟩ dX12_of_128 (fun H locs hW hS => ?_)
              have hs0 := Option.some.inj hs0
              subst hs0
              exact W.zret hx hb hr rfl (fun t ht hw => ⟨⟨_, (m1, a0), rfl, ⟨rfl, w_x69_18, hoff, rfl⟩, g_end hW ht hw⟩, hS.F ht⟩) hS.2.2 dX12_of_131 hlocks
            · rw [if_neg c12] at hs0
              by_cases c14 : p1 = 6
              · rw [if_pos c14] at hs0
                refine lv_tableIn (tgt := 132) hx hb dX12_of_6 (by rw [c14]; decide) (by rw [c14]; decide) (by rw [c14]; rfl) (by decide) ?_
                refine lv_aload_n hx hb dX12_of_132 rfl (lv_at hl 0 rfl) ?_
                refine gf12_4 hx hb hG hown hW (o := 69) (ltN hN 69 rfl) gk69 (v := .long x69_4) ((hoff 6904 rfl).trans h_x69_4) gx202 dX12_of_133 ?_
                obtain ⟨r15, hf15, hs0⟩ := obind hs0
                refine g_SiR (n := 1) hx hb hml hown hG hW hS [.long x69_4] (kX12_lettersOf hN F x69_4 hf15) rfl (gd_S gx383 gx384 gx5 gx385) rfl rfl (by decide) ⟨Nat.le_of_ble_eq_true rfl, Nat.le_of_ble_eq_true rfl⟩ rfl hl (Nat.le_of_ble_eq_true rfl) ⟨Nat.zero_le _, Nat.zero_le _⟩ dX12_of_136 (fun H locs hW hS => ?_)
                have hs0 := Option.some.inj hs0
                subst hs0
                exact W.zret hx hb hr rfl (fun t ht hw => ⟨⟨_, (m1, a0), rfl, ⟨rfl, w_x69_18, hoff, rfl⟩, g_end hW ht hw⟩, hS.F ht⟩) hS.2.2 dX12_of_139 hlocks
              · rw [if_neg c14] at hs0
                by_cases c16 : p1 = 7
                · rw [if_pos c16] at hs0
                  refine lv_tableIn (tgt := 140) hx hb dX12_of_6 (by rw [c16]; decide) (by rw [c16]; decide) (by rw [c16]; rfl) (by decide) ?_
                  refine lv_aload_n hx hb dX12_of_140 rfl (lv_at hl 0 rfl) ?_
                  refine gf12_6 hx hb hG hown hW (o := 69) (ltN hN 69 rfl) gk69 (v := .int x69_6) ((hoff 6906 rfl).trans h_x69_6) gx254 dX12_of_141 ?_
                  have hs0 := Option.some.inj hs0
                  subst hs0
                  exact W.zret hx hb hr rfl (fun t ht hw => ⟨⟨_, (m1, a0), rfl, ⟨rfl, w_x69_18, hoff, rfl⟩, g_end hW ht hw⟩, hS.F ht⟩) hS.2.2 dX12_of_144 hlocks
                · rw [if_neg c16] at hs0
                  by_cases c17 : p1 = 8
                  · rw [if_pos c17] at hs0
                    refine lv_tableIn (tgt := 145) hx hb dX12_of_6 (by rw [c17]; decide) (by rw [c17]; decide) (by rw [c17]; rfl) (by decide) ?_
                    refine lv_aload_n hx hb dX12_of_145 rfl (lv_at hl 0 rfl) ?_
                    refine gf12_0 hx hb hG hown hW (o := 69) (ltN hN 69 rfl) gk69 (v := .int x69_0) ((hoff 6900 rfl).trans h_x69_0) gx162 dX12_of_146 ?_
                    have hs0 := Option.some.inj hs0
                    subst hs0
                    exact W.zret hx hb hr rfl (fun t ht hw => ⟨⟨_, (m1, a0), rfl, ⟨rfl, w_x69_18, hoff, rfl⟩, g_end hW ht hw⟩, hS.F ht⟩) hS.2.2 dX12_of_149 hlocks
                  · rw [if_neg c17] at hs0
                    by_cases c18 : p1 = 9
                    · rw [if_pos c18] at hs0
                      refine lv_tableIn (tgt := 150) hx hb dX12_of_6 (by rw [c18]; decide) (by rw [c18]; decide) (by rw [c18]; rfl) (by decide) ?_
                      refine lv_aload_n hx hb dX12_of_150 rfl (lv_at hl 0 rfl) ?_
                      refine gf12_1 hx hb hG hown hW (o := 69) (ltN hN 69 rfl) gk69 (v := .int x69_1) ((hoff 6901 rfl).trans h_x69_1) gx163 dX12_of_151 ?_
                      have hs0 := Option.some.inj hs0
                      subst hs0
                      exact W.zret hx hb hr rfl (fun t ht hw => ⟨⟨_, (m1, a0), rfl, ⟨rfl, w_x69_18, hoff, rfl⟩, g_end hW ht hw⟩, hS.F ht⟩) hS.2.2 dX12_of_154 hlocks
                    · rw [if_neg c18] at hs0
                      by_cases c19 : p1 = 10
                      · rw [if_pos c19] at hs0
                        refine lv_tableIn (tgt := 155) hx hb dX12_of_6 (by rw [c19]; decide) (by rw [c19]; decide) (by rw [c19]; rfl) (by decide) ?_
                        refine lv_aload_n hx hb dX12_of_155 rfl (lv_at hl 0 rfl) ?_
                        refine gf12_2 hx hb hG hown hW (o := 69) (ltN hN 69 rfl) gk69 (v := .int x69_2) ((hoff 6902 rfl).trans h_x69_2) gx164 dX12_of_156 ?_
                        have hs0 := Option.some.inj hs0
                        subst hs0
                        exact W.zret hx hb hr rfl (fun t ht hw => ⟨⟨_, (m1, a0), rfl, ⟨rfl, w_x69_18, hoff, rfl⟩, g_end hW ht hw⟩, hS.F ht⟩) hS.2.2 dX12_of_159 hlocks
                      · rw [if_neg c19] at hs0
                        by_cases c20 : p1 = 11
                        · rw [if_pos c20] at hs0
                          refine lv_tableIn (tgt := 160) hx hb dX12_of_6 (by rw [c20]; decide) (by rw [c20]; decide) (by rw [c20]; rfl) (by decide) ?_
                          refine lv_aload_n hx hb dX12_of_160 rfl (lv_at hl 0 rfl) ?_
                          refine gf12_3 hx hb hG hown hW (o := 69) (ltN hN 69 rfl) gk69 (v := .int x69_3) ((hoff 6903 rfl).trans h_x69_3) gx165 dX12_of_161 ?_
                          have hs0 := Option.some.inj hs0
                          subst hs0
                          exact W.zret hx hb hr rfl (fun t ht hw => ⟨⟨_, (m1, a0), rfl, ⟨rfl, w_x69_18, hoff, rfl⟩, g_end hW ht hw⟩, hS.F ht⟩) hS.2.2 dX12_of_164 hlocks
                        · rw [if_neg c20] at hs0
                          by_cases c21 : p1 = 12
                          · rw [if_pos c21] at hs0
                            refine lv_tableIn (tgt := 165) hx hb dX12_of_6 (by rw [c21]; decide) (by rw [c21]; decide) (by rw [c21]; rfl) (by decide) ?_
                            refine lv_aload_n hx hb dX12_of_165 rfl (lv_at hl 0 rfl) ?_
                            refine gf12_17 hx hb hG hown hW (o := 69) (ltN hN 69 rfl) gk69 (v := .int x69_17) ((hoff 6917 rfl).trans h_x69_17) gx600 dX12_of_166 ?_
                            have hs0 := Option.some.inj hs0
                            subst hs0
                            exact W.zret hx hb hr rfl (fun t ht hw => ⟨⟨_, (m1, a0), rfl, ⟨rfl, w_x69_18, hoff, rfl⟩, g_end hW ht hw⟩, hS.F ht⟩) hS.2.2 dX12_of_169 hlocks
                          · rw [if_neg c21] at hs0
                            have n2 := ti_ne (n := 0) c2 (by decide)
                            have n4 := ti_ne (n := 1) c4 (by decide)
                            have n6 := ti_ne (n := 2) c6 (by decide)
                            have n8 := ti_ne (n := 3) c8 (by decide)
                            have n10 := ti_ne (n := 4) c10 (by decide)
                            have n12 := ti_ne (n := 5) c12 (by decide)
                            have n14 := ti_ne (n := 6) c14 (by decide)
                            have n16 := ti_ne (n := 7) c16 (by decide)
                            have n17 := ti_ne (n := 8) c17 (by decide)
                            have n18 := ti_ne (n := 9) c18 (by decide)
                            have n19 := ti_ne (n := 10) c19 (by decide)
                            have n20 := ti_ne (n := 11) c20 (by decide)
                            have n21 := ti_ne (n := 12) c21 (by decide)
                            refine lv_tableOut (tgt := 170) hx hb dX12_of_6 (by omega) (by decide) ?_
                            refine lv_iconst (v := (-1)) hx hb dX12_of_170 (by decide) ?_
                            have hs0 := Option.some.inj hs0
                            subst hs0
                            exact W.zret hx hb hr rfl (fun t ht hw => ⟨⟨_, (m1, a0), rfl, ⟨rfl, w_x69_18, hoff, rfl⟩, g_end hW ht hw⟩, hS.F ht⟩) hS.2.2 dX12_of_171 hlocks
-- HealLinkModel.kind (III)I
def fX12_kind_J37 (x69_1 : Int32) (x69_4 : Int64) (v1j10 : Int32) (v2j10 : Int32) (v3j10 : Int32) (s0j10 : Int32) (x69_18j10 : Int32) : Int32 × Int32 := (if s0j10 = 1 then (0, s0j10) else (if v3j10 = 0 then ((fX12_get x69_4 (fX12_seenAt v1j10 v2j10) 2), s0j10) else (if v3j10 = 1 then ((fX12_get x69_4 (fX12_packetAt v1j10 v2j10) 2), s0j10) else ((fX12_get x69_4 (fX12_letterAt v1j10) 2), s0j10))))
def fX12_kind_J36 (x69_1 : Int32) (x69_4 : Int64) (v1j3 : Int32) (v2j3 : Int32) (v3j3 : Int32) (x69_18j3 : Int32) : Int32 × Int32 := fX12_kind_J37 x69_1 x69_4 v1j3 v2j3 v3j3 1 x69_18j3
def fX12_kind_J32 (x69_1 : Int32) (x69_4 : Int64) (v1j7 : Int32) (v2j7 : Int32) (v3j7 : Int32) (x69_18j7 : Int32) : Int32 × Int32 := fX12_kind_J37 x69_1 x69_4 v1j7 v2j7 v3j7 0 x69_18j7
def fX12_kind (x69_1 : Int32) (x69_4 : Int64) (x69_18 : Int32) (p1 : Int32) (p2 : Int32) (p3 : Int32) : Int32 × Int32 := (if (fX12_within p3 0 2) = 0 then fX12_kind_J36 x69_1 x69_4 p1 p2 p3 x69_18 else (if (fX12_isLabel x69_1 p1) = 0 then fX12_kind_J36 x69_1 x69_4 p1 p2 p3 x69_18 else (if p3 = 2 then fX12_kind_J32 x69_1 x69_4 p1 p2 p3 x69_18 else (if (fX12_within p2 0 1) = 0 then fX12_kind_J36 x69_1 x69_4 p1 p2 p3 x69_18 else fX12_kind_J32 x69_1 x69_4 p1 p2 p3 x69_18))))
theorem dX12_kind_0 : decode cX12_kind 0 = .ok (.aload_n 0, 1) := by decide +kernel
theorem dX12_kind_1 : decode cX12_kind 1 = .ok (.iload_n 3, 1) := by decide +kernel
theorem dX12_kind_2 : decode cX12_kind 2 = .ok (.iconst 0, 1) := by decide +kernel
theorem dX12_kind_3 : decode cX12_kind 3 = .ok (.iconst 2, 1) := by decide +kernel
theorem dX12_kind_4 : decode cX12_kind 4 = .ok (.invokestatic 159, 3) := by decide +kernel
theorem dX12_kind_7 : decode cX12_kind 7 = .ok (.ifCond .eq 29, 3) := by decide +kernel
theorem dX12_kind_10 : decode cX12_kind 10 = .ok (.aload_n 0, 1) := by decide +kernel
theorem dX12_kind_11 : decode cX12_kind 11 = .ok (.iload_n 1, 1) := by decide +kernel
theorem dX12_kind_12 : decode cX12_kind 12 = .ok (.invokevirtual 166, 3) := by decide +kernel
theorem dX12_kind_15 : decode cX12_kind 15 = .ok (.ifCond .eq 21, 3) := by decide +kernel
theorem dX12_kind_18 : decode cX12_kind 18 = .ok (.iload_n 3, 1) := by decide +kernel
theorem dX12_kind_19 : decode cX12_kind 19 = .ok (.iconst 2, 1) := by decide +kernel
theorem dX12_kind_20 : decode cX12_kind 20 = .ok (.if_icmp .eq 12, 3) := by decide +kernel
theorem dX12_kind_23 : decode cX12_kind 23 = .ok (.iload_n 2, 1) := by decide +kernel
theorem dX12_kind_24 : decode cX12_kind 24 = .ok (.iconst 0, 1) := by decide +kernel
theorem dX12_kind_25 : decode cX12_kind 25 = .ok (.iconst 1, 1) := by decide +kernel
theorem dX12_kind_26 : decode cX12_kind 26 = .ok (.invokestatic 159, 3) := by decide +kernel
theorem dX12_kind_29 : decode cX12_kind 29 = .ok (.ifCond .eq 7, 3) := by decide +kernel
theorem dX12_kind_32 : decode cX12_kind 32 = .ok (.iconst 0, 1) := by decide +kernel
theorem dX12_kind_33 : decode cX12_kind 33 = .ok (.goto 4, 3) := by decide +kernel
theorem dX12_kind_36 : decode cX12_kind 36 = .ok (.iconst 1, 1) := by decide +kernel
theorem dX12_kind_37 : decode cX12_kind 37 = .ok (.putfield 137, 3) := by decide +kernel
theorem dX12_kind_40 : decode cX12_kind 40 = .ok (.aload_n 0, 1) := by decide +kernel
theorem dX12_kind_41 : decode cX12_kind 41 = .ok (.getfield 137, 3) := by decide +kernel
theorem dX12_kind_44 : decode cX12_kind 44 = .ok (.iconst 1, 1) := by decide +kernel
theorem dX12_kind_45 : decode cX12_kind 45 = .ok (.if_icmp .ne 5, 3) := by decide +kernel
theorem dX12_kind_48 : decode cX12_kind 48 = .ok (.iconst 0, 1) := by decide +kernel
theorem dX12_kind_49 : decode cX12_kind 49 = .ok (.ireturn, 1) := by decide +kernel
theorem dX12_kind_50 : decode cX12_kind 50 = .ok (.iload_n 3, 1) := by decide +kernel
theorem dX12_kind_51 : decode cX12_kind 51 = .ok (.ifCond .ne 19, 3) := by decide +kernel
theorem dX12_kind_54 : decode cX12_kind 54 = .ok (.aload_n 0, 1) := by decide +kernel
theorem dX12_kind_55 : decode cX12_kind 55 = .ok (.getfield 133, 3) := by decide +kernel
theorem dX12_kind_58 : decode cX12_kind 58 = .ok (.iload_n 1, 1) := by decide +kernel
theorem dX12_kind_59 : decode cX12_kind 59 = .ok (.iload_n 2, 1) := by decide +kernel
theorem dX12_kind_60 : decode cX12_kind 60 = .ok (.invokestatic 174, 3) := by decide +kernel
theorem dX12_kind_63 : decode cX12_kind 63 = .ok (.iconst 2, 1) := by decide +kernel
theorem dX12_kind_64 : decode cX12_kind 64 = .ok (.invokestatic 142, 3) := by decide +kernel
theorem dX12_kind_67 : decode cX12_kind 67 = .ok (.goto 36, 3) := by decide +kernel
theorem dX12_kind_70 : decode cX12_kind 70 = .ok (.iload_n 3, 1) := by decide +kernel
theorem dX12_kind_71 : decode cX12_kind 71 = .ok (.iconst 1, 1) := by decide +kernel
theorem dX12_kind_72 : decode cX12_kind 72 = .ok (.if_icmp .ne 19, 3) := by decide +kernel
theorem dX12_kind_75 : decode cX12_kind 75 = .ok (.aload_n 0, 1) := by decide +kernel
theorem dX12_kind_76 : decode cX12_kind 76 = .ok (.getfield 133, 3) := by decide +kernel
theorem dX12_kind_79 : decode cX12_kind 79 = .ok (.iload_n 1, 1) := by decide +kernel
theorem dX12_kind_80 : decode cX12_kind 80 = .ok (.iload_n 2, 1) := by decide +kernel
theorem dX12_kind_81 : decode cX12_kind 81 = .ok (.invokestatic 178, 3) := by decide +kernel
theorem dX12_kind_84 : decode cX12_kind 84 = .ok (.iconst 2, 1) := by decide +kernel
theorem dX12_kind_85 : decode cX12_kind 85 = .ok (.invokestatic 142, 3) := by decide +kernel
theorem dX12_kind_88 : decode cX12_kind 88 = .ok (.goto 15, 3) := by decide +kernel
theorem dX12_kind_91 : decode cX12_kind 91 = .ok (.aload_n 0, 1) := by decide +kernel
theorem dX12_kind_92 : decode cX12_kind 92 = .ok (.getfield 133, 3) := by decide +kernel
theorem dX12_kind_95 : decode cX12_kind 95 = .ok (.iload_n 1, 1) := by decide +kernel
theorem dX12_kind_96 : decode cX12_kind 96 = .ok (.invokestatic 185, 3) := by decide +kernel
theorem dX12_kind_99 : decode cX12_kind 99 = .ok (.iconst 2, 1) := by decide +kernel
theorem dX12_kind_100 : decode cX12_kind 100 = .ok (.invokestatic 142, 3) := by decide +kernel
theorem dX12_kind_103 : decode cX12_kind 103 = .ok (.ireturn, 1) := by decide +kernel
set_option maxHeartbeats 4000000 in
set_option maxRecDepth 100000 in
theorem kX12_kind {l : Launch} {D : va_G} {cy : Nat → ClassId} {N : Nat} {q : Nat → Nat} {m0 : Nat → Value} {a0 : Nat → vp_A} {sz : Nat} (hN : 105 ≤ N) (hsh : SH q m0) {x69_1 : Int32} (h_x69_1 : m0 6901 = .int x69_1) {x69_4 : Int64} (h_x69_4 : m0 6904 = .long x69_4) {x69_18 : Int32} (h_x69_18 : m0 6918 = .int x69_18) (p1 : Int32) (p2 : Int32) (p3 : Int32) : gMi l yX12_kind cX12_kind 4 (some .int) ({ frames := 2, cells := 0, slots := 0, locals := 43 } : Room) D cy N q m0 a0 sz [.ref (q 69), .int p1, .int p2, .int p3] (fun r m' a' => r = (fX12_kind x69_1 x69_4 x69_18 p1 p2 p3).1 ∧ m' 6918 = .int ((fX12_kind x69_1 x69_4 x69_18 p1 p2 p3).2) ∧ (∀ j, nel j [6918] = false → m' j = m0 j) ∧ a' = a0) := by
  generalize hs0 : fX12_kind x69_1 x69_4 x69_18 p1 p2 p3 = X0
  refine g_ofi (by decide) (Nat.le_of_ble_eq_true rfl) ?_
  intro p e s M args below meth c hx hb hr hG hown hin hlocks hml hW hS ls hl
  unfold fX12_kind at hs0
  have hoff : ∀ j, nel j [6918] = false → m0 j = m0 j := off0
  have hJ37_0 : ∀ (v1j10 : Int32) (v2j10 : Int32) (v3j10 : Int32) (s0j10 : Int32) (x69_18j10 : Int32) (m : Nat → Value) (H : Heap) (locs : List Loc) (w_x69_18 : m 6918 = .int x69_18j10) (hoff : ∀ j, nel j [6918] = false → m j = m0 j) (hsh : SH q m) (ls : Array Slot) (hl : lv_has ls 4 [(0, .ref (q 69)), (1, .int v1j10), (2, .int v2j10), (3, .int v3j10)]) (hs0 : fX12_kind_J37 x69_1 x69_4 v1j10 v2j10 v3j10 s0j10 x69_18j10 = X0) (hW : GW D cy (gA N q s.heap.size) N q m a0 s H) (hS : va_S (gA N q s.heap.size) s.heap H locs), W p l e ({ frames := 2, cells := 0, slots := 0, locals := 43 } : Room) s M args below meth c H locs 0 0 (MQ below (va_Qi (fun (r : Int32) (u : (Nat → Value) × (Nat → vp_A)) => r = X0.1 ∧ u.1 6918 = .int (X0.2) ∧ (∀ j, nel j [6918] = false → u.1 j = m0 j) ∧ u.2 = a0) (gB D cy N q s.heap.size) (gA N q s.heap.size)) args s 0 0 (gA N q s.heap.size)) (F0 M 37 ls [.int s0j10, .ref (q 69)]) := by
    intro v1j10 v2j10 v3j10 s0j10 x69_18j10 m H locs w_x69_18 hoff hsh ls hl hs0 hW hS
    unfold fX12_kind_J37 at hs0
    refine gp12_18 hx hb hG hown hW hS (o := 69) (ltN hN 69 rfl) gk69 (v := s0j10) gx246 dX12_kind_37 (fun m11 H locs hm11 ho11 hW hS => ?_)
    have ho11 := off1 ho11
    have w_x69_18 : m11 6918 = .int s0j10 := hm11
    have hoff := offm hoff ho11 (by decide +kernel)
    have hsh := SH.off hsh ho11 (by decide +kernel)
    refine lv_aload_n hx hb dX12_kind_40 rfl (lv_at hl 0 rfl) ?_
    refine gf12_18 hx hb hG hown hW (o := 69) (ltN hN 69 rfl) gk69 (v := .int s0j10) w_x69_18 gx246 dX12_kind_41 ?_
    refine lv_iconst (v := 1) hx hb dX12_kind_44 (by decide) ?_
    refine lv_icmp_ne (tgt := 50) hx hb dX12_kind_45 (by decide) (fun c12 => ?_) (fun c12 => ?_)
    · rw [if_neg c12] at hs0
      refine lv_iload_n hx hb dX12_kind_50 rfl (lv_at hl 3 rfl) ?_
      refine lv_if_ne (tgt := 70) hx hb dX12_kind_51 (by decide) (fun c13 => ?_) (fun c13 => ?_)
      · rw [if_neg c13] at hs0
        refine lv_iload_n hx hb dX12_kind_70 rfl (lv_at hl 3 rfl) ?_
        refine lv_iconst (v := 1) hx hb dX12_kind_71 (by decide) ?_
        refine lv_icmp_ne (tgt := 91) hx hb dX12_kind_72 (by decide) (fun c14 => ?_) (fun c14 => ?_)
        · rw [if_neg c14] at hs0
          refine lv_aload_n hx hb dX12_kind_91 rfl (lv_at hl 0 rfl) ?_
          refine gf12_4 hx hb hG hown hW (o := 69) (ltN hN 69 rfl) gk69 (v := .long x69_4) ((hoff 6904 rfl).trans h_x69_4) gx202 dX12_kind_92 ?_
          refine lv_iload_n hx hb dX12_kind_95 rfl (lv_at hl 1 rfl) ?_
          refine g_SiR (n := 1) hx hb hml hown hG hW hS [.int v1j10] (kX12_letterAt hN v1j10) rfl (gd_S gx380 gx381 gx5 gx382) rfl rfl (by decide) ⟨Nat.le_of_ble_eq_true rfl, Nat.le_of_ble_eq_true rfl⟩ rfl hl (Nat.le_of_ble_eq_true rfl) ⟨Nat.zero_le _, Nat.zero_le _⟩ dX12_kind_96 (fun H locs hW hS => ?_)
          refine lv_iconst (v := 2) hx hb dX12_kind_99 (by decide) ?_
          refine g_SiR (n := 3) hx hb hml hown hG hW hS [.long x69_4, .int (fX12_letterAt v1j10), .int 2] (kX12_get hN x69_4 (fX12_letterAt v1j10) 2) rfl (gd_S gx304 gx305 gx5 gx306) rfl rfl (by decide) ⟨Nat.le_of_ble_eq_true rfl, Nat.le_of_ble_eq_true rfl⟩ rfl hl (Nat.le_of_ble_eq_true rfl) ⟨Nat.zero_le _, Nat.zero_le _⟩ dX12_kind_100 (fun H locs hW hS => ?_)
          subst hs0
          exact W.zret hx hb hr rfl (fun t ht hw => ⟨⟨_, (m11, a0), rfl, ⟨rfl, w_x69_18, hoff, rfl⟩, g_end hW ht hw⟩, hS.F ht⟩) hS.2.2 dX12_kind_103 hlocks
        · rw [if_pos c14] at hs0
          refine lv_aload_n hx hb dX12_kind_75 rfl (lv_at hl 0 rfl) ?_
          refine gf12_4 hx hb hG hown hW (o := 69) (ltN hN 69 rfl) gk69 (v := .long x69_4) ((hoff 6904 rfl).trans h_x69_4) gx202 dX12_kind_76 ?_
          refine lv_iload_n hx hb dX12_kind_79 rfl (lv_at hl 1 rfl) ?_
          refine lv_iload_n hx hb dX12_kind_80 rfl (lv_at hl 2 rfl) ?_
          refine g_SiR (n := 2) hx hb hml hown hG hW hS [.int v1j10, .int v2j10] (kX12_packetAt hN v1j10 v2j10) rfl (gd_S gx358 gx359 gx5 gx360) rfl rfl (by decide) ⟨Nat.le_of_ble_eq_true rfl, Nat.le_of_ble_eq_true rfl⟩ rfl hl (Nat.le_of_ble_eq_true rfl) ⟨Nat.zero_le _, Nat.zero_le _⟩ dX12_kind_81 (fun H locs hW hS => ?_)
          refine lv_iconst (v := 2) hx hb dX12_kind_84 (by decide) ?_
          refine g_SiR (n := 3) hx hb hml hown hG hW hS [.long x69_4, .int (fX12_packetAt v1j10 v2j10), .int 2] (kX12_get hN x69_4 (fX12_packetAt v1j10 v2j10) 2) rfl (gd_S gx304 gx305 gx5 gx306) rfl rfl (by decide) ⟨Nat.le_of_ble_eq_true rfl, Nat.le_of_ble_eq_true rfl⟩ rfl hl (Nat.le_of_ble_eq_true rfl) ⟨Nat.zero_le _, Nat.zero_le _⟩ dX12_kind_85 (fun H locs hW hS => ?_)
          refine lv_goto (tgt := 103) hx hb dX12_kind_88 (by decide) ?_
          subst hs0
          exact W.zret hx hb hr rfl (fun t ht hw => ⟨⟨_, (m11, a0), rfl, ⟨rfl, w_x69_18, hoff, rfl⟩, g_end hW ht hw⟩, hS.F ht⟩) hS.2.2 dX12_kind_103 hlocks
      · rw [if_pos c13] at hs0
        refine lv_aload_n hx hb dX12_kind_54 rfl (lv_at hl 0 rfl) ?_
        refine gf12_4 hx hb hG hown hW (o := 69) (ltN hN 69 rfl) gk69 (v := .long x69_4) ((hoff 6904 rfl).trans h_x69_4) gx202 dX12_kind_55 ?_
        refine lv_iload_n hx hb dX12_kind_58 rfl (lv_at hl 1 rfl) ?_
        refine lv_iload_n hx hb dX12_kind_59 rfl (lv_at hl 2 rfl) ?_
        refine g_SiR (n := 2) hx hb hml hown hG hW hS [.int v1j10, .int v2j10] (kX12_seenAt hN v1j10 v2j10) rfl (gd_S gx331 gx332 gx5 gx333) rfl rfl (by decide) ⟨Nat.le_of_ble_eq_true rfl, Nat.le_of_ble_eq_true rfl⟩ rfl hl (Nat.le_of_ble_eq_true rfl) ⟨Nat.zero_le _, Nat.zero_le _⟩ dX12_kind_60 (fun H locs hW hS => ?_)
        refine lv_iconst (v := 2) hx hb dX12_kind_63 (by decide) ?_
        refine g_SiR (n := 3) hx hb hml hown hG hW hS [.long x69_4, .int (fX12_seenAt v1j10 v2j10), .int 2] (kX12_get hN x69_4 (fX12_seenAt v1j10 v2j10) 2) rfl (gd_S gx304 gx305 gx5 gx306) rfl rfl (by decide) ⟨Nat.le_of_ble_eq_true rfl, Nat.le_of_ble_eq_true rfl⟩ rfl hl (Nat.le_of_ble_eq_true rfl) ⟨Nat.zero_le _, Nat.zero_le _⟩ dX12_kind_64 (fun H locs hW hS => ?_)
        refine lv_goto (tgt := 103) hx hb dX12_kind_67 (by decide) ?_
        subst hs0
        exact W.zret hx hb hr rfl (fun t ht hw => ⟨⟨_, (m11, a0), rfl, ⟨rfl, w_x69_18, hoff, rfl⟩, g_end hW ht hw⟩, hS.F ht⟩) hS.2.2 dX12_kind_103 hlocks
    · rw [if_pos c12] at hs0
      refine lv_iconst (v := 0) hx hb dX12_kind_48 (by decide) ?_
      subst hs0
      exact W.zret hx hb hr rfl (fun t ht hw => ⟨⟨_, (m11, a0), rfl, ⟨rfl, w_x69_18, hoff, rfl⟩, g_end hW ht hw⟩, hS.F ht⟩) hS.2.2 dX12_kind_49 hlocks
  have hJ36_0 : ∀ (v1j3 : Int32) (v2j3 : Int32) (v3j3 : Int32) (x69_18j3 : Int32) (m : Nat → Value) (H : Heap) (locs : List Loc) (w_x69_18 : m 6918 = .int x69_18j3) (hoff : ∀ j, nel j [6918] = false → m j = m0 j) (hsh : SH q m) (ls : Array Slot) (hl : lv_has ls 4 [(0, .ref (q 69)), (1, .int v1j3), (2, .int v2j3), (3, .int v3j3)]) (hs0 : fX12_kind_J36 x69_1 x69_4 v1j3 v2j3 v3j3 x69_18j3 = X0) (hW : GW D cy (gA N q s.heap.size) N q m a0 s H) (hS : va_S (gA N q s.heap.size) s.heap H locs), W p l e ({ frames := 2, cells := 0, slots := 0, locals := 43 } : Room) s M args below meth c H locs 0 0 (MQ below (va_Qi (fun (r : Int32) (u : (Nat → Value) × (Nat → vp_A)) => r = X0.1 ∧ u.1 6918 = .int (X0.2) ∧ (∀ j, nel j [6918] = false → u.1 j = m0 j) ∧ u.2 = a0) (gB D cy N q s.heap.size) (gA N q s.heap.size)) args s 0 0 (gA N q s.heap.size)) (F0 M 36 ls [.ref (q 69)]) := by
    intro v1j3 v2j3 v3j3 x69_18j3 m H locs w_x69_18 hoff hsh ls hl hs0 hW hS
    unfold fX12_kind_J36 at hs0
    refine lv_iconst (v := 1) hx hb dX12_kind_36 (by decide) ?_
    exact hJ37_0 v1j3 v2j3 v3j3 1 x69_18j3 m _ _ w_x69_18 hoff hsh ls (lv_sub hl [0, 1, 2, 3] rfl) hs0 hW hS
  have hJ32_0 : ∀ (v1j7 : Int32) (v2j7 : Int32) (v3j7 : Int32) (x69_18j7 : Int32) (m : Nat → Value) (H : Heap) (locs : List Loc) (w_x69_18 : m 6918 = .int x69_18j7) (hoff : ∀ j, nel j [6918] = false → m j = m0 j) (hsh : SH q m) (ls : Array Slot) (hl : lv_has ls 4 [(0, .ref (q 69)), (1, .int v1j7), (2, .int v2j7), (3, .int v3j7)]) (hs0 : fX12_kind_J32 x69_1 x69_4 v1j7 v2j7 v3j7 x69_18j7 = X0) (hW : GW D cy (gA N q s.heap.size) N q m a0 s H) (hS : va_S (gA N q s.heap.size) s.heap H locs), W p l e ({ frames := 2, cells := 0, slots := 0, locals := 43 } : Room) s M args below meth c H locs 0 0 (MQ below (va_Qi (fun (r : Int32) (u : (Nat → Value) × (Nat → vp_A)) => r = X0.1 ∧ u.1 6918 = .int (X0.2) ∧ (∀ j, nel j [6918] = false → u.1 j = m0 j) ∧ u.2 = a0) (gB D cy N q s.heap.size) (gA N q s.heap.size)) args s 0 0 (gA N q s.heap.size)) (F0 M 32 ls [.ref (q 69)]) := by
    intro v1j7 v2j7 v3j7 x69_18j7 m H locs w_x69_18 hoff hsh ls hl hs0 hW hS
    unfold fX12_kind_J32 at hs0
    refine lv_iconst (v := 0) hx hb dX12_kind_32 (by decide) ?_
    refine lv_goto (tgt := 37) hx hb dX12_kind_33 (by decide) ?_
    exact hJ37_0 v1j7 v2j7 v3j7 0 x69_18j7 m _ _ w_x69_18 hoff hsh ls (lv_sub hl [0, 1, 2, 3] rfl) hs0 hW hS
  refine lv_aload_n hx hb dX12_kind_0 rfl (lv_at hl 0 rfl) ?_
  refine lv_iload_n hx hb dX12_kind_1 rfl (lv_at hl 3 rfl) ?_
  refine lv_iconst (v := 0) hx hb dX12_kind_2 (by decide) ?_
  refine lv_iconst (v := 2) hx hb dX12_kind_3 (by decide) ?_
  refine g_SiR (n := 3) hx hb hml hown hG hW hS [.int p3, .int 0, .int 2] (kX12_within hN p3 0 2) rfl (gd_S gx247 gx248 gx5 gx249) rfl rfl (by decide) ⟨Nat.le_of_ble_eq_true rfl, Nat.le_of_ble_eq_true rfl⟩ rfl hl (Nat.le_of_ble_eq_true rfl) ⟨Nat.zero_le _, Nat.zero_le _⟩ dX12_kind_4 (fun H locs hW hS => ?_)
  refine lv_if_eq (tgt := 36) hx hb dX12_kind_7 (by decide) (fun c2 => ?_) (fun c2 => ?_)
  · rw [if_pos c2] at hs0
    exact hJ36_0 p1 p2 p3 x69_18 m0 _ _ h_x69_18 hoff hsh ls (lv_sub hl [0, 1, 2, 3] rfl) hs0 hW hS
  · rw [if_neg c2] at hs0
    refine lv_aload_n hx hb dX12_kind_10 rfl (lv_at hl 0 rfl) ?_
    refine lv_iload_n hx hb dX12_kind_11 rfl (lv_at hl 1 rfl) ?_
    refine g_ViR (n := 1) hx hb hml hown hG hW hS [.int p1] (kX12_isLabel hN ((hoff 6901 rfl).trans h_x69_1) p1) (ltN hN 69 rfl) gk69 (by decide) rfl rfl (gd_V gx284 gx285 gx286 gx5 gx287) rfl rfl (by decide) ⟨Nat.le_of_ble_eq_true rfl, Nat.le_of_ble_eq_true rfl⟩ rfl hl (Nat.le_of_ble_eq_true rfl) ⟨Nat.zero_le _, Nat.zero_le _⟩ dX12_kind_12 (fun H locs hW hS => ?_)
    refine lv_if_eq (tgt := 36) hx hb dX12_kind_15 (by decide) (fun c5 => ?_) (fun c5 => ?_)
    · rw [if_pos c5] at hs0
      exact hJ36_0 p1 p2 p3 x69_18 m0 _ _ h_x69_18 hoff hsh ls (lv_sub hl [0, 1, 2, 3] rfl) hs0 hW hS
    · rw [if_neg c5] at hs0
      refine lv_iload_n hx hb dX12_kind_18 rfl (lv_at hl 3 rfl) ?_
      refine lv_iconst (v := 2) hx hb dX12_kind_19 (by decide) ?_
      refine lv_icmp_eq (tgt := 32) hx hb dX12_kind_20 (by decide) (fun c6 => ?_) (fun c6 => ?_)
      · rw [if_pos c6] at hs0
        exact hJ32_0 p1 p2 p3 x69_18 m0 _ _ h_x69_18 hoff hsh ls (lv_sub hl [0, 1, 2, 3] rfl) hs0 hW hS
      · rw [if_neg c6] at hs0
        refine lv_iload_n hx hb dX12_kind_23 rfl (lv_at hl 2 rfl) ?_
        refine lv_iconst (v := 0) hx hb dX12_kind_24 (by decide) ?_
        refine lv_iconst (v := 1) hx hb dX12_kind_25 (by decide) ?_
        refine g_SiR (n := 3) hx hb hml hown hG hW hS [.int p2, .int 0, .int 1] (kX12_within hN p2 0 1) rfl (gd_S gx247 gx248 gx5 gx249) rfl rfl (by decide) ⟨Nat.le_of_ble_eq_true rfl, Nat.le_of_ble_eq_true rfl⟩ rfl hl (Nat.le_of_ble_eq_true rfl) ⟨Nat.zero_le _, Nat.zero_le _⟩ dX12_kind_26 (fun H locs hW hS => ?_)
        refine lv_if_eq (tgt := 36) hx hb dX12_kind_29 (by decide) (fun c9 => ?_) (fun c9 => ?_)
        · rw [if_pos c9] at hs0
          exact hJ36_0 p1 p2 p3 x69_18 m0 _ _ h_x69_18 hoff hsh ls (lv_sub hl [0, 1, 2, 3] rfl) hs0 hW hS
        · rw [if_neg c9] at hs0
          exact hJ32_0 p1 p2 p3 x69_18 m0 _ _ h_x69_18 hoff hsh ls (lv_sub hl [0, 1, 2, 3] rfl) hs0 hW hS
-- HealLinkModel.queued (I)I
def fX12_queued_J20 (x69_6 : Int32) (A70 : Nat → Int32) (v1j3 : Int32) (s0j3 : Int32) (x69_18j3 : Int32) : Option (Int32 × Int32) := (if s0j3 = 0 then (if inb v1j3 30 = true then some (A70 v1j3.toNatClampNeg, s0j3) else none) else some (0, s0j3))
def fX12_queued (x69_6 : Int32) (A70 : Nat → Int32) (x69_18 : Int32) (p1 : Int32) : Option (Int32 × Int32) := (if (fX12_within p1 0 (x69_6 - 1)) = 0 then fX12_queued_J20 x69_6 A70 p1 1 x69_18 else fX12_queued_J20 x69_6 A70 p1 0 x69_18)
theorem dX12_queued_0 : decode cX12_queued 0 = .ok (.aload_n 0, 1) := by decide +kernel
theorem dX12_queued_1 : decode cX12_queued 1 = .ok (.iload_n 1, 1) := by decide +kernel
theorem dX12_queued_2 : decode cX12_queued 2 = .ok (.iconst 0, 1) := by decide +kernel
theorem dX12_queued_3 : decode cX12_queued 3 = .ok (.aload_n 0, 1) := by decide +kernel
theorem dX12_queued_4 : decode cX12_queued 4 = .ok (.getfield 146, 3) := by decide +kernel
theorem dX12_queued_7 : decode cX12_queued 7 = .ok (.iconst 1, 1) := by decide +kernel
theorem dX12_queued_8 : decode cX12_queued 8 = .ok (.isub, 1) := by decide +kernel
theorem dX12_queued_9 : decode cX12_queued 9 = .ok (.invokestatic 159, 3) := by decide +kernel
theorem dX12_queued_12 : decode cX12_queued 12 = .ok (.ifCond .eq 7, 3) := by decide +kernel
theorem dX12_queued_15 : decode cX12_queued 15 = .ok (.iconst 0, 1) := by decide +kernel
theorem dX12_queued_16 : decode cX12_queued 16 = .ok (.goto 4, 3) := by decide +kernel
theorem dX12_queued_19 : decode cX12_queued 19 = .ok (.iconst 1, 1) := by decide +kernel
theorem dX12_queued_20 : decode cX12_queued 20 = .ok (.putfield 137, 3) := by decide +kernel
theorem dX12_queued_23 : decode cX12_queued 23 = .ok (.aload_n 0, 1) := by decide +kernel
theorem dX12_queued_24 : decode cX12_queued 24 = .ok (.getfield 137, 3) := by decide +kernel
theorem dX12_queued_27 : decode cX12_queued 27 = .ok (.ifCond .ne 12, 3) := by decide +kernel
theorem dX12_queued_30 : decode cX12_queued 30 = .ok (.aload_n 0, 1) := by decide +kernel
theorem dX12_queued_31 : decode cX12_queued 31 = .ok (.getfield 22, 3) := by decide +kernel
theorem dX12_queued_34 : decode cX12_queued 34 = .ok (.iload_n 1, 1) := by decide +kernel
theorem dX12_queued_35 : decode cX12_queued 35 = .ok (.iaload, 1) := by decide +kernel
theorem dX12_queued_36 : decode cX12_queued 36 = .ok (.goto 4, 3) := by decide +kernel
theorem dX12_queued_39 : decode cX12_queued 39 = .ok (.iconst 0, 1) := by decide +kernel
theorem dX12_queued_40 : decode cX12_queued 40 = .ok (.ireturn, 1) := by decide +kernel
set_option maxHeartbeats 4000000 in
set_option maxRecDepth 100000 in
theorem kX12_queued {l : Launch} {D : va_G} {cy : Nat → ClassId} {N : Nat} {q : Nat → Nat} {m0 : Nat → Value} {a0 : Nat → vp_A} {sz : Nat} (hN : 105 ≤ N) (hsh : SH q m0) {x69_6 : Int32} (h_x69_6 : m0 6906 = .int x69_6) {A70 : Nat → Int32} (h_A70 : a0 70 = (30, .inl A70)) {x69_18 : Int32} (h_x69_18 : m0 6918 = .int x69_18) (p1 : Int32) {X0 : Int32 × Int32} (hs0 : fX12_queued x69_6 A70 x69_18 p1 = some X0) : gMi l yX12_queued cX12_queued 2 (some .int) ({ frames := 1, cells := 0, slots := 0, locals := 22 } : Room) D cy N q m0 a0 sz [.ref (q 69), .int p1] (fun r m' a' => r = X0.1 ∧ m' 6918 = .int X0.2 ∧ (∀ j, nel j [6918] = false → m' j = m0 j) ∧ a' = a0) := by
  refine g_ofi (by decide) (Nat.le_of_ble_eq_true rfl) ?_
  intro p e s M args below meth c hx hb hr hG hown hin hlocks hml hW hS ls hl
  unfold fX12_queued at hs0
  have hoff : ∀ j, nel j [6918] = false → m0 j = m0 j := off0
  have hJ20_0 : ∀ (v1j3 : Int32) (s0j3 : Int32) (x69_18j3 : Int32) (m : Nat → Value) (H : Heap) (locs : List Loc) (w_x69_18 : m 6918 = .int x69_18j3) (hoff : ∀ j, nel j [6918] = false → m j = m0 j) (hsh : SH q m) (ls : Array Slot) (hl : lv_has ls 2 [(0, .ref (q 69)), (1, .int v1j3)]) (hs0 : fX12_queued_J20 x69_6 A70 v1j3 s0j3 x69_18j3 = some X0) (hW : GW D cy (gA N q s.heap.size) N q m a0 s H) (hS : va_S (gA N q s.heap.size) s.heap H locs), W p l e ({ frames := 1, cells := 0, slots := 0, locals := 22 } : Room) s M args below meth c H locs 0 0 (MQ below (va_Qi (fun (r : Int32) (u : (Nat → Value) × (Nat → vp_A)) => r = X0.1 ∧ u.1 6918 = .int X0.2 ∧ (∀ j, nel j [6918] = false → u.1 j = m0 j) ∧ u.2 = a0) (gB D cy N q s.heap.size) (gA N q s.heap.size)) args s 0 0 (gA N q s.heap.size)) (F0 M 20 ls [.int s0j3, .ref (q 69)]) := by
    intro v1j3 s0j3 x69_18j3 m H locs w_x69_18 hoff hsh ls hl hs0 hW hS
    unfold fX12_queued_J20 at hs0
    refine gp12_18 hx hb hG hown hW hS (o := 69) (ltN hN 69 rfl) gk69 (v := s0j3) gx246 dX12_queued_20 (fun m4 H locs hm4 ho4 hW hS => ?_)
    have ho4 := off1 ho4
    have w_x69_18 : m4 6918 = .int s0j3 := hm4
    have hoff := offm hoff ho4 (by decide +kernel)
    have hsh := SH.off hsh ho4 (by decide +kernel)
    refine lv_aload_n hx hb dX12_queued_23 rfl (lv_at hl 0 rfl) ?_
    refine gf12_18 hx hb hG hown hW (o := 69) (ltN hN 69 rfl) gk69 (v := .int s0j3) w_x69_18 gx246 dX12_queued_24 ?_
    refine lv_if_ne (tgt := 39) hx hb dX12_queued_27 (by decide) (fun c5 => ?_) (fun c5 => ?_)
    · rw [if_neg c5] at hs0
      refine lv_iconst (v := 0) hx hb dX12_queued_39 (by decide) ?_
      have hs0 := Option.some.inj hs0
      subst hs0
      exact W.zret hx hb hr rfl (fun t ht hw => ⟨⟨_, (m4, a0), rfl, ⟨rfl, w_x69_18, hoff, rfl⟩, g_end hW ht hw⟩, hS.F ht⟩) hS.2.2 dX12_queued_40 hlocks
    · rw [if_pos c5] at hs0
      refine lv_aload_n hx hb dX12_queued_30 rfl (lv_at hl 0 rfl) ?_
      refine gf12_5 hx hb hG hown hW (o := 69) (ltN hN 69 rfl) gk69 (v := .ref (q 70)) (sh69_5 hsh) gx166 dX12_queued_31 ?_
      refine lv_iload_n hx hb dX12_queued_34 rfl (lv_at hl 1 rfl) ?_
      obtain ⟨hi6, hs0⟩ := oif hs0
      refine g_iald hx hb hW (o := 70) (ltN hN 70 rfl) gk70 h_A70 (vin hi6) dX12_queued_35 ?_
      refine lv_goto (tgt := 40) hx hb dX12_queued_36 (by decide) ?_
      have hs0 := Option.some.inj hs0
      subst hs0
      exact W.zret hx hb hr rfl (fun t ht hw => ⟨⟨_, (m4, a0), rfl, ⟨rfl, w_x69_18, hoff, rfl⟩, g_end hW ht hw⟩, hS.F ht⟩) hS.2.2 dX12_queued_40 hlocks
  refine lv_aload_n hx hb dX12_queued_0 rfl (lv_at hl 0 rfl) ?_
  refine lv_iload_n hx hb dX12_queued_1 rfl (lv_at hl 1 rfl) ?_
  refine lv_iconst (v := 0) hx hb dX12_queued_2 (by decide) ?_
  refine lv_aload_n hx hb dX12_queued_3 rfl (lv_at hl 0 rfl) ?_
  refine gf12_6 hx hb hG hown hW (o := 69) (ltN hN 69 rfl) gk69 (v := .int x69_6) ((hoff 6906 rfl).trans h_x69_6) gx254 dX12_queued_4 ?_
  refine lv_iconst (v := 1) hx hb dX12_queued_7 (by decide) ?_
  refine lv_isub hx hb dX12_queued_8 ?_
  refine g_SiR (n := 3) hx hb hml hown hG hW hS [.int p1, .int 0, .int (x69_6 - 1)] (kX12_within hN p1 0 (x69_6 - 1)) rfl (gd_S gx247 gx248 gx5 gx249) rfl rfl (by decide) ⟨Nat.le_of_ble_eq_true rfl, Nat.le_of_ble_eq_true rfl⟩ rfl hl (Nat.le_of_ble_eq_true rfl) ⟨Nat.zero_le _, Nat.zero_le _⟩ dX12_queued_9 (fun H locs hW hS => ?_)
  refine lv_if_eq (tgt := 19) hx hb dX12_queued_12 (by decide) (fun c2 => ?_) (fun c2 => ?_)
  · rw [if_pos c2] at hs0
    refine lv_iconst (v := 1) hx hb dX12_queued_19 (by decide) ?_
    exact hJ20_0 p1 1 x69_18 m0 _ _ h_x69_18 hoff hsh ls (lv_sub hl [0, 1] rfl) hs0 hW hS
  · rw [if_neg c2] at hs0
    refine lv_iconst (v := 0) hx hb dX12_queued_15 (by decide) ?_
    refine lv_goto (tgt := 20) hx hb dX12_queued_16 (by decide) ?_
    exact hJ20_0 p1 0 x69_18 m0 _ _ h_x69_18 hoff hsh ls (lv_sub hl [0, 1] rfl) hs0 hW hS
-- HealLinkModel.count (I)I
def fX12_count (A71 : Nat → Int32) (x69_18 : Int32) (p1 : Int32) : Option (Int32 × Int32) := (if (fX12_within p1 0 7) = 0 then some ((-1), 0) else (if inb p1 8 = true then some (A71 p1.toNatClampNeg, 0) else none))
theorem dX12_count_0 : decode cX12_count 0 = .ok (.aload_n 0, 1) := by decide +kernel
theorem dX12_count_1 : decode cX12_count 1 = .ok (.iconst 0, 1) := by decide +kernel
theorem dX12_count_2 : decode cX12_count 2 = .ok (.putfield 137, 3) := by decide +kernel
theorem dX12_count_5 : decode cX12_count 5 = .ok (.iload_n 1, 1) := by decide +kernel
theorem dX12_count_6 : decode cX12_count 6 = .ok (.iconst 0, 1) := by decide +kernel
theorem dX12_count_7 : decode cX12_count 7 = .ok (.bipush 7, 2) := by decide +kernel
theorem dX12_count_9 : decode cX12_count 9 = .ok (.invokestatic 159, 3) := by decide +kernel
theorem dX12_count_12 : decode cX12_count 12 = .ok (.ifCond .eq 12, 3) := by decide +kernel
theorem dX12_count_15 : decode cX12_count 15 = .ok (.aload_n 0, 1) := by decide +kernel
theorem dX12_count_16 : decode cX12_count 16 = .ok (.getfield 26, 3) := by decide +kernel
theorem dX12_count_19 : decode cX12_count 19 = .ok (.iload_n 1, 1) := by decide +kernel
theorem dX12_count_20 : decode cX12_count 20 = .ok (.iaload, 1) := by decide +kernel
theorem dX12_count_21 : decode cX12_count 21 = .ok (.goto 4, 3) := by decide +kernel
theorem dX12_count_24 : decode cX12_count 24 = .ok (.iconst (-1), 1) := by decide +kernel
theorem dX12_count_25 : decode cX12_count 25 = .ok (.ireturn, 1) := by decide +kernel
set_option maxHeartbeats 4000000 in
set_option maxRecDepth 100000 in
theorem kX12_count {l : Launch} {D : va_G} {cy : Nat → ClassId} {N : Nat} {q : Nat → Nat} {m0 : Nat → Value} {a0 : Nat → vp_A} {sz : Nat} (hN : 105 ≤ N) (hsh : SH q m0) {A71 : Nat → Int32} (h_A71 : a0 71 = (8, .inl A71)) {x69_18 : Int32} (h_x69_18 : m0 6918 = .int x69_18) (p1 : Int32) {X0 : Int32 × Int32} (hs0 : fX12_count A71 x69_18 p1 = some X0) : gMi l yX12_count cX12_count 2 (some .int) ({ frames := 1, cells := 0, slots := 0, locals := 22 } : Room) D cy N q m0 a0 sz [.ref (q 69), .int p1] (fun r m' a' => r = X0.1 ∧ m' 6918 = .int X0.2 ∧ (∀ j, nel j [6918] = false → m' j = m0 j) ∧ a' = a0) := by
  refine g_ofi (by decide) (Nat.le_of_ble_eq_true rfl) ?_
  intro p e s M args below meth c hx hb hr hG hown hin hlocks hml hW hS ls hl
  unfold fX12_count at hs0
  have hoff : ∀ j, nel j [6918] = false → m0 j = m0 j := off0
  refine lv_aload_n hx hb dX12_count_0 rfl (lv_at hl 0 rfl) ?_
  refine lv_iconst (v := 0) hx hb dX12_count_1 (by decide) ?_
  refine gp12_18 hx hb hG hown hW hS (o := 69) (ltN hN 69 rfl) gk69 (v := 0) gx246 dX12_count_2 (fun m1 H locs hm1 ho1 hW hS => ?_)
  have ho1 := off1 ho1
  have w_x69_18 : m1 6918 = .int 0 := hm1
  have hoff := offm hoff ho1 (by decide +kernel)
  have hsh := SH.off hsh ho1 (by decide +kernel)
  refine lv_iload_n hx hb dX12_count_5 rfl (lv_at hl 1 rfl) ?_
  refine lv_iconst (v := 0) hx hb dX12_count_6 (by decide) ?_
  refine lv_bipush (v := 7) hx hb dX12_count_7 (by decide) ?_
  refine g_SiR (n := 3) hx hb hml hown hG hW hS [.int p1, .int 0, .int 7] (kX12_within hN p1 0 7) rfl (gd_S gx247 gx248 gx5 gx249) rfl rfl (by decide) ⟨Nat.le_of_ble_eq_true rfl, Nat.le_of_ble_eq_true rfl⟩ rfl hl (Nat.le_of_ble_eq_true rfl) ⟨Nat.zero_le _, Nat.zero_le _⟩ dX12_count_9 (fun H locs hW hS => ?_)
  refine lv_if_eq (tgt := 24) hx hb dX12_count_12 (by decide) (fun c3 => ?_) (fun c3 => ?_)
  · rw [if_pos c3] at hs0
    refine lv_iconst (v := (-1)) hx hb dX12_count_24 (by decide) ?_
    have hs0 := Option.some.inj hs0
    subst hs0
    exact W.zret hx hb hr rfl (fun t ht hw => ⟨⟨_, (m1, a0), rfl, ⟨rfl, w_x69_18, hoff, rfl⟩, g_end hW ht hw⟩, hS.F ht⟩) hS.2.2 dX12_count_25 hlocks
  · rw [if_neg c3] at hs0
    refine lv_aload_n hx hb dX12_count_15 rfl (lv_at hl 0 rfl) ?_
    refine gf12_7 hx hb hG hown hW (o := 69) (ltN hN 69 rfl) gk69 (v := .ref (q 71)) (sh69_7 hsh) gx167 dX12_count_16 ?_
    refine lv_iload_n hx hb dX12_count_19 rfl (lv_at hl 1 rfl) ?_
    obtain ⟨hi4, hs0⟩ := oif hs0
    refine g_iald hx hb hW (o := 71) (ltN hN 71 rfl) gk71 h_A71 (vin hi4) dX12_count_20 ?_
    refine lv_goto (tgt := 25) hx hb dX12_count_21 (by decide) ?_
    have hs0 := Option.some.inj hs0
    subst hs0
    exact W.zret hx hb hr rfl (fun t ht hw => ⟨⟨_, (m1, a0), rfl, ⟨rfl, w_x69_18, hoff, rfl⟩, g_end hW ht hw⟩, hS.F ht⟩) hS.2.2 dX12_count_25 hlocks
