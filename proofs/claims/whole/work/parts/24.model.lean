/-! 24.model (by program): the pure function of each method, its rows, its contract -/
-- HealLinkModel.canBy (IIZ)Z
def fX12_canBy_J63 (F : Nat) (A81 : Nat → Int32) (A82 : Nat → Int32) (A83 : Nat → Int32) (A97 : Nat → Int32) (v1 : Int32) (v2 : Int32) (v3 : Int32) (v4j9 : Int32) : Option (((Unit) ⊕ (Unit) ⊕ (Unit)) ⊕ (Int32)) := some (Sum.inr (v4j9 + 1))
def fX12_canBy_S8 (F : Nat) (A81 : Nat → Int32) (A82 : Nat → Int32) (A83 : Nat → Int32) (A97 : Nat → Int32) (v1 : Int32) (v2 : Int32) (v3 : Int32) (v4 : Int32) : Option (((Unit) ⊕ (Unit) ⊕ (Unit)) ⊕ (Int32)) := (if inb (v1 + 1) 6002 = true then (if (A81 (v1 + 1).toNatClampNeg) ≤ v4 then some (Sum.inl (Sum.inr (Sum.inr (())))) else (if v2 = 1 then (if inb v4 84000 = true then ((fX12_isWanted (A83 v4.toNatClampNeg) v3).bind (fun r11 => (if r11 = 0 then fX12_canBy_J63 F A81 A82 A83 A97 v1 v2 v3 v4 else some (Sum.inl (Sum.inl ()))))) else none) else (if inb v4 84000 = true then (if inb (A82 v4.toNatClampNeg) 6001 = true then (if (A97 (A82 v4.toNatClampNeg).toNatClampNeg) = (v2 - 1) then some (Sum.inl (Sum.inr (Sum.inl ()))) else fX12_canBy_J63 F A81 A82 A83 A97 v1 v2 v3 v4) else none) else none))) else none)
def fX12_canBy (F : Nat) (A81 : Nat → Int32) (A82 : Nat → Int32) (A83 : Nat → Int32) (A97 : Nat → Int32) (p1 : Int32) (p2 : Int32) (p3 : Int32) : Option (Int32) := (if inb p1 6002 = true then (gloop (fun u2 : Int32 => fX12_canBy_S8 F A81 A82 A83 A97 p1 p2 p3 u2) F (A81 p1.toNatClampNeg)).bind (Sum.elim (fun t2_40 => some 1) (Sum.elim (fun t2_61 => some 1) (fun t2_69 => some 0))) else none)
theorem dX12_canBy_0 : decode cX12_canBy 0 = .ok (.aload_n 0, 1) := by decide +kernel
theorem dX12_canBy_1 : decode cX12_canBy 1 = .ok (.getfield 57, 3) := by decide +kernel
theorem dX12_canBy_4 : decode cX12_canBy 4 = .ok (.iload_n 1, 1) := by decide +kernel
theorem dX12_canBy_5 : decode cX12_canBy 5 = .ok (.iaload, 1) := by decide +kernel
theorem dX12_canBy_6 : decode cX12_canBy 6 = .ok (.istore 4, 2) := by decide +kernel
theorem dX12_canBy_8 : decode cX12_canBy 8 = .ok (.iload 4, 2) := by decide +kernel
theorem dX12_canBy_10 : decode cX12_canBy 10 = .ok (.aload_n 0, 1) := by decide +kernel
theorem dX12_canBy_11 : decode cX12_canBy 11 = .ok (.getfield 57, 3) := by decide +kernel
theorem dX12_canBy_14 : decode cX12_canBy 14 = .ok (.iload_n 1, 1) := by decide +kernel
theorem dX12_canBy_15 : decode cX12_canBy 15 = .ok (.iconst 1, 1) := by decide +kernel
theorem dX12_canBy_16 : decode cX12_canBy 16 = .ok (.iadd, 1) := by decide +kernel
theorem dX12_canBy_17 : decode cX12_canBy 17 = .ok (.iaload, 1) := by decide +kernel
theorem dX12_canBy_18 : decode cX12_canBy 18 = .ok (.if_icmp .ge 51, 3) := by decide +kernel
theorem dX12_canBy_21 : decode cX12_canBy 21 = .ok (.iload_n 2, 1) := by decide +kernel
theorem dX12_canBy_22 : decode cX12_canBy 22 = .ok (.iconst 1, 1) := by decide +kernel
theorem dX12_canBy_23 : decode cX12_canBy 23 = .ok (.if_icmp .ne 20, 3) := by decide +kernel
theorem dX12_canBy_26 : decode cX12_canBy 26 = .ok (.aload_n 0, 1) := by decide +kernel
theorem dX12_canBy_27 : decode cX12_canBy 27 = .ok (.getfield 64, 3) := by decide +kernel
theorem dX12_canBy_30 : decode cX12_canBy 30 = .ok (.iload 4, 2) := by decide +kernel
theorem dX12_canBy_32 : decode cX12_canBy 32 = .ok (.iaload, 1) := by decide +kernel
theorem dX12_canBy_33 : decode cX12_canBy 33 = .ok (.iload_n 3, 1) := by decide +kernel
theorem dX12_canBy_34 : decode cX12_canBy 34 = .ok (.invokestatic 310, 3) := by decide +kernel
theorem dX12_canBy_37 : decode cX12_canBy 37 = .ok (.ifCond .eq 26, 3) := by decide +kernel
theorem dX12_canBy_40 : decode cX12_canBy 40 = .ok (.goto 21, 3) := by decide +kernel
theorem dX12_canBy_43 : decode cX12_canBy 43 = .ok (.aload_n 0, 1) := by decide +kernel
theorem dX12_canBy_44 : decode cX12_canBy 44 = .ok (.getfield 107, 3) := by decide +kernel
theorem dX12_canBy_47 : decode cX12_canBy 47 = .ok (.aload_n 0, 1) := by decide +kernel
theorem dX12_canBy_48 : decode cX12_canBy 48 = .ok (.getfield 61, 3) := by decide +kernel
theorem dX12_canBy_51 : decode cX12_canBy 51 = .ok (.iload 4, 2) := by decide +kernel
theorem dX12_canBy_53 : decode cX12_canBy 53 = .ok (.iaload, 1) := by decide +kernel
theorem dX12_canBy_54 : decode cX12_canBy 54 = .ok (.iaload, 1) := by decide +kernel
theorem dX12_canBy_55 : decode cX12_canBy 55 = .ok (.iload_n 2, 1) := by decide +kernel
theorem dX12_canBy_56 : decode cX12_canBy 56 = .ok (.iconst 1, 1) := by decide +kernel
theorem dX12_canBy_57 : decode cX12_canBy 57 = .ok (.isub, 1) := by decide +kernel
theorem dX12_canBy_58 : decode cX12_canBy 58 = .ok (.if_icmp .ne 5, 3) := by decide +kernel
theorem dX12_canBy_61 : decode cX12_canBy 61 = .ok (.iconst 1, 1) := by decide +kernel
theorem dX12_canBy_62 : decode cX12_canBy 62 = .ok (.ireturn, 1) := by decide +kernel
theorem dX12_canBy_63 : decode cX12_canBy 63 = .ok (.iinc 4 1, 3) := by decide +kernel
theorem dX12_canBy_66 : decode cX12_canBy 66 = .ok (.goto (-58), 3) := by decide +kernel
theorem dX12_canBy_69 : decode cX12_canBy 69 = .ok (.iconst 0, 1) := by decide +kernel
theorem dX12_canBy_70 : decode cX12_canBy 70 = .ok (.ireturn, 1) := by decide +kernel
set_option maxHeartbeats 4000000 in
set_option maxRecDepth 100000 in
theorem kX12_canBy {l : Launch} {D : va_G} {cy : Nat → ClassId} {N : Nat} {q : Nat → Nat} {m0 : Nat → Value} {a0 : Nat → vp_A} {sz : Nat} (hN : 105 ≤ N) (hsh : SH q m0) {A81 : Nat → Int32} (h_A81 : a0 81 = (6002, .inl A81)) {A82 : Nat → Int32} (h_A82 : a0 82 = (84000, .inl A82)) {A83 : Nat → Int32} (h_A83 : a0 83 = (84000, .inl A83)) {A97 : Nat → Int32} (h_A97 : a0 97 = (6001, .inl A97)) (F : Nat) (p1 : Int32) (p2 : Int32) (p3 : Int32) {X0 : Int32} (hs0 : fX12_canBy F A81 A82 A83 A97 p1 p2 p3 = some X0) : gMi l yX12_canBy cX12_canBy 5 (some .boolean) ({ frames := 2, cells := 0, slots := 0, locals := 41 } : Room) D cy N q m0 a0 sz [.ref (q 69), .int p1, .int p2, .int p3] (fun r m' a' => r = X0 ∧ m' = m0 ∧ a' = a0) := by
  refine g_ofi (by decide) (Nat.le_of_ble_eq_true rfl) ?_
  intro p e s M args below meth c hx hb hr hG hown hin hlocks hml hW hS ls hl
  unfold fX12_canBy at hs0
  refine lv_aload_n hx hb dX12_canBy_0 rfl (lv_at hl 0 rfl) ?_
  refine gf12_29 hx hb hG hown hW (o := 69) (ltN hN 69 rfl) gk69 (v := .ref (q 81)) (sh69_29 hsh) gx177 dX12_canBy_1 ?_
  refine lv_iload_n hx hb dX12_canBy_4 rfl (lv_at hl 1 rfl) ?_
  obtain ⟨hi1, hs0⟩ := oif hs0
  refine g_iald hx hb hW (o := 81) (ltN hN 81 rfl) gk81 h_A81 (vin hi1) dX12_canBy_5 ?_
  refine lv_istore (lv' := [(4, .int (A81 p1.toNatClampNeg)), (0, .ref (q 69)), (1, .int p1), (2, .int p2), (3, .int p3)]) hx hb dX12_canBy_6 hl (by decide) rfl (fun ls hl => ?_)
  obtain ⟨r2, hg2, hs0⟩ := obind hs0
  have hE1_40 : ∀ (t2_40 : Unit) (hr2 : Sum.inl t2_40 = r2) (H : Heap) (locs : List Loc) (ls : Array Slot) (hl : lv_has ls 5 []) (hW : GW D cy (gA N q s.heap.size) N q m0 a0 s H) (hS : va_S (gA N q s.heap.size) s.heap H locs), W p l e ({ frames := 2, cells := 0, slots := 0, locals := 41 } : Room) s M args below meth c H locs 0 0 (MQ below (va_Qi (fun (r : Int32) (u : (Nat → Value) × (Nat → vp_A)) => r = X0 ∧ u.1 = m0 ∧ u.2 = a0) (gB D cy N q s.heap.size) (gA N q s.heap.size)) args s 0 0 (gA N q s.heap.size)) (F0 M 40 ls []) := by
    intro t2_40 hr2 H locs ls hl hW hS
    subst hr2
    have hs0 := osum_l hs0
    refine lv_goto (tgt := 61) hx hb dX12_canBy_40 (by decide) ?_
    refine lv_iconst (v := 1) hx hb dX12_canBy_61 (by decide) ?_
    have hs0 := Option.some.inj hs0
    subst hs0
    exact W.zret hx hb hr rfl (fun t ht hw => ⟨⟨_, (m0, a0), rfl, ⟨rfl, rfl, rfl⟩, g_end hW ht hw⟩, hS.F ht⟩) hS.2.2 dX12_canBy_62 hlocks
  have hE1_61 : ∀ (t2_61 : Unit) (hr2 : Sum.inr (Sum.inl t2_61) = r2) (H : Heap) (locs : List Loc) (ls : Array Slot) (hl : lv_has ls 5 []) (hW : GW D cy (gA N q s.heap.size) N q m0 a0 s H) (hS : va_S (gA N q s.heap.size) s.heap H locs), W p l e ({ frames := 2, cells := 0, slots := 0, locals := 41 } : Room) s M args below meth c H locs 0 0 (MQ below (va_Qi (fun (r : Int32) (u : (Nat → Value) × (Nat → vp_A)) => r = X0 ∧ u.1 = m0 ∧ u.2 = a0) (gB D cy N q s.heap.size) (gA N q s.heap.size)) args s 0 0 (gA N q s.heap.size)) (F0 M 61 ls []) := by
    intro t2_61 hr2 H locs ls hl hW hS
    subst hr2
    have hs0 := osum_r hs0
    have hs0 := osum_l hs0
    refine lv_iconst (v := 1) hx hb dX12_canBy_61 (by decide) ?_
    have hs0 := Option.some.inj hs0
    subst hs0
    exact W.zret hx hb hr rfl (fun t ht hw => ⟨⟨_, (m0, a0), rfl, ⟨rfl, rfl, rfl⟩, g_end hW ht hw⟩, hS.F ht⟩) hS.2.2 dX12_canBy_62 hlocks
  have hE1_69 : ∀ (t2_69 : Unit) (hr2 : Sum.inr (Sum.inr (t2_69)) = r2) (H : Heap) (locs : List Loc) (ls : Array Slot) (hl : lv_has ls 5 []) (hW : GW D cy (gA N q s.heap.size) N q m0 a0 s H) (hS : va_S (gA N q s.heap.size) s.heap H locs), W p l e ({ frames := 2, cells := 0, slots := 0, locals := 41 } : Room) s M args below meth c H locs 0 0 (MQ below (va_Qi (fun (r : Int32) (u : (Nat → Value) × (Nat → vp_A)) => r = X0 ∧ u.1 = m0 ∧ u.2 = a0) (gB D cy N q s.heap.size) (gA N q s.heap.size)) args s 0 0 (gA N q s.heap.size)) (F0 M 69 ls []) := by
    intro t2_69 hr2 H locs ls hl hW hS
    subst hr2
    have hs0 := osum_r hs0
    have hs0 := osum_r hs0
    refine lv_iconst (v := 0) hx hb dX12_canBy_69 (by decide) ?_
    have hs0 := Option.some.inj hs0
    subst hs0
    exact W.zret hx hb hr rfl (fun t ht hw => ⟨⟨_, (m0, a0), rfl, ⟨rfl, rfl, rfl⟩, g_end hW ht hw⟩, hS.F ht⟩) hS.2.2 dX12_canBy_70 hlocks
  have hL1 : ∀ (n : Nat) (v4k2 : Int32) (H : Heap) (locs : List Loc) (ls : Array Slot) (hl : lv_has ls 5 [(0, .ref (q 69)), (1, .int p1), (2, .int p2), (3, .int p3), (4, .int v4k2)]) (hg2 : gloop (fun u2 : Int32 => fX12_canBy_S8 F A81 A82 A83 A97 p1 p2 p3 u2) n v4k2 = some r2) (hW : GW D cy (gA N q s.heap.size) N q m0 a0 s H) (hS : va_S (gA N q s.heap.size) s.heap H locs), W p l e ({ frames := 2, cells := 0, slots := 0, locals := 41 } : Room) s M args below meth c H locs 0 0 (MQ below (va_Qi (fun (r : Int32) (u : (Nat → Value) × (Nat → vp_A)) => r = X0 ∧ u.1 = m0 ∧ u.2 = a0) (gB D cy N q s.heap.size) (gA N q s.heap.size)) args s 0 0 (gA N q s.heap.size)) (F0 M 8 ls []) := by
    intro n
    induction n with
    | zero => intro v4k2 H locs ls hl hg2 hW hS; exact (gl_zero hg2).elim
    | succ n ih1 =>
      intro v4k2 H locs ls hl hg2 hW hS
      obtain ⟨X1, hs1, hXl1, hXr1⟩ := gl_succ hg2
      have hs1 : fX12_canBy_S8 F A81 A82 A83 A97 p1 p2 p3 v4k2 = some X1 := hs1
      unfold fX12_canBy_S8 at hs1
      have hJ63_1 : ∀ (v4j19 : Int32) (H : Heap) (locs : List Loc) (ls : Array Slot) (hl : lv_has ls 5 [(0, .ref (q 69)), (1, .int p1), (2, .int p2), (3, .int p3), (4, .int v4j19)]) (hs1 : fX12_canBy_J63 F A81 A82 A83 A97 p1 p2 p3 v4j19 = some X1) (hW : GW D cy (gA N q s.heap.size) N q m0 a0 s H) (hS : va_S (gA N q s.heap.size) s.heap H locs), W p l e ({ frames := 2, cells := 0, slots := 0, locals := 41 } : Room) s M args below meth c H locs 0 0 (MQ below (va_Qi (fun (r : Int32) (u : (Nat → Value) × (Nat → vp_A)) => r = X0 ∧ u.1 = m0 ∧ u.2 = a0) (gB D cy N q s.heap.size) (gA N q s.heap.size)) args s 0 0 (gA N q s.heap.size)) (F0 M 63 ls []) := by
        intro v4j19 H locs ls hl hs1 hW hS
        unfold fX12_canBy_J63 at hs1
        refine lv_iinc (v := v4j19 + 1) (lv' := [(4, .int (v4j19 + 1)), (0, .ref (q 69)), (1, .int p1), (2, .int p2), (3, .int p3)]) hx hb dX12_canBy_63 hl (k := 4) rfl rfl (by decide) rfl (fun ls hl => ?_)
        refine lv_goto (tgt := 8) hx hb dX12_canBy_66 (by decide) ?_
        exact ih1 (v4j19 + 1) _ _ ls (lv_sub hl [1, 2, 3, 4, 0] rfl) (hXr1 _ (Option.some.inj hs1).symm) hW hS
      refine lv_iload hx hb dX12_canBy_8 (lv_at hl 4 rfl) ?_
      refine lv_aload_n hx hb dX12_canBy_10 rfl (lv_at hl 0 rfl) ?_
      refine gf12_29 hx hb hG hown hW (o := 69) (ltN hN 69 rfl) gk69 (v := .ref (q 81)) (sh69_29 hsh) gx177 dX12_canBy_11 ?_
      refine lv_iload_n hx hb dX12_canBy_14 rfl (lv_at hl 1 rfl) ?_
      refine lv_iconst (v := 1) hx hb dX12_canBy_15 (by decide) ?_
      refine lv_iadd hx hb dX12_canBy_16 ?_
      obtain ⟨hi13, hs1⟩ := oif hs1
      refine g_iald hx hb hW (o := 81) (ltN hN 81 rfl) gk81 h_A81 (vin hi13) dX12_canBy_17 ?_
      refine lv_icmp_ge (tgt := 69) hx hb dX12_canBy_18 (by decide) (fun c14 => ?_) (fun c14 => ?_)
      · rw [if_pos c14] at hs1
        exact hE1_69 () (hXl1 _ (Option.some.inj hs1).symm) _ _ ls (lv_sub hl [] rfl) hW hS
      · rw [if_neg c14] at hs1
        refine lv_iload_n hx hb dX12_canBy_21 rfl (lv_at hl 2 rfl) ?_
        refine lv_iconst (v := 1) hx hb dX12_canBy_22 (by decide) ?_
        refine lv_icmp_ne (tgt := 43) hx hb dX12_canBy_23 (by decide) (fun c15 => ?_) (fun c15 => ?_)
        · rw [if_neg c15] at hs1
          refine lv_aload_n hx hb dX12_canBy_43 rfl (lv_at hl 0 rfl) ?_
          refine gf12_49 hx hb hG hown hW (o := 69) (ltN hN 69 rfl) gk69 (v := .ref (q 97)) (sh69_49 hsh) gx195 dX12_canBy_44 ?_
          refine lv_aload_n hx hb dX12_canBy_47 rfl (lv_at hl 0 rfl) ?_
          refine gf12_30 hx hb hG hown hW (o := 69) (ltN hN 69 rfl) gk69 (v := .ref (q 82)) (sh69_30 hsh) gx179 dX12_canBy_48 ?_
          refine lv_iload hx hb dX12_canBy_51 (lv_at hl 4 rfl) ?_
          obtain ⟨hi16, hs1⟩ := oif hs1
          refine g_iald hx hb hW (o := 82) (ltN hN 82 rfl) gk82 h_A82 (vin hi16) dX12_canBy_53 ?_
          obtain ⟨hi17, hs1⟩ := oif hs1
          refine g_iald hx hb hW (o := 97) (ltN hN 97 rfl) gk97 h_A97 (vin hi17) dX12_canBy_54 ?_
          refine lv_iload_n hx hb dX12_canBy_55 rfl (lv_at hl 2 rfl) ?_
          refine lv_iconst (v := 1) hx hb dX12_canBy_56 (by decide) ?_
          refine lv_isub hx hb dX12_canBy_57 ?_
          refine lv_icmp_ne (tgt := 63) hx hb dX12_canBy_58 (by decide) (fun c18 => ?_) (fun c18 => ?_)
          · rw [if_neg c18] at hs1
            exact hJ63_1 v4k2 _ _ ls (lv_sub hl [0, 1, 2, 3, 4] rfl) hs1 hW hS
          · rw [if_pos c18] at hs1
            exact hE1_61 () (hXl1 _ (Option.some.inj hs1).symm) _ _ ls (lv_sub hl [] rfl) hW hS
        · rw [if_pos c15] at hs1
          refine lv_aload_n hx hb dX12_canBy_26 rfl (lv_at hl 0 rfl) ?_
          refine gf12_31 hx hb hG hown hW (o := 69) (ltN hN 69 rfl) gk69 (v := .ref (q 83)) (sh69_31 hsh) gx180 dX12_canBy_27 ?_
          refine lv_iload hx hb dX12_canBy_30 (lv_at hl 4 rfl) ?_
          obtain ⟨hi20, hs1⟩ := oif hs1
          refine g_iald hx hb hW (o := 83) (ltN hN 83 rfl) gk83 h_A83 (vin hi20) dX12_canBy_32 ?_
          refine lv_iload_n hx hb dX12_canBy_33 rfl (lv_at hl 3 rfl) ?_
          obtain ⟨r21, hf21, hs1⟩ := obind hs1
          refine g_SiR (n := 2) hx hb hml hown hG hW hS [.int (A83 v4k2.toNatClampNeg), .int p3] (kX12_isWanted hN (A83 v4k2.toNatClampNeg) p3 hf21) rfl (gd_S gx874 gx875 gx5 gx876) rfl rfl (by decide) ⟨Nat.le_of_ble_eq_true rfl, Nat.le_of_ble_eq_true rfl⟩ rfl hl (Nat.le_of_ble_eq_true rfl) ⟨Nat.zero_le _, Nat.zero_le _⟩ dX12_canBy_34 (fun H locs hW hS => ?_)
          refine lv_if_eq (tgt := 63) hx hb dX12_canBy_37 (by decide) (fun c22 => ?_) (fun c22 => ?_)
          · rw [if_pos c22] at hs1
            exact hJ63_1 v4k2 _ _ ls (lv_sub hl [0, 1, 2, 3, 4] rfl) hs1 hW hS
          · rw [if_neg c22] at hs1
            exact hE1_40 () (hXl1 _ (Option.some.inj hs1).symm) _ _ ls (lv_sub hl [] rfl) hW hS
  exact hL1 F (A81 p1.toNatClampNeg) _ _ ls (lv_sub hl [1, 2, 3, 4, 0] rfl) hg2 hW hS
-- HealLinkModel.laysFar (Z)V
def fX12_laysFar_S2 (F : Nat) (x69_27 : Int32) (A81 : Nat → Int32) (A82 : Nat → Int32) (A83 : Nat → Int32) (v1 : Int32) (v2 : Int32) (A97 : Nat → Int32) : Option (((Nat → Int32)) ⊕ (Int32 × (Nat → Int32))) := (if x69_27 ≤ v2 then some (Sum.inl A97) else (if inb v2 6001 = true then some (Sum.inr (v2 + 1, upd A97 v2.toNatClampNeg (-1))) else none))
def fX12_laysFar_J79 (F : Nat) (x69_27 : Int32) (A81 : Nat → Int32) (A82 : Nat → Int32) (A83 : Nat → Int32) (v1 : Int32) (v2j11 : Int32) (v3 : Int32) (v4j11 : Int32) (A97j11 : Nat → Int32) : Option ((Int32 × (Nat → Int32)) ⊕ (Int32 × Int32 × (Nat → Int32))) := some (Sum.inr (v2j11, v4j11 + 1, A97j11))
def fX12_laysFar_S36 (F : Nat) (x69_27 : Int32) (A81 : Nat → Int32) (A82 : Nat → Int32) (A83 : Nat → Int32) (v1 : Int32) (v3 : Int32) (v2 : Int32) (v4 : Int32) (A97 : Nat → Int32) : Option ((Int32 × (Nat → Int32)) ⊕ (Int32 × Int32 × (Nat → Int32))) := (if x69_27 ≤ v4 then some (Sum.inl (v2, A97)) else (if inb v4 6001 = true then (if 0 ≤ (A97 v4.toNatClampNeg) then fX12_laysFar_J79 F x69_27 A81 A82 A83 v1 v2 v3 v4 A97 else ((fX12_canBy F A81 A82 A83 A97 v4 v3 v1).bind (fun r12 => (if r12 = 0 then fX12_laysFar_J79 F x69_27 A81 A82 A83 v1 v2 v3 v4 A97 else (if inb v4 6001 = true then fX12_laysFar_J79 F x69_27 A81 A82 A83 v1 1 v3 v4 (upd A97 v4.toNatClampNeg v3) else none))))) else none))
def fX12_laysFar_S27 (F : Nat) (x69_27 : Int32) (A81 : Nat → Int32) (A82 : Nat → Int32) (A83 : Nat → Int32) (v1 : Int32) (v2 : Int32) (v3 : Int32) (A97 : Nat → Int32) : Option (((Nat → Int32)) ⊕ (Int32 × Int32 × (Nat → Int32))) := (if v2 = 0 then some (Sum.inl A97) else (gloop (fun u7 : (Int32 × Int32 × (Nat → Int32)) => fX12_laysFar_S36 F x69_27 A81 A82 A83 v1 v3 u7.1 u7.2.1 u7.2.2) F (0, 0, A97)).bind (fun t7_85 => some (Sum.inr (t7_85.1, v3 + 1, t7_85.2))))
def fX12_laysFar (F : Nat) (x69_27 : Int32) (A81 : Nat → Int32) (A82 : Nat → Int32) (A83 : Nat → Int32) (A97 : Nat → Int32) (p1 : Int32) : Option ((Nat → Int32)) := (gloop (fun u1 : (Int32 × (Nat → Int32)) => fX12_laysFar_S2 F x69_27 A81 A82 A83 p1 u1.1 u1.2) F (0, A97)).bind (fun t1_23 => (gloop (fun u5 : (Int32 × Int32 × (Nat → Int32)) => fX12_laysFar_S27 F x69_27 A81 A82 A83 p1 u5.1 u5.2.1 u5.2.2) F (1, 1, t1_23)).bind (fun t5_91 => some t5_91))
theorem dX12_laysFar_0 : decode cX12_laysFar 0 = .ok (.iconst 0, 1) := by decide +kernel
theorem dX12_laysFar_1 : decode cX12_laysFar 1 = .ok (.istore_n 2, 1) := by decide +kernel
theorem dX12_laysFar_2 : decode cX12_laysFar 2 = .ok (.iload_n 2, 1) := by decide +kernel
theorem dX12_laysFar_3 : decode cX12_laysFar 3 = .ok (.aload_n 0, 1) := by decide +kernel
theorem dX12_laysFar_4 : decode cX12_laysFar 4 = .ok (.getfield 255, 3) := by decide +kernel
theorem dX12_laysFar_7 : decode cX12_laysFar 7 = .ok (.if_icmp .ge 16, 3) := by decide +kernel
theorem dX12_laysFar_10 : decode cX12_laysFar 10 = .ok (.aload_n 0, 1) := by decide +kernel
theorem dX12_laysFar_11 : decode cX12_laysFar 11 = .ok (.getfield 107, 3) := by decide +kernel
theorem dX12_laysFar_14 : decode cX12_laysFar 14 = .ok (.iload_n 2, 1) := by decide +kernel
theorem dX12_laysFar_15 : decode cX12_laysFar 15 = .ok (.iconst (-1), 1) := by decide +kernel
theorem dX12_laysFar_16 : decode cX12_laysFar 16 = .ok (.iastore, 1) := by decide +kernel
theorem dX12_laysFar_17 : decode cX12_laysFar 17 = .ok (.iinc 2 1, 3) := by decide +kernel
theorem dX12_laysFar_20 : decode cX12_laysFar 20 = .ok (.goto (-18), 3) := by decide +kernel
theorem dX12_laysFar_23 : decode cX12_laysFar 23 = .ok (.iconst 1, 1) := by decide +kernel
theorem dX12_laysFar_24 : decode cX12_laysFar 24 = .ok (.istore_n 2, 1) := by decide +kernel
theorem dX12_laysFar_25 : decode cX12_laysFar 25 = .ok (.iconst 1, 1) := by decide +kernel
theorem dX12_laysFar_26 : decode cX12_laysFar 26 = .ok (.istore_n 3, 1) := by decide +kernel
theorem dX12_laysFar_27 : decode cX12_laysFar 27 = .ok (.iload_n 2, 1) := by decide +kernel
theorem dX12_laysFar_28 : decode cX12_laysFar 28 = .ok (.ifCond .eq 63, 3) := by decide +kernel
theorem dX12_laysFar_31 : decode cX12_laysFar 31 = .ok (.iconst 0, 1) := by decide +kernel
theorem dX12_laysFar_32 : decode cX12_laysFar 32 = .ok (.istore_n 2, 1) := by decide +kernel
theorem dX12_laysFar_33 : decode cX12_laysFar 33 = .ok (.iconst 0, 1) := by decide +kernel
theorem dX12_laysFar_34 : decode cX12_laysFar 34 = .ok (.istore 4, 2) := by decide +kernel
theorem dX12_laysFar_36 : decode cX12_laysFar 36 = .ok (.iload 4, 2) := by decide +kernel
theorem dX12_laysFar_38 : decode cX12_laysFar 38 = .ok (.aload_n 0, 1) := by decide +kernel
theorem dX12_laysFar_39 : decode cX12_laysFar 39 = .ok (.getfield 255, 3) := by decide +kernel
theorem dX12_laysFar_42 : decode cX12_laysFar 42 = .ok (.if_icmp .ge 43, 3) := by decide +kernel
theorem dX12_laysFar_45 : decode cX12_laysFar 45 = .ok (.aload_n 0, 1) := by decide +kernel
theorem dX12_laysFar_46 : decode cX12_laysFar 46 = .ok (.getfield 107, 3) := by decide +kernel
theorem dX12_laysFar_49 : decode cX12_laysFar 49 = .ok (.iload 4, 2) := by decide +kernel
theorem dX12_laysFar_51 : decode cX12_laysFar 51 = .ok (.iaload, 1) := by decide +kernel
theorem dX12_laysFar_52 : decode cX12_laysFar 52 = .ok (.ifCond .ge 27, 3) := by decide +kernel
theorem dX12_laysFar_55 : decode cX12_laysFar 55 = .ok (.aload_n 0, 1) := by decide +kernel
theorem dX12_laysFar_56 : decode cX12_laysFar 56 = .ok (.iload 4, 2) := by decide +kernel
theorem dX12_laysFar_58 : decode cX12_laysFar 58 = .ok (.iload_n 3, 1) := by decide +kernel
theorem dX12_laysFar_59 : decode cX12_laysFar 59 = .ok (.iload_n 1, 1) := by decide +kernel
theorem dX12_laysFar_60 : decode cX12_laysFar 60 = .ok (.invokevirtual 314, 3) := by decide +kernel
theorem dX12_laysFar_63 : decode cX12_laysFar 63 = .ok (.ifCond .ne 6, 3) := by decide +kernel
theorem dX12_laysFar_66 : decode cX12_laysFar 66 = .ok (.goto 13, 3) := by decide +kernel
theorem dX12_laysFar_69 : decode cX12_laysFar 69 = .ok (.aload_n 0, 1) := by decide +kernel
theorem dX12_laysFar_70 : decode cX12_laysFar 70 = .ok (.getfield 107, 3) := by decide +kernel
theorem dX12_laysFar_73 : decode cX12_laysFar 73 = .ok (.iload 4, 2) := by decide +kernel
theorem dX12_laysFar_75 : decode cX12_laysFar 75 = .ok (.iload_n 3, 1) := by decide +kernel
theorem dX12_laysFar_76 : decode cX12_laysFar 76 = .ok (.iastore, 1) := by decide +kernel
theorem dX12_laysFar_77 : decode cX12_laysFar 77 = .ok (.iconst 1, 1) := by decide +kernel
theorem dX12_laysFar_78 : decode cX12_laysFar 78 = .ok (.istore_n 2, 1) := by decide +kernel
theorem dX12_laysFar_79 : decode cX12_laysFar 79 = .ok (.iinc 4 1, 3) := by decide +kernel
theorem dX12_laysFar_82 : decode cX12_laysFar 82 = .ok (.goto (-46), 3) := by decide +kernel
theorem dX12_laysFar_85 : decode cX12_laysFar 85 = .ok (.iinc 3 1, 3) := by decide +kernel
theorem dX12_laysFar_88 : decode cX12_laysFar 88 = .ok (.goto (-61), 3) := by decide +kernel
theorem dX12_laysFar_91 : decode cX12_laysFar 91 = .ok (.return_, 1) := by decide +kernel
set_option maxHeartbeats 4000000 in
set_option maxRecDepth 100000 in
theorem kX12_laysFar {l : Launch} {D : va_G} {cy : Nat → ClassId} {N : Nat} {q : Nat → Nat} {m0 : Nat → Value} {a0 : Nat → vp_A} {sz : Nat} (hN : 105 ≤ N) (hsh : SH q m0) {x69_27 : Int32} (h_x69_27 : m0 6927 = .int x69_27) {A81 : Nat → Int32} (h_A81 : a0 81 = (6002, .inl A81)) {A82 : Nat → Int32} (h_A82 : a0 82 = (84000, .inl A82)) {A83 : Nat → Int32} (h_A83 : a0 83 = (84000, .inl A83)) {A97 : Nat → Int32} (h_A97 : a0 97 = (6001, .inl A97)) (F : Nat) (p1 : Int32) {X0 : (Nat → Int32)} (hs0 : fX12_laysFar F x69_27 A81 A82 A83 A97 p1 = some X0) : gMv l yX12_laysFar cX12_laysFar 5 none ({ frames := 3, cells := 0, slots := 0, locals := 65 } : Room) D cy N q m0 a0 sz [.ref (q 69), .int p1] (fun m' a' => m' = m0 ∧ a' 97 = (6001, .inl X0) ∧ (∀ j, nel j [97] = false → a' j = a0 j)) := by
  refine g_ofv (by decide) (Nat.le_of_ble_eq_true rfl) ?_
  intro p e s M args below meth c hx hb hr hG hown hin hlocks hml hW hS ls hl
  unfold fX12_laysFar at hs0
  have hoffa : ∀ j, nel j [97] = false → a0 j = a0 j := off0
  refine lv_iconst (v := 0) hx hb dX12_laysFar_0 (by decide) ?_
  refine lv_istore_n (lv' := [(2, .int 0), (0, .ref (q 69)), (1, .int p1)]) hx hb dX12_laysFar_1 rfl hl (by decide) rfl (fun ls hl => ?_)
  obtain ⟨r1, hg1, hs0⟩ := obind hs0
  have hE1_23 : ∀ (t1_23 : (Nat → Int32)) (hr1 : t1_23 = r1) (a : Nat → vp_A) (H : Heap) (locs : List Loc) (w_A97 : a 97 = (6001, .inl t1_23)) (hoffa : ∀ j, nel j [97] = false → a j = a0 j) (ls : Array Slot) (hl : lv_has ls 5 [(0, .ref (q 69)), (1, .int p1)]) (hW : GW D cy (gA N q s.heap.size) N q m0 a s H) (hS : va_S (gA N q s.heap.size) s.heap H locs), W p l e ({ frames := 3, cells := 0, slots := 0, locals := 65 } : Room) s M args below meth c H locs 0 0 (MQ below (va_Qv (fun (u : (Nat → Value) × (Nat → vp_A)) => u.1 = m0 ∧ u.2 97 = (6001, .inl X0) ∧ (∀ j, nel j [97] = false → u.2 j = a0 j)) (gB D cy N q s.heap.size) (gA N q s.heap.size)) args s 0 0 (gA N q s.heap.size)) (F0 M 23 ls []) := by
    intro t1_23 hr1 a H locs w_A97 hoffa ls hl hW hS
    subst hr1
    refine lv_iconst (v := 1) hx hb dX12_laysFar_23 (by decide) ?_
    refine lv_istore_n (lv' := [(2, .int 1), (0, .ref (q 69)), (1, .int p1)]) hx hb dX12_laysFar_24 rfl hl (by decide) rfl (fun ls hl => ?_)
    refine lv_iconst (v := 1) hx hb dX12_laysFar_25 (by decide) ?_
    refine lv_istore_n (lv' := [(3, .int 1), (2, .int 1), (0, .ref (q 69)), (1, .int p1)]) hx hb dX12_laysFar_26 rfl hl (by decide) rfl (fun ls hl => ?_)
    obtain ⟨r5, hg5, hs0⟩ := obind hs0
    have hE1_91 : ∀ (t5_91 : (Nat → Int32)) (hr5 : t5_91 = r5) (a : Nat → vp_A) (H : Heap) (locs : List Loc) (w_A97 : a 97 = (6001, .inl t5_91)) (hoffa : ∀ j, nel j [97] = false → a j = a0 j) (ls : Array Slot) (hl : lv_has ls 5 []) (hW : GW D cy (gA N q s.heap.size) N q m0 a s H) (hS : va_S (gA N q s.heap.size) s.heap H locs), W p l e ({ frames := 3, cells := 0, slots := 0, locals := 65 } : Room) s M args below meth c H locs 0 0 (MQ below (va_Qv (fun (u : (Nat → Value) × (Nat → vp_A)) => u.1 = m0 ∧ u.2 97 = (6001, .inl X0) ∧ (∀ j, nel j [97] = false → u.2 j = a0 j)) (gB D cy N q s.heap.size) (gA N q s.heap.size)) args s 0 0 (gA N q s.heap.size)) (F0 M 91 ls []) := by
      intro t5_91 hr5 a H locs w_A97 hoffa ls hl hW hS
      subst hr5
      have hs0 := Option.some.inj hs0
      subst hs0
      exact W.vret hx hb hr (fun t ht hw => ⟨⟨(m0, a), rfl, ⟨rfl, w_A97, hoffa⟩, g_end hW ht hw⟩, hS.F ht⟩) hS.2.2 dX12_laysFar_91 hlocks
    have hL1 : ∀ (n : Nat) (v2k5 : Int32) (v3k5 : Int32) (A97k5 : Nat → Int32) (a : Nat → vp_A) (H : Heap) (locs : List Loc) (w_A97 : a 97 = (6001, .inl A97k5)) (hoffa : ∀ j, nel j [97] = false → a j = a0 j) (ls : Array Slot) (hl : lv_has ls 5 [(0, .ref (q 69)), (1, .int p1), (2, .int v2k5), (3, .int v3k5)]) (hg5 : gloop (fun u5 : (Int32 × Int32 × (Nat → Int32)) => fX12_laysFar_S27 F x69_27 A81 A82 A83 p1 u5.1 u5.2.1 u5.2.2) n (v2k5, v3k5, A97k5) = some r5) (hW : GW D cy (gA N q s.heap.size) N q m0 a s H) (hS : va_S (gA N q s.heap.size) s.heap H locs), W p l e ({ frames := 3, cells := 0, slots := 0, locals := 65 } : Room) s M args below meth c H locs 0 0 (MQ below (va_Qv (fun (u : (Nat → Value) × (Nat → vp_A)) => u.1 = m0 ∧ u.2 97 = (6001, .inl X0) ∧ (∀ j, nel j [97] = false → u.2 j = a0 j)) (gB D cy N q s.heap.size) (gA N q s.heap.size)) args s 0 0 (gA N q s.heap.size)) (F0 M 27 ls []) := by
      intro n
      induction n with
      | zero => intro v2k5 v3k5 A97k5 a H locs w_A97 hoffa ls hl hg5 hW hS; exact (gl_zero hg5).elim
      | succ n ih1 =>
        intro v2k5 v3k5 A97k5 a H locs w_A97 hoffa ls hl hg5 hW hS
        obtain ⟨X1, hs1, hXl1, hXr1⟩ := gl_succ hg5
        have hs1 : fX12_laysFar_S27 F x69_27 A81 A82 A83 p1 v2k5 v3k5 A97k5 = some X1 := hs1
        unfold fX12_laysFar_S27 at hs1
        refine lv_iload_n hx hb dX12_laysFar_27 rfl (lv_at hl 2 rfl) ?_
        refine lv_if_eq (tgt := 91) hx hb dX12_laysFar_28 (by decide) (fun c24 => ?_) (fun c24 => ?_)
        · rw [if_pos c24] at hs1
          exact hE1_91 A97k5 (hXl1 _ (Option.some.inj hs1).symm) a _ _ w_A97 hoffa ls (lv_sub hl [] rfl) hW hS
        · rw [if_neg c24] at hs1
          refine lv_iconst (v := 0) hx hb dX12_laysFar_31 (by decide) ?_
          refine lv_istore_n (lv' := [(2, .int 0), (0, .ref (q 69)), (1, .int p1), (3, .int v3k5)]) hx hb dX12_laysFar_32 rfl hl (by decide) rfl (fun ls hl => ?_)
          refine lv_iconst (v := 0) hx hb dX12_laysFar_33 (by decide) ?_
          refine lv_istore (lv' := [(4, .int 0), (2, .int 0), (0, .ref (q 69)), (1, .int p1), (3, .int v3k5)]) hx hb dX12_laysFar_34 hl (by decide) rfl (fun ls hl => ?_)
          obtain ⟨r25, hg25, hs1⟩ := obind hs1
          have hE2_85 : ∀ (t25_85 : Int32 × (Nat → Int32)) (hr25 : t25_85 = r25) (a : Nat → vp_A) (H : Heap) (locs : List Loc) (w_A97 : a 97 = (6001, .inl t25_85.2)) (hoffa : ∀ j, nel j [97] = false → a j = a0 j) (ls : Array Slot) (hl : lv_has ls 5 [(0, .ref (q 69)), (1, .int p1), (2, .int t25_85.1), (3, .int v3k5)]) (hW : GW D cy (gA N q s.heap.size) N q m0 a s H) (hS : va_S (gA N q s.heap.size) s.heap H locs), W p l e ({ frames := 3, cells := 0, slots := 0, locals := 65 } : Room) s M args below meth c H locs 0 0 (MQ below (va_Qv (fun (u : (Nat → Value) × (Nat → vp_A)) => u.1 = m0 ∧ u.2 97 = (6001, .inl X0) ∧ (∀ j, nel j [97] = false → u.2 j = a0 j)) (gB D cy N q s.heap.size) (gA N q s.heap.size)) args s 0 0 (gA N q s.heap.size)) (F0 M 85 ls []) := by
            intro t25_85 hr25 a H locs w_A97 hoffa ls hl hW hS
            subst hr25
            refine lv_iinc (v := v3k5 + 1) (lv' := [(3, .int (v3k5 + 1)), (0, .ref (q 69)), (1, .int p1), (2, .int t25_85.1)]) hx hb dX12_laysFar_85 hl (k := 3) rfl rfl (by decide) rfl (fun ls hl => ?_)
            refine lv_goto (tgt := 27) hx hb dX12_laysFar_88 (by decide) ?_
            exact ih1 t25_85.1 (v3k5 + 1) t25_85.2 a _ _ w_A97 hoffa ls (lv_sub hl [1, 2, 3, 0] rfl) (hXr1 _ (Option.some.inj hs1).symm) hW hS
          have hL2 : ∀ (n : Nat) (v2k25 : Int32) (v4k25 : Int32) (A97k25 : Nat → Int32) (a : Nat → vp_A) (H : Heap) (locs : List Loc) (w_A97 : a 97 = (6001, .inl A97k25)) (hoffa : ∀ j, nel j [97] = false → a j = a0 j) (ls : Array Slot) (hl : lv_has ls 5 [(0, .ref (q 69)), (1, .int p1), (2, .int v2k25), (3, .int v3k5), (4, .int v4k25)]) (hg25 : gloop (fun u25 : (Int32 × Int32 × (Nat → Int32)) => fX12_laysFar_S36 F x69_27 A81 A82 A83 p1 v3k5 u25.1 u25.2.1 u25.2.2) n (v2k25, v4k25, A97k25) = some r25) (hW : GW D cy (gA N q s.heap.size) N q m0 a s H) (hS : va_S (gA N q s.heap.size) s.heap H locs), W p l e ({ frames := 3, cells := 0, slots := 0, locals := 65 } : Room) s M args below meth c H locs 0 0 (MQ below (va_Qv (fun (u : (Nat → Value) × (Nat → vp_A)) => u.1 = m0 ∧ u.2 97 = (6001, .inl X0) ∧ (∀ j, nel j [97] = false → u.2 j = a0 j)) (gB D cy N q s.heap.size) (gA N q s.heap.size)) args s 0 0 (gA N q s.heap.size)) (F0 M 36 ls []) := by
            intro n
            induction n with
            | zero => intro v2k25 v4k25 A97k25 a H locs w_A97 hoffa ls hl hg25 hW hS; exact (gl_zero hg25).elim
            | succ n ih2 =>
              intro v2k25 v4k25 A97k25 a H locs w_A97 hoffa ls hl hg25 hW hS
              obtain ⟨X2, hs2, hXl2, hXr2⟩ := gl_succ hg25
              have hs2 : fX12_laysFar_S36 F x69_27 A81 A82 A83 p1 v3k5 v2k25 v4k25 A97k25 = some X2 := hs2
              unfold fX12_laysFar_S36 at hs2
              have hJ79_2 : ∀ (v2j37 : Int32) (v4j37 : Int32) (A97j37 : Nat → Int32) (a : Nat → vp_A) (H : Heap) (locs : List Loc) (w_A97 : a 97 = (6001, .inl A97j37)) (hoffa : ∀ j, nel j [97] = false → a j = a0 j) (ls : Array Slot) (hl : lv_has ls 5 [(0, .ref (q 69)), (1, .int p1), (2, .int v2j37), (3, .int v3k5), (4, .int v4j37)]) (hs2 : fX12_laysFar_J79 F x69_27 A81 A82 A83 p1 v2j37 v3k5 v4j37 A97j37 = some X2) (hW : GW D cy (gA N q s.heap.size) N q m0 a s H) (hS : va_S (gA N q s.heap.size) s.heap H locs), W p l e ({ frames := 3, cells := 0, slots := 0, locals := 65 } : Room) s M args below meth c H locs 0 0 (MQ below (va_Qv (fun (u : (Nat → Value) × (Nat → vp_A)) => u.1 = m0 ∧ u.2 97 = (6001, .inl X0) ∧ (∀ j, nel j [97] = false → u.2 j = a0 j)) (gB D cy N q s.heap.size) (gA N q s.heap.size)) args s 0 0 (gA N q s.heap.size)) (F0 M 79 ls []) := by
                intro v2j37 v4j37 A97j37 a H locs w_A97 hoffa ls hl hs2 hW hS
                unfold fX12_laysFar_J79 at hs2
                refine lv_iinc (v := v4j37 + 1) (lv' := [(4, .int (v4j37 + 1)), (0, .ref (q 69)), (1, .int p1), (2, .int v2j37), (3, .int v3k5)]) hx hb dX12_laysFar_79 hl (k := 4) rfl rfl (by decide) rfl (fun ls hl => ?_)
                refine lv_goto (tgt := 36) hx hb dX12_laysFar_82 (by decide) ?_
                exact ih2 v2j37 (v4j37 + 1) A97j37 a _ _ w_A97 hoffa ls (lv_sub hl [1, 2, 3, 4, 0] rfl) (hXr2 _ (Option.some.inj hs2).symm) hW hS
              refine lv_iload hx hb dX12_laysFar_36 (lv_at hl 4 rfl) ?_
              refine lv_aload_n hx hb dX12_laysFar_38 rfl (lv_at hl 0 rfl) ?_
              refine gf12_27 hx hb hG hown hW (o := 69) (ltN hN 69 rfl) gk69 (v := .int x69_27) h_x69_27 gx713 dX12_laysFar_39 ?_
              refine lv_icmp_ge (tgt := 85) hx hb dX12_laysFar_42 (by decide) (fun c34 => ?_) (fun c34 => ?_)
              · rw [if_pos c34] at hs2
                exact hE2_85 (v2k25, A97k25) (hXl2 _ (Option.some.inj hs2).symm) a _ _ w_A97 hoffa ls (lv_sub hl [0, 1, 2, 3] rfl) hW hS
              · rw [if_neg c34] at hs2
                refine lv_aload_n hx hb dX12_laysFar_45 rfl (lv_at hl 0 rfl) ?_
                refine gf12_49 hx hb hG hown hW (o := 69) (ltN hN 69 rfl) gk69 (v := .ref (q 97)) (sh69_49 hsh) gx195 dX12_laysFar_46 ?_
                refine lv_iload hx hb dX12_laysFar_49 (lv_at hl 4 rfl) ?_
                obtain ⟨hi35, hs2⟩ := oif hs2
                refine g_iald hx hb hW (o := 97) (ltN hN 97 rfl) gk97 w_A97 (vin hi35) dX12_laysFar_51 ?_
                refine lv_if_ge (tgt := 79) hx hb dX12_laysFar_52 (by decide) (fun c36 => ?_) (fun c36 => ?_)
                · rw [if_pos c36] at hs2
                  exact hJ79_2 v2k25 v4k25 A97k25 a _ _ w_A97 hoffa ls (lv_sub hl [0, 1, 2, 3, 4] rfl) hs2 hW hS
                · rw [if_neg c36] at hs2
                  refine lv_aload_n hx hb dX12_laysFar_55 rfl (lv_at hl 0 rfl) ?_
                  refine lv_iload hx hb dX12_laysFar_56 (lv_at hl 4 rfl) ?_
                  refine lv_iload_n hx hb dX12_laysFar_58 rfl (lv_at hl 3 rfl) ?_
                  refine lv_iload_n hx hb dX12_laysFar_59 rfl (lv_at hl 1 rfl) ?_
                  obtain ⟨r38, hf38, hs2⟩ := obind hs2
                  refine g_ViR (n := 3) hx hb hml hown hG hW hS [.int v4k25, .int v3k5, .int p1] (kX12_canBy hN hsh ((hoffa 81 rfl).trans h_A81) ((hoffa 82 rfl).trans h_A82) ((hoffa 83 rfl).trans h_A83) w_A97 F v4k25 v3k5 p1 hf38) (ltN hN 69 rfl) gk69 (by decide) rfl rfl (gd_V gx870 gx871 gx872 gx5 gx873) rfl rfl (by decide) ⟨Nat.le_of_ble_eq_true rfl, Nat.le_of_ble_eq_true rfl⟩ rfl hl (Nat.le_of_ble_eq_true rfl) ⟨Nat.zero_le _, Nat.zero_le _⟩ dX12_laysFar_60 (fun H locs hW hS => ?_)
                  refine lv_if_ne (tgt := 69) hx hb dX12_laysFar_63 (by decide) (fun c39 => ?_) (fun c39 => ?_)
                  · rw [if_neg c39] at hs2
                    refine lv_aload_n hx hb dX12_laysFar_69 rfl (lv_at hl 0 rfl) ?_
                    refine gf12_49 hx hb hG hown hW (o := 69) (ltN hN 69 rfl) gk69 (v := .ref (q 97)) (sh69_49 hsh) gx195 dX12_laysFar_70 ?_
                    refine lv_iload hx hb dX12_laysFar_73 (lv_at hl 4 rfl) ?_
                    refine lv_iload_n hx hb dX12_laysFar_75 rfl (lv_at hl 3 rfl) ?_
                    obtain ⟨hi40, hs2⟩ := oif hs2
                    refine g_iast hx hb hW hS (o := 97) (ltN hN 97 rfl) gk97 w_A97 (vin hi40) dX12_laysFar_76 (fun a41 H locs ha41 ho41 hW hS => ?_)
                    have ho41 := off1 ho41
                    have w_A97 : a41 97 = (6001, .inl (upd A97k25 v4k25.toNatClampNeg v3k5)) := ha41
                    have hoffa := offm hoffa ho41 (by decide +kernel)
                    refine lv_iconst (v := 1) hx hb dX12_laysFar_77 (by decide) ?_
                    refine lv_istore_n (lv' := [(2, .int 1), (0, .ref (q 69)), (1, .int p1), (3, .int v3k5), (4, .int v4k25)]) hx hb dX12_laysFar_78 rfl hl (by decide) rfl (fun ls hl => ?_)
                    exact hJ79_2 1 v4k25 (upd A97k25 v4k25.toNatClampNeg v3k5) a41 _ _ w_A97 hoffa ls (lv_sub hl [1, 2, 0, 3, 4] rfl) hs2 hW hS
                  · rw [if_pos c39] at hs2
                    refine lv_goto (tgt := 79) hx hb dX12_laysFar_66 (by decide) ?_
                    exact hJ79_2 v2k25 v4k25 A97k25 a _ _ w_A97 hoffa ls (lv_sub hl [0, 1, 2, 3, 4] rfl) hs2 hW hS
          exact hL2 F 0 0 A97k5 a _ _ w_A97 hoffa ls (lv_sub hl [2, 3, 1, 4, 0] rfl) hg25 hW hS
    exact hL1 F 1 1 t1_23 a _ _ w_A97 hoffa ls (lv_sub hl [2, 3, 1, 0] rfl) hg5 hW hS
  have hL1 : ∀ (n : Nat) (v2k1 : Int32) (A97k1 : Nat → Int32) (a : Nat → vp_A) (H : Heap) (locs : List Loc) (w_A97 : a 97 = (6001, .inl A97k1)) (hoffa : ∀ j, nel j [97] = false → a j = a0 j) (ls : Array Slot) (hl : lv_has ls 5 [(0, .ref (q 69)), (1, .int p1), (2, .int v2k1)]) (hg1 : gloop (fun u1 : (Int32 × (Nat → Int32)) => fX12_laysFar_S2 F x69_27 A81 A82 A83 p1 u1.1 u1.2) n (v2k1, A97k1) = some r1) (hW : GW D cy (gA N q s.heap.size) N q m0 a s H) (hS : va_S (gA N q s.heap.size) s.heap H locs), W p l e ({ frames := 3, cells := 0, slots := 0, locals := 65 } : Room) s M args below meth c H locs 0 0 (MQ below (va_Qv (fun (u : (Nat → Value) × (Nat → vp_A)) => u.1 = m0 ∧ u.2 97 = (6001, .inl X0) ∧ (∀ j, nel j [97] = false → u.2 j = a0 j)) (gB D cy N q s.heap.size) (gA N q s.heap.size)) args s 0 0 (gA N q s.heap.size)) (F0 M 2 ls []) := by
    intro n
    induction n with
    | zero => intro v2k1 A97k1 a H locs w_A97 hoffa ls hl hg1 hW hS; exact (gl_zero hg1).elim
    | succ n ih1 =>
      intro v2k1 A97k1 a H locs w_A97 hoffa ls hl hg1 hW hS
      obtain ⟨X1, hs1, hXl1, hXr1⟩ := gl_succ hg1
      have hs1 : fX12_laysFar_S2 F x69_27 A81 A82 A83 p1 v2k1 A97k1 = some X1 := hs1
      unfold fX12_laysFar_S2 at hs1
      refine lv_iload_n hx hb dX12_laysFar_2 rfl (lv_at hl 2 rfl) ?_
      refine lv_aload_n hx hb dX12_laysFar_3 rfl (lv_at hl 0 rfl) ?_
      refine gf12_27 hx hb hG hown hW (o := 69) (ltN hN 69 rfl) gk69 (v := .int x69_27) h_x69_27 gx713 dX12_laysFar_4 ?_
      refine lv_icmp_ge (tgt := 23) hx hb dX12_laysFar_7 (by decide) (fun c42 => ?_) (fun c42 => ?_)
      · rw [if_pos c42] at hs1
        exact hE1_23 A97k1 (hXl1 _ (Option.some.inj hs1).symm) a _ _ w_A97 hoffa ls (lv_sub hl [0, 1] rfl) hW hS
      · rw [if_neg c42] at hs1
        refine lv_aload_n hx hb dX12_laysFar_10 rfl (lv_at hl 0 rfl) ?_
        refine gf12_49 hx hb hG hown hW (o := 69) (ltN hN 69 rfl) gk69 (v := .ref (q 97)) (sh69_49 hsh) gx195 dX12_laysFar_11 ?_
        refine lv_iload_n hx hb dX12_laysFar_14 rfl (lv_at hl 2 rfl) ?_
        refine lv_iconst (v := (-1)) hx hb dX12_laysFar_15 (by decide) ?_
        obtain ⟨hi43, hs1⟩ := oif hs1
        refine g_iast hx hb hW hS (o := 97) (ltN hN 97 rfl) gk97 w_A97 (vin hi43) dX12_laysFar_16 (fun a44 H locs ha44 ho44 hW hS => ?_)
        have ho44 := off1 ho44
        have w_A97 : a44 97 = (6001, .inl (upd A97k1 v2k1.toNatClampNeg (-1))) := ha44
        have hoffa := offm hoffa ho44 (by decide +kernel)
        refine lv_iinc (v := v2k1 + 1) (lv' := [(2, .int (v2k1 + 1)), (0, .ref (q 69)), (1, .int p1)]) hx hb dX12_laysFar_17 hl (k := 2) rfl rfl (by decide) rfl (fun ls hl => ?_)
        refine lv_goto (tgt := 2) hx hb dX12_laysFar_20 (by decide) ?_
        exact ih1 (v2k1 + 1) (upd A97k1 v2k1.toNatClampNeg (-1)) a44 _ _ w_A97 hoffa ls (lv_sub hl [1, 2, 0] rfl) (hXr1 _ (Option.some.inj hs1).symm) hW hS
  exact hL1 F 0 A97 a0 _ _ h_A97 hoffa ls (lv_sub hl [1, 2, 0] rfl) hg1 hW hS
-- HealLinkModel.soonest ()I
def fX12_soonest (F : Nat) (x69_0 : Int32) (x69_1 : Int32) (x69_2 : Int32) (x69_3 : Int32) (x69_4 : Int64) (x69_18 : Int32) (x69_19 : Int64) (x69_20 : Int32) (x69_21 : Int32) (x69_22 : Int32) (x69_27 : Int32) (x69_35 : Int32) (A76 : Nat → Int32) (A77 : Nat → Int32) (A78 : Nat → Int32) (A79 : Nat → Int64) (A80 : Nat → Int32) (A81 : Nat → Int32) (A82 : Nat → Int32) (A83 : Nat → Int32) (A84 : Nat → Int32) (A85 : Nat → Int32) (A86 : Nat → Int32) (A97 : Nat → Int32) : Option (Int32 × Int32 × Int64 × Int32 × Int32 × Int32 × Int32 × Int32 × (Nat → Int32) × (Nat → Int32) × (Nat → Int32) × (Nat → Int64) × (Nat → Int32) × (Nat → Int32) × (Nat → Int32) × (Nat → Int32) × (Nat → Int32) × (Nat → Int32) × (Nat → Int32) × (Nat → Int32)) := ((fX12_reaches F x69_0 x69_1 x69_3 x69_19 x69_20 x69_21 x69_22 x69_27 x69_35 A76 A77 A78 A79 A80 A81 A82 A83 A84 A85 A86 x69_4 x69_2).bind (fun r2 => (if r2.1 = 0 then some ((-3), 0, r2.2.1, r2.2.2.1, r2.2.2.2.1, r2.2.2.2.2.1, r2.2.2.2.2.2.1, r2.2.2.2.2.2.2.1, r2.2.2.2.2.2.2.2.1, r2.2.2.2.2.2.2.2.2.1, r2.2.2.2.2.2.2.2.2.2.1, r2.2.2.2.2.2.2.2.2.2.2.1, r2.2.2.2.2.2.2.2.2.2.2.2.1, r2.2.2.2.2.2.2.2.2.2.2.2.2.1, r2.2.2.2.2.2.2.2.2.2.2.2.2.2.1, r2.2.2.2.2.2.2.2.2.2.2.2.2.2.2.1, r2.2.2.2.2.2.2.2.2.2.2.2.2.2.2.2.1, r2.2.2.2.2.2.2.2.2.2.2.2.2.2.2.2.2.1, r2.2.2.2.2.2.2.2.2.2.2.2.2.2.2.2.2.2, A97) else ((fX12_laysFar F r2.2.2.2.2.2.1 r2.2.2.2.2.2.2.2.2.2.2.2.2.1 r2.2.2.2.2.2.2.2.2.2.2.2.2.2.1 r2.2.2.2.2.2.2.2.2.2.2.2.2.2.2.1 A97 1).bind (fun r4 => some (r4 (0 : Int32).toNatClampNeg, 0, r2.2.1, r2.2.2.1, r2.2.2.2.1, r2.2.2.2.2.1, r2.2.2.2.2.2.1, r2.2.2.2.2.2.2.1, r2.2.2.2.2.2.2.2.1, r2.2.2.2.2.2.2.2.2.1, r2.2.2.2.2.2.2.2.2.2.1, r2.2.2.2.2.2.2.2.2.2.2.1, r2.2.2.2.2.2.2.2.2.2.2.2.1, r2.2.2.2.2.2.2.2.2.2.2.2.2.1, r2.2.2.2.2.2.2.2.2.2.2.2.2.2.1, r2.2.2.2.2.2.2.2.2.2.2.2.2.2.2.1, r2.2.2.2.2.2.2.2.2.2.2.2.2.2.2.2.1, r2.2.2.2.2.2.2.2.2.2.2.2.2.2.2.2.2.1, r2.2.2.2.2.2.2.2.2.2.2.2.2.2.2.2.2.2, r4))))))
theorem dX12_soonest_0 : decode cX12_soonest 0 = .ok (.aload_n 0, 1) := by decide +kernel
theorem dX12_soonest_1 : decode cX12_soonest 1 = .ok (.iconst 0, 1) := by decide +kernel
theorem dX12_soonest_2 : decode cX12_soonest 2 = .ok (.putfield 137, 3) := by decide +kernel
theorem dX12_soonest_5 : decode cX12_soonest 5 = .ok (.aload_n 0, 1) := by decide +kernel
theorem dX12_soonest_6 : decode cX12_soonest 6 = .ok (.aload_n 0, 1) := by decide +kernel
theorem dX12_soonest_7 : decode cX12_soonest 7 = .ok (.getfield 133, 3) := by decide +kernel
theorem dX12_soonest_10 : decode cX12_soonest 10 = .ok (.aload_n 0, 1) := by decide +kernel
theorem dX12_soonest_11 : decode cX12_soonest 11 = .ok (.getfield 16, 3) := by decide +kernel
theorem dX12_soonest_14 : decode cX12_soonest 14 = .ok (.invokevirtual 278, 3) := by decide +kernel
theorem dX12_soonest_17 : decode cX12_soonest 17 = .ok (.ifCond .ne 6, 3) := by decide +kernel
theorem dX12_soonest_20 : decode cX12_soonest 20 = .ok (.bipush (-3), 2) := by decide +kernel
theorem dX12_soonest_22 : decode cX12_soonest 22 = .ok (.ireturn, 1) := by decide +kernel
theorem dX12_soonest_23 : decode cX12_soonest 23 = .ok (.aload_n 0, 1) := by decide +kernel
theorem dX12_soonest_24 : decode cX12_soonest 24 = .ok (.iconst 1, 1) := by decide +kernel
theorem dX12_soonest_25 : decode cX12_soonest 25 = .ok (.invokevirtual 318, 3) := by decide +kernel
theorem dX12_soonest_28 : decode cX12_soonest 28 = .ok (.aload_n 0, 1) := by decide +kernel
theorem dX12_soonest_29 : decode cX12_soonest 29 = .ok (.getfield 107, 3) := by decide +kernel
theorem dX12_soonest_32 : decode cX12_soonest 32 = .ok (.iconst 0, 1) := by decide +kernel
theorem dX12_soonest_33 : decode cX12_soonest 33 = .ok (.iaload, 1) := by decide +kernel
theorem dX12_soonest_34 : decode cX12_soonest 34 = .ok (.ireturn, 1) := by decide +kernel
set_option maxHeartbeats 4000000 in
set_option maxRecDepth 100000 in
theorem kX12_soonest {l : Launch} {D : va_G} {cy : Nat → ClassId} {N : Nat} {q : Nat → Nat} {m0 : Nat → Value} {a0 : Nat → vp_A} {sz : Nat} (hN : 105 ≤ N) (hsh : SH q m0) {x69_0 : Int32} (h_x69_0 : m0 6900 = .int x69_0) {x69_1 : Int32} (h_x69_1 : m0 6901 = .int x69_1) {x69_2 : Int32} (h_x69_2 : m0 6902 = .int x69_2) {x69_3 : Int32} (h_x69_3 : m0 6903 = .int x69_3) {x69_4 : Int64} (h_x69_4 : m0 6904 = .long x69_4) {x69_18 : Int32} (h_x69_18 : m0 6918 = .int x69_18) {x69_19 : Int64} (h_x69_19 : m0 6919 = .long x69_19) {x69_20 : Int32} (h_x69_20 : m0 6920 = .int x69_20) {x69_21 : Int32} (h_x69_21 : m0 6921 = .int x69_21) {x69_22 : Int32} (h_x69_22 : m0 6922 = .int x69_22) {x69_27 : Int32} (h_x69_27 : m0 6927 = .int x69_27) {x69_35 : Int32} (h_x69_35 : m0 6935 = .int x69_35) {A76 : Nat → Int32} (h_A76 : a0 76 = (40, .inl A76)) {A77 : Nat → Int32} (h_A77 : a0 77 = (40, .inl A77)) {A78 : Nat → Int32} (h_A78 : a0 78 = (40, .inl A78)) {A79 : Nat → Int64} (h_A79 : a0 79 = (6001, .inr (.inl A79))) {A80 : Nat → Int32} (h_A80 : a0 80 = (16384, .inl A80)) {A81 : Nat → Int32} (h_A81 : a0 81 = (6002, .inl A81)) {A82 : Nat → Int32} (h_A82 : a0 82 = (84000, .inl A82)) {A83 : Nat → Int32} (h_A83 : a0 83 = (84000, .inl A83)) {A84 : Nat → Int32} (h_A84 : a0 84 = (84000, .inl A84)) {A85 : Nat → Int32} (h_A85 : a0 85 = (84000, .inl A85)) {A86 : Nat → Int32} (h_A86 : a0 86 = (84000, .inl A86)) {A97 : Nat → Int32} (h_A97 : a0 97 = (6001, .inl A97)) (F : Nat) {X0 : Int32 × Int32 × Int64 × Int32 × Int32 × Int32 × Int32 × Int32 × (Nat → Int32) × (Nat → Int32) × (Nat → Int32) × (Nat → Int64) × (Nat → Int32) × (Nat → Int32) × (Nat → Int32) × (Nat → Int32) × (Nat → Int32) × (Nat → Int32) × (Nat → Int32) × (Nat → Int32)} (hs0 : fX12_soonest F x69_0 x69_1 x69_2 x69_3 x69_4 x69_18 x69_19 x69_20 x69_21 x69_22 x69_27 x69_35 A76 A77 A78 A79 A80 A81 A82 A83 A84 A85 A86 A97 = some X0) : gMi l yX12_soonest cX12_soonest 1 (some .int) ({ frames := 8, cells := 0, slots := 0, locals := 188 } : Room) D cy N q m0 a0 sz [.ref (q 69)] (fun r m' a' => r = X0.1 ∧ m' 6918 = .int X0.2.1 ∧ m' 6919 = .long X0.2.2.1 ∧ m' 6920 = .int X0.2.2.2.1 ∧ m' 6921 = .int X0.2.2.2.2.1 ∧ m' 6922 = .int X0.2.2.2.2.2.1 ∧ m' 6927 = .int X0.2.2.2.2.2.2.1 ∧ m' 6935 = .int X0.2.2.2.2.2.2.2.1 ∧ (∀ j, nel j [6918, 6919, 6920, 6921, 6922, 6927, 6935] = false → m' j = m0 j) ∧ a' 76 = (40, .inl X0.2.2.2.2.2.2.2.2.1) ∧ a' 77 = (40, .inl X0.2.2.2.2.2.2.2.2.2.1) ∧ a' 78 = (40, .inl X0.2.2.2.2.2.2.2.2.2.2.1) ∧ a' 79 = (6001, .inr (.inl X0.2.2.2.2.2.2.2.2.2.2.2.1)) ∧ a' 80 = (16384, .inl X0.2.2.2.2.2.2.2.2.2.2.2.2.1) ∧ a' 81 = (6002, .inl X0.2.2.2.2.2.2.2.2.2.2.2.2.2.1) ∧ a' 82 = (84000, .inl X0.2.2.2.2.2.2.2.2.2.2.2.2.2.2.1) ∧ a' 83 = (84000, .inl X0.2.2.2.2.2.2.2.2.2.2.2.2.2.2.2.1) ∧ a' 84 = (84000, .inl X0.2.2.2.2.2.2.2.2.2.2.2.2.2.2.2.2.1) ∧ a' 85 = (84000, .inl X0.2.2.2.2.2.2.2.2.2.2.2.2.2.2.2.2.2.1) ∧ a' 86 = (84000, .inl X0.2.2.2.2.2.2.2.2.2.2.2.2.2.2.2.2.2.2.1) ∧ a' 97 = (6001, .inl X0.2.2.2.2.2.2.2.2.2.2.2.2.2.2.2.2.2.2.2) ∧ (∀ j, nel j [76, 77, 78, 79, 80, 81, 82, 83, 84, 85, 86, 97] = false → a' j = a0 j)) := by
  refine g_ofi (by decide) (Nat.le_of_ble_eq_true rfl) ?_
  intro p e s M args below meth c hx hb hr hG hown hin hlocks hml hW hS ls hl
  unfold fX12_soonest at hs0
  have hoff : ∀ j, nel j [6918, 6919, 6920, 6921, 6922, 6927, 6935] = false → m0 j = m0 j := off0
  have hoffa : ∀ j, nel j [76, 77, 78, 79, 80, 81, 82, 83, 84, 85, 86, 97] = false → a0 j = a0 j := off0
  refine lv_aload_n hx hb dX12_soonest_0 rfl (lv_at hl 0 rfl) ?_
  refine lv_iconst (v := 0) hx hb dX12_soonest_1 (by decide) ?_
  refine gp12_18 hx hb hG hown hW hS (o := 69) (ltN hN 69 rfl) gk69 (v := 0) gx246 dX12_soonest_2 (fun m1 H locs hm1 ho1 hW hS => ?_)
  have ho1 := off1 ho1
  have w_x69_18 : m1 6918 = .int 0 := hm1
  have w_x69_19 : m1 6919 = .long x69_19 := (ho1 6919 rfl).trans h_x69_19
  have w_x69_20 : m1 6920 = .int x69_20 := (ho1 6920 rfl).trans h_x69_20
  have w_x69_21 : m1 6921 = .int x69_21 := (ho1 6921 rfl).trans h_x69_21
  have w_x69_22 : m1 6922 = .int x69_22 := (ho1 6922 rfl).trans h_x69_22
  have w_x69_27 : m1 6927 = .int x69_27 := (ho1 6927 rfl).trans h_x69_27
  have w_x69_35 : m1 6935 = .int x69_35 := (ho1 6935 rfl).trans h_x69_35
  have hoff := offm hoff ho1 (by decide +kernel)
  have hsh := SH.off hsh ho1 (by decide +kernel)
  refine lv_aload_n hx hb dX12_soonest_5 rfl (lv_at hl 0 rfl) ?_
  refine lv_aload_n hx hb dX12_soonest_6 rfl (lv_at hl 0 rfl) ?_
  refine gf12_4 hx hb hG hown hW (o := 69) (ltN hN 69 rfl) gk69 (v := .long x69_4) ((hoff 6904 rfl).trans h_x69_4) gx202 dX12_soonest_7 ?_
  refine lv_aload_n hx hb dX12_soonest_10 rfl (lv_at hl 0 rfl) ?_
  refine gf12_2 hx hb hG hown hW (o := 69) (ltN hN 69 rfl) gk69 (v := .int x69_2) ((hoff 6902 rfl).trans h_x69_2) gx164 dX12_soonest_11 ?_
  obtain ⟨r2, hf2, hs0⟩ := obind hs0
  refine g_Vi (n := 2) hx hb hml hown hG hW hS [.long x69_4, .int x69_2] (kX12_reaches hN hsh ((hoff 6900 rfl).trans h_x69_0) ((hoff 6901 rfl).trans h_x69_1) ((hoff 6903 rfl).trans h_x69_3) w_x69_19 w_x69_20 w_x69_21 w_x69_22 w_x69_27 w_x69_35 h_A76 h_A77 h_A78 h_A79 h_A80 h_A81 h_A82 h_A83 h_A84 h_A85 h_A86 F x69_4 x69_2 hf2) (ltN hN 69 rfl) gk69 (by decide) rfl rfl (gd_V gx714 gx715 gx716 gx5 gx717) rfl rfl (by decide) ⟨Nat.le_of_ble_eq_true rfl, Nat.le_of_ble_eq_true rfl⟩ rfl hl (Nat.le_of_ble_eq_true rfl) ⟨Nat.zero_le _, Nat.zero_le _⟩ dX12_soonest_14 (fun x2 m2 a2 H locs hp2 hW hS => ?_)
  obtain ⟨hx2, hp2_x69_19, hp2_x69_20, hp2_x69_21, hp2_x69_22, hp2_x69_27, hp2_x69_35, ho2, hp2_A76, hp2_A77, hp2_A78, hp2_A79, hp2_A80, hp2_A81, hp2_A82, hp2_A83, hp2_A84, hp2_A85, hp2_A86, hoa2⟩ := hp2
  subst hx2
  have w_x69_18 : m2 6918 = .int 0 := (ho2 6918 rfl).trans w_x69_18
  have w_x69_19 : m2 6919 = .long r2.2.1 := hp2_x69_19
  have w_x69_20 : m2 6920 = .int r2.2.2.1 := hp2_x69_20
  have w_x69_21 : m2 6921 = .int r2.2.2.2.1 := hp2_x69_21
  have w_x69_22 : m2 6922 = .int r2.2.2.2.2.1 := hp2_x69_22
  have w_x69_27 : m2 6927 = .int r2.2.2.2.2.2.1 := hp2_x69_27
  have w_x69_35 : m2 6935 = .int r2.2.2.2.2.2.2.1 := hp2_x69_35
  have hoff := offm hoff ho2 (by decide +kernel)
  have hsh := SH.off hsh ho2 (by decide +kernel)
  have w_A76 : a2 76 = (40, .inl r2.2.2.2.2.2.2.2.1) := hp2_A76
  have w_A77 : a2 77 = (40, .inl r2.2.2.2.2.2.2.2.2.1) := hp2_A77
  have w_A78 : a2 78 = (40, .inl r2.2.2.2.2.2.2.2.2.2.1) := hp2_A78
  have w_A79 : a2 79 = (6001, .inr (.inl r2.2.2.2.2.2.2.2.2.2.2.1)) := hp2_A79
  have w_A80 : a2 80 = (16384, .inl r2.2.2.2.2.2.2.2.2.2.2.2.1) := hp2_A80
  have w_A81 : a2 81 = (6002, .inl r2.2.2.2.2.2.2.2.2.2.2.2.2.1) := hp2_A81
  have w_A82 : a2 82 = (84000, .inl r2.2.2.2.2.2.2.2.2.2.2.2.2.2.1) := hp2_A82
  have w_A83 : a2 83 = (84000, .inl r2.2.2.2.2.2.2.2.2.2.2.2.2.2.2.1) := hp2_A83
  have w_A84 : a2 84 = (84000, .inl r2.2.2.2.2.2.2.2.2.2.2.2.2.2.2.2.1) := hp2_A84
  have w_A85 : a2 85 = (84000, .inl r2.2.2.2.2.2.2.2.2.2.2.2.2.2.2.2.2.1) := hp2_A85
  have w_A86 : a2 86 = (84000, .inl r2.2.2.2.2.2.2.2.2.2.2.2.2.2.2.2.2.2) := hp2_A86
  have w_A97 : a2 97 = (6001, .inl A97) := (hoa2 97 rfl).trans h_A97
  have hoffa := offm hoffa hoa2 (by decide +kernel)
  refine lv_if_ne (tgt := 23) hx hb dX12_soonest_17 (by decide) (fun c3 => ?_) (fun c3 => ?_)
  · rw [if_neg c3] at hs0
    refine lv_aload_n hx hb dX12_soonest_23 rfl (lv_at hl 0 rfl) ?_
    refine lv_iconst (v := 1) hx hb dX12_soonest_24 (by decide) ?_
    obtain ⟨r4, hf4, hs0⟩ := obind hs0
    refine g_Vv (n := 1) hx hb hml hown hG hW hS [.int 1] (kX12_laysFar hN hsh w_x69_27 w_A81 w_A82 w_A83 w_A97 F 1 hf4) (ltN hN 69 rfl) gk69 (by decide) rfl rfl (gd_V gx866 gx867 gx868 gx5 gx869) rfl rfl (by decide) ⟨Nat.le_of_ble_eq_true rfl, Nat.le_of_ble_eq_true rfl⟩ rfl hl (Nat.le_of_ble_eq_true rfl) ⟨Nat.zero_le _, Nat.zero_le _⟩ dX12_soonest_25 (fun m4 a4 H locs hp4 hW hS => ?_)
    obtain ⟨hm4, hp4_A97, hoa4⟩ := hp4
    rw [hm4] at hW
    have w_A76 : a4 76 = (40, .inl r2.2.2.2.2.2.2.2.1) := (hoa4 76 rfl).trans w_A76
    have w_A77 : a4 77 = (40, .inl r2.2.2.2.2.2.2.2.2.1) := (hoa4 77 rfl).trans w_A77
    have w_A78 : a4 78 = (40, .inl r2.2.2.2.2.2.2.2.2.2.1) := (hoa4 78 rfl).trans w_A78
    have w_A79 : a4 79 = (6001, .inr (.inl r2.2.2.2.2.2.2.2.2.2.2.1)) := (hoa4 79 rfl).trans w_A79
    have w_A80 : a4 80 = (16384, .inl r2.2.2.2.2.2.2.2.2.2.2.2.1) := (hoa4 80 rfl).trans w_A80
    have w_A81 : a4 81 = (6002, .inl r2.2.2.2.2.2.2.2.2.2.2.2.2.1) := (hoa4 81 rfl).trans w_A81
    have w_A82 : a4 82 = (84000, .inl r2.2.2.2.2.2.2.2.2.2.2.2.2.2.1) := (hoa4 82 rfl).trans w_A82
    have w_A83 : a4 83 = (84000, .inl r2.2.2.2.2.2.2.2.2.2.2.2.2.2.2.1) := (hoa4 83 rfl).trans w_A83
    have w_A84 : a4 84 = (84000, .inl r2.2.2.2.2.2.2.2.2.2.2.2.2.2.2.2.1) := (hoa4 84 rfl).trans w_A84
    have w_A85 : a4 85 = (84000, .inl r2.2.2.2.2.2.2.2.2.2.2.2.2.2.2.2.2.1) := (hoa4 85 rfl).trans w_A85
    have w_A86 : a4 86 = (84000, .inl r2.2.2.2.2.2.2.2.2.2.2.2.2.2.2.2.2.2) := (hoa4 86 rfl).trans w_A86
    have w_A97 : a4 97 = (6001, .inl r4) := hp4_A97
    have hoffa := offm hoffa hoa4 (by decide +kernel)
    refine lv_aload_n hx hb dX12_soonest_28 rfl (lv_at hl 0 rfl) ?_
    refine gf12_49 hx hb hG hown hW (o := 69) (ltN hN 69 rfl) gk69 (v := .ref (q 97)) (sh69_49 hsh) gx195 dX12_soonest_29 ?_
    refine lv_iconst (v := 0) hx hb dX12_soonest_32 (by decide) ?_
    refine g_iald hx hb hW (o := 97) (ltN hN 97 rfl) gk97 w_A97 (vin (by decide)) dX12_soonest_33 ?_
    have hs0 := Option.some.inj hs0
    subst hs0
    exact W.zret hx hb hr rfl (fun t ht hw => ⟨⟨_, (m2, a4), rfl, ⟨rfl, w_x69_18, w_x69_19, w_x69_20, w_x69_21, w_x69_22, w_x69_27, w_x69_35, hoff, w_A76, w_A77, w_A78, w_A79, w_A80, w_A81, w_A82, w_A83, w_A84, w_A85, w_A86, w_A97, hoffa⟩, g_end hW ht hw⟩, hS.F ht⟩) hS.2.2 dX12_soonest_34 hlocks
  · rw [if_pos c3] at hs0
    refine lv_bipush (v := (-3)) hx hb dX12_soonest_20 (by decide) ?_
    have hs0 := Option.some.inj hs0
    subst hs0
    exact W.zret hx hb hr rfl (fun t ht hw => ⟨⟨_, (m2, a2), rfl, ⟨rfl, w_x69_18, w_x69_19, w_x69_20, w_x69_21, w_x69_22, w_x69_27, w_x69_35, hoff, w_A76, w_A77, w_A78, w_A79, w_A80, w_A81, w_A82, w_A83, w_A84, w_A85, w_A86, w_A97, hoffa⟩, g_end hW ht hw⟩, hS.F ht⟩) hS.2.2 dX12_soonest_22 hlocks
-- HealLinkModel.way (II)I
def fX12_way_J131 (F : Nat) (x69_0 : Int32) (x69_1 : Int32) (x69_2 : Int32) (x69_3 : Int32) (x69_4 : Int64) (v1 : Int32) (v2 : Int32) (v4j17 : Int32) (v5 : Int32) (v6 : Int32) (x69_18 : Int32) (x69_19 : Int64) (x69_20 : Int32) (x69_21 : Int32) (x69_22 : Int32) (x69_27 : Int32) (x69_35 : Int32) (A76 : Nat → Int32) (A77 : Nat → Int32) (A78 : Nat → Int32) (A79 : Nat → Int64) (A80 : Nat → Int32) (A81 : Nat → Int32) (A82 : Nat → Int32) (A83 : Nat → Int32) (A84 : Nat → Int32) (A85 : Nat → Int32) (A86 : Nat → Int32) (A97 : Nat → Int32) : Option ((Int32) ⊕ (Int32)) := some (Sum.inr (v4j17 + 1))
def fX12_way_S90 (F : Nat) (x69_0 : Int32) (x69_1 : Int32) (x69_2 : Int32) (x69_3 : Int32) (x69_4 : Int64) (v1 : Int32) (v2 : Int32) (v5 : Int32) (v6 : Int32) (x69_18 : Int32) (x69_19 : Int64) (x69_20 : Int32) (x69_21 : Int32) (x69_22 : Int32) (x69_27 : Int32) (x69_35 : Int32) (A76 : Nat → Int32) (A77 : Nat → Int32) (A78 : Nat → Int32) (A79 : Nat → Int64) (A80 : Nat → Int32) (A81 : Nat → Int32) (A82 : Nat → Int32) (A83 : Nat → Int32) (A84 : Nat → Int32) (A85 : Nat → Int32) (A86 : Nat → Int32) (A97 : Nat → Int32) (v4 : Int32) : Option ((Int32) ⊕ (Int32)) := (if v6 = 1 then (if inb v4 84000 = true then (if (fX12_isBad (A83 v4.toNatClampNeg)) = 0 then fX12_way_J131 F x69_0 x69_1 x69_2 x69_3 x69_4 v1 v2 v4 v5 v6 x69_18 x69_19 x69_20 x69_21 x69_22 x69_27 x69_35 A76 A77 A78 A79 A80 A81 A82 A83 A84 A85 A86 A97 else some (Sum.inl v4)) else none) else (if inb v4 84000 = true then (if inb (A82 v4.toNatClampNeg) 6001 = true then (if (A97 (A82 v4.toNatClampNeg).toNatClampNeg) = (v6 - 1) then some (Sum.inl v4) else fX12_way_J131 F x69_0 x69_1 x69_2 x69_3 x69_4 v1 v2 v4 v5 v6 x69_18 x69_19 x69_20 x69_21 x69_22 x69_27 x69_35 A76 A77 A78 A79 A80 A81 A82 A83 A84 A85 A86 A97) else none) else none))
def fX12_way_J137 (F : Nat) (x69_0 : Int32) (x69_1 : Int32) (x69_2 : Int32) (x69_3 : Int32) (x69_4 : Int64) (v1 : Int32) (v2 : Int32) (v4j21 : Int32) (v5j21 : Int32) (x69_18 : Int32) (x69_19 : Int64) (x69_20 : Int32) (x69_21 : Int32) (x69_22 : Int32) (x69_27 : Int32) (x69_35 : Int32) (A76 : Nat → Int32) (A77 : Nat → Int32) (A78 : Nat → Int32) (A79 : Nat → Int64) (A80 : Nat → Int32) (A81 : Nat → Int32) (A82 : Nat → Int32) (A83 : Nat → Int32) (A84 : Nat → Int32) (A85 : Nat → Int32) (A86 : Nat → Int32) (A97 : Nat → Int32) : Option ((Int32) ⊕ (Int32 × Int32 × Int32)) := (if inb v4j21 84000 = true then some (Sum.inr (A82 v4j21.toNatClampNeg, v4j21, v5j21 + 1)) else none)
def fX12_way_S65 (F : Nat) (x69_0 : Int32) (x69_1 : Int32) (x69_2 : Int32) (x69_3 : Int32) (x69_4 : Int64) (v1 : Int32) (v2 : Int32) (x69_18 : Int32) (x69_19 : Int64) (x69_20 : Int32) (x69_21 : Int32) (x69_22 : Int32) (x69_27 : Int32) (x69_35 : Int32) (A76 : Nat → Int32) (A77 : Nat → Int32) (A78 : Nat → Int32) (A79 : Nat → Int64) (A80 : Nat → Int32) (A81 : Nat → Int32) (A82 : Nat → Int32) (A83 : Nat → Int32) (A84 : Nat → Int32) (A85 : Nat → Int32) (A86 : Nat → Int32) (A97 : Nat → Int32) (v3 : Int32) (v4 : Int32) (v5 : Int32) : Option ((Int32) ⊕ (Int32 × Int32 × Int32)) := (if v1 < v5 then some (Sum.inl v4) else (if inb v3 6002 = true then (gloop (fun u12 : Int32 => fX12_way_S90 F x69_0 x69_1 x69_2 x69_3 x69_4 v1 v2 v5 ((A97 (0 : Int32).toNatClampNeg) - v5) x69_18 x69_19 x69_20 x69_21 x69_22 x69_27 x69_35 A76 A77 A78 A79 A80 A81 A82 A83 A84 A85 A86 A97 u12) F (A81 v3.toNatClampNeg)).bind (fun t12_137 => fX12_way_J137 F x69_0 x69_1 x69_2 x69_3 x69_4 v1 v2 t12_137 v5 x69_18 x69_19 x69_20 x69_21 x69_22 x69_27 x69_35 A76 A77 A78 A79 A80 A81 A82 A83 A84 A85 A86 A97) else none))
def fX12_way (F : Nat) (x69_0 : Int32) (x69_1 : Int32) (x69_2 : Int32) (x69_3 : Int32) (x69_4 : Int64) (x69_18 : Int32) (x69_19 : Int64) (x69_20 : Int32) (x69_21 : Int32) (x69_22 : Int32) (x69_27 : Int32) (x69_35 : Int32) (A76 : Nat → Int32) (A77 : Nat → Int32) (A78 : Nat → Int32) (A79 : Nat → Int64) (A80 : Nat → Int32) (A81 : Nat → Int32) (A82 : Nat → Int32) (A83 : Nat → Int32) (A84 : Nat → Int32) (A85 : Nat → Int32) (A86 : Nat → Int32) (A97 : Nat → Int32) (p1 : Int32) (p2 : Int32) : Option (Int32 × Int32 × Int64 × Int32 × Int32 × Int32 × Int32 × Int32 × (Nat → Int32) × (Nat → Int32) × (Nat → Int32) × (Nat → Int64) × (Nat → Int32) × (Nat → Int32) × (Nat → Int32) × (Nat → Int32) × (Nat → Int32) × (Nat → Int32) × (Nat → Int32) × (Nat → Int32)) := ((fX12_reaches F x69_0 x69_1 x69_3 x69_19 x69_20 x69_21 x69_22 x69_27 x69_35 A76 A77 A78 A79 A80 A81 A82 A83 A84 A85 A86 x69_4 x69_2).bind (fun r2 => (if r2.1 = 0 then some ((-3), 0, r2.2.1, r2.2.2.1, r2.2.2.2.1, r2.2.2.2.2.1, r2.2.2.2.2.2.1, r2.2.2.2.2.2.2.1, r2.2.2.2.2.2.2.2.1, r2.2.2.2.2.2.2.2.2.1, r2.2.2.2.2.2.2.2.2.2.1, r2.2.2.2.2.2.2.2.2.2.2.1, r2.2.2.2.2.2.2.2.2.2.2.2.1, r2.2.2.2.2.2.2.2.2.2.2.2.2.1, r2.2.2.2.2.2.2.2.2.2.2.2.2.2.1, r2.2.2.2.2.2.2.2.2.2.2.2.2.2.2.1, r2.2.2.2.2.2.2.2.2.2.2.2.2.2.2.2.1, r2.2.2.2.2.2.2.2.2.2.2.2.2.2.2.2.2.1, r2.2.2.2.2.2.2.2.2.2.2.2.2.2.2.2.2.2, A97) else (if p1 < 0 then some ((-2), 0, r2.2.1, r2.2.2.1, r2.2.2.2.1, r2.2.2.2.2.1, r2.2.2.2.2.2.1, r2.2.2.2.2.2.2.1, r2.2.2.2.2.2.2.2.1, r2.2.2.2.2.2.2.2.2.1, r2.2.2.2.2.2.2.2.2.2.1, r2.2.2.2.2.2.2.2.2.2.2.1, r2.2.2.2.2.2.2.2.2.2.2.2.1, r2.2.2.2.2.2.2.2.2.2.2.2.2.1, r2.2.2.2.2.2.2.2.2.2.2.2.2.2.1, r2.2.2.2.2.2.2.2.2.2.2.2.2.2.2.1, r2.2.2.2.2.2.2.2.2.2.2.2.2.2.2.2.1, r2.2.2.2.2.2.2.2.2.2.2.2.2.2.2.2.2.1, r2.2.2.2.2.2.2.2.2.2.2.2.2.2.2.2.2.2, A97) else (if (fX12_within p2 0 2) = 0 then some ((-2), 0, r2.2.1, r2.2.2.1, r2.2.2.2.1, r2.2.2.2.2.1, r2.2.2.2.2.2.1, r2.2.2.2.2.2.2.1, r2.2.2.2.2.2.2.2.1, r2.2.2.2.2.2.2.2.2.1, r2.2.2.2.2.2.2.2.2.2.1, r2.2.2.2.2.2.2.2.2.2.2.1, r2.2.2.2.2.2.2.2.2.2.2.2.1, r2.2.2.2.2.2.2.2.2.2.2.2.2.1, r2.2.2.2.2.2.2.2.2.2.2.2.2.2.1, r2.2.2.2.2.2.2.2.2.2.2.2.2.2.2.1, r2.2.2.2.2.2.2.2.2.2.2.2.2.2.2.2.1, r2.2.2.2.2.2.2.2.2.2.2.2.2.2.2.2.2.1, r2.2.2.2.2.2.2.2.2.2.2.2.2.2.2.2.2.2, A97) else ((fX12_laysFar F r2.2.2.2.2.2.1 r2.2.2.2.2.2.2.2.2.2.2.2.2.1 r2.2.2.2.2.2.2.2.2.2.2.2.2.2.1 r2.2.2.2.2.2.2.2.2.2.2.2.2.2.2.1 A97 1).bind (fun r7 => (if p1 < (r7 (0 : Int32).toNatClampNeg) then (gloop (fun u9 : (Int32 × Int32 × Int32) => fX12_way_S65 F x69_0 x69_1 x69_2 x69_3 x69_4 p1 p2 0 r2.2.1 r2.2.2.1 r2.2.2.2.1 r2.2.2.2.2.1 r2.2.2.2.2.2.1 r2.2.2.2.2.2.2.1 r2.2.2.2.2.2.2.2.1 r2.2.2.2.2.2.2.2.2.1 r2.2.2.2.2.2.2.2.2.2.1 r2.2.2.2.2.2.2.2.2.2.2.1 r2.2.2.2.2.2.2.2.2.2.2.2.1 r2.2.2.2.2.2.2.2.2.2.2.2.2.1 r2.2.2.2.2.2.2.2.2.2.2.2.2.2.1 r2.2.2.2.2.2.2.2.2.2.2.2.2.2.2.1 r2.2.2.2.2.2.2.2.2.2.2.2.2.2.2.2.1 r2.2.2.2.2.2.2.2.2.2.2.2.2.2.2.2.2.1 r2.2.2.2.2.2.2.2.2.2.2.2.2.2.2.2.2.2 r7 u9.1 u9.2.1 u9.2.2) F (0, 0, 0)).bind (fun t9_151 => (if p2 = 0 then (if inb t9_151 84000 = true then some (r2.2.2.2.2.2.2.2.2.2.2.2.2.2.2.2.1 t9_151.toNatClampNeg, 0, r2.2.1, r2.2.2.1, r2.2.2.2.1, r2.2.2.2.2.1, r2.2.2.2.2.2.1, r2.2.2.2.2.2.2.1, r2.2.2.2.2.2.2.2.1, r2.2.2.2.2.2.2.2.2.1, r2.2.2.2.2.2.2.2.2.2.1, r2.2.2.2.2.2.2.2.2.2.2.1, r2.2.2.2.2.2.2.2.2.2.2.2.1, r2.2.2.2.2.2.2.2.2.2.2.2.2.1, r2.2.2.2.2.2.2.2.2.2.2.2.2.2.1, r2.2.2.2.2.2.2.2.2.2.2.2.2.2.2.1, r2.2.2.2.2.2.2.2.2.2.2.2.2.2.2.2.1, r2.2.2.2.2.2.2.2.2.2.2.2.2.2.2.2.2.1, r2.2.2.2.2.2.2.2.2.2.2.2.2.2.2.2.2.2, r7) else none) else (if p2 = 1 then (if inb t9_151 84000 = true then some (r2.2.2.2.2.2.2.2.2.2.2.2.2.2.2.2.2.1 t9_151.toNatClampNeg, 0, r2.2.1, r2.2.2.1, r2.2.2.2.1, r2.2.2.2.2.1, r2.2.2.2.2.2.1, r2.2.2.2.2.2.2.1, r2.2.2.2.2.2.2.2.1, r2.2.2.2.2.2.2.2.2.1, r2.2.2.2.2.2.2.2.2.2.1, r2.2.2.2.2.2.2.2.2.2.2.1, r2.2.2.2.2.2.2.2.2.2.2.2.1, r2.2.2.2.2.2.2.2.2.2.2.2.2.1, r2.2.2.2.2.2.2.2.2.2.2.2.2.2.1, r2.2.2.2.2.2.2.2.2.2.2.2.2.2.2.1, r2.2.2.2.2.2.2.2.2.2.2.2.2.2.2.2.1, r2.2.2.2.2.2.2.2.2.2.2.2.2.2.2.2.2.1, r2.2.2.2.2.2.2.2.2.2.2.2.2.2.2.2.2.2, r7) else none) else (if inb t9_151 84000 = true then some (r2.2.2.2.2.2.2.2.2.2.2.2.2.2.2.2.2.2 t9_151.toNatClampNeg, 0, r2.2.1, r2.2.2.1, r2.2.2.2.1, r2.2.2.2.2.1, r2.2.2.2.2.2.1, r2.2.2.2.2.2.2.1, r2.2.2.2.2.2.2.2.1, r2.2.2.2.2.2.2.2.2.1, r2.2.2.2.2.2.2.2.2.2.1, r2.2.2.2.2.2.2.2.2.2.2.1, r2.2.2.2.2.2.2.2.2.2.2.2.1, r2.2.2.2.2.2.2.2.2.2.2.2.2.1, r2.2.2.2.2.2.2.2.2.2.2.2.2.2.1, r2.2.2.2.2.2.2.2.2.2.2.2.2.2.2.1, r2.2.2.2.2.2.2.2.2.2.2.2.2.2.2.2.1, r2.2.2.2.2.2.2.2.2.2.2.2.2.2.2.2.2.1, r2.2.2.2.2.2.2.2.2.2.2.2.2.2.2.2.2.2, r7) else none)))) else some ((-2), 0, r2.2.1, r2.2.2.1, r2.2.2.2.1, r2.2.2.2.2.1, r2.2.2.2.2.2.1, r2.2.2.2.2.2.2.1, r2.2.2.2.2.2.2.2.1, r2.2.2.2.2.2.2.2.2.1, r2.2.2.2.2.2.2.2.2.2.1, r2.2.2.2.2.2.2.2.2.2.2.1, r2.2.2.2.2.2.2.2.2.2.2.2.1, r2.2.2.2.2.2.2.2.2.2.2.2.2.1, r2.2.2.2.2.2.2.2.2.2.2.2.2.2.1, r2.2.2.2.2.2.2.2.2.2.2.2.2.2.2.1, r2.2.2.2.2.2.2.2.2.2.2.2.2.2.2.2.1, r2.2.2.2.2.2.2.2.2.2.2.2.2.2.2.2.2.1, r2.2.2.2.2.2.2.2.2.2.2.2.2.2.2.2.2.2, r7)))))))))
theorem dX12_way_0 : decode cX12_way 0 = .ok (.aload_n 0, 1) := by decide +kernel
theorem dX12_way_1 : decode cX12_way 1 = .ok (.iconst 0, 1) := by decide +kernel
theorem dX12_way_2 : decode cX12_way 2 = .ok (.putfield 137, 3) := by decide +kernel
theorem dX12_way_5 : decode cX12_way 5 = .ok (.aload_n 0, 1) := by decide +kernel
theorem dX12_way_6 : decode cX12_way 6 = .ok (.aload_n 0, 1) := by decide +kernel
theorem dX12_way_7 : decode cX12_way 7 = .ok (.getfield 133, 3) := by decide +kernel
theorem dX12_way_10 : decode cX12_way 10 = .ok (.aload_n 0, 1) := by decide +kernel
theorem dX12_way_11 : decode cX12_way 11 = .ok (.getfield 16, 3) := by decide +kernel
theorem dX12_way_14 : decode cX12_way 14 = .ok (.invokevirtual 278, 3) := by decide +kernel
theorem dX12_way_17 : decode cX12_way 17 = .ok (.ifCond .ne 6, 3) := by decide +kernel
theorem dX12_way_20 : decode cX12_way 20 = .ok (.bipush (-3), 2) := by decide +kernel
theorem dX12_way_22 : decode cX12_way 22 = .ok (.ireturn, 1) := by decide +kernel
theorem dX12_way_23 : decode cX12_way 23 = .ok (.iload_n 1, 1) := by decide +kernel
theorem dX12_way_24 : decode cX12_way 24 = .ok (.ifCond .lt 12, 3) := by decide +kernel
theorem dX12_way_27 : decode cX12_way 27 = .ok (.iload_n 2, 1) := by decide +kernel
theorem dX12_way_28 : decode cX12_way 28 = .ok (.iconst 0, 1) := by decide +kernel
theorem dX12_way_29 : decode cX12_way 29 = .ok (.iconst 2, 1) := by decide +kernel
theorem dX12_way_30 : decode cX12_way 30 = .ok (.invokestatic 159, 3) := by decide +kernel
theorem dX12_way_33 : decode cX12_way 33 = .ok (.ifCond .ne 6, 3) := by decide +kernel
theorem dX12_way_36 : decode cX12_way 36 = .ok (.bipush (-2), 2) := by decide +kernel
theorem dX12_way_38 : decode cX12_way 38 = .ok (.ireturn, 1) := by decide +kernel
theorem dX12_way_39 : decode cX12_way 39 = .ok (.aload_n 0, 1) := by decide +kernel
theorem dX12_way_40 : decode cX12_way 40 = .ok (.iconst 1, 1) := by decide +kernel
theorem dX12_way_41 : decode cX12_way 41 = .ok (.invokevirtual 318, 3) := by decide +kernel
theorem dX12_way_44 : decode cX12_way 44 = .ok (.iload_n 1, 1) := by decide +kernel
theorem dX12_way_45 : decode cX12_way 45 = .ok (.aload_n 0, 1) := by decide +kernel
theorem dX12_way_46 : decode cX12_way 46 = .ok (.getfield 107, 3) := by decide +kernel
theorem dX12_way_49 : decode cX12_way 49 = .ok (.iconst 0, 1) := by decide +kernel
theorem dX12_way_50 : decode cX12_way 50 = .ok (.iaload, 1) := by decide +kernel
theorem dX12_way_51 : decode cX12_way 51 = .ok (.if_icmp .lt 6, 3) := by decide +kernel
theorem dX12_way_54 : decode cX12_way 54 = .ok (.bipush (-2), 2) := by decide +kernel
theorem dX12_way_56 : decode cX12_way 56 = .ok (.ireturn, 1) := by decide +kernel
theorem dX12_way_57 : decode cX12_way 57 = .ok (.iconst 0, 1) := by decide +kernel
theorem dX12_way_58 : decode cX12_way 58 = .ok (.istore_n 3, 1) := by decide +kernel
theorem dX12_way_59 : decode cX12_way 59 = .ok (.iconst 0, 1) := by decide +kernel
theorem dX12_way_60 : decode cX12_way 60 = .ok (.istore 4, 2) := by decide +kernel
theorem dX12_way_62 : decode cX12_way 62 = .ok (.iconst 0, 1) := by decide +kernel
theorem dX12_way_63 : decode cX12_way 63 = .ok (.istore 5, 2) := by decide +kernel
theorem dX12_way_65 : decode cX12_way 65 = .ok (.iload 5, 2) := by decide +kernel
theorem dX12_way_67 : decode cX12_way 67 = .ok (.iload_n 1, 1) := by decide +kernel
theorem dX12_way_68 : decode cX12_way 68 = .ok (.if_icmp .gt 83, 3) := by decide +kernel
theorem dX12_way_71 : decode cX12_way 71 = .ok (.aload_n 0, 1) := by decide +kernel
theorem dX12_way_72 : decode cX12_way 72 = .ok (.getfield 107, 3) := by decide +kernel
theorem dX12_way_75 : decode cX12_way 75 = .ok (.iconst 0, 1) := by decide +kernel
theorem dX12_way_76 : decode cX12_way 76 = .ok (.iaload, 1) := by decide +kernel
theorem dX12_way_77 : decode cX12_way 77 = .ok (.iload 5, 2) := by decide +kernel
theorem dX12_way_79 : decode cX12_way 79 = .ok (.isub, 1) := by decide +kernel
theorem dX12_way_80 : decode cX12_way 80 = .ok (.istore 6, 2) := by decide +kernel
theorem dX12_way_82 : decode cX12_way 82 = .ok (.aload_n 0, 1) := by decide +kernel
theorem dX12_way_83 : decode cX12_way 83 = .ok (.getfield 57, 3) := by decide +kernel
theorem dX12_way_86 : decode cX12_way 86 = .ok (.iload_n 3, 1) := by decide +kernel
theorem dX12_way_87 : decode cX12_way 87 = .ok (.iaload, 1) := by decide +kernel
theorem dX12_way_88 : decode cX12_way 88 = .ok (.istore 4, 2) := by decide +kernel
theorem dX12_way_90 : decode cX12_way 90 = .ok (.iload 6, 2) := by decide +kernel
theorem dX12_way_92 : decode cX12_way 92 = .ok (.iconst 1, 1) := by decide +kernel
theorem dX12_way_93 : decode cX12_way 93 = .ok (.if_icmp .ne 19, 3) := by decide +kernel
theorem dX12_way_96 : decode cX12_way 96 = .ok (.aload_n 0, 1) := by decide +kernel
theorem dX12_way_97 : decode cX12_way 97 = .ok (.getfield 64, 3) := by decide +kernel
theorem dX12_way_100 : decode cX12_way 100 = .ok (.iload 4, 2) := by decide +kernel
theorem dX12_way_102 : decode cX12_way 102 = .ok (.iaload, 1) := by decide +kernel
theorem dX12_way_103 : decode cX12_way 103 = .ok (.invokestatic 244, 3) := by decide +kernel
theorem dX12_way_106 : decode cX12_way 106 = .ok (.ifCond .ne 31, 3) := by decide +kernel
theorem dX12_way_109 : decode cX12_way 109 = .ok (.goto 22, 3) := by decide +kernel
theorem dX12_way_112 : decode cX12_way 112 = .ok (.aload_n 0, 1) := by decide +kernel
theorem dX12_way_113 : decode cX12_way 113 = .ok (.getfield 107, 3) := by decide +kernel
theorem dX12_way_116 : decode cX12_way 116 = .ok (.aload_n 0, 1) := by decide +kernel
theorem dX12_way_117 : decode cX12_way 117 = .ok (.getfield 61, 3) := by decide +kernel
theorem dX12_way_120 : decode cX12_way 120 = .ok (.iload 4, 2) := by decide +kernel
theorem dX12_way_122 : decode cX12_way 122 = .ok (.iaload, 1) := by decide +kernel
theorem dX12_way_123 : decode cX12_way 123 = .ok (.iaload, 1) := by decide +kernel
theorem dX12_way_124 : decode cX12_way 124 = .ok (.iload 6, 2) := by decide +kernel
theorem dX12_way_126 : decode cX12_way 126 = .ok (.iconst 1, 1) := by decide +kernel
theorem dX12_way_127 : decode cX12_way 127 = .ok (.isub, 1) := by decide +kernel
theorem dX12_way_128 : decode cX12_way 128 = .ok (.if_icmp .eq 9, 3) := by decide +kernel
theorem dX12_way_131 : decode cX12_way 131 = .ok (.iinc 4 1, 3) := by decide +kernel
theorem dX12_way_134 : decode cX12_way 134 = .ok (.goto (-44), 3) := by decide +kernel
theorem dX12_way_137 : decode cX12_way 137 = .ok (.aload_n 0, 1) := by decide +kernel
theorem dX12_way_138 : decode cX12_way 138 = .ok (.getfield 61, 3) := by decide +kernel
theorem dX12_way_141 : decode cX12_way 141 = .ok (.iload 4, 2) := by decide +kernel
theorem dX12_way_143 : decode cX12_way 143 = .ok (.iaload, 1) := by decide +kernel
theorem dX12_way_144 : decode cX12_way 144 = .ok (.istore_n 3, 1) := by decide +kernel
theorem dX12_way_145 : decode cX12_way 145 = .ok (.iinc 5 1, 3) := by decide +kernel
theorem dX12_way_148 : decode cX12_way 148 = .ok (.goto (-83), 3) := by decide +kernel
theorem dX12_way_151 : decode cX12_way 151 = .ok (.iload_n 2, 1) := by decide +kernel
theorem dX12_way_152 : decode cX12_way 152 = .ok (.ifCond .ne 13, 3) := by decide +kernel
theorem dX12_way_155 : decode cX12_way 155 = .ok (.aload_n 0, 1) := by decide +kernel
theorem dX12_way_156 : decode cX12_way 156 = .ok (.getfield 67, 3) := by decide +kernel
theorem dX12_way_159 : decode cX12_way 159 = .ok (.iload 4, 2) := by decide +kernel
theorem dX12_way_161 : decode cX12_way 161 = .ok (.iaload, 1) := by decide +kernel
theorem dX12_way_162 : decode cX12_way 162 = .ok (.goto 25, 3) := by decide +kernel
theorem dX12_way_165 : decode cX12_way 165 = .ok (.iload_n 2, 1) := by decide +kernel
theorem dX12_way_166 : decode cX12_way 166 = .ok (.iconst 1, 1) := by decide +kernel
theorem dX12_way_167 : decode cX12_way 167 = .ok (.if_icmp .ne 13, 3) := by decide +kernel
theorem dX12_way_170 : decode cX12_way 170 = .ok (.aload_n 0, 1) := by decide +kernel
theorem dX12_way_171 : decode cX12_way 171 = .ok (.getfield 70, 3) := by decide +kernel
theorem dX12_way_174 : decode cX12_way 174 = .ok (.iload 4, 2) := by decide +kernel
theorem dX12_way_176 : decode cX12_way 176 = .ok (.iaload, 1) := by decide +kernel
theorem dX12_way_177 : decode cX12_way 177 = .ok (.goto 10, 3) := by decide +kernel
theorem dX12_way_180 : decode cX12_way 180 = .ok (.aload_n 0, 1) := by decide +kernel
theorem dX12_way_181 : decode cX12_way 181 = .ok (.getfield 73, 3) := by decide +kernel
theorem dX12_way_184 : decode cX12_way 184 = .ok (.iload 4, 2) := by decide +kernel
theorem dX12_way_186 : decode cX12_way 186 = .ok (.iaload, 1) := by decide +kernel
theorem dX12_way_187 : decode cX12_way 187 = .ok (.ireturn, 1) := by decide +kernel
set_option maxHeartbeats 4000000 in
set_option maxRecDepth 100000 in
theorem kX12_way {l : Launch} {D : va_G} {cy : Nat → ClassId} {N : Nat} {q : Nat → Nat} {m0 : Nat → Value} {a0 : Nat → vp_A} {sz : Nat} (hN : 105 ≤ N) (hsh : SH q m0) {x69_0 : Int32} (h_x69_0 : m0 6900 = .int x69_0) {x69_1 : Int32} (h_x69_1 : m0 6901 = .int x69_1) {x69_2 : Int32} (h_x69_2 : m0 6902 = .int x69_2) {x69_3 : Int32} (h_x69_3 : m0 6903 = .int x69_3) {x69_4 : Int64} (h_x69_4 : m0 6904 = .long x69_4) {x69_18 : Int32} (h_x69_18 : m0 6918 = .int x69_18) {x69_19 : Int64} (h_x69_19 : m0 6919 = .long x69_19) {x69_20 : Int32} (h_x69_20 : m0 6920 = .int x69_20) {x69_21 : Int32} (h_x69_21 : m0 6921 = .int x69_21) {x69_22 : Int32} (h_x69_22 : m0 6922 = .int x69_22) {x69_27 : Int32} (h_x69_27 : m0 6927 = .int x69_27) {x69_35 : Int32} (h_x69_35 : m0 6935 = .int x69_35) {A76 : Nat → Int32} (h_A76 : a0 76 = (40, .inl A76)) {A77 : Nat → Int32} (h_A77 : a0 77 = (40, .inl A77)) {A78 : Nat → Int32} (h_A78 : a0 78 = (40, .inl A78)) {A79 : Nat → Int64} (h_A79 : a0 79 = (6001, .inr (.inl A79))) {A80 : Nat → Int32} (h_A80 : a0 80 = (16384, .inl A80)) {A81 : Nat → Int32} (h_A81 : a0 81 = (6002, .inl A81)) {A82 : Nat → Int32} (h_A82 : a0 82 = (84000, .inl A82)) {A83 : Nat → Int32} (h_A83 : a0 83 = (84000, .inl A83)) {A84 : Nat → Int32} (h_A84 : a0 84 = (84000, .inl A84)) {A85 : Nat → Int32} (h_A85 : a0 85 = (84000, .inl A85)) {A86 : Nat → Int32} (h_A86 : a0 86 = (84000, .inl A86)) {A97 : Nat → Int32} (h_A97 : a0 97 = (6001, .inl A97)) (F : Nat) (p1 : Int32) (p2 : Int32) {X0 : Int32 × Int32 × Int64 × Int32 × Int32 × Int32 × Int32 × Int32 × (Nat → Int32) × (Nat → Int32) × (Nat → Int32) × (Nat → Int64) × (Nat → Int32) × (Nat → Int32) × (Nat → Int32) × (Nat → Int32) × (Nat → Int32) × (Nat → Int32) × (Nat → Int32) × (Nat → Int32)} (hs0 : fX12_way F x69_0 x69_1 x69_2 x69_3 x69_4 x69_18 x69_19 x69_20 x69_21 x69_22 x69_27 x69_35 A76 A77 A78 A79 A80 A81 A82 A83 A84 A85 A86 A97 p1 p2 = some X0) : gMi l yX12_way cX12_way 7 (some .int) ({ frames := 8, cells := 0, slots := 0, locals := 188 } : Room) D cy N q m0 a0 sz [.ref (q 69), .int p1, .int p2] (fun r m' a' => r = X0.1 ∧ m' 6918 = .int X0.2.1 ∧ m' 6919 = .long X0.2.2.1 ∧ m' 6920 = .int X0.2.2.2.1 ∧ m' 6921 = .int X0.2.2.2.2.1 ∧ m' 6922 = .int X0.2.2.2.2.2.1 ∧ m' 6927 = .int X0.2.2.2.2.2.2.1 ∧ m' 6935 = .int X0.2.2.2.2.2.2.2.1 ∧ (∀ j, nel j [6918, 6919, 6920, 6921, 6922, 6927, 6935] = false → m' j = m0 j) ∧ a' 76 = (40, .inl X0.2.2.2.2.2.2.2.2.1) ∧ a' 77 = (40, .inl X0.2.2.2.2.2.2.2.2.2.1) ∧ a' 78 = (40, .inl X0.2.2.2.2.2.2.2.2.2.2.1) ∧ a' 79 = (6001, .inr (.inl X0.2.2.2.2.2.2.2.2.2.2.2.1)) ∧ a' 80 = (16384, .inl X0.2.2.2.2.2.2.2.2.2.2.2.2.1) ∧ a' 81 = (6002, .inl X0.2.2.2.2.2.2.2.2.2.2.2.2.2.1) ∧ a' 82 = (84000, .inl X0.2.2.2.2.2.2.2.2.2.2.2.2.2.2.1) ∧ a' 83 = (84000, .inl X0.2.2.2.2.2.2.2.2.2.2.2.2.2.2.2.1) ∧ a' 84 = (84000, .inl X0.2.2.2.2.2.2.2.2.2.2.2.2.2.2.2.2.1) ∧ a' 85 = (84000, .inl X0.2.2.2.2.2.2.2.2.2.2.2.2.2.2.2.2.2.1) ∧ a' 86 = (84000, .inl X0.2.2.2.2.2.2.2.2.2.2.2.2.2.2.2.2.2.2.1) ∧ a' 97 = (6001, .inl X0.2.2.2.2.2.2.2.2.2.2.2.2.2.2.2.2.2.2.2) ∧ (∀ j, nel j [76, 77, 78, 79, 80, 81, 82, 83, 84, 85, 86, 97] = false → a' j = a0 j)) := by
  refine g_ofi (by decide) (Nat.le_of_ble_eq_true rfl) ?_
  intro p e s M args below meth c hx hb hr hG hown hin hlocks hml hW hS ls hl
  unfold fX12_way at hs0
  have hoff : ∀ j, nel j [6918, 6919, 6920, 6921, 6922, 6927, 6935] = false → m0 j = m0 j := off0
  have hoffa : ∀ j, nel j [76, 77, 78, 79, 80, 81, 82, 83, 84, 85, 86, 97] = false → a0 j = a0 j := off0
  refine lv_aload_n hx hb dX12_way_0 rfl (lv_at hl 0 rfl) ?_
  refine lv_iconst (v := 0) hx hb dX12_way_1 (by decide) ?_
  refine gp12_18 hx hb hG hown hW hS (o := 69) (ltN hN 69 rfl) gk69 (v := 0) gx246 dX12_way_2 (fun m1 H locs hm1 ho1 hW hS => ?_)
  have ho1 := off1 ho1
  have w_x69_18 : m1 6918 = .int 0 := hm1
  have w_x69_19 : m1 6919 = .long x69_19 := (ho1 6919 rfl).trans h_x69_19
  have w_x69_20 : m1 6920 = .int x69_20 := (ho1 6920 rfl).trans h_x69_20
  have w_x69_21 : m1 6921 = .int x69_21 := (ho1 6921 rfl).trans h_x69_21
  have w_x69_22 : m1 6922 = .int x69_22 := (ho1 6922 rfl).trans h_x69_22
  have w_x69_27 : m1 6927 = .int x69_27 := (ho1 6927 rfl).trans h_x69_27
  have w_x69_35 : m1 6935 = .int x69_35 := (ho1 6935 rfl).trans h_x69_35
  have hoff := offm hoff ho1 (by decide +kernel)
  have hsh := SH.off hsh ho1 (by decide +kernel)
  refine lv_aload_n hx hb dX12_way_5 rfl (lv_at hl 0 rfl) ?_
  refine lv_aload_n hx hb dX12_way_6 rfl (lv_at hl 0 rfl) ?_
  refine gf12_4 hx hb hG hown hW (o := 69) (ltN hN 69 rfl) gk69 (v := .long x69_4) ((hoff 6904 rfl).trans h_x69_4) gx202 dX12_way_7 ?_
  refine lv_aload_n hx hb dX12_way_10 rfl (lv_at hl 0 rfl) ?_
  refine gf12_2 hx hb hG hown hW (o := 69) (ltN hN 69 rfl) gk69 (v := .int x69_2) ((hoff 6902 rfl).trans h_x69_2) gx164 dX12_way_11 ?_
  obtain ⟨r2, hf2, hs0⟩ := obind hs0
  refine g_Vi (n := 2) hx hb hml hown hG hW hS [.long x69_4, .int x69_2] (kX12_reaches hN hsh ((hoff 6900 rfl).trans h_x69_0) ((hoff 6901 rfl).trans h_x69_1) ((hoff 6903 rfl).trans h_x69_3) w_x69_19 w_x69_20 w_x69_21 w_x69_22 w_x69_27 w_x69_35 h_A76 h_A77 h_A78 h_A79 h_A80 h_A81 h_A82 h_A83 h_A84 h_A85 h_A86 F x69_4 x69_2 hf2) (ltN hN 69 rfl) gk69 (by decide) rfl rfl (gd_V gx714 gx715 gx716 gx5 gx717) rfl rfl (by decide) ⟨Nat.le_of_ble_eq_true rfl, Nat.le_of_ble_eq_true rfl⟩ rfl hl (Nat.le_of_ble_eq_true rfl) ⟨Nat.zero_le _, Nat.zero_le _⟩ dX12_way_14 (fun x2 m2 a2 H locs hp2 hW hS => ?_)
  obtain ⟨hx2, hp2_x69_19, hp2_x69_20, hp2_x69_21, hp2_x69_22, hp2_x69_27, hp2_x69_35, ho2, hp2_A76, hp2_A77, hp2_A78, hp2_A79, hp2_A80, hp2_A81, hp2_A82, hp2_A83, hp2_A84, hp2_A85, hp2_A86, hoa2⟩ := hp2
  subst hx2
  have w_x69_18 : m2 6918 = .int 0 := (ho2 6918 rfl).trans w_x69_18
  have w_x69_19 : m2 6919 = .long r2.2.1 := hp2_x69_19
  have w_x69_20 : m2 6920 = .int r2.2.2.1 := hp2_x69_20
  have w_x69_21 : m2 6921 = .int r2.2.2.2.1 := hp2_x69_21
  have w_x69_22 : m2 6922 = .int r2.2.2.2.2.1 := hp2_x69_22
  have w_x69_27 : m2 6927 = .int r2.2.2.2.2.2.1 := hp2_x69_27
  have w_x69_35 : m2 6935 = .int r2.2.2.2.2.2.2.1 := hp2_x69_35
  have hoff := offm hoff ho2 (by decide +kernel)
  have hsh := SH.off hsh ho2 (by decide +kernel)
  have w_A76 : a2 76 = (40, .inl r2.2.2.2.2.2.2.2.1) := hp2_A76
  have w_A77 : a2 77 = (40, .inl r2.2.2.2.2.2.2.2.2.1) := hp2_A77
  have w_A78 : a2 78 = (40, .inl r2.2.2.2.2.2.2.2.2.2.1) := hp2_A78
  have w_A79 : a2 79 = (6001, .inr (.inl r2.2.2.2.2.2.2.2.2.2.2.1)) := hp2_A79
  have w_A80 : a2 80 = (16384, .inl r2.2.2.2.2.2.2.2.2.2.2.2.1) := hp2_A80
  have w_A81 : a2 81 = (6002, .inl r2.2.2.2.2.2.2.2.2.2.2.2.2.1) := hp2_A81
  have w_A82 : a2 82 = (84000, .inl r2.2.2.2.2.2.2.2.2.2.2.2.2.2.1) := hp2_A82
  have w_A83 : a2 83 = (84000, .inl r2.2.2.2.2.2.2.2.2.2.2.2.2.2.2.1) := hp2_A83
  have w_A84 : a2 84 = (84000, .inl r2.2.2.2.2.2.2.2.2.2.2.2.2.2.2.2.1) := hp2_A84
  have w_A85 : a2 85 = (84000, .inl r2.2.2.2.2.2.2.2.2.2.2.2.2.2.2.2.2.1) := hp2_A85
  have w_A86 : a2 86 = (84000, .inl r2.2.2.2.2.2.2.2.2.2.2.2.2.2.2.2.2.2) := hp2_A86
  have w_A97 : a2 97 = (6001, .inl A97) := (hoa2 97 rfl).trans h_A97
  have hoffa := offm hoffa hoa2 (by decide +kernel)
  refine lv_if_ne (tgt := 23) hx hb dX12_way_17 (by decide) (fun c3 => ?_) (fun c3 => ?_)
  · rw [if_neg c3] at hs0
    refine lv_iload_n hx hb dX12_way_23 rfl (lv_at hl 1 rfl) ?_
    refine lv_if_lt (tgt := 36) hx hb dX12_way_24 (by decide) (fun c4 => ?_) (fun c4 => ?_)
    · rw [if_pos c4] at hs0
      refine lv_bipush (v := (-2)) hx hb dX12_way_36 (by decide) ?_
      have hs0 := Option.some.inj hs0
      subst hs0
      exact W.zret hx hb hr rfl (fun t ht hw => ⟨⟨_, (m2, a2), rfl, ⟨rfl, w_x69_18, w_x69_19, w_x69_20, w_x69_21, w_x69_22, w_x69_27, w_x69_35, hoff, w_A76, w_A77, w_A78, w_A79, w_A80, w_A81, w_A82, w_A83, w_A84, w_A85, w_A86, w_A97, hoffa⟩, g_end hW ht hw⟩, hS.F ht⟩) hS.2.2 dX12_way_38 hlocks
    · rw [if_neg c4] at hs0
      refine lv_iload_n hx hb dX12_way_27 rfl (lv_at hl 2 rfl) ?_
      refine lv_iconst (v := 0) hx hb dX12_way_28 (by decide) ?_
      refine lv_iconst (v := 2) hx hb dX12_way_29 (by decide) ?_
      refine g_SiR (n := 3) hx hb hml hown hG hW hS [.int p2, .int 0, .int 2] (kX12_within hN p2 0 2) rfl (gd_S gx247 gx248 gx5 gx249) rfl rfl (by decide) ⟨Nat.le_of_ble_eq_true rfl, Nat.le_of_ble_eq_true rfl⟩ rfl hl (Nat.le_of_ble_eq_true rfl) ⟨Nat.zero_le _, Nat.zero_le _⟩ dX12_way_30 (fun H locs hW hS => ?_)
      refine lv_if_ne (tgt := 39) hx hb dX12_way_33 (by decide) (fun c6 => ?_) (fun c6 => ?_)
      · rw [if_neg c6] at hs0
        refine lv_aload_n hx hb dX12_way_39 rfl (lv_at hl 0 rfl) ?_
        refine lv_iconst (v := 1) hx hb dX12_way_40 (by decide) ?_
        obtain ⟨r7, hf7, hs0⟩ := obind hs0
        refine g_Vv (n := 1) hx hb hml hown hG hW hS [.int 1] (kX12_laysFar hN hsh w_x69_27 w_A81 w_A82 w_A83 w_A97 F 1 hf7) (ltN hN 69 rfl) gk69 (by decide) rfl rfl (gd_V gx866 gx867 gx868 gx5 gx869) rfl rfl (by decide) ⟨Nat.le_of_ble_eq_true rfl, Nat.le_of_ble_eq_true rfl⟩ rfl hl (Nat.le_of_ble_eq_true rfl) ⟨Nat.zero_le _, Nat.zero_le _⟩ dX12_way_41 (fun m7 a7 H locs hp7 hW hS => ?_)
        obtain ⟨hm7, hp7_A97, hoa7⟩ := hp7
        rw [hm7] at hW
        have w_A76 : a7 76 = (40, .inl r2.2.2.2.2.2.2.2.1) := (hoa7 76 rfl).trans w_A76
        have w_A77 : a7 77 = (40, .inl r2.2.2.2.2.2.2.2.2.1) := (hoa7 77 rfl).trans w_A77
        have w_A78 : a7 78 = (40, .inl r2.2.2.2.2.2.2.2.2.2.1) := (hoa7 78 rfl).trans w_A78
        have w_A79 : a7 79 = (6001, .inr (.inl r2.2.2.2.2.2.2.2.2.2.2.1)) := (hoa7 79 rfl).trans w_A79
        have w_A80 : a7 80 = (16384, .inl r2.2.2.2.2.2.2.2.2.2.2.2.1) := (hoa7 80 rfl).trans w_A80
        have w_A81 : a7 81 = (6002, .inl r2.2.2.2.2.2.2.2.2.2.2.2.2.1) := (hoa7 81 rfl).trans w_A81
        have w_A82 : a7 82 = (84000, .inl r2.2.2.2.2.2.2.2.2.2.2.2.2.2.1) := (hoa7 82 rfl).trans w_A82
        have w_A83 : a7 83 = (84000, .inl r2.2.2.2.2.2.2.2.2.2.2.2.2.2.2.1) := (hoa7 83 rfl).trans w_A83
        have w_A84 : a7 84 = (84000, .inl r2.2.2.2.2.2.2.2.2.2.2.2.2.2.2.2.1) := (hoa7 84 rfl).trans w_A84
        have w_A85 : a7 85 = (84000, .inl r2.2.2.2.2.2.2.2.2.2.2.2.2.2.2.2.2.1) := (hoa7 85 rfl).trans w_A85
        have w_A86 : a7 86 = (84000, .inl r2.2.2.2.2.2.2.2.2.2.2.2.2.2.2.2.2.2) := (hoa7 86 rfl).trans w_A86
        have w_A97 : a7 97 = (6001, .inl r7) := hp7_A97
        have hoffa := offm hoffa hoa7 (by decide +kernel)
        refine lv_iload_n hx hb dX12_way_44 rfl (lv_at hl 1 rfl) ?_
        refine lv_aload_n hx hb dX12_way_45 rfl (lv_at hl 0 rfl) ?_
        refine gf12_49 hx hb hG hown hW (o := 69) (ltN hN 69 rfl) gk69 (v := .ref (q 97)) (sh69_49 hsh) gx195 dX12_way_46 ?_
        refine lv_iconst (v := 0) hx hb dX12_way_49 (by decide) ?_
        refine g_iald hx hb hW (o := 97) (ltN hN 97 rfl) gk97 w_A97 (vin (by decide)) dX12_way_50 ?_
        refine lv_icmp_lt (tgt := 57) hx hb dX12_way_51 (by decide) (fun c8 => ?_) (fun c8 => ?_)
        · rw [if_pos c8] at hs0
          refine lv_iconst (v := 0) hx hb dX12_way_57 (by decide) ?_
          refine lv_istore_n (lv' := [(3, .int 0), (0, .ref (q 69)), (1, .int p1), (2, .int p2)]) hx hb dX12_way_58 rfl hl (by decide) rfl (fun ls hl => ?_)
          refine lv_iconst (v := 0) hx hb dX12_way_59 (by decide) ?_
          refine lv_istore (lv' := [(4, .int 0), (3, .int 0), (0, .ref (q 69)), (1, .int p1), (2, .int p2)]) hx hb dX12_way_60 hl (by decide) rfl (fun ls hl => ?_)
          refine lv_iconst (v := 0) hx hb dX12_way_62 (by decide) ?_
          refine lv_istore (lv' := [(5, .int 0), (4, .int 0), (3, .int 0), (0, .ref (q 69)), (1, .int p1), (2, .int p2)]) hx hb dX12_way_63 hl (by decide) rfl (fun ls hl => ?_)
          obtain ⟨r9, hg9, hs0⟩ := obind hs0
          have hE1_151 : ∀ (t9_151 : Int32) (hr9 : t9_151 = r9) (m : Nat → Value) (a : Nat → vp_A) (H : Heap) (locs : List Loc) (w_x69_18 : m 6918 = .int 0) (w_x69_19 : m 6919 = .long r2.2.1) (w_x69_20 : m 6920 = .int r2.2.2.1) (w_x69_21 : m 6921 = .int r2.2.2.2.1) (w_x69_22 : m 6922 = .int r2.2.2.2.2.1) (w_x69_27 : m 6927 = .int r2.2.2.2.2.2.1) (w_x69_35 : m 6935 = .int r2.2.2.2.2.2.2.1) (hoff : ∀ j, nel j [6918, 6919, 6920, 6921, 6922, 6927, 6935] = false → m j = m0 j) (hsh : SH q m) (w_A76 : a 76 = (40, .inl r2.2.2.2.2.2.2.2.1)) (w_A77 : a 77 = (40, .inl r2.2.2.2.2.2.2.2.2.1)) (w_A78 : a 78 = (40, .inl r2.2.2.2.2.2.2.2.2.2.1)) (w_A79 : a 79 = (6001, .inr (.inl r2.2.2.2.2.2.2.2.2.2.2.1))) (w_A80 : a 80 = (16384, .inl r2.2.2.2.2.2.2.2.2.2.2.2.1)) (w_A81 : a 81 = (6002, .inl r2.2.2.2.2.2.2.2.2.2.2.2.2.1)) (w_A82 : a 82 = (84000, .inl r2.2.2.2.2.2.2.2.2.2.2.2.2.2.1)) (w_A83 : a 83 = (84000, .inl r2.2.2.2.2.2.2.2.2.2.2.2.2.2.2.1)) (w_A84 : a 84 = (84000, .inl r2.2.2.2.2.2.2.2.2.2.2.2.2.2.2.2.1)) (w_A85 : a 85 = (84000, .inl r2.2.2.2.2.2.2.2.2.2.2.2.2.2.2.2.2.1)) (w_A86 : a 86 = (84000, .inl r2.2.2.2.2.2.2.2.2.2.2.2.2.2.2.2.2.2)) (w_A97 : a 97 = (6001, .inl r7)) (hoffa : ∀ j, nel j [76, 77, 78, 79, 80, 81, 82, 83, 84, 85, 86, 97] = false → a j = a0 j) (ls : Array Slot) (hl : lv_has ls 7 [(0, .ref (q 69)), (2, .int p2), (4, .int t9_151)]) (hW : GW D cy (gA N q s.heap.size) N q m a s H) (hS : va_S (gA N q s.heap.size) s.heap H locs), W p l e ({ frames := 8, cells := 0, slots := 0, locals := 188 } : Room) s M args below meth c H locs 0 0 (MQ below (va_Qi (fun (r : Int32) (u : (Nat → Value) × (Nat → vp_A)) => r = X0.1 ∧ u.1 6918 = .int X0.2.1 ∧ u.1 6919 = .long X0.2.2.1 ∧ u.1 6920 = .int X0.2.2.2.1 ∧ u.1 6921 = .int X0.2.2.2.2.1 ∧ u.1 6922 = .int X0.2.2.2.2.2.1 ∧ u.1 6927 = .int X0.2.2.2.2.2.2.1 ∧ u.1 6935 = .int X0.2.2.2.2.2.2.2.1 ∧ (∀ j, nel j [6918, 6919, 6920, 6921, 6922, 6927, 6935] = false → u.1 j = m0 j) ∧ u.2 76 = (40, .inl X0.2.2.2.2.2.2.2.2.1) ∧ u.2 77 = (40, .inl X0.2.2.2.2.2.2.2.2.2.1) ∧ u.2 78 = (40, .inl X0.2.2.2.2.2.2.2.2.2.2.1) ∧ u.2 79 = (6001, .inr (.inl X0.2.2.2.2.2.2.2.2.2.2.2.1)) ∧ u.2 80 = (16384, .inl X0.2.2.2.2.2.2.2.2.2.2.2.2.1) ∧ u.2 81 = (6002, .inl X0.2.2.2.2.2.2.2.2.2.2.2.2.2.1) ∧ u.2 82 = (84000, .inl X0.2.2.2.2.2.2.2.2.2.2.2.2.2.2.1) ∧ u.2 83 = (84000, .inl X0.2.2.2.2.2.2.2.2.2.2.2.2.2.2.2.1) ∧ u.2 84 = (84000, .inl X0.2.2.2.2.2.2.2.2.2.2.2.2.2.2.2.2.1) ∧ u.2 85 = (84000, .inl X0.2.2.2.2.2.2.2.2.2.2.2.2.2.2.2.2.2.1) ∧ u.2 86 = (84000, .inl X0.2.2.2.2.2.2.2.2.2.2.2.2.2.2.2.2.2.2.1) ∧ u.2 97 = (6001, .inl X0.2.2.2.2.2.2.2.2.2.2.2.2.2.2.2.2.2.2.2) ∧ (∀ j, nel j [76, 77, 78, 79, 80, 81, 82, 83, 84, 85, 86, 97] = false → u.2 j = a0 j)) (gB D cy N q s.heap.size) (gA N q s.heap.size)) args s 0 0 (gA N q s.heap.size)) (F0 M 151 ls []) := by
            intro t9_151 hr9 m a H locs w_x69_18 w_x69_19 w_x69_20 w_x69_21 w_x69_22 w_x69_27 w_x69_35 hoff hsh w_A76 w_A77 w_A78 w_A79 w_A80 w_A81 w_A82 w_A83 w_A84 w_A85 w_A86 w_A97 hoffa ls hl hW hS
            subst hr9
            refine lv_iload_n hx hb dX12_way_151 rfl (lv_at hl 1 rfl) ?_
            refine lv_if_ne (tgt := 165) hx hb dX12_way_152 (by decide) (fun c31 => ?_) (fun c31 => ?_)
            · rw [if_neg c31] at hs0
              refine lv_iload_n hx hb dX12_way_165 rfl (lv_at hl 1 rfl) ?_
              refine lv_iconst (v := 1) hx hb dX12_way_166 (by decide) ?_
              refine lv_icmp_ne (tgt := 180) hx hb dX12_way_167 (by decide) (fun c32 => ?_) (fun c32 => ?_)
              · rw [if_neg c32] at hs0
                refine lv_aload_n hx hb dX12_way_180 rfl (lv_at hl 0 rfl) ?_
                refine gf12_34 hx hb hG hown hW (o := 69) (ltN hN 69 rfl) gk69 (v := .ref (q 86)) (sh69_34 hsh) gx183 dX12_way_181 ?_
                refine lv_iload hx hb dX12_way_184 (lv_at hl 2 rfl) ?_
                obtain ⟨hi33, hs0⟩ := oif hs0
                refine g_iald hx hb hW (o := 86) (ltN hN 86 rfl) gk86 w_A86 (vin hi33) dX12_way_186 ?_
                have hs0 := Option.some.inj hs0
                subst hs0
                exact W.zret hx hb hr rfl (fun t ht hw => ⟨⟨_, (m, a), rfl, ⟨rfl, w_x69_18, w_x69_19, w_x69_20, w_x69_21, w_x69_22, w_x69_27, w_x69_35, hoff, w_A76, w_A77, w_A78, w_A79, w_A80, w_A81, w_A82, w_A83, w_A84, w_A85, w_A86, w_A97, hoffa⟩, g_end hW ht hw⟩, hS.F ht⟩) hS.2.2 dX12_way_187 hlocks
              · rw [if_pos c32] at hs0
                refine lv_aload_n hx hb dX12_way_170 rfl (lv_at hl 0 rfl) ?_
                refine gf12_33 hx hb hG hown hW (o := 69) (ltN hN 69 rfl) gk69 (v := .ref (q 85)) (sh69_33 hsh) gx182 dX12_way_171 ?_
                refine lv_iload hx hb dX12_way_174 (lv_at hl 2 rfl) ?_
                obtain ⟨hi34, hs0⟩ := oif hs0
                refine g_iald hx hb hW (o := 85) (ltN hN 85 rfl) gk85 w_A85 (vin hi34) dX12_way_176 ?_
                refine lv_goto (tgt := 187) hx hb dX12_way_177 (by decide) ?_
                have hs0 := Option.some.inj hs0
                subst hs0
                exact W.zret hx hb hr rfl (fun t ht hw => ⟨⟨_, (m, a), rfl, ⟨rfl, w_x69_18, w_x69_19, w_x69_20, w_x69_21, w_x69_22, w_x69_27, w_x69_35, hoff, w_A76, w_A77, w_A78, w_A79, w_A80, w_A81, w_A82, w_A83, w_A84, w_A85, w_A86, w_A97, hoffa⟩, g_end hW ht hw⟩, hS.F ht⟩) hS.2.2 dX12_way_187 hlocks
            · rw [if_pos c31] at hs0
              refine lv_aload_n hx hb dX12_way_155 rfl (lv_at hl 0 rfl) ?_
              refine gf12_32 hx hb hG hown hW (o := 69) (ltN hN 69 rfl) gk69 (v := .ref (q 84)) (sh69_32 hsh) gx181 dX12_way_156 ?_
              refine lv_iload hx hb dX12_way_159 (lv_at hl 2 rfl) ?_
              obtain ⟨hi35, hs0⟩ := oif hs0
              refine g_iald hx hb hW (o := 84) (ltN hN 84 rfl) gk84 w_A84 (vin hi35) dX12_way_161 ?_
              refine lv_goto (tgt := 187) hx hb dX12_way_162 (by decide) ?_
              have hs0 := Option.some.inj hs0
              subst hs0
              exact W.zret hx hb hr rfl (fun t ht hw => ⟨⟨_, (m, a), rfl, ⟨rfl, w_x69_18, w_x69_19, w_x69_20, w_x69_21, w_x69_22, w_x69_27, w_x69_35, hoff, w_A76, w_A77, w_A78, w_A79, w_A80, w_A81, w_A82, w_A83, w_A84, w_A85, w_A86, w_A97, hoffa⟩, g_end hW ht hw⟩, hS.F ht⟩) hS.2.2 dX12_way_187 hlocks
          have hL1 : ∀ (n : Nat) (v3k9 : Int32) (v4k9 : Int32) (v5k9 : Int32) (m : Nat → Value) (a : Nat → vp_A) (H : Heap) (locs : List Loc) (w_x69_18 : m 6918 = .int 0) (w_x69_19 : m 6919 = .long r2.2.1) (w_x69_20 : m 6920 = .int r2.2.2.1) (w_x69_21 : m 6921 = .int r2.2.2.2.1) (w_x69_22 : m 6922 = .int r2.2.2.2.2.1) (w_x69_27 : m 6927 = .int r2.2.2.2.2.2.1) (w_x69_35 : m 6935 = .int r2.2.2.2.2.2.2.1) (hoff : ∀ j, nel j [6918, 6919, 6920, 6921, 6922, 6927, 6935] = false → m j = m0 j) (hsh : SH q m) (w_A76 : a 76 = (40, .inl r2.2.2.2.2.2.2.2.1)) (w_A77 : a 77 = (40, .inl r2.2.2.2.2.2.2.2.2.1)) (w_A78 : a 78 = (40, .inl r2.2.2.2.2.2.2.2.2.2.1)) (w_A79 : a 79 = (6001, .inr (.inl r2.2.2.2.2.2.2.2.2.2.2.1))) (w_A80 : a 80 = (16384, .inl r2.2.2.2.2.2.2.2.2.2.2.2.1)) (w_A81 : a 81 = (6002, .inl r2.2.2.2.2.2.2.2.2.2.2.2.2.1)) (w_A82 : a 82 = (84000, .inl r2.2.2.2.2.2.2.2.2.2.2.2.2.2.1)) (w_A83 : a 83 = (84000, .inl r2.2.2.2.2.2.2.2.2.2.2.2.2.2.2.1)) (w_A84 : a 84 = (84000, .inl r2.2.2.2.2.2.2.2.2.2.2.2.2.2.2.2.1)) (w_A85 : a 85 = (84000, .inl r2.2.2.2.2.2.2.2.2.2.2.2.2.2.2.2.2.1)) (w_A86 : a 86 = (84000, .inl r2.2.2.2.2.2.2.2.2.2.2.2.2.2.2.2.2.2)) (w_A97 : a 97 = (6001, .inl r7)) (hoffa : ∀ j, nel j [76, 77, 78, 79, 80, 81, 82, 83, 84, 85, 86, 97] = false → a j = a0 j) (ls : Array Slot) (hl : lv_has ls 7 [(0, .ref (q 69)), (1, .int p1), (2, .int p2), (3, .int v3k9), (4, .int v4k9), (5, .int v5k9)]) (hg9 : gloop (fun u9 : (Int32 × Int32 × Int32) => fX12_way_S65 F x69_0 x69_1 x69_2 x69_3 x69_4 p1 p2 0 r2.2.1 r2.2.2.1 r2.2.2.2.1 r2.2.2.2.2.1 r2.2.2.2.2.2.1 r2.2.2.2.2.2.2.1 r2.2.2.2.2.2.2.2.1 r2.2.2.2.2.2.2.2.2.1 r2.2.2.2.2.2.2.2.2.2.1 r2.2.2.2.2.2.2.2.2.2.2.1 r2.2.2.2.2.2.2.2.2.2.2.2.1 r2.2.2.2.2.2.2.2.2.2.2.2.2.1 r2.2.2.2.2.2.2.2.2.2.2.2.2.2.1 r2.2.2.2.2.2.2.2.2.2.2.2.2.2.2.1 r2.2.2.2.2.2.2.2.2.2.2.2.2.2.2.2.1 r2.2.2.2.2.2.2.2.2.2.2.2.2.2.2.2.2.1 r2.2.2.2.2.2.2.2.2.2.2.2.2.2.2.2.2.2 r7 u9.1 u9.2.1 u9.2.2) n (v3k9, v4k9, v5k9) = some r9) (hW : GW D cy (gA N q s.heap.size) N q m a s H) (hS : va_S (gA N q s.heap.size) s.heap H locs), W p l e ({ frames := 8, cells := 0, slots := 0, locals := 188 } : Room) s M args below meth c H locs 0 0 (MQ below (va_Qi (fun (r : Int32) (u : (Nat → Value) × (Nat → vp_A)) => r = X0.1 ∧ u.1 6918 = .int X0.2.1 ∧ u.1 6919 = .long X0.2.2.1 ∧ u.1 6920 = .int X0.2.2.2.1 ∧ u.1 6921 = .int X0.2.2.2.2.1 ∧ u.1 6922 = .int X0.2.2.2.2.2.1 ∧ u.1 6927 = .int X0.2.2.2.2.2.2.1 ∧ u.1 6935 = .int X0.2.2.2.2.2.2.2.1 ∧ (∀ j, nel j [6918, 6919, 6920, 6921, 6922, 6927, 6935] = false → u.1 j = m0 j) ∧ u.2 76 = (40, .inl X0.2.2.2.2.2.2.2.2.1) ∧ u.2 77 = (40, .inl X0.2.2.2.2.2.2.2.2.2.1) ∧ u.2 78 = (40, .inl X0.2.2.2.2.2.2.2.2.2.2.1) ∧ u.2 79 = (6001, .inr (.inl X0.2.2.2.2.2.2.2.2.2.2.2.1)) ∧ u.2 80 = (16384, .inl X0.2.2.2.2.2.2.2.2.2.2.2.2.1) ∧ u.2 81 = (6002, .inl X0.2.2.2.2.2.2.2.2.2.2.2.2.2.1) ∧ u.2 82 = (84000, .inl X0.2.2.2.2.2.2.2.2.2.2.2.2.2.2.1) ∧ u.2 83 = (84000, .inl X0.2.2.2.2.2.2.2.2.2.2.2.2.2.2.2.1) ∧ u.2 84 = (84000, .inl X0.2.2.2.2.2.2.2.2.2.2.2.2.2.2.2.2.1) ∧ u.2 85 = (84000, .inl X0.2.2.2.2.2.2.2.2.2.2.2.2.2.2.2.2.2.1) ∧ u.2 86 = (84000, .inl X0.2.2.2.2.2.2.2.2.2.2.2.2.2.2.2.2.2.2.1) ∧ u.2 97 = (6001, .inl X0.2.2.2.2.2.2.2.2.2.2.2.2.2.2.2.2.2.2.2) ∧ (∀ j, nel j [76, 77, 78, 79, 80, 81, 82, 83, 84, 85, 86, 97] = false → u.2 j = a0 j)) (gB D cy N q s.heap.size) (gA N q s.heap.size)) args s 0 0 (gA N q s.heap.size)) (F0 M 65 ls []) := by
            intro n
            induction n with
            | zero => intro v3k9 v4k9 v5k9 m a H locs w_x69_18 w_x69_19 w_x69_20 w_x69_21 w_x69_22 w_x69_27 w_x69_35 hoff hsh w_A76 w_A77 w_A78 w_A79 w_A80 w_A81 w_A82 w_A83 w_A84 w_A85 w_A86 w_A97 hoffa ls hl hg9 hW hS; exact (gl_zero hg9).elim
            | succ n ih1 =>
              intro v3k9 v4k9 v5k9 m a H locs w_x69_18 w_x69_19 w_x69_20 w_x69_21 w_x69_22 w_x69_27 w_x69_35 hoff hsh w_A76 w_A77 w_A78 w_A79 w_A80 w_A81 w_A82 w_A83 w_A84 w_A85 w_A86 w_A97 hoffa ls hl hg9 hW hS
              obtain ⟨X1, hs1, hXl1, hXr1⟩ := gl_succ hg9
              have hs1 : fX12_way_S65 F x69_0 x69_1 x69_2 x69_3 x69_4 p1 p2 0 r2.2.1 r2.2.2.1 r2.2.2.2.1 r2.2.2.2.2.1 r2.2.2.2.2.2.1 r2.2.2.2.2.2.2.1 r2.2.2.2.2.2.2.2.1 r2.2.2.2.2.2.2.2.2.1 r2.2.2.2.2.2.2.2.2.2.1 r2.2.2.2.2.2.2.2.2.2.2.1 r2.2.2.2.2.2.2.2.2.2.2.2.1 r2.2.2.2.2.2.2.2.2.2.2.2.2.1 r2.2.2.2.2.2.2.2.2.2.2.2.2.2.1 r2.2.2.2.2.2.2.2.2.2.2.2.2.2.2.1 r2.2.2.2.2.2.2.2.2.2.2.2.2.2.2.2.1 r2.2.2.2.2.2.2.2.2.2.2.2.2.2.2.2.2.1 r2.2.2.2.2.2.2.2.2.2.2.2.2.2.2.2.2.2 r7 v3k9 v4k9 v5k9 = some X1 := hs1
              unfold fX12_way_S65 at hs1
              have hJ137_1 : ∀ (v4j47 : Int32) (v5j47 : Int32) (m : Nat → Value) (a : Nat → vp_A) (H : Heap) (locs : List Loc) (w_x69_18 : m 6918 = .int 0) (w_x69_19 : m 6919 = .long r2.2.1) (w_x69_20 : m 6920 = .int r2.2.2.1) (w_x69_21 : m 6921 = .int r2.2.2.2.1) (w_x69_22 : m 6922 = .int r2.2.2.2.2.1) (w_x69_27 : m 6927 = .int r2.2.2.2.2.2.1) (w_x69_35 : m 6935 = .int r2.2.2.2.2.2.2.1) (hoff : ∀ j, nel j [6918, 6919, 6920, 6921, 6922, 6927, 6935] = false → m j = m0 j) (hsh : SH q m) (w_A76 : a 76 = (40, .inl r2.2.2.2.2.2.2.2.1)) (w_A77 : a 77 = (40, .inl r2.2.2.2.2.2.2.2.2.1)) (w_A78 : a 78 = (40, .inl r2.2.2.2.2.2.2.2.2.2.1)) (w_A79 : a 79 = (6001, .inr (.inl r2.2.2.2.2.2.2.2.2.2.2.1))) (w_A80 : a 80 = (16384, .inl r2.2.2.2.2.2.2.2.2.2.2.2.1)) (w_A81 : a 81 = (6002, .inl r2.2.2.2.2.2.2.2.2.2.2.2.2.1)) (w_A82 : a 82 = (84000, .inl r2.2.2.2.2.2.2.2.2.2.2.2.2.2.1)) (w_A83 : a 83 = (84000, .inl r2.2.2.2.2.2.2.2.2.2.2.2.2.2.2.1)) (w_A84 : a 84 = (84000, .inl r2.2.2.2.2.2.2.2.2.2.2.2.2.2.2.2.1)) (w_A85 : a 85 = (84000, .inl r2.2.2.2.2.2.2.2.2.2.2.2.2.2.2.2.2.1)) (w_A86 : a 86 = (84000, .inl r2.2.2.2.2.2.2.2.2.2.2.2.2.2.2.2.2.2)) (w_A97 : a 97 = (6001, .inl r7)) (hoffa : ∀ j, nel j [76, 77, 78, 79, 80, 81, 82, 83, 84, 85, 86, 97] = false → a j = a0 j) (ls : Array Slot) (hl : lv_has ls 7 [(0, .ref (q 69)), (1, .int p1), (2, .int p2), (4, .int v4j47), (5, .int v5j47)]) (hs1 : fX12_way_J137 F x69_0 x69_1 x69_2 x69_3 x69_4 p1 p2 v4j47 v5j47 0 r2.2.1 r2.2.2.1 r2.2.2.2.1 r2.2.2.2.2.1 r2.2.2.2.2.2.1 r2.2.2.2.2.2.2.1 r2.2.2.2.2.2.2.2.1 r2.2.2.2.2.2.2.2.2.1 r2.2.2.2.2.2.2.2.2.2.1 r2.2.2.2.2.2.2.2.2.2.2.1 r2.2.2.2.2.2.2.2.2.2.2.2.1 r2.2.2.2.2.2.2.2.2.2.2.2.2.1 r2.2.2.2.2.2.2.2.2.2.2.2.2.2.1 r2.2.2.2.2.2.2.2.2.2.2.2.2.2.2.1 r2.2.2.2.2.2.2.2.2.2.2.2.2.2.2.2.1 r2.2.2.2.2.2.2.2.2.2.2.2.2.2.2.2.2.1 r2.2.2.2.2.2.2.2.2.2.2.2.2.2.2.2.2.2 r7 = some X1) (hW : GW D cy (gA N q s.heap.size) N q m a s H) (hS : va_S (gA N q s.heap.size) s.heap H locs), W p l e ({ frames := 8, cells := 0, slots := 0, locals := 188 } : Room) s M args below meth c H locs 0 0 (MQ below (va_Qi (fun (r : Int32) (u : (Nat → Value) × (Nat → vp_A)) => r = X0.1 ∧ u.1 6918 = .int X0.2.1 ∧ u.1 6919 = .long X0.2.2.1 ∧ u.1 6920 = .int X0.2.2.2.1 ∧ u.1 6921 = .int X0.2.2.2.2.1 ∧ u.1 6922 = .int X0.2.2.2.2.2.1 ∧ u.1 6927 = .int X0.2.2.2.2.2.2.1 ∧ u.1 6935 = .int X0.2.2.2.2.2.2.2.1 ∧ (∀ j, nel j [6918, 6919, 6920, 6921, 6922, 6927, 6935] = false → u.1 j = m0 j) ∧ u.2 76 = (40, .inl X0.2.2.2.2.2.2.2.2.1) ∧ u.2 77 = (40, .inl X0.2.2.2.2.2.2.2.2.2.1) ∧ u.2 78 = (40, .inl X0.2.2.2.2.2.2.2.2.2.2.1) ∧ u.2 79 = (6001, .inr (.inl X0.2.2.2.2.2.2.2.2.2.2.2.1)) ∧ u.2 80 = (16384, .inl X0.2.2.2.2.2.2.2.2.2.2.2.2.1) ∧ u.2 81 = (6002, .inl X0.2.2.2.2.2.2.2.2.2.2.2.2.2.1) ∧ u.2 82 = (84000, .inl X0.2.2.2.2.2.2.2.2.2.2.2.2.2.2.1) ∧ u.2 83 = (84000, .inl X0.2.2.2.2.2.2.2.2.2.2.2.2.2.2.2.1) ∧ u.2 84 = (84000, .inl X0.2.2.2.2.2.2.2.2.2.2.2.2.2.2.2.2.1) ∧ u.2 85 = (84000, .inl X0.2.2.2.2.2.2.2.2.2.2.2.2.2.2.2.2.2.1) ∧ u.2 86 = (84000, .inl X0.2.2.2.2.2.2.2.2.2.2.2.2.2.2.2.2.2.2.1) ∧ u.2 97 = (6001, .inl X0.2.2.2.2.2.2.2.2.2.2.2.2.2.2.2.2.2.2.2) ∧ (∀ j, nel j [76, 77, 78, 79, 80, 81, 82, 83, 84, 85, 86, 97] = false → u.2 j = a0 j)) (gB D cy N q s.heap.size) (gA N q s.heap.size)) args s 0 0 (gA N q s.heap.size)) (F0 M 137 ls []) := by
                intro v4j47 v5j47 m a H locs w_x69_18 w_x69_19 w_x69_20 w_x69_21 w_x69_22 w_x69_27 w_x69_35 hoff hsh w_A76 w_A77 w_A78 w_A79 w_A80 w_A81 w_A82 w_A83 w_A84 w_A85 w_A86 w_A97 hoffa ls hl hs1 hW hS
                unfold fX12_way_J137 at hs1
                refine lv_aload_n hx hb dX12_way_137 rfl (lv_at hl 0 rfl) ?_
                refine gf12_30 hx hb hG hown hW (o := 69) (ltN hN 69 rfl) gk69 (v := .ref (q 82)) (sh69_30 hsh) gx179 dX12_way_138 ?_
                refine lv_iload hx hb dX12_way_141 (lv_at hl 3 rfl) ?_
                obtain ⟨hi56, hs1⟩ := oif hs1
                refine g_iald hx hb hW (o := 82) (ltN hN 82 rfl) gk82 w_A82 (vin hi56) dX12_way_143 ?_
                refine lv_istore_n (lv' := [(3, .int (r2.2.2.2.2.2.2.2.2.2.2.2.2.2.1 v4j47.toNatClampNeg)), (0, .ref (q 69)), (1, .int p1), (2, .int p2), (4, .int v4j47), (5, .int v5j47)]) hx hb dX12_way_144 rfl hl (by decide) rfl (fun ls hl => ?_)
                refine lv_iinc (v := v5j47 + 1) (lv' := [(5, .int (v5j47 + 1)), (3, .int (r2.2.2.2.2.2.2.2.2.2.2.2.2.2.1 v4j47.toNatClampNeg)), (0, .ref (q 69)), (1, .int p1), (2, .int p2), (4, .int v4j47)]) hx hb dX12_way_145 hl (k := 5) rfl rfl (by decide) rfl (fun ls hl => ?_)
                refine lv_goto (tgt := 65) hx hb dX12_way_148 (by decide) ?_
                exact ih1 (r2.2.2.2.2.2.2.2.2.2.2.2.2.2.1 v4j47.toNatClampNeg) v4j47 (v5j47 + 1) m a _ _ w_x69_18 w_x69_19 w_x69_20 w_x69_21 w_x69_22 w_x69_27 w_x69_35 hoff hsh w_A76 w_A77 w_A78 w_A79 w_A80 w_A81 w_A82 w_A83 w_A84 w_A85 w_A86 w_A97 hoffa ls (lv_sub hl [2, 3, 4, 1, 5, 0] rfl) (hXr1 _ (Option.some.inj hs1).symm) hW hS
              refine lv_iload hx hb dX12_way_65 (lv_at hl 5 rfl) ?_
              refine lv_iload_n hx hb dX12_way_67 rfl (lv_at hl 1 rfl) ?_
              refine lv_icmp_gt (tgt := 151) hx hb dX12_way_68 (by decide) (fun c36 => ?_) (fun c36 => ?_)
              · rw [if_pos c36] at hs1
                exact hE1_151 v4k9 (hXl1 _ (Option.some.inj hs1).symm) m a _ _ w_x69_18 w_x69_19 w_x69_20 w_x69_21 w_x69_22 w_x69_27 w_x69_35 hoff hsh w_A76 w_A77 w_A78 w_A79 w_A80 w_A81 w_A82 w_A83 w_A84 w_A85 w_A86 w_A97 hoffa ls (lv_sub hl [0, 2, 4] rfl) hW hS
              · rw [if_neg c36] at hs1
                refine lv_aload_n hx hb dX12_way_71 rfl (lv_at hl 0 rfl) ?_
                refine gf12_49 hx hb hG hown hW (o := 69) (ltN hN 69 rfl) gk69 (v := .ref (q 97)) (sh69_49 hsh) gx195 dX12_way_72 ?_
                refine lv_iconst (v := 0) hx hb dX12_way_75 (by decide) ?_
                refine g_iald hx hb hW (o := 97) (ltN hN 97 rfl) gk97 w_A97 (vin (by decide)) dX12_way_76 ?_
                refine lv_iload hx hb dX12_way_77 (lv_at hl 5 rfl) ?_
                refine lv_isub hx hb dX12_way_79 ?_
                refine lv_istore (lv' := [(6, .int ((r7 (0 : Int32).toNatClampNeg) - v5k9)), (0, .ref (q 69)), (1, .int p1), (2, .int p2), (3, .int v3k9), (4, .int v4k9), (5, .int v5k9)]) hx hb dX12_way_80 hl (by decide) rfl (fun ls hl => ?_)
                refine lv_aload_n hx hb dX12_way_82 rfl (lv_at hl 1 rfl) ?_
                refine gf12_29 hx hb hG hown hW (o := 69) (ltN hN 69 rfl) gk69 (v := .ref (q 81)) (sh69_29 hsh) gx177 dX12_way_83 ?_
                refine lv_iload_n hx hb dX12_way_86 rfl (lv_at hl 4 rfl) ?_
                obtain ⟨hi37, hs1⟩ := oif hs1
                refine g_iald hx hb hW (o := 81) (ltN hN 81 rfl) gk81 w_A81 (vin hi37) dX12_way_87 ?_
                refine lv_istore (lv' := [(4, .int (r2.2.2.2.2.2.2.2.2.2.2.2.2.1 v3k9.toNatClampNeg)), (6, .int ((r7 (0 : Int32).toNatClampNeg) - v5k9)), (0, .ref (q 69)), (1, .int p1), (2, .int p2), (3, .int v3k9), (5, .int v5k9)]) hx hb dX12_way_88 hl (by decide) rfl (fun ls hl => ?_)
                obtain ⟨r38, hg38, hs1⟩ := obind hs1
                have hE2_137 : ∀ (t38_137 : Int32) (hr38 : t38_137 = r38) (m : Nat → Value) (a : Nat → vp_A) (H : Heap) (locs : List Loc) (w_x69_18 : m 6918 = .int 0) (w_x69_19 : m 6919 = .long r2.2.1) (w_x69_20 : m 6920 = .int r2.2.2.1) (w_x69_21 : m 6921 = .int r2.2.2.2.1) (w_x69_22 : m 6922 = .int r2.2.2.2.2.1) (w_x69_27 : m 6927 = .int r2.2.2.2.2.2.1) (w_x69_35 : m 6935 = .int r2.2.2.2.2.2.2.1) (hoff : ∀ j, nel j [6918, 6919, 6920, 6921, 6922, 6927, 6935] = false → m j = m0 j) (hsh : SH q m) (w_A76 : a 76 = (40, .inl r2.2.2.2.2.2.2.2.1)) (w_A77 : a 77 = (40, .inl r2.2.2.2.2.2.2.2.2.1)) (w_A78 : a 78 = (40, .inl r2.2.2.2.2.2.2.2.2.2.1)) (w_A79 : a 79 = (6001, .inr (.inl r2.2.2.2.2.2.2.2.2.2.2.1))) (w_A80 : a 80 = (16384, .inl r2.2.2.2.2.2.2.2.2.2.2.2.1)) (w_A81 : a 81 = (6002, .inl r2.2.2.2.2.2.2.2.2.2.2.2.2.1)) (w_A82 : a 82 = (84000, .inl r2.2.2.2.2.2.2.2.2.2.2.2.2.2.1)) (w_A83 : a 83 = (84000, .inl r2.2.2.2.2.2.2.2.2.2.2.2.2.2.2.1)) (w_A84 : a 84 = (84000, .inl r2.2.2.2.2.2.2.2.2.2.2.2.2.2.2.2.1)) (w_A85 : a 85 = (84000, .inl r2.2.2.2.2.2.2.2.2.2.2.2.2.2.2.2.2.1)) (w_A86 : a 86 = (84000, .inl r2.2.2.2.2.2.2.2.2.2.2.2.2.2.2.2.2.2)) (w_A97 : a 97 = (6001, .inl r7)) (hoffa : ∀ j, nel j [76, 77, 78, 79, 80, 81, 82, 83, 84, 85, 86, 97] = false → a j = a0 j) (ls : Array Slot) (hl : lv_has ls 7 [(0, .ref (q 69)), (1, .int p1), (2, .int p2), (4, .int t38_137), (5, .int v5k9)]) (hW : GW D cy (gA N q s.heap.size) N q m a s H) (hS : va_S (gA N q s.heap.size) s.heap H locs), W p l e ({ frames := 8, cells := 0, slots := 0, locals := 188 } : Room) s M args below meth c H locs 0 0 (MQ below (va_Qi (fun (r : Int32) (u : (Nat → Value) × (Nat → vp_A)) => r = X0.1 ∧ u.1 6918 = .int X0.2.1 ∧ u.1 6919 = .long X0.2.2.1 ∧ u.1 6920 = .int X0.2.2.2.1 ∧ u.1 6921 = .int X0.2.2.2.2.1 ∧ u.1 6922 = .int X0.2.2.2.2.2.1 ∧ u.1 6927 = .int X0.2.2.2.2.2.2.1 ∧ u.1 6935 = .int X0.2.2.2.2.2.2.2.1 ∧ (∀ j, nel j [6918, 6919, 6920, 6921, 6922, 6927, 6935] = false → u.1 j = m0 j) ∧ u.2 76 = (40, .inl X0.2.2.2.2.2.2.2.2.1) ∧ u.2 77 = (40, .inl X0.2.2.2.2.2.2.2.2.2.1) ∧ u.2 78 = (40, .inl X0.2.2.2.2.2.2.2.2.2.2.1) ∧ u.2 79 = (6001, .inr (.inl X0.2.2.2.2.2.2.2.2.2.2.2.1)) ∧ u.2 80 = (16384, .inl X0.2.2.2.2.2.2.2.2.2.2.2.2.1) ∧ u.2 81 = (6002, .inl X0.2.2.2.2.2.2.2.2.2.2.2.2.2.1) ∧ u.2 82 = (84000, .inl X0.2.2.2.2.2.2.2.2.2.2.2.2.2.2.1) ∧ u.2 83 = (84000, .inl X0.2.2.2.2.2.2.2.2.2.2.2.2.2.2.2.1) ∧ u.2 84 = (84000, .inl X0.2.2.2.2.2.2.2.2.2.2.2.2.2.2.2.2.1) ∧ u.2 85 = (84000, .inl X0.2.2.2.2.2.2.2.2.2.2.2.2.2.2.2.2.2.1) ∧ u.2 86 = (84000, .inl X0.2.2.2.2.2.2.2.2.2.2.2.2.2.2.2.2.2.2.1) ∧ u.2 97 = (6001, .inl X0.2.2.2.2.2.2.2.2.2.2.2.2.2.2.2.2.2.2.2) ∧ (∀ j, nel j [76, 77, 78, 79, 80, 81, 82, 83, 84, 85, 86, 97] = false → u.2 j = a0 j)) (gB D cy N q s.heap.size) (gA N q s.heap.size)) args s 0 0 (gA N q s.heap.size)) (F0 M 137 ls []) := by
                  intro t38_137 hr38 m a H locs w_x69_18 w_x69_19 w_x69_20 w_x69_21 w_x69_22 w_x69_27 w_x69_35 hoff hsh w_A76 w_A77 w_A78 w_A79 w_A80 w_A81 w_A82 w_A83 w_A84 w_A85 w_A86 w_A97 hoffa ls hl hW hS
                  subst hr38
                  exact hJ137_1 t38_137 v5k9 m a _ _ w_x69_18 w_x69_19 w_x69_20 w_x69_21 w_x69_22 w_x69_27 w_x69_35 hoff hsh w_A76 w_A77 w_A78 w_A79 w_A80 w_A81 w_A82 w_A83 w_A84 w_A85 w_A86 w_A97 hoffa ls (lv_sub hl [0, 1, 2, 3, 4] rfl) hs1 hW hS
                have hL2 : ∀ (n : Nat) (v4k38 : Int32) (m : Nat → Value) (a : Nat → vp_A) (H : Heap) (locs : List Loc) (w_x69_18 : m 6918 = .int 0) (w_x69_19 : m 6919 = .long r2.2.1) (w_x69_20 : m 6920 = .int r2.2.2.1) (w_x69_21 : m 6921 = .int r2.2.2.2.1) (w_x69_22 : m 6922 = .int r2.2.2.2.2.1) (w_x69_27 : m 6927 = .int r2.2.2.2.2.2.1) (w_x69_35 : m 6935 = .int r2.2.2.2.2.2.2.1) (hoff : ∀ j, nel j [6918, 6919, 6920, 6921, 6922, 6927, 6935] = false → m j = m0 j) (hsh : SH q m) (w_A76 : a 76 = (40, .inl r2.2.2.2.2.2.2.2.1)) (w_A77 : a 77 = (40, .inl r2.2.2.2.2.2.2.2.2.1)) (w_A78 : a 78 = (40, .inl r2.2.2.2.2.2.2.2.2.2.1)) (w_A79 : a 79 = (6001, .inr (.inl r2.2.2.2.2.2.2.2.2.2.2.1))) (w_A80 : a 80 = (16384, .inl r2.2.2.2.2.2.2.2.2.2.2.2.1)) (w_A81 : a 81 = (6002, .inl r2.2.2.2.2.2.2.2.2.2.2.2.2.1)) (w_A82 : a 82 = (84000, .inl r2.2.2.2.2.2.2.2.2.2.2.2.2.2.1)) (w_A83 : a 83 = (84000, .inl r2.2.2.2.2.2.2.2.2.2.2.2.2.2.2.1)) (w_A84 : a 84 = (84000, .inl r2.2.2.2.2.2.2.2.2.2.2.2.2.2.2.2.1)) (w_A85 : a 85 = (84000, .inl r2.2.2.2.2.2.2.2.2.2.2.2.2.2.2.2.2.1)) (w_A86 : a 86 = (84000, .inl r2.2.2.2.2.2.2.2.2.2.2.2.2.2.2.2.2.2)) (w_A97 : a 97 = (6001, .inl r7)) (hoffa : ∀ j, nel j [76, 77, 78, 79, 80, 81, 82, 83, 84, 85, 86, 97] = false → a j = a0 j) (ls : Array Slot) (hl : lv_has ls 7 [(0, .ref (q 69)), (1, .int p1), (2, .int p2), (4, .int v4k38), (5, .int v5k9), (6, .int ((r7 (0 : Int32).toNatClampNeg) - v5k9))]) (hg38 : gloop (fun u38 : Int32 => fX12_way_S90 F x69_0 x69_1 x69_2 x69_3 x69_4 p1 p2 v5k9 ((r7 (0 : Int32).toNatClampNeg) - v5k9) 0 r2.2.1 r2.2.2.1 r2.2.2.2.1 r2.2.2.2.2.1 r2.2.2.2.2.2.1 r2.2.2.2.2.2.2.1 r2.2.2.2.2.2.2.2.1 r2.2.2.2.2.2.2.2.2.1 r2.2.2.2.2.2.2.2.2.2.1 r2.2.2.2.2.2.2.2.2.2.2.1 r2.2.2.2.2.2.2.2.2.2.2.2.1 r2.2.2.2.2.2.2.2.2.2.2.2.2.1 r2.2.2.2.2.2.2.2.2.2.2.2.2.2.1 r2.2.2.2.2.2.2.2.2.2.2.2.2.2.2.1 r2.2.2.2.2.2.2.2.2.2.2.2.2.2.2.2.1 r2.2.2.2.2.2.2.2.2.2.2.2.2.2.2.2.2.1 r2.2.2.2.2.2.2.2.2.2.2.2.2.2.2.2.2.2 r7 u38) n v4k38 = some r38) (hW : GW D cy (gA N q s.heap.size) N q m a s H) (hS : va_S (gA N q s.heap.size) s.heap H locs), W p l e ({ frames := 8, cells := 0, slots := 0, locals := 188 } : Room) s M args below meth c H locs 0 0 (MQ below (va_Qi (fun (r : Int32) (u : (Nat → Value) × (Nat → vp_A)) => r = X0.1 ∧ u.1 6918 = .int X0.2.1 ∧ u.1 6919 = .long X0.2.2.1 ∧ u.1 6920 = .int X0.2.2.2.1 ∧ u.1 6921 = .int X0.2.2.2.2.1 ∧ u.1 6922 = .int X0.2.2.2.2.2.1 ∧ u.1 6927 = .int X0.2.2.2.2.2.2.1 ∧ u.1 6935 = .int X0.2.2.2.2.2.2.2.1 ∧ (∀ j, nel j [6918, 6919, 6920, 6921, 6922, 6927, 6935] = false → u.1 j = m0 j) ∧ u.2 76 = (40, .inl X0.2.2.2.2.2.2.2.2.1) ∧ u.2 77 = (40, .inl X0.2.2.2.2.2.2.2.2.2.1) ∧ u.2 78 = (40, .inl X0.2.2.2.2.2.2.2.2.2.2.1) ∧ u.2 79 = (6001, .inr (.inl X0.2.2.2.2.2.2.2.2.2.2.2.1)) ∧ u.2 80 = (16384, .inl X0.2.2.2.2.2.2.2.2.2.2.2.2.1) ∧ u.2 81 = (6002, .inl X0.2.2.2.2.2.2.2.2.2.2.2.2.2.1) ∧ u.2 82 = (84000, .inl X0.2.2.2.2.2.2.2.2.2.2.2.2.2.2.1) ∧ u.2 83 = (84000, .inl X0.2.2.2.2.2.2.2.2.2.2.2.2.2.2.2.1) ∧ u.2 84 = (84000, .inl X0.2.2.2.2.2.2.2.2.2.2.2.2.2.2.2.2.1) ∧ u.2 85 = (84000, .inl X0.2.2.2.2.2.2.2.2.2.2.2.2.2.2.2.2.2.1) ∧ u.2 86 = (84000, .inl X0.2.2.2.2.2.2.2.2.2.2.2.2.2.2.2.2.2.2.1) ∧ u.2 97 = (6001, .inl X0.2.2.2.2.2.2.2.2.2.2.2.2.2.2.2.2.2.2.2) ∧ (∀ j, nel j [76, 77, 78, 79, 80, 81, 82, 83, 84, 85, 86, 97] = false → u.2 j = a0 j)) (gB D cy N q s.heap.size) (gA N q s.heap.size)) args s 0 0 (gA N q s.heap.size)) (F0 M 90 ls []) := by
                  intro n
                  induction n with
                  | zero => intro v4k38 m a H locs w_x69_18 w_x69_19 w_x69_20 w_x69_21 w_x69_22 w_x69_27 w_x69_35 hoff hsh w_A76 w_A77 w_A78 w_A79 w_A80 w_A81 w_A82 w_A83 w_A84 w_A85 w_A86 w_A97 hoffa ls hl hg38 hW hS; exact (gl_zero hg38).elim
                  | succ n ih2 =>
                    intro v4k38 m a H locs w_x69_18 w_x69_19 w_x69_20 w_x69_21 w_x69_22 w_x69_27 w_x69_35 hoff hsh w_A76 w_A77 w_A78 w_A79 w_A80 w_A81 w_A82 w_A83 w_A84 w_A85 w_A86 w_A97 hoffa ls hl hg38 hW hS
                    obtain ⟨X2, hs2, hXl2, hXr2⟩ := gl_succ hg38
                    have hs2 : fX12_way_S90 F x69_0 x69_1 x69_2 x69_3 x69_4 p1 p2 v5k9 ((r7 (0 : Int32).toNatClampNeg) - v5k9) 0 r2.2.1 r2.2.2.1 r2.2.2.2.1 r2.2.2.2.2.1 r2.2.2.2.2.2.1 r2.2.2.2.2.2.2.1 r2.2.2.2.2.2.2.2.1 r2.2.2.2.2.2.2.2.2.1 r2.2.2.2.2.2.2.2.2.2.1 r2.2.2.2.2.2.2.2.2.2.2.1 r2.2.2.2.2.2.2.2.2.2.2.2.1 r2.2.2.2.2.2.2.2.2.2.2.2.2.1 r2.2.2.2.2.2.2.2.2.2.2.2.2.2.1 r2.2.2.2.2.2.2.2.2.2.2.2.2.2.2.1 r2.2.2.2.2.2.2.2.2.2.2.2.2.2.2.2.1 r2.2.2.2.2.2.2.2.2.2.2.2.2.2.2.2.2.1 r2.2.2.2.2.2.2.2.2.2.2.2.2.2.2.2.2.2 r7 v4k38 = some X2 := hs2
                    unfold fX12_way_S90 at hs2
                    have hJ131_2 : ∀ (v4j52 : Int32) (m : Nat → Value) (a : Nat → vp_A) (H : Heap) (locs : List Loc) (w_x69_18 : m 6918 = .int 0) (w_x69_19 : m 6919 = .long r2.2.1) (w_x69_20 : m 6920 = .int r2.2.2.1) (w_x69_21 : m 6921 = .int r2.2.2.2.1) (w_x69_22 : m 6922 = .int r2.2.2.2.2.1) (w_x69_27 : m 6927 = .int r2.2.2.2.2.2.1) (w_x69_35 : m 6935 = .int r2.2.2.2.2.2.2.1) (hoff : ∀ j, nel j [6918, 6919, 6920, 6921, 6922, 6927, 6935] = false → m j = m0 j) (hsh : SH q m) (w_A76 : a 76 = (40, .inl r2.2.2.2.2.2.2.2.1)) (w_A77 : a 77 = (40, .inl r2.2.2.2.2.2.2.2.2.1)) (w_A78 : a 78 = (40, .inl r2.2.2.2.2.2.2.2.2.2.1)) (w_A79 : a 79 = (6001, .inr (.inl r2.2.2.2.2.2.2.2.2.2.2.1))) (w_A80 : a 80 = (16384, .inl r2.2.2.2.2.2.2.2.2.2.2.2.1)) (w_A81 : a 81 = (6002, .inl r2.2.2.2.2.2.2.2.2.2.2.2.2.1)) (w_A82 : a 82 = (84000, .inl r2.2.2.2.2.2.2.2.2.2.2.2.2.2.1)) (w_A83 : a 83 = (84000, .inl r2.2.2.2.2.2.2.2.2.2.2.2.2.2.2.1)) (w_A84 : a 84 = (84000, .inl r2.2.2.2.2.2.2.2.2.2.2.2.2.2.2.2.1)) (w_A85 : a 85 = (84000, .inl r2.2.2.2.2.2.2.2.2.2.2.2.2.2.2.2.2.1)) (w_A86 : a 86 = (84000, .inl r2.2.2.2.2.2.2.2.2.2.2.2.2.2.2.2.2.2)) (w_A97 : a 97 = (6001, .inl r7)) (hoffa : ∀ j, nel j [76, 77, 78, 79, 80, 81, 82, 83, 84, 85, 86, 97] = false → a j = a0 j) (ls : Array Slot) (hl : lv_has ls 7 [(0, .ref (q 69)), (1, .int p1), (2, .int p2), (4, .int v4j52), (5, .int v5k9), (6, .int ((r7 (0 : Int32).toNatClampNeg) - v5k9))]) (hs2 : fX12_way_J131 F x69_0 x69_1 x69_2 x69_3 x69_4 p1 p2 v4j52 v5k9 ((r7 (0 : Int32).toNatClampNeg) - v5k9) 0 r2.2.1 r2.2.2.1 r2.2.2.2.1 r2.2.2.2.2.1 r2.2.2.2.2.2.1 r2.2.2.2.2.2.2.1 r2.2.2.2.2.2.2.2.1 r2.2.2.2.2.2.2.2.2.1 r2.2.2.2.2.2.2.2.2.2.1 r2.2.2.2.2.2.2.2.2.2.2.1 r2.2.2.2.2.2.2.2.2.2.2.2.1 r2.2.2.2.2.2.2.2.2.2.2.2.2.1 r2.2.2.2.2.2.2.2.2.2.2.2.2.2.1 r2.2.2.2.2.2.2.2.2.2.2.2.2.2.2.1 r2.2.2.2.2.2.2.2.2.2.2.2.2.2.2.2.1 r2.2.2.2.2.2.2.2.2.2.2.2.2.2.2.2.2.1 r2.2.2.2.2.2.2.2.2.2.2.2.2.2.2.2.2.2 r7 = some X2) (hW : GW D cy (gA N q s.heap.size) N q m a s H) (hS : va_S (gA N q s.heap.size) s.heap H locs), W p l e ({ frames := 8, cells := 0, slots := 0, locals := 188 } : Room) s M args below meth c H locs 0 0 (MQ below (va_Qi (fun (r : Int32) (u : (Nat → Value) × (Nat → vp_A)) => r = X0.1 ∧ u.1 6918 = .int X0.2.1 ∧ u.1 6919 = .long X0.2.2.1 ∧ u.1 6920 = .int X0.2.2.2.1 ∧ u.1 6921 = .int X0.2.2.2.2.1 ∧ u.1 6922 = .int X0.2.2.2.2.2.1 ∧ u.1 6927 = .int X0.2.2.2.2.2.2.1 ∧ u.1 6935 = .int X0.2.2.2.2.2.2.2.1 ∧ (∀ j, nel j [6918, 6919, 6920, 6921, 6922, 6927, 6935] = false → u.1 j = m0 j) ∧ u.2 76 = (40, .inl X0.2.2.2.2.2.2.2.2.1) ∧ u.2 77 = (40, .inl X0.2.2.2.2.2.2.2.2.2.1) ∧ u.2 78 = (40, .inl X0.2.2.2.2.2.2.2.2.2.2.1) ∧ u.2 79 = (6001, .inr (.inl X0.2.2.2.2.2.2.2.2.2.2.2.1)) ∧ u.2 80 = (16384, .inl X0.2.2.2.2.2.2.2.2.2.2.2.2.1) ∧ u.2 81 = (6002, .inl X0.2.2.2.2.2.2.2.2.2.2.2.2.2.1) ∧ u.2 82 = (84000, .inl X0.2.2.2.2.2.2.2.2.2.2.2.2.2.2.1) ∧ u.2 83 = (84000, .inl X0.2.2.2.2.2.2.2.2.2.2.2.2.2.2.2.1) ∧ u.2 84 = (84000, .inl X0.2.2.2.2.2.2.2.2.2.2.2.2.2.2.2.2.1) ∧ u.2 85 = (84000, .inl X0.2.2.2.2.2.2.2.2.2.2.2.2.2.2.2.2.2.1) ∧ u.2 86 = (84000, .inl X0.2.2.2.2.2.2.2.2.2.2.2.2.2.2.2.2.2.2.1) ∧ u.2 97 = (6001, .inl X0.2.2.2.2.2.2.2.2.2.2.2.2.2.2.2.2.2.2.2) ∧ (∀ j, nel j [76, 77, 78, 79, 80, 81, 82, 83, 84, 85, 86, 97] = false → u.2 j = a0 j)) (gB D cy N q s.heap.size) (gA N q s.heap.size)) args s 0 0 (gA N q s.heap.size)) (F0 M 131 ls []) := by
                      intro v4j52 m a H locs w_x69_18 w_x69_19 w_x69_20 w_x69_21 w_x69_22 w_x69_27 w_x69_35 hoff hsh w_A76 w_A77 w_A78 w_A79 w_A80 w_A81 w_A82 w_A83 w_A84 w_A85 w_A86 w_A97 hoffa ls hl hs2 hW hS
                      unfold fX12_way_J131 at hs2
                      refine lv_iinc (v := v4j52 + 1) (lv' := [(4, .int (v4j52 + 1)), (0, .ref (q 69)), (1, .int p1), (2, .int p2), (5, .int v5k9), (6, .int ((r7 (0 : Int32).toNatClampNeg) - v5k9))]) hx hb dX12_way_131 hl (k := 3) rfl rfl (by decide) rfl (fun ls hl => ?_)
                      refine lv_goto (tgt := 90) hx hb dX12_way_134 (by decide) ?_
                      exact ih2 (v4j52 + 1) m a _ _ w_x69_18 w_x69_19 w_x69_20 w_x69_21 w_x69_22 w_x69_27 w_x69_35 hoff hsh w_A76 w_A77 w_A78 w_A79 w_A80 w_A81 w_A82 w_A83 w_A84 w_A85 w_A86 w_A97 hoffa ls (lv_sub hl [1, 2, 3, 0, 4, 5] rfl) (hXr2 _ (Option.some.inj hs2).symm) hW hS
                    refine lv_iload hx hb dX12_way_90 (lv_at hl 5 rfl) ?_
                    refine lv_iconst (v := 1) hx hb dX12_way_92 (by decide) ?_
                    refine lv_icmp_ne (tgt := 112) hx hb dX12_way_93 (by decide) (fun c48 => ?_) (fun c48 => ?_)
                    · rw [if_neg c48] at hs2
                      refine lv_aload_n hx hb dX12_way_112 rfl (lv_at hl 0 rfl) ?_
                      refine gf12_49 hx hb hG hown hW (o := 69) (ltN hN 69 rfl) gk69 (v := .ref (q 97)) (sh69_49 hsh) gx195 dX12_way_113 ?_
                      refine lv_aload_n hx hb dX12_way_116 rfl (lv_at hl 0 rfl) ?_
                      refine gf12_30 hx hb hG hown hW (o := 69) (ltN hN 69 rfl) gk69 (v := .ref (q 82)) (sh69_30 hsh) gx179 dX12_way_117 ?_
                      refine lv_iload hx hb dX12_way_120 (lv_at hl 3 rfl) ?_
                      obtain ⟨hi49, hs2⟩ := oif hs2
                      refine g_iald hx hb hW (o := 82) (ltN hN 82 rfl) gk82 w_A82 (vin hi49) dX12_way_122 ?_
                      obtain ⟨hi50, hs2⟩ := oif hs2
                      refine g_iald hx hb hW (o := 97) (ltN hN 97 rfl) gk97 w_A97 (vin hi50) dX12_way_123 ?_
                      refine lv_iload hx hb dX12_way_124 (lv_at hl 5 rfl) ?_
                      refine lv_iconst (v := 1) hx hb dX12_way_126 (by decide) ?_
                      refine lv_isub hx hb dX12_way_127 ?_
                      refine lv_icmp_eq (tgt := 137) hx hb dX12_way_128 (by decide) (fun c51 => ?_) (fun c51 => ?_)
                      · rw [if_pos c51] at hs2
                        exact hE2_137 v4k38 (hXl2 _ (Option.some.inj hs2).symm) m a _ _ w_x69_18 w_x69_19 w_x69_20 w_x69_21 w_x69_22 w_x69_27 w_x69_35 hoff hsh w_A76 w_A77 w_A78 w_A79 w_A80 w_A81 w_A82 w_A83 w_A84 w_A85 w_A86 w_A97 hoffa ls (lv_sub hl [0, 1, 2, 3, 4] rfl) hW hS
                      · rw [if_neg c51] at hs2
                        exact hJ131_2 v4k38 m a _ _ w_x69_18 w_x69_19 w_x69_20 w_x69_21 w_x69_22 w_x69_27 w_x69_35 hoff hsh w_A76 w_A77 w_A78 w_A79 w_A80 w_A81 w_A82 w_A83 w_A84 w_A85 w_A86 w_A97 hoffa ls (lv_sub hl [0, 1, 2, 3, 4, 5] rfl) hs2 hW hS
                    · rw [if_pos c48] at hs2
                      refine lv_aload_n hx hb dX12_way_96 rfl (lv_at hl 0 rfl) ?_
                      refine gf12_31 hx hb hG hown hW (o := 69) (ltN hN 69 rfl) gk69 (v := .ref (q 83)) (sh69_31 hsh) gx180 dX12_way_97 ?_
                      refine lv_iload hx hb dX12_way_100 (lv_at hl 3 rfl) ?_
                      obtain ⟨hi53, hs2⟩ := oif hs2
                      refine g_iald hx hb hW (o := 83) (ltN hN 83 rfl) gk83 w_A83 (vin hi53) dX12_way_102 ?_
                      refine g_SiR (n := 1) hx hb hml hown hG hW hS [.int (r2.2.2.2.2.2.2.2.2.2.2.2.2.2.2.1 v4k38.toNatClampNeg)] (kX12_isBad hN (r2.2.2.2.2.2.2.2.2.2.2.2.2.2.2.1 v4k38.toNatClampNeg)) rfl (gd_S gx584 gx585 gx5 gx586) rfl rfl (by decide) ⟨Nat.le_of_ble_eq_true rfl, Nat.le_of_ble_eq_true rfl⟩ rfl hl (Nat.le_of_ble_eq_true rfl) ⟨Nat.zero_le _, Nat.zero_le _⟩ dX12_way_103 (fun H locs hW hS => ?_)
                      refine lv_if_ne (tgt := 137) hx hb dX12_way_106 (by decide) (fun c55 => ?_) (fun c55 => ?_)
                      · rw [if_neg c55] at hs2
                        exact hE2_137 v4k38 (hXl2 _ (Option.some.inj hs2).symm) m a _ _ w_x69_18 w_x69_19 w_x69_20 w_x69_21 w_x69_22 w_x69_27 w_x69_35 hoff hsh w_A76 w_A77 w_A78 w_A79 w_A80 w_A81 w_A82 w_A83 w_A84 w_A85 w_A86 w_A97 hoffa ls (lv_sub hl [0, 1, 2, 3, 4] rfl) hW hS
                      · rw [if_pos c55] at hs2
                        refine lv_goto (tgt := 131) hx hb dX12_way_109 (by decide) ?_
                        exact hJ131_2 v4k38 m a _ _ w_x69_18 w_x69_19 w_x69_20 w_x69_21 w_x69_22 w_x69_27 w_x69_35 hoff hsh w_A76 w_A77 w_A78 w_A79 w_A80 w_A81 w_A82 w_A83 w_A84 w_A85 w_A86 w_A97 hoffa ls (lv_sub hl [0, 1, 2, 3, 4, 5] rfl) hs2 hW hS
                exact hL2 F (r2.2.2.2.2.2.2.2.2.2.2.2.2.1 v3k9.toNatClampNeg) m a _ _ w_x69_18 w_x69_19 w_x69_20 w_x69_21 w_x69_22 w_x69_27 w_x69_35 hoff hsh w_A76 w_A77 w_A78 w_A79 w_A80 w_A81 w_A82 w_A83 w_A84 w_A85 w_A86 w_A97 hoffa ls (lv_sub hl [2, 3, 4, 0, 6, 1] rfl) hg38 hW hS
          exact hL1 F 0 0 0 m2 a7 _ _ w_x69_18 w_x69_19 w_x69_20 w_x69_21 w_x69_22 w_x69_27 w_x69_35 hoff hsh w_A76 w_A77 w_A78 w_A79 w_A80 w_A81 w_A82 w_A83 w_A84 w_A85 w_A86 w_A97 hoffa ls (lv_sub hl [3, 4, 5, 2, 1, 0] rfl) hg9 hW hS
        · rw [if_neg c8] at hs0
          refine lv_bipush (v := (-2)) hx hb dX12_way_54 (by decide) ?_
          have hs0 := Option.some.inj hs0
          subst hs0
          exact W.zret hx hb hr rfl (fun t ht hw => ⟨⟨_, (m2, a7), rfl, ⟨rfl, w_x69_18, w_x69_19, w_x69_20, w_x69_21, w_x69_22, w_x69_27, w_x69_35, hoff, w_A76, w_A77, w_A78, w_A79, w_A80, w_A81, w_A82, w_A83, w_A84, w_A85, w_A86, w_A97, hoffa⟩, g_end hW ht hw⟩, hS.F ht⟩) hS.2.2 dX12_way_56 hlocks
      · rw [if_pos c6] at hs0
        refine lv_bipush (v := (-2)) hx hb dX12_way_36 (by decide) ?_
        have hs0 := Option.some.inj hs0
        subst hs0
        exact W.zret hx hb hr rfl (fun t ht hw => ⟨⟨_, (m2, a2), rfl, ⟨rfl, w_x69_18, w_x69_19, w_x69_20, w_x69_21, w_x69_22, w_x69_27, w_x69_35, hoff, w_A76, w_A77, w_A78, w_A79, w_A80, w_A81, w_A82, w_A83, w_A84, w_A85, w_A86, w_A97, hoffa⟩, g_end hW ht hw⟩, hS.F ht⟩) hS.2.2 dX12_way_38 hlocks
  · rw [if_pos c3] at hs0
    refine lv_bipush (v := (-3)) hx hb dX12_way_20 (by decide) ?_
    have hs0 := Option.some.inj hs0
    subst hs0
    exact W.zret hx hb hr rfl (fun t ht hw => ⟨⟨_, (m2, a2), rfl, ⟨rfl, w_x69_18, w_x69_19, w_x69_20, w_x69_21, w_x69_22, w_x69_27, w_x69_35, hoff, w_A76, w_A77, w_A78, w_A79, w_A80, w_A81, w_A82, w_A83, w_A84, w_A85, w_A86, w_A97, hoffa⟩, g_end hW ht hw⟩, hS.F ht⟩) hS.2.2 dX12_way_22 hlocks
-- HealLinkModel.barren ()I
def fX12_barren_J52 (F : Nat) (x69_0 : Int32) (x69_1 : Int32) (x69_2 : Int32) (x69_3 : Int32) (x69_4 : Int64) (v1j9 : Int32) (v2j9 : Int32) (x69_18 : Int32) (x69_19 : Int64) (x69_20 : Int32) (x69_21 : Int32) (x69_22 : Int32) (x69_27 : Int32) (x69_35 : Int32) (A76 : Nat → Int32) (A77 : Nat → Int32) (A78 : Nat → Int32) (A79 : Nat → Int64) (A80 : Nat → Int32) (A81 : Nat → Int32) (A82 : Nat → Int32) (A83 : Nat → Int32) (A84 : Nat → Int32) (A85 : Nat → Int32) (A86 : Nat → Int32) (A97 : Nat → Int32) : Option ((Int32) ⊕ (Int32 × Int32)) := some (Sum.inr (v1j9, v2j9 + 1))
def fX12_barren_S32 (F : Nat) (x69_0 : Int32) (x69_1 : Int32) (x69_2 : Int32) (x69_3 : Int32) (x69_4 : Int64) (x69_18 : Int32) (x69_19 : Int64) (x69_20 : Int32) (x69_21 : Int32) (x69_22 : Int32) (x69_27 : Int32) (x69_35 : Int32) (A76 : Nat → Int32) (A77 : Nat → Int32) (A78 : Nat → Int32) (A79 : Nat → Int64) (A80 : Nat → Int32) (A81 : Nat → Int32) (A82 : Nat → Int32) (A83 : Nat → Int32) (A84 : Nat → Int32) (A85 : Nat → Int32) (A86 : Nat → Int32) (A97 : Nat → Int32) (v1 : Int32) (v2 : Int32) : Option ((Int32) ⊕ (Int32 × Int32)) := (if x69_27 ≤ v2 then some (Sum.inl v1) else (if inb v2 6001 = true then (if 0 ≤ (A97 v2.toNatClampNeg) then fX12_barren_J52 F x69_0 x69_1 x69_2 x69_3 x69_4 v1 v2 x69_18 x69_19 x69_20 x69_21 x69_22 x69_27 x69_35 A76 A77 A78 A79 A80 A81 A82 A83 A84 A85 A86 A97 else fX12_barren_J52 F x69_0 x69_1 x69_2 x69_3 x69_4 (v1 + 1) v2 x69_18 x69_19 x69_20 x69_21 x69_22 x69_27 x69_35 A76 A77 A78 A79 A80 A81 A82 A83 A84 A85 A86 A97) else none))
def fX12_barren (F : Nat) (x69_0 : Int32) (x69_1 : Int32) (x69_2 : Int32) (x69_3 : Int32) (x69_4 : Int64) (x69_18 : Int32) (x69_19 : Int64) (x69_20 : Int32) (x69_21 : Int32) (x69_22 : Int32) (x69_27 : Int32) (x69_35 : Int32) (A76 : Nat → Int32) (A77 : Nat → Int32) (A78 : Nat → Int32) (A79 : Nat → Int64) (A80 : Nat → Int32) (A81 : Nat → Int32) (A82 : Nat → Int32) (A83 : Nat → Int32) (A84 : Nat → Int32) (A85 : Nat → Int32) (A86 : Nat → Int32) (A97 : Nat → Int32) : Option (Int32 × Int32 × Int64 × Int32 × Int32 × Int32 × Int32 × Int32 × (Nat → Int32) × (Nat → Int32) × (Nat → Int32) × (Nat → Int64) × (Nat → Int32) × (Nat → Int32) × (Nat → Int32) × (Nat → Int32) × (Nat → Int32) × (Nat → Int32) × (Nat → Int32) × (Nat → Int32)) := ((fX12_reaches F x69_0 x69_1 x69_3 x69_19 x69_20 x69_21 x69_22 x69_27 x69_35 A76 A77 A78 A79 A80 A81 A82 A83 A84 A85 A86 x69_4 x69_2).bind (fun r2 => (if r2.1 = 0 then some ((-3), 0, r2.2.1, r2.2.2.1, r2.2.2.2.1, r2.2.2.2.2.1, r2.2.2.2.2.2.1, r2.2.2.2.2.2.2.1, r2.2.2.2.2.2.2.2.1, r2.2.2.2.2.2.2.2.2.1, r2.2.2.2.2.2.2.2.2.2.1, r2.2.2.2.2.2.2.2.2.2.2.1, r2.2.2.2.2.2.2.2.2.2.2.2.1, r2.2.2.2.2.2.2.2.2.2.2.2.2.1, r2.2.2.2.2.2.2.2.2.2.2.2.2.2.1, r2.2.2.2.2.2.2.2.2.2.2.2.2.2.2.1, r2.2.2.2.2.2.2.2.2.2.2.2.2.2.2.2.1, r2.2.2.2.2.2.2.2.2.2.2.2.2.2.2.2.2.1, r2.2.2.2.2.2.2.2.2.2.2.2.2.2.2.2.2.2, A97) else ((fX12_laysFar F r2.2.2.2.2.2.1 r2.2.2.2.2.2.2.2.2.2.2.2.2.1 r2.2.2.2.2.2.2.2.2.2.2.2.2.2.1 r2.2.2.2.2.2.2.2.2.2.2.2.2.2.2.1 A97 0).bind (fun r4 => (gloop (fun u5 : (Int32 × Int32) => fX12_barren_S32 F x69_0 x69_1 x69_2 x69_3 x69_4 0 r2.2.1 r2.2.2.1 r2.2.2.2.1 r2.2.2.2.2.1 r2.2.2.2.2.2.1 r2.2.2.2.2.2.2.1 r2.2.2.2.2.2.2.2.1 r2.2.2.2.2.2.2.2.2.1 r2.2.2.2.2.2.2.2.2.2.1 r2.2.2.2.2.2.2.2.2.2.2.1 r2.2.2.2.2.2.2.2.2.2.2.2.1 r2.2.2.2.2.2.2.2.2.2.2.2.2.1 r2.2.2.2.2.2.2.2.2.2.2.2.2.2.1 r2.2.2.2.2.2.2.2.2.2.2.2.2.2.2.1 r2.2.2.2.2.2.2.2.2.2.2.2.2.2.2.2.1 r2.2.2.2.2.2.2.2.2.2.2.2.2.2.2.2.2.1 r2.2.2.2.2.2.2.2.2.2.2.2.2.2.2.2.2.2 r4 u5.1 u5.2) F (0, 0)).bind (fun t5_58 => some (t5_58, 0, r2.2.1, r2.2.2.1, r2.2.2.2.1, r2.2.2.2.2.1, r2.2.2.2.2.2.1, r2.2.2.2.2.2.2.1, r2.2.2.2.2.2.2.2.1, r2.2.2.2.2.2.2.2.2.1, r2.2.2.2.2.2.2.2.2.2.1, r2.2.2.2.2.2.2.2.2.2.2.1, r2.2.2.2.2.2.2.2.2.2.2.2.1, r2.2.2.2.2.2.2.2.2.2.2.2.2.1, r2.2.2.2.2.2.2.2.2.2.2.2.2.2.1, r2.2.2.2.2.2.2.2.2.2.2.2.2.2.2.1, r2.2.2.2.2.2.2.2.2.2.2.2.2.2.2.2.1, r2.2.2.2.2.2.2.2.2.2.2.2.2.2.2.2.2.1, r2.2.2.2.2.2.2.2.2.2.2.2.2.2.2.2.2.2, r4)))))))
theorem dX12_barren_0 : decode cX12_barren 0 = .ok (.aload_n 0, 1) := by decide +kernel
theorem dX12_barren_1 : decode cX12_barren 1 = .ok (.iconst 0, 1) := by decide +kernel
theorem dX12_barren_2 : decode cX12_barren 2 = .ok (.putfield 137, 3) := by decide +kernel
theorem dX12_barren_5 : decode cX12_barren 5 = .ok (.aload_n 0, 1) := by decide +kernel
theorem dX12_barren_6 : decode cX12_barren 6 = .ok (.aload_n 0, 1) := by decide +kernel
theorem dX12_barren_7 : decode cX12_barren 7 = .ok (.getfield 133, 3) := by decide +kernel
theorem dX12_barren_10 : decode cX12_barren 10 = .ok (.aload_n 0, 1) := by decide +kernel
theorem dX12_barren_11 : decode cX12_barren 11 = .ok (.getfield 16, 3) := by decide +kernel
theorem dX12_barren_14 : decode cX12_barren 14 = .ok (.invokevirtual 278, 3) := by decide +kernel
theorem dX12_barren_17 : decode cX12_barren 17 = .ok (.ifCond .ne 6, 3) := by decide +kernel
theorem dX12_barren_20 : decode cX12_barren 20 = .ok (.bipush (-3), 2) := by decide +kernel
theorem dX12_barren_22 : decode cX12_barren 22 = .ok (.ireturn, 1) := by decide +kernel
theorem dX12_barren_23 : decode cX12_barren 23 = .ok (.aload_n 0, 1) := by decide +kernel
theorem dX12_barren_24 : decode cX12_barren 24 = .ok (.iconst 0, 1) := by decide +kernel
theorem dX12_barren_25 : decode cX12_barren 25 = .ok (.invokevirtual 318, 3) := by decide +kernel
theorem dX12_barren_28 : decode cX12_barren 28 = .ok (.iconst 0, 1) := by decide +kernel
theorem dX12_barren_29 : decode cX12_barren 29 = .ok (.istore_n 1, 1) := by decide +kernel
theorem dX12_barren_30 : decode cX12_barren 30 = .ok (.iconst 0, 1) := by decide +kernel
theorem dX12_barren_31 : decode cX12_barren 31 = .ok (.istore_n 2, 1) := by decide +kernel
theorem dX12_barren_32 : decode cX12_barren 32 = .ok (.iload_n 2, 1) := by decide +kernel
theorem dX12_barren_33 : decode cX12_barren 33 = .ok (.aload_n 0, 1) := by decide +kernel
theorem dX12_barren_34 : decode cX12_barren 34 = .ok (.getfield 255, 3) := by decide +kernel
theorem dX12_barren_37 : decode cX12_barren 37 = .ok (.if_icmp .ge 21, 3) := by decide +kernel
theorem dX12_barren_40 : decode cX12_barren 40 = .ok (.aload_n 0, 1) := by decide +kernel
theorem dX12_barren_41 : decode cX12_barren 41 = .ok (.getfield 107, 3) := by decide +kernel
theorem dX12_barren_44 : decode cX12_barren 44 = .ok (.iload_n 2, 1) := by decide +kernel
theorem dX12_barren_45 : decode cX12_barren 45 = .ok (.iaload, 1) := by decide +kernel
theorem dX12_barren_46 : decode cX12_barren 46 = .ok (.ifCond .ge 6, 3) := by decide +kernel
theorem dX12_barren_49 : decode cX12_barren 49 = .ok (.iinc 1 1, 3) := by decide +kernel
theorem dX12_barren_52 : decode cX12_barren 52 = .ok (.iinc 2 1, 3) := by decide +kernel
theorem dX12_barren_55 : decode cX12_barren 55 = .ok (.goto (-23), 3) := by decide +kernel
theorem dX12_barren_58 : decode cX12_barren 58 = .ok (.iload_n 1, 1) := by decide +kernel
theorem dX12_barren_59 : decode cX12_barren 59 = .ok (.ireturn, 1) := by decide +kernel
set_option maxHeartbeats 4000000 in
set_option maxRecDepth 100000 in
theorem kX12_barren {l : Launch} {D : va_G} {cy : Nat → ClassId} {N : Nat} {q : Nat → Nat} {m0 : Nat → Value} {a0 : Nat → vp_A} {sz : Nat} (hN : 105 ≤ N) (hsh : SH q m0) {x69_0 : Int32} (h_x69_0 : m0 6900 = .int x69_0) {x69_1 : Int32} (h_x69_1 : m0 6901 = .int x69_1) {x69_2 : Int32} (h_x69_2 : m0 6902 = .int x69_2) {x69_3 : Int32} (h_x69_3 : m0 6903 = .int x69_3) {x69_4 : Int64} (h_x69_4 : m0 6904 = .long x69_4) {x69_18 : Int32} (h_x69_18 : m0 6918 = .int x69_18) {x69_19 : Int64} (h_x69_19 : m0 6919 = .long x69_19) {x69_20 : Int32} (h_x69_20 : m0 6920 = .int x69_20) {x69_21 : Int32} (h_x69_21 : m0 6921 = .int x69_21) {x69_22 : Int32} (h_x69_22 : m0 6922 = .int x69_22) {x69_27 : Int32} (h_x69_27 : m0 6927 = .int x69_27) {x69_35 : Int32} (h_x69_35 : m0 6935 = .int x69_35) {A76 : Nat → Int32} (h_A76 : a0 76 = (40, .inl A76)) {A77 : Nat → Int32} (h_A77 : a0 77 = (40, .inl A77)) {A78 : Nat → Int32} (h_A78 : a0 78 = (40, .inl A78)) {A79 : Nat → Int64} (h_A79 : a0 79 = (6001, .inr (.inl A79))) {A80 : Nat → Int32} (h_A80 : a0 80 = (16384, .inl A80)) {A81 : Nat → Int32} (h_A81 : a0 81 = (6002, .inl A81)) {A82 : Nat → Int32} (h_A82 : a0 82 = (84000, .inl A82)) {A83 : Nat → Int32} (h_A83 : a0 83 = (84000, .inl A83)) {A84 : Nat → Int32} (h_A84 : a0 84 = (84000, .inl A84)) {A85 : Nat → Int32} (h_A85 : a0 85 = (84000, .inl A85)) {A86 : Nat → Int32} (h_A86 : a0 86 = (84000, .inl A86)) {A97 : Nat → Int32} (h_A97 : a0 97 = (6001, .inl A97)) (F : Nat) {X0 : Int32 × Int32 × Int64 × Int32 × Int32 × Int32 × Int32 × Int32 × (Nat → Int32) × (Nat → Int32) × (Nat → Int32) × (Nat → Int64) × (Nat → Int32) × (Nat → Int32) × (Nat → Int32) × (Nat → Int32) × (Nat → Int32) × (Nat → Int32) × (Nat → Int32) × (Nat → Int32)} (hs0 : fX12_barren F x69_0 x69_1 x69_2 x69_3 x69_4 x69_18 x69_19 x69_20 x69_21 x69_22 x69_27 x69_35 A76 A77 A78 A79 A80 A81 A82 A83 A84 A85 A86 A97 = some X0) : gMi l yX12_barren cX12_barren 3 (some .int) ({ frames := 8, cells := 0, slots := 0, locals := 188 } : Room) D cy N q m0 a0 sz [.ref (q 69)] (fun r m' a' => r = X0.1 ∧ m' 6918 = .int X0.2.1 ∧ m' 6919 = .long X0.2.2.1 ∧ m' 6920 = .int X0.2.2.2.1 ∧ m' 6921 = .int X0.2.2.2.2.1 ∧ m' 6922 = .int X0.2.2.2.2.2.1 ∧ m' 6927 = .int X0.2.2.2.2.2.2.1 ∧ m' 6935 = .int X0.2.2.2.2.2.2.2.1 ∧ (∀ j, nel j [6918, 6919, 6920, 6921, 6922, 6927, 6935] = false → m' j = m0 j) ∧ a' 76 = (40, .inl X0.2.2.2.2.2.2.2.2.1) ∧ a' 77 = (40, .inl X0.2.2.2.2.2.2.2.2.2.1) ∧ a' 78 = (40, .inl X0.2.2.2.2.2.2.2.2.2.2.1) ∧ a' 79 = (6001, .inr (.inl X0.2.2.2.2.2.2.2.2.2.2.2.1)) ∧ a' 80 = (16384, .inl X0.2.2.2.2.2.2.2.2.2.2.2.2.1) ∧ a' 81 = (6002, .inl X0.2.2.2.2.2.2.2.2.2.2.2.2.2.1) ∧ a' 82 = (84000, .inl X0.2.2.2.2.2.2.2.2.2.2.2.2.2.2.1) ∧ a' 83 = (84000, .inl X0.2.2.2.2.2.2.2.2.2.2.2.2.2.2.2.1) ∧ a' 84 = (84000, .inl X0.2.2.2.2.2.2.2.2.2.2.2.2.2.2.2.2.1) ∧ a' 85 = (84000, .inl X0.2.2.2.2.2.2.2.2.2.2.2.2.2.2.2.2.2.1) ∧ a' 86 = (84000, .inl X0.2.2.2.2.2.2.2.2.2.2.2.2.2.2.2.2.2.2.1) ∧ a' 97 = (6001, .inl X0.2.2.2.2.2.2.2.2.2.2.2.2.2.2.2.2.2.2.2) ∧ (∀ j, nel j [76, 77, 78, 79, 80, 81, 82, 83, 84, 85, 86, 97] = false → a' j = a0 j)) := by
  refine g_ofi (by decide) (Nat.le_of_ble_eq_true rfl) ?_
  intro p e s M args below meth c hx hb hr hG hown hin hlocks hml hW hS ls hl
  unfold fX12_barren at hs0
  have hoff : ∀ j, nel j [6918, 6919, 6920, 6921, 6922, 6927, 6935] = false → m0 j = m0 j := off0
  have hoffa : ∀ j, nel j [76, 77, 78, 79, 80, 81, 82, 83, 84, 85, 86, 97] = false → a0 j = a0 j := off0
  refine lv_aload_n hx hb dX12_barren_0 rfl (lv_at hl 0 rfl) ?_
  refine lv_iconst (v := 0) hx hb dX12_barren_1 (by decide) ?_
  refine gp12_18 hx hb hG hown hW hS (o := 69) (ltN hN 69 rfl) gk69 (v := 0) gx246 dX12_barren_2 (fun m1 H locs hm1 ho1 hW hS => ?_)
  have ho1 := off1 ho1
  have w_x69_18 : m1 6918 = .int 0 := hm1
  have w_x69_19 : m1 6919 = .long x69_19 := (ho1 6919 rfl).trans h_x69_19
  have w_x69_20 : m1 6920 = .int x69_20 := (ho1 6920 rfl).trans h_x69_20
  have w_x69_21 : m1 6921 = .int x69_21 := (ho1 6921 rfl).trans h_x69_21
  have w_x69_22 : m1 6922 = .int x69_22 := (ho1 6922 rfl).trans h_x69_22
  have w_x69_27 : m1 6927 = .int x69_27 := (ho1 6927 rfl).trans h_x69_27
  have w_x69_35 : m1 6935 = .int x69_35 := (ho1 6935 rfl).trans h_x69_35
  have hoff := offm hoff ho1 (by decide +kernel)
  have hsh := SH.off hsh ho1 (by decide +kernel)
  refine lv_aload_n hx hb dX12_barren_5 rfl (lv_at hl 0 rfl) ?_
  refine lv_aload_n hx hb dX12_barren_6 rfl (lv_at hl 0 rfl) ?_
  refine gf12_4 hx hb hG hown hW (o := 69) (ltN hN 69 rfl) gk69 (v := .long x69_4) ((hoff 6904 rfl).trans h_x69_4) gx202 dX12_barren_7 ?_
  refine lv_aload_n hx hb dX12_barren_10 rfl (lv_at hl 0 rfl) ?_
  refine gf12_2 hx hb hG hown hW (o := 69) (ltN hN 69 rfl) gk69 (v := .int x69_2) ((hoff 6902 rfl).trans h_x69_2) gx164 dX12_barren_11 ?_
  obtain ⟨r2, hf2, hs0⟩ := obind hs0
  refine g_Vi (n := 2) hx hb hml hown hG hW hS [.long x69_4, .int x69_2] (kX12_reaches hN hsh ((hoff 6900 rfl).trans h_x69_0) ((hoff 6901 rfl).trans h_x69_1) ((hoff 6903 rfl).trans h_x69_3) w_x69_19 w_x69_20 w_x69_21 w_x69_22 w_x69_27 w_x69_35 h_A76 h_A77 h_A78 h_A79 h_A80 h_A81 h_A82 h_A83 h_A84 h_A85 h_A86 F x69_4 x69_2 hf2) (ltN hN 69 rfl) gk69 (by decide) rfl rfl (gd_V gx714 gx715 gx716 gx5 gx717) rfl rfl (by decide) ⟨Nat.le_of_ble_eq_true rfl, Nat.le_of_ble_eq_true rfl⟩ rfl hl (Nat.le_of_ble_eq_true rfl) ⟨Nat.zero_le _, Nat.zero_le _⟩ dX12_barren_14 (fun x2 m2 a2 H locs hp2 hW hS => ?_)
  obtain ⟨hx2, hp2_x69_19, hp2_x69_20, hp2_x69_21, hp2_x69_22, hp2_x69_27, hp2_x69_35, ho2, hp2_A76, hp2_A77, hp2_A78, hp2_A79, hp2_A80, hp2_A81, hp2_A82, hp2_A83, hp2_A84, hp2_A85, hp2_A86, hoa2⟩ := hp2
  subst hx2
  have w_x69_18 : m2 6918 = .int 0 := (ho2 6918 rfl).trans w_x69_18
  have w_x69_19 : m2 6919 = .long r2.2.1 := hp2_x69_19
  have w_x69_20 : m2 6920 = .int r2.2.2.1 := hp2_x69_20
  have w_x69_21 : m2 6921 = .int r2.2.2.2.1 := hp2_x69_21
  have w_x69_22 : m2 6922 = .int r2.2.2.2.2.1 := hp2_x69_22
  have w_x69_27 : m2 6927 = .int r2.2.2.2.2.2.1 := hp2_x69_27
  have w_x69_35 : m2 6935 = .int r2.2.2.2.2.2.2.1 := hp2_x69_35
  have hoff := offm hoff ho2 (by decide +kernel)
  have hsh := SH.off hsh ho2 (by decide +kernel)
  have w_A76 : a2 76 = (40, .inl r2.2.2.2.2.2.2.2.1) := hp2_A76
  have w_A77 : a2 77 = (40, .inl r2.2.2.2.2.2.2.2.2.1) := hp2_A77
  have w_A78 : a2 78 = (40, .inl r2.2.2.2.2.2.2.2.2.2.1) := hp2_A78
  have w_A79 : a2 79 = (6001, .inr (.inl r2.2.2.2.2.2.2.2.2.2.2.1)) := hp2_A79
  have w_A80 : a2 80 = (16384, .inl r2.2.2.2.2.2.2.2.2.2.2.2.1) := hp2_A80
  have w_A81 : a2 81 = (6002, .inl r2.2.2.2.2.2.2.2.2.2.2.2.2.1) := hp2_A81
  have w_A82 : a2 82 = (84000, .inl r2.2.2.2.2.2.2.2.2.2.2.2.2.2.1) := hp2_A82
  have w_A83 : a2 83 = (84000, .inl r2.2.2.2.2.2.2.2.2.2.2.2.2.2.2.1) := hp2_A83
  have w_A84 : a2 84 = (84000, .inl r2.2.2.2.2.2.2.2.2.2.2.2.2.2.2.2.1) := hp2_A84
  have w_A85 : a2 85 = (84000, .inl r2.2.2.2.2.2.2.2.2.2.2.2.2.2.2.2.2.1) := hp2_A85
  have w_A86 : a2 86 = (84000, .inl r2.2.2.2.2.2.2.2.2.2.2.2.2.2.2.2.2.2) := hp2_A86
  have w_A97 : a2 97 = (6001, .inl A97) := (hoa2 97 rfl).trans h_A97
  have hoffa := offm hoffa hoa2 (by decide +kernel)
  refine lv_if_ne (tgt := 23) hx hb dX12_barren_17 (by decide) (fun c3 => ?_) (fun c3 => ?_)
  · rw [if_neg c3] at hs0
    refine lv_aload_n hx hb dX12_barren_23 rfl (lv_at hl 0 rfl) ?_
    refine lv_iconst (v := 0) hx hb dX12_barren_24 (by decide) ?_
    obtain ⟨r4, hf4, hs0⟩ := obind hs0
    refine g_Vv (n := 1) hx hb hml hown hG hW hS [.int 0] (kX12_laysFar hN hsh w_x69_27 w_A81 w_A82 w_A83 w_A97 F 0 hf4) (ltN hN 69 rfl) gk69 (by decide) rfl rfl (gd_V gx866 gx867 gx868 gx5 gx869) rfl rfl (by decide) ⟨Nat.le_of_ble_eq_true rfl, Nat.le_of_ble_eq_true rfl⟩ rfl hl (Nat.le_of_ble_eq_true rfl) ⟨Nat.zero_le _, Nat.zero_le _⟩ dX12_barren_25 (fun m4 a4 H locs hp4 hW hS => ?_)
    obtain ⟨hm4, hp4_A97, hoa4⟩ := hp4
    rw [hm4] at hW
    have w_A76 : a4 76 = (40, .inl r2.2.2.2.2.2.2.2.1) := (hoa4 76 rfl).trans w_A76
    have w_A77 : a4 77 = (40, .inl r2.2.2.2.2.2.2.2.2.1) := (hoa4 77 rfl).trans w_A77
    have w_A78 : a4 78 = (40, .inl r2.2.2.2.2.2.2.2.2.2.1) := (hoa4 78 rfl).trans w_A78
    have w_A79 : a4 79 = (6001, .inr (.inl r2.2.2.2.2.2.2.2.2.2.2.1)) := (hoa4 79 rfl).trans w_A79
    have w_A80 : a4 80 = (16384, .inl r2.2.2.2.2.2.2.2.2.2.2.2.1) := (hoa4 80 rfl).trans w_A80
    have w_A81 : a4 81 = (6002, .inl r2.2.2.2.2.2.2.2.2.2.2.2.2.1) := (hoa4 81 rfl).trans w_A81
    have w_A82 : a4 82 = (84000, .inl r2.2.2.2.2.2.2.2.2.2.2.2.2.2.1) := (hoa4 82 rfl).trans w_A82
    have w_A83 : a4 83 = (84000, .inl r2.2.2.2.2.2.2.2.2.2.2.2.2.2.2.1) := (hoa4 83 rfl).trans w_A83
    have w_A84 : a4 84 = (84000, .inl r2.2.2.2.2.2.2.2.2.2.2.2.2.2.2.2.1) := (hoa4 84 rfl).trans w_A84
    have w_A85 : a4 85 = (84000, .inl r2.2.2.2.2.2.2.2.2.2.2.2.2.2.2.2.2.1) := (hoa4 85 rfl).trans w_A85
    have w_A86 : a4 86 = (84000, .inl r2.2.2.2.2.2.2.2.2.2.2.2.2.2.2.2.2.2) := (hoa4 86 rfl).trans w_A86
    have w_A97 : a4 97 = (6001, .inl r4) := hp4_A97
    have hoffa := offm hoffa hoa4 (by decide +kernel)
    refine lv_iconst (v := 0) hx hb dX12_barren_28 (by decide) ?_
    refine lv_istore_n (lv' := [(1, .int 0), (0, .ref (q 69))]) hx hb dX12_barren_29 rfl hl (by decide) rfl (fun ls hl => ?_)
    refine lv_iconst (v := 0) hx hb dX12_barren_30 (by decide) ?_
    refine lv_istore_n (lv' := [(2, .int 0), (1, .int 0), (0, .ref (q 69))]) hx hb dX12_barren_31 rfl hl (by decide) rfl (fun ls hl => ?_)
    obtain ⟨r5, hg5, hs0⟩ := obind hs0
    have hE1_58 : ∀ (t5_58 : Int32) (hr5 : t5_58 = r5) (m : Nat → Value) (a : Nat → vp_A) (H : Heap) (locs : List Loc) (w_x69_18 : m 6918 = .int 0) (w_x69_19 : m 6919 = .long r2.2.1) (w_x69_20 : m 6920 = .int r2.2.2.1) (w_x69_21 : m 6921 = .int r2.2.2.2.1) (w_x69_22 : m 6922 = .int r2.2.2.2.2.1) (w_x69_27 : m 6927 = .int r2.2.2.2.2.2.1) (w_x69_35 : m 6935 = .int r2.2.2.2.2.2.2.1) (hoff : ∀ j, nel j [6918, 6919, 6920, 6921, 6922, 6927, 6935] = false → m j = m0 j) (hsh : SH q m) (w_A76 : a 76 = (40, .inl r2.2.2.2.2.2.2.2.1)) (w_A77 : a 77 = (40, .inl r2.2.2.2.2.2.2.2.2.1)) (w_A78 : a 78 = (40, .inl r2.2.2.2.2.2.2.2.2.2.1)) (w_A79 : a 79 = (6001, .inr (.inl r2.2.2.2.2.2.2.2.2.2.2.1))) (w_A80 : a 80 = (16384, .inl r2.2.2.2.2.2.2.2.2.2.2.2.1)) (w_A81 : a 81 = (6002, .inl r2.2.2.2.2.2.2.2.2.2.2.2.2.1)) (w_A82 : a 82 = (84000, .inl r2.2.2.2.2.2.2.2.2.2.2.2.2.2.1)) (w_A83 : a 83 = (84000, .inl r2.2.2.2.2.2.2.2.2.2.2.2.2.2.2.1)) (w_A84 : a 84 = (84000, .inl r2.2.2.2.2.2.2.2.2.2.2.2.2.2.2.2.1)) (w_A85 : a 85 = (84000, .inl r2.2.2.2.2.2.2.2.2.2.2.2.2.2.2.2.2.1)) (w_A86 : a 86 = (84000, .inl r2.2.2.2.2.2.2.2.2.2.2.2.2.2.2.2.2.2)) (w_A97 : a 97 = (6001, .inl r4)) (hoffa : ∀ j, nel j [76, 77, 78, 79, 80, 81, 82, 83, 84, 85, 86, 97] = false → a j = a0 j) (ls : Array Slot) (hl : lv_has ls 3 [(1, .int t5_58)]) (hW : GW D cy (gA N q s.heap.size) N q m a s H) (hS : va_S (gA N q s.heap.size) s.heap H locs), W p l e ({ frames := 8, cells := 0, slots := 0, locals := 188 } : Room) s M args below meth c H locs 0 0 (MQ below (va_Qi (fun (r : Int32) (u : (Nat → Value) × (Nat → vp_A)) => r = X0.1 ∧ u.1 6918 = .int X0.2.1 ∧ u.1 6919 = .long X0.2.2.1 ∧ u.1 6920 = .int X0.2.2.2.1 ∧ u.1 6921 = .int X0.2.2.2.2.1 ∧ u.1 6922 = .int X0.2.2.2.2.2.1 ∧ u.1 6927 = .int X0.2.2.2.2.2.2.1 ∧ u.1 6935 = .int X0.2.2.2.2.2.2.2.1 ∧ (∀ j, nel j [6918, 6919, 6920, 6921, 6922, 6927, 6935] = false → u.1 j = m0 j) ∧ u.2 76 = (40, .inl X0.2.2.2.2.2.2.2.2.1) ∧ u.2 77 = (40, .inl X0.2.2.2.2.2.2.2.2.2.1) ∧ u.2 78 = (40, .inl X0.2.2.2.2.2.2.2.2.2.2.1) ∧ u.2 79 = (6001, .inr (.inl X0.2.2.2.2.2.2.2.2.2.2.2.1)) ∧ u.2 80 = (16384, .inl X0.2.2.2.2.2.2.2.2.2.2.2.2.1) ∧ u.2 81 = (6002, .inl X0.2.2.2.2.2.2.2.2.2.2.2.2.2.1) ∧ u.2 82 = (84000, .inl X0.2.2.2.2.2.2.2.2.2.2.2.2.2.2.1) ∧ u.2 83 = (84000, .inl X0.2.2.2.2.2.2.2.2.2.2.2.2.2.2.2.1) ∧ u.2 84 = (84000, .inl X0.2.2.2.2.2.2.2.2.2.2.2.2.2.2.2.2.1) ∧ u.2 85 = (84000, .inl X0.2.2.2.2.2.2.2.2.2.2.2.2.2.2.2.2.2.1) ∧ u.2 86 = (84000, .inl X0.2.2.2.2.2.2.2.2.2.2.2.2.2.2.2.2.2.2.1) ∧ u.2 97 = (6001, .inl X0.2.2.2.2.2.2.2.2.2.2.2.2.2.2.2.2.2.2.2) ∧ (∀ j, nel j [76, 77, 78, 79, 80, 81, 82, 83, 84, 85, 86, 97] = false → u.2 j = a0 j)) (gB D cy N q s.heap.size) (gA N q s.heap.size)) args s 0 0 (gA N q s.heap.size)) (F0 M 58 ls []) := by
      intro t5_58 hr5 m a H locs w_x69_18 w_x69_19 w_x69_20 w_x69_21 w_x69_22 w_x69_27 w_x69_35 hoff hsh w_A76 w_A77 w_A78 w_A79 w_A80 w_A81 w_A82 w_A83 w_A84 w_A85 w_A86 w_A97 hoffa ls hl hW hS
      subst hr5
      refine lv_iload_n hx hb dX12_barren_58 rfl (lv_at hl 0 rfl) ?_
      have hs0 := Option.some.inj hs0
      subst hs0
      exact W.zret hx hb hr rfl (fun t ht hw => ⟨⟨_, (m, a), rfl, ⟨rfl, w_x69_18, w_x69_19, w_x69_20, w_x69_21, w_x69_22, w_x69_27, w_x69_35, hoff, w_A76, w_A77, w_A78, w_A79, w_A80, w_A81, w_A82, w_A83, w_A84, w_A85, w_A86, w_A97, hoffa⟩, g_end hW ht hw⟩, hS.F ht⟩) hS.2.2 dX12_barren_59 hlocks
    have hL1 : ∀ (n : Nat) (v1k5 : Int32) (v2k5 : Int32) (m : Nat → Value) (a : Nat → vp_A) (H : Heap) (locs : List Loc) (w_x69_18 : m 6918 = .int 0) (w_x69_19 : m 6919 = .long r2.2.1) (w_x69_20 : m 6920 = .int r2.2.2.1) (w_x69_21 : m 6921 = .int r2.2.2.2.1) (w_x69_22 : m 6922 = .int r2.2.2.2.2.1) (w_x69_27 : m 6927 = .int r2.2.2.2.2.2.1) (w_x69_35 : m 6935 = .int r2.2.2.2.2.2.2.1) (hoff : ∀ j, nel j [6918, 6919, 6920, 6921, 6922, 6927, 6935] = false → m j = m0 j) (hsh : SH q m) (w_A76 : a 76 = (40, .inl r2.2.2.2.2.2.2.2.1)) (w_A77 : a 77 = (40, .inl r2.2.2.2.2.2.2.2.2.1)) (w_A78 : a 78 = (40, .inl r2.2.2.2.2.2.2.2.2.2.1)) (w_A79 : a 79 = (6001, .inr (.inl r2.2.2.2.2.2.2.2.2.2.2.1))) (w_A80 : a 80 = (16384, .inl r2.2.2.2.2.2.2.2.2.2.2.2.1)) (w_A81 : a 81 = (6002, .inl r2.2.2.2.2.2.2.2.2.2.2.2.2.1)) (w_A82 : a 82 = (84000, .inl r2.2.2.2.2.2.2.2.2.2.2.2.2.2.1)) (w_A83 : a 83 = (84000, .inl r2.2.2.2.2.2.2.2.2.2.2.2.2.2.2.1)) (w_A84 : a 84 = (84000, .inl r2.2.2.2.2.2.2.2.2.2.2.2.2.2.2.2.1)) (w_A85 : a 85 = (84000, .inl r2.2.2.2.2.2.2.2.2.2.2.2.2.2.2.2.2.1)) (w_A86 : a 86 = (84000, .inl r2.2.2.2.2.2.2.2.2.2.2.2.2.2.2.2.2.2)) (w_A97 : a 97 = (6001, .inl r4)) (hoffa : ∀ j, nel j [76, 77, 78, 79, 80, 81, 82, 83, 84, 85, 86, 97] = false → a j = a0 j) (ls : Array Slot) (hl : lv_has ls 3 [(0, .ref (q 69)), (1, .int v1k5), (2, .int v2k5)]) (hg5 : gloop (fun u5 : (Int32 × Int32) => fX12_barren_S32 F x69_0 x69_1 x69_2 x69_3 x69_4 0 r2.2.1 r2.2.2.1 r2.2.2.2.1 r2.2.2.2.2.1 r2.2.2.2.2.2.1 r2.2.2.2.2.2.2.1 r2.2.2.2.2.2.2.2.1 r2.2.2.2.2.2.2.2.2.1 r2.2.2.2.2.2.2.2.2.2.1 r2.2.2.2.2.2.2.2.2.2.2.1 r2.2.2.2.2.2.2.2.2.2.2.2.1 r2.2.2.2.2.2.2.2.2.2.2.2.2.1 r2.2.2.2.2.2.2.2.2.2.2.2.2.2.1 r2.2.2.2.2.2.2.2.2.2.2.2.2.2.2.1 r2.2.2.2.2.2.2.2.2.2.2.2.2.2.2.2.1 r2.2.2.2.2.2.2.2.2.2.2.2.2.2.2.2.2.1 r2.2.2.2.2.2.2.2.2.2.2.2.2.2.2.2.2.2 r4 u5.1 u5.2) n (v1k5, v2k5) = some r5) (hW : GW D cy (gA N q s.heap.size) N q m a s H) (hS : va_S (gA N q s.heap.size) s.heap H locs), W p l e ({ frames := 8, cells := 0, slots := 0, locals := 188 } : Room) s M args below meth c H locs 0 0 (MQ below (va_Qi (fun (r : Int32) (u : (Nat → Value) × (Nat → vp_A)) => r = X0.1 ∧ u.1 6918 = .int X0.2.1 ∧ u.1 6919 = .long X0.2.2.1 ∧ u.1 6920 = .int X0.2.2.2.1 ∧ u.1 6921 = .int X0.2.2.2.2.1 ∧ u.1 6922 = .int X0.2.2.2.2.2.1 ∧ u.1 6927 = .int X0.2.2.2.2.2.2.1 ∧ u.1 6935 = .int X0.2.2.2.2.2.2.2.1 ∧ (∀ j, nel j [6918, 6919, 6920, 6921, 6922, 6927, 6935] = false → u.1 j = m0 j) ∧ u.2 76 = (40, .inl X0.2.2.2.2.2.2.2.2.1) ∧ u.2 77 = (40, .inl X0.2.2.2.2.2.2.2.2.2.1) ∧ u.2 78 = (40, .inl X0.2.2.2.2.2.2.2.2.2.2.1) ∧ u.2 79 = (6001, .inr (.inl X0.2.2.2.2.2.2.2.2.2.2.2.1)) ∧ u.2 80 = (16384, .inl X0.2.2.2.2.2.2.2.2.2.2.2.2.1) ∧ u.2 81 = (6002, .inl X0.2.2.2.2.2.2.2.2.2.2.2.2.2.1) ∧ u.2 82 = (84000, .inl X0.2.2.2.2.2.2.2.2.2.2.2.2.2.2.1) ∧ u.2 83 = (84000, .inl X0.2.2.2.2.2.2.2.2.2.2.2.2.2.2.2.1) ∧ u.2 84 = (84000, .inl X0.2.2.2.2.2.2.2.2.2.2.2.2.2.2.2.2.1) ∧ u.2 85 = (84000, .inl X0.2.2.2.2.2.2.2.2.2.2.2.2.2.2.2.2.2.1) ∧ u.2 86 = (84000, .inl X0.2.2.2.2.2.2.2.2.2.2.2.2.2.2.2.2.2.2.1) ∧ u.2 97 = (6001, .inl X0.2.2.2.2.2.2.2.2.2.2.2.2.2.2.2.2.2.2.2) ∧ (∀ j, nel j [76, 77, 78, 79, 80, 81, 82, 83, 84, 85, 86, 97] = false → u.2 j = a0 j)) (gB D cy N q s.heap.size) (gA N q s.heap.size)) args s 0 0 (gA N q s.heap.size)) (F0 M 32 ls []) := by
      intro n
      induction n with
      | zero => intro v1k5 v2k5 m a H locs w_x69_18 w_x69_19 w_x69_20 w_x69_21 w_x69_22 w_x69_27 w_x69_35 hoff hsh w_A76 w_A77 w_A78 w_A79 w_A80 w_A81 w_A82 w_A83 w_A84 w_A85 w_A86 w_A97 hoffa ls hl hg5 hW hS; exact (gl_zero hg5).elim
      | succ n ih1 =>
        intro v1k5 v2k5 m a H locs w_x69_18 w_x69_19 w_x69_20 w_x69_21 w_x69_22 w_x69_27 w_x69_35 hoff hsh w_A76 w_A77 w_A78 w_A79 w_A80 w_A81 w_A82 w_A83 w_A84 w_A85 w_A86 w_A97 hoffa ls hl hg5 hW hS
        obtain ⟨X1, hs1, hXl1, hXr1⟩ := gl_succ hg5
        have hs1 : fX12_barren_S32 F x69_0 x69_1 x69_2 x69_3 x69_4 0 r2.2.1 r2.2.2.1 r2.2.2.2.1 r2.2.2.2.2.1 r2.2.2.2.2.2.1 r2.2.2.2.2.2.2.1 r2.2.2.2.2.2.2.2.1 r2.2.2.2.2.2.2.2.2.1 r2.2.2.2.2.2.2.2.2.2.1 r2.2.2.2.2.2.2.2.2.2.2.1 r2.2.2.2.2.2.2.2.2.2.2.2.1 r2.2.2.2.2.2.2.2.2.2.2.2.2.1 r2.2.2.2.2.2.2.2.2.2.2.2.2.2.1 r2.2.2.2.2.2.2.2.2.2.2.2.2.2.2.1 r2.2.2.2.2.2.2.2.2.2.2.2.2.2.2.2.1 r2.2.2.2.2.2.2.2.2.2.2.2.2.2.2.2.2.1 r2.2.2.2.2.2.2.2.2.2.2.2.2.2.2.2.2.2 r4 v1k5 v2k5 = some X1 := hs1
        unfold fX12_barren_S32 at hs1
        have hJ52_1 : ∀ (v1j13 : Int32) (v2j13 : Int32) (m : Nat → Value) (a : Nat → vp_A) (H : Heap) (locs : List Loc) (w_x69_18 : m 6918 = .int 0) (w_x69_19 : m 6919 = .long r2.2.1) (w_x69_20 : m 6920 = .int r2.2.2.1) (w_x69_21 : m 6921 = .int r2.2.2.2.1) (w_x69_22 : m 6922 = .int r2.2.2.2.2.1) (w_x69_27 : m 6927 = .int r2.2.2.2.2.2.1) (w_x69_35 : m 6935 = .int r2.2.2.2.2.2.2.1) (hoff : ∀ j, nel j [6918, 6919, 6920, 6921, 6922, 6927, 6935] = false → m j = m0 j) (hsh : SH q m) (w_A76 : a 76 = (40, .inl r2.2.2.2.2.2.2.2.1)) (w_A77 : a 77 = (40, .inl r2.2.2.2.2.2.2.2.2.1)) (w_A78 : a 78 = (40, .inl r2.2.2.2.2.2.2.2.2.2.1)) (w_A79 : a 79 = (6001, .inr (.inl r2.2.2.2.2.2.2.2.2.2.2.1))) (w_A80 : a 80 = (16384, .inl r2.2.2.2.2.2.2.2.2.2.2.2.1)) (w_A81 : a 81 = (6002, .inl r2.2.2.2.2.2.2.2.2.2.2.2.2.1)) (w_A82 : a 82 = (84000, .inl r2.2.2.2.2.2.2.2.2.2.2.2.2.2.1)) (w_A83 : a 83 = (84000, .inl r2.2.2.2.2.2.2.2.2.2.2.2.2.2.2.1)) (w_A84 : a 84 = (84000, .inl r2.2.2.2.2.2.2.2.2.2.2.2.2.2.2.2.1)) (w_A85 : a 85 = (84000, .inl r2.2.2.2.2.2.2.2.2.2.2.2.2.2.2.2.2.1)) (w_A86 : a 86 = (84000, .inl r2.2.2.2.2.2.2.2.2.2.2.2.2.2.2.2.2.2)) (w_A97 : a 97 = (6001, .inl r4)) (hoffa : ∀ j, nel j [76, 77, 78, 79, 80, 81, 82, 83, 84, 85, 86, 97] = false → a j = a0 j) (ls : Array Slot) (hl : lv_has ls 3 [(0, .ref (q 69)), (1, .int v1j13), (2, .int v2j13)]) (hs1 : fX12_barren_J52 F x69_0 x69_1 x69_2 x69_3 x69_4 v1j13 v2j13 0 r2.2.1 r2.2.2.1 r2.2.2.2.1 r2.2.2.2.2.1 r2.2.2.2.2.2.1 r2.2.2.2.2.2.2.1 r2.2.2.2.2.2.2.2.1 r2.2.2.2.2.2.2.2.2.1 r2.2.2.2.2.2.2.2.2.2.1 r2.2.2.2.2.2.2.2.2.2.2.1 r2.2.2.2.2.2.2.2.2.2.2.2.1 r2.2.2.2.2.2.2.2.2.2.2.2.2.1 r2.2.2.2.2.2.2.2.2.2.2.2.2.2.1 r2.2.2.2.2.2.2.2.2.2.2.2.2.2.2.1 r2.2.2.2.2.2.2.2.2.2.2.2.2.2.2.2.1 r2.2.2.2.2.2.2.2.2.2.2.2.2.2.2.2.2.1 r2.2.2.2.2.2.2.2.2.2.2.2.2.2.2.2.2.2 r4 = some X1) (hW : GW D cy (gA N q s.heap.size) N q m a s H) (hS : va_S (gA N q s.heap.size) s.heap H locs), W p l e ({ frames := 8, cells := 0, slots := 0, locals := 188 } : Room) s M args below meth c H locs 0 0 (MQ below (va_Qi (fun (r : Int32) (u : (Nat → Value) × (Nat → vp_A)) => r = X0.1 ∧ u.1 6918 = .int X0.2.1 ∧ u.1 6919 = .long X0.2.2.1 ∧ u.1 6920 = .int X0.2.2.2.1 ∧ u.1 6921 = .int X0.2.2.2.2.1 ∧ u.1 6922 = .int X0.2.2.2.2.2.1 ∧ u.1 6927 = .int X0.2.2.2.2.2.2.1 ∧ u.1 6935 = .int X0.2.2.2.2.2.2.2.1 ∧ (∀ j, nel j [6918, 6919, 6920, 6921, 6922, 6927, 6935] = false → u.1 j = m0 j) ∧ u.2 76 = (40, .inl X0.2.2.2.2.2.2.2.2.1) ∧ u.2 77 = (40, .inl X0.2.2.2.2.2.2.2.2.2.1) ∧ u.2 78 = (40, .inl X0.2.2.2.2.2.2.2.2.2.2.1) ∧ u.2 79 = (6001, .inr (.inl X0.2.2.2.2.2.2.2.2.2.2.2.1)) ∧ u.2 80 = (16384, .inl X0.2.2.2.2.2.2.2.2.2.2.2.2.1) ∧ u.2 81 = (6002, .inl X0.2.2.2.2.2.2.2.2.2.2.2.2.2.1) ∧ u.2 82 = (84000, .inl X0.2.2.2.2.2.2.2.2.2.2.2.2.2.2.1) ∧ u.2 83 = (84000, .inl X0.2.2.2.2.2.2.2.2.2.2.2.2.2.2.2.1) ∧ u.2 84 = (84000, .inl X0.2.2.2.2.2.2.2.2.2.2.2.2.2.2.2.2.1) ∧ u.2 85 = (84000, .inl X0.2.2.2.2.2.2.2.2.2.2.2.2.2.2.2.2.2.1) ∧ u.2 86 = (84000, .inl X0.2.2.2.2.2.2.2.2.2.2.2.2.2.2.2.2.2.2.1) ∧ u.2 97 = (6001, .inl X0.2.2.2.2.2.2.2.2.2.2.2.2.2.2.2.2.2.2.2) ∧ (∀ j, nel j [76, 77, 78, 79, 80, 81, 82, 83, 84, 85, 86, 97] = false → u.2 j = a0 j)) (gB D cy N q s.heap.size) (gA N q s.heap.size)) args s 0 0 (gA N q s.heap.size)) (F0 M 52 ls []) := by
          intro v1j13 v2j13 m a H locs w_x69_18 w_x69_19 w_x69_20 w_x69_21 w_x69_22 w_x69_27 w_x69_35 hoff hsh w_A76 w_A77 w_A78 w_A79 w_A80 w_A81 w_A82 w_A83 w_A84 w_A85 w_A86 w_A97 hoffa ls hl hs1 hW hS
          unfold fX12_barren_J52 at hs1
          refine lv_iinc (v := v2j13 + 1) (lv' := [(2, .int (v2j13 + 1)), (0, .ref (q 69)), (1, .int v1j13)]) hx hb dX12_barren_52 hl (k := 2) rfl rfl (by decide) rfl (fun ls hl => ?_)
          refine lv_goto (tgt := 32) hx hb dX12_barren_55 (by decide) ?_
          exact ih1 v1j13 (v2j13 + 1) m a _ _ w_x69_18 w_x69_19 w_x69_20 w_x69_21 w_x69_22 w_x69_27 w_x69_35 hoff hsh w_A76 w_A77 w_A78 w_A79 w_A80 w_A81 w_A82 w_A83 w_A84 w_A85 w_A86 w_A97 hoffa ls (lv_sub hl [1, 2, 0] rfl) (hXr1 _ (Option.some.inj hs1).symm) hW hS
        refine lv_iload_n hx hb dX12_barren_32 rfl (lv_at hl 2 rfl) ?_
        refine lv_aload_n hx hb dX12_barren_33 rfl (lv_at hl 0 rfl) ?_
        refine gf12_27 hx hb hG hown hW (o := 69) (ltN hN 69 rfl) gk69 (v := .int r2.2.2.2.2.2.1) w_x69_27 gx713 dX12_barren_34 ?_
        refine lv_icmp_ge (tgt := 58) hx hb dX12_barren_37 (by decide) (fun c10 => ?_) (fun c10 => ?_)
        · rw [if_pos c10] at hs1
          exact hE1_58 v1k5 (hXl1 _ (Option.some.inj hs1).symm) m a _ _ w_x69_18 w_x69_19 w_x69_20 w_x69_21 w_x69_22 w_x69_27 w_x69_35 hoff hsh w_A76 w_A77 w_A78 w_A79 w_A80 w_A81 w_A82 w_A83 w_A84 w_A85 w_A86 w_A97 hoffa ls (lv_sub hl [1] rfl) hW hS
        · rw [if_neg c10] at hs1
          refine lv_aload_n hx hb dX12_barren_40 rfl (lv_at hl 0 rfl) ?_
          refine gf12_49 hx hb hG hown hW (o := 69) (ltN hN 69 rfl) gk69 (v := .ref (q 97)) (sh69_49 hsh) gx195 dX12_barren_41 ?_
          refine lv_iload_n hx hb dX12_barren_44 rfl (lv_at hl 2 rfl) ?_
          obtain ⟨hi11, hs1⟩ := oif hs1
          refine g_iald hx hb hW (o := 97) (ltN hN 97 rfl) gk97 w_A97 (vin hi11) dX12_barren_45 ?_
          refine lv_if_ge (tgt := 52) hx hb dX12_barren_46 (by decide) (fun c12 => ?_) (fun c12 => ?_)
          · rw [if_pos c12] at hs1
            exact hJ52_1 v1k5 v2k5 m a _ _ w_x69_18 w_x69_19 w_x69_20 w_x69_21 w_x69_22 w_x69_27 w_x69_35 hoff hsh w_A76 w_A77 w_A78 w_A79 w_A80 w_A81 w_A82 w_A83 w_A84 w_A85 w_A86 w_A97 hoffa ls (lv_sub hl [0, 1, 2] rfl) hs1 hW hS
          · rw [if_neg c12] at hs1
            refine lv_iinc (v := v1k5 + 1) (lv' := [(1, .int (v1k5 + 1)), (0, .ref (q 69)), (2, .int v2k5)]) hx hb dX12_barren_49 hl (k := 1) rfl rfl (by decide) rfl (fun ls hl => ?_)
            exact hJ52_1 (v1k5 + 1) v2k5 m a _ _ w_x69_18 w_x69_19 w_x69_20 w_x69_21 w_x69_22 w_x69_27 w_x69_35 hoff hsh w_A76 w_A77 w_A78 w_A79 w_A80 w_A81 w_A82 w_A83 w_A84 w_A85 w_A86 w_A97 hoffa ls (lv_sub hl [1, 0, 2] rfl) hs1 hW hS
    exact hL1 F 0 0 m2 a4 _ _ w_x69_18 w_x69_19 w_x69_20 w_x69_21 w_x69_22 w_x69_27 w_x69_35 hoff hsh w_A76 w_A77 w_A78 w_A79 w_A80 w_A81 w_A82 w_A83 w_A84 w_A85 w_A86 w_A97 hoffa ls (lv_sub hl [2, 1, 0] rfl) hg5 hW hS
  · rw [if_pos c3] at hs0
    refine lv_bipush (v := (-3)) hx hb dX12_barren_20 (by decide) ?_
    have hs0 := Option.some.inj hs0
    subst hs0
    exact W.zret hx hb hr rfl (fun t ht hw => ⟨⟨_, (m2, a2), rfl, ⟨rfl, w_x69_18, w_x69_19, w_x69_20, w_x69_21, w_x69_22, w_x69_27, w_x69_35, hoff, w_A76, w_A77, w_A78, w_A79, w_A80, w_A81, w_A82, w_A83, w_A84, w_A85, w_A86, w_A97, hoffa⟩, g_end hW ht hw⟩, hS.F ht⟩) hS.2.2 dX12_barren_22 hlocks
-- HealLinkModel.steps ()I
def fX12_steps (F : Nat) (x69_0 : Int32) (x69_1 : Int32) (x69_2 : Int32) (x69_3 : Int32) (x69_4 : Int64) (x69_18 : Int32) (x69_19 : Int64) (x69_20 : Int32) (x69_21 : Int32) (x69_22 : Int32) (x69_27 : Int32) (x69_35 : Int32) (A76 : Nat → Int32) (A77 : Nat → Int32) (A78 : Nat → Int32) (A79 : Nat → Int64) (A80 : Nat → Int32) (A81 : Nat → Int32) (A82 : Nat → Int32) (A83 : Nat → Int32) (A84 : Nat → Int32) (A85 : Nat → Int32) (A86 : Nat → Int32) (A97 : Nat → Int32) : Option (Int32 × Int32 × Int64 × Int32 × Int32 × Int32 × Int32 × Int32 × (Nat → Int32) × (Nat → Int32) × (Nat → Int32) × (Nat → Int64) × (Nat → Int32) × (Nat → Int32) × (Nat → Int32) × (Nat → Int32) × (Nat → Int32) × (Nat → Int32) × (Nat → Int32) × (Nat → Int32)) := ((fX12_reaches F x69_0 x69_1 x69_3 x69_19 x69_20 x69_21 x69_22 x69_27 x69_35 A76 A77 A78 A79 A80 A81 A82 A83 A84 A85 A86 x69_4 x69_2).bind (fun r2 => (if r2.1 = 0 then some ((-3), 0, r2.2.1, r2.2.2.1, r2.2.2.2.1, r2.2.2.2.2.1, r2.2.2.2.2.2.1, r2.2.2.2.2.2.2.1, r2.2.2.2.2.2.2.2.1, r2.2.2.2.2.2.2.2.2.1, r2.2.2.2.2.2.2.2.2.2.1, r2.2.2.2.2.2.2.2.2.2.2.1, r2.2.2.2.2.2.2.2.2.2.2.2.1, r2.2.2.2.2.2.2.2.2.2.2.2.2.1, r2.2.2.2.2.2.2.2.2.2.2.2.2.2.1, r2.2.2.2.2.2.2.2.2.2.2.2.2.2.2.1, r2.2.2.2.2.2.2.2.2.2.2.2.2.2.2.2.1, r2.2.2.2.2.2.2.2.2.2.2.2.2.2.2.2.2.1, r2.2.2.2.2.2.2.2.2.2.2.2.2.2.2.2.2.2, A97) else ((fX12_laysFar F r2.2.2.2.2.2.1 r2.2.2.2.2.2.2.2.2.2.2.2.2.1 r2.2.2.2.2.2.2.2.2.2.2.2.2.2.1 r2.2.2.2.2.2.2.2.2.2.2.2.2.2.2.1 A97 0).bind (fun r4 => some (r4 (0 : Int32).toNatClampNeg, 0, r2.2.1, r2.2.2.1, r2.2.2.2.1, r2.2.2.2.2.1, r2.2.2.2.2.2.1, r2.2.2.2.2.2.2.1, r2.2.2.2.2.2.2.2.1, r2.2.2.2.2.2.2.2.2.1, r2.2.2.2.2.2.2.2.2.2.1, r2.2.2.2.2.2.2.2.2.2.2.1, r2.2.2.2.2.2.2.2.2.2.2.2.1, r2.2.2.2.2.2.2.2.2.2.2.2.2.1, r2.2.2.2.2.2.2.2.2.2.2.2.2.2.1, r2.2.2.2.2.2.2.2.2.2.2.2.2.2.2.1, r2.2.2.2.2.2.2.2.2.2.2.2.2.2.2.2.1, r2.2.2.2.2.2.2.2.2.2.2.2.2.2.2.2.2.1, r2.2.2.2.2.2.2.2.2.2.2.2.2.2.2.2.2.2, r4))))))
theorem dX12_steps_0 : decode cX12_steps 0 = .ok (.aload_n 0, 1) := by decide +kernel
theorem dX12_steps_1 : decode cX12_steps 1 = .ok (.iconst 0, 1) := by decide +kernel
theorem dX12_steps_2 : decode cX12_steps 2 = .ok (.putfield 137, 3) := by decide +kernel
theorem dX12_steps_5 : decode cX12_steps 5 = .ok (.aload_n 0, 1) := by decide +kernel
theorem dX12_steps_6 : decode cX12_steps 6 = .ok (.aload_n 0, 1) := by decide +kernel
theorem dX12_steps_7 : decode cX12_steps 7 = .ok (.getfield 133, 3) := by decide +kernel
theorem dX12_steps_10 : decode cX12_steps 10 = .ok (.aload_n 0, 1) := by decide +kernel
theorem dX12_steps_11 : decode cX12_steps 11 = .ok (.getfield 16, 3) := by decide +kernel
theorem dX12_steps_14 : decode cX12_steps 14 = .ok (.invokevirtual 278, 3) := by decide +kernel
theorem dX12_steps_17 : decode cX12_steps 17 = .ok (.ifCond .ne 6, 3) := by decide +kernel
theorem dX12_steps_20 : decode cX12_steps 20 = .ok (.bipush (-3), 2) := by decide +kernel
theorem dX12_steps_22 : decode cX12_steps 22 = .ok (.ireturn, 1) := by decide +kernel
theorem dX12_steps_23 : decode cX12_steps 23 = .ok (.aload_n 0, 1) := by decide +kernel
theorem dX12_steps_24 : decode cX12_steps 24 = .ok (.iconst 0, 1) := by decide +kernel
theorem dX12_steps_25 : decode cX12_steps 25 = .ok (.invokevirtual 318, 3) := by decide +kernel
theorem dX12_steps_28 : decode cX12_steps 28 = .ok (.aload_n 0, 1) := by decide +kernel
theorem dX12_steps_29 : decode cX12_steps 29 = .ok (.getfield 107, 3) := by decide +kernel
theorem dX12_steps_32 : decode cX12_steps 32 = .ok (.iconst 0, 1) := by decide +kernel
theorem dX12_steps_33 : decode cX12_steps 33 = .ok (.iaload, 1) := by decide +kernel
theorem dX12_steps_34 : decode cX12_steps 34 = .ok (.ireturn, 1) := by decide +kernel
set_option maxHeartbeats 4000000 in
set_option maxRecDepth 100000 in
theorem kX12_steps {l : Launch} {D : va_G} {cy : Nat → ClassId} {N : Nat} {q : Nat → Nat} {m0 : Nat → Value} {a0 : Nat → vp_A} {sz : Nat} (hN : 105 ≤ N) (hsh : SH q m0) {x69_0 : Int32} (h_x69_0 : m0 6900 = .int x69_0) {x69_1 : Int32} (h_x69_1 : m0 6901 = .int x69_1) {x69_2 : Int32} (h_x69_2 : m0 6902 = .int x69_2) {x69_3 : Int32} (h_x69_3 : m0 6903 = .int x69_3) {x69_4 : Int64} (h_x69_4 : m0 6904 = .long x69_4) {x69_18 : Int32} (h_x69_18 : m0 6918 = .int x69_18) {x69_19 : Int64} (h_x69_19 : m0 6919 = .long x69_19) {x69_20 : Int32} (h_x69_20 : m0 6920 = .int x69_20) {x69_21 : Int32} (h_x69_21 : m0 6921 = .int x69_21) {x69_22 : Int32} (h_x69_22 : m0 6922 = .int x69_22) {x69_27 : Int32} (h_x69_27 : m0 6927 = .int x69_27) {x69_35 : Int32} (h_x69_35 : m0 6935 = .int x69_35) {A76 : Nat → Int32} (h_A76 : a0 76 = (40, .inl A76)) {A77 : Nat → Int32} (h_A77 : a0 77 = (40, .inl A77)) {A78 : Nat → Int32} (h_A78 : a0 78 = (40, .inl A78)) {A79 : Nat → Int64} (h_A79 : a0 79 = (6001, .inr (.inl A79))) {A80 : Nat → Int32} (h_A80 : a0 80 = (16384, .inl A80)) {A81 : Nat → Int32} (h_A81 : a0 81 = (6002, .inl A81)) {A82 : Nat → Int32} (h_A82 : a0 82 = (84000, .inl A82)) {A83 : Nat → Int32} (h_A83 : a0 83 = (84000, .inl A83)) {A84 : Nat → Int32} (h_A84 : a0 84 = (84000, .inl A84)) {A85 : Nat → Int32} (h_A85 : a0 85 = (84000, .inl A85)) {A86 : Nat → Int32} (h_A86 : a0 86 = (84000, .inl A86)) {A97 : Nat → Int32} (h_A97 : a0 97 = (6001, .inl A97)) (F : Nat) {X0 : Int32 × Int32 × Int64 × Int32 × Int32 × Int32 × Int32 × Int32 × (Nat → Int32) × (Nat → Int32) × (Nat → Int32) × (Nat → Int64) × (Nat → Int32) × (Nat → Int32) × (Nat → Int32) × (Nat → Int32) × (Nat → Int32) × (Nat → Int32) × (Nat → Int32) × (Nat → Int32)} (hs0 : fX12_steps F x69_0 x69_1 x69_2 x69_3 x69_4 x69_18 x69_19 x69_20 x69_21 x69_22 x69_27 x69_35 A76 A77 A78 A79 A80 A81 A82 A83 A84 A85 A86 A97 = some X0) : gMi l yX12_steps cX12_steps 1 (some .int) ({ frames := 8, cells := 0, slots := 0, locals := 188 } : Room) D cy N q m0 a0 sz [.ref (q 69)] (fun r m' a' => r = X0.1 ∧ m' 6918 = .int X0.2.1 ∧ m' 6919 = .long X0.2.2.1 ∧ m' 6920 = .int X0.2.2.2.1 ∧ m' 6921 = .int X0.2.2.2.2.1 ∧ m' 6922 = .int X0.2.2.2.2.2.1 ∧ m' 6927 = .int X0.2.2.2.2.2.2.1 ∧ m' 6935 = .int X0.2.2.2.2.2.2.2.1 ∧ (∀ j, nel j [6918, 6919, 6920, 6921, 6922, 6927, 6935] = false → m' j = m0 j) ∧ a' 76 = (40, .inl X0.2.2.2.2.2.2.2.2.1) ∧ a' 77 = (40, .inl X0.2.2.2.2.2.2.2.2.2.1) ∧ a' 78 = (40, .inl X0.2.2.2.2.2.2.2.2.2.2.1) ∧ a' 79 = (6001, .inr (.inl X0.2.2.2.2.2.2.2.2.2.2.2.1)) ∧ a' 80 = (16384, .inl X0.2.2.2.2.2.2.2.2.2.2.2.2.1) ∧ a' 81 = (6002, .inl X0.2.2.2.2.2.2.2.2.2.2.2.2.2.1) ∧ a' 82 = (84000, .inl X0.2.2.2.2.2.2.2.2.2.2.2.2.2.2.1) ∧ a' 83 = (84000, .inl X0.2.2.2.2.2.2.2.2.2.2.2.2.2.2.2.1) ∧ a' 84 = (84000, .inl X0.2.2.2.2.2.2.2.2.2.2.2.2.2.2.2.2.1) ∧ a' 85 = (84000, .inl X0.2.2.2.2.2.2.2.2.2.2.2.2.2.2.2.2.2.1) ∧ a' 86 = (84000, .inl X0.2.2.2.2.2.2.2.2.2.2.2.2.2.2.2.2.2.2.1) ∧ a' 97 = (6001, .inl X0.2.2.2.2.2.2.2.2.2.2.2.2.2.2.2.2.2.2.2) ∧ (∀ j, nel j [76, 77, 78, 79, 80, 81, 82, 83, 84, 85, 86, 97] = false → a' j = a0 j)) := by
  refine g_ofi (by decide) (Nat.le_of_ble_eq_true rfl) ?_
  intro p e s M args below meth c hx hb hr hG hown hin hlocks hml hW hS ls hl
  unfold fX12_steps at hs0
  have hoff : ∀ j, nel j [6918, 6919, 6920, 6921, 6922, 6927, 6935] = false → m0 j = m0 j := off0
  have hoffa : ∀ j, nel j [76, 77, 78, 79, 80, 81, 82, 83, 84, 85, 86, 97] = false → a0 j = a0 j := off0
  refine lv_aload_n hx hb dX12_steps_0 rfl (lv_at hl 0 rfl) ?_
  refine lv_iconst (v := 0) hx hb dX12_steps_1 (by decide) ?_
  refine gp12_18 hx hb hG hown hW hS (o := 69) (ltN hN 69 rfl) gk69 (v := 0) gx246 dX12_steps_2 (fun m1 H locs hm1 ho1 hW hS => ?_)
  have ho1 := off1 ho1
  have w_x69_18 : m1 6918 = .int 0 := hm1
  have w_x69_19 : m1 6919 = .long x69_19 := (ho1 6919 rfl).trans h_x69_19
  have w_x69_20 : m1 6920 = .int x69_20 := (ho1 6920 rfl).trans h_x69_20
  have w_x69_21 : m1 6921 = .int x69_21 := (ho1 6921 rfl).trans h_x69_21
  have w_x69_22 : m1 6922 = .int x69_22 := (ho1 6922 rfl).trans h_x69_22
  have w_x69_27 : m1 6927 = .int x69_27 := (ho1 6927 rfl).trans h_x69_27
  have w_x69_35 : m1 6935 = .int x69_35 := (ho1 6935 rfl).trans h_x69_35
  have hoff := offm hoff ho1 (by decide +kernel)
  have hsh := SH.off hsh ho1 (by decide +kernel)
  refine lv_aload_n hx hb dX12_steps_5 rfl (lv_at hl 0 rfl) ?_
  refine lv_aload_n hx hb dX12_steps_6 rfl (lv_at hl 0 rfl) ?_
  refine gf12_4 hx hb hG hown hW (o := 69) (ltN hN 69 rfl) gk69 (v := .long x69_4) ((hoff 6904 rfl).trans h_x69_4) gx202 dX12_steps_7 ?_
  refine lv_aload_n hx hb dX12_steps_10 rfl (lv_at hl 0 rfl) ?_
  refine gf12_2 hx hb hG hown hW (o := 69) (ltN hN 69 rfl) gk69 (v := .int x69_2) ((hoff 6902 rfl).trans h_x69_2) gx164 dX12_steps_11 ?_
  obtain ⟨r2, hf2, hs0⟩ := obind hs0
  refine g_Vi (n := 2) hx hb hml hown hG hW hS [.long x69_4, .int x69_2] (kX12_reaches hN hsh ((hoff 6900 rfl).trans h_x69_0) ((hoff 6901 rfl).trans h_x69_1) ((hoff 6903 rfl).trans h_x69_3) w_x69_19 w_x69_20 w_x69_21 w_x69_22 w_x69_27 w_x69_35 h_A76 h_A77 h_A78 h_A79 h_A80 h_A81 h_A82 h_A83 h_A84 h_A85 h_A86 F x69_4 x69_2 hf2) (ltN hN 69 rfl) gk69 (by decide) rfl rfl (gd_V gx714 gx715 gx716 gx5 gx717) rfl rfl (by decide) ⟨Nat.le_of_ble_eq_true rfl, Nat.le_of_ble_eq_true rfl⟩ rfl hl (Nat.le_of_ble_eq_true rfl) ⟨Nat.zero_le _, Nat.zero_le _⟩ dX12_steps_14 (fun x2 m2 a2 H locs hp2 hW hS => ?_)
  obtain ⟨hx2, hp2_x69_19, hp2_x69_20, hp2_x69_21, hp2_x69_22, hp2_x69_27, hp2_x69_35, ho2, hp2_A76, hp2_A77, hp2_A78, hp2_A79, hp2_A80, hp2_A81, hp2_A82, hp2_A83, hp2_A84, hp2_A85, hp2_A86, hoa2⟩ := hp2
  subst hx2
  have w_x69_18 : m2 6918 = .int 0 := (ho2 6918 rfl).trans w_x69_18
  have w_x69_19 : m2 6919 = .long r2.2.1 := hp2_x69_19
  have w_x69_20 : m2 6920 = .int r2.2.2.1 := hp2_x69_20
  have w_x69_21 : m2 6921 = .int r2.2.2.2.1 := hp2_x69_21
  have w_x69_22 : m2 6922 = .int r2.2.2.2.2.1 := hp2_x69_22
  have w_x69_27 : m2 6927 = .int r2.2.2.2.2.2.1 := hp2_x69_27
  have w_x69_35 : m2 6935 = .int r2.2.2.2.2.2.2.1 := hp2_x69_35
  have hoff := offm hoff ho2 (by decide +kernel)
  have hsh := SH.off hsh ho2 (by decide +kernel)
  have w_A76 : a2 76 = (40, .inl r2.2.2.2.2.2.2.2.1) := hp2_A76
  have w_A77 : a2 77 = (40, .inl r2.2.2.2.2.2.2.2.2.1) := hp2_A77
  have w_A78 : a2 78 = (40, .inl r2.2.2.2.2.2.2.2.2.2.1) := hp2_A78
  have w_A79 : a2 79 = (6001, .inr (.inl r2.2.2.2.2.2.2.2.2.2.2.1)) := hp2_A79
  have w_A80 : a2 80 = (16384, .inl r2.2.2.2.2.2.2.2.2.2.2.2.1) := hp2_A80
  have w_A81 : a2 81 = (6002, .inl r2.2.2.2.2.2.2.2.2.2.2.2.2.1) := hp2_A81
  have w_A82 : a2 82 = (84000, .inl r2.2.2.2.2.2.2.2.2.2.2.2.2.2.1) := hp2_A82
  have w_A83 : a2 83 = (84000, .inl r2.2.2.2.2.2.2.2.2.2.2.2.2.2.2.1) := hp2_A83
  have w_A84 : a2 84 = (84000, .inl r2.2.2.2.2.2.2.2.2.2.2.2.2.2.2.2.1) := hp2_A84
  have w_A85 : a2 85 = (84000, .inl r2.2.2.2.2.2.2.2.2.2.2.2.2.2.2.2.2.1) := hp2_A85
  have w_A86 : a2 86 = (84000, .inl r2.2.2.2.2.2.2.2.2.2.2.2.2.2.2.2.2.2) := hp2_A86
  have w_A97 : a2 97 = (6001, .inl A97) := (hoa2 97 rfl).trans h_A97
  have hoffa := offm hoffa hoa2 (by decide +kernel)
  refine lv_if_ne (tgt := 23) hx hb dX12_steps_17 (by decide) (fun c3 => ?_) (fun c3 => ?_)
  · rw [if_neg c3] at hs0
    refine lv_aload_n hx hb dX12_steps_23 rfl (lv_at hl 0 rfl) ?_
    refine lv_iconst (v := 0) hx hb dX12_steps_24 (by decide) ?_
    obtain ⟨r4, hf4, hs0⟩ := obind hs0
    refine g_Vv (n := 1) hx hb hml hown hG hW hS [.int 0] (kX12_laysFar hN hsh w_x69_27 w_A81 w_A82 w_A83 w_A97 F 0 hf4) (ltN hN 69 rfl) gk69 (by decide) rfl rfl (gd_V gx866 gx867 gx868 gx5 gx869) rfl rfl (by decide) ⟨Nat.le_of_ble_eq_true rfl, Nat.le_of_ble_eq_true rfl⟩ rfl hl (Nat.le_of_ble_eq_true rfl) ⟨Nat.zero_le _, Nat.zero_le _⟩ dX12_steps_25 (fun m4 a4 H locs hp4 hW hS => ?_)
    obtain ⟨hm4, hp4_A97, hoa4⟩ := hp4
    rw [hm4] at hW
    have w_A76 : a4 76 = (40, .inl r2.2.2.2.2.2.2.2.1) := (hoa4 76 rfl).trans w_A76
    have w_A77 : a4 77 = (40, .inl r2.2.2.2.2.2.2.2.2.1) := (hoa4 77 rfl).trans w_A77
    have w_A78 : a4 78 = (40, .inl r2.2.2.2.2.2.2.2.2.2.1) := (hoa4 78 rfl).trans w_A78
    have w_A79 : a4 79 = (6001, .inr (.inl r2.2.2.2.2.2.2.2.2.2.2.1)) := (hoa4 79 rfl).trans w_A79
    have w_A80 : a4 80 = (16384, .inl r2.2.2.2.2.2.2.2.2.2.2.2.1) := (hoa4 80 rfl).trans w_A80
    have w_A81 : a4 81 = (6002, .inl r2.2.2.2.2.2.2.2.2.2.2.2.2.1) := (hoa4 81 rfl).trans w_A81
    have w_A82 : a4 82 = (84000, .inl r2.2.2.2.2.2.2.2.2.2.2.2.2.2.1) := (hoa4 82 rfl).trans w_A82
    have w_A83 : a4 83 = (84000, .inl r2.2.2.2.2.2.2.2.2.2.2.2.2.2.2.1) := (hoa4 83 rfl).trans w_A83
    have w_A84 : a4 84 = (84000, .inl r2.2.2.2.2.2.2.2.2.2.2.2.2.2.2.2.1) := (hoa4 84 rfl).trans w_A84
    have w_A85 : a4 85 = (84000, .inl r2.2.2.2.2.2.2.2.2.2.2.2.2.2.2.2.2.1) := (hoa4 85 rfl).trans w_A85
    have w_A86 : a4 86 = (84000, .inl r2.2.2.2.2.2.2.2.2.2.2.2.2.2.2.2.2.2) := (hoa4 86 rfl).trans w_A86
    have w_A97 : a4 97 = (6001, .inl r4) := hp4_A97
    have hoffa := offm hoffa hoa4 (by decide +kernel)
    refine lv_aload_n hx hb dX12_steps_28 rfl (lv_at hl 0 rfl) ?_
    refine gf12_49 hx hb hG hown hW (o := 69) (ltN hN 69 rfl) gk69 (v := .ref (q 97)) (sh69_49 hsh) gx195 dX12_steps_29 ?_
    refine lv_iconst (v := 0) hx hb dX12_steps_32 (by decide) ?_
    refine g_iald hx hb hW (o := 97) (ltN hN 97 rfl) gk97 w_A97 (vin (by decide)) dX12_steps_33 ?_
    have hs0 := Option.some.inj hs0
    subst hs0
    exact W.zret hx hb hr rfl (fun t ht hw => ⟨⟨_, (m2, a4), rfl, ⟨rfl, w_x69_18, w_x69_19, w_x69_20, w_x69_21, w_x69_22, w_x69_27, w_x69_35, hoff, w_A76, w_A77, w_A78, w_A79, w_A80, w_A81, w_A82, w_A83, w_A84, w_A85, w_A86, w_A97, hoffa⟩, g_end hW ht hw⟩, hS.F ht⟩) hS.2.2 dX12_steps_34 hlocks
  · rw [if_pos c3] at hs0
    refine lv_bipush (v := (-3)) hx hb dX12_steps_20 (by decide) ?_
    have hs0 := Option.some.inj hs0
    subst hs0
    exact W.zret hx hb hr rfl (fun t ht hw => ⟨⟨_, (m2, a2), rfl, ⟨rfl, w_x69_18, w_x69_19, w_x69_20, w_x69_21, w_x69_22, w_x69_27, w_x69_35, hoff, w_A76, w_A77, w_A78, w_A79, w_A80, w_A81, w_A82, w_A83, w_A84, w_A85, w_A86, w_A97, hoffa⟩, g_end hW ht hw⟩, hS.F ht⟩) hS.2.2 dX12_steps_22 hlocks
-- HealLinkModel.enough ()I
def fX12_enough_J40 (F : Nat) (x69_0 : Int32) (x69_1 : Int32) (x69_3 : Int32) (x69_4 : Int64) (v1 : Int32) (v2j6 : Int32) (s0j6 : Int32) (s1j6 : Int32) (s2j6 : Int32) (s3j6 : Int64) (x69_18 : Int32) (x69_19j6 : Int64) (x69_20j6 : Int32) (x69_21j6 : Int32) (x69_22j6 : Int32) (x69_27j6 : Int32) (x69_35j6 : Int32) (x69_43j6 : Int32) (x69_44j6 : Int32) (x69_45j6 : Int32) (A76j6 : Nat → Int32) (A77j6 : Nat → Int32) (A78j6 : Nat → Int32) (A79j6 : Nat → Int64) (A80j6 : Nat → Int32) (A81j6 : Nat → Int32) (A82j6 : Nat → Int32) (A83j6 : Nat → Int32) (A84j6 : Nat → Int32) (A85j6 : Nat → Int32) (A86j6 : Nat → Int32) (A87j6 : Nat → Int32) (A88j6 : Nat → Int32) (A89j6 : Nat → Int32) (A90j6 : Nat → Int32) (A91j6 : Nat → Int32) (A92j6 : Nat → Int32) (A93j6 : Nat → Int32) (A94j6 : Nat → Int32) (A95j6 : Nat → Int32) (A96j6 : Nat → Int32) : Option (((Int64 × Int32 × Int32 × Int32 × Int32 × Int32 × Int32 × Int32 × Int32 × (Nat → Int32) × (Nat → Int32) × (Nat → Int32) × (Nat → Int64) × (Nat → Int32) × (Nat → Int32) × (Nat → Int32) × (Nat → Int32) × (Nat → Int32) × (Nat → Int32) × (Nat → Int32) × (Nat → Int32) × (Nat → Int32) × (Nat → Int32) × (Nat → Int32) × (Nat → Int32) × (Nat → Int32) × (Nat → Int32) × (Nat → Int32) × (Nat → Int32) × (Nat → Int32)) ⊕ (Int32 × Int64 × Int32 × Int32 × Int32 × Int32 × Int32 × Int32 × Int32 × Int32 × (Nat → Int32) × (Nat → Int32) × (Nat → Int32) × (Nat → Int64) × (Nat → Int32) × (Nat → Int32) × (Nat → Int32) × (Nat → Int32) × (Nat → Int32) × (Nat → Int32) × (Nat → Int32) × (Nat → Int32) × (Nat → Int32) × (Nat → Int32) × (Nat → Int32) × (Nat → Int32) × (Nat → Int32) × (Nat → Int32) × (Nat → Int32) × (Nat → Int32) × (Nat → Int32)) ⊕ (Int64 × Int32 × Int32 × Int32 × Int32 × Int32 × Int32 × Int32 × Int32 × (Nat → Int32) × (Nat → Int32) × (Nat → Int32) × (Nat → Int64) × (Nat → Int32) × (Nat → Int32) × (Nat → Int32) × (Nat → Int32) × (Nat → Int32) × (Nat → Int32) × (Nat → Int32) × (Nat → Int32) × (Nat → Int32) × (Nat → Int32) × (Nat → Int32) × (Nat → Int32) × (Nat → Int32) × (Nat → Int32) × (Nat → Int32) × (Nat → Int32) × (Nat → Int32))) ⊕ (Int32 × Int64 × Int32 × Int32 × Int32 × Int32 × Int32 × Int32 × Int32 × Int32 × (Nat → Int32) × (Nat → Int32) × (Nat → Int32) × (Nat → Int64) × (Nat → Int32) × (Nat → Int32) × (Nat → Int32) × (Nat → Int32) × (Nat → Int32) × (Nat → Int32) × (Nat → Int32) × (Nat → Int32) × (Nat → Int32) × (Nat → Int32) × (Nat → Int32) × (Nat → Int32) × (Nat → Int32) × (Nat → Int32) × (Nat → Int32) × (Nat → Int32) × (Nat → Int32))) := ((fX12_reaches F x69_0 x69_1 x69_3 x69_19j6 x69_20j6 x69_21j6 x69_22j6 x69_27j6 x69_35j6 A76j6 A77j6 A78j6 A79j6 A80j6 A81j6 A82j6 A83j6 A84j6 A85j6 A86j6 (fX12_put s3j6 s2j6 s1j6 s0j6) v2j6).bind (fun r8 => (if r8.1 = 0 then some (Sum.inl (Sum.inl (r8.2.1, r8.2.2.1, r8.2.2.2.1, r8.2.2.2.2.1, r8.2.2.2.2.2.1, r8.2.2.2.2.2.2.1, x69_43j6, x69_44j6, x69_45j6, r8.2.2.2.2.2.2.2.1, r8.2.2.2.2.2.2.2.2.1, r8.2.2.2.2.2.2.2.2.2.1, r8.2.2.2.2.2.2.2.2.2.2.1, r8.2.2.2.2.2.2.2.2.2.2.2.1, r8.2.2.2.2.2.2.2.2.2.2.2.2.1, r8.2.2.2.2.2.2.2.2.2.2.2.2.2.1, r8.2.2.2.2.2.2.2.2.2.2.2.2.2.2.1, r8.2.2.2.2.2.2.2.2.2.2.2.2.2.2.2.1, r8.2.2.2.2.2.2.2.2.2.2.2.2.2.2.2.2.1, r8.2.2.2.2.2.2.2.2.2.2.2.2.2.2.2.2.2, A87j6, A88j6, A89j6, A90j6, A91j6, A92j6, A93j6, A94j6, A95j6, A96j6))) else ((fX12_laysWorst F r8.2.2.2.2.2.1 r8.2.2.2.2.2.2.2.2.2.2.2.2.1 r8.2.2.2.2.2.2.2.2.2.2.2.2.2.1 r8.2.2.2.2.2.2.2.2.2.2.2.2.2.2.1 x69_43j6 x69_44j6 x69_45j6 A87j6 A88j6 A89j6 A90j6 A91j6 A92j6 A93j6 A94j6 A95j6 A96j6).bind (fun r10 => (if inb (r10.2.2.2.1 (0 : Int32).toNatClampNeg) 6001 = true then (if 1000000 ≤ (r10.2.2.2.2.2.2.2.2.2.2.1 (r10.2.2.2.1 (0 : Int32).toNatClampNeg).toNatClampNeg) then some (Sum.inr (v2j6 + 1, r8.2.1, r8.2.2.1, r8.2.2.2.1, r8.2.2.2.2.1, r8.2.2.2.2.2.1, r8.2.2.2.2.2.2.1, r10.1, r10.2.1, r10.2.2.1, r8.2.2.2.2.2.2.2.1, r8.2.2.2.2.2.2.2.2.1, r8.2.2.2.2.2.2.2.2.2.1, r8.2.2.2.2.2.2.2.2.2.2.1, r8.2.2.2.2.2.2.2.2.2.2.2.1, r8.2.2.2.2.2.2.2.2.2.2.2.2.1, r8.2.2.2.2.2.2.2.2.2.2.2.2.2.1, r8.2.2.2.2.2.2.2.2.2.2.2.2.2.2.1, r8.2.2.2.2.2.2.2.2.2.2.2.2.2.2.2.1, r8.2.2.2.2.2.2.2.2.2.2.2.2.2.2.2.2.1, r8.2.2.2.2.2.2.2.2.2.2.2.2.2.2.2.2.2, r10.2.2.2.1, r10.2.2.2.2.1, r10.2.2.2.2.2.1, r10.2.2.2.2.2.2.1, r10.2.2.2.2.2.2.2.1, r10.2.2.2.2.2.2.2.2.1, r10.2.2.2.2.2.2.2.2.2.1, r10.2.2.2.2.2.2.2.2.2.2.1, r10.2.2.2.2.2.2.2.2.2.2.2.1, r10.2.2.2.2.2.2.2.2.2.2.2.2)) else some (Sum.inl (Sum.inr (Sum.inl (v2j6, r8.2.1, r8.2.2.1, r8.2.2.2.1, r8.2.2.2.2.1, r8.2.2.2.2.2.1, r8.2.2.2.2.2.2.1, r10.1, r10.2.1, r10.2.2.1, r8.2.2.2.2.2.2.2.1, r8.2.2.2.2.2.2.2.2.1, r8.2.2.2.2.2.2.2.2.2.1, r8.2.2.2.2.2.2.2.2.2.2.1, r8.2.2.2.2.2.2.2.2.2.2.2.1, r8.2.2.2.2.2.2.2.2.2.2.2.2.1, r8.2.2.2.2.2.2.2.2.2.2.2.2.2.1, r8.2.2.2.2.2.2.2.2.2.2.2.2.2.2.1, r8.2.2.2.2.2.2.2.2.2.2.2.2.2.2.2.1, r8.2.2.2.2.2.2.2.2.2.2.2.2.2.2.2.2.1, r8.2.2.2.2.2.2.2.2.2.2.2.2.2.2.2.2.2, r10.2.2.2.1, r10.2.2.2.2.1, r10.2.2.2.2.2.1, r10.2.2.2.2.2.2.1, r10.2.2.2.2.2.2.2.1, r10.2.2.2.2.2.2.2.2.1, r10.2.2.2.2.2.2.2.2.2.1, r10.2.2.2.2.2.2.2.2.2.2.1, r10.2.2.2.2.2.2.2.2.2.2.2.1, r10.2.2.2.2.2.2.2.2.2.2.2.2))))) else none))))))
def fX12_enough_S17 (F : Nat) (x69_0 : Int32) (x69_1 : Int32) (x69_3 : Int32) (x69_4 : Int64) (v1 : Int32) (x69_18 : Int32) (v2 : Int32) (x69_19 : Int64) (x69_20 : Int32) (x69_21 : Int32) (x69_22 : Int32) (x69_27 : Int32) (x69_35 : Int32) (x69_43 : Int32) (x69_44 : Int32) (x69_45 : Int32) (A76 : Nat → Int32) (A77 : Nat → Int32) (A78 : Nat → Int32) (A79 : Nat → Int64) (A80 : Nat → Int32) (A81 : Nat → Int32) (A82 : Nat → Int32) (A83 : Nat → Int32) (A84 : Nat → Int32) (A85 : Nat → Int32) (A86 : Nat → Int32) (A87 : Nat → Int32) (A88 : Nat → Int32) (A89 : Nat → Int32) (A90 : Nat → Int32) (A91 : Nat → Int32) (A92 : Nat → Int32) (A93 : Nat → Int32) (A94 : Nat → Int32) (A95 : Nat → Int32) (A96 : Nat → Int32) : Option (((Int64 × Int32 × Int32 × Int32 × Int32 × Int32 × Int32 × Int32 × Int32 × (Nat → Int32) × (Nat → Int32) × (Nat → Int32) × (Nat → Int64) × (Nat → Int32) × (Nat → Int32) × (Nat → Int32) × (Nat → Int32) × (Nat → Int32) × (Nat → Int32) × (Nat → Int32) × (Nat → Int32) × (Nat → Int32) × (Nat → Int32) × (Nat → Int32) × (Nat → Int32) × (Nat → Int32) × (Nat → Int32) × (Nat → Int32) × (Nat → Int32) × (Nat → Int32)) ⊕ (Int32 × Int64 × Int32 × Int32 × Int32 × Int32 × Int32 × Int32 × Int32 × Int32 × (Nat → Int32) × (Nat → Int32) × (Nat → Int32) × (Nat → Int64) × (Nat → Int32) × (Nat → Int32) × (Nat → Int32) × (Nat → Int32) × (Nat → Int32) × (Nat → Int32) × (Nat → Int32) × (Nat → Int32) × (Nat → Int32) × (Nat → Int32) × (Nat → Int32) × (Nat → Int32) × (Nat → Int32) × (Nat → Int32) × (Nat → Int32) × (Nat → Int32) × (Nat → Int32)) ⊕ (Int64 × Int32 × Int32 × Int32 × Int32 × Int32 × Int32 × Int32 × Int32 × (Nat → Int32) × (Nat → Int32) × (Nat → Int32) × (Nat → Int64) × (Nat → Int32) × (Nat → Int32) × (Nat → Int32) × (Nat → Int32) × (Nat → Int32) × (Nat → Int32) × (Nat → Int32) × (Nat → Int32) × (Nat → Int32) × (Nat → Int32) × (Nat → Int32) × (Nat → Int32) × (Nat → Int32) × (Nat → Int32) × (Nat → Int32) × (Nat → Int32) × (Nat → Int32))) ⊕ (Int32 × Int64 × Int32 × Int32 × Int32 × Int32 × Int32 × Int32 × Int32 × Int32 × (Nat → Int32) × (Nat → Int32) × (Nat → Int32) × (Nat → Int64) × (Nat → Int32) × (Nat → Int32) × (Nat → Int32) × (Nat → Int32) × (Nat → Int32) × (Nat → Int32) × (Nat → Int32) × (Nat → Int32) × (Nat → Int32) × (Nat → Int32) × (Nat → Int32) × (Nat → Int32) × (Nat → Int32) × (Nat → Int32) × (Nat → Int32) × (Nat → Int32) × (Nat → Int32))) := (if 8 ≤ v2 then some (Sum.inl (Sum.inr (Sum.inr ((x69_19, x69_20, x69_21, x69_22, x69_27, x69_35, x69_43, x69_44, x69_45, A76, A77, A78, A79, A80, A81, A82, A83, A84, A85, A86, A87, A88, A89, A90, A91, A92, A93, A94, A95, A96))))) else (if v2 ≤ v1 then fX12_enough_J40 F x69_0 x69_1 x69_3 x69_4 v1 v2 0 3 3 x69_4 x69_18 x69_19 x69_20 x69_21 x69_22 x69_27 x69_35 x69_43 x69_44 x69_45 A76 A77 A78 A79 A80 A81 A82 A83 A84 A85 A86 A87 A88 A89 A90 A91 A92 A93 A94 A95 A96 else fX12_enough_J40 F x69_0 x69_1 x69_3 x69_4 v1 v2 v1 3 3 x69_4 x69_18 x69_19 x69_20 x69_21 x69_22 x69_27 x69_35 x69_43 x69_44 x69_45 A76 A77 A78 A79 A80 A81 A82 A83 A84 A85 A86 A87 A88 A89 A90 A91 A92 A93 A94 A95 A96))
def fX12_enough (F : Nat) (x69_0 : Int32) (x69_1 : Int32) (x69_3 : Int32) (x69_4 : Int64) (x69_18 : Int32) (x69_19 : Int64) (x69_20 : Int32) (x69_21 : Int32) (x69_22 : Int32) (x69_27 : Int32) (x69_35 : Int32) (x69_43 : Int32) (x69_44 : Int32) (x69_45 : Int32) (A76 : Nat → Int32) (A77 : Nat → Int32) (A78 : Nat → Int32) (A79 : Nat → Int64) (A80 : Nat → Int32) (A81 : Nat → Int32) (A82 : Nat → Int32) (A83 : Nat → Int32) (A84 : Nat → Int32) (A85 : Nat → Int32) (A86 : Nat → Int32) (A87 : Nat → Int32) (A88 : Nat → Int32) (A89 : Nat → Int32) (A90 : Nat → Int32) (A91 : Nat → Int32) (A92 : Nat → Int32) (A93 : Nat → Int32) (A94 : Nat → Int32) (A95 : Nat → Int32) (A96 : Nat → Int32) : Option (Int32 × Int32 × Int64 × Int32 × Int32 × Int32 × Int32 × Int32 × Int32 × Int32 × Int32 × (Nat → Int32) × (Nat → Int32) × (Nat → Int32) × (Nat → Int64) × (Nat → Int32) × (Nat → Int32) × (Nat → Int32) × (Nat → Int32) × (Nat → Int32) × (Nat → Int32) × (Nat → Int32) × (Nat → Int32) × (Nat → Int32) × (Nat → Int32) × (Nat → Int32) × (Nat → Int32) × (Nat → Int32) × (Nat → Int32) × (Nat → Int32) × (Nat → Int32) × (Nat → Int32)) := (gloop (fun u3 : (Int32 × Int64 × Int32 × Int32 × Int32 × Int32 × Int32 × Int32 × Int32 × Int32 × (Nat → Int32) × (Nat → Int32) × (Nat → Int32) × (Nat → Int64) × (Nat → Int32) × (Nat → Int32) × (Nat → Int32) × (Nat → Int32) × (Nat → Int32) × (Nat → Int32) × (Nat → Int32) × (Nat → Int32) × (Nat → Int32) × (Nat → Int32) × (Nat → Int32) × (Nat → Int32) × (Nat → Int32) × (Nat → Int32) × (Nat → Int32) × (Nat → Int32) × (Nat → Int32)) => fX12_enough_S17 F x69_0 x69_1 x69_3 x69_4 (fX12_get x69_4 3 3) 0 u3.1 u3.2.1 u3.2.2.1 u3.2.2.2.1 u3.2.2.2.2.1 u3.2.2.2.2.2.1 u3.2.2.2.2.2.2.1 u3.2.2.2.2.2.2.2.1 u3.2.2.2.2.2.2.2.2.1 u3.2.2.2.2.2.2.2.2.2.1 u3.2.2.2.2.2.2.2.2.2.2.1 u3.2.2.2.2.2.2.2.2.2.2.2.1 u3.2.2.2.2.2.2.2.2.2.2.2.2.1 u3.2.2.2.2.2.2.2.2.2.2.2.2.2.1 u3.2.2.2.2.2.2.2.2.2.2.2.2.2.2.1 u3.2.2.2.2.2.2.2.2.2.2.2.2.2.2.2.1 u3.2.2.2.2.2.2.2.2.2.2.2.2.2.2.2.2.1 u3.2.2.2.2.2.2.2.2.2.2.2.2.2.2.2.2.2.1 u3.2.2.2.2.2.2.2.2.2.2.2.2.2.2.2.2.2.2.1 u3.2.2.2.2.2.2.2.2.2.2.2.2.2.2.2.2.2.2.2.1 u3.2.2.2.2.2.2.2.2.2.2.2.2.2.2.2.2.2.2.2.2.1 u3.2.2.2.2.2.2.2.2.2.2.2.2.2.2.2.2.2.2.2.2.2.1 u3.2.2.2.2.2.2.2.2.2.2.2.2.2.2.2.2.2.2.2.2.2.2.1 u3.2.2.2.2.2.2.2.2.2.2.2.2.2.2.2.2.2.2.2.2.2.2.2.1 u3.2.2.2.2.2.2.2.2.2.2.2.2.2.2.2.2.2.2.2.2.2.2.2.2.1 u3.2.2.2.2.2.2.2.2.2.2.2.2.2.2.2.2.2.2.2.2.2.2.2.2.2.1 u3.2.2.2.2.2.2.2.2.2.2.2.2.2.2.2.2.2.2.2.2.2.2.2.2.2.2.1 u3.2.2.2.2.2.2.2.2.2.2.2.2.2.2.2.2.2.2.2.2.2.2.2.2.2.2.2.1 u3.2.2.2.2.2.2.2.2.2.2.2.2.2.2.2.2.2.2.2.2.2.2.2.2.2.2.2.2.1 u3.2.2.2.2.2.2.2.2.2.2.2.2.2.2.2.2.2.2.2.2.2.2.2.2.2.2.2.2.2.1 u3.2.2.2.2.2.2.2.2.2.2.2.2.2.2.2.2.2.2.2.2.2.2.2.2.2.2.2.2.2.2) F (1, x69_19, x69_20, x69_21, x69_22, x69_27, x69_35, x69_43, x69_44, x69_45, A76, A77, A78, A79, A80, A81, A82, A83, A84, A85, A86, A87, A88, A89, A90, A91, A92, A93, A94, A95, A96)).bind (Sum.elim (fun t3_50 => some ((-3), 0, t3_50.1, t3_50.2.1, t3_50.2.2.1, t3_50.2.2.2.1, t3_50.2.2.2.2.1, t3_50.2.2.2.2.2.1, t3_50.2.2.2.2.2.2.1, t3_50.2.2.2.2.2.2.2.1, t3_50.2.2.2.2.2.2.2.2.1, t3_50.2.2.2.2.2.2.2.2.2.1, t3_50.2.2.2.2.2.2.2.2.2.2.1, t3_50.2.2.2.2.2.2.2.2.2.2.2.1, t3_50.2.2.2.2.2.2.2.2.2.2.2.2.1, t3_50.2.2.2.2.2.2.2.2.2.2.2.2.2.1, t3_50.2.2.2.2.2.2.2.2.2.2.2.2.2.2.1, t3_50.2.2.2.2.2.2.2.2.2.2.2.2.2.2.2.1, t3_50.2.2.2.2.2.2.2.2.2.2.2.2.2.2.2.2.1, t3_50.2.2.2.2.2.2.2.2.2.2.2.2.2.2.2.2.2.1, t3_50.2.2.2.2.2.2.2.2.2.2.2.2.2.2.2.2.2.2.1, t3_50.2.2.2.2.2.2.2.2.2.2.2.2.2.2.2.2.2.2.2.1, t3_50.2.2.2.2.2.2.2.2.2.2.2.2.2.2.2.2.2.2.2.2.1, t3_50.2.2.2.2.2.2.2.2.2.2.2.2.2.2.2.2.2.2.2.2.2.1, t3_50.2.2.2.2.2.2.2.2.2.2.2.2.2.2.2.2.2.2.2.2.2.2.1, t3_50.2.2.2.2.2.2.2.2.2.2.2.2.2.2.2.2.2.2.2.2.2.2.2.1, t3_50.2.2.2.2.2.2.2.2.2.2.2.2.2.2.2.2.2.2.2.2.2.2.2.2.1, t3_50.2.2.2.2.2.2.2.2.2.2.2.2.2.2.2.2.2.2.2.2.2.2.2.2.2.1, t3_50.2.2.2.2.2.2.2.2.2.2.2.2.2.2.2.2.2.2.2.2.2.2.2.2.2.2.1, t3_50.2.2.2.2.2.2.2.2.2.2.2.2.2.2.2.2.2.2.2.2.2.2.2.2.2.2.2.1, t3_50.2.2.2.2.2.2.2.2.2.2.2.2.2.2.2.2.2.2.2.2.2.2.2.2.2.2.2.2.1, t3_50.2.2.2.2.2.2.2.2.2.2.2.2.2.2.2.2.2.2.2.2.2.2.2.2.2.2.2.2.2)) (Sum.elim (fun t3_74 => some (t3_74.1, 0, t3_74.2.1, t3_74.2.2.1, t3_74.2.2.2.1, t3_74.2.2.2.2.1, t3_74.2.2.2.2.2.1, t3_74.2.2.2.2.2.2.1, t3_74.2.2.2.2.2.2.2.1, t3_74.2.2.2.2.2.2.2.2.1, t3_74.2.2.2.2.2.2.2.2.2.1, t3_74.2.2.2.2.2.2.2.2.2.2.1, t3_74.2.2.2.2.2.2.2.2.2.2.2.1, t3_74.2.2.2.2.2.2.2.2.2.2.2.2.1, t3_74.2.2.2.2.2.2.2.2.2.2.2.2.2.1, t3_74.2.2.2.2.2.2.2.2.2.2.2.2.2.2.1, t3_74.2.2.2.2.2.2.2.2.2.2.2.2.2.2.2.1, t3_74.2.2.2.2.2.2.2.2.2.2.2.2.2.2.2.2.1, t3_74.2.2.2.2.2.2.2.2.2.2.2.2.2.2.2.2.2.1, t3_74.2.2.2.2.2.2.2.2.2.2.2.2.2.2.2.2.2.2.1, t3_74.2.2.2.2.2.2.2.2.2.2.2.2.2.2.2.2.2.2.2.1, t3_74.2.2.2.2.2.2.2.2.2.2.2.2.2.2.2.2.2.2.2.2.1, t3_74.2.2.2.2.2.2.2.2.2.2.2.2.2.2.2.2.2.2.2.2.2.1, t3_74.2.2.2.2.2.2.2.2.2.2.2.2.2.2.2.2.2.2.2.2.2.2.1, t3_74.2.2.2.2.2.2.2.2.2.2.2.2.2.2.2.2.2.2.2.2.2.2.2.1, t3_74.2.2.2.2.2.2.2.2.2.2.2.2.2.2.2.2.2.2.2.2.2.2.2.2.1, t3_74.2.2.2.2.2.2.2.2.2.2.2.2.2.2.2.2.2.2.2.2.2.2.2.2.2.1, t3_74.2.2.2.2.2.2.2.2.2.2.2.2.2.2.2.2.2.2.2.2.2.2.2.2.2.2.1, t3_74.2.2.2.2.2.2.2.2.2.2.2.2.2.2.2.2.2.2.2.2.2.2.2.2.2.2.2.1, t3_74.2.2.2.2.2.2.2.2.2.2.2.2.2.2.2.2.2.2.2.2.2.2.2.2.2.2.2.2.1, t3_74.2.2.2.2.2.2.2.2.2.2.2.2.2.2.2.2.2.2.2.2.2.2.2.2.2.2.2.2.2.1, t3_74.2.2.2.2.2.2.2.2.2.2.2.2.2.2.2.2.2.2.2.2.2.2.2.2.2.2.2.2.2.2)) (fun t3_82 => some ((-1), 0, t3_82.1, t3_82.2.1, t3_82.2.2.1, t3_82.2.2.2.1, t3_82.2.2.2.2.1, t3_82.2.2.2.2.2.1, t3_82.2.2.2.2.2.2.1, t3_82.2.2.2.2.2.2.2.1, t3_82.2.2.2.2.2.2.2.2.1, t3_82.2.2.2.2.2.2.2.2.2.1, t3_82.2.2.2.2.2.2.2.2.2.2.1, t3_82.2.2.2.2.2.2.2.2.2.2.2.1, t3_82.2.2.2.2.2.2.2.2.2.2.2.2.1, t3_82.2.2.2.2.2.2.2.2.2.2.2.2.2.1, t3_82.2.2.2.2.2.2.2.2.2.2.2.2.2.2.1, t3_82.2.2.2.2.2.2.2.2.2.2.2.2.2.2.2.1, t3_82.2.2.2.2.2.2.2.2.2.2.2.2.2.2.2.2.1, t3_82.2.2.2.2.2.2.2.2.2.2.2.2.2.2.2.2.2.1, t3_82.2.2.2.2.2.2.2.2.2.2.2.2.2.2.2.2.2.2.1, t3_82.2.2.2.2.2.2.2.2.2.2.2.2.2.2.2.2.2.2.2.1, t3_82.2.2.2.2.2.2.2.2.2.2.2.2.2.2.2.2.2.2.2.2.1, t3_82.2.2.2.2.2.2.2.2.2.2.2.2.2.2.2.2.2.2.2.2.2.1, t3_82.2.2.2.2.2.2.2.2.2.2.2.2.2.2.2.2.2.2.2.2.2.2.1, t3_82.2.2.2.2.2.2.2.2.2.2.2.2.2.2.2.2.2.2.2.2.2.2.2.1, t3_82.2.2.2.2.2.2.2.2.2.2.2.2.2.2.2.2.2.2.2.2.2.2.2.2.1, t3_82.2.2.2.2.2.2.2.2.2.2.2.2.2.2.2.2.2.2.2.2.2.2.2.2.2.1, t3_82.2.2.2.2.2.2.2.2.2.2.2.2.2.2.2.2.2.2.2.2.2.2.2.2.2.2.1, t3_82.2.2.2.2.2.2.2.2.2.2.2.2.2.2.2.2.2.2.2.2.2.2.2.2.2.2.2.1, t3_82.2.2.2.2.2.2.2.2.2.2.2.2.2.2.2.2.2.2.2.2.2.2.2.2.2.2.2.2.1, t3_82.2.2.2.2.2.2.2.2.2.2.2.2.2.2.2.2.2.2.2.2.2.2.2.2.2.2.2.2.2))))
theorem dX12_enough_0 : decode cX12_enough 0 = .ok (.aload_n 0, 1) := by decide +kernel
theorem dX12_enough_1 : decode cX12_enough 1 = .ok (.iconst 0, 1) := by decide +kernel
theorem dX12_enough_2 : decode cX12_enough 2 = .ok (.putfield 137, 3) := by decide +kernel
theorem dX12_enough_5 : decode cX12_enough 5 = .ok (.aload_n 0, 1) := by decide +kernel
theorem dX12_enough_6 : decode cX12_enough 6 = .ok (.getfield 133, 3) := by decide +kernel
theorem dX12_enough_9 : decode cX12_enough 9 = .ok (.iconst 3, 1) := by decide +kernel
theorem dX12_enough_10 : decode cX12_enough 10 = .ok (.iconst 3, 1) := by decide +kernel
theorem dX12_enough_11 : decode cX12_enough 11 = .ok (.invokestatic 142, 3) := by decide +kernel
theorem dX12_enough_14 : decode cX12_enough 14 = .ok (.istore_n 1, 1) := by decide +kernel
theorem dX12_enough_15 : decode cX12_enough 15 = .ok (.iconst 1, 1) := by decide +kernel
theorem dX12_enough_16 : decode cX12_enough 16 = .ok (.istore_n 2, 1) := by decide +kernel
theorem dX12_enough_17 : decode cX12_enough 17 = .ok (.iload_n 2, 1) := by decide +kernel
theorem dX12_enough_18 : decode cX12_enough 18 = .ok (.bipush 8, 2) := by decide +kernel
theorem dX12_enough_20 : decode cX12_enough 20 = .ok (.if_icmp .ge 62, 3) := by decide +kernel
theorem dX12_enough_23 : decode cX12_enough 23 = .ok (.aload_n 0, 1) := by decide +kernel
theorem dX12_enough_24 : decode cX12_enough 24 = .ok (.aload_n 0, 1) := by decide +kernel
theorem dX12_enough_25 : decode cX12_enough 25 = .ok (.getfield 133, 3) := by decide +kernel
theorem dX12_enough_28 : decode cX12_enough 28 = .ok (.iconst 3, 1) := by decide +kernel
theorem dX12_enough_29 : decode cX12_enough 29 = .ok (.iconst 3, 1) := by decide +kernel
theorem dX12_enough_30 : decode cX12_enough 30 = .ok (.iload_n 1, 1) := by decide +kernel
theorem dX12_enough_31 : decode cX12_enough 31 = .ok (.iload_n 2, 1) := by decide +kernel
theorem dX12_enough_32 : decode cX12_enough 32 = .ok (.if_icmp .ge 7, 3) := by decide +kernel
theorem dX12_enough_35 : decode cX12_enough 35 = .ok (.iload_n 1, 1) := by decide +kernel
theorem dX12_enough_36 : decode cX12_enough 36 = .ok (.goto 4, 3) := by decide +kernel
theorem dX12_enough_39 : decode cX12_enough 39 = .ok (.iconst 0, 1) := by decide +kernel
theorem dX12_enough_40 : decode cX12_enough 40 = .ok (.invokestatic 129, 3) := by decide +kernel
theorem dX12_enough_43 : decode cX12_enough 43 = .ok (.iload_n 2, 1) := by decide +kernel
theorem dX12_enough_44 : decode cX12_enough 44 = .ok (.invokevirtual 278, 3) := by decide +kernel
theorem dX12_enough_47 : decode cX12_enough 47 = .ok (.ifCond .ne 6, 3) := by decide +kernel
theorem dX12_enough_50 : decode cX12_enough 50 = .ok (.bipush (-3), 2) := by decide +kernel
theorem dX12_enough_52 : decode cX12_enough 52 = .ok (.ireturn, 1) := by decide +kernel
theorem dX12_enough_53 : decode cX12_enough 53 = .ok (.aload_n 0, 1) := by decide +kernel
theorem dX12_enough_54 : decode cX12_enough 54 = .ok (.invokevirtual 304, 3) := by decide +kernel
theorem dX12_enough_57 : decode cX12_enough 57 = .ok (.aload_n 0, 1) := by decide +kernel
theorem dX12_enough_58 : decode cX12_enough 58 = .ok (.getfield 98, 3) := by decide +kernel
theorem dX12_enough_61 : decode cX12_enough 61 = .ok (.aload_n 0, 1) := by decide +kernel
theorem dX12_enough_62 : decode cX12_enough 62 = .ok (.getfield 76, 3) := by decide +kernel
theorem dX12_enough_65 : decode cX12_enough 65 = .ok (.iconst 0, 1) := by decide +kernel
theorem dX12_enough_66 : decode cX12_enough 66 = .ok (.iaload, 1) := by decide +kernel
theorem dX12_enough_67 : decode cX12_enough 67 = .ok (.iaload, 1) := by decide +kernel
theorem dX12_enough_68 : decode cX12_enough 68 = .ok (.ldc_w 303, 3) := by decide +kernel
theorem dX12_enough_71 : decode cX12_enough 71 = .ok (.if_icmp .ge 5, 3) := by decide +kernel
theorem dX12_enough_74 : decode cX12_enough 74 = .ok (.iload_n 2, 1) := by decide +kernel
theorem dX12_enough_75 : decode cX12_enough 75 = .ok (.ireturn, 1) := by decide +kernel
theorem dX12_enough_76 : decode cX12_enough 76 = .ok (.iinc 2 1, 3) := by decide +kernel
theorem dX12_enough_79 : decode cX12_enough 79 = .ok (.goto (-62), 3) := by decide +kernel
theorem dX12_enough_82 : decode cX12_enough 82 = .ok (.iconst (-1), 1) := by decide +kernel
theorem dX12_enough_83 : decode cX12_enough 83 = .ok (.ireturn, 1) := by decide +kernel
set_option maxHeartbeats 4000000 in
set_option maxRecDepth 100000 in
theorem kX12_enough {l : Launch} {D : va_G} {cy : Nat → ClassId} {N : Nat} {q : Nat → Nat} {m0 : Nat → Value} {a0 : Nat → vp_A} {sz : Nat} (hN : 105 ≤ N) (hsh : SH q m0) {x69_0 : Int32} (h_x69_0 : m0 6900 = .int x69_0) {x69_1 : Int32} (h_x69_1 : m0 6901 = .int x69_1) {x69_3 : Int32} (h_x69_3 : m0 6903 = .int x69_3) {x69_4 : Int64} (h_x69_4 : m0 6904 = .long x69_4) {x69_18 : Int32} (h_x69_18 : m0 6918 = .int x69_18) {x69_19 : Int64} (h_x69_19 : m0 6919 = .long x69_19) {x69_20 : Int32} (h_x69_20 : m0 6920 = .int x69_20) {x69_21 : Int32} (h_x69_21 : m0 6921 = .int x69_21) {x69_22 : Int32} (h_x69_22 : m0 6922 = .int x69_22) {x69_27 : Int32} (h_x69_27 : m0 6927 = .int x69_27) {x69_35 : Int32} (h_x69_35 : m0 6935 = .int x69_35) {x69_43 : Int32} (h_x69_43 : m0 6943 = .int x69_43) {x69_44 : Int32} (h_x69_44 : m0 6944 = .int x69_44) {x69_45 : Int32} (h_x69_45 : m0 6945 = .int x69_45) {A76 : Nat → Int32} (h_A76 : a0 76 = (40, .inl A76)) {A77 : Nat → Int32} (h_A77 : a0 77 = (40, .inl A77)) {A78 : Nat → Int32} (h_A78 : a0 78 = (40, .inl A78)) {A79 : Nat → Int64} (h_A79 : a0 79 = (6001, .inr (.inl A79))) {A80 : Nat → Int32} (h_A80 : a0 80 = (16384, .inl A80)) {A81 : Nat → Int32} (h_A81 : a0 81 = (6002, .inl A81)) {A82 : Nat → Int32} (h_A82 : a0 82 = (84000, .inl A82)) {A83 : Nat → Int32} (h_A83 : a0 83 = (84000, .inl A83)) {A84 : Nat → Int32} (h_A84 : a0 84 = (84000, .inl A84)) {A85 : Nat → Int32} (h_A85 : a0 85 = (84000, .inl A85)) {A86 : Nat → Int32} (h_A86 : a0 86 = (84000, .inl A86)) {A87 : Nat → Int32} (h_A87 : a0 87 = (6001, .inl A87)) {A88 : Nat → Int32} (h_A88 : a0 88 = (6001, .inl A88)) {A89 : Nat → Int32} (h_A89 : a0 89 = (6001, .inl A89)) {A90 : Nat → Int32} (h_A90 : a0 90 = (6001, .inl A90)) {A91 : Nat → Int32} (h_A91 : a0 91 = (6001, .inl A91)) {A92 : Nat → Int32} (h_A92 : a0 92 = (6001, .inl A92)) {A93 : Nat → Int32} (h_A93 : a0 93 = (6001, .inl A93)) {A94 : Nat → Int32} (h_A94 : a0 94 = (6001, .inl A94)) {A95 : Nat → Int32} (h_A95 : a0 95 = (6001, .inl A95)) {A96 : Nat → Int32} (h_A96 : a0 96 = (6002, .inl A96)) (F : Nat) {X0 : Int32 × Int32 × Int64 × Int32 × Int32 × Int32 × Int32 × Int32 × Int32 × Int32 × Int32 × (Nat → Int32) × (Nat → Int32) × (Nat → Int32) × (Nat → Int64) × (Nat → Int32) × (Nat → Int32) × (Nat → Int32) × (Nat → Int32) × (Nat → Int32) × (Nat → Int32) × (Nat → Int32) × (Nat → Int32) × (Nat → Int32) × (Nat → Int32) × (Nat → Int32) × (Nat → Int32) × (Nat → Int32) × (Nat → Int32) × (Nat → Int32) × (Nat → Int32) × (Nat → Int32)} (hs0 : fX12_enough F x69_0 x69_1 x69_3 x69_4 x69_18 x69_19 x69_20 x69_21 x69_22 x69_27 x69_35 x69_43 x69_44 x69_45 A76 A77 A78 A79 A80 A81 A82 A83 A84 A85 A86 A87 A88 A89 A90 A91 A92 A93 A94 A95 A96 = some X0) : gMi l yX12_enough cX12_enough 3 (some .int) ({ frames := 8, cells := 0, slots := 0, locals := 188 } : Room) D cy N q m0 a0 sz [.ref (q 69)] (fun r m' a' => r = X0.1 ∧ m' 6918 = .int X0.2.1 ∧ m' 6919 = .long X0.2.2.1 ∧ m' 6920 = .int X0.2.2.2.1 ∧ m' 6921 = .int X0.2.2.2.2.1 ∧ m' 6922 = .int X0.2.2.2.2.2.1 ∧ m' 6927 = .int X0.2.2.2.2.2.2.1 ∧ m' 6935 = .int X0.2.2.2.2.2.2.2.1 ∧ m' 6943 = .int X0.2.2.2.2.2.2.2.2.1 ∧ m' 6944 = .int X0.2.2.2.2.2.2.2.2.2.1 ∧ m' 6945 = .int X0.2.2.2.2.2.2.2.2.2.2.1 ∧ (∀ j, nel j [6918, 6919, 6920, 6921, 6922, 6927, 6935, 6943, 6944, 6945] = false → m' j = m0 j) ∧ a' 76 = (40, .inl X0.2.2.2.2.2.2.2.2.2.2.2.1) ∧ a' 77 = (40, .inl X0.2.2.2.2.2.2.2.2.2.2.2.2.1) ∧ a' 78 = (40, .inl X0.2.2.2.2.2.2.2.2.2.2.2.2.2.1) ∧ a' 79 = (6001, .inr (.inl X0.2.2.2.2.2.2.2.2.2.2.2.2.2.2.1)) ∧ a' 80 = (16384, .inl X0.2.2.2.2.2.2.2.2.2.2.2.2.2.2.2.1) ∧ a' 81 = (6002, .inl X0.2.2.2.2.2.2.2.2.2.2.2.2.2.2.2.2.1) ∧ a' 82 = (84000, .inl X0.2.2.2.2.2.2.2.2.2.2.2.2.2.2.2.2.2.1) ∧ a' 83 = (84000, .inl X0.2.2.2.2.2.2.2.2.2.2.2.2.2.2.2.2.2.2.1) ∧ a' 84 = (84000, .inl X0.2.2.2.2.2.2.2.2.2.2.2.2.2.2.2.2.2.2.2.1) ∧ a' 85 = (84000, .inl X0.2.2.2.2.2.2.2.2.2.2.2.2.2.2.2.2.2.2.2.2.1) ∧ a' 86 = (84000, .inl X0.2.2.2.2.2.2.2.2.2.2.2.2.2.2.2.2.2.2.2.2.2.1) ∧ a' 87 = (6001, .inl X0.2.2.2.2.2.2.2.2.2.2.2.2.2.2.2.2.2.2.2.2.2.2.1) ∧ a' 88 = (6001, .inl X0.2.2.2.2.2.2.2.2.2.2.2.2.2.2.2.2.2.2.2.2.2.2.2.1) ∧ a' 89 = (6001, .inl X0.2.2.2.2.2.2.2.2.2.2.2.2.2.2.2.2.2.2.2.2.2.2.2.2.1) ∧ a' 90 = (6001, .inl X0.2.2.2.2.2.2.2.2.2.2.2.2.2.2.2.2.2.2.2.2.2.2.2.2.2.1) ∧ a' 91 = (6001, .inl X0.2.2.2.2.2.2.2.2.2.2.2.2.2.2.2.2.2.2.2.2.2.2.2.2.2.2.1) ∧ a' 92 = (6001, .inl X0.2.2.2.2.2.2.2.2.2.2.2.2.2.2.2.2.2.2.2.2.2.2.2.2.2.2.2.1) ∧ a' 93 = (6001, .inl X0.2.2.2.2.2.2.2.2.2.2.2.2.2.2.2.2.2.2.2.2.2.2.2.2.2.2.2.2.1) ∧ a' 94 = (6001, .inl X0.2.2.2.2.2.2.2.2.2.2.2.2.2.2.2.2.2.2.2.2.2.2.2.2.2.2.2.2.2.1) ∧ a' 95 = (6001, .inl X0.2.2.2.2.2.2.2.2.2.2.2.2.2.2.2.2.2.2.2.2.2.2.2.2.2.2.2.2.2.2.1) ∧ a' 96 = (6002, .inl X0.2.2.2.2.2.2.2.2.2.2.2.2.2.2.2.2.2.2.2.2.2.2.2.2.2.2.2.2.2.2.2) ∧ (∀ j, nel j [76, 77, 78, 79, 80, 81, 82, 83, 84, 85, 86, 87, 88, 89, 90, 91, 92, 93, 94, 95, 96] = false → a' j = a0 j)) := by
  refine g_ofi (by decide) (Nat.le_of_ble_eq_true rfl) ?_
  intro p e s M args below meth c hx hb hr hG hown hin hlocks hml hW hS ls hl
  unfold fX12_enough at hs0
  have hoff : ∀ j, nel j [6918, 6919, 6920, 6921, 6922, 6927, 6935, 6943, 6944, 6945] = false → m0 j = m0 j := off0
  have hoffa : ∀ j, nel j [76, 77, 78, 79, 80, 81, 82, 83, 84, 85, 86, 87, 88, 89, 90, 91, 92, 93, 94, 95, 96] = false → a0 j = a0 j := off0
  refine lv_aload_n hx hb dX12_enough_0 rfl (lv_at hl 0 rfl) ?_
  refine lv_iconst (v := 0) hx hb dX12_enough_1 (by decide) ?_
  refine gp12_18 hx hb hG hown hW hS (o := 69) (ltN hN 69 rfl) gk69 (v := 0) gx246 dX12_enough_2 (fun m1 H locs hm1 ho1 hW hS => ?_)
  have ho1 := off1 ho1
  have w_x69_18 : m1 6918 = .int 0 := hm1
  have w_x69_19 : m1 6919 = .long x69_19 := (ho1 6919 rfl).trans h_x69_19
  have w_x69_20 : m1 6920 = .int x69_20 := (ho1 6920 rfl).trans h_x69_20
  have w_x69_21 : m1 6921 = .int x69_21 := (ho1 6921 rfl).trans h_x69_21
  have w_x69_22 : m1 6922 = .int x69_22 := (ho1 6922 rfl).trans h_x69_22
  have w_x69_27 : m1 6927 = .int x69_27 := (ho1 6927 rfl).trans h_x69_27
  have w_x69_35 : m1 6935 = .int x69_35 := (ho1 6935 rfl).trans h_x69_35
  have w_x69_43 : m1 6943 = .int x69_43 := (ho1 6943 rfl).trans h_x69_43
  have w_x69_44 : m1 6944 = .int x69_44 := (ho1 6944 rfl).trans h_x69_44
  have w_x69_45 : m1 6945 = .int x69_45 := (ho1 6945 rfl).trans h_x69_45
  have hoff := offm hoff ho1 (by decide +kernel)
  have hsh := SH.off hsh ho1 (by decide +kernel)
  refine lv_aload_n hx hb dX12_enough_5 rfl (lv_at hl 0 rfl) ?_
  refine gf12_4 hx hb hG hown hW (o := 69) (ltN hN 69 rfl) gk69 (v := .long x69_4) ((hoff 6904 rfl).trans h_x69_4) gx202 dX12_enough_6 ?_
  refine lv_iconst (v := 3) hx hb dX12_enough_9 (by decide) ?_
  refine lv_iconst (v := 3) hx hb dX12_enough_10 (by decide) ?_
  refine g_SiR (n := 3) hx hb hml hown hG hW hS [.long x69_4, .int 3, .int 3] (kX12_get hN x69_4 3 3) rfl (gd_S gx304 gx305 gx5 gx306) rfl rfl (by decide) ⟨Nat.le_of_ble_eq_true rfl, Nat.le_of_ble_eq_true rfl⟩ rfl hl (Nat.le_of_ble_eq_true rfl) ⟨Nat.zero_le _, Nat.zero_le _⟩ dX12_enough_11 (fun H locs hW hS => ?_)
  refine lv_istore_n (lv' := [(1, .int (fX12_get x69_4 3 3)), (0, .ref (q 69))]) hx hb dX12_enough_14 rfl hl (by decide) rfl (fun ls hl => ?_)
  refine lv_iconst (v := 1) hx hb dX12_enough_15 (by decide) ?_
  refine lv_istore_n (lv' := [(2, .int 1), (1, .int (fX12_get x69_4 3 3)), (0, .ref (q 69))]) hx hb dX12_enough_16 rfl hl (by decide) rfl (fun ls hl => ?_)
  obtain ⟨r3, hg3, hs0⟩ := obind hs0
  have hE1_50 : ∀ (t3_50 : Int64 × Int32 × Int32 × Int32 × Int32 × Int32 × Int32 × Int32 × Int32 × (Nat → Int32) × (Nat → Int32) × (Nat → Int32) × (Nat → Int64) × (Nat → Int32) × (Nat → Int32) × (Nat → Int32) × (Nat → Int32) × (Nat → Int32) × (Nat → Int32) × (Nat → Int32) × (Nat → Int32) × (Nat → Int32) × (Nat → Int32) × (Nat → Int32) × (Nat → Int32) × (Nat → Int32) × (Nat → Int32) × (Nat → Int32) × (Nat → Int32) × (Nat → Int32)) (hr3 : Sum.inl t3_50 = r3) (m : Nat → Value) (a : Nat → vp_A) (H : Heap) (locs : List Loc) (w_x69_18 : m 6918 = .int 0) (w_x69_19 : m 6919 = .long t3_50.1) (w_x69_20 : m 6920 = .int t3_50.2.1) (w_x69_21 : m 6921 = .int t3_50.2.2.1) (w_x69_22 : m 6922 = .int t3_50.2.2.2.1) (w_x69_27 : m 6927 = .int t3_50.2.2.2.2.1) (w_x69_35 : m 6935 = .int t3_50.2.2.2.2.2.1) (w_x69_43 : m 6943 = .int t3_50.2.2.2.2.2.2.1) (w_x69_44 : m 6944 = .int t3_50.2.2.2.2.2.2.2.1) (w_x69_45 : m 6945 = .int t3_50.2.2.2.2.2.2.2.2.1) (hoff : ∀ j, nel j [6918, 6919, 6920, 6921, 6922, 6927, 6935, 6943, 6944, 6945] = false → m j = m0 j) (hsh : SH q m) (w_A76 : a 76 = (40, .inl t3_50.2.2.2.2.2.2.2.2.2.1)) (w_A77 : a 77 = (40, .inl t3_50.2.2.2.2.2.2.2.2.2.2.1)) (w_A78 : a 78 = (40, .inl t3_50.2.2.2.2.2.2.2.2.2.2.2.1)) (w_A79 : a 79 = (6001, .inr (.inl t3_50.2.2.2.2.2.2.2.2.2.2.2.2.1))) (w_A80 : a 80 = (16384, .inl t3_50.2.2.2.2.2.2.2.2.2.2.2.2.2.1)) (w_A81 : a 81 = (6002, .inl t3_50.2.2.2.2.2.2.2.2.2.2.2.2.2.2.1)) (w_A82 : a 82 = (84000, .inl t3_50.2.2.2.2.2.2.2.2.2.2.2.2.2.2.2.1)) (w_A83 : a 83 = (84000, .inl t3_50.2.2.2.2.2.2.2.2.2.2.2.2.2.2.2.2.1)) (w_A84 : a 84 = (84000, .inl t3_50.2.2.2.2.2.2.2.2.2.2.2.2.2.2.2.2.2.1)) (w_A85 : a 85 = (84000, .inl t3_50.2.2.2.2.2.2.2.2.2.2.2.2.2.2.2.2.2.2.1)) (w_A86 : a 86 = (84000, .inl t3_50.2.2.2.2.2.2.2.2.2.2.2.2.2.2.2.2.2.2.2.1)) (w_A87 : a 87 = (6001, .inl t3_50.2.2.2.2.2.2.2.2.2.2.2.2.2.2.2.2.2.2.2.2.1)) (w_A88 : a 88 = (6001, .inl t3_50.2.2.2.2.2.2.2.2.2.2.2.2.2.2.2.2.2.2.2.2.2.1)) (w_A89 : a 89 = (6001, .inl t3_50.2.2.2.2.2.2.2.2.2.2.2.2.2.2.2.2.2.2.2.2.2.2.1)) (w_A90 : a 90 = (6001, .inl t3_50.2.2.2.2.2.2.2.2.2.2.2.2.2.2.2.2.2.2.2.2.2.2.2.1)) (w_A91 : a 91 = (6001, .inl t3_50.2.2.2.2.2.2.2.2.2.2.2.2.2.2.2.2.2.2.2.2.2.2.2.2.1)) (w_A92 : a 92 = (6001, .inl t3_50.2.2.2.2.2.2.2.2.2.2.2.2.2.2.2.2.2.2.2.2.2.2.2.2.2.1)) (w_A93 : a 93 = (6001, .inl t3_50.2.2.2.2.2.2.2.2.2.2.2.2.2.2.2.2.2.2.2.2.2.2.2.2.2.2.1)) (w_A94 : a 94 = (6001, .inl t3_50.2.2.2.2.2.2.2.2.2.2.2.2.2.2.2.2.2.2.2.2.2.2.2.2.2.2.2.1)) (w_A95 : a 95 = (6001, .inl t3_50.2.2.2.2.2.2.2.2.2.2.2.2.2.2.2.2.2.2.2.2.2.2.2.2.2.2.2.2.1)) (w_A96 : a 96 = (6002, .inl t3_50.2.2.2.2.2.2.2.2.2.2.2.2.2.2.2.2.2.2.2.2.2.2.2.2.2.2.2.2.2)) (hoffa : ∀ j, nel j [76, 77, 78, 79, 80, 81, 82, 83, 84, 85, 86, 87, 88, 89, 90, 91, 92, 93, 94, 95, 96] = false → a j = a0 j) (ls : Array Slot) (hl : lv_has ls 3 []) (hW : GW D cy (gA N q s.heap.size) N q m a s H) (hS : va_S (gA N q s.heap.size) s.heap H locs), W p l e ({ frames := 8, cells := 0, slots := 0, locals := 188 } : Room) s M args below meth c H locs 0 0 (MQ below (va_Qi (fun (r : Int32) (u : (Nat → Value) × (Nat → vp_A)) => r = X0.1 ∧ u.1 6918 = .int X0.2.1 ∧ u.1 6919 = .long X0.2.2.1 ∧ u.1 6920 = .int X0.2.2.2.1 ∧ u.1 6921 = .int X0.2.2.2.2.1 ∧ u.1 6922 = .int X0.2.2.2.2.2.1 ∧ u.1 6927 = .int X0.2.2.2.2.2.2.1 ∧ u.1 6935 = .int X0.2.2.2.2.2.2.2.1 ∧ u.1 6943 = .int X0.2.2.2.2.2.2.2.2.1 ∧ u.1 6944 = .int X0.2.2.2.2.2.2.2.2.2.1 ∧ u.1 6945 = .int X0.2.2.2.2.2.2.2.2.2.2.1 ∧ (∀ j, nel j [6918, 6919, 6920, 6921, 6922, 6927, 6935, 6943, 6944, 6945] = false → u.1 j = m0 j) ∧ u.2 76 = (40, .inl X0.2.2.2.2.2.2.2.2.2.2.2.1) ∧ u.2 77 = (40, .inl X0.2.2.2.2.2.2.2.2.2.2.2.2.1) ∧ u.2 78 = (40, .inl X0.2.2.2.2.2.2.2.2.2.2.2.2.2.1) ∧ u.2 79 = (6001, .inr (.inl X0.2.2.2.2.2.2.2.2.2.2.2.2.2.2.1)) ∧ u.2 80 = (16384, .inl X0.2.2.2.2.2.2.2.2.2.2.2.2.2.2.2.1) ∧ u.2 81 = (6002, .inl X0.2.2.2.2.2.2.2.2.2.2.2.2.2.2.2.2.1) ∧ u.2 82 = (84000, .inl X0.2.2.2.2.2.2.2.2.2.2.2.2.2.2.2.2.2.1) ∧ u.2 83 = (84000, .inl X0.2.2.2.2.2.2.2.2.2.2.2.2.2.2.2.2.2.2.1) ∧ u.2 84 = (84000, .inl X0.2.2.2.2.2.2.2.2.2.2.2.2.2.2.2.2.2.2.2.1) ∧ u.2 85 = (84000, .inl X0.2.2.2.2.2.2.2.2.2.2.2.2.2.2.2.2.2.2.2.2.1) ∧ u.2 86 = (84000, .inl X0.2.2.2.2.2.2.2.2.2.2.2.2.2.2.2.2.2.2.2.2.2.1) ∧ u.2 87 = (6001, .inl X0.2.2.2.2.2.2.2.2.2.2.2.2.2.2.2.2.2.2.2.2.2.2.1) ∧ u.2 88 = (6001, .inl X0.2.2.2.2.2.2.2.2.2.2.2.2.2.2.2.2.2.2.2.2.2.2.2.1) ∧ u.2 89 = (6001, .inl X0.2.2.2.2.2.2.2.2.2.2.2.2.2.2.2.2.2.2.2.2.2.2.2.2.1) ∧ u.2 90 = (6001, .inl X0.2.2.2.2.2.2.2.2.2.2.2.2.2.2.2.2.2.2.2.2.2.2.2.2.2.1) ∧ u.2 91 = (6001, .inl X0.2.2.2.2.2.2.2.2.2.2.2.2.2.2.2.2.2.2.2.2.2.2.2.2.2.2.1) ∧ u.2 92 = (6001, .inl X0.2.2.2.2.2.2.2.2.2.2.2.2.2.2.2.2.2.2.2.2.2.2.2.2.2.2.2.1) ∧ u.2 93 = (6001, .inl X0.2.2.2.2.2.2.2.2.2.2.2.2.2.2.2.2.2.2.2.2.2.2.2.2.2.2.2.2.1) ∧ u.2 94 = (6001, .inl X0.2.2.2.2.2.2.2.2.2.2.2.2.2.2.2.2.2.2.2.2.2.2.2.2.2.2.2.2.2.1) ∧ u.2 95 = (6001, .inl X0.2.2.2.2.2.2.2.2.2.2.2.2.2.2.2.2.2.2.2.2.2.2.2.2.2.2.2.2.2.2.1) ∧ u.2 96 = (6002, .inl X0.2.2.2.2.2.2.2.2.2.2.2.2.2.2.2.2.2.2.2.2.2.2.2.2.2.2.2.2.2.2.2) ∧ (∀ j, nel j [76, 77, 78, 79, 80, 81, 82, 83, 84, 85, 86, 87, 88, 89, 90, 91, 92, 93, 94, 95, 96] = false → u.2 j = a0 j)) (gB D cy N q s.heap.size) (gA N q s.heap.size)) args s 0 0 (gA N q s.heap.size)) (F0 M 50 ls []) := by
    intro t3_50 hr3 m a H locs w_x69_18 w_x69_19 w_x69_20 w_x69_21 w_x69_22 w_x69_27 w_x69_35 w_x69_43 w_x69_44 w_x69_45 hoff hsh w_A76 w_A77 w_A78 w_A79 w_A80 w_A81 w_A82 w_A83 w_A84 w_A85 w_A86 w_A87 w_A88 w_A89 w_A90 w_A91 w_A92 w_A93 w_A94 w_A95 w_A96 hoffa ls hl hW hS
    subst hr3
    have hs0 := osum_l hs0
    refine lv_bipush (v := (-3)) hx hb dX12_enough_50 (by decide) ?_
    have hs0 := Option.some.inj hs0
    subst hs0
    exact W.zret hx hb hr rfl (fun t ht hw => ⟨⟨_, (m, a), rfl, ⟨rfl, w_x69_18, w_x69_19, w_x69_20, w_x69_21, w_x69_22, w_x69_27, w_x69_35, w_x69_43, w_x69_44, w_x69_45, hoff, w_A76, w_A77, w_A78, w_A79, w_A80, w_A81, w_A82, w_A83, w_A84, w_A85, w_A86, w_A87, w_A88, w_A89, w_A90, w_A91, w_A92, w_A93, w_A94, w_A95, w_A96, hoffa⟩, g_end hW ht hw⟩, hS.F ht⟩) hS.2.2 dX12_enough_52 hlocks
  have hE1_74 : ∀ (t3_74 : Int32 × Int64 × Int32 × Int32 × Int32 × Int32 × Int32 × Int32 × Int32 × Int32 × (Nat → Int32) × (Nat → Int32) × (Nat → Int32) × (Nat → Int64) × (Nat → Int32) × (Nat → Int32) × (Nat → Int32) × (Nat → Int32) × (Nat → Int32) × (Nat → Int32) × (Nat → Int32) × (Nat → Int32) × (Nat → Int32) × (Nat → Int32) × (Nat → Int32) × (Nat → Int32) × (Nat → Int32) × (Nat → Int32) × (Nat → Int32) × (Nat → Int32) × (Nat → Int32)) (hr3 : Sum.inr (Sum.inl t3_74) = r3) (m : Nat → Value) (a : Nat → vp_A) (H : Heap) (locs : List Loc) (w_x69_18 : m 6918 = .int 0) (w_x69_19 : m 6919 = .long t3_74.2.1) (w_x69_20 : m 6920 = .int t3_74.2.2.1) (w_x69_21 : m 6921 = .int t3_74.2.2.2.1) (w_x69_22 : m 6922 = .int t3_74.2.2.2.2.1) (w_x69_27 : m 6927 = .int t3_74.2.2.2.2.2.1) (w_x69_35 : m 6935 = .int t3_74.2.2.2.2.2.2.1) (w_x69_43 : m 6943 = .int t3_74.2.2.2.2.2.2.2.1) (w_x69_44 : m 6944 = .int t3_74.2.2.2.2.2.2.2.2.1) (w_x69_45 : m 6945 = .int t3_74.2.2.2.2.2.2.2.2.2.1) (hoff : ∀ j, nel j [6918, 6919, 6920, 6921, 6922, 6927, 6935, 6943, 6944, 6945] = false → m j = m0 j) (hsh : SH q m) (w_A76 : a 76 = (40, .inl t3_74.2.2.2.2.2.2.2.2.2.2.1)) (w_A77 : a 77 = (40, .inl t3_74.2.2.2.2.2.2.2.2.2.2.2.1)) (w_A78 : a 78 = (40, .inl t3_74.2.2.2.2.2.2.2.2.2.2.2.2.1)) (w_A79 : a 79 = (6001, .inr (.inl t3_74.2.2.2.2.2.2.2.2.2.2.2.2.2.1))) (w_A80 : a 80 = (16384, .inl t3_74.2.2.2.2.2.2.2.2.2.2.2.2.2.2.1)) (w_A81 : a 81 = (6002, .inl t3_74.2.2.2.2.2.2.2.2.2.2.2.2.2.2.2.1)) (w_A82 : a 82 = (84000, .inl t3_74.2.2.2.2.2.2.2.2.2.2.2.2.2.2.2.2.1)) (w_A83 : a 83 = (84000, .inl t3_74.2.2.2.2.2.2.2.2.2.2.2.2.2.2.2.2.2.1)) (w_A84 : a 84 = (84000, .inl t3_74.2.2.2.2.2.2.2.2.2.2.2.2.2.2.2.2.2.2.1)) (w_A85 : a 85 = (84000, .inl t3_74.2.2.2.2.2.2.2.2.2.2.2.2.2.2.2.2.2.2.2.1)) (w_A86 : a 86 = (84000, .inl t3_74.2.2.2.2.2.2.2.2.2.2.2.2.2.2.2.2.2.2.2.2.1)) (w_A87 : a 87 = (6001, .inl t3_74.2.2.2.2.2.2.2.2.2.2.2.2.2.2.2.2.2.2.2.2.2.1)) (w_A88 : a 88 = (6001, .inl t3_74.2.2.2.2.2.2.2.2.2.2.2.2.2.2.2.2.2.2.2.2.2.2.1)) (w_A89 : a 89 = (6001, .inl t3_74.2.2.2.2.2.2.2.2.2.2.2.2.2.2.2.2.2.2.2.2.2.2.2.1)) (w_A90 : a 90 = (6001, .inl t3_74.2.2.2.2.2.2.2.2.2.2.2.2.2.2.2.2.2.2.2.2.2.2.2.2.1)) (w_A91 : a 91 = (6001, .inl t3_74.2.2.2.2.2.2.2.2.2.2.2.2.2.2.2.2.2.2.2.2.2.2.2.2.2.1)) (w_A92 : a 92 = (6001, .inl t3_74.2.2.2.2.2.2.2.2.2.2.2.2.2.2.2.2.2.2.2.2.2.2.2.2.2.2.1)) (w_A93 : a 93 = (6001, .inl t3_74.2.2.2.2.2.2.2.2.2.2.2.2.2.2.2.2.2.2.2.2.2.2.2.2.2.2.2.1)) (w_A94 : a 94 = (6001, .inl t3_74.2.2.2.2.2.2.2.2.2.2.2.2.2.2.2.2.2.2.2.2.2.2.2.2.2.2.2.2.1)) (w_A95 : a 95 = (6001, .inl t3_74.2.2.2.2.2.2.2.2.2.2.2.2.2.2.2.2.2.2.2.2.2.2.2.2.2.2.2.2.2.1)) (w_A96 : a 96 = (6002, .inl t3_74.2.2.2.2.2.2.2.2.2.2.2.2.2.2.2.2.2.2.2.2.2.2.2.2.2.2.2.2.2.2)) (hoffa : ∀ j, nel j [76, 77, 78, 79, 80, 81, 82, 83, 84, 85, 86, 87, 88, 89, 90, 91, 92, 93, 94, 95, 96] = false → a j = a0 j) (ls : Array Slot) (hl : lv_has ls 3 [(2, .int t3_74.1)]) (hW : GW D cy (gA N q s.heap.size) N q m a s H) (hS : va_S (gA N q s.heap.size) s.heap H locs), W p l e ({ frames := 8, cells := 0, slots := 0, locals := 188 } : Room) s M args below meth c H locs 0 0 (MQ below (va_Qi (fun (r : Int32) (u : (Nat → Value) × (Nat → vp_A)) => r = X0.1 ∧ u.1 6918 = .int X0.2.1 ∧ u.1 6919 = .long X0.2.2.1 ∧ u.1 6920 = .int X0.2.2.2.1 ∧ u.1 6921 = .int X0.2.2.2.2.1 ∧ u.1 6922 = .int X0.2.2.2.2.2.1 ∧ u.1 6927 = .int X0.2.2.2.2.2.2.1 ∧ u.1 6935 = .int X0.2.2.2.2.2.2.2.1 ∧ u.1 6943 = .int X0.2.2.2.2.2.2.2.2.1 ∧ u.1 6944 = .int X0.2.2.2.2.2.2.2.2.2.1 ∧ u.1 6945 = .int X0.2.2.2.2.2.2.2.2.2.2.1 ∧ (∀ j, nel j [6918, 6919, 6920, 6921, 6922, 6927, 6935, 6943, 6944, 6945] = false → u.1 j = m0 j) ∧ u.2 76 = (40, .inl X0.2.2.2.2.2.2.2.2.2.2.2.1) ∧ u.2 77 = (40, .inl X0.2.2.2.2.2.2.2.2.2.2.2.2.1) ∧ u.2 78 = (40, .inl X0.2.2.2.2.2.2.2.2.2.2.2.2.2.1) ∧ u.2 79 = (6001, .inr (.inl X0.2.2.2.2.2.2.2.2.2.2.2.2.2.2.1)) ∧ u.2 80 = (16384, .inl X0.2.2.2.2.2.2.2.2.2.2.2.2.2.2.2.1) ∧ u.2 81 = (6002, .inl X0.2.2.2.2.2.2.2.2.2.2.2.2.2.2.2.2.1) ∧ u.2 82 = (84000, .inl X0.2.2.2.2.2.2.2.2.2.2.2.2.2.2.2.2.2.1) ∧ u.2 83 = (84000, .inl X0.2.2.2.2.2.2.2.2.2.2.2.2.2.2.2.2.2.2.1) ∧ u.2 84 = (84000, .inl X0.2.2.2.2.2.2.2.2.2.2.2.2.2.2.2.2.2.2.2.1) ∧ u.2 85 = (84000, .inl X0.2.2.2.2.2.2.2.2.2.2.2.2.2.2.2.2.2.2.2.2.1) ∧ u.2 86 = (84000, .inl X0.2.2.2.2.2.2.2.2.2.2.2.2.2.2.2.2.2.2.2.2.2.1) ∧ u.2 87 = (6001, .inl X0.2.2.2.2.2.2.2.2.2.2.2.2.2.2.2.2.2.2.2.2.2.2.1) ∧ u.2 88 = (6001, .inl X0.2.2.2.2.2.2.2.2.2.2.2.2.2.2.2.2.2.2.2.2.2.2.2.1) ∧ u.2 89 = (6001, .inl X0.2.2.2.2.2.2.2.2.2.2.2.2.2.2.2.2.2.2.2.2.2.2.2.2.1) ∧ u.2 90 = (6001, .inl X0.2.2.2.2.2.2.2.2.2.2.2.2.2.2.2.2.2.2.2.2.2.2.2.2.2.1) ∧ u.2 91 = (6001, .inl X0.2.2.2.2.2.2.2.2.2.2.2.2.2.2.2.2.2.2.2.2.2.2.2.2.2.2.1) ∧ u.2 92 = (6001, .inl X0.2.2.2.2.2.2.2.2.2.2.2.2.2.2.2.2.2.2.2.2.2.2.2.2.2.2.2.1) ∧ u.2 93 = (6001, .inl X0.2.2.2.2.2.2.2.2.2.2.2.2.2.2.2.2.2.2.2.2.2.2.2.2.2.2.2.2.1) ∧ u.2 94 = (6001, .inl X0.2.2.2.2.2.2.2.2.2.2.2.2.2.2.2.2.2.2.2.2.2.2.2.2.2.2.2.2.2.1) ∧ u.2 95 = (6001, .inl X0.2.2.2.2.2.2.2.2.2.2.2.2.2.2.2.2.2.2.2.2.2.2.2.2.2.2.2.2.2.2.1) ∧ u.2 96 = (6002, .inl X0.2.2.2.2.2.2.2.2.2.2.2.2.2.2.2.2.2.2.2.2.2.2.2.2.2.2.2.2.2.2.2) ∧ (∀ j, nel j [76, 77, 78, 79, 80, 81, 82, 83, 84, 85, 86, 87, 88, 89, 90, 91, 92, 93, 94, 95, 96] = false → u.2 j = a0 j)) (gB D cy N q s.heap.size) (gA N q s.heap.size)) args s 0 0 (gA N q s.heap.size)) (F0 M 74 ls []) := by
    intro t3_74 hr3 m a H locs w_x69_18 w_x69_19 w_x69_20 w_x69_21 w_x69_22 w_x69_27 w_x69_35 w_x69_43 w_x69_44 w_x69_45 hoff hsh w_A76 w_A77 w_A78 w_A79 w_A80 w_A81 w_A82 w_A83 w_A84 w_A85 w_A86 w_A87 w_A88 w_A89 w_A90 w_A91 w_A92 w_A93 w_A94 w_A95 w_A96 hoffa ls hl hW hS
    subst hr3
    have hs0 := osum_r hs0
    have hs0 := osum_l hs0
    refine lv_iload_n hx hb dX12_enough_74 rfl (lv_at hl 0 rfl) ?_
    have hs0 := Option.some.inj hs0
    subst hs0
    exact W.zret hx hb hr rfl (fun t ht hw => ⟨⟨_, (m, a), rfl, ⟨rfl, w_x69_18, w_x69_19, w_x69_20, w_x69_21, w_x69_22, w_x69_27, w_x69_35, w_x69_43, w_x69_44, w_x69_45, hoff, w_A76, w_A77, w_A78, w_A79, w_A80, w_A81, w_A82, w_A83, w_A84, w_A85, w_A86, w_A87, w_A88, w_A89, w_A90, w_A91, w_A92, w_A93, w_A94, w_A95, w_A96, hoffa⟩, g_end hW ht hw⟩, hS.F ht⟩) hS.2.2 dX12_enough_75 hlocks
  have hE1_82 : ∀ (t3_82 : Int64 × Int32 × Int32 × Int32 × Int32 × Int32 × Int32 × Int32 × Int32 × (Nat → Int32) × (Nat → Int32) × (Nat → Int32) × (Nat → Int64) × (Nat → Int32) × (Nat → Int32) × (Nat → Int32) × (Nat → Int32) × (Nat → Int32) × (Nat → Int32) × (Nat → Int32) × (Nat → Int32) × (Nat → Int32) × (Nat → Int32) × (Nat → Int32) × (Nat → Int32) × (Nat → Int32) × (Nat → Int32) × (Nat → Int32) × (Nat → Int32) × (Nat → Int32)) (hr3 : Sum.inr (Sum.inr (t3_82)) = r3) (m : Nat → Value) (a : Nat → vp_A) (H : Heap) (locs : List Loc) (w_x69_18 : m 6918 = .int 0) (w_x69_19 : m 6919 = .long t3_82.1) (w_x69_20 : m 6920 = .int t3_82.2.1) (w_x69_21 : m 6921 = .int t3_82.2.2.1) (w_x69_22 : m 6922 = .int t3_82.2.2.2.1) (w_x69_27 : m 6927 = .int t3_82.2.2.2.2.1) (w_x69_35 : m 6935 = .int t3_82.2.2.2.2.2.1) (w_x69_43 : m 6943 = .int t3_82.2.2.2.2.2.2.1) (w_x69_44 : m 6944 = .int t3_82.2.2.2.2.2.2.2.1) (w_x69_45 : m 6945 = .int t3_82.2.2.2.2.2.2.2.2.1) (hoff : ∀ j, nel j [6918, 6919, 6920, 6921, 6922, 6927, 6935, 6943, 6944, 6945] = false → m j = m0 j) (hsh : SH q m) (w_A76 : a 76 = (40, .inl t3_82.2.2.2.2.2.2.2.2.2.1)) (w_A77 : a 77 = (40, .inl t3_82.2.2.2.2.2.2.2.2.2.2.1)) (w_A78 : a 78 = (40, .inl t3_82.2.2.2.2.2.2.2.2.2.2.2.1)) (w_A79 : a 79 = (6001, .inr (.inl t3_82.2.2.2.2.2.2.2.2.2.2.2.2.1))) (w_A80 : a 80 = (16384, .inl t3_82.2.2.2.2.2.2.2.2.2.2.2.2.2.1)) (w_A81 : a 81 = (6002, .inl t3_82.2.2.2.2.2.2.2.2.2.2.2.2.2.2.1)) (w_A82 : a 82 = (84000, .inl t3_82.2.2.2.2.2.2.2.2.2.2.2.2.2.2.2.1)) (w_A83 : a 83 = (84000, .inl t3_82.2.2.2.2.2.2.2.2.2.2.2.2.2.2.2.2.1)) (w_A84 : a 84 = (84000, .inl t3_82.2.2.2.2.2.2.2.2.2.2.2.2.2.2.2.2.2.1)) (w_A85 : a 85 = (84000, .inl t3_82.2.2.2.2.2.2.2.2.2.2.2.2.2.2.2.2.2.2.1)) (w_A86 : a 86 = (84000, .inl t3_82.2.2.2.2.2.2.2.2.2.2.2.2.2.2.2.2.2.2.2.1)) (w_A87 : a 87 = (6001, .inl t3_82.2.2.2.2.2.2.2.2.2.2.2.2.2.2.2.2.2.2.2.2.1)) (w_A88 : a 88 = (6001, .inl t3_82.2.2.2.2.2.2.2.2.2.2.2.2.2.2.2.2.2.2.2.2.2.1)) (w_A89 : a 89 = (6001, .inl t3_82.2.2.2.2.2.2.2.2.2.2.2.2.2.2.2.2.2.2.2.2.2.2.1)) (w_A90 : a 90 = (6001, .inl t3_82.2.2.2.2.2.2.2.2.2.2.2.2.2.2.2.2.2.2.2.2.2.2.2.1)) (w_A91 : a 91 = (6001, .inl t3_82.2.2.2.2.2.2.2.2.2.2.2.2.2.2.2.2.2.2.2.2.2.2.2.2.1)) (w_A92 : a 92 = (6001, .inl t3_82.2.2.2.2.2.2.2.2.2.2.2.2.2.2.2.2.2.2.2.2.2.2.2.2.2.1)) (w_A93 : a 93 = (6001, .inl t3_82.2.2.2.2.2.2.2.2.2.2.2.2.2.2.2.2.2.2.2.2.2.2.2.2.2.2.1)) (w_A94 : a 94 = (6001, .inl t3_82.2.2.2.2.2.2.2.2.2.2.2.2.2.2.2.2.2.2.2.2.2.2.2.2.2.2.2.1)) (w_A95 : a 95 = (6001, .inl t3_82.2.2.2.2.2.2.2.2.2.2.2.2.2.2.2.2.2.2.2.2.2.2.2.2.2.2.2.2.1)) (w_A96 : a 96 = (6002, .inl t3_82.2.2.2.2.2.2.2.2.2.2.2.2.2.2.2.2.2.2.2.2.2.2.2.2.2.2.2.2.2)) (hoffa : ∀ j, nel j [76, 77, 78, 79, 80, 81, 82, 83, 84, 85, 86, 87, 88, 89, 90, 91, 92, 93, 94, 95, 96] = false → a j = a0 j) (ls : Array Slot) (hl : lv_has ls 3 []) (hW : GW D cy (gA N q s.heap.size) N q m a s H) (hS : va_S (gA N q s.heap.size) s.heap H locs), W p l e ({ frames := 8, cells := 0, slots := 0, locals := 188 } : Room) s M args below meth c H locs 0 0 (MQ below (va_Qi (fun (r : Int32) (u : (Nat → Value) × (Nat → vp_A)) => r = X0.1 ∧ u.1 6918 = .int X0.2.1 ∧ u.1 6919 = .long X0.2.2.1 ∧ u.1 6920 = .int X0.2.2.2.1 ∧ u.1 6921 = .int X0.2.2.2.2.1 ∧ u.1 6922 = .int X0.2.2.2.2.2.1 ∧ u.1 6927 = .int X0.2.2.2.2.2.2.1 ∧ u.1 6935 = .int X0.2.2.2.2.2.2.2.1 ∧ u.1 6943 = .int X0.2.2.2.2.2.2.2.2.1 ∧ u.1 6944 = .int X0.2.2.2.2.2.2.2.2.2.1 ∧ u.1 6945 = .int X0.2.2.2.2.2.2.2.2.2.2.1 ∧ (∀ j, nel j [6918, 6919, 6920, 6921, 6922, 6927, 6935, 6943, 6944, 6945] = false → u.1 j = m0 j) ∧ u.2 76 = (40, .inl X0.2.2.2.2.2.2.2.2.2.2.2.1) ∧ u.2 77 = (40, .inl X0.2.2.2.2.2.2.2.2.2.2.2.2.1) ∧ u.2 78 = (40, .inl X0.2.2.2.2.2.2.2.2.2.2.2.2.2.1) ∧ u.2 79 = (6001, .inr (.inl X0.2.2.2.2.2.2.2.2.2.2.2.2.2.2.1)) ∧ u.2 80 = (16384, .inl X0.2.2.2.2.2.2.2.2.2.2.2.2.2.2.2.1) ∧ u.2 81 = (6002, .inl X0.2.2.2.2.2.2.2.2.2.2.2.2.2.2.2.2.1) ∧ u.2 82 = (84000, .inl X0.2.2.2.2.2.2.2.2.2.2.2.2.2.2.2.2.2.1) ∧ u.2 83 = (84000, .inl X0.2.2.2.2.2.2.2.2.2.2.2.2.2.2.2.2.2.2.1) ∧ u.2 84 = (84000, .inl X0.2.2.2.2.2.2.2.2.2.2.2.2.2.2.2.2.2.2.2.1) ∧ u.2 85 = (84000, .inl X0.2.2.2.2.2.2.2.2.2.2.2.2.2.2.2.2.2.2.2.2.1) ∧ u.2 86 = (84000, .inl X0.2.2.2.2.2.2.2.2.2.2.2.2.2.2.2.2.2.2.2.2.2.1) ∧ u.2 87 = (6001, .inl X0.2.2.2.2.2.2.2.2.2.2.2.2.2.2.2.2.2.2.2.2.2.2.1) ∧ u.2 88 = (6001, .inl X0.2.2.2.2.2.2.2.2.2.2.2.2.2.2.2.2.2.2.2.2.2.2.2.1) ∧ u.2 89 = (6001, .inl X0.2.2.2.2.2.2.2.2.2.2.2.2.2.2.2.2.2.2.2.2.2.2.2.2.1) ∧ u.2 90 = (6001, .inl X0.2.2.2.2.2.2.2.2.2.2.2.2.2.2.2.2.2.2.2.2.2.2.2.2.2.1) ∧ u.2 91 = (6001, .inl X0.2.2.2.2.2.2.2.2.2.2.2.2.2.2.2.2.2.2.2.2.2.2.2.2.2.2.1) ∧ u.2 92 = (6001, .inl X0.2.2.2.2.2.2.2.2.2.2.2.2.2.2.2.2.2.2.2.2.2.2.2.2.2.2.2.1) ∧ u.2 93 = (6001, .inl X0.2.2.2.2.2.2.2.2.2.2.2.2.2.2.2.2.2.2.2.2.2.2.2.2.2.2.2.2.1) ∧ u.2 94 = (6001, .inl X0.2.2.2.2.2.2.2.2.2.2.2.2.2.2.2.2.2.2.2.2.2.2.2.2.2.2.2.2.2.1) ∧ u.2 95 = (6001, .inl X0.2.2.2.2.2.2.2.2.2.2.2.2.2.2.2.2.2.2.2.2.2.2.2.2.2.2.2.2.2.2.1) ∧ u.2 96 = (6002, .inl X0.2.2.2.2.2.2.2.2.2.2.2.2.2.2.2.2.2.2.2.2.2.2.2.2.2.2.2.2.2.2.2) ∧ (∀ j, nel j [76, 77, 78, 79, 80, 81, 82, 83, 84, 85, 86, 87, 88, 89, 90, 91, 92, 93, 94, 95, 96] = false → u.2 j = a0 j)) (gB D cy N q s.heap.size) (gA N q s.heap.size)) args s 0 0 (gA N q s.heap.size)) (F0 M 82 ls []) := by
    intro t3_82 hr3 m a H locs w_x69_18 w_x69_19 w_x69_20 w_x69_21 w_x69_22 w_x69_27 w_x69_35 w_x69_43 w_x69_44 w_x69_45 hoff hsh w_A76 w_A77 w_A78 w_A79 w_A80 w_A81 w_A82 w_A83 w_A84 w_A85 w_A86 w_A87 w_A88 w_A89 w_A90 w_A91 w_A92 w_A93 w_A94 w_A95 w_A96 hoffa ls hl hW hS
    subst hr3
    have hs0 := osum_r hs0
    have hs0 := osum_r hs0
    refine lv_iconst (v := (-1)) hx hb dX12_enough_82 (by decide) ?_
    have hs0 := Option.some.inj hs0
    subst hs0
    exact W.zret hx hb hr rfl (fun t ht hw => ⟨⟨_, (m, a), rfl, ⟨rfl, w_x69_18, w_x69_19, w_x69_20, w_x69_21, w_x69_22, w_x69_27, w_x69_35, w_x69_43, w_x69_44, w_x69_45, hoff, w_A76, w_A77, w_A78, w_A79, w_A80, w_A81, w_A82, w_A83, w_A84, w_A85, w_A86, w_A87, w_A88, w_A89, w_A90, w_A91, w_A92, w_A93, w_A94, w_A95, w_A96, hoffa⟩, g_end hW ht hw⟩, hS.F ht⟩) hS.2.2 dX12_enough_83 hlocks
  have hL1 : ∀ (n : Nat) (v2k3 : Int32) (x69_19k3 : Int64) (x69_20k3 : Int32) (x69_21k3 : Int32) (x69_22k3 : Int32) (x69_27k3 : Int32) (x69_35k3 : Int32) (x69_43k3 : Int32) (x69_44k3 : Int32) (x69_45k3 : Int32) (A76k3 : Nat → Int32) (A77k3 : Nat → Int32) (A78k3 : Nat → Int32) (A79k3 : Nat → Int64) (A80k3 : Nat → Int32) (A81k3 : Nat → Int32) (A82k3 : Nat → Int32) (A83k3 : Nat → Int32) (A84k3 : Nat → Int32) (A85k3 : Nat → Int32) (A86k3 : Nat → Int32) (A87k3 : Nat → Int32) (A88k3 : Nat → Int32) (A89k3 : Nat → Int32) (A90k3 : Nat → Int32) (A91k3 : Nat → Int32) (A92k3 : Nat → Int32) (A93k3 : Nat → Int32) (A94k3 : Nat → Int32) (A95k3 : Nat → Int32) (A96k3 : Nat → Int32) (m : Nat → Value) (a : Nat → vp_A) (H : Heap) (locs : List Loc) (w_x69_18 : m 6918 = .int 0) (w_x69_19 : m 6919 = .long x69_19k3) (w_x69_20 : m 6920 = .int x69_20k3) (w_x69_21 : m 6921 = .int x69_21k3) (w_x69_22 : m 6922 = .int x69_22k3) (w_x69_27 : m 6927 = .int x69_27k3) (w_x69_35 : m 6935 = .int x69_35k3) (w_x69_43 : m 6943 = .int x69_43k3) (w_x69_44 : m 6944 = .int x69_44k3) (w_x69_45 : m 6945 = .int x69_45k3) (hoff : ∀ j, nel j [6918, 6919, 6920, 6921, 6922, 6927, 6935, 6943, 6944, 6945] = false → m j = m0 j) (hsh : SH q m) (w_A76 : a 76 = (40, .inl A76k3)) (w_A77 : a 77 = (40, .inl A77k3)) (w_A78 : a 78 = (40, .inl A78k3)) (w_A79 : a 79 = (6001, .inr (.inl A79k3))) (w_A80 : a 80 = (16384, .inl A80k3)) (w_A81 : a 81 = (6002, .inl A81k3)) (w_A82 : a 82 = (84000, .inl A82k3)) (w_A83 : a 83 = (84000, .inl A83k3)) (w_A84 : a 84 = (84000, .inl A84k3)) (w_A85 : a 85 = (84000, .inl A85k3)) (w_A86 : a 86 = (84000, .inl A86k3)) (w_A87 : a 87 = (6001, .inl A87k3)) (w_A88 : a 88 = (6001, .inl A88k3)) (w_A89 : a 89 = (6001, .inl A89k3)) (w_A90 : a 90 = (6001, .inl A90k3)) (w_A91 : a 91 = (6001, .inl A91k3)) (w_A92 : a 92 = (6001, .inl A92k3)) (w_A93 : a 93 = (6001, .inl A93k3)) (w_A94 : a 94 = (6001, .inl A94k3)) (w_A95 : a 95 = (6001, .inl A95k3)) (w_A96 : a 96 = (6002, .inl A96k3)) (hoffa : ∀ j, nel j [76, 77, 78, 79, 80, 81, 82, 83, 84, 85, 86, 87, 88, 89, 90, 91, 92, 93, 94, 95, 96] = false → a j = a0 j) (ls : Array Slot) (hl : lv_has ls 3 [(0, .ref (q 69)), (1, .int (fX12_get x69_4 3 3)), (2, .int v2k3)]) (hg3 : gloop (fun u3 : (Int32 × Int64 × Int32 × Int32 × Int32 × Int32 × Int32 × Int32 × Int32 × Int32 × (Nat → Int32) × (Nat → Int32) × (Nat → Int32) × (Nat → Int64) × (Nat → Int32) × (Nat → Int32) × (Nat → Int32) × (Nat → Int32) × (Nat → Int32) × (Nat → Int32) × (Nat → Int32) × (Nat → Int32) × (Nat → Int32) × (Nat → Int32) × (Nat → Int32) × (Nat → Int32) × (Nat → Int32) × (Nat → Int32) × (Nat → Int32) × (Nat → Int32) × (Nat → Int32)) => fX12_enough_S17 F x69_0 x69_1 x69_3 x69_4 (fX12_get x69_4 3 3) 0 u3.1 u3.2.1 u3.2.2.1 u3.2.2.2.1 u3.2.2.2.2.1 u3.2.2.2.2.2.1 u3.2.2.2.2.2.2.1 u3.2.2.2.2.2.2.2.1 u3.2.2.2.2.2.2.2.2.1 u3.2.2.2.2.2.2.2.2.2.1 u3.2.2.2.2.2.2.2.2.2.2.1 u3.2.2.2.2.2.2.2.2.2.2.2.1 u3.2.2.2.2.2.2.2.2.2.2.2.2.1 u3.2.2.2.2.2.2.2.2.2.2.2.2.2.1 u3.2.2.2.2.2.2.2.2.2.2.2.2.2.2.1 u3.2.2.2.2.2.2.2.2.2.2.2.2.2.2.2.1 u3.2.2.2.2.2.2.2.2.2.2.2.2.2.2.2.2.1 u3.2.2.2.2.2.2.2.2.2.2.2.2.2.2.2.2.2.1 u3.2.2.2.2.2.2.2.2.2.2.2.2.2.2.2.2.2.2.1 u3.2.2.2.2.2.2.2.2.2.2.2.2.2.2.2.2.2.2.2.1 u3.2.2.2.2.2.2.2.2.2.2.2.2.2.2.2.2.2.2.2.2.1 u3.2.2.2.2.2.2.2.2.2.2.2.2.2.2.2.2.2.2.2.2.2.1 u3.2.2.2.2.2.2.2.2.2.2.2.2.2.2.2.2.2.2.2.2.2.2.1 u3.2.2.2.2.2.2.2.2.2.2.2.2.2.2.2.2.2.2.2.2.2.2.2.1 u3.2.2.2.2.2.2.2.2.2.2.2.2.2.2.2.2.2.2.2.2.2.2.2.2.1 u3.2.2.2.2.2.2.2.2.2.2.2.2.2.2.2.2.2.2.2.2.2.2.2.2.2.1 u3.2.2.2.2.2.2.2.2.2.2.2.2.2.2.2.2.2.2.2.2.2.2.2.2.2.2.1 u3.2.2.2.2.2.2.2.2.2.2.2.2.2.2.2.2.2.2.2.2.2.2.2.2.2.2.2.1 u3.2.2.2.2.2.2.2.2.2.2.2.2.2.2.2.2.2.2.2.2.2.2.2.2.2.2.2.2.1 u3.2.2.2.2.2.2.2.2.2.2.2.2.2.2.2.2.2.2.2.2.2.2.2.2.2.2.2.2.2.1 u3.2.2.2.2.2.2.2.2.2.2.2.2.2.2.2.2.2.2.2.2.2.2.2.2.2.2.2.2.2.2) n (v2k3, x69_19k3, x69_20k3, x69_21k3, x69_22k3, x69_27k3, x69_35k3, x69_43k3, x69_44k3, x69_45k3, A76k3, A77k3, A78k3, A79k3, A80k3, A81k3, A82k3, A83k3, A84k3, A85k3, A86k3, A87k3, A88k3, A89k3, A90k3, A91k3, A92k3, A93k3, A94k3, A95k3, A96k3) = some r3) (hW : GW D cy (gA N q s.heap.size) N q m a s H) (hS : va_S (gA N q s.heap.size) s.heap H locs), W p l e ({ frames := 8, cells := 0, slots := 0, locals := 188 } : Room) s M args below meth c H locs 0 0 (MQ below (va_Qi (fun (r : Int32) (u : (Nat → Value) × (Nat → vp_A)) => r = X0.1 ∧ u.1 6918 = .int X0.2.1 ∧ u.1 6919 = .long X0.2.2.1 ∧ u.1 6920 = .int X0.2.2.2.1 ∧ u.1 6921 = .int X0.2.2.2.2.1 ∧ u.1 6922 = .int X0.2.2.2.2.2.1 ∧ u.1 6927 = .int X0.2.2.2.2.2.2.1 ∧ u.1 6935 = .int X0.2.2.2.2.2.2.2.1 ∧ u.1 6943 = .int X0.2.2.2.2.2.2.2.2.1 ∧ u.1 6944 = .int X0.2.2.2.2.2.2.2.2.2.1 ∧ u.1 6945 = .int X0.2.2.2.2.2.2.2.2.2.2.1 ∧ (∀ j, nel j [6918, 6919, 6920, 6921, 6922, 6927, 6935, 6943, 6944, 6945] = false → u.1 j = m0 j) ∧ u.2 76 = (40, .inl X0.2.2.2.2.2.2.2.2.2.2.2.1) ∧ u.2 77 = (40, .inl X0.2.2.2.2.2.2.2.2.2.2.2.2.1) ∧ u.2 78 = (40, .inl X0.2.2.2.2.2.2.2.2.2.2.2.2.2.1) ∧ u.2 79 = (6001, .inr (.inl X0.2.2.2.2.2.2.2.2.2.2.2.2.2.2.1)) ∧ u.2 80 = (16384, .inl X0.2.2.2.2.2.2.2.2.2.2.2.2.2.2.2.1) ∧ u.2 81 = (6002, .inl X0.2.2.2.2.2.2.2.2.2.2.2.2.2.2.2.2.1) ∧ u.2 82 = (84000, .inl X0.2.2.2.2.2.2.2.2.2.2.2.2.2.2.2.2.2.1) ∧ u.2 83 = (84000, .inl X0.2.2.2.2.2.2.2.2.2.2.2.2.2.2.2.2.2.2.1) ∧ u.2 84 = (84000, .inl X0.2.2.2.2.2.2.2.2.2.2.2.2.2.2.2.2.2.2.2.1) ∧ u.2 85 = (84000, .inl X0.2.2.2.2.2.2.2.2.2.2.2.2.2.2.2.2.2.2.2.2.1) ∧ u.2 86 = (84000, .inl X0.2.2.2.2.2.2.2.2.2.2.2.2.2.2.2.2.2.2.2.2.2.1) ∧ u.2 87 = (6001, .inl X0.2.2.2.2.2.2.2.2.2.2.2.2.2.2.2.2.2.2.2.2.2.2.1) ∧ u.2 88 = (6001, .inl X0.2.2.2.2.2.2.2.2.2.2.2.2.2.2.2.2.2.2.2.2.2.2.2.1) ∧ u.2 89 = (6001, .inl X0.2.2.2.2.2.2.2.2.2.2.2.2.2.2.2.2.2.2.2.2.2.2.2.2.1) ∧ u.2 90 = (6001, .inl X0.2.2.2.2.2.2.2.2.2.2.2.2.2.2.2.2.2.2.2.2.2.2.2.2.2.1) ∧ u.2 91 = (6001, .inl X0.2.2.2.2.2.2.2.2.2.2.2.2.2.2.2.2.2.2.2.2.2.2.2.2.2.2.1) ∧ u.2 92 = (6001, .inl X0.2.2.2.2.2.2.2.2.2.2.2.2.2.2.2.2.2.2.2.2.2.2.2.2.2.2.2.1) ∧ u.2 93 = (6001, .inl X0.2.2.2.2.2.2.2.2.2.2.2.2.2.2.2.2.2.2.2.2.2.2.2.2.2.2.2.2.1) ∧ u.2 94 = (6001, .inl X0.2.2.2.2.2.2.2.2.2.2.2.2.2.2.2.2.2.2.2.2.2.2.2.2.2.2.2.2.2.1) ∧ u.2 95 = (6001, .inl X0.2.2.2.2.2.2.2.2.2.2.2.2.2.2.2.2.2.2.2.2.2.2.2.2.2.2.2.2.2.2.1) ∧ u.2 96 = (6002, .inl X0.2.2.2.2.2.2.2.2.2.2.2.2.2.2.2.2.2.2.2.2.2.2.2.2.2.2.2.2.2.2.2) ∧ (∀ j, nel j [76, 77, 78, 79, 80, 81, 82, 83, 84, 85, 86, 87, 88, 89, 90, 91, 92, 93, 94, 95, 96] = false → u.2 j = a0 j)) (gB D cy N q s.heap.size) (gA N q s.heap.size)) args s 0 0 (gA N q s.heap.size)) (F0 M 17 ls []) := by
    intro n
    induction n with
    | zero => intro v2k3 x69_19k3 x69_20k3 x69_21k3 x69_22k3 x69_27k3 x69_35k3 x69_43k3 x69_44k3 x69_45k3 A76k3 A77k3 A78k3 A79k3 A80k3 A81k3 A82k3 A83k3 A84k3 A85k3 A86k3 A87k3 A88k3 A89k3 A90k3 A91k3 A92k3 A93k3 A94k3 A95k3 A96k3 m a H locs w_x69_18 w_x69_19 w_x69_20 w_x69_21 w_x69_22 w_x69_27 w_x69_35 w_x69_43 w_x69_44 w_x69_45 hoff hsh w_A76 w_A77 w_A78 w_A79 w_A80 w_A81 w_A82 w_A83 w_A84 w_A85 w_A86 w_A87 w_A88 w_A89 w_A90 w_A91 w_A92 w_A93 w_A94 w_A95 w_A96 hoffa ls hl hg3 hW hS; exact (gl_zero hg3).elim
    | succ n ih1 =>
      intro v2k3 x69_19k3 x69_20k3 x69_21k3 x69_22k3 x69_27k3 x69_35k3 x69_43k3 x69_44k3 x69_45k3 A76k3 A77k3 A78k3 A79k3 A80k3 A81k3 A82k3 A83k3 A84k3 A85k3 A86k3 A87k3 A88k3 A89k3 A90k3 A91k3 A92k3 A93k3 A94k3 A95k3 A96k3 m a H locs w_x69_18 w_x69_19 w_x69_20 w_x69_21 w_x69_22 w_x69_27 w_x69_35 w_x69_43 w_x69_44 w_x69_45 hoff hsh w_A76 w_A77 w_A78 w_A79 w_A80 w_A81 w_A82 w_A83 w_A84 w_A85 w_A86 w_A87 w_A88 w_A89 w_A90 w_A91 w_A92 w_A93 w_A94 w_A95 w_A96 hoffa ls hl hg3 hW hS
      obtain ⟨X1, hs1, hXl1, hXr1⟩ := gl_succ hg3
      have hs1 : fX12_enough_S17 F x69_0 x69_1 x69_3 x69_4 (fX12_get x69_4 3 3) 0 v2k3 x69_19k3 x69_20k3 x69_21k3 x69_22k3 x69_27k3 x69_35k3 x69_43k3 x69_44k3 x69_45k3 A76k3 A77k3 A78k3 A79k3 A80k3 A81k3 A82k3 A83k3 A84k3 A85k3 A86k3 A87k3 A88k3 A89k3 A90k3 A91k3 A92k3 A93k3 A94k3 A95k3 A96k3 = some X1 := hs1
      unfold fX12_enough_S17 at hs1
      have hJ40_1 : ∀ (v2j15 : Int32) (s0j15 : Int32) (s1j15 : Int32) (s2j15 : Int32) (s3j15 : Int64) (x69_19j15 : Int64) (x69_20j15 : Int32) (x69_21j15 : Int32) (x69_22j15 : Int32) (x69_27j15 : Int32) (x69_35j15 : Int32) (x69_43j15 : Int32) (x69_44j15 : Int32) (x69_45j15 : Int32) (A76j15 : Nat → Int32) (A77j15 : Nat → Int32) (A78j15 : Nat → Int32) (A79j15 : Nat → Int64) (A80j15 : Nat → Int32) (A81j15 : Nat → Int32) (A82j15 : Nat → Int32) (A83j15 : Nat → Int32) (A84j15 : Nat → Int32) (A85j15 : Nat → Int32) (A86j15 : Nat → Int32) (A87j15 : Nat → Int32) (A88j15 : Nat → Int32) (A89j15 : Nat → Int32) (A90j15 : Nat → Int32) (A91j15 : Nat → Int32) (A92j15 : Nat → Int32) (A93j15 : Nat → Int32) (A94j15 : Nat → Int32) (A95j15 : Nat → Int32) (A96j15 : Nat → Int32) (m : Nat → Value) (a : Nat → vp_A) (H : Heap) (locs : List Loc) (w_x69_18 : m 6918 = .int 0) (w_x69_19 : m 6919 = .long x69_19j15) (w_x69_20 : m 6920 = .int x69_20j15) (w_x69_21 : m 6921 = .int x69_21j15) (w_x69_22 : m 6922 = .int x69_22j15) (w_x69_27 : m 6927 = .int x69_27j15) (w_x69_35 : m 6935 = .int x69_35j15) (w_x69_43 : m 6943 = .int x69_43j15) (w_x69_44 : m 6944 = .int x69_44j15) (w_x69_45 : m 6945 = .int x69_45j15) (hoff : ∀ j, nel j [6918, 6919, 6920, 6921, 6922, 6927, 6935, 6943, 6944, 6945] = false → m j = m0 j) (hsh : SH q m) (w_A76 : a 76 = (40, .inl A76j15)) (w_A77 : a 77 = (40, .inl A77j15)) (w_A78 : a 78 = (40, .inl A78j15)) (w_A79 : a 79 = (6001, .inr (.inl A79j15))) (w_A80 : a 80 = (16384, .inl A80j15)) (w_A81 : a 81 = (6002, .inl A81j15)) (w_A82 : a 82 = (84000, .inl A82j15)) (w_A83 : a 83 = (84000, .inl A83j15)) (w_A84 : a 84 = (84000, .inl A84j15)) (w_A85 : a 85 = (84000, .inl A85j15)) (w_A86 : a 86 = (84000, .inl A86j15)) (w_A87 : a 87 = (6001, .inl A87j15)) (w_A88 : a 88 = (6001, .inl A88j15)) (w_A89 : a 89 = (6001, .inl A89j15)) (w_A90 : a 90 = (6001, .inl A90j15)) (w_A91 : a 91 = (6001, .inl A91j15)) (w_A92 : a 92 = (6001, .inl A92j15)) (w_A93 : a 93 = (6001, .inl A93j15)) (w_A94 : a 94 = (6001, .inl A94j15)) (w_A95 : a 95 = (6001, .inl A95j15)) (w_A96 : a 96 = (6002, .inl A96j15)) (hoffa : ∀ j, nel j [76, 77, 78, 79, 80, 81, 82, 83, 84, 85, 86, 87, 88, 89, 90, 91, 92, 93, 94, 95, 96] = false → a j = a0 j) (ls : Array Slot) (hl : lv_has ls 3 [(0, .ref (q 69)), (1, .int (fX12_get x69_4 3 3)), (2, .int v2j15)]) (hs1 : fX12_enough_J40 F x69_0 x69_1 x69_3 x69_4 (fX12_get x69_4 3 3) v2j15 s0j15 s1j15 s2j15 s3j15 0 x69_19j15 x69_20j15 x69_21j15 x69_22j15 x69_27j15 x69_35j15 x69_43j15 x69_44j15 x69_45j15 A76j15 A77j15 A78j15 A79j15 A80j15 A81j15 A82j15 A83j15 A84j15 A85j15 A86j15 A87j15 A88j15 A89j15 A90j15 A91j15 A92j15 A93j15 A94j15 A95j15 A96j15 = some X1) (hW : GW D cy (gA N q s.heap.size) N q m a s H) (hS : va_S (gA N q s.heap.size) s.heap H locs), W p l e ({ frames := 8, cells := 0, slots := 0, locals := 188 } : Room) s M args below meth c H locs 0 0 (MQ below (va_Qi (fun (r : Int32) (u : (Nat → Value) × (Nat → vp_A)) => r = X0.1 ∧ u.1 6918 = .int X0.2.1 ∧ u.1 6919 = .long X0.2.2.1 ∧ u.1 6920 = .int X0.2.2.2.1 ∧ u.1 6921 = .int X0.2.2.2.2.1 ∧ u.1 6922 = .int X0.2.2.2.2.2.1 ∧ u.1 6927 = .int X0.2.2.2.2.2.2.1 ∧ u.1 6935 = .int X0.2.2.2.2.2.2.2.1 ∧ u.1 6943 = .int X0.2.2.2.2.2.2.2.2.1 ∧ u.1 6944 = .int X0.2.2.2.2.2.2.2.2.2.1 ∧ u.1 6945 = .int X0.2.2.2.2.2.2.2.2.2.2.1 ∧ (∀ j, nel j [6918, 6919, 6920, 6921, 6922, 6927, 6935, 6943, 6944, 6945] = false → u.1 j = m0 j) ∧ u.2 76 = (40, .inl X0.2.2.2.2.2.2.2.2.2.2.2.1) ∧ u.2 77 = (40, .inl X0.2.2.2.2.2.2.2.2.2.2.2.2.1) ∧ u.2 78 = (40, .inl X0.2.2.2.2.2.2.2.2.2.2.2.2.2.1) ∧ u.2 79 = (6001, .inr (.inl X0.2.2.2.2.2.2.2.2.2.2.2.2.2.2.1)) ∧ u.2 80 = (16384, .inl X0.2.2.2.2.2.2.2.2.2.2.2.2.2.2.2.1) ∧ u.2 81 = (6002, .inl X0.2.2.2.2.2.2.2.2.2.2.2.2.2.2.2.2.1) ∧ u.2 82 = (84000, .inl X0.2.2.2.2.2.2.2.2.2.2.2.2.2.2.2.2.2.1) ∧ u.2 83 = (84000, .inl X0.2.2.2.2.2.2.2.2.2.2.2.2.2.2.2.2.2.2.1) ∧ u.2 84 = (84000, .inl X0.2.2.2.2.2.2.2.2.2.2.2.2.2.2.2.2.2.2.2.1) ∧ u.2 85 = (84000, .inl X0.2.2.2.2.2.2.2.2.2.2.2.2.2.2.2.2.2.2.2.2.1) ∧ u.2 86 = (84000, .inl X0.2.2.2.2.2.2.2.2.2.2.2.2.2.2.2.2.2.2.2.2.2.1) ∧ u.2 87 = (6001, .inl X0.2.2.2.2.2.2.2.2.2.2.2.2.2.2.2.2.2.2.2.2.2.2.1) ∧ u.2 88 = (6001, .inl X0.2.2.2.2.2.2.2.2.2.2.2.2.2.2.2.2.2.2.2.2.2.2.2.1) ∧ u.2 89 = (6001, .inl X0.2.2.2.2.2.2.2.2.2.2.2.2.2.2.2.2.2.2.2.2.2.2.2.2.1) ∧ u.2 90 = (6001, .inl X0.2.2.2.2.2.2.2.2.2.2.2.2.2.2.2.2.2.2.2.2.2.2.2.2.2.1) ∧ u.2 91 = (6001, .inl X0.2.2.2.2.2.2.2.2.2.2.2.2.2.2.2.2.2.2.2.2.2.2.2.2.2.2.1) ∧ u.2 92 = (6001, .inl X0.2.2.2.2.2.2.2.2.2.2.2.2.2.2.2.2.2.2.2.2.2.2.2.2.2.2.2.1) ∧ u.2 93 = (6001, .inl X0.2.2.2.2.2.2.2.2.2.2.2.2.2.2.2.2.2.2.2.2.2.2.2.2.2.2.2.2.1) ∧ u.2 94 = (6001, .inl X0.2.2.2.2.2.2.2.2.2.2.2.2.2.2.2.2.2.2.2.2.2.2.2.2.2.2.2.2.2.1) ∧ u.2 95 = (6001, .inl X0.2.2.2.2.2.2.2.2.2.2.2.2.2.2.2.2.2.2.2.2.2.2.2.2.2.2.2.2.2.2.1) ∧ u.2 96 = (6002, .inl X0.2.2.2.2.2.2.2.2.2.2.2.2.2.2.2.2.2.2.2.2.2.2.2.2.2.2.2.2.2.2.2) ∧ (∀ j, nel j [76, 77, 78, 79, 80, 81, 82, 83, 84, 85, 86, 87, 88, 89, 90, 91, 92, 93, 94, 95, 96] = false → u.2 j = a0 j)) (gB D cy N q s.heap.size) (gA N q s.heap.size)) args s 0 0 (gA N q s.heap.size)) (F0 M 40 ls [.int s0j15, .int s1j15, .int s2j15, .long s3j15, .ref (q 69)]) := by
        intro v2j15 s0j15 s1j15 s2j15 s3j15 x69_19j15 x69_20j15 x69_21j15 x69_22j15 x69_27j15 x69_35j15 x69_43j15 x69_44j15 x69_45j15 A76j15 A77j15 A78j15 A79j15 A80j15 A81j15 A82j15 A83j15 A84j15 A85j15 A86j15 A87j15 A88j15 A89j15 A90j15 A91j15 A92j15 A93j15 A94j15 A95j15 A96j15 m a H locs w_x69_18 w_x69_19 w_x69_20 w_x69_21 w_x69_22 w_x69_27 w_x69_35 w_x69_43 w_x69_44 w_x69_45 hoff hsh w_A76 w_A77 w_A78 w_A79 w_A80 w_A81 w_A82 w_A83 w_A84 w_A85 w_A86 w_A87 w_A88 w_A89 w_A90 w_A91 w_A92 w_A93 w_A94 w_A95 w_A96 hoffa ls hl hs1 hW hS
        unfold fX12_enough_J40 at hs1
        refine g_SlR (n := 4) hx hb hml hown hG hW hS [.long s3j15, .int s2j15, .int s1j15, .int s0j15] (kX12_put hN s3j15 s2j15 s1j15 s0j15) rfl (gd_S gx203 gx204 gx5 gx205) rfl rfl (by decide) ⟨Nat.le_of_ble_eq_true rfl, Nat.le_of_ble_eq_true rfl⟩ rfl hl (Nat.le_of_ble_eq_true rfl) ⟨Nat.zero_le _, Nat.zero_le _⟩ dX12_enough_40 (fun H locs hW hS => ?_)
        refine lv_iload_n hx hb dX12_enough_43 rfl (lv_at hl 2 rfl) ?_
        obtain ⟨r17, hf17, hs1⟩ := obind hs1
        refine g_Vi (n := 2) hx hb hml hown hG hW hS [.long (fX12_put s3j15 s2j15 s1j15 s0j15), .int v2j15] (kX12_reaches hN hsh ((hoff 6900 rfl).trans h_x69_0) ((hoff 6901 rfl).trans h_x69_1) ((hoff 6903 rfl).trans h_x69_3) w_x69_19 w_x69_20 w_x69_21 w_x69_22 w_x69_27 w_x69_35 w_A76 w_A77 w_A78 w_A79 w_A80 w_A81 w_A82 w_A83 w_A84 w_A85 w_A86 F (fX12_put s3j15 s2j15 s1j15 s0j15) v2j15 hf17) (ltN hN 69 rfl) gk69 (by decide) rfl rfl (gd_V gx714 gx715 gx716 gx5 gx717) rfl rfl (by decide) ⟨Nat.le_of_ble_eq_true rfl, Nat.le_of_ble_eq_true rfl⟩ rfl hl (Nat.le_of_ble_eq_true rfl) ⟨Nat.zero_le _, Nat.zero_le _⟩ dX12_enough_44 (fun x17 m17 a17 H locs hp17 hW hS => ?_)
        obtain ⟨hx17, hp17_x69_19, hp17_x69_20, hp17_x69_21, hp17_x69_22, hp17_x69_27, hp17_x69_35, ho17, hp17_A76, hp17_A77, hp17_A78, hp17_A79, hp17_A80, hp17_A81, hp17_A82, hp17_A83, hp17_A84, hp17_A85, hp17_A86, hoa17⟩ := hp17
        subst hx17
        have w_x69_18 : m17 6918 = .int 0 := (ho17 6918 rfl).trans w_x69_18
        have w_x69_19 : m17 6919 = .long r17.2.1 := hp17_x69_19
        have w_x69_20 : m17 6920 = .int r17.2.2.1 := hp17_x69_20
        have w_x69_21 : m17 6921 = .int r17.2.2.2.1 := hp17_x69_21
        have w_x69_22 : m17 6922 = .int r17.2.2.2.2.1 := hp17_x69_22
        have w_x69_27 : m17 6927 = .int r17.2.2.2.2.2.1 := hp17_x69_27
        have w_x69_35 : m17 6935 = .int r17.2.2.2.2.2.2.1 := hp17_x69_35
        have w_x69_43 : m17 6943 = .int x69_43j15 := (ho17 6943 rfl).trans w_x69_43
        have w_x69_44 : m17 6944 = .int x69_44j15 := (ho17 6944 rfl).trans w_x69_44
        have w_x69_45 : m17 6945 = .int x69_45j15 := (ho17 6945 rfl).trans w_x69_45
        have hoff := offm hoff ho17 (by decide +kernel)
        have hsh := SH.off hsh ho17 (by decide +kernel)
        have w_A76 : a17 76 = (40, .inl r17.2.2.2.2.2.2.2.1) := hp17_A76
        have w_A77 : a17 77 = (40, .inl r17.2.2.2.2.2.2.2.2.1) := hp17_A77
        have w_A78 : a17 78 = (40, .inl r17.2.2.2.2.2.2.2.2.2.1) := hp17_A78
        have w_A79 : a17 79 = (6001, .inr (.inl r17.2.2.2.2.2.2.2.2.2.2.1)) := hp17_A79
        have w_A80 : a17 80 = (16384, .inl r17.2.2.2.2.2.2.2.2.2.2.2.1) := hp17_A80
        have w_A81 : a17 81 = (6002, .inl r17.2.2.2.2.2.2.2.2.2.2.2.2.1) := hp17_A81
        have w_A82 : a17 82 = (84000, .inl r17.2.2.2.2.2.2.2.2.2.2.2.2.2.1) := hp17_A82
        have w_A83 : a17 83 = (84000, .inl r17.2.2.2.2.2.2.2.2.2.2.2.2.2.2.1) := hp17_A83
        have w_A84 : a17 84 = (84000, .inl r17.2.2.2.2.2.2.2.2.2.2.2.2.2.2.2.1) := hp17_A84
        have w_A85 : a17 85 = (84000, .inl r17.2.2.2.2.2.2.2.2.2.2.2.2.2.2.2.2.1) := hp17_A85
        have w_A86 : a17 86 = (84000, .inl r17.2.2.2.2.2.2.2.2.2.2.2.2.2.2.2.2.2) := hp17_A86
        have w_A87 : a17 87 = (6001, .inl A87j15) := (hoa17 87 rfl).trans w_A87
        have w_A88 : a17 88 = (6001, .inl A88j15) := (hoa17 88 rfl).trans w_A88
        have w_A89 : a17 89 = (6001, .inl A89j15) := (hoa17 89 rfl).trans w_A89
        have w_A90 : a17 90 = (6001, .inl A90j15) := (hoa17 90 rfl).trans w_A90
        have w_A91 : a17 91 = (6001, .inl A91j15) := (hoa17 91 rfl).trans w_A91
        have w_A92 : a17 92 = (6001, .inl A92j15) := (hoa17 92 rfl).trans w_A92
        have w_A93 : a17 93 = (6001, .inl A93j15) := (hoa17 93 rfl).trans w_A93
        have w_A94 : a17 94 = (6001, .inl A94j15) := (hoa17 94 rfl).trans w_A94
        have w_A95 : a17 95 = (6001, .inl A95j15) := (hoa17 95 rfl).trans w_A95
        have w_A96 : a17 96 = (6002, .inl A96j15) := (hoa17 96 rfl).trans w_A96
        have hoffa := offm hoffa hoa17 (by decide +kernel)
        refine lv_if_ne (tgt := 53) hx hb dX12_enough_47 (by decide) (fun c18 => ?_) (fun c18 => ?_)
        · rw [if_neg c18] at hs1
          refine lv_aload_n hx hb dX12_enough_53 rfl (lv_at hl 0 rfl) ?_
          obtain ⟨r19, hf19, hs1⟩ := obind hs1
          refine g_Vv (n := 0) hx hb hml hown hG hW hS [] (kX12_laysWorst hN hsh w_x69_27 w_A81 w_A82 w_A83 w_x69_43 w_x69_44 w_x69_45 w_A87 w_A88 w_A89 w_A90 w_A91 w_A92 w_A93 w_A94 w_A95 w_A96 F hf19) (ltN hN 69 rfl) gk69 (by decide) rfl rfl (gd_V gx800 gx801 gx802 gx5 gx803) rfl rfl (by decide) ⟨Nat.le_of_ble_eq_true rfl, Nat.le_of_ble_eq_true rfl⟩ rfl hl (Nat.le_of_ble_eq_true rfl) ⟨Nat.zero_le _, Nat.zero_le _⟩ dX12_enough_54 (fun m19 a19 H locs hp19 hW hS => ?_)
          obtain ⟨hp19_x69_43, hp19_x69_44, hp19_x69_45, ho19, hp19_A87, hp19_A88, hp19_A89, hp19_A90, hp19_A91, hp19_A92, hp19_A93, hp19_A94, hp19_A95, hp19_A96, hoa19⟩ := hp19
          have w_x69_18 : m19 6918 = .int 0 := (ho19 6918 rfl).trans w_x69_18
          have w_x69_19 : m19 6919 = .long r17.2.1 := (ho19 6919 rfl).trans w_x69_19
          have w_x69_20 : m19 6920 = .int r17.2.2.1 := (ho19 6920 rfl).trans w_x69_20
          have w_x69_21 : m19 6921 = .int r17.2.2.2.1 := (ho19 6921 rfl).trans w_x69_21
          have w_x69_22 : m19 6922 = .int r17.2.2.2.2.1 := (ho19 6922 rfl).trans w_x69_22
          have w_x69_27 : m19 6927 = .int r17.2.2.2.2.2.1 := (ho19 6927 rfl).trans w_x69_27
          have w_x69_35 : m19 6935 = .int r17.2.2.2.2.2.2.1 := (ho19 6935 rfl).trans w_x69_35
          have w_x69_43 : m19 6943 = .int r19.1 := hp19_x69_43
          have w_x69_44 : m19 6944 = .int r19.2.1 := hp19_x69_44
          have w_x69_45 : m19 6945 = .int r19.2.2.1 := hp19_x69_45
          have hoff := offm hoff ho19 (by decide +kernel)
          have hsh := SH.off hsh ho19 (by decide +kernel)
          have w_A76 : a19 76 = (40, .inl r17.2.2.2.2.2.2.2.1) := (hoa19 76 rfl).trans w_A76
          have w_A77 : a19 77 = (40, .inl r17.2.2.2.2.2.2.2.2.1) := (hoa19 77 rfl).trans w_A77
          have w_A78 : a19 78 = (40, .inl r17.2.2.2.2.2.2.2.2.2.1) := (hoa19 78 rfl).trans w_A78
          have w_A79 : a19 79 = (6001, .inr (.inl r17.2.2.2.2.2.2.2.2.2.2.1)) := (hoa19 79 rfl).trans w_A79
          have w_A80 : a19 80 = (16384, .inl r17.2.2.2.2.2.2.2.2.2.2.2.1) := (hoa19 80 rfl).trans w_A80
          have w_A81 : a19 81 = (6002, .inl r17.2.2.2.2.2.2.2.2.2.2.2.2.1) := (hoa19 81 rfl).trans w_A81
          have w_A82 : a19 82 = (84000, .inl r17.2.2.2.2.2.2.2.2.2.2.2.2.2.1) := (hoa19 82 rfl).trans w_A82
          have w_A83 : a19 83 = (84000, .inl r17.2.2.2.2.2.2.2.2.2.2.2.2.2.2.1) := (hoa19 83 rfl).trans w_A83
          have w_A84 : a19 84 = (84000, .inl r17.2.2.2.2.2.2.2.2.2.2.2.2.2.2.2.1) := (hoa19 84 rfl).trans w_A84
          have w_A85 : a19 85 = (84000, .inl r17.2.2.2.2.2.2.2.2.2.2.2.2.2.2.2.2.1) := (hoa19 85 rfl).trans w_A85
          have w_A86 : a19 86 = (84000, .inl r17.2.2.2.2.2.2.2.2.2.2.2.2.2.2.2.2.2) := (hoa19 86 rfl).trans w_A86
          have w_A87 : a19 87 = (6001, .inl r19.2.2.2.1) := hp19_A87
          have w_A88 : a19 88 = (6001, .inl r19.2.2.2.2.1) := hp19_A88
          have w_A89 : a19 89 = (6001, .inl r19.2.2.2.2.2.1) := hp19_A89
          have w_A90 : a19 90 = (6001, .inl r19.2.2.2.2.2.2.1) := hp19_A90
          have w_A91 : a19 91 = (6001, .inl r19.2.2.2.2.2.2.2.1) := hp19_A91
          have w_A92 : a19 92 = (6001, .inl r19.2.2.2.2.2.2.2.2.1) := hp19_A92
          have w_A93 : a19 93 = (6001, .inl r19.2.2.2.2.2.2.2.2.2.1) := hp19_A93
          have w_A94 : a19 94 = (6001, .inl r19.2.2.2.2.2.2.2.2.2.2.1) := hp19_A94
          have w_A95 : a19 95 = (6001, .inl r19.2.2.2.2.2.2.2.2.2.2.2.1) := hp19_A95
          have w_A96 : a19 96 = (6002, .inl r19.2.2.2.2.2.2.2.2.2.2.2.2) := hp19_A96
          have hoffa := offm hoffa hoa19 (by decide +kernel)
          refine lv_aload_n hx hb dX12_enough_57 rfl (lv_at hl 0 rfl) ?_
          refine gf12_46 hx hb hG hown hW (o := 69) (ltN hN 69 rfl) gk69 (v := .ref (q 94)) (sh69_46 hsh) gx192 dX12_enough_58 ?_
          refine lv_aload_n hx hb dX12_enough_61 rfl (lv_at hl 0 rfl) ?_
          refine gf12_36 hx hb hG hown hW (o := 69) (ltN hN 69 rfl) gk69 (v := .ref (q 87)) (sh69_36 hsh) gx184 dX12_enough_62 ?_
          refine lv_iconst (v := 0) hx hb dX12_enough_65 (by decide) ?_
          refine g_iald hx hb hW (o := 87) (ltN hN 87 rfl) gk87 w_A87 (vin (by decide)) dX12_enough_66 ?_
          obtain ⟨hi20, hs1⟩ := oif hs1
          refine g_iald hx hb hW (o := 94) (ltN hN 94 rfl) gk94 w_A94 (vin hi20) dX12_enough_67 ?_
          refine lv_ldcw (v := 1000000) hx hb hown (hG _ gx823) dX12_enough_68 ?_
          refine lv_icmp_ge (tgt := 76) hx hb dX12_enough_71 (by decide) (fun c21 => ?_) (fun c21 => ?_)
          · rw [if_pos c21] at hs1
            refine lv_iinc (v := v2j15 + 1) (lv' := [(2, .int (v2j15 + 1)), (0, .ref (q 69)), (1, .int (fX12_get x69_4 3 3))]) hx hb dX12_enough_76 hl (k := 2) rfl rfl (by decide) rfl (fun ls hl => ?_)
            refine lv_goto (tgt := 17) hx hb dX12_enough_79 (by decide) ?_
            exact ih1 (v2j15 + 1) r17.2.1 r17.2.2.1 r17.2.2.2.1 r17.2.2.2.2.1 r17.2.2.2.2.2.1 r17.2.2.2.2.2.2.1 r19.1 r19.2.1 r19.2.2.1 r17.2.2.2.2.2.2.2.1 r17.2.2.2.2.2.2.2.2.1 r17.2.2.2.2.2.2.2.2.2.1 r17.2.2.2.2.2.2.2.2.2.2.1 r17.2.2.2.2.2.2.2.2.2.2.2.1 r17.2.2.2.2.2.2.2.2.2.2.2.2.1 r17.2.2.2.2.2.2.2.2.2.2.2.2.2.1 r17.2.2.2.2.2.2.2.2.2.2.2.2.2.2.1 r17.2.2.2.2.2.2.2.2.2.2.2.2.2.2.2.1 r17.2.2.2.2.2.2.2.2.2.2.2.2.2.2.2.2.1 r17.2.2.2.2.2.2.2.2.2.2.2.2.2.2.2.2.2 r19.2.2.2.1 r19.2.2.2.2.1 r19.2.2.2.2.2.1 r19.2.2.2.2.2.2.1 r19.2.2.2.2.2.2.2.1 r19.2.2.2.2.2.2.2.2.1 r19.2.2.2.2.2.2.2.2.2.1 r19.2.2.2.2.2.2.2.2.2.2.1 r19.2.2.2.2.2.2.2.2.2.2.2.1 r19.2.2.2.2.2.2.2.2.2.2.2.2 m19 a19 _ _ w_x69_18 w_x69_19 w_x69_20 w_x69_21 w_x69_22 w_x69_27 w_x69_35 w_x69_43 w_x69_44 w_x69_45 hoff hsh w_A76 w_A77 w_A78 w_A79 w_A80 w_A81 w_A82 w_A83 w_A84 w_A85 w_A86 w_A87 w_A88 w_A89 w_A90 w_A91 w_A92 w_A93 w_A94 w_A95 w_A96 hoffa ls (lv_sub hl [1, 2, 0] rfl) (hXr1 _ (Option.some.inj hs1).symm) hW hS
          · rw [if_neg c21] at hs1
            exact hE1_74 (v2j15, r17.2.1, r17.2.2.1, r17.2.2.2.1, r17.2.2.2.2.1, r17.2.2.2.2.2.1, r17.2.2.2.2.2.2.1, r19.1, r19.2.1, r19.2.2.1, r17.2.2.2.2.2.2.2.1, r17.2.2.2.2.2.2.2.2.1, r17.2.2.2.2.2.2.2.2.2.1, r17.2.2.2.2.2.2.2.2.2.2.1, r17.2.2.2.2.2.2.2.2.2.2.2.1, r17.2.2.2.2.2.2.2.2.2.2.2.2.1, r17.2.2.2.2.2.2.2.2.2.2.2.2.2.1, r17.2.2.2.2.2.2.2.2.2.2.2.2.2.2.1, r17.2.2.2.2.2.2.2.2.2.2.2.2.2.2.2.1, r17.2.2.2.2.2.2.2.2.2.2.2.2.2.2.2.2.1, r17.2.2.2.2.2.2.2.2.2.2.2.2.2.2.2.2.2, r19.2.2.2.1, r19.2.2.2.2.1, r19.2.2.2.2.2.1, r19.2.2.2.2.2.2.1, r19.2.2.2.2.2.2.2.1, r19.2.2.2.2.2.2.2.2.1, r19.2.2.2.2.2.2.2.2.2.1, r19.2.2.2.2.2.2.2.2.2.2.1, r19.2.2.2.2.2.2.2.2.2.2.2.1, r19.2.2.2.2.2.2.2.2.2.2.2.2) (hXl1 _ (Option.some.inj hs1).symm) m19 a19 _ _ w_x69_18 w_x69_19 w_x69_20 w_x69_21 w_x69_22 w_x69_27 w_x69_35 w_x69_43 w_x69_44 w_x69_45 hoff hsh w_A76 w_A77 w_A78 w_A79 w_A80 w_A81 w_A82 w_A83 w_A84 w_A85 w_A86 w_A87 w_A88 w_A89 w_A90 w_A91 w_A92 w_A93 w_A94 w_A95 w_A96 hoffa ls (lv_sub hl [2] rfl) hW hS
        · rw [if_pos c18] at hs1
          exact hE1_50 (r17.2.1, r17.2.2.1, r17.2.2.2.1, r17.2.2.2.2.1, r17.2.2.2.2.2.1, r17.2.2.2.2.2.2.1, x69_43j15, x69_44j15, x69_45j15, r17.2.2.2.2.2.2.2.1, r17.2.2.2.2.2.2.2.2.1, r17.2.2.2.2.2.2.2.2.2.1, r17.2.2.2.2.2.2.2.2.2.2.1, r17.2.2.2.2.2.2.2.2.2.2.2.1, r17.2.2.2.2.2.2.2.2.2.2.2.2.1, r17.2.2.2.2.2.2.2.2.2.2.2.2.2.1, r17.2.2.2.2.2.2.2.2.2.2.2.2.2.2.1, r17.2.2.2.2.2.2.2.2.2.2.2.2.2.2.2.1, r17.2.2.2.2.2.2.2.2.2.2.2.2.2.2.2.2.1, r17.2.2.2.2.2.2.2.2.2.2.2.2.2.2.2.2.2, A87j15, A88j15, A89j15, A90j15, A91j15, A92j15, A93j15, A94j15, A95j15, A96j15) (hXl1 _ (Option.some.inj hs1).symm) m17 a17 _ _ w_x69_18 w_x69_19 w_x69_20 w_x69_21 w_x69_22 w_x69_27 w_x69_35 w_x69_43 w_x69_44 w_x69_45 hoff hsh w_A76 w_A77 w_A78 w_A79 w_A80 w_A81 w_A82 w_A83 w_A84 w_A85 w_A86 w_A87 w_A88 w_A89 w_A90 w_A91 w_A92 w_A93 w_A94 w_A95 w_A96 hoffa ls (lv_sub hl [] rfl) hW hS
      refine lv_iload_n hx hb dX12_enough_17 rfl (lv_at hl 2 rfl) ?_
      refine lv_bipush (v := 8) hx hb dX12_enough_18 (by decide) ?_
      refine lv_icmp_ge (tgt := 82) hx hb dX12_enough_20 (by decide) (fun c13 => ?_) (fun c13 => ?_)
      · rw [if_pos c13] at hs1
        exact hE1_82 (x69_19k3, x69_20k3, x69_21k3, x69_22k3, x69_27k3, x69_35k3, x69_43k3, x69_44k3, x69_45k3, A76k3, A77k3, A78k3, A79k3, A80k3, A81k3, A82k3, A83k3, A84k3, A85k3, A86k3, A87k3, A88k3, A89k3, A90k3, A91k3, A92k3, A93k3, A94k3, A95k3, A96k3) (hXl1 _ (Option.some.inj hs1).symm) m a _ _ w_x69_18 w_x69_19 w_x69_20 w_x69_21 w_x69_22 w_x69_27 w_x69_35 w_x69_43 w_x69_44 w_x69_45 hoff hsh w_A76 w_A77 w_A78 w_A79 w_A80 w_A81 w_A82 w_A83 w_A84 w_A85 w_A86 w_A87 w_A88 w_A89 w_A90 w_A91 w_A92 w_A93 w_A94 w_A95 w_A96 hoffa ls (lv_sub hl [] rfl) hW hS
      · rw [if_neg c13] at hs1
        refine lv_aload_n hx hb dX12_enough_23 rfl (lv_at hl 0 rfl) ?_
        refine lv_aload_n hx hb dX12_enough_24 rfl (lv_at hl 0 rfl) ?_
        refine gf12_4 hx hb hG hown hW (o := 69) (ltN hN 69 rfl) gk69 (v := .long x69_4) ((hoff 6904 rfl).trans h_x69_4) gx202 dX12_enough_25 ?_
        refine lv_iconst (v := 3) hx hb dX12_enough_28 (by decide) ?_
        refine lv_iconst (v := 3) hx hb dX12_enough_29 (by decide) ?_
        refine lv_iload_n hx hb dX12_enough_30 rfl (lv_at hl 1 rfl) ?_
        refine lv_iload_n hx hb dX12_enough_31 rfl (lv_at hl 2 rfl) ?_
        refine lv_icmp_ge (tgt := 39) hx hb dX12_enough_32 (by decide) (fun c14 => ?_) (fun c14 => ?_)
        · rw [if_pos c14] at hs1
          refine lv_iconst (v := 0) hx hb dX12_enough_39 (by decide) ?_
          exact hJ40_1 v2k3 0 3 3 x69_4 x69_19k3 x69_20k3 x69_21k3 x69_22k3 x69_27k3 x69_35k3 x69_43k3 x69_44k3 x69_45k3 A76k3 A77k3 A78k3 A79k3 A80k3 A81k3 A82k3 A83k3 A84k3 A85k3 A86k3 A87k3 A88k3 A89k3 A90k3 A91k3 A92k3 A93k3 A94k3 A95k3 A96k3 m a _ _ w_x69_18 w_x69_19 w_x69_20 w_x69_21 w_x69_22 w_x69_27 w_x69_35 w_x69_43 w_x69_44 w_x69_45 hoff hsh w_A76 w_A77 w_A78 w_A79 w_A80 w_A81 w_A82 w_A83 w_A84 w_A85 w_A86 w_A87 w_A88 w_A89 w_A90 w_A91 w_A92 w_A93 w_A94 w_A95 w_A96 hoffa ls (lv_sub hl [0, 1, 2] rfl) hs1 hW hS
        · rw [if_neg c14] at hs1
          refine lv_iload_n hx hb dX12_enough_35 rfl (lv_at hl 1 rfl) ?_
          refine lv_goto (tgt := 40) hx hb dX12_enough_36 (by decide) ?_
          exact hJ40_1 v2k3 (fX12_get x69_4 3 3) 3 3 x69_4 x69_19k3 x69_20k3 x69_21k3 x69_22k3 x69_27k3 x69_35k3 x69_43k3 x69_44k3 x69_45k3 A76k3 A77k3 A78k3 A79k3 A80k3 A81k3 A82k3 A83k3 A84k3 A85k3 A86k3 A87k3 A88k3 A89k3 A90k3 A91k3 A92k3 A93k3 A94k3 A95k3 A96k3 m a _ _ w_x69_18 w_x69_19 w_x69_20 w_x69_21 w_x69_22 w_x69_27 w_x69_35 w_x69_43 w_x69_44 w_x69_45 hoff hsh w_A76 w_A77 w_A78 w_A79 w_A80 w_A81 w_A82 w_A83 w_A84 w_A85 w_A86 w_A87 w_A88 w_A89 w_A90 w_A91 w_A92 w_A93 w_A94 w_A95 w_A96 hoffa ls (lv_sub hl [0, 1, 2] rfl) hs1 hW hS
  exact hL1 F 1 x69_19 x69_20 x69_21 x69_22 x69_27 x69_35 x69_43 x69_44 x69_45 A76 A77 A78 A79 A80 A81 A82 A83 A84 A85 A86 A87 A88 A89 A90 A91 A92 A93 A94 A95 A96 m1 a0 _ _ w_x69_18 w_x69_19 w_x69_20 w_x69_21 w_x69_22 w_x69_27 w_x69_35 w_x69_43 w_x69_44 w_x69_45 hoff hsh h_A76 h_A77 h_A78 h_A79 h_A80 h_A81 h_A82 h_A83 h_A84 h_A85 h_A86 h_A87 h_A88 h_A89 h_A90 h_A91 h_A92 h_A93 h_A94 h_A95 h_A96 hoffa ls (lv_sub hl [2, 1, 0] rfl) hg3 hW hS
