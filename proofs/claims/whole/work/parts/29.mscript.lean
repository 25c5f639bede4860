/-! 29.mscript (by program): the pure function of each method, its rows, its contract -/
-- HealLinkModel.packed (Ljava/lang/String;)J
def fX12_packed_S4 (F : Nat) (sn : Nat) (sf : Nat → Int32) (v1 : Int64) (v3 : Int32) : Option ((Int64) ⊕ (Int64 × Int32)) := (if (nI sn) ≤ v3 then some (Sum.inl v1) else (if inb v3 sn = true then some (Sum.inr ((256 * v1) + ((chAt sf v3.toNatClampNeg).toInt64), v3 + 1)) else none))
def fX12_packed (F : Nat) (sn : Nat) (sf : Nat → Int32) : Option (Int64) := (gloop (fun u1 : (Int64 × Int32) => fX12_packed_S4 F sn sf u1.1 u1.2) F (0, 0)).bind (fun t1_31 => some t1_31)
theorem dX12_packed_0 : decode cX12_packed 0 = .ok (.lconst 0, 1) := by decide +kernel
theorem dX12_packed_1 : decode cX12_packed 1 = .ok (.lstore_n 1, 1) := by decide +kernel
theorem dX12_packed_2 : decode cX12_packed 2 = .ok (.iconst 0, 1) := by decide +kernel
theorem dX12_packed_3 : decode cX12_packed 3 = .ok (.istore_n 3, 1) := by decide +kernel
theorem dX12_packed_4 : decode cX12_packed 4 = .ok (.iload_n 3, 1) := by decide +kernel
theorem dX12_packed_5 : decode cX12_packed 5 = .ok (.aload_n 0, 1) := by decide +kernel
theorem dX12_packed_6 : decode cX12_packed 6 = .ok (.invokevirtual 385, 3) := by decide +kernel
theorem dX12_packed_9 : decode cX12_packed 9 = .ok (.if_icmp .ge 22, 3) := by decide +kernel
theorem dX12_packed_12 : decode cX12_packed 12 = .ok (.ldc2_w 380, 3) := by decide +kernel
theorem dX12_packed_15 : decode cX12_packed 15 = .ok (.lload_n 1, 1) := by decide +kernel
theorem dX12_packed_16 : decode cX12_packed 16 = .ok (.lmul, 1) := by decide +kernel
theorem dX12_packed_17 : decode cX12_packed 17 = .ok (.aload_n 0, 1) := by decide +kernel
theorem dX12_packed_18 : decode cX12_packed 18 = .ok (.iload_n 3, 1) := by decide +kernel
theorem dX12_packed_19 : decode cX12_packed 19 = .ok (.invokevirtual 391, 3) := by decide +kernel
theorem dX12_packed_22 : decode cX12_packed 22 = .ok (.i2l, 1) := by decide +kernel
theorem dX12_packed_23 : decode cX12_packed 23 = .ok (.ladd, 1) := by decide +kernel
theorem dX12_packed_24 : decode cX12_packed 24 = .ok (.lstore_n 1, 1) := by decide +kernel
theorem dX12_packed_25 : decode cX12_packed 25 = .ok (.iinc 3 1, 3) := by decide +kernel
theorem dX12_packed_28 : decode cX12_packed 28 = .ok (.goto (-24), 3) := by decide +kernel
theorem dX12_packed_31 : decode cX12_packed 31 = .ok (.lload_n 1, 1) := by decide +kernel
theorem dX12_packed_32 : decode cX12_packed 32 = .ok (.lreturn, 1) := by decide +kernel
set_option maxHeartbeats 4000000 in
set_option maxRecDepth 100000 in
theorem kX12_packed {l : Launch} {D : va_G} {cy : Nat → ClassId} {N : Nat} {q : Nat → Nat} {st svv sn : Nat} {sf : Nat → Int32} {m0 : Nat → Value} {a0 : Nat → vp_A} {sz : Nat} (hN : 105 ≤ N) (hsn : sn < 2 ^ 31) (F : Nat) {X0 : Int64} (hs0 : fX12_packed F sn sf = some X0) : eMl l yX12_packed cX12_packed 4 (some .long) ({ frames := 4, cells := 0, slots := 0, locals := 85 } : Room) D cy N q m0 a0 sz [.ref st] (XT st svv sn sf) (fun r m' a' => r = X0 ∧ m' = m0 ∧ a' = a0) := by
  refine e_ofl (by decide) (Nat.le_of_ble_eq_true rfl) ?_
  intro p e s M args below meth c hx hb hr hG hown hin hlocks hml hW hS hE ls hl
  unfold fX12_packed at hs0
  refine lv_lconst (v := 0) hx hb dX12_packed_0 (by decide) ?_
  refine lv_lstore_n (lv' := [(1, .long 0), (0, .ref st)]) hx hb dX12_packed_1 rfl hl (by decide) rfl (fun ls hl => ?_)
  refine lv_iconst (v := 0) hx hb dX12_packed_2 (by decide) ?_
  refine lv_istore_n (lv' := [(3, .int 0), (1, .long 0), (0, .ref st)]) hx hb dX12_packed_3 rfl hl (by decide) rfl (fun ls hl => ?_)
  obtain ⟨r1, hg1, hs0⟩ := obind hs0
  have hE1_31 : ∀ (t1_31 : Int64) (hr1 : t1_31 = r1) (H : Heap) (locs : List Loc) (ls : Array Slot) (hl : lv_has ls 4 [(1, .long t1_31)]) (hW : GW D cy (gA N q s.heap.size) N q m0 a0 s H) (hS : va_S (gA N q s.heap.size) s.heap H locs), W p l e ({ frames := 4, cells := 0, slots := 0, locals := 85 } : Room) s M args below meth c H locs 0 0 (MQ below (va_Ql (fun (r : Int64) (u : (Nat → Value) × (Nat → vp_A)) => r = X0 ∧ u.1 = m0 ∧ u.2 = a0) (gB D cy N q s.heap.size) (gA N q s.heap.size)) args s 0 0 (gA N q s.heap.size)) (F0 M 31 ls []) := by
    intro t1_31 hr1 H locs ls hl hW hS
    subst hr1
    refine lv_lload_n hx hb dX12_packed_31 rfl (lv_at hl 0 rfl) ?_
    have hs0 := Option.some.inj hs0
    subst hs0
    exact W.lret hx hb hr (fun t ht hw => ⟨⟨_, (m0, a0), rfl, ⟨rfl, rfl, rfl⟩, g_end hW ht hw⟩, hS.F ht⟩) hS.2.2 dX12_packed_32 hlocks
  have hL1 : ∀ (n : Nat) (v1k1 : Int64) (v3k1 : Int32) (H : Heap) (locs : List Loc) (ls : Array Slot) (hl : lv_has ls 4 [(0, .ref st), (1, .long v1k1), (3, .int v3k1)]) (hg1 : gloop (fun u1 : (Int64 × Int32) => fX12_packed_S4 F sn sf u1.1 u1.2) n (v1k1, v3k1) = some r1) (hW : GW D cy (gA N q s.heap.size) N q m0 a0 s H) (hS : va_S (gA N q s.heap.size) s.heap H locs), W p l e ({ frames := 4, cells := 0, slots := 0, locals := 85 } : Room) s M args below meth c H locs 0 0 (MQ below (va_Ql (fun (r : Int64) (u : (Nat → Value) × (Nat → vp_A)) => r = X0 ∧ u.1 = m0 ∧ u.2 = a0) (gB D cy N q s.heap.size) (gA N q s.heap.size)) args s 0 0 (gA N q s.heap.size)) (F0 M 4 ls []) := by
    intro n
    induction n with
    | zero => intro v1k1 v3k1 H locs ls hl hg1 hW hS; exact (gl_zero hg1).elim
    | succ n ih1 =>
      intro v1k1 v3k1 H locs ls hl hg1 hW hS
      obtain ⟨X1, hs1, hXl1, hXr1⟩ := gl_succ hg1
      have hs1 : fX12_packed_S4 F sn sf v1k1 v3k1 = some X1 := hs1
      unfold fX12_packed_S4 at hs1
      refine lv_iload_n hx hb dX12_packed_4 rfl (lv_at hl 2 rfl) ?_
      refine lv_aload_n hx hb dX12_packed_5 rfl (lv_at hl 0 rfl) ?_
      refine vp_callSi (W.runV (As := []) (rest := [.int v3k1]) ⟨hx, hb, hml, hown, hG⟩ (kJ0_length (a := st) (v := svv) (n := sn) (f := sf)) (cwV 0 hG (gd_V gx1361 gx1199 gx1200 gx1201 gx1202) rfl rfl rfl (by decide +kernel) ⟨Nat.le_of_ble_eq_true rfl, Nat.le_of_ble_eq_true rfl⟩) ⟨SE.blind, s_recv hE.1 hS, fun U hU hw => ⟨rfl, hE.se hS hU hw⟩⟩ rfl rfl hl.1 rfl (lv_room (Nat.le_of_ble_eq_true rfl)) dX12_packed_6 ⟨Nat.zero_le _, Nat.zero_le _⟩) (fun x5 hx5 => ?_)
      subst hx5
      refine lv_icmp_ge (tgt := 31) hx hb dX12_packed_9 (by decide) (fun c6 => ?_) (fun c6 => ?_)
      · rw [if_pos c6] at hs1
        exact hE1_31 v1k1 (hXl1 _ (Option.some.inj hs1).symm) _ _ ls (lv_sub hl [1] rfl) hW hS
      · rw [if_neg c6] at hs1
        refine lv_ldc2 (v := 256) hx hb hown (hG _ gx1322) dX12_packed_12 ?_
        refine lv_lload_n hx hb dX12_packed_15 rfl (lv_at hl 1 rfl) ?_
        refine lv_lmul hx hb dX12_packed_16 ?_
        refine lv_aload_n hx hb dX12_packed_17 rfl (lv_at hl 0 rfl) ?_
        refine lv_iload_n hx hb dX12_packed_18 rfl (lv_at hl 2 rfl) ?_
        obtain ⟨hi7, hs1⟩ := oif hs1
        refine vp_callSi (W.runV (As := [.int v3k1]) (rest := [.long (256 * v1k1)]) ⟨hx, hb, hml, hown, hG⟩ (kJ0_charAtI (a := st) (v := svv) (f := sf) hsn hi7) (cwV 1 hG (gd_V gx1362 gx1211 gx1212 gx1201 gx1213) rfl rfl rfl (by decide +kernel) ⟨Nat.le_of_ble_eq_true rfl, Nat.le_of_ble_eq_true rfl⟩) ⟨SE.blind, s_recv hE.1 hS, fun U hU hw => ⟨rfl, hE.se hS hU hw⟩⟩ rfl rfl hl.1 rfl (lv_room (Nat.le_of_ble_eq_true rfl)) dX12_packed_19 ⟨Nat.zero_le _, Nat.zero_le _⟩) (fun x7 hx7 => ?_)
        subst hx7
        refine lv_i2l hx hb dX12_packed_22 rfl ?_
        refine lv_ladd hx hb dX12_packed_23 ?_
        refine lv_lstore_n (lv' := [(1, .long ((256 * v1k1) + ((chAt sf v3k1.toNatClampNeg).toInt64))), (0, .ref st), (3, .int v3k1)]) hx hb dX12_packed_24 rfl hl (by decide) rfl (fun ls hl => ?_)
        refine lv_iinc (v := v3k1 + 1) (lv' := [(3, .int (v3k1 + 1)), (1, .long ((256 * v1k1) + ((chAt sf v3k1.toNatClampNeg).toInt64))), (0, .ref st)]) hx hb dX12_packed_25 hl (k := 2) rfl rfl (by decide) rfl (fun ls hl => ?_)
        refine lv_goto (tgt := 4) hx hb dX12_packed_28 (by decide) ?_
        exact ih1 ((256 * v1k1) + ((chAt sf v3k1.toNatClampNeg).toInt64)) (v3k1 + 1) _ _ ls (lv_sub hl [2, 1, 0] rfl) (hXr1 _ (Option.some.inj hs1).symm) hW hS
  exact hL1 F 0 0 _ _ ls (lv_sub hl [2, 1, 0] rfl) hg1 hW hS
-- HealLinkModel.isWord (Ljava/lang/String;)Z
def fX12_isWord (F : Nat) (sn : Nat) (sf : Nat → Int32) (x69_60 : Int32) (x69_61 : Int64) (x69_63 : Int32) : Option (Int32) := (if x69_63 = 0 then (if x69_60 = 1 then ((fX12_packed F sn sf).bind (fun r3 => (if (lg_cmp x69_61 r3) = 0 then some 1 else some 0))) else some 0) else some 0)
theorem dX12_isWord_0 : decode cX12_isWord 0 = .ok (.aload_n 0, 1) := by decide +kernel
theorem dX12_isWord_1 : decode cX12_isWord 1 = .ok (.getfield 356, 3) := by decide +kernel
theorem dX12_isWord_4 : decode cX12_isWord 4 = .ok (.ifCond .ne 27, 3) := by decide +kernel
theorem dX12_isWord_7 : decode cX12_isWord 7 = .ok (.aload_n 0, 1) := by decide +kernel
theorem dX12_isWord_8 : decode cX12_isWord 8 = .ok (.getfield 368, 3) := by decide +kernel
theorem dX12_isWord_11 : decode cX12_isWord 11 = .ok (.iconst 1, 1) := by decide +kernel
theorem dX12_isWord_12 : decode cX12_isWord 12 = .ok (.if_icmp .ne 19, 3) := by decide +kernel
theorem dX12_isWord_15 : decode cX12_isWord 15 = .ok (.aload_n 0, 1) := by decide +kernel
theorem dX12_isWord_16 : decode cX12_isWord 16 = .ok (.getfield 371, 3) := by decide +kernel
theorem dX12_isWord_19 : decode cX12_isWord 19 = .ok (.aload_n 1, 1) := by decide +kernel
theorem dX12_isWord_20 : decode cX12_isWord 20 = .ok (.invokestatic 395, 3) := by decide +kernel
theorem dX12_isWord_23 : decode cX12_isWord 23 = .ok (.lcmp, 1) := by decide +kernel
theorem dX12_isWord_24 : decode cX12_isWord 24 = .ok (.ifCond .ne 7, 3) := by decide +kernel
theorem dX12_isWord_27 : decode cX12_isWord 27 = .ok (.iconst 1, 1) := by decide +kernel
theorem dX12_isWord_28 : decode cX12_isWord 28 = .ok (.goto 4, 3) := by decide +kernel
theorem dX12_isWord_31 : decode cX12_isWord 31 = .ok (.iconst 0, 1) := by decide +kernel
theorem dX12_isWord_32 : decode cX12_isWord 32 = .ok (.ireturn, 1) := by decide +kernel
set_option maxHeartbeats 4000000 in
set_option maxRecDepth 100000 in
theorem kX12_isWord {l : Launch} {D : va_G} {cy : Nat → ClassId} {N : Nat} {q : Nat → Nat} {st svv sn : Nat} {sf : Nat → Int32} {m0 : Nat → Value} {a0 : Nat → vp_A} {sz : Nat} (hN : 105 ≤ N) (hsn : sn < 2 ^ 31) {x69_60 : Int32} (h_x69_60 : m0 6960 = .int x69_60) {x69_61 : Int64} (h_x69_61 : m0 6961 = .long x69_61) {x69_63 : Int32} (h_x69_63 : m0 6963 = .int x69_63) (F : Nat) {X0 : Int32} (hs0 : fX12_isWord F sn sf x69_60 x69_61 x69_63 = some X0) : eMi l yX12_isWord cX12_isWord 2 (some .boolean) ({ frames := 5, cells := 0, slots := 0, locals := 108 } : Room) D cy N q m0 a0 sz [.ref (q 69), .ref st] (XT st svv sn sf) (fun r m' a' => r = X0 ∧ m' = m0 ∧ a' = a0) := by
  refine e_ofi (by decide) (Nat.le_of_ble_eq_true rfl) ?_
  intro p e s M args below meth c hx hb hr hG hown hin hlocks hml hW hS hE ls hl
  unfold fX12_isWord at hs0
  refine lv_aload_n hx hb dX12_isWord_0 rfl (lv_at hl 0 rfl) ?_
  refine gf12_63 hx hb hG hown hW (o := 69) (ltN hN 69 rfl) gk69 (v := .int x69_63) h_x69_63 gx1305 dX12_isWord_1 ?_
  refine lv_if_ne (tgt := 31) hx hb dX12_isWord_4 (by decide) (fun c1 => ?_) (fun c1 => ?_)
  · rw [if_neg c1] at hs0
    refine lv_iconst (v := 0) hx hb dX12_isWord_31 (by decide) ?_
    have hs0 := Option.some.inj hs0
    subst hs0
    exact W.zret hx hb hr rfl (fun t ht hw => ⟨⟨_, (m0, a0), rfl, ⟨rfl, rfl, rfl⟩, g_end hW ht hw⟩, hS.F ht⟩) hS.2.2 dX12_isWord_32 hlocks
  · rw [if_pos c1] at hs0
    refine lv_aload_n hx hb dX12_isWord_7 rfl (lv_at hl 0 rfl) ?_
    refine gf12_60 hx hb hG hown hW (o := 69) (ltN hN 69 rfl) gk69 (v := .int x69_60) h_x69_60 gx1314 dX12_isWord_8 ?_
    refine lv_iconst (v := 1) hx hb dX12_isWord_11 (by decide) ?_
    refine lv_icmp_ne (tgt := 31) hx hb dX12_isWord_12 (by decide) (fun c2 => ?_) (fun c2 => ?_)
    · rw [if_neg c2] at hs0
      refine lv_iconst (v := 0) hx hb dX12_isWord_31 (by decide) ?_
      have hs0 := Option.some.inj hs0
      subst hs0
      exact W.zret hx hb hr rfl (fun t ht hw => ⟨⟨_, (m0, a0), rfl, ⟨rfl, rfl, rfl⟩, g_end hW ht hw⟩, hS.F ht⟩) hS.2.2 dX12_isWord_32 hlocks
    · rw [if_pos c2] at hs0
      refine lv_aload_n hx hb dX12_isWord_15 rfl (lv_at hl 0 rfl) ?_
      refine gf12_61 hx hb hG hown hW (o := 69) (ltN hN 69 rfl) gk69 (v := .long x69_61) h_x69_61 gx1320 dX12_isWord_16 ?_
      refine lv_aload_n hx hb dX12_isWord_19 rfl (lv_at hl 1 rfl) ?_
      obtain ⟨r3, hf3, hs0⟩ := obind hs0
      refine g_Sle (n := 1) hx hb hml hown hG hW hS [.ref st] XT.ok hE (kX12_packed hN hsn F hf3) rfl (gd_S gx1358 gx1359 gx5 gx1360) rfl rfl (by decide) ⟨Nat.le_of_ble_eq_true rfl, Nat.le_of_ble_eq_true rfl⟩ rfl hl (Nat.le_of_ble_eq_true rfl) ⟨Nat.zero_le _, Nat.zero_le _⟩ dX12_isWord_20 (fun x3 m3 a3 H locs hp3 hW hS => ?_)
      obtain ⟨hx3, hm3, ha3⟩ := hp3
      subst hx3
      rw [hm3] at hW
      rw [ha3] at hW
      refine W.lcmp hx hb dX12_isWord_23 ?_
      refine lv_if_ne (tgt := 31) hx hb dX12_isWord_24 (by decide) (fun c4 => ?_) (fun c4 => ?_)
      · rw [if_neg c4] at hs0
        refine lv_iconst (v := 0) hx hb dX12_isWord_31 (by decide) ?_
        have hs0 := Option.some.inj hs0
        subst hs0
        exact W.zret hx hb hr rfl (fun t ht hw => ⟨⟨_, (m0, a0), rfl, ⟨rfl, rfl, rfl⟩, g_end hW ht hw⟩, hS.F ht⟩) hS.2.2 dX12_isWord_32 hlocks
      · rw [if_pos c4] at hs0
        refine lv_iconst (v := 1) hx hb dX12_isWord_27 (by decide) ?_
        refine lv_goto (tgt := 32) hx hb dX12_isWord_28 (by decide) ?_
        have hs0 := Option.some.inj hs0
        subst hs0
        exact W.zret hx hb hr rfl (fun t ht hw => ⟨⟨_, (m0, a0), rfl, ⟨rfl, rfl, rfl⟩, g_end hW ht hw⟩, hS.F ht⟩) hS.2.2 dX12_isWord_32 hlocks
-- HealLinkModel.againTold (I)V
def fX12_againTold_J92 (rec : Int32 → Int32 → Int32 → Int32 → Int32 → (Nat → Int32) → Int64 → Int32 → Int32 → Int32 → Int64 → Int32 → Int32 → Int32 → Int32 → Int32 → Int32 → Int64 → Int32 → Int32 → Int32 → Int32 → Int32 → (Nat → Int32) → (Nat → Int32) → (Nat → Int32) → (Nat → Int32) → Int32 → Option (Int64 × Int32 × Int32 × Int32 × Int64 × Int32 × Int32 × Int32 × Int32 × Int32 × Int32 × Int64 × Int32 × Int32 × Int32 × Int32 × Int32 × (Nat → Int32) × (Nat → Int32) × (Nat → Int32) × (Nat → Int32))) (F : Nat) (x69_0 : Int32) (x69_1 : Int32) (x69_2 : Int32) (x69_3 : Int32) (x69_57 : Int32) (A75 : Nat → Int32) (v1 : Int32) (v3 : Int32) (v4 : Int32) (v5 : Int32) (v6 : Int32) (v7j15 : Int32) (s0j15 : Int32) (x69_4j15 : Int64) (x69_6j15 : Int32) (x69_9j15 : Int32) (x69_11j15 : Int32) (x69_19j15 : Int64) (x69_20j15 : Int32) (x69_21j15 : Int32) (x69_22j15 : Int32) (x69_58j15 : Int32) (x69_59j15 : Int32) (x69_60j15 : Int32) (x69_61j15 : Int64) (x69_62j15 : Int32) (x69_63j15 : Int32) (x69_64j15 : Int32) (x69_65j15 : Int32) (x69_66j15 : Int32) (A70j15 : Nat → Int32) (A71j15 : Nat → Int32) (A72j15 : Nat → Int32) (A73j15 : Nat → Int32) : Option (((Int64 × Int32 × Int32 × Int32 × Int64 × Int32 × Int32 × Int32 × Int32 × Int32 × Int32 × Int64 × Int32 × Int32 × Int32 × Int32 × Int32 × (Nat → Int32) × (Nat → Int32) × (Nat → Int32) × (Nat → Int32)) ⊕ (Int64 × Int32 × Int32 × Int32 × Int64 × Int32 × Int32 × Int32 × Int32 × Int32 × Int32 × Int64 × Int32 × Int32 × Int32 × Int32 × Int32 × (Nat → Int32) × (Nat → Int32) × (Nat → Int32) × (Nat → Int32))) ⊕ (Int32 × Int64 × Int32 × Int32 × Int32 × Int64 × Int32 × Int32 × Int32 × Int32 × Int32 × Int32 × Int64 × Int32 × Int32 × Int32 × Int32 × Int32 × (Nat → Int32) × (Nat → Int32) × (Nat → Int32) × (Nat → Int32))) := (if bzb s0j15 = true then ((fX12_next F x69_57 x69_63j15 A75 x69_58j15 v4 x69_60j15 x69_61j15 x69_62j15).bind (fun r19 => ((fX12_must F x69_57 A75 r19.1 r19.2.1 r19.2.2.1 r19.2.2.2.1 r19.2.2.2.2 x69_63j15 91).bind (fun r20 => ((rec x69_0 x69_1 x69_2 x69_3 x69_57 A75 x69_4j15 x69_6j15 x69_9j15 x69_11j15 x69_19j15 x69_20j15 x69_21j15 x69_22j15 r20.1 r20.2.1 r20.2.2.1 r20.2.2.2.1 r20.2.2.2.2.1 r20.2.2.2.2.2 s0j15 x69_65j15 x69_66j15 A70j15 A71j15 A72j15 A73j15 v1).bind (fun r21 => ((fX12_must F x69_57 A75 r21.2.2.2.2.2.2.2.2.1 r21.2.2.2.2.2.2.2.2.2.1 r21.2.2.2.2.2.2.2.2.2.2.1 r21.2.2.2.2.2.2.2.2.2.2.2.1 r21.2.2.2.2.2.2.2.2.2.2.2.2.1 r21.2.2.2.2.2.2.2.2.2.2.2.2.2.1 93).bind (fun r22 => (if r21.2.2.2.2.2.2.2.2.2.2.2.2.2.2.2.2.1 = 0 then some (Sum.inr (v7j15 + 1, r21.1, r21.2.1, r21.2.2.1, r21.2.2.2.1, r21.2.2.2.2.1, r21.2.2.2.2.2.1, r21.2.2.2.2.2.2.1, r21.2.2.2.2.2.2.2.1, r22.1, r22.2.1, r22.2.2.1, r22.2.2.2.1, r22.2.2.2.2.1, r22.2.2.2.2.2, r21.2.2.2.2.2.2.2.2.2.2.2.2.2.2.1, r21.2.2.2.2.2.2.2.2.2.2.2.2.2.2.2.1, r21.2.2.2.2.2.2.2.2.2.2.2.2.2.2.2.2.1, r21.2.2.2.2.2.2.2.2.2.2.2.2.2.2.2.2.2.1, r21.2.2.2.2.2.2.2.2.2.2.2.2.2.2.2.2.2.2.1, r21.2.2.2.2.2.2.2.2.2.2.2.2.2.2.2.2.2.2.2.1, r21.2.2.2.2.2.2.2.2.2.2.2.2.2.2.2.2.2.2.2.2)) else some (Sum.inl (Sum.inl (r21.1, r21.2.1, r21.2.2.1, r21.2.2.2.1, r21.2.2.2.2.1, r21.2.2.2.2.2.1, r21.2.2.2.2.2.2.1, r21.2.2.2.2.2.2.2.1, r22.1, r22.2.1, r22.2.2.1, r22.2.2.2.1, r22.2.2.2.2.1, r22.2.2.2.2.2, r21.2.2.2.2.2.2.2.2.2.2.2.2.2.2.1, r21.2.2.2.2.2.2.2.2.2.2.2.2.2.2.2.1, r21.2.2.2.2.2.2.2.2.2.2.2.2.2.2.2.2.1, r21.2.2.2.2.2.2.2.2.2.2.2.2.2.2.2.2.2.1, r21.2.2.2.2.2.2.2.2.2.2.2.2.2.2.2.2.2.2.1, r21.2.2.2.2.2.2.2.2.2.2.2.2.2.2.2.2.2.2.2.1, r21.2.2.2.2.2.2.2.2.2.2.2.2.2.2.2.2.2.2.2.2)))))))))))) else none)
def fX12_againTold_J91 (rec : Int32 → Int32 → Int32 → Int32 → Int32 → (Nat → Int32) → Int64 → Int32 → Int32 → Int32 → Int64 → Int32 → Int32 → Int32 → Int32 → Int32 → Int32 → Int64 → Int32 → Int32 → Int32 → Int32 → Int32 → (Nat → Int32) → (Nat → Int32) → (Nat → Int32) → (Nat → Int32) → Int32 → Option (Int64 × Int32 × Int32 × Int32 × Int64 × Int32 × Int32 × Int32 × Int32 × Int32 × Int32 × Int64 × Int32 × Int32 × Int32 × Int32 × Int32 × (Nat → Int32) × (Nat → Int32) × (Nat → Int32) × (Nat → Int32))) (F : Nat) (x69_0 : Int32) (x69_1 : Int32) (x69_2 : Int32) (x69_3 : Int32) (x69_57 : Int32) (A75 : Nat → Int32) (v1 : Int32) (v3 : Int32) (v4 : Int32) (v5 : Int32) (v6 : Int32) (v7j13 : Int32) (x69_4j13 : Int64) (x69_6j13 : Int32) (x69_9j13 : Int32) (x69_11j13 : Int32) (x69_19j13 : Int64) (x69_20j13 : Int32) (x69_21j13 : Int32) (x69_22j13 : Int32) (x69_58j13 : Int32) (x69_59j13 : Int32) (x69_60j13 : Int32) (x69_61j13 : Int64) (x69_62j13 : Int32) (x69_63j13 : Int32) (x69_64j13 : Int32) (x69_65j13 : Int32) (x69_66j13 : Int32) (A70j13 : Nat → Int32) (A71j13 : Nat → Int32) (A72j13 : Nat → Int32) (A73j13 : Nat → Int32) : Option (((Int64 × Int32 × Int32 × Int32 × Int64 × Int32 × Int32 × Int32 × Int32 × Int32 × Int32 × Int64 × Int32 × Int32 × Int32 × Int32 × Int32 × (Nat → Int32) × (Nat → Int32) × (Nat → Int32) × (Nat → Int32)) ⊕ (Int64 × Int32 × Int32 × Int32 × Int64 × Int32 × Int32 × Int32 × Int32 × Int32 × Int32 × Int64 × Int32 × Int32 × Int32 × Int32 × Int32 × (Nat → Int32) × (Nat → Int32) × (Nat → Int32) × (Nat → Int32))) ⊕ (Int32 × Int64 × Int32 × Int32 × Int32 × Int64 × Int32 × Int32 × Int32 × Int32 × Int32 × Int32 × Int64 × Int32 × Int32 × Int32 × Int32 × Int32 × (Nat → Int32) × (Nat → Int32) × (Nat → Int32) × (Nat → Int32))) := fX12_againTold_J92 rec F x69_0 x69_1 x69_2 x69_3 x69_57 A75 v1 v3 v4 v5 v6 v7j13 0 x69_4j13 x69_6j13 x69_9j13 x69_11j13 x69_19j13 x69_20j13 x69_21j13 x69_22j13 x69_58j13 x69_59j13 x69_60j13 x69_61j13 x69_62j13 x69_63j13 x69_64j13 x69_65j13 x69_66j13 A70j13 A71j13 A72j13 A73j13
def fX12_againTold_S60 (rec : Int32 → Int32 → Int32 → Int32 → Int32 → (Nat → Int32) → Int64 → Int32 → Int32 → Int32 → Int64 → Int32 → Int32 → Int32 → Int32 → Int32 → Int32 → Int64 → Int32 → Int32 → Int32 → Int32 → Int32 → (Nat → Int32) → (Nat → Int32) → (Nat → Int32) → (Nat → Int32) → Int32 → Option (Int64 × Int32 × Int32 × Int32 × Int64 × Int32 × Int32 × Int32 × Int32 × Int32 × Int32 × Int64 × Int32 × Int32 × Int32 × Int32 × Int32 × (Nat → Int32) × (Nat → Int32) × (Nat → Int32) × (Nat → Int32))) (F : Nat) (x69_0 : Int32) (x69_1 : Int32) (x69_2 : Int32) (x69_3 : Int32) (x69_57 : Int32) (A75 : Nat → Int32) (v1 : Int32) (v3 : Int32) (v4 : Int32) (v5 : Int32) (v6 : Int32) (v7 : Int32) (x69_4 : Int64) (x69_6 : Int32) (x69_9 : Int32) (x69_11 : Int32) (x69_19 : Int64) (x69_20 : Int32) (x69_21 : Int32) (x69_22 : Int32) (x69_58 : Int32) (x69_59 : Int32) (x69_60 : Int32) (x69_61 : Int64) (x69_62 : Int32) (x69_63 : Int32) (x69_64 : Int32) (x69_65 : Int32) (x69_66 : Int32) (A70 : Nat → Int32) (A71 : Nat → Int32) (A72 : Nat → Int32) (A73 : Nat → Int32) : Option (((Int64 × Int32 × Int32 × Int32 × Int64 × Int32 × Int32 × Int32 × Int32 × Int32 × Int32 × Int64 × Int32 × Int32 × Int32 × Int32 × Int32 × (Nat → Int32) × (Nat → Int32) × (Nat → Int32) × (Nat → Int32)) ⊕ (Int64 × Int32 × Int32 × Int32 × Int64 × Int32 × Int32 × Int32 × Int32 × Int32 × Int32 × Int64 × Int32 × Int32 × Int32 × Int32 × Int32 × (Nat → Int32) × (Nat → Int32) × (Nat → Int32) × (Nat → Int32))) ⊕ (Int32 × Int64 × Int32 × Int32 × Int32 × Int64 × Int32 × Int32 × Int32 × Int32 × Int32 × Int32 × Int64 × Int32 × Int32 × Int32 × Int32 × Int32 × (Nat → Int32) × (Nat → Int32) × (Nat → Int32) × (Nat → Int32))) := (if v6 ≤ v7 then some (Sum.inl (Sum.inr ((x69_4, x69_6, x69_9, x69_11, x69_19, x69_20, x69_21, x69_22, x69_58, x69_59, x69_60, x69_61, x69_62, x69_63, x69_64, x69_65, x69_66, A70, A71, A72, A73)))) else (if x69_63 = 0 then (if v5 = 0 then fX12_againTold_J91 rec F x69_0 x69_1 x69_2 x69_3 x69_57 A75 v1 v3 v4 v5 v6 v7 x69_4 x69_6 x69_9 x69_11 x69_19 x69_20 x69_21 x69_22 x69_58 x69_59 x69_60 x69_61 x69_62 x69_63 x69_64 x69_65 x69_66 A70 A71 A72 A73 else (if x69_66 = 0 then fX12_againTold_J92 rec F x69_0 x69_1 x69_2 x69_3 x69_57 A75 v1 v3 v4 v5 v6 v7 1 x69_4 x69_6 x69_9 x69_11 x69_19 x69_20 x69_21 x69_22 x69_58 x69_59 x69_60 x69_61 x69_62 x69_63 x69_64 x69_65 x69_66 A70 A71 A72 A73 else fX12_againTold_J91 rec F x69_0 x69_1 x69_2 x69_3 x69_57 A75 v1 v3 v4 v5 v6 v7 x69_4 x69_6 x69_9 x69_11 x69_19 x69_20 x69_21 x69_22 x69_58 x69_59 x69_60 x69_61 x69_62 x69_63 x69_64 x69_65 x69_66 A70 A71 A72 A73)) else some (Sum.inl (Sum.inr ((x69_4, x69_6, x69_9, x69_11, x69_19, x69_20, x69_21, x69_22, x69_58, x69_59, x69_60, x69_61, x69_62, x69_63, x69_64, x69_65, x69_66, A70, A71, A72, A73))))))
def fX12_againTold_J138 (rec : Int32 → Int32 → Int32 → Int32 → Int32 → (Nat → Int32) → Int64 → Int32 → Int32 → Int32 → Int64 → Int32 → Int32 → Int32 → Int32 → Int32 → Int32 → Int64 → Int32 → Int32 → Int32 → Int32 → Int32 → (Nat → Int32) → (Nat → Int32) → (Nat → Int32) → (Nat → Int32) → Int32 → Option (Int64 × Int32 × Int32 × Int32 × Int64 × Int32 × Int32 × Int32 × Int32 × Int32 × Int32 × Int64 × Int32 × Int32 × Int32 × Int32 × Int32 × (Nat → Int32) × (Nat → Int32) × (Nat → Int32) × (Nat → Int32))) (F : Nat) (x69_0 : Int32) (x69_1 : Int32) (x69_2 : Int32) (x69_3 : Int32) (x69_57 : Int32) (A75 : Nat → Int32) (v3j24 : Int32) (x69_4j24 : Int64) (x69_6j24 : Int32) (x69_9j24 : Int32) (x69_11j24 : Int32) (x69_19j24 : Int64) (x69_20j24 : Int32) (x69_21j24 : Int32) (x69_22j24 : Int32) (x69_58j24 : Int32) (x69_59j24 : Int32) (x69_60j24 : Int32) (x69_61j24 : Int64) (x69_62j24 : Int32) (x69_63j24 : Int32) (x69_64j24 : Int32) (x69_65j24 : Int32) (x69_66j24 : Int32) (A70j24 : Nat → Int32) (A71j24 : Nat → Int32) (A72j24 : Nat → Int32) (A73j24 : Nat → Int32) : Option (Int64 × Int32 × Int32 × Int32 × Int64 × Int32 × Int32 × Int32 × Int32 × Int32 × Int32 × Int64 × Int32 × Int32 × Int32 × Int32 × Int32 × (Nat → Int32) × (Nat → Int32) × (Nat → Int32) × (Nat → Int32)) := (if bzb v3j24 = true then some (x69_4j24, x69_6j24, x69_9j24, x69_11j24, x69_19j24, x69_20j24, x69_21j24, x69_22j24, x69_58j24, x69_59j24, x69_60j24, x69_61j24, x69_62j24, x69_63j24, v3j24, x69_65j24, x69_66j24, A70j24, A71j24, A72j24, A73j24) else none)
def fX12_againTold_J55 (rec : Int32 → Int32 → Int32 → Int32 → Int32 → (Nat → Int32) → Int64 → Int32 → Int32 → Int32 → Int64 → Int32 → Int32 → Int32 → Int32 → Int32 → Int32 → Int64 → Int32 → Int32 → Int32 → Int32 → Int32 → (Nat → Int32) → (Nat → Int32) → (Nat → Int32) → (Nat → Int32) → Int32 → Option (Int64 × Int32 × Int32 × Int32 × Int64 × Int32 × Int32 × Int32 × Int32 × Int32 × Int32 × Int64 × Int32 × Int32 × Int32 × Int32 × Int32 × (Nat → Int32) × (Nat → Int32) × (Nat → Int32) × (Nat → Int32))) (F : Nat) (x69_0 : Int32) (x69_1 : Int32) (x69_2 : Int32) (x69_3 : Int32) (x69_57 : Int32) (A75 : Nat → Int32) (v1j8 : Int32) (v3j8 : Int32) (v4j8 : Int32) (v5j8 : Int32) (s0j8 : Int32) (x69_4j8 : Int64) (x69_6j8 : Int32) (x69_9j8 : Int32) (x69_11j8 : Int32) (x69_19j8 : Int64) (x69_20j8 : Int32) (x69_21j8 : Int32) (x69_22j8 : Int32) (x69_58j8 : Int32) (x69_59j8 : Int32) (x69_60j8 : Int32) (x69_61j8 : Int64) (x69_62j8 : Int32) (x69_63j8 : Int32) (x69_64j8 : Int32) (x69_65j8 : Int32) (x69_66j8 : Int32) (A70j8 : Nat → Int32) (A71j8 : Nat → Int32) (A72j8 : Nat → Int32) (A73j8 : Nat → Int32) : Option (Int64 × Int32 × Int32 × Int32 × Int64 × Int32 × Int32 × Int32 × Int32 × Int32 × Int32 × Int64 × Int32 × Int32 × Int32 × Int32 × Int32 × (Nat → Int32) × (Nat → Int32) × (Nat → Int32) × (Nat → Int32)) := (gloop (fun u9 : (Int32 × Int64 × Int32 × Int32 × Int32 × Int64 × Int32 × Int32 × Int32 × Int32 × Int32 × Int32 × Int64 × Int32 × Int32 × Int32 × Int32 × Int32 × (Nat → Int32) × (Nat → Int32) × (Nat → Int32) × (Nat → Int32)) => fX12_againTold_S60 rec F x69_0 x69_1 x69_2 x69_3 x69_57 A75 v1j8 v3j8 v4j8 v5j8 s0j8 u9.1 u9.2.1 u9.2.2.1 u9.2.2.2.1 u9.2.2.2.2.1 u9.2.2.2.2.2.1 u9.2.2.2.2.2.2.1 u9.2.2.2.2.2.2.2.1 u9.2.2.2.2.2.2.2.2.1 u9.2.2.2.2.2.2.2.2.2.1 u9.2.2.2.2.2.2.2.2.2.2.1 u9.2.2.2.2.2.2.2.2.2.2.2.1 u9.2.2.2.2.2.2.2.2.2.2.2.2.1 u9.2.2.2.2.2.2.2.2.2.2.2.2.2.1 u9.2.2.2.2.2.2.2.2.2.2.2.2.2.2.1 u9.2.2.2.2.2.2.2.2.2.2.2.2.2.2.2.1 u9.2.2.2.2.2.2.2.2.2.2.2.2.2.2.2.2.1 u9.2.2.2.2.2.2.2.2.2.2.2.2.2.2.2.2.2.1 u9.2.2.2.2.2.2.2.2.2.2.2.2.2.2.2.2.2.2.1 u9.2.2.2.2.2.2.2.2.2.2.2.2.2.2.2.2.2.2.2.1 u9.2.2.2.2.2.2.2.2.2.2.2.2.2.2.2.2.2.2.2.2.1 u9.2.2.2.2.2.2.2.2.2.2.2.2.2.2.2.2.2.2.2.2.2) F (0, x69_4j8, x69_6j8, x69_9j8, x69_11j8, x69_19j8, x69_20j8, x69_21j8, x69_22j8, x69_58j8, x69_59j8, x69_60j8, x69_61j8, x69_62j8, x69_63j8, x69_64j8, x69_65j8, x69_66j8, A70j8, A71j8, A72j8, A73j8)).bind (Sum.elim (fun t9_129 => fX12_againTold_J138 rec F x69_0 x69_1 x69_2 x69_3 x69_57 A75 v3j8 t9_129.1 t9_129.2.1 t9_129.2.2.1 t9_129.2.2.2.1 t9_129.2.2.2.2.1 t9_129.2.2.2.2.2.1 t9_129.2.2.2.2.2.2.1 t9_129.2.2.2.2.2.2.2.1 t9_129.2.2.2.2.2.2.2.2.1 t9_129.2.2.2.2.2.2.2.2.2.1 t9_129.2.2.2.2.2.2.2.2.2.2.1 t9_129.2.2.2.2.2.2.2.2.2.2.2.1 t9_129.2.2.2.2.2.2.2.2.2.2.2.2.1 t9_129.2.2.2.2.2.2.2.2.2.2.2.2.2.1 t9_129.2.2.2.2.2.2.2.2.2.2.2.2.2.2.1 t9_129.2.2.2.2.2.2.2.2.2.2.2.2.2.2.2.1 t9_129.2.2.2.2.2.2.2.2.2.2.2.2.2.2.2.2.1 t9_129.2.2.2.2.2.2.2.2.2.2.2.2.2.2.2.2.2.1 t9_129.2.2.2.2.2.2.2.2.2.2.2.2.2.2.2.2.2.2.1 t9_129.2.2.2.2.2.2.2.2.2.2.2.2.2.2.2.2.2.2.2.1 t9_129.2.2.2.2.2.2.2.2.2.2.2.2.2.2.2.2.2.2.2.2) (fun t9_138 => fX12_againTold_J138 rec F x69_0 x69_1 x69_2 x69_3 x69_57 A75 v3j8 t9_138.1 t9_138.2.1 t9_138.2.2.1 t9_138.2.2.2.1 t9_138.2.2.2.2.1 t9_138.2.2.2.2.2.1 t9_138.2.2.2.2.2.2.1 t9_138.2.2.2.2.2.2.2.1 t9_138.2.2.2.2.2.2.2.2.1 t9_138.2.2.2.2.2.2.2.2.2.1 t9_138.2.2.2.2.2.2.2.2.2.2.1 t9_138.2.2.2.2.2.2.2.2.2.2.2.1 t9_138.2.2.2.2.2.2.2.2.2.2.2.2.1 t9_138.2.2.2.2.2.2.2.2.2.2.2.2.2.1 t9_138.2.2.2.2.2.2.2.2.2.2.2.2.2.2.1 t9_138.2.2.2.2.2.2.2.2.2.2.2.2.2.2.2.1 t9_138.2.2.2.2.2.2.2.2.2.2.2.2.2.2.2.2.1 t9_138.2.2.2.2.2.2.2.2.2.2.2.2.2.2.2.2.2.1 t9_138.2.2.2.2.2.2.2.2.2.2.2.2.2.2.2.2.2.2.1 t9_138.2.2.2.2.2.2.2.2.2.2.2.2.2.2.2.2.2.2.2.1 t9_138.2.2.2.2.2.2.2.2.2.2.2.2.2.2.2.2.2.2.2.2))
def fX12_againTold_J43 (rec : Int32 → Int32 → Int32 → Int32 → Int32 → (Nat → Int32) → Int64 → Int32 → Int32 → Int32 → Int64 → Int32 → Int32 → Int32 → Int32 → Int32 → Int32 → Int64 → Int32 → Int32 → Int32 → Int32 → Int32 → (Nat → Int32) → (Nat → Int32) → (Nat → Int32) → (Nat → Int32) → Int32 → Option (Int64 × Int32 × Int32 × Int32 × Int64 × Int32 × Int32 × Int32 × Int32 × Int32 × Int32 × Int64 × Int32 × Int32 × Int32 × Int32 × Int32 × (Nat → Int32) × (Nat → Int32) × (Nat → Int32) × (Nat → Int32))) (F : Nat) (x69_0 : Int32) (x69_1 : Int32) (x69_2 : Int32) (x69_3 : Int32) (x69_57 : Int32) (A75 : Nat → Int32) (v1j6 : Int32) (v2j6 : Int32) (v3j6 : Int32) (v4j6 : Int32) (s0j6 : Int32) (x69_4j6 : Int64) (x69_6j6 : Int32) (x69_9j6 : Int32) (x69_11j6 : Int32) (x69_19j6 : Int64) (x69_20j6 : Int32) (x69_21j6 : Int32) (x69_22j6 : Int32) (x69_58j6 : Int32) (x69_59j6 : Int32) (x69_60j6 : Int32) (x69_61j6 : Int64) (x69_62j6 : Int32) (x69_63j6 : Int32) (x69_64j6 : Int32) (x69_65j6 : Int32) (x69_66j6 : Int32) (A70j6 : Nat → Int32) (A71j6 : Nat → Int32) (A72j6 : Nat → Int32) (A73j6 : Nat → Int32) : Option (Int64 × Int32 × Int32 × Int32 × Int64 × Int32 × Int32 × Int32 × Int32 × Int32 × Int32 × Int64 × Int32 × Int32 × Int32 × Int32 × Int32 × (Nat → Int32) × (Nat → Int32) × (Nat → Int32) × (Nat → Int32)) := (if s0j6 = 0 then fX12_againTold_J55 rec F x69_0 x69_1 x69_2 x69_3 x69_57 A75 v1j6 v3j6 v4j6 s0j6 1 x69_4j6 x69_6j6 x69_9j6 x69_11j6 x69_19j6 x69_20j6 x69_21j6 x69_22j6 x69_58j6 x69_59j6 x69_60j6 x69_61j6 x69_62j6 x69_63j6 x69_64j6 x69_65j6 x69_66j6 A70j6 A71j6 A72j6 A73j6 else fX12_againTold_J55 rec F x69_0 x69_1 x69_2 x69_3 x69_57 A75 v1j6 v3j6 v4j6 s0j6 v2j6 x69_4j6 x69_6j6 x69_9j6 x69_11j6 x69_19j6 x69_20j6 x69_21j6 x69_22j6 x69_58j6 x69_59j6 x69_60j6 x69_61j6 x69_62j6 x69_63j6 x69_64j6 x69_65j6 x69_66j6 A70j6 A71j6 A72j6 A73j6)
def fX12_againTold_J42 (rec : Int32 → Int32 → Int32 → Int32 → Int32 → (Nat → Int32) → Int64 → Int32 → Int32 → Int32 → Int64 → Int32 → Int32 → Int32 → Int32 → Int32 → Int32 → Int64 → Int32 → Int32 → Int32 → Int32 → Int32 → (Nat → Int32) → (Nat → Int32) → (Nat → Int32) → (Nat → Int32) → Int32 → Option (Int64 × Int32 × Int32 × Int32 × Int64 × Int32 × Int32 × Int32 × Int32 × Int32 × Int32 × Int64 × Int32 × Int32 × Int32 × Int32 × Int32 × (Nat → Int32) × (Nat → Int32) × (Nat → Int32) × (Nat → Int32))) (F : Nat) (x69_0 : Int32) (x69_1 : Int32) (x69_2 : Int32) (x69_3 : Int32) (x69_57 : Int32) (A75 : Nat → Int32) (v1j4 : Int32) (v2j4 : Int32) (v3j4 : Int32) (v4j4 : Int32) (x69_4j4 : Int64) (x69_6j4 : Int32) (x69_9j4 : Int32) (x69_11j4 : Int32) (x69_19j4 : Int64) (x69_20j4 : Int32) (x69_21j4 : Int32) (x69_22j4 : Int32) (x69_58j4 : Int32) (x69_59j4 : Int32) (x69_60j4 : Int32) (x69_61j4 : Int64) (x69_62j4 : Int32) (x69_63j4 : Int32) (x69_64j4 : Int32) (x69_65j4 : Int32) (x69_66j4 : Int32) (A70j4 : Nat → Int32) (A71j4 : Nat → Int32) (A72j4 : Nat → Int32) (A73j4 : Nat → Int32) : Option (Int64 × Int32 × Int32 × Int32 × Int64 × Int32 × Int32 × Int32 × Int32 × Int32 × Int32 × Int64 × Int32 × Int32 × Int32 × Int32 × Int32 × (Nat → Int32) × (Nat → Int32) × (Nat → Int32) × (Nat → Int32)) := fX12_againTold_J43 rec F x69_0 x69_1 x69_2 x69_3 x69_57 A75 v1j4 v2j4 v3j4 v4j4 0 x69_4j4 x69_6j4 x69_9j4 x69_11j4 x69_19j4 x69_20j4 x69_21j4 x69_22j4 x69_58j4 x69_59j4 x69_60j4 x69_61j4 x69_62j4 x69_63j4 x69_64j4 x69_65j4 x69_66j4 A70j4 A71j4 A72j4 A73j4
def fX12_againTold (rec : Int32 → Int32 → Int32 → Int32 → Int32 → (Nat → Int32) → Int64 → Int32 → Int32 → Int32 → Int64 → Int32 → Int32 → Int32 → Int32 → Int32 → Int32 → Int64 → Int32 → Int32 → Int32 → Int32 → Int32 → (Nat → Int32) → (Nat → Int32) → (Nat → Int32) → (Nat → Int32) → Int32 → Option (Int64 × Int32 × Int32 × Int32 × Int64 × Int32 × Int32 × Int32 × Int32 × Int32 × Int32 × Int64 × Int32 × Int32 × Int32 × Int32 × Int32 × (Nat → Int32) × (Nat → Int32) × (Nat → Int32) × (Nat → Int32))) (F : Nat) (x69_0 : Int32) (x69_1 : Int32) (x69_2 : Int32) (x69_3 : Int32) (x69_57 : Int32) (A75 : Nat → Int32) (x69_4 : Int64) (x69_6 : Int32) (x69_9 : Int32) (x69_11 : Int32) (x69_19 : Int64) (x69_20 : Int32) (x69_21 : Int32) (x69_22 : Int32) (x69_58 : Int32) (x69_59 : Int32) (x69_60 : Int32) (x69_61 : Int64) (x69_62 : Int32) (x69_63 : Int32) (x69_64 : Int32) (x69_65 : Int32) (x69_66 : Int32) (A70 : Nat → Int32) (A71 : Nat → Int32) (A72 : Nat → Int32) (A73 : Nat → Int32) (p1 : Int32) : Option (Int64 × Int32 × Int32 × Int32 × Int64 × Int32 × Int32 × Int32 × Int32 × Int32 × Int32 × Int64 × Int32 × Int32 × Int32 × Int32 × Int32 × (Nat → Int32) × (Nat → Int32) × (Nat → Int32) × (Nat → Int32)) := ((fX12_numberTold F x69_57 A75 x69_58 x69_59 x69_60 x69_61 x69_62 x69_63 0 30).bind (fun r1 => (if r1.2.2.2.2.2.2 ≤ 0 then (if x69_64 = 0 then fX12_againTold_J42 rec F x69_0 x69_1 x69_2 x69_3 x69_57 A75 p1 r1.1 x69_64 r1.2.1 x69_4 x69_6 x69_9 x69_11 x69_19 x69_20 x69_21 x69_22 r1.2.1 r1.2.2.1 r1.2.2.2.1 r1.2.2.2.2.1 r1.2.2.2.2.2.1 r1.2.2.2.2.2.2 x69_64 x69_65 x69_66 A70 A71 A72 A73 else (if r1.1 ≤ 0 then fX12_againTold_J42 rec F x69_0 x69_1 x69_2 x69_3 x69_57 A75 p1 r1.1 x69_64 r1.2.1 x69_4 x69_6 x69_9 x69_11 x69_19 x69_20 x69_21 x69_22 r1.2.1 r1.2.2.1 r1.2.2.2.1 r1.2.2.2.2.1 r1.2.2.2.2.2.1 r1.2.2.2.2.2.2 x69_64 x69_65 x69_66 A70 A71 A72 A73 else fX12_againTold_J43 rec F x69_0 x69_1 x69_2 x69_3 x69_57 A75 p1 r1.1 x69_64 r1.2.1 1 x69_4 x69_6 x69_9 x69_11 x69_19 x69_20 x69_21 x69_22 r1.2.1 r1.2.2.1 r1.2.2.2.1 r1.2.2.2.2.1 r1.2.2.2.2.2.1 r1.2.2.2.2.2.2 x69_64 x69_65 x69_66 A70 A71 A72 A73)) else some (x69_4, x69_6, x69_9, x69_11, x69_19, x69_20, x69_21, x69_22, r1.2.1, r1.2.2.1, r1.2.2.2.1, r1.2.2.2.2.1, r1.2.2.2.2.2.1, r1.2.2.2.2.2.2, x69_64, x69_65, x69_66, A70, A71, A72, A73))))
theorem dX12_againTold_0 : decode cX12_againTold 0 = .ok (.aload_n 0, 1) := by decide +kernel
theorem dX12_againTold_1 : decode cX12_againTold 1 = .ok (.iconst 0, 1) := by decide +kernel
theorem dX12_againTold_2 : decode cX12_againTold 2 = .ok (.bipush 30, 2) := by decide +kernel
theorem dX12_againTold_4 : decode cX12_againTold 4 = .ok (.invokevirtual 427, 3) := by decide +kernel
theorem dX12_againTold_7 : decode cX12_againTold 7 = .ok (.istore_n 2, 1) := by decide +kernel
theorem dX12_againTold_8 : decode cX12_againTold 8 = .ok (.aload_n 0, 1) := by decide +kernel
theorem dX12_againTold_9 : decode cX12_againTold 9 = .ok (.getfield 356, 3) := by decide +kernel
theorem dX12_againTold_12 : decode cX12_againTold 12 = .ok (.ifCond .le 4, 3) := by decide +kernel
theorem dX12_againTold_15 : decode cX12_againTold 15 = .ok (.return_, 1) := by decide +kernel
theorem dX12_againTold_16 : decode cX12_againTold 16 = .ok (.aload_n 0, 1) := by decide +kernel
theorem dX12_againTold_17 : decode cX12_againTold 17 = .ok (.getfield 405, 3) := by decide +kernel
theorem dX12_againTold_20 : decode cX12_againTold 20 = .ok (.istore_n 3, 1) := by decide +kernel
theorem dX12_againTold_21 : decode cX12_againTold 21 = .ok (.aload_n 0, 1) := by decide +kernel
theorem dX12_againTold_22 : decode cX12_againTold 22 = .ok (.getfield 365, 3) := by decide +kernel
theorem dX12_againTold_25 : decode cX12_againTold 25 = .ok (.istore 4, 2) := by decide +kernel
theorem dX12_againTold_27 : decode cX12_againTold 27 = .ok (.aload_n 0, 1) := by decide +kernel
theorem dX12_againTold_28 : decode cX12_againTold 28 = .ok (.getfield 405, 3) := by decide +kernel
theorem dX12_againTold_31 : decode cX12_againTold 31 = .ok (.ifCond .eq 11, 3) := by decide +kernel
theorem dX12_againTold_34 : decode cX12_againTold 34 = .ok (.iload_n 2, 1) := by decide +kernel
theorem dX12_againTold_35 : decode cX12_againTold 35 = .ok (.ifCond .le 7, 3) := by decide +kernel
theorem dX12_againTold_38 : decode cX12_againTold 38 = .ok (.iconst 1, 1) := by decide +kernel
theorem dX12_againTold_39 : decode cX12_againTold 39 = .ok (.goto 4, 3) := by decide +kernel
theorem dX12_againTold_42 : decode cX12_againTold 42 = .ok (.iconst 0, 1) := by decide +kernel
theorem dX12_againTold_43 : decode cX12_againTold 43 = .ok (.istore 5, 2) := by decide +kernel
theorem dX12_againTold_45 : decode cX12_againTold 45 = .ok (.iload 5, 2) := by decide +kernel
theorem dX12_againTold_47 : decode cX12_againTold 47 = .ok (.ifCond .eq 7, 3) := by decide +kernel
theorem dX12_againTold_50 : decode cX12_againTold 50 = .ok (.iload_n 2, 1) := by decide +kernel
theorem dX12_againTold_51 : decode cX12_againTold 51 = .ok (.goto 4, 3) := by decide +kernel
theorem dX12_againTold_54 : decode cX12_againTold 54 = .ok (.iconst 1, 1) := by decide +kernel
theorem dX12_againTold_55 : decode cX12_againTold 55 = .ok (.istore 6, 2) := by decide +kernel
theorem dX12_againTold_57 : decode cX12_againTold 57 = .ok (.iconst 0, 1) := by decide +kernel
theorem dX12_againTold_58 : decode cX12_againTold 58 = .ok (.istore 7, 2) := by decide +kernel
theorem dX12_againTold_60 : decode cX12_againTold 60 = .ok (.iload 7, 2) := by decide +kernel
theorem dX12_againTold_62 : decode cX12_againTold 62 = .ok (.iload 6, 2) := by decide +kernel
theorem dX12_againTold_64 : decode cX12_againTold 64 = .ok (.if_icmp .ge 74, 3) := by decide +kernel
theorem dX12_againTold_67 : decode cX12_againTold 67 = .ok (.aload_n 0, 1) := by decide +kernel
theorem dX12_againTold_68 : decode cX12_againTold 68 = .ok (.getfield 356, 3) := by decide +kernel
theorem dX12_againTold_71 : decode cX12_againTold 71 = .ok (.ifCond .ne 67, 3) := by decide +kernel
theorem dX12_againTold_74 : decode cX12_againTold 74 = .ok (.aload_n 0, 1) := by decide +kernel
theorem dX12_againTold_75 : decode cX12_againTold 75 = .ok (.iload 5, 2) := by decide +kernel
theorem dX12_againTold_77 : decode cX12_againTold 77 = .ok (.ifCond .eq 14, 3) := by decide +kernel
theorem dX12_againTold_80 : decode cX12_againTold 80 = .ok (.aload_n 0, 1) := by decide +kernel
theorem dX12_againTold_81 : decode cX12_againTold 81 = .ok (.getfield 408, 3) := by decide +kernel
theorem dX12_againTold_84 : decode cX12_againTold 84 = .ok (.ifCond .ne 7, 3) := by decide +kernel
theorem dX12_againTold_87 : decode cX12_againTold 87 = .ok (.iconst 1, 1) := by decide +kernel
theorem dX12_againTold_88 : decode cX12_againTold 88 = .ok (.goto 4, 3) := by decide +kernel
theorem dX12_againTold_91 : decode cX12_againTold 91 = .ok (.iconst 0, 1) := by decide +kernel
theorem dX12_againTold_92 : decode cX12_againTold 92 = .ok (.putfield 405, 3) := by decide +kernel
theorem dX12_againTold_95 : decode cX12_againTold 95 = .ok (.aload_n 0, 1) := by decide +kernel
theorem dX12_againTold_96 : decode cX12_againTold 96 = .ok (.iload 4, 2) := by decide +kernel
theorem dX12_againTold_98 : decode cX12_againTold 98 = .ok (.putfield 359, 3) := by decide +kernel
theorem dX12_againTold_101 : decode cX12_againTold 101 = .ok (.aload_n 0, 1) := by decide +kernel
theorem dX12_againTold_102 : decode cX12_againTold 102 = .ok (.invokevirtual 402, 3) := by decide +kernel
theorem dX12_againTold_105 : decode cX12_againTold 105 = .ok (.aload_n 0, 1) := by decide +kernel
theorem dX12_againTold_106 : decode cX12_againTold 106 = .ok (.bipush 91, 2) := by decide +kernel
theorem dX12_againTold_108 : decode cX12_againTold 108 = .ok (.invokevirtual 444, 3) := by decide +kernel
theorem dX12_againTold_111 : decode cX12_againTold 111 = .ok (.aload_n 0, 1) := by decide +kernel
theorem dX12_againTold_112 : decode cX12_againTold 112 = .ok (.iload_n 1, 1) := by decide +kernel
theorem dX12_againTold_113 : decode cX12_againTold 113 = .ok (.invokevirtual 447, 3) := by decide +kernel
theorem dX12_againTold_116 : decode cX12_againTold 116 = .ok (.aload_n 0, 1) := by decide +kernel
theorem dX12_againTold_117 : decode cX12_againTold 117 = .ok (.bipush 93, 2) := by decide +kernel
theorem dX12_againTold_119 : decode cX12_againTold 119 = .ok (.invokevirtual 444, 3) := by decide +kernel
theorem dX12_againTold_122 : decode cX12_againTold 122 = .ok (.aload_n 0, 1) := by decide +kernel
theorem dX12_againTold_123 : decode cX12_againTold 123 = .ok (.getfield 408, 3) := by decide +kernel
theorem dX12_againTold_126 : decode cX12_againTold 126 = .ok (.ifCond .eq 6, 3) := by decide +kernel
theorem dX12_againTold_129 : decode cX12_againTold 129 = .ok (.goto 9, 3) := by decide +kernel
theorem dX12_againTold_132 : decode cX12_againTold 132 = .ok (.iinc 7 1, 3) := by decide +kernel
theorem dX12_againTold_135 : decode cX12_againTold 135 = .ok (.goto (-75), 3) := by decide +kernel
theorem dX12_againTold_138 : decode cX12_againTold 138 = .ok (.aload_n 0, 1) := by decide +kernel
theorem dX12_againTold_139 : decode cX12_againTold 139 = .ok (.iload_n 3, 1) := by decide +kernel
theorem dX12_againTold_140 : decode cX12_againTold 140 = .ok (.putfield 405, 3) := by decide +kernel
theorem dX12_againTold_143 : decode cX12_againTold 143 = .ok (.return_, 1) := by decide +kernel
set_option maxHeartbeats 4000000 in
set_option maxRecDepth 100000 in
theorem kX12_againTold {l : Launch} {D : va_G} {cy : Nat → ClassId} {N : Nat} {q : Nat → Nat} {sa sv : Nat → Nat} {rec : Int32 → Int32 → Int32 → Int32 → Int32 → (Nat → Int32) → Int64 → Int32 → Int32 → Int32 → Int64 → Int32 → Int32 → Int32 → Int32 → Int32 → Int32 → Int64 → Int32 → Int32 → Int32 → Int32 → Int32 → (Nat → Int32) → (Nat → Int32) → (Nat → Int32) → (Nat → Int32) → Int32 → Option (Int64 × Int32 × Int32 × Int32 × Int64 × Int32 × Int32 × Int32 × Int32 × Int32 × Int32 × Int64 × Int32 × Int32 × Int32 × Int32 × Int32 × (Nat → Int32) × (Nat → Int32) × (Nat → Int32) × (Nat → Int32))} {kf kl : Nat} (hrec : ∀ {m0 : Nat → Value} {a0 : Nat → vp_A} {sz : Nat} (hsh : SH q m0) {x69_0 : Int32} (h_x69_0 : m0 6900 = .int x69_0) {x69_1 : Int32} (h_x69_1 : m0 6901 = .int x69_1) {x69_2 : Int32} (h_x69_2 : m0 6902 = .int x69_2) {x69_3 : Int32} (h_x69_3 : m0 6903 = .int x69_3) {x69_57 : Int32} (h_x69_57 : m0 6957 = .int x69_57) {A75 : Nat → Int32} (h_A75 : a0 75 = (264, .inl A75)) {x69_4 : Int64} (h_x69_4 : m0 6904 = .long x69_4) {x69_6 : Int32} (h_x69_6 : m0 6906 = .int x69_6) {x69_9 : Int32} (h_x69_9 : m0 6909 = .int x69_9) {x69_11 : Int32} (h_x69_11 : m0 6911 = .int x69_11) {x69_19 : Int64} (h_x69_19 : m0 6919 = .long x69_19) {x69_20 : Int32} (h_x69_20 : m0 6920 = .int x69_20) {x69_21 : Int32} (h_x69_21 : m0 6921 = .int x69_21) {x69_22 : Int32} (h_x69_22 : m0 6922 = .int x69_22) {x69_58 : Int32} (h_x69_58 : m0 6958 = .int x69_58) {x69_59 : Int32} (h_x69_59 : m0 6959 = .int x69_59) {x69_60 : Int32} (h_x69_60 : m0 6960 = .int x69_60) {x69_61 : Int64} (h_x69_61 : m0 6961 = .long x69_61) {x69_62 : Int32} (h_x69_62 : m0 6962 = .int x69_62) {x69_63 : Int32} (h_x69_63 : m0 6963 = .int x69_63) {x69_64 : Int32} (h_x69_64 : m0 6964 = .int x69_64) {x69_65 : Int32} (h_x69_65 : m0 6965 = .int x69_65) {x69_66 : Int32} (h_x69_66 : m0 6966 = .int x69_66) {A70 : Nat → Int32} (h_A70 : a0 70 = (30, .inl A70)) {A71 : Nat → Int32} (h_A71 : a0 71 = (8, .inl A71)) {A72 : Nat → Int32} (h_A72 : a0 72 = (40, .inl A72)) {A73 : Nat → Int32} (h_A73 : a0 73 = (40, .inl A73)) (p1 : Int32) {X0 : Int64 × Int32 × Int32 × Int32 × Int64 × Int32 × Int32 × Int32 × Int32 × Int32 × Int32 × Int64 × Int32 × Int32 × Int32 × Int32 × Int32 × (Nat → Int32) × (Nat → Int32) × (Nat → Int32) × (Nat → Int32)} (hs0 : rec x69_0 x69_1 x69_2 x69_3 x69_57 A75 x69_4 x69_6 x69_9 x69_11 x69_19 x69_20 x69_21 x69_22 x69_58 x69_59 x69_60 x69_61 x69_62 x69_63 x69_64 x69_65 x69_66 A70 A71 A72 A73 p1 = some X0), eMv l yX12_stepsTold cX12_stepsTold 2 none ({ frames := kf, cells := 0, slots := 0, locals := kl } : Room) D cy N q m0 a0 sz [.ref (q 69), .int p1] (XS sa sv) (fun m' a' => m' 6904 = .long X0.1 ∧ m' 6906 = .int X0.2.1 ∧ m' 6909 = .int X0.2.2.1 ∧ m' 6911 = .int X0.2.2.2.1 ∧ m' 6919 = .long X0.2.2.2.2.1 ∧ m' 6920 = .int X0.2.2.2.2.2.1 ∧ m' 6921 = .int X0.2.2.2.2.2.2.1 ∧ m' 6922 = .int X0.2.2.2.2.2.2.2.1 ∧ m' 6958 = .int X0.2.2.2.2.2.2.2.2.1 ∧ m' 6959 = .int X0.2.2.2.2.2.2.2.2.2.1 ∧ m' 6960 = .int X0.2.2.2.2.2.2.2.2.2.2.1 ∧ m' 6961 = .long X0.2.2.2.2.2.2.2.2.2.2.2.1 ∧ m' 6962 = .int X0.2.2.2.2.2.2.2.2.2.2.2.2.1 ∧ m' 6963 = .int X0.2.2.2.2.2.2.2.2.2.2.2.2.2.1 ∧ m' 6964 = .int X0.2.2.2.2.2.2.2.2.2.2.2.2.2.2.1 ∧ m' 6965 = .int X0.2.2.2.2.2.2.2.2.2.2.2.2.2.2.2.1 ∧ m' 6966 = .int X0.2.2.2.2.2.2.2.2.2.2.2.2.2.2.2.2.1 ∧ (∀ j, nel j [6904, 6906, 6909, 6911, 6919, 6920, 6921, 6922, 6958, 6959, 6960, 6961, 6962, 6963, 6964, 6965, 6966] = false → m' j = m0 j) ∧ a' 70 = (30, .inl X0.2.2.2.2.2.2.2.2.2.2.2.2.2.2.2.2.2.1) ∧ a' 71 = (8, .inl X0.2.2.2.2.2.2.2.2.2.2.2.2.2.2.2.2.2.2.1) ∧ a' 72 = (40, .inl X0.2.2.2.2.2.2.2.2.2.2.2.2.2.2.2.2.2.2.2.1) ∧ a' 73 = (40, .inl X0.2.2.2.2.2.2.2.2.2.2.2.2.2.2.2.2.2.2.2.2) ∧ (∀ j, nel j [70, 71, 72, 73] = false → a' j = a0 j)))  {m0 : Nat → Value} {a0 : Nat → vp_A} {sz : Nat} (hN : 105 ≤ N) (hsh : SH q m0) {x69_0 : Int32} (h_x69_0 : m0 6900 = .int x69_0) {x69_1 : Int32} (h_x69_1 : m0 6901 = .int x69_1) {x69_2 : Int32} (h_x69_2 : m0 6902 = .int x69_2) {x69_3 : Int32} (h_x69_3 : m0 6903 = .int x69_3) {x69_57 : Int32} (h_x69_57 : m0 6957 = .int x69_57) {A75 : Nat → Int32} (h_A75 : a0 75 = (264, .inl A75)) {x69_4 : Int64} (h_x69_4 : m0 6904 = .long x69_4) {x69_6 : Int32} (h_x69_6 : m0 6906 = .int x69_6) {x69_9 : Int32} (h_x69_9 : m0 6909 = .int x69_9) {x69_11 : Int32} (h_x69_11 : m0 6911 = .int x69_11) {x69_19 : Int64} (h_x69_19 : m0 6919 = .long x69_19) {x69_20 : Int32} (h_x69_20 : m0 6920 = .int x69_20) {x69_21 : Int32} (h_x69_21 : m0 6921 = .int x69_21) {x69_22 : Int32} (h_x69_22 : m0 6922 = .int x69_22) {x69_58 : Int32} (h_x69_58 : m0 6958 = .int x69_58) {x69_59 : Int32} (h_x69_59 : m0 6959 = .int x69_59) {x69_60 : Int32} (h_x69_60 : m0 6960 = .int x69_60) {x69_61 : Int64} (h_x69_61 : m0 6961 = .long x69_61) {x69_62 : Int32} (h_x69_62 : m0 6962 = .int x69_62) {x69_63 : Int32} (h_x69_63 : m0 6963 = .int x69_63) {x69_64 : Int32} (h_x69_64 : m0 6964 = .int x69_64) {x69_65 : Int32} (h_x69_65 : m0 6965 = .int x69_65) {x69_66 : Int32} (h_x69_66 : m0 6966 = .int x69_66) {A70 : Nat → Int32} (h_A70 : a0 70 = (30, .inl A70)) {A71 : Nat → Int32} (h_A71 : a0 71 = (8, .inl A71)) {A72 : Nat → Int32} (h_A72 : a0 72 = (40, .inl A72)) {A73 : Nat → Int32} (h_A73 : a0 73 = (40, .inl A73)) (F : Nat) (p1 : Int32) {X0 : Int64 × Int32 × Int32 × Int32 × Int64 × Int32 × Int32 × Int32 × Int32 × Int32 × Int32 × Int64 × Int32 × Int32 × Int32 × Int32 × Int32 × (Nat → Int32) × (Nat → Int32) × (Nat → Int32) × (Nat → Int32)} (hs0 : fX12_againTold rec F x69_0 x69_1 x69_2 x69_3 x69_57 A75 x69_4 x69_6 x69_9 x69_11 x69_19 x69_20 x69_21 x69_22 x69_58 x69_59 x69_60 x69_61 x69_62 x69_63 x69_64 x69_65 x69_66 A70 A71 A72 A73 p1 = some X0) : eMv l yX12_againTold cX12_againTold 8 none ({ frames := kf + 12, cells := 0, slots := 0, locals := kl + 500 } : Room) D cy N q m0 a0 sz [.ref (q 69), .int p1] (XS sa sv) (fun m' a' => m' 6904 = .long X0.1 ∧ m' 6906 = .int X0.2.1 ∧ m' 6909 = .int X0.2.2.1 ∧ m' 6911 = .int X0.2.2.2.1 ∧ m' 6919 = .long X0.2.2.2.2.1 ∧ m' 6920 = .int X0.2.2.2.2.2.1 ∧ m' 6921 = .int X0.2.2.2.2.2.2.1 ∧ m' 6922 = .int X0.2.2.2.2.2.2.2.1 ∧ m' 6958 = .int X0.2.2.2.2.2.2.2.2.1 ∧ m' 6959 = .int X0.2.2.2.2.2.2.2.2.2.1 ∧ m' 6960 = .int X0.2.2.2.2.2.2.2.2.2.2.1 ∧ m' 6961 = .long X0.2.2.2.2.2.2.2.2.2.2.2.1 ∧ m' 6962 = .int X0.2.2.2.2.2.2.2.2.2.2.2.2.1 ∧ m' 6963 = .int X0.2.2.2.2.2.2.2.2.2.2.2.2.2.1 ∧ m' 6964 = .int X0.2.2.2.2.2.2.2.2.2.2.2.2.2.2.1 ∧ m' 6965 = .int X0.2.2.2.2.2.2.2.2.2.2.2.2.2.2.2.1 ∧ m' 6966 = .int X0.2.2.2.2.2.2.2.2.2.2.2.2.2.2.2.2.1 ∧ (∀ j, nel j [6904, 6906, 6909, 6911, 6919, 6920, 6921, 6922, 6958, 6959, 6960, 6961, 6962, 6963, 6964, 6965, 6966] = false → m' j = m0 j) ∧ a' 70 = (30, .inl X0.2.2.2.2.2.2.2.2.2.2.2.2.2.2.2.2.2.1) ∧ a' 71 = (8, .inl X0.2.2.2.2.2.2.2.2.2.2.2.2.2.2.2.2.2.2.1) ∧ a' 72 = (40, .inl X0.2.2.2.2.2.2.2.2.2.2.2.2.2.2.2.2.2.2.2.1) ∧ a' 73 = (40, .inl X0.2.2.2.2.2.2.2.2.2.2.2.2.2.2.2.2.2.2.2.2) ∧ (∀ j, nel j [70, 71, 72, 73] = false → a' j = a0 j)) := by
  refine e_ofv (by decide) (Nat.le_of_ble_eq_true rfl) ?_
  intro p e s M args below meth c hx hb hr hG hown hin hlocks hml hW hS hE ls hl
  unfold fX12_againTold at hs0
  have hoff : ∀ j, nel j [6904, 6906, 6909, 6911, 6919, 6920, 6921, 6922, 6958, 6959, 6960, 6961, 6962, 6963, 6964, 6965, 6966] = false → m0 j = m0 j := off0
  have hoffa : ∀ j, nel j [70, 71, 72, 73] = false → a0 j = a0 j := off0
  have hJ138_0 : ∀ (v3j24 : Int32) (x69_4j24 : Int64) (x69_6j24 : Int32) (x69_9j24 : Int32) (x69_11j24 : Int32) (x69_19j24 : Int64) (x69_20j24 : Int32) (x69_21j24 : Int32) (x69_22j24 : Int32) (x69_58j24 : Int32) (x69_59j24 : Int32) (x69_60j24 : Int32) (x69_61j24 : Int64) (x69_62j24 : Int32) (x69_63j24 : Int32) (x69_64j24 : Int32) (x69_65j24 : Int32) (x69_66j24 : Int32) (A70j24 : Nat → Int32) (A71j24 : Nat → Int32) (A72j24 : Nat → Int32) (A73j24 : Nat → Int32) (m : Nat → Value) (a : Nat → vp_A) (H : Heap) (locs : List Loc) (w_x69_4 : m 6904 = .long x69_4j24) (w_x69_6 : m 6906 = .int x69_6j24) (w_x69_9 : m 6909 = .int x69_9j24) (w_x69_11 : m 6911 = .int x69_11j24) (w_x69_19 : m 6919 = .long x69_19j24) (w_x69_20 : m 6920 = .int x69_20j24) (w_x69_21 : m 6921 = .int x69_21j24) (w_x69_22 : m 6922 = .int x69_22j24) (w_x69_58 : m 6958 = .int x69_58j24) (w_x69_59 : m 6959 = .int x69_59j24) (w_x69_60 : m 6960 = .int x69_60j24) (w_x69_61 : m 6961 = .long x69_61j24) (w_x69_62 : m 6962 = .int x69_62j24) (w_x69_63 : m 6963 = .int x69_63j24) (w_x69_64 : m 6964 = .int x69_64j24) (w_x69_65 : m 6965 = .int x69_65j24) (w_x69_66 : m 6966 = .int x69_66j24) (hoff : ∀ j, nel j [6904, 6906, 6909, 6911, 6919, 6920, 6921, 6922, 6958, 6959, 6960, 6961, 6962, 6963, 6964, 6965, 6966] = false → m j = m0 j) (hsh : SH q m) (w_A70 : a 70 = (30, .inl A70j24)) (w_A71 : a 71 = (8, .inl A71j24)) (w_A72 : a 72 = (40, .inl A72j24)) (w_A73 : a 73 = (40, .inl A73j24)) (hoffa : ∀ j, nel j [70, 71, 72, 73] = false → a j = a0 j) (ls : Array Slot) (hl : lv_has ls 8 [(0, .ref (q 69)), (3, .int v3j24)]) (hs0 : fX12_againTold_J138 rec F x69_0 x69_1 x69_2 x69_3 x69_57 A75 v3j24 x69_4j24 x69_6j24 x69_9j24 x69_11j24 x69_19j24 x69_20j24 x69_21j24 x69_22j24 x69_58j24 x69_59j24 x69_60j24 x69_61j24 x69_62j24 x69_63j24 x69_64j24 x69_65j24 x69_66j24 A70j24 A71j24 A72j24 A73j24 = some X0) (hW : GW D cy (gA N q s.heap.size) N q m a s H) (hS : va_S (gA N q s.heap.size) s.heap H locs), W p l e ({ frames := kf + 12, cells := 0, slots := 0, locals := kl + 500 } : Room) s M args below meth c H locs 0 0 (MQ below (va_Qv (fun (u : (Nat → Value) × (Nat → vp_A)) => u.1 6904 = .long X0.1 ∧ u.1 6906 = .int X0.2.1 ∧ u.1 6909 = .int X0.2.2.1 ∧ u.1 6911 = .int X0.2.2.2.1 ∧ u.1 6919 = .long X0.2.2.2.2.1 ∧ u.1 6920 = .int X0.2.2.2.2.2.1 ∧ u.1 6921 = .int X0.2.2.2.2.2.2.1 ∧ u.1 6922 = .int X0.2.2.2.2.2.2.2.1 ∧ u.1 6958 = .int X0.2.2.2.2.2.2.2.2.1 ∧ u.1 6959 = .int X0.2.2.2.2.2.2.2.2.2.1 ∧ u.1 6960 = .int X0.2.2.2.2.2.2.2.2.2.2.1 ∧ u.1 6961 = .long X0.2.2.2.2.2.2.2.2.2.2.2.1 ∧ u.1 6962 = .int X0.2.2.2.2.2.2.2.2.2.2.2.2.1 ∧ u.1 6963 = .int X0.2.2.2.2.2.2.2.2.2.2.2.2.2.1 ∧ u.1 6964 = .int X0.2.2.2.2.2.2.2.2.2.2.2.2.2.2.1 ∧ u.1 6965 = .int X0.2.2.2.2.2.2.2.2.2.2.2.2.2.2.2.1 ∧ u.1 6966 = .int X0.2.2.2.2.2.2.2.2.2.2.2.2.2.2.2.2.1 ∧ (∀ j, nel j [6904, 6906, 6909, 6911, 6919, 6920, 6921, 6922, 6958, 6959, 6960, 6961, 6962, 6963, 6964, 6965, 6966] = false → u.1 j = m0 j) ∧ u.2 70 = (30, .inl X0.2.2.2.2.2.2.2.2.2.2.2.2.2.2.2.2.2.1) ∧ u.2 71 = (8, .inl X0.2.2.2.2.2.2.2.2.2.2.2.2.2.2.2.2.2.2.1) ∧ u.2 72 = (40, .inl X0.2.2.2.2.2.2.2.2.2.2.2.2.2.2.2.2.2.2.2.1) ∧ u.2 73 = (40, .inl X0.2.2.2.2.2.2.2.2.2.2.2.2.2.2.2.2.2.2.2.2) ∧ (∀ j, nel j [70, 71, 72, 73] = false → u.2 j = a0 j)) (gB D cy N q s.heap.size) (gA N q s.heap.size)) args s 0 0 (gA N q s.heap.size)) (F0 M 138 ls []) := by
    intro v3j24 x69_4j24 x69_6j24 x69_9j24 x69_11j24 x69_19j24 x69_20j24 x69_21j24 x69_22j24 x69_58j24 x69_59j24 x69_60j24 x69_61j24 x69_62j24 x69_63j24 x69_64j24 x69_65j24 x69_66j24 A70j24 A71j24 A72j24 A73j24 m a H locs w_x69_4 w_x69_6 w_x69_9 w_x69_11 w_x69_19 w_x69_20 w_x69_21 w_x69_22 w_x69_58 w_x69_59 w_x69_60 w_x69_61 w_x69_62 w_x69_63 w_x69_64 w_x69_65 w_x69_66 hoff hsh w_A70 w_A71 w_A72 w_A73 hoffa ls hl hs0 hW hS
    unfold fX12_againTold_J138 at hs0
    refine lv_aload_n hx hb dX12_againTold_138 rfl (lv_at hl 0 rfl) ?_
    refine lv_iload_n hx hb dX12_againTold_139 rfl (lv_at hl 1 rfl) ?_
    obtain ⟨hz39, hs0⟩ := oif hs0
    refine gp12_64 hx hb hG hown hW hS (o := 69) (ltN hN 69 rfl) gk69 (v := v3j24) hz39 gx1311 dX12_againTold_140 (fun m40 H locs hm40 ho40 hW hS => ?_)
    have ho40 := off1 ho40
    have w_x69_4 : m40 6904 = .long x69_4j24 := (ho40 6904 rfl).trans w_x69_4
    have w_x69_6 : m40 6906 = .int x69_6j24 := (ho40 6906 rfl).trans w_x69_6
    have w_x69_9 : m40 6909 = .int x69_9j24 := (ho40 6909 rfl).trans w_x69_9
    have w_x69_11 : m40 6911 = .int x69_11j24 := (ho40 6911 rfl).trans w_x69_11
    have w_x69_19 : m40 6919 = .long x69_19j24 := (ho40 6919 rfl).trans w_x69_19
    have w_x69_20 : m40 6920 = .int x69_20j24 := (ho40 6920 rfl).trans w_x69_20
    have w_x69_21 : m40 6921 = .int x69_21j24 := (ho40 6921 rfl).trans w_x69_21
    have w_x69_22 : m40 6922 = .int x69_22j24 := (ho40 6922 rfl).trans w_x69_22
    have w_x69_58 : m40 6958 = .int x69_58j24 := (ho40 6958 rfl).trans w_x69_58
    have w_x69_59 : m40 6959 = .int x69_59j24 := (ho40 6959 rfl).trans w_x69_59
    have w_x69_60 : m40 6960 = .int x69_60j24 := (ho40 6960 rfl).trans w_x69_60
    have w_x69_61 : m40 6961 = .long x69_61j24 := (ho40 6961 rfl).trans w_x69_61
    have w_x69_62 : m40 6962 = .int x69_62j24 := (ho40 6962 rfl).trans w_x69_62
    have w_x69_63 : m40 6963 = .int x69_63j24 := (ho40 6963 rfl).trans w_x69_63
    have w_x69_64 : m40 6964 = .int v3j24 := hm40
    have w_x69_65 : m40 6965 = .int x69_65j24 := (ho40 6965 rfl).trans w_x69_65
    have w_x69_66 : m40 6966 = .int x69_66j24 := (ho40 6966 rfl).trans w_x69_66
    have hoff := offm hoff ho40 (by decide +kernel)
    have hsh := SH.off hsh ho40 (by decide +kernel)
    have hs0 := Option.some.inj hs0
    subst hs0
    exact W.vret hx hb hr (fun t ht hw => ⟨⟨(m40, a), rfl, ⟨w_x69_4, w_x69_6, w_x69_9, w_x69_11, w_x69_19, w_x69_20, w_x69_21, w_x69_22, w_x69_58, w_x69_59, w_x69_60, w_x69_61, w_x69_62, w_x69_63, w_x69_64, w_x69_65, w_x69_66, hoff, w_A70, w_A71, w_A72, w_A73, hoffa⟩, g_end hW ht hw⟩, hS.F ht⟩) hS.2.2 dX12_againTold_143 hlocks
  have hJ55_0 : ∀ (v1j8 : Int32) (v3j8 : Int32) (v4j8 : Int32) (v5j8 : Int32) (s0j8 : Int32) (x69_4j8 : Int64) (x69_6j8 : Int32) (x69_9j8 : Int32) (x69_11j8 : Int32) (x69_19j8 : Int64) (x69_20j8 : Int32) (x69_21j8 : Int32) (x69_22j8 : Int32) (x69_58j8 : Int32) (x69_59j8 : Int32) (x69_60j8 : Int32) (x69_61j8 : Int64) (x69_62j8 : Int32) (x69_63j8 : Int32) (x69_64j8 : Int32) (x69_65j8 : Int32) (x69_66j8 : Int32) (A70j8 : Nat → Int32) (A71j8 : Nat → Int32) (A72j8 : Nat → Int32) (A73j8 : Nat → Int32) (m : Nat → Value) (a : Nat → vp_A) (H : Heap) (locs : List Loc) (w_x69_4 : m 6904 = .long x69_4j8) (w_x69_6 : m 6906 = .int x69_6j8) (w_x69_9 : m 6909 = .int x69_9j8) (w_x69_11 : m 6911 = .int x69_11j8) (w_x69_19 : m 6919 = .long x69_19j8) (w_x69_20 : m 6920 = .int x69_20j8) (w_x69_21 : m 6921 = .int x69_21j8) (w_x69_22 : m 6922 = .int x69_22j8) (w_x69_58 : m 6958 = .int x69_58j8) (w_x69_59 : m 6959 = .int x69_59j8) (w_x69_60 : m 6960 = .int x69_60j8) (w_x69_61 : m 6961 = .long x69_61j8) (w_x69_62 : m 6962 = .int x69_62j8) (w_x69_63 : m 6963 = .int x69_63j8) (w_x69_64 : m 6964 = .int x69_64j8) (w_x69_65 : m 6965 = .int x69_65j8) (w_x69_66 : m 6966 = .int x69_66j8) (hoff : ∀ j, nel j [6904, 6906, 6909, 6911, 6919, 6920, 6921, 6922, 6958, 6959, 6960, 6961, 6962, 6963, 6964, 6965, 6966] = false → m j = m0 j) (hsh : SH q m) (w_A70 : a 70 = (30, .inl A70j8)) (w_A71 : a 71 = (8, .inl A71j8)) (w_A72 : a 72 = (40, .inl A72j8)) (w_A73 : a 73 = (40, .inl A73j8)) (hoffa : ∀ j, nel j [70, 71, 72, 73] = false → a j = a0 j) (ls : Array Slot) (hl : lv_has ls 8 [(0, .ref (q 69)), (1, .int v1j8), (3, .int v3j8), (4, .int v4j8), (5, .int v5j8)]) (hs0 : fX12_againTold_J55 rec F x69_0 x69_1 x69_2 x69_3 x69_57 A75 v1j8 v3j8 v4j8 v5j8 s0j8 x69_4j8 x69_6j8 x69_9j8 x69_11j8 x69_19j8 x69_20j8 x69_21j8 x69_22j8 x69_58j8 x69_59j8 x69_60j8 x69_61j8 x69_62j8 x69_63j8 x69_64j8 x69_65j8 x69_66j8 A70j8 A71j8 A72j8 A73j8 = some X0) (hW : GW D cy (gA N q s.heap.size) N q m a s H) (hS : va_S (gA N q s.heap.size) s.heap H locs), W p l e ({ frames := kf + 12, cells := 0, slots := 0, locals := kl + 500 } : Room) s M args below meth c H locs 0 0 (MQ below (va_Qv (fun (u : (Nat → Value) × (Nat → vp_A)) => u.1 6904 = .long X0.1 ∧ u.1 6906 = .int X0.2.1 ∧ u.1 6909 = .int X0.2.2.1 ∧ u.1 6911 = .int X0.2.2.2.1 ∧ u.1 6919 = .long X0.2.2.2.2.1 ∧ u.1 6920 = .int X0.2.2.2.2.2.1 ∧ u.1 6921 = .int X0.2.2.2.2.2.2.1 ∧ u.1 6922 = .int X0.2.2.2.2.2.2.2.1 ∧ u.1 6958 = .int X0.2.2.2.2.2.2.2.2.1 ∧ u.1 6959 = .int X0.2.2.2.2.2.2.2.2.2.1 ∧ u.1 6960 = .int X0.2.2.2.2.2.2.2.2.2.2.1 ∧ u.1 6961 = .long X0.2.2.2.2.2.2.2.2.2.2.2.1 ∧ u.1 6962 = .int X0.2.2.2.2.2.2.2.2.2.2.2.2.1 ∧ u.1 6963 = .int X0.2.2.2.2.2.2.2.2.2.2.2.2.2.1 ∧ u.1 6964 = .int X0.2.2.2.2.2.2.2.2.2.2.2.2.2.2.1 ∧ u.1 6965 = .int X0.2.2.2.2.2.2.2.2.2.2.2.2.2.2.2.1 ∧ u.1 6966 = .int X0.2.2.2.2.2.2.2.2.2.2.2.2.2.2.2.2.1 ∧ (∀ j, nel j [6904, 6906, 6909, 6911, 6919, 6920, 6921, 6922, 6958, 6959, 6960, 6961, 6962, 6963, 6964, 6965, 6966] = false → u.1 j = m0 j) ∧ u.2 70 = (30, .inl X0.2.2.2.2.2.2.2.2.2.2.2.2.2.2.2.2.2.1) ∧ u.2 71 = (8, .inl X0.2.2.2.2.2.2.2.2.2.2.2.2.2.2.2.2.2.2.1) ∧ u.2 72 = (40, .inl X0.2.2.2.2.2.2.2.2.2.2.2.2.2.2.2.2.2.2.2.1) ∧ u.2 73 = (40, .inl X0.2.2.2.2.2.2.2.2.2.2.2.2.2.2.2.2.2.2.2.2) ∧ (∀ j, nel j [70, 71, 72, 73] = false → u.2 j = a0 j)) (gB D cy N q s.heap.size) (gA N q s.heap.size)) args s 0 0 (gA N q s.heap.size)) (F0 M 55 ls [.int s0j8]) := by
    intro v1j8 v3j8 v4j8 v5j8 s0j8 x69_4j8 x69_6j8 x69_9j8 x69_11j8 x69_19j8 x69_20j8 x69_21j8 x69_22j8 x69_58j8 x69_59j8 x69_60j8 x69_61j8 x69_62j8 x69_63j8 x69_64j8 x69_65j8 x69_66j8 A70j8 A71j8 A72j8 A73j8 m a H locs w_x69_4 w_x69_6 w_x69_9 w_x69_11 w_x69_19 w_x69_20 w_x69_21 w_x69_22 w_x69_58 w_x69_59 w_x69_60 w_x69_61 w_x69_62 w_x69_63 w_x69_64 w_x69_65 w_x69_66 hoff hsh w_A70 w_A71 w_A72 w_A73 hoffa ls hl hs0 hW hS
    unfold fX12_againTold_J55 at hs0
    refine lv_istore (lv' := [(6, .int s0j8), (0, .ref (q 69)), (1, .int v1j8), (3, .int v3j8), (4, .int v4j8), (5, .int v5j8)]) hx hb dX12_againTold_55 hl (by decide) rfl (fun ls hl => ?_)
    refine lv_iconst (v := 0) hx hb dX12_againTold_57 (by decide) ?_
    refine lv_istore (lv' := [(7, .int 0), (6, .int s0j8), (0, .ref (q 69)), (1, .int v1j8), (3, .int v3j8), (4, .int v4j8), (5, .int v5j8)]) hx hb dX12_againTold_58 hl (by decide) rfl (fun ls hl => ?_)
    obtain ⟨r9, hg9, hs0⟩ := obind hs0
    have hE1_129 : ∀ (t9_129 : Int64 × Int32 × Int32 × Int32 × Int64 × Int32 × Int32 × Int32 × Int32 × Int32 × Int32 × Int64 × Int32 × Int32 × Int32 × Int32 × Int32 × (Nat → Int32) × (Nat → Int32) × (Nat → Int32) × (Nat → Int32)) (hr9 : Sum.inl t9_129 = r9) (m : Nat → Value) (a : Nat → vp_A) (H : Heap) (locs : List Loc) (w_x69_4 : m 6904 = .long t9_129.1) (w_x69_6 : m 6906 = .int t9_129.2.1) (w_x69_9 : m 6909 = .int t9_129.2.2.1) (w_x69_11 : m 6911 = .int t9_129.2.2.2.1) (w_x69_19 : m 6919 = .long t9_129.2.2.2.2.1) (w_x69_20 : m 6920 = .int t9_129.2.2.2.2.2.1) (w_x69_21 : m 6921 = .int t9_129.2.2.2.2.2.2.1) (w_x69_22 : m 6922 = .int t9_129.2.2.2.2.2.2.2.1) (w_x69_58 : m 6958 = .int t9_129.2.2.2.2.2.2.2.2.1) (w_x69_59 : m 6959 = .int t9_129.2.2.2.2.2.2.2.2.2.1) (w_x69_60 : m 6960 = .int t9_129.2.2.2.2.2.2.2.2.2.2.1) (w_x69_61 : m 6961 = .long t9_129.2.2.2.2.2.2.2.2.2.2.2.1) (w_x69_62 : m 6962 = .int t9_129.2.2.2.2.2.2.2.2.2.2.2.2.1) (w_x69_63 : m 6963 = .int t9_129.2.2.2.2.2.2.2.2.2.2.2.2.2.1) (w_x69_64 : m 6964 = .int t9_129.2.2.2.2.2.2.2.2.2.2.2.2.2.2.1) (w_x69_65 : m 6965 = .int t9_129.2.2.2.2.2.2.2.2.2.2.2.2.2.2.2.1) (w_x69_66 : m 6966 = .int t9_129.2.2.2.2.2.2.2.2.2.2.2.2.2.2.2.2.1) (hoff : ∀ j, nel j [6904, 6906, 6909, 6911, 6919, 6920, 6921, 6922, 6958, 6959, 6960, 6961, 6962, 6963, 6964, 6965, 6966] = false → m j = m0 j) (hsh : SH q m) (w_A70 : a 70 = (30, .inl t9_129.2.2.2.2.2.2.2.2.2.2.2.2.2.2.2.2.2.1)) (w_A71 : a 71 = (8, .inl t9_129.2.2.2.2.2.2.2.2.2.2.2.2.2.2.2.2.2.2.1)) (w_A72 : a 72 = (40, .inl t9_129.2.2.2.2.2.2.2.2.2.2.2.2.2.2.2.2.2.2.2.1)) (w_A73 : a 73 = (40, .inl t9_129.2.2.2.2.2.2.2.2.2.2.2.2.2.2.2.2.2.2.2.2)) (hoffa : ∀ j, nel j [70, 71, 72, 73] = false → a j = a0 j) (ls : Array Slot) (hl : lv_has ls 8 [(0, .ref (q 69)), (3, .int v3j8)]) (hW : GW D cy (gA N q s.heap.size) N q m a s H) (hS : va_S (gA N q s.heap.size) s.heap H locs), W p l e ({ frames := kf + 12, cells := 0, slots := 0, locals := kl + 500 } : Room) s M args below meth c H locs 0 0 (MQ below (va_Qv (fun (u : (Nat → Value) × (Nat → vp_A)) => u.1 6904 = .long X0.1 ∧ u.1 6906 = .int X0.2.1 ∧ u.1 6909 = .int X0.2.2.1 ∧ u.1 6911 = .int X0.2.2.2.1 ∧ u.1 6919 = .long X0.2.2.2.2.1 ∧ u.1 6920 = .int X0.2.2.2.2.2.1 ∧ u.1 6921 = .int X0.2.2.2.2.2.2.1 ∧ u.1 6922 = .int X0.2.2.2.2.2.2.2.1 ∧ u.1 6958 = .int X0.2.2.2.2.2.2.2.2.1 ∧ u.1 6959 = .int X0.2.2.2.2.2.2.2.2.2.1 ∧ u.1 6960 = .int X0.2.2.2.2.2.2.2.2.2.2.1 ∧ u.1 6961 = .long X0.2.2.2.2.2.2.2.2.2.2.2.1 ∧ u.1 6962 = .int X0.2.2.2.2.2.2.2.2.2.2.2.2.1 ∧ u.1 6963 = .int X0.2.2.2.2.2.2.2.2.2.2.2.2.2.1 ∧ u.1 6964 = .int X0.2.2.2.2.2.2.2.2.2.2.2.2.2.2.1 ∧ u.1 6965 = .int X0.2.2.2.2.2.2.2.2.2.2.2.2.2.2.2.1 ∧ u.1 6966 = .int X0.2.2.2.2.2.2.2.2.2.2.2.2.2.2.2.2.1 ∧ (∀ j, nel j [6904, 6906, 6909, 6911, 6919, 6920, 6921, 6922, 6958, 6959, 6960, 6961, 6962, 6963, 6964, 6965, 6966] = false → u.1 j = m0 j) ∧ u.2 70 = (30, .inl X0.2.2.2.2.2.2.2.2.2.2.2.2.2.2.2.2.2.1) ∧ u.2 71 = (8, .inl X0.2.2.2.2.2.2.2.2.2.2.2.2.2.2.2.2.2.2.1) ∧ u.2 72 = (40, .inl X0.2.2.2.2.2.2.2.2.2.2.2.2.2.2.2.2.2.2.2.1) ∧ u.2 73 = (40, .inl X0.2.2.2.2.2.2.2.2.2.2.2.2.2.2.2.2.2.2.2.2) ∧ (∀ j, nel j [70, 71, 72, 73] = false → u.2 j = a0 j)) (gB D cy N q s.heap.size) (gA N q s.heap.size)) args s 0 0 (gA N q s.heap.size)) (F0 M 129 ls []) := by
      intro t9_129 hr9 m a H locs w_x69_4 w_x69_6 w_x69_9 w_x69_11 w_x69_19 w_x69_20 w_x69_21 w_x69_22 w_x69_58 w_x69_59 w_x69_60 w_x69_61 w_x69_62 w_x69_63 w_x69_64 w_x69_65 w_x69_66 hoff hsh w_A70 w_A71 w_A72 w_A73 hoffa ls hl hW hS
      subst hr9
      have hs0 := osum_l hs0
      refine lv_goto (tgt := 138) hx hb dX12_againTold_129 (by decide) ?_
      exact hJ138_0 v3j8 t9_129.1 t9_129.2.1 t9_129.2.2.1 t9_129.2.2.2.1 t9_129.2.2.2.2.1 t9_129.2.2.2.2.2.1 t9_129.2.2.2.2.2.2.1 t9_129.2.2.2.2.2.2.2.1 t9_129.2.2.2.2.2.2.2.2.1 t9_129.2.2.2.2.2.2.2.2.2.1 t9_129.2.2.2.2.2.2.2.2.2.2.1 t9_129.2.2.2.2.2.2.2.2.2.2.2.1 t9_129.2.2.2.2.2.2.2.2.2.2.2.2.1 t9_129.2.2.2.2.2.2.2.2.2.2.2.2.2.1 t9_129.2.2.2.2.2.2.2.2.2.2.2.2.2.2.1 t9_129.2.2.2.2.2.2.2.2.2.2.2.2.2.2.2.1 t9_129.2.2.2.2.2.2.2.2.2.2.2.2.2.2.2.2.1 t9_129.2.2.2.2.2.2.2.2.2.2.2.2.2.2.2.2.2.1 t9_129.2.2.2.2.2.2.2.2.2.2.2.2.2.2.2.2.2.2.1 t9_129.2.2.2.2.2.2.2.2.2.2.2.2.2.2.2.2.2.2.2.1 t9_129.2.2.2.2.2.2.2.2.2.2.2.2.2.2.2.2.2.2.2.2 m a _ _ w_x69_4 w_x69_6 w_x69_9 w_x69_11 w_x69_19 w_x69_20 w_x69_21 w_x69_22 w_x69_58 w_x69_59 w_x69_60 w_x69_61 w_x69_62 w_x69_63 w_x69_64 w_x69_65 w_x69_66 hoff hsh w_A70 w_A71 w_A72 w_A73 hoffa ls (lv_sub hl [0, 1] rfl) hs0 hW hS
    have hE1_138 : ∀ (t9_138 : Int64 × Int32 × Int32 × Int32 × Int64 × Int32 × Int32 × Int32 × Int32 × Int32 × Int32 × Int64 × Int32 × Int32 × Int32 × Int32 × Int32 × (Nat → Int32) × (Nat → Int32) × (Nat → Int32) × (Nat → Int32)) (hr9 : Sum.inr (t9_138) = r9) (m : Nat → Value) (a : Nat → vp_A) (H : Heap) (locs : List Loc) (w_x69_4 : m 6904 = .long t9_138.1) (w_x69_6 : m 6906 = .int t9_138.2.1) (w_x69_9 : m 6909 = .int t9_138.2.2.1) (w_x69_11 : m 6911 = .int t9_138.2.2.2.1) (w_x69_19 : m 6919 = .long t9_138.2.2.2.2.1) (w_x69_20 : m 6920 = .int t9_138.2.2.2.2.2.1) (w_x69_21 : m 6921 = .int t9_138.2.2.2.2.2.2.1) (w_x69_22 : m 6922 = .int t9_138.2.2.2.2.2.2.2.1) (w_x69_58 : m 6958 = .int t9_138.2.2.2.2.2.2.2.2.1) (w_x69_59 : m 6959 = .int t9_138.2.2.2.2.2.2.2.2.2.1) (w_x69_60 : m 6960 = .int t9_138.2.2.2.2.2.2.2.2.2.2.1) (w_x69_61 : m 6961 = .long t9_138.2.2.2.2.2.2.2.2.2.2.2.1) (w_x69_62 : m 6962 = .int t9_138.2.2.2.2.2.2.2.2.2.2.2.2.1) (w_x69_63 : m 6963 = .int t9_138.2.2.2.2.2.2.2.2.2.2.2.2.2.1) (w_x69_64 : m 6964 = .int t9_138.2.2.2.2.2.2.2.2.2.2.2.2.2.2.1) (w_x69_65 : m 6965 = .int t9_138.2.2.2.2.2.2.2.2.2.2.2.2.2.2.2.1) (w_x69_66 : m 6966 = .int t9_138.2.2.2.2.2.2.2.2.2.2.2.2.2.2.2.2.1) (hoff : ∀ j, nel j [6904, 6906, 6909, 6911, 6919, 6920, 6921, 6922, 6958, 6959, 6960, 6961, 6962, 6963, 6964, 6965, 6966] = false → m j = m0 j) (hsh : SH q m) (w_A70 : a 70 = (30, .inl t9_138.2.2.2.2.2.2.2.2.2.2.2.2.2.2.2.2.2.1)) (w_A71 : a 71 = (8, .inl t9_138.2.2.2.2.2.2.2.2.2.2.2.2.2.2.2.2.2.2.1)) (w_A72 : a 72 = (40, .inl t9_138.2.2.2.2.2.2.2.2.2.2.2.2.2.2.2.2.2.2.2.1)) (w_A73 : a 73 = (40, .inl t9_138.2.2.2.2.2.2.2.2.2.2.2.2.2.2.2.2.2.2.2.2)) (hoffa : ∀ j, nel j [70, 71, 72, 73] = false → a j = a0 j) (ls : Array Slot) (hl : lv_has ls 8 [(0, .ref (q 69)), (3, .int v3j8)]) (hW : GW D cy (gA N q s.heap.size) N q m a s H) (hS : va_S (gA N q s.heap.size) s.heap H locs), W p l e ({ frames := kf + 12, cells := 0, slots := 0, locals := kl + 500 } : Room) s M args below meth c H locs 0 0 (MQ below (va_Qv (fun (u : (Nat → Value) × (Nat → vp_A)) => u.1 6904 = .long X0.1 ∧ u.1 6906 = .int X0.2.1 ∧ u.1 6909 = .int X0.2.2.1 ∧ u.1 6911 = .int X0.2.2.2.1 ∧ u.1 6919 = .long X0.2.2.2.2.1 ∧ u.1 6920 = .int X0.2.2.2.2.2.1 ∧ u.1 6921 = .int X0.2.2.2.2.2.2.1 ∧ u.1 6922 = .int X0.2.2.2.2.2.2.2.1 ∧ u.1 6958 = .int X0.2.2.2.2.2.2.2.2.1 ∧ u.1 6959 = .int X0.2.2.2.2.2.2.2.2.2.1 ∧ u.1 6960 = .int X0.2.2.2.2.2.2.2.2.2.2.1 ∧ u.1 6961 = .long X0.2.2.2.2.2.2.2.2.2.2.2.1 ∧ u.1 6962 = .int X0.2.2.2.2.2.2.2.2.2.2.2.2.1 ∧ u.1 6963 = .int X0.2.2.2.2.2.2.2.2.2.2.2.2.2.1 ∧ u.1 6964 = .int X0.2.2.2.2.2.2.2.2.2.2.2.2.2.2.1 ∧ u.1 6965 = .int X0.2.2.2.2.2.2.2.2.2.2.2.2.2.2.2.1 ∧ u.1 6966 = .int X0.2.2.2.2.2.2.2.2.2.2.2.2.2.2.2.2.1 ∧ (∀ j, nel j [6904, 6906, 6909, 6911, 6919, 6920, 6921, 6922, 6958, 6959, 6960, 6961, 6962, 6963, 6964, 6965, 6966] = false → u.1 j = m0 j) ∧ u.2 70 = (30, .inl X0.2.2.2.2.2.2.2.2.2.2.2.2.2.2.2.2.2.1) ∧ u.2 71 = (8, .inl X0.2.2.2.2.2.2.2.2.2.2.2.2.2.2.2.2.2.2.1) ∧ u.2 72 = (40, .inl X0.2.2.2.2.2.2.2.2.2.2.2.2.2.2.2.2.2.2.2.1) ∧ u.2 73 = (40, .inl X0.2.2.2.2.2.2.2.2.2.2.2.2.2.2.2.2.2.2.2.2) ∧ (∀ j, nel j [70, 71, 72, 73] = false → u.2 j = a0 j)) (gB D cy N q s.heap.size) (gA N q s.heap.size)) args s 0 0 (gA N q s.heap.size)) (F0 M 138 ls []) := by
      intro t9_138 hr9 m a H locs w_x69_4 w_x69_6 w_x69_9 w_x69_11 w_x69_19 w_x69_20 w_x69_21 w_x69_22 w_x69_58 w_x69_59 w_x69_60 w_x69_61 w_x69_62 w_x69_63 w_x69_64 w_x69_65 w_x69_66 hoff hsh w_A70 w_A71 w_A72 w_A73 hoffa ls hl hW hS
      subst hr9
      have hs0 := osum_r hs0
      exact hJ138_0 v3j8 t9_138.1 t9_138.2.1 t9_138.2.2.1 t9_138.2.2.2.1 t9_138.2.2.2.2.1 t9_138.2.2.2.2.2.1 t9_138.2.2.2.2.2.2.1 t9_138.2.2.2.2.2.2.2.1 t9_138.2.2.2.2.2.2.2.2.1 t9_138.2.2.2.2.2.2.2.2.2.1 t9_138.2.2.2.2.2.2.2.2.2.2.1 t9_138.2.2.2.2.2.2.2.2.2.2.2.1 t9_138.2.2.2.2.2.2.2.2.2.2.2.2.1 t9_138.2.2.2.2.2.2.2.2.2.2.2.2.2.1 t9_138.2.2.2.2.2.2.2.2.2.2.2.2.2.2.1 t9_138.2.2.2.2.2.2.2.2.2.2.2.2.2.2.2.1 t9_138.2.2.2.2.2.2.2.2.2.2.2.2.2.2.2.2.1 t9_138.2.2.2.2.2.2.2.2.2.2.2.2.2.2.2.2.2.1 t9_138.2.2.2.2.2.2.2.2.2.2.2.2.2.2.2.2.2.2.1 t9_138.2.2.2.2.2.2.2.2.2.2.2.2.2.2.2.2.2.2.2.1 t9_138.2.2.2.2.2.2.2.2.2.2.2.2.2.2.2.2.2.2.2.2 m a _ _ w_x69_4 w_x69_6 w_x69_9 w_x69_11 w_x69_19 w_x69_20 w_x69_21 w_x69_22 w_x69_58 w_x69_59 w_x69_60 w_x69_61 w_x69_62 w_x69_63 w_x69_64 w_x69_65 w_x69_66 hoff hsh w_A70 w_A71 w_A72 w_A73 hoffa ls (lv_sub hl [0, 1] rfl) hs0 hW hS
    have hL1 : ∀ (n : Nat) (v7k9 : Int32) (x69_4k9 : Int64) (x69_6k9 : Int32) (x69_9k9 : Int32) (x69_11k9 : Int32) (x69_19k9 : Int64) (x69_20k9 : Int32) (x69_21k9 : Int32) (x69_22k9 : Int32) (x69_58k9 : Int32) (x69_59k9 : Int32) (x69_60k9 : Int32) (x69_61k9 : Int64) (x69_62k9 : Int32) (x69_63k9 : Int32) (x69_64k9 : Int32) (x69_65k9 : Int32) (x69_66k9 : Int32) (A70k9 : Nat → Int32) (A71k9 : Nat → Int32) (A72k9 : Nat → Int32) (A73k9 : Nat → Int32) (m : Nat → Value) (a : Nat → vp_A) (H : Heap) (locs : List Loc) (w_x69_4 : m 6904 = .long x69_4k9) (w_x69_6 : m 6906 = .int x69_6k9) (w_x69_9 : m 6909 = .int x69_9k9) (w_x69_11 : m 6911 = .int x69_11k9) (w_x69_19 : m 6919 = .long x69_19k9) (w_x69_20 : m 6920 = .int x69_20k9) (w_x69_21 : m 6921 = .int x69_21k9) (w_x69_22 : m 6922 = .int x69_22k9) (w_x69_58 : m 6958 = .int x69_58k9) (w_x69_59 : m 6959 = .int x69_59k9) (w_x69_60 : m 6960 = .int x69_60k9) (w_x69_61 : m 6961 = .long x69_61k9) (w_x69_62 : m 6962 = .int x69_62k9) (w_x69_63 : m 6963 = .int x69_63k9) (w_x69_64 : m 6964 = .int x69_64k9) (w_x69_65 : m 6965 = .int x69_65k9) (w_x69_66 : m 6966 = .int x69_66k9) (hoff : ∀ j, nel j [6904, 6906, 6909, 6911, 6919, 6920, 6921, 6922, 6958, 6959, 6960, 6961, 6962, 6963, 6964, 6965, 6966] = false → m j = m0 j) (hsh : SH q m) (w_A70 : a 70 = (30, .inl A70k9)) (w_A71 : a 71 = (8, .inl A71k9)) (w_A72 : a 72 = (40, .inl A72k9)) (w_A73 : a 73 = (40, .inl A73k9)) (hoffa : ∀ j, nel j [70, 71, 72, 73] = false → a j = a0 j) (ls : Array Slot) (hl : lv_has ls 8 [(0, .ref (q 69)), (1, .int v1j8), (3, .int v3j8), (4, .int v4j8), (5, .int v5j8), (6, .int s0j8), (7, .int v7k9)]) (hg9 : gloop (fun u9 : (Int32 × Int64 × Int32 × Int32 × Int32 × Int64 × Int32 × Int32 × Int32 × Int32 × Int32 × Int32 × Int64 × Int32 × Int32 × Int32 × Int32 × Int32 × (Nat → Int32) × (Nat → Int32) × (Nat → Int32) × (Nat → Int32)) => fX12_againTold_S60 rec F x69_0 x69_1 x69_2 x69_3 x69_57 A75 v1j8 v3j8 v4j8 v5j8 s0j8 u9.1 u9.2.1 u9.2.2.1 u9.2.2.2.1 u9.2.2.2.2.1 u9.2.2.2.2.2.1 u9.2.2.2.2.2.2.1 u9.2.2.2.2.2.2.2.1 u9.2.2.2.2.2.2.2.2.1 u9.2.2.2.2.2.2.2.2.2.1 u9.2.2.2.2.2.2.2.2.2.2.1 u9.2.2.2.2.2.2.2.2.2.2.2.1 u9.2.2.2.2.2.2.2.2.2.2.2.2.1 u9.2.2.2.2.2.2.2.2.2.2.2.2.2.1 u9.2.2.2.2.2.2.2.2.2.2.2.2.2.2.1 u9.2.2.2.2.2.2.2.2.2.2.2.2.2.2.2.1 u9.2.2.2.2.2.2.2.2.2.2.2.2.2.2.2.2.1 u9.2.2.2.2.2.2.2.2.2.2.2.2.2.2.2.2.2.1 u9.2.2.2.2.2.2.2.2.2.2.2.2.2.2.2.2.2.2.1 u9.2.2.2.2.2.2.2.2.2.2.2.2.2.2.2.2.2.2.2.1 u9.2.2.2.2.2.2.2.2.2.2.2.2.2.2.2.2.2.2.2.2.1 u9.2.2.2.2.2.2.2.2.2.2.2.2.2.2.2.2.2.2.2.2.2) n (v7k9, x69_4k9, x69_6k9, x69_9k9, x69_11k9, x69_19k9, x69_20k9, x69_21k9, x69_22k9, x69_58k9, x69_59k9, x69_60k9, x69_61k9, x69_62k9, x69_63k9, x69_64k9, x69_65k9, x69_66k9, A70k9, A71k9, A72k9, A73k9) = some r9) (hW : GW D cy (gA N q s.heap.size) N q m a s H) (hS : va_S (gA N q s.heap.size) s.heap H locs), W p l e ({ frames := kf + 12, cells := 0, slots := 0, locals := kl + 500 } : Room) s M args below meth c H locs 0 0 (MQ below (va_Qv (fun (u : (Nat → Value) × (Nat → vp_A)) => u.1 6904 = .long X0.1 ∧ u.1 6906 = .int X0.2.1 ∧ u.1 6909 = .int X0.2.2.1 ∧ u.1 6911 = .int X0.2.2.2.1 ∧ u.1 6919 = .long X0.2.2.2.2.1 ∧ u.1 6920 = .int X0.2.2.2.2.2.1 ∧ u.1 6921 = .int X0.2.2.2.2.2.2.1 ∧ u.1 6922 = .int X0.2.2.2.2.2.2.2.1 ∧ u.1 6958 = .int X0.2.2.2.2.2.2.2.2.1 ∧ u.1 6959 = .int X0.2.2.2.2.2.2.2.2.2.1 ∧ u.1 6960 = .int X0.2.2.2.2.2.2.2.2.2.2.1 ∧ u.1 6961 = .long X0.2.2.2.2.2.2.2.2.2.2.2.1 ∧ u.1 6962 = .int X0.2.2.2.2.2.2.2.2.2.2.2.2.1 ∧ u.1 6963 = .int X0.2.2.2.2.2.2.2.2.2.2.2.2.2.1 ∧ u.1 6964 = .int X0.2.2.2.2.2.2.2.2.2.2.2.2.2.2.1 ∧ u.1 6965 = .int X0.2.2.2.2.2.2.2.2.2.2.2.2.2.2.2.1 ∧ u.1 6966 = .int X0.2.2.2.2.2.2.2.2.2.2.2.2.2.2.2.2.1 ∧ (∀ j, nel j [6904, 6906, 6909, 6911, 6919, 6920, 6921, 6922, 6958, 6959, 6960, 6961, 6962, 6963, 6964, 6965, 6966] = false → u.1 j = m0 j) ∧ u.2 70 = (30, .inl X0.2.2.2.2.2.2.2.2.2.2.2.2.2.2.2.2.2.1) ∧ u.2 71 = (8, .inl X0.2.2.2.2.2.2.2.2.2.2.2.2.2.2.2.2.2.2.1) ∧ u.2 72 = (40, .inl X0.2.2.2.2.2.2.2.2.2.2.2.2.2.2.2.2.2.2.2.1) ∧ u.2 73 = (40, .inl X0.2.2.2.2.2.2.2.2.2.2.2.2.2.2.2.2.2.2.2.2) ∧ (∀ j, nel j [70, 71, 72, 73] = false → u.2 j = a0 j)) (gB D cy N q s.heap.size) (gA N q s.heap.size)) args s 0 0 (gA N q s.heap.size)) (F0 M 60 ls []) := by
      intro n
      induction n with
      | zero => intro v7k9 x69_4k9 x69_6k9 x69_9k9 x69_11k9 x69_19k9 x69_20k9 x69_21k9 x69_22k9 x69_58k9 x69_59k9 x69_60k9 x69_61k9 x69_62k9 x69_63k9 x69_64k9 x69_65k9 x69_66k9 A70k9 A71k9 A72k9 A73k9 m a H locs w_x69_4 w_x69_6 w_x69_9 w_x69_11 w_x69_19 w_x69_20 w_x69_21 w_x69_22 w_x69_58 w_x69_59 w_x69_60 w_x69_61 w_x69_62 w_x69_63 w_x69_64 w_x69_65 w_x69_66 hoff hsh w_A70 w_A71 w_A72 w_A73 hoffa ls hl hg9 hW hS; exact (gl_zero hg9).elim
      | succ n ih1 =>
        intro v7k9 x69_4k9 x69_6k9 x69_9k9 x69_11k9 x69_19k9 x69_20k9 x69_21k9 x69_22k9 x69_58k9 x69_59k9 x69_60k9 x69_61k9 x69_62k9 x69_63k9 x69_64k9 x69_65k9 x69_66k9 A70k9 A71k9 A72k9 A73k9 m a H locs w_x69_4 w_x69_6 w_x69_9 w_x69_11 w_x69_19 w_x69_20 w_x69_21 w_x69_22 w_x69_58 w_x69_59 w_x69_60 w_x69_61 w_x69_62 w_x69_63 w_x69_64 w_x69_65 w_x69_66 hoff hsh w_A70 w_A71 w_A72 w_A73 hoffa ls hl hg9 hW hS
        obtain ⟨X1, hs1, hXl1, hXr1⟩ := gl_succ hg9
        have hs1 : fX12_againTold_S60 rec F x69_0 x69_1 x69_2 x69_3 x69_57 A75 v1j8 v3j8 v4j8 v5j8 s0j8 v7k9 x69_4k9 x69_6k9 x69_9k9 x69_11k9 x69_19k9 x69_20k9 x69_21k9 x69_22k9 x69_58k9 x69_59k9 x69_60k9 x69_61k9 x69_62k9 x69_63k9 x69_64k9 x69_65k9 x69_66k9 A70k9 A71k9 A72k9 A73k9 = some X1 := hs1
        unfold fX12_againTold_S60 at hs1
        have hJ92_1 : ∀ (v7j30 : Int32) (s0j30 : Int32) (x69_4j30 : Int64) (x69_6j30 : Int32) (x69_9j30 : Int32) (x69_11j30 : Int32) (x69_19j30 : Int64) (x69_20j30 : Int32) (x69_21j30 : Int32) (x69_22j30 : Int32) (x69_58j30 : Int32) (x69_59j30 : Int32) (x69_60j30 : Int32) (x69_61j30 : Int64) (x69_62j30 : Int32) (x69_63j30 : Int32) (x69_64j30 : Int32) (x69_65j30 : Int32) (x69_66j30 : Int32) (A70j30 : Nat → Int32) (A71j30 : Nat → Int32) (A72j30 : Nat → Int32) (A73j30 : Nat → Int32) (m : Nat → Value) (a : Nat → vp_A) (H : Heap) (locs : List Loc) (w_x69_4 : m 6904 = .long x69_4j30) (w_x69_6 : m 6906 = .int x69_6j30) (w_x69_9 : m 6909 = .int x69_9j30) (w_x69_11 : m 6911 = .int x69_11j30) (w_x69_19 : m 6919 = .long x69_19j30) (w_x69_20 : m 6920 = .int x69_20j30) (w_x69_21 : m 6921 = .int x69_21j30) (w_x69_22 : m 6922 = .int x69_22j30) (w_x69_58 : m 6958 = .int x69_58j30) (w_x69_59 : m 6959 = .int x69_59j30) (w_x69_60 : m 6960 = .int x69_60j30) (w_x69_61 : m 6961 = .long x69_61j30) (w_x69_62 : m 6962 = .int x69_62j30) (w_x69_63 : m 6963 = .int x69_63j30) (w_x69_64 : m 6964 = .int x69_64j30) (w_x69_65 : m 6965 = .int x69_65j30) (w_x69_66 : m 6966 = .int x69_66j30) (hoff : ∀ j, nel j [6904, 6906, 6909, 6911, 6919, 6920, 6921, 6922, 6958, 6959, 6960, 6961, 6962, 6963, 6964, 6965, 6966] = false → m j = m0 j) (hsh : SH q m) (w_A70 : a 70 = (30, .inl A70j30)) (w_A71 : a 71 = (8, .inl A71j30)) (w_A72 : a 72 = (40, .inl A72j30)) (w_A73 : a 73 = (40, .inl A73j30)) (hoffa : ∀ j, nel j [70, 71, 72, 73] = false → a j = a0 j) (ls : Array Slot) (hl : lv_has ls 8 [(0, .ref (q 69)), (1, .int v1j8), (3, .int v3j8), (4, .int v4j8), (5, .int v5j8), (6, .int s0j8), (7, .int v7j30)]) (hs1 : fX12_againTold_J92 rec F x69_0 x69_1 x69_2 x69_3 x69_57 A75 v1j8 v3j8 v4j8 v5j8 s0j8 v7j30 s0j30 x69_4j30 x69_6j30 x69_9j30 x69_11j30 x69_19j30 x69_20j30 x69_21j30 x69_22j30 x69_58j30 x69_59j30 x69_60j30 x69_61j30 x69_62j30 x69_63j30 x69_64j30 x69_65j30 x69_66j30 A70j30 A71j30 A72j30 A73j30 = some X1) (hW : GW D cy (gA N q s.heap.size) N q m a s H) (hS : va_S (gA N q s.heap.size) s.heap H locs), W p l e ({ frames := kf + 12, cells := 0, slots := 0, locals := kl + 500 } : Room) s M args below meth c H locs 0 0 (MQ below (va_Qv (fun (u : (Nat → Value) × (Nat → vp_A)) => u.1 6904 = .long X0.1 ∧ u.1 6906 = .int X0.2.1 ∧ u.1 6909 = .int X0.2.2.1 ∧ u.1 6911 = .int X0.2.2.2.1 ∧ u.1 6919 = .long X0.2.2.2.2.1 ∧ u.1 6920 = .int X0.2.2.2.2.2.1 ∧ u.1 6921 = .int X0.2.2.2.2.2.2.1 ∧ u.1 6922 = .int X0.2.2.2.2.2.2.2.1 ∧ u.1 6958 = .int X0.2.2.2.2.2.2.2.2.1 ∧ u.1 6959 = .int X0.2.2.2.2.2.2.2.2.2.1 ∧ u.1 6960 = .int X0.2.2.2.2.2.2.2.2.2.2.1 ∧ u.1 6961 = .long X0.2.2.2.2.2.2.2.2.2.2.2.1 ∧ u.1 6962 = .int X0.2.2.2.2.2.2.2.2.2.2.2.2.1 ∧ u.1 6963 = .int X0.2.2.2.2.2.2.2.2.2.2.2.2.2.1 ∧ u.1 6964 = .int X0.2.2.2.2.2.2.2.2.2.2.2.2.2.2.1 ∧ u.1 6965 = .int X0.2.2.2.2.2.2.2.2.2.2.2.2.2.2.2.1 ∧ u.1 6966 = .int X0.2.2.2.2.2.2.2.2.2.2.2.2.2.2.2.2.1 ∧ (∀ j, nel j [6904, 6906, 6909, 6911, 6919, 6920, 6921, 6922, 6958, 6959, 6960, 6961, 6962, 6963, 6964, 6965, 6966] = false → u.1 j = m0 j) ∧ u.2 70 = (30, .inl X0.2.2.2.2.2.2.2.2.2.2.2.2.2.2.2.2.2.1) ∧ u.2 71 = (8, .inl X0.2.2.2.2.2.2.2.2.2.2.2.2.2.2.2.2.2.2.1) ∧ u.2 72 = (40, .inl X0.2.2.2.2.2.2.2.2.2.2.2.2.2.2.2.2.2.2.2.1) ∧ u.2 73 = (40, .inl X0.2.2.2.2.2.2.2.2.2.2.2.2.2.2.2.2.2.2.2.2) ∧ (∀ j, nel j [70, 71, 72, 73] = false → u.2 j = a0 j)) (gB D cy N q s.heap.size) (gA N q s.heap.size)) args s 0 0 (gA N q s.heap.size)) (F0 M 92 ls [.int s0j30, .ref (q 69)]) := by
          intro v7j30 s0j30 x69_4j30 x69_6j30 x69_9j30 x69_11j30 x69_19j30 x69_20j30 x69_21j30 x69_22j30 x69_58j30 x69_59j30 x69_60j30 x69_61j30 x69_62j30 x69_63j30 x69_64j30 x69_65j30 x69_66j30 A70j30 A71j30 A72j30 A73j30 m a H locs w_x69_4 w_x69_6 w_x69_9 w_x69_11 w_x69_19 w_x69_20 w_x69_21 w_x69_22 w_x69_58 w_x69_59 w_x69_60 w_x69_61 w_x69_62 w_x69_63 w_x69_64 w_x69_65 w_x69_66 hoff hsh w_A70 w_A71 w_A72 w_A73 hoffa ls hl hs1 hW hS
          unfold fX12_againTold_J92 at hs1
          obtain ⟨hz31, hs1⟩ := oif hs1
          refine gp12_64 hx hb hG hown hW hS (o := 69) (ltN hN 69 rfl) gk69 (v := s0j30) hz31 gx1311 dX12_againTold_92 (fun m32 H locs hm32 ho32 hW hS => ?_)
          have ho32 := off1 ho32
          have w_x69_4 : m32 6904 = .long x69_4j30 := (ho32 6904 rfl).trans w_x69_4
          have w_x69_6 : m32 6906 = .int x69_6j30 := (ho32 6906 rfl).trans w_x69_6
          have w_x69_9 : m32 6909 = .int x69_9j30 := (ho32 6909 rfl).trans w_x69_9
          have w_x69_11 : m32 6911 = .int x69_11j30 := (ho32 6911 rfl).trans w_x69_11
          have w_x69_19 : m32 6919 = .long x69_19j30 := (ho32 6919 rfl).trans w_x69_19
          have w_x69_20 : m32 6920 = .int x69_20j30 := (ho32 6920 rfl).trans w_x69_20
          have w_x69_21 : m32 6921 = .int x69_21j30 := (ho32 6921 rfl).trans w_x69_21
          have w_x69_22 : m32 6922 = .int x69_22j30 := (ho32 6922 rfl).trans w_x69_22
          have w_x69_58 : m32 6958 = .int x69_58j30 := (ho32 6958 rfl).trans w_x69_58
          have w_x69_59 : m32 6959 = .int x69_59j30 := (ho32 6959 rfl).trans w_x69_59
          have w_x69_60 : m32 6960 = .int x69_60j30 := (ho32 6960 rfl).trans w_x69_60
          have w_x69_61 : m32 6961 = .long x69_61j30 := (ho32 6961 rfl).trans w_x69_61
          have w_x69_62 : m32 6962 = .int x69_62j30 := (ho32 6962 rfl).trans w_x69_62
          have w_x69_63 : m32 6963 = .int x69_63j30 := (ho32 6963 rfl).trans w_x69_63
          have w_x69_64 : m32 6964 = .int s0j30 := hm32
          have w_x69_65 : m32 6965 = .int x69_65j30 := (ho32 6965 rfl).trans w_x69_65
          have w_x69_66 : m32 6966 = .int x69_66j30 := (ho32 6966 rfl).trans w_x69_66
          have hoff := offm hoff ho32 (by decide +kernel)
          have hsh := SH.off hsh ho32 (by decide +kernel)
          refine lv_aload_n hx hb dX12_againTold_95 rfl (lv_at hl 0 rfl) ?_
          refine lv_iload hx hb dX12_againTold_96 (lv_at hl 3 rfl) ?_
          refine gp12_59 hx hb hG hown hW hS (o := 69) (ltN hN 69 rfl) gk69 (v := v4j8) gx1313 dX12_againTold_98 (fun m33 H locs hm33 ho33 hW hS => ?_)
          have ho33 := off1 ho33
          have w_x69_4 : m33 6904 = .long x69_4j30 := (ho33 6904 rfl).trans w_x69_4
          have w_x69_6 : m33 6906 = .int x69_6j30 := (ho33 6906 rfl).trans w_x69_6
          have w_x69_9 : m33 6909 = .int x69_9j30 := (ho33 6909 rfl).trans w_x69_9
          have w_x69_11 : m33 6911 = .int x69_11j30 := (ho33 6911 rfl).trans w_x69_11
          have w_x69_19 : m33 6919 = .long x69_19j30 := (ho33 6919 rfl).trans w_x69_19
          have w_x69_20 : m33 6920 = .int x69_20j30 := (ho33 6920 rfl).trans w_x69_20
          have w_x69_21 : m33 6921 = .int x69_21j30 := (ho33 6921 rfl).trans w_x69_21
          have w_x69_22 : m33 6922 = .int x69_22j30 := (ho33 6922 rfl).trans w_x69_22
          have w_x69_58 : m33 6958 = .int x69_58j30 := (ho33 6958 rfl).trans w_x69_58
          have w_x69_59 : m33 6959 = .int v4j8 := hm33
          have w_x69_60 : m33 6960 = .int x69_60j30 := (ho33 6960 rfl).trans w_x69_60
          have w_x69_61 : m33 6961 = .long x69_61j30 := (ho33 6961 rfl).trans w_x69_61
          have w_x69_62 : m33 6962 = .int x69_62j30 := (ho33 6962 rfl).trans w_x69_62
          have w_x69_63 : m33 6963 = .int x69_63j30 := (ho33 6963 rfl).trans w_x69_63
          have w_x69_64 : m33 6964 = .int s0j30 := (ho33 6964 rfl).trans w_x69_64
          have w_x69_65 : m33 6965 = .int x69_65j30 := (ho33 6965 rfl).trans w_x69_65
          have w_x69_66 : m33 6966 = .int x69_66j30 := (ho33 6966 rfl).trans w_x69_66
          have hoff := offm hoff ho33 (by decide +kernel)
          have hsh := SH.off hsh ho33 (by decide +kernel)
          refine lv_aload_n hx hb dX12_againTold_101 rfl (lv_at hl 0 rfl) ?_
          obtain ⟨r34, hf34, hs1⟩ := obind hs1
          refine g_Vv (n := 0) hx hb hml hown hG hW hS [] (kX12_next hN hsh ((hoff 6957 rfl).trans h_x69_57) w_x69_63 ((hoffa 75 rfl).trans h_A75) w_x69_58 w_x69_59 w_x69_60 w_x69_61 w_x69_62 F hf34) (ltN hN 69 rfl) gk69 (by decide) rfl rfl (gd_V gx1315 gx1316 gx1317 gx5 gx1318) rfl rfl (by decide) ⟨(show 1 + 1 ≤ kf + 12 by omega), (show 8 + (3 + 11) + 21 ≤ kl + 500 by omega)⟩ rfl hl (Nat.le_of_ble_eq_true rfl) ⟨Nat.zero_le _, Nat.zero_le _⟩ dX12_againTold_102 (fun m34 a34 H locs hp34 hW hS => ?_)
          obtain ⟨hp34_x69_58, hp34_x69_59, hp34_x69_60, hp34_x69_61, hp34_x69_62, ho34, ha34⟩ := hp34
          rw [ha34] at hW
          have w_x69_4 : m34 6904 = .long x69_4j30 := (ho34 6904 rfl).trans w_x69_4
          have w_x69_6 : m34 6906 = .int x69_6j30 := (ho34 6906 rfl).trans w_x69_6
          have w_x69_9 : m34 6909 = .int x69_9j30 := (ho34 6909 rfl).trans w_x69_9
          have w_x69_11 : m34 6911 = .int x69_11j30 := (ho34 6911 rfl).trans w_x69_11
          have w_x69_19 : m34 6919 = .long x69_19j30 := (ho34 6919 rfl).trans w_x69_19
          have w_x69_20 : m34 6920 = .int x69_20j30 := (ho34 6920 rfl).trans w_x69_20
          have w_x69_21 : m34 6921 = .int x69_21j30 := (ho34 6921 rfl).trans w_x69_21
          have w_x69_22 : m34 6922 = .int x69_22j30 := (ho34 6922 rfl).trans w_x69_22
          have w_x69_58 : m34 6958 = .int r34.1 := hp34_x69_58
          have w_x69_59 : m34 6959 = .int r34.2.1 := hp34_x69_59
          have w_x69_60 : m34 6960 = .int r34.2.2.1 := hp34_x69_60
          have w_x69_61 : m34 6961 = .long r34.2.2.2.1 := hp34_x69_61
          have w_x69_62 : m34 6962 = .int r34.2.2.2.2 := hp34_x69_62
          have w_x69_63 : m34 6963 = .int x69_63j30 := (ho34 6963 rfl).trans w_x69_63
          have w_x69_64 : m34 6964 = .int s0j30 := (ho34 6964 rfl).trans w_x69_64
          have w_x69_65 : m34 6965 = .int x69_65j30 := (ho34 6965 rfl).trans w_x69_65
          have w_x69_66 : m34 6966 = .int x69_66j30 := (ho34 6966 rfl).trans w_x69_66
          have hoff := offm hoff ho34 (by decide +kernel)
          have hsh := SH.off hsh ho34 (by decide +kernel)
          refine lv_aload_n hx hb dX12_againTold_105 rfl (lv_at hl 0 rfl) ?_
          refine lv_bipush (v := 91) hx hb dX12_againTold_106 (by decide) ?_
          obtain ⟨r35, hf35, hs1⟩ := obind hs1
          refine g_Vv (n := 1) hx hb hml hown hG hW hS [.int 91] (kX12_must hN hsh ((hoff 6957 rfl).trans h_x69_57) ((hoffa 75 rfl).trans h_A75) w_x69_58 w_x69_59 w_x69_60 w_x69_61 w_x69_62 w_x69_63 F 91 hf35) (ltN hN 69 rfl) gk69 (by decide) rfl rfl (gd_V gx1340 gx1341 gx1342 gx5 gx1343) rfl rfl (by decide) ⟨(show 2 + 1 ≤ kf + 12 by omega), (show 8 + (2 + 11) + 43 ≤ kl + 500 by omega)⟩ rfl hl (Nat.le_of_ble_eq_true rfl) ⟨Nat.zero_le _, Nat.zero_le _⟩ dX12_againTold_108 (fun m35 a35 H locs hp35 hW hS => ?_)
          obtain ⟨hp35_x69_58, hp35_x69_59, hp35_x69_60, hp35_x69_61, hp35_x69_62, hp35_x69_63, ho35, ha35⟩ := hp35
          rw [ha35] at hW
          have w_x69_4 : m35 6904 = .long x69_4j30 := (ho35 6904 rfl).trans w_x69_4
          have w_x69_6 : m35 6906 = .int x69_6j30 := (ho35 6906 rfl).trans w_x69_6
          have w_x69_9 : m35 6909 = .int x69_9j30 := (ho35 6909 rfl).trans w_x69_9
          have w_x69_11 : m35 6911 = .int x69_11j30 := (ho35 6911 rfl).trans w_x69_11
          have w_x69_19 : m35 6919 = .long x69_19j30 := (ho35 6919 rfl).trans w_x69_19
          have w_x69_20 : m35 6920 = .int x69_20j30 := (ho35 6920 rfl).trans w_x69_20
          have w_x69_21 : m35 6921 = .int x69_21j30 := (ho35 6921 rfl).trans w_x69_21
          have w_x69_22 : m35 6922 = .int x69_22j30 := (ho35 6922 rfl).trans w_x69_22
          have w_x69_58 : m35 6958 = .int r35.1 := hp35_x69_58
          have w_x69_59 : m35 6959 = .int r35.2.1 := hp35_x69_59
          have w_x69_60 : m35 6960 = .int r35.2.2.1 := hp35_x69_60
          have w_x69_61 : m35 6961 = .long r35.2.2.2.1 := hp35_x69_61
          have w_x69_62 : m35 6962 = .int r35.2.2.2.2.1 := hp35_x69_62
          have w_x69_63 : m35 6963 = .int r35.2.2.2.2.2 := hp35_x69_63
          have w_x69_64 : m35 6964 = .int s0j30 := (ho35 6964 rfl).trans w_x69_64
          have w_x69_65 : m35 6965 = .int x69_65j30 := (ho35 6965 rfl).trans w_x69_65
          have w_x69_66 : m35 6966 = .int x69_66j30 := (ho35 6966 rfl).trans w_x69_66
          have hoff := offm hoff ho35 (by decide +kernel)
          have hsh := SH.off hsh ho35 (by decide +kernel)
          refine lv_aload_n hx hb dX12_againTold_111 rfl (lv_at hl 0 rfl) ?_
          refine lv_iload_n hx hb dX12_againTold_112 rfl (lv_at hl 1 rfl) ?_
          obtain ⟨r36, hf36, hs1⟩ := obind hs1
          refine g_Vve (n := 1) hx hb hml hown hG hW hS [.int v1j8] XS.ok hE (hrec hsh ((hoff 6900 rfl).trans h_x69_0) ((hoff 6901 rfl).trans h_x69_1) ((hoff 6902 rfl).trans h_x69_2) ((hoff 6903 rfl).trans h_x69_3) ((hoff 6957 rfl).trans h_x69_57) ((hoffa 75 rfl).trans h_A75) w_x69_4 w_x69_6 w_x69_9 w_x69_11 w_x69_19 w_x69_20 w_x69_21 w_x69_22 w_x69_58 w_x69_59 w_x69_60 w_x69_61 w_x69_62 w_x69_63 w_x69_64 w_x69_65 w_x69_66 w_A70 w_A71 w_A72 w_A73 v1j8 hf36) (ltN hN 69 rfl) gk69 (by decide) rfl rfl (gd_V gx1333 gx1334 gx1335 gx5 gx1336) rfl rfl (by decide) ⟨(show (kf + 0) + 1 ≤ kf + 12 by omega), (show 8 + (2 + 11) + (kl + 0) ≤ kl + 500 by omega)⟩ rfl hl (Nat.le_of_ble_eq_true rfl) ⟨Nat.zero_le _, Nat.zero_le _⟩ dX12_againTold_113 (fun m36 a36 H locs hp36 hW hS => ?_)
          obtain ⟨hp36_x69_4, hp36_x69_6, hp36_x69_9, hp36_x69_11, hp36_x69_19, hp36_x69_20, hp36_x69_21, hp36_x69_22, hp36_x69_58, hp36_x69_59, hp36_x69_60, hp36_x69_61, hp36_x69_62, hp36_x69_63, hp36_x69_64, hp36_x69_65, hp36_x69_66, ho36, hp36_A70, hp36_A71, hp36_A72, hp36_A73, hoa36⟩ := hp36
          have w_x69_4 : m36 6904 = .long r36.1 := hp36_x69_4
          have w_x69_6 : m36 6906 = .int r36.2.1 := hp36_x69_6
          have w_x69_9 : m36 6909 = .int r36.2.2.1 := hp36_x69_9
          have w_x69_11 : m36 6911 = .int r36.2.2.2.1 := hp36_x69_11
          have w_x69_19 : m36 6919 = .long r36.2.2.2.2.1 := hp36_x69_19
          have w_x69_20 : m36 6920 = .int r36.2.2.2.2.2.1 := hp36_x69_20
          have w_x69_21 : m36 6921 = .int r36.2.2.2.2.2.2.1 := hp36_x69_21
          have w_x69_22 : m36 6922 = .int r36.2.2.2.2.2.2.2.1 := hp36_x69_22
          have w_x69_58 : m36 6958 = .int r36.2.2.2.2.2.2.2.2.1 := hp36_x69_58
          have w_x69_59 : m36 6959 = .int r36.2.2.2.2.2.2.2.2.2.1 := hp36_x69_59
          have w_x69_60 : m36 6960 = .int r36.2.2.2.2.2.2.2.2.2.2.1 := hp36_x69_60
          have w_x69_61 : m36 6961 = .long r36.2.2.2.2.2.2.2.2.2.2.2.1 := hp36_x69_61
          have w_x69_62 : m36 6962 = .int r36.2.2.2.2.2.2.2.2.2.2.2.2.1 := hp36_x69_62
          have w_x69_63 : m36 6963 = .int r36.2.2.2.2.2.2.2.2.2.2.2.2.2.1 := hp36_x69_63
          have w_x69_64 : m36 6964 = .int r36.2.2.2.2.2.2.2.2.2.2.2.2.2.2.1 := hp36_x69_64
          have w_x69_65 : m36 6965 = .int r36.2.2.2.2.2.2.2.2.2.2.2.2.2.2.2.1 := hp36_x69_65
          have w_x69_66 : m36 6966 = .int r36.2.2.2.2.2.2.2.2.2.2.2.2.2.2.2.2.1 := hp36_x69_66
          have hoff := offm hoff ho36 (by decide +kernel)
          have hsh := SH.off hsh ho36 (by decide +kernel)
          have w_A70 : a36 70 = (30, .inl r36.2.2.2.2.2.2.2.2.2.2.2.2.2.2.2.2.2.1) := hp36_A70
          have w_A71 : a36 71 = (8, .inl r36.2.2.2.2.2.2.2.2.2.2.2.2.2.2.2.2.2.2.1) := hp36_A71
          have w_A72 : a36 72 = (40, .inl r36.2.2.2.2.2.2.2.2.2.2.2.2.2.2.2.2.2.2.2.1) := hp36_A72
          have w_A73 : a36 73 = (40, .inl r36.2.2.2.2.2.2.2.2.2.2.2.2.2.2.2.2.2.2.2.2) := hp36_A73
          have hoffa := offm hoffa hoa36 (by decide +kernel)
          refine lv_aload_n hx hb dX12_againTold_116 rfl (lv_at hl 0 rfl) ?_
          refine lv_bipush (v := 93) hx hb dX12_againTold_117 (by decide) ?_
          obtain ⟨r37, hf37, hs1⟩ := obind hs1
          refine g_Vv (n := 1) hx hb hml hown hG hW hS [.int 93] (kX12_must hN hsh ((hoff 6957 rfl).trans h_x69_57) ((hoffa 75 rfl).trans h_A75) w_x69_58 w_x69_59 w_x69_60 w_x69_61 w_x69_62 w_x69_63 F 93 hf37) (ltN hN 69 rfl) gk69 (by decide) rfl rfl (gd_V gx1340 gx1341 gx1342 gx5 gx1343) rfl rfl (by decide) ⟨(show 2 + 1 ≤ kf + 12 by omega), (show 8 + (2 + 11) + 43 ≤ kl + 500 by omega)⟩ rfl hl (Nat.le_of_ble_eq_true rfl) ⟨Nat.zero_le _, Nat.zero_le _⟩ dX12_againTold_119 (fun m37 a37 H locs hp37 hW hS => ?_)
          obtain ⟨hp37_x69_58, hp37_x69_59, hp37_x69_60, hp37_x69_61, hp37_x69_62, hp37_x69_63, ho37, ha37⟩ := hp37
          rw [ha37] at hW
          have w_x69_4 : m37 6904 = .long r36.1 := (ho37 6904 rfl).trans w_x69_4
          have w_x69_6 : m37 6906 = .int r36.2.1 := (ho37 6906 rfl).trans w_x69_6
          have w_x69_9 : m37 6909 = .int r36.2.2.1 := (ho37 6909 rfl).trans w_x69_9
          have w_x69_11 : m37 6911 = .int r36.2.2.2.1 := (ho37 6911 rfl).trans w_x69_11
          have w_x69_19 : m37 6919 = .long r36.2.2.2.2.1 := (ho37 6919 rfl).trans w_x69_19
          have w_x69_20 : m37 6920 = .int r36.2.2.2.2.2.1 := (ho37 6920 rfl).trans w_x69_20
          have w_x69_21 : m37 6921 = .int r36.2.2.2.2.2.2.1 := (ho37 6921 rfl).trans w_x69_21
          have w_x69_22 : m37 6922 = .int r36.2.2.2.2.2.2.2.1 := (ho37 6922 rfl).trans w_x69_22
          have w_x69_58 : m37 6958 = .int r37.1 := hp37_x69_58
          have w_x69_59 : m37 6959 = .int r37.2.1 := hp37_x69_59
          have w_x69_60 : m37 6960 = .int r37.2.2.1 := hp37_x69_60
          have w_x69_61 : m37 6961 = .long r37.2.2.2.1 := hp37_x69_61
          have w_x69_62 : m37 6962 = .int r37.2.2.2.2.1 := hp37_x69_62
          have w_x69_63 : m37 6963 = .int r37.2.2.2.2.2 := hp37_x69_63
          have w_x69_64 : m37 6964 = .int r36.2.2.2.2.2.2.2.2.2.2.2.2.2.2.1 := (ho37 6964 rfl).trans w_x69_64
          have w_x69_65 : m37 6965 = .int r36.2.2.2.2.2.2.2.2.2.2.2.2.2.2.2.1 := (ho37 6965 rfl).trans w_x69_65
          have w_x69_66 : m37 6966 = .int r36.2.2.2.2.2.2.2.2.2.2.2.2.2.2.2.2.1 := (ho37 6966 rfl).trans w_x69_66
          have hoff := offm hoff ho37 (by decide +kernel)
          have hsh := SH.off hsh ho37 (by decide +kernel)
          refine lv_aload_n hx hb dX12_againTold_122 rfl (lv_at hl 0 rfl) ?_
          refine gf12_66 hx hb hG hown hW (o := 69) (ltN hN 69 rfl) gk69 (v := .int r36.2.2.2.2.2.2.2.2.2.2.2.2.2.2.2.2.1) w_x69_66 gx1312 dX12_againTold_123 ?_
          refine lv_if_eq (tgt := 132) hx hb dX12_againTold_126 (by decide) (fun c38 => ?_) (fun c38 => ?_)
          · rw [if_pos c38] at hs1
            refine lv_iinc (v := v7j30 + 1) (lv' := [(7, .int (v7j30 + 1)), (0, .ref (q 69)), (1, .int v1j8), (3, .int v3j8), (4, .int v4j8), (5, .int v5j8), (6, .int s0j8)]) hx hb dX12_againTold_132 hl (k := 6) rfl rfl (by decide) rfl (fun ls hl => ?_)
            refine lv_goto (tgt := 60) hx hb dX12_againTold_135 (by decide) ?_
            exact ih1 (v7j30 + 1) r36.1 r36.2.1 r36.2.2.1 r36.2.2.2.1 r36.2.2.2.2.1 r36.2.2.2.2.2.1 r36.2.2.2.2.2.2.1 r36.2.2.2.2.2.2.2.1 r37.1 r37.2.1 r37.2.2.1 r37.2.2.2.1 r37.2.2.2.2.1 r37.2.2.2.2.2 r36.2.2.2.2.2.2.2.2.2.2.2.2.2.2.1 r36.2.2.2.2.2.2.2.2.2.2.2.2.2.2.2.1 r36.2.2.2.2.2.2.2.2.2.2.2.2.2.2.2.2.1 r36.2.2.2.2.2.2.2.2.2.2.2.2.2.2.2.2.2.1 r36.2.2.2.2.2.2.2.2.2.2.2.2.2.2.2.2.2.2.1 r36.2.2.2.2.2.2.2.2.2.2.2.2.2.2.2.2.2.2.2.1 r36.2.2.2.2.2.2.2.2.2.2.2.2.2.2.2.2.2.2.2.2 m37 a36 _ _ w_x69_4 w_x69_6 w_x69_9 w_x69_11 w_x69_19 w_x69_20 w_x69_21 w_x69_22 w_x69_58 w_x69_59 w_x69_60 w_x69_61 w_x69_62 w_x69_63 w_x69_64 w_x69_65 w_x69_66 hoff hsh w_A70 w_A71 w_A72 w_A73 hoffa ls (lv_sub hl [1, 2, 3, 4, 5, 6, 0] rfl) (hXr1 _ (Option.some.inj hs1).symm) hW hS
          · rw [if_neg c38] at hs1
            exact hE1_129 (r36.1, r36.2.1, r36.2.2.1, r36.2.2.2.1, r36.2.2.2.2.1, r36.2.2.2.2.2.1, r36.2.2.2.2.2.2.1, r36.2.2.2.2.2.2.2.1, r37.1, r37.2.1, r37.2.2.1, r37.2.2.2.1, r37.2.2.2.2.1, r37.2.2.2.2.2, r36.2.2.2.2.2.2.2.2.2.2.2.2.2.2.1, r36.2.2.2.2.2.2.2.2.2.2.2.2.2.2.2.1, r36.2.2.2.2.2.2.2.2.2.2.2.2.2.2.2.2.1, r36.2.2.2.2.2.2.2.2.2.2.2.2.2.2.2.2.2.1, r36.2.2.2.2.2.2.2.2.2.2.2.2.2.2.2.2.2.2.1, r36.2.2.2.2.2.2.2.2.2.2.2.2.2.2.2.2.2.2.2.1, r36.2.2.2.2.2.2.2.2.2.2.2.2.2.2.2.2.2.2.2.2) (hXl1 _ (Option.some.inj hs1).symm) m37 a36 _ _ w_x69_4 w_x69_6 w_x69_9 w_x69_11 w_x69_19 w_x69_20 w_x69_21 w_x69_22 w_x69_58 w_x69_59 w_x69_60 w_x69_61 w_x69_62 w_x69_63 w_x69_64 w_x69_65 w_x69_66 hoff hsh w_A70 w_A71 w_A72 w_A73 hoffa ls (lv_sub hl [0, 2] rfl) hW hS
        have hJ91_1 : ∀ (v7j28 : Int32) (x69_4j28 : Int64) (x69_6j28 : Int32) (x69_9j28 : Int32) (x69_11j28 : Int32) (x69_19j28 : Int64) (x69_20j28 : Int32) (x69_21j28 : Int32) (x69_22j28 : Int32) (x69_58j28 : Int32) (x69_59j28 : Int32) (x69_60j28 : Int32) (x69_61j28 : Int64) (x69_62j28 : Int32) (x69_63j28 : Int32) (x69_64j28 : Int32) (x69_65j28 : Int32) (x69_66j28 : Int32) (A70j28 : Nat → Int32) (A71j28 : Nat → Int32) (A72j28 : Nat → Int32) (A73j28 : Nat → Int32) (m : Nat → Value) (a : Nat → vp_A) (H : Heap) (locs : List Loc) (w_x69_4 : m 6904 = .long x69_4j28) (w_x69_6 : m 6906 = .int x69_6j28) (w_x69_9 : m 6909 = .int x69_9j28) (w_x69_11 : m 6911 = .int x69_11j28) (w_x69_19 : m 6919 = .long x69_19j28) (w_x69_20 : m 6920 = .int x69_20j28) (w_x69_21 : m 6921 = .int x69_21j28) (w_x69_22 : m 6922 = .int x69_22j28) (w_x69_58 : m 6958 = .int x69_58j28) (w_x69_59 : m 6959 = .int x69_59j28) (w_x69_60 : m 6960 = .int x69_60j28) (w_x69_61 : m 6961 = .long x69_61j28) (w_x69_62 : m 6962 = .int x69_62j28) (w_x69_63 : m 6963 = .int x69_63j28) (w_x69_64 : m 6964 = .int x69_64j28) (w_x69_65 : m 6965 = .int x69_65j28) (w_x69_66 : m 6966 = .int x69_66j28) (hoff : ∀ j, nel j [6904, 6906, 6909, 6911, 6919, 6920, 6921, 6922, 6958, 6959, 6960, 6961, 6962, 6963, 6964, 6965, 6966] = false → m j = m0 j) (hsh : SH q m) (w_A70 : a 70 = (30, .inl A70j28)) (w_A71 : a 71 = (8, .inl A71j28)) (w_A72 : a 72 = (40, .inl A72j28)) (w_A73 : a 73 = (40, .inl A73j28)) (hoffa : ∀ j, nel j [70, 71, 72, 73] = false → a j = a0 j) (ls : Array Slot) (hl : lv_has ls 8 [(0, .ref (q 69)), (1, .int v1j8), (3, .int v3j8), (4, .int v4j8), (5, .int v5j8), (6, .int s0j8), (7, .int v7j28)]) (hs1 : fX12_againTold_J91 rec F x69_0 x69_1 x69_2 x69_3 x69_57 A75 v1j8 v3j8 v4j8 v5j8 s0j8 v7j28 x69_4j28 x69_6j28 x69_9j28 x69_11j28 x69_19j28 x69_20j28 x69_21j28 x69_22j28 x69_58j28 x69_59j28 x69_60j28 x69_61j28 x69_62j28 x69_63j28 x69_64j28 x69_65j28 x69_66j28 A70j28 A71j28 A72j28 A73j28 = some X1) (hW : GW D cy (gA N q s.heap.size) N q m a s H) (hS : va_S (gA N q s.heap.size) s.heap H locs), W p l e ({ frames := kf + 12, cells := 0, slots := 0, locals := kl + 500 } : Room) s M args below meth c H locs 0 0 (MQ below (va_Qv (fun (u : (Nat → Value) × (Nat → vp_A)) => u.1 6904 = .long X0.1 ∧ u.1 6906 = .int X0.2.1 ∧ u.1 6909 = .int X0.2.2.1 ∧ u.1 6911 = .int X0.2.2.2.1 ∧ u.1 6919 = .long X0.2.2.2.2.1 ∧ u.1 6920 = .int X0.2.2.2.2.2.1 ∧ u.1 6921 = .int X0.2.2.2.2.2.2.1 ∧ u.1 6922 = .int X0.2.2.2.2.2.2.2.1 ∧ u.1 6958 = .int X0.2.2.2.2.2.2.2.2.1 ∧ u.1 6959 = .int X0.2.2.2.2.2.2.2.2.2.1 ∧ u.1 6960 = .int X0.2.2.2.2.2.2.2.2.2.2.1 ∧ u.1 6961 = .long X0.2.2.2.2.2.2.2.2.2.2.2.1 ∧ u.1 6962 = .int X0.2.2.2.2.2.2.2.2.2.2.2.2.1 ∧ u.1 6963 = .int X0.2.2.2.2.2.2.2.2.2.2.2.2.2.1 ∧ u.1 6964 = .int X0.2.2.2.2.2.2.2.2.2.2.2.2.2.2.1 ∧ u.1 6965 = .int X0.2.2.2.2.2.2.2.2.2.2.2.2.2.2.2.1 ∧ u.1 6966 = .int X0.2.2.2.2.2.2.2.2.2.2.2.2.2.2.2.2.1 ∧ (∀ j, nel j [6904, 6906, 6909, 6911, 6919, 6920, 6921, 6922, 6958, 6959, 6960, 6961, 6962, 6963, 6964, 6965, 6966] = false → u.1 j = m0 j) ∧ u.2 70 = (30, .inl X0.2.2.2.2.2.2.2.2.2.2.2.2.2.2.2.2.2.1) ∧ u.2 71 = (8, .inl X0.2.2.2.2.2.2.2.2.2.2.2.2.2.2.2.2.2.2.1) ∧ u.2 72 = (40, .inl X0.2.2.2.2.2.2.2.2.2.2.2.2.2.2.2.2.2.2.2.1) ∧ u.2 73 = (40, .inl X0.2.2.2.2.2.2.2.2.2.2.2.2.2.2.2.2.2.2.2.2) ∧ (∀ j, nel j [70, 71, 72, 73] = false → u.2 j = a0 j)) (gB D cy N q s.heap.size) (gA N q s.heap.size)) args s 0 0 (gA N q s.heap.size)) (F0 M 91 ls [.ref (q 69)]) := by
          intro v7j28 x69_4j28 x69_6j28 x69_9j28 x69_11j28 x69_19j28 x69_20j28 x69_21j28 x69_22j28 x69_58j28 x69_59j28 x69_60j28 x69_61j28 x69_62j28 x69_63j28 x69_64j28 x69_65j28 x69_66j28 A70j28 A71j28 A72j28 A73j28 m a H locs w_x69_4 w_x69_6 w_x69_9 w_x69_11 w_x69_19 w_x69_20 w_x69_21 w_x69_22 w_x69_58 w_x69_59 w_x69_60 w_x69_61 w_x69_62 w_x69_63 w_x69_64 w_x69_65 w_x69_66 hoff hsh w_A70 w_A71 w_A72 w_A73 hoffa ls hl hs1 hW hS
          unfold fX12_againTold_J91 at hs1
          refine lv_iconst (v := 0) hx hb dX12_againTold_91 (by decide) ?_
          exact hJ92_1 v7j28 0 x69_4j28 x69_6j28 x69_9j28 x69_11j28 x69_19j28 x69_20j28 x69_21j28 x69_22j28 x69_58j28 x69_59j28 x69_60j28 x69_61j28 x69_62j28 x69_63j28 x69_64j28 x69_65j28 x69_66j28 A70j28 A71j28 A72j28 A73j28 m a _ _ w_x69_4 w_x69_6 w_x69_9 w_x69_11 w_x69_19 w_x69_20 w_x69_21 w_x69_22 w_x69_58 w_x69_59 w_x69_60 w_x69_61 w_x69_62 w_x69_63 w_x69_64 w_x69_65 w_x69_66 hoff hsh w_A70 w_A71 w_A72 w_A73 hoffa ls (lv_sub hl [0, 1, 2, 3, 4, 5, 6] rfl) hs1 hW hS
        refine lv_iload hx hb dX12_againTold_60 (lv_at hl 6 rfl) ?_
        refine lv_iload hx hb dX12_againTold_62 (lv_at hl 5 rfl) ?_
        refine lv_icmp_ge (tgt := 138) hx hb dX12_againTold_64 (by decide) (fun c25 => ?_) (fun c25 => ?_)
        · rw [if_pos c25] at hs1
          exact hE1_138 (x69_4k9, x69_6k9, x69_9k9, x69_11k9, x69_19k9, x69_20k9, x69_21k9, x69_22k9, x69_58k9, x69_59k9, x69_60k9, x69_61k9, x69_62k9, x69_63k9, x69_64k9, x69_65k9, x69_66k9, A70k9, A71k9, A72k9, A73k9) (hXl1 _ (Option.some.inj hs1).symm) m a _ _ w_x69_4 w_x69_6 w_x69_9 w_x69_11 w_x69_19 w_x69_20 w_x69_21 w_x69_22 w_x69_58 w_x69_59 w_x69_60 w_x69_61 w_x69_62 w_x69_63 w_x69_64 w_x69_65 w_x69_66 hoff hsh w_A70 w_A71 w_A72 w_A73 hoffa ls (lv_sub hl [0, 2] rfl) hW hS
        · rw [if_neg c25] at hs1
          refine lv_aload_n hx hb dX12_againTold_67 rfl (lv_at hl 0 rfl) ?_
          refine gf12_63 hx hb hG hown hW (o := 69) (ltN hN 69 rfl) gk69 (v := .int x69_63k9) w_x69_63 gx1305 dX12_againTold_68 ?_
          refine lv_if_ne (tgt := 138) hx hb dX12_againTold_71 (by decide) (fun c26 => ?_) (fun c26 => ?_)
          · rw [if_neg c26] at hs1
            exact hE1_138 (x69_4k9, x69_6k9, x69_9k9, x69_11k9, x69_19k9, x69_20k9, x69_21k9, x69_22k9, x69_58k9, x69_59k9, x69_60k9, x69_61k9, x69_62k9, x69_63k9, x69_64k9, x69_65k9, x69_66k9, A70k9, A71k9, A72k9, A73k9) (hXl1 _ (Option.some.inj hs1).symm) m a _ _ w_x69_4 w_x69_6 w_x69_9 w_x69_11 w_x69_19 w_x69_20 w_x69_21 w_x69_22 w_x69_58 w_x69_59 w_x69_60 w_x69_61 w_x69_62 w_x69_63 w_x69_64 w_x69_65 w_x69_66 hoff hsh w_A70 w_A71 w_A72 w_A73 hoffa ls (lv_sub hl [0, 2] rfl) hW hS
          · rw [if_pos c26] at hs1
            refine lv_aload_n hx hb dX12_againTold_74 rfl (lv_at hl 0 rfl) ?_
            refine lv_iload hx hb dX12_againTold_75 (lv_at hl 4 rfl) ?_
            refine lv_if_eq (tgt := 91) hx hb dX12_againTold_77 (by decide) (fun c27 => ?_) (fun c27 => ?_)
            · rw [if_pos c27] at hs1
              exact hJ91_1 v7k9 x69_4k9 x69_6k9 x69_9k9 x69_11k9 x69_19k9 x69_20k9 x69_21k9 x69_22k9 x69_58k9 x69_59k9 x69_60k9 x69_61k9 x69_62k9 x69_63k9 x69_64k9 x69_65k9 x69_66k9 A70k9 A71k9 A72k9 A73k9 m a _ _ w_x69_4 w_x69_6 w_x69_9 w_x69_11 w_x69_19 w_x69_20 w_x69_21 w_x69_22 w_x69_58 w_x69_59 w_x69_60 w_x69_61 w_x69_62 w_x69_63 w_x69_64 w_x69_65 w_x69_66 hoff hsh w_A70 w_A71 w_A72 w_A73 hoffa ls (lv_sub hl [0, 1, 2, 3, 4, 5, 6] rfl) hs1 hW hS
            · rw [if_neg c27] at hs1
              refine lv_aload_n hx hb dX12_againTold_80 rfl (lv_at hl 0 rfl) ?_
              refine gf12_66 hx hb hG hown hW (o := 69) (ltN hN 69 rfl) gk69 (v := .int x69_66k9) w_x69_66 gx1312 dX12_againTold_81 ?_
              refine lv_if_ne (tgt := 91) hx hb dX12_againTold_84 (by decide) (fun c29 => ?_) (fun c29 => ?_)
              · rw [if_neg c29] at hs1
                exact hJ91_1 v7k9 x69_4k9 x69_6k9 x69_9k9 x69_11k9 x69_19k9 x69_20k9 x69_21k9 x69_22k9 x69_58k9 x69_59k9 x69_60k9 x69_61k9 x69_62k9 x69_63k9 x69_64k9 x69_65k9 x69_66k9 A70k9 A71k9 A72k9 A73k9 m a _ _ w_x69_4 w_x69_6 w_x69_9 w_x69_11 w_x69_19 w_x69_20 w_x69_21 w_x69_22 w_x69_58 w_x69_59 w_x69_60 w_x69_61 w_x69_62 w_x69_63 w_x69_64 w_x69_65 w_x69_66 hoff hsh w_A70 w_A71 w_A72 w_A73 hoffa ls (lv_sub hl [0, 1, 2, 3, 4, 5, 6] rfl) hs1 hW hS
              · rw [if_pos c29] at hs1
                refine lv_iconst (v := 1) hx hb dX12_againTold_87 (by decide) ?_
                refine lv_goto (tgt := 92) hx hb dX12_againTold_88 (by decide) ?_
                exact hJ92_1 v7k9 1 x69_4k9 x69_6k9 x69_9k9 x69_11k9 x69_19k9 x69_20k9 x69_21k9 x69_22k9 x69_58k9 x69_59k9 x69_60k9 x69_61k9 x69_62k9 x69_63k9 x69_64k9 x69_65k9 x69_66k9 A70k9 A71k9 A72k9 A73k9 m a _ _ w_x69_4 w_x69_6 w_x69_9 w_x69_11 w_x69_19 w_x69_20 w_x69_21 w_x69_22 w_x69_58 w_x69_59 w_x69_60 w_x69_61 w_x69_62 w_x69_63 w_x69_64 w_x69_65 w_x69_66 hoff hsh w_A70 w_A71 w_A72 w_A73 hoffa ls (lv_sub hl [0, 1, 2, 3, 4, 5, 6] rfl) hs1 hW hS
    exact hL1 F 0 x69_4j8 x69_6j8 x69_9j8 x69_11j8 x69_19j8 x69_20j8 x69_21j8 x69_22j8 x69_58j8 x69_59j8 x69_60j8 x69_61j8 x69_62j8 x69_63j8 x69_64j8 x69_65j8 x69_66j8 A70j8 A71j8 A72j8 A73j8 m a _ _ w_x69_4 w_x69_6 w_x69_9 w_x69_11 w_x69_19 w_x69_20 w_x69_21 w_x69_22 w_x69_58 w_x69_59 w_x69_60 w_x69_61 w_x69_62 w_x69_63 w_x69_64 w_x69_65 w_x69_66 hoff hsh w_A70 w_A71 w_A72 w_A73 hoffa ls (lv_sub hl [2, 3, 4, 5, 6, 1, 0] rfl) hg9 hW hS
  have hJ43_0 : ∀ (v1j6 : Int32) (v2j6 : Int32) (v3j6 : Int32) (v4j6 : Int32) (s0j6 : Int32) (x69_4j6 : Int64) (x69_6j6 : Int32) (x69_9j6 : Int32) (x69_11j6 : Int32) (x69_19j6 : Int64) (x69_20j6 : Int32) (x69_21j6 : Int32) (x69_22j6 : Int32) (x69_58j6 : Int32) (x69_59j6 : Int32) (x69_60j6 : Int32) (x69_61j6 : Int64) (x69_62j6 : Int32) (x69_63j6 : Int32) (x69_64j6 : Int32) (x69_65j6 : Int32) (x69_66j6 : Int32) (A70j6 : Nat → Int32) (A71j6 : Nat → Int32) (A72j6 : Nat → Int32) (A73j6 : Nat → Int32) (m : Nat → Value) (a : Nat → vp_A) (H : Heap) (locs : List Loc) (w_x69_4 : m 6904 = .long x69_4j6) (w_x69_6 : m 6906 = .int x69_6j6) (w_x69_9 : m 6909 = .int x69_9j6) (w_x69_11 : m 6911 = .int x69_11j6) (w_x69_19 : m 6919 = .long x69_19j6) (w_x69_20 : m 6920 = .int x69_20j6) (w_x69_21 : m 6921 = .int x69_21j6) (w_x69_22 : m 6922 = .int x69_22j6) (w_x69_58 : m 6958 = .int x69_58j6) (w_x69_59 : m 6959 = .int x69_59j6) (w_x69_60 : m 6960 = .int x69_60j6) (w_x69_61 : m 6961 = .long x69_61j6) (w_x69_62 : m 6962 = .int x69_62j6) (w_x69_63 : m 6963 = .int x69_63j6) (w_x69_64 : m 6964 = .int x69_64j6) (w_x69_65 : m 6965 = .int x69_65j6) (w_x69_66 : m 6966 = .int x69_66j6) (hoff : ∀ j, nel j [6904, 6906, 6909, 6911, 6919, 6920, 6921, 6922, 6958, 6959, 6960, 6961, 6962, 6963, 6964, 6965, 6966] = false → m j = m0 j) (hsh : SH q m) (w_A70 : a 70 = (30, .inl A70j6)) (w_A71 : a 71 = (8, .inl A71j6)) (w_A72 : a 72 = (40, .inl A72j6)) (w_A73 : a 73 = (40, .inl A73j6)) (hoffa : ∀ j, nel j [70, 71, 72, 73] = false → a j = a0 j) (ls : Array Slot) (hl : lv_has ls 8 [(0, .ref (q 69)), (1, .int v1j6), (2, .int v2j6), (3, .int v3j6), (4, .int v4j6)]) (hs0 : fX12_againTold_J43 rec F x69_0 x69_1 x69_2 x69_3 x69_57 A75 v1j6 v2j6 v3j6 v4j6 s0j6 x69_4j6 x69_6j6 x69_9j6 x69_11j6 x69_19j6 x69_20j6 x69_21j6 x69_22j6 x69_58j6 x69_59j6 x69_60j6 x69_61j6 x69_62j6 x69_63j6 x69_64j6 x69_65j6 x69_66j6 A70j6 A71j6 A72j6 A73j6 = some X0) (hW : GW D cy (gA N q s.heap.size) N q m a s H) (hS : va_S (gA N q s.heap.size) s.heap H locs), W p l e ({ frames := kf + 12, cells := 0, slots := 0, locals := kl + 500 } : Room) s M args below meth c H locs 0 0 (MQ below (va_Qv (fun (u : (Nat → Value) × (Nat → vp_A)) => u.1 6904 = .long X0.1 ∧ u.1 6906 = .int X0.2.1 ∧ u.1 6909 = .int X0.2.2.1 ∧ u.1 6911 = .int X0.2.2.2.1 ∧ u.1 6919 = .long X0.2.2.2.2.1 ∧ u.1 6920 = .int X0.2.2.2.2.2.1 ∧ u.1 6921 = .int X0.2.2.2.2.2.2.1 ∧ u.1 6922 = .int X0.2.2.2.2.2.2.2.1 ∧ u.1 6958 = .int X0.2.2.2.2.2.2.2.2.1 ∧ u.1 6959 = .int X0.2.2.2.2.2.2.2.2.2.1 ∧ u.1 6960 = .int X0.2.2.2.2.2.2.2.2.2.2.1 ∧ u.1 6961 = .long X0.2.2.2.2.2.2.2.2.2.2.2.1 ∧ u.1 6962 = .int X0.2.2.2.2.2.2.2.2.2.2.2.2.1 ∧ u.1 6963 = .int X0.2.2.2.2.2.2.2.2.2.2.2.2.2.1 ∧ u.1 6964 = .int X0.2.2.2.2.2.2.2.2.2.2.2.2.2.2.1 ∧ u.1 6965 = .int X0.2.2.2.2.2.2.2.2.2.2.2.2.2.2.2.1 ∧ u.1 6966 = .int X0.2.2.2.2.2.2.2.2.2.2.2.2.2.2.2.2.1 ∧ (∀ j, nel j [6904, 6906, 6909, 6911, 6919, 6920, 6921, 6922, 6958, 6959, 6960, 6961, 6962, 6963, 6964, 6965, 6966] = false → u.1 j = m0 j) ∧ u.2 70 = (30, .inl X0.2.2.2.2.2.2.2.2.2.2.2.2.2.2.2.2.2.1) ∧ u.2 71 = (8, .inl X0.2.2.2.2.2.2.2.2.2.2.2.2.2.2.2.2.2.2.1) ∧ u.2 72 = (40, .inl X0.2.2.2.2.2.2.2.2.2.2.2.2.2.2.2.2.2.2.2.1) ∧ u.2 73 = (40, .inl X0.2.2.2.2.2.2.2.2.2.2.2.2.2.2.2.2.2.2.2.2) ∧ (∀ j, nel j [70, 71, 72, 73] = false → u.2 j = a0 j)) (gB D cy N q s.heap.size) (gA N q s.heap.size)) args s 0 0 (gA N q s.heap.size)) (F0 M 43 ls [.int s0j6]) := by
    intro v1j6 v2j6 v3j6 v4j6 s0j6 x69_4j6 x69_6j6 x69_9j6 x69_11j6 x69_19j6 x69_20j6 x69_21j6 x69_22j6 x69_58j6 x69_59j6 x69_60j6 x69_61j6 x69_62j6 x69_63j6 x69_64j6 x69_65j6 x69_66j6 A70j6 A71j6 A72j6 A73j6 m a H locs w_x69_4 w_x69_6 w_x69_9 w_x69_11 w_x69_19 w_x69_20 w_x69_21 w_x69_22 w_x69_58 w_x69_59 w_x69_60 w_x69_61 w_x69_62 w_x69_63 w_x69_64 w_x69_65 w_x69_66 hoff hsh w_A70 w_A71 w_A72 w_A73 hoffa ls hl hs0 hW hS
    unfold fX12_againTold_J43 at hs0
    refine lv_istore (lv' := [(5, .int s0j6), (0, .ref (q 69)), (1, .int v1j6), (2, .int v2j6), (3, .int v3j6), (4, .int v4j6)]) hx hb dX12_againTold_43 hl (by decide) rfl (fun ls hl => ?_)
    refine lv_iload hx hb dX12_againTold_45 (lv_at hl 0 rfl) ?_
    refine lv_if_eq (tgt := 54) hx hb dX12_againTold_47 (by decide) (fun c7 => ?_) (fun c7 => ?_)
    · rw [if_pos c7] at hs0
      refine lv_iconst (v := 1) hx hb dX12_againTold_54 (by decide) ?_
      exact hJ55_0 v1j6 v3j6 v4j6 s0j6 1 x69_4j6 x69_6j6 x69_9j6 x69_11j6 x69_19j6 x69_20j6 x69_21j6 x69_22j6 x69_58j6 x69_59j6 x69_60j6 x69_61j6 x69_62j6 x69_63j6 x69_64j6 x69_65j6 x69_66j6 A70j6 A71j6 A72j6 A73j6 m a _ _ w_x69_4 w_x69_6 w_x69_9 w_x69_11 w_x69_19 w_x69_20 w_x69_21 w_x69_22 w_x69_58 w_x69_59 w_x69_60 w_x69_61 w_x69_62 w_x69_63 w_x69_64 w_x69_65 w_x69_66 hoff hsh w_A70 w_A71 w_A72 w_A73 hoffa ls (lv_sub hl [1, 2, 4, 5, 0] rfl) hs0 hW hS
    · rw [if_neg c7] at hs0
      refine lv_iload_n hx hb dX12_againTold_50 rfl (lv_at hl 3 rfl) ?_
      refine lv_goto (tgt := 55) hx hb dX12_againTold_51 (by decide) ?_
      exact hJ55_0 v1j6 v3j6 v4j6 s0j6 v2j6 x69_4j6 x69_6j6 x69_9j6 x69_11j6 x69_19j6 x69_20j6 x69_21j6 x69_22j6 x69_58j6 x69_59j6 x69_60j6 x69_61j6 x69_62j6 x69_63j6 x69_64j6 x69_65j6 x69_66j6 A70j6 A71j6 A72j6 A73j6 m a _ _ w_x69_4 w_x69_6 w_x69_9 w_x69_11 w_x69_19 w_x69_20 w_x69_21 w_x69_22 w_x69_58 w_x69_59 w_x69_60 w_x69_61 w_x69_62 w_x69_63 w_x69_64 w_x69_65 w_x69_66 hoff hsh w_A70 w_A71 w_A72 w_A73 hoffa ls (lv_sub hl [1, 2, 4, 5, 0] rfl) hs0 hW hS
  have hJ42_0 : ∀ (v1j4 : Int32) (v2j4 : Int32) (v3j4 : Int32) (v4j4 : Int32) (x69_4j4 : Int64) (x69_6j4 : Int32) (x69_9j4 : Int32) (x69_11j4 : Int32) (x69_19j4 : Int64) (x69_20j4 : Int32) (x69_21j4 : Int32) (x69_22j4 : Int32) (x69_58j4 : Int32) (x69_59j4 : Int32) (x69_60j4 : Int32) (x69_61j4 : Int64) (x69_62j4 : Int32) (x69_63j4 : Int32) (x69_64j4 : Int32) (x69_65j4 : Int32) (x69_66j4 : Int32) (A70j4 : Nat → Int32) (A71j4 : Nat → Int32) (A72j4 : Nat → Int32) (A73j4 : Nat → Int32) (m : Nat → Value) (a : Nat → vp_A) (H : Heap) (locs : List Loc) (w_x69_4 : m 6904 = .long x69_4j4) (w_x69_6 : m 6906 = .int x69_6j4) (w_x69_9 : m 6909 = .int x69_9j4) (w_x69_11 : m 6911 = .int x69_11j4) (w_x69_19 : m 6919 = .long x69_19j4) (w_x69_20 : m 6920 = .int x69_20j4) (w_x69_21 : m 6921 = .int x69_21j4) (w_x69_22 : m 6922 = .int x69_22j4) (w_x69_58 : m 6958 = .int x69_58j4) (w_x69_59 : m 6959 = .int x69_59j4) (w_x69_60 : m 6960 = .int x69_60j4) (w_x69_61 : m 6961 = .long x69_61j4) (w_x69_62 : m 6962 = .int x69_62j4) (w_x69_63 : m 6963 = .int x69_63j4) (w_x69_64 : m 6964 = .int x69_64j4) (w_x69_65 : m 6965 = .int x69_65j4) (w_x69_66 : m 6966 = .int x69_66j4) (hoff : ∀ j, nel j [6904, 6906, 6909, 6911, 6919, 6920, 6921, 6922, 6958, 6959, 6960, 6961, 6962, 6963, 6964, 6965, 6966] = false → m j = m0 j) (hsh : SH q m) (w_A70 : a 70 = (30, .inl A70j4)) (w_A71 : a 71 = (8, .inl A71j4)) (w_A72 : a 72 = (40, .inl A72j4)) (w_A73 : a 73 = (40, .inl A73j4)) (hoffa : ∀ j, nel j [70, 71, 72, 73] = false → a j = a0 j) (ls : Array Slot) (hl : lv_has ls 8 [(0, .ref (q 69)), (1, .int v1j4), (2, .int v2j4), (3, .int v3j4), (4, .int v4j4)]) (hs0 : fX12_againTold_J42 rec F x69_0 x69_1 x69_2 x69_3 x69_57 A75 v1j4 v2j4 v3j4 v4j4 x69_4j4 x69_6j4 x69_9j4 x69_11j4 x69_19j4 x69_20j4 x69_21j4 x69_22j4 x69_58j4 x69_59j4 x69_60j4 x69_61j4 x69_62j4 x69_63j4 x69_64j4 x69_65j4 x69_66j4 A70j4 A71j4 A72j4 A73j4 = some X0) (hW : GW D cy (gA N q s.heap.size) N q m a s H) (hS : va_S (gA N q s.heap.size) s.heap H locs), W p l e ({ frames := kf + 12, cells := 0, slots := 0, locals := kl + 500 } : Room) s M args below meth c H locs 0 0 (MQ below (va_Qv (fun (u : (Nat → Value) × (Nat → vp_A)) => u.1 6904 = .long X0.1 ∧ u.1 6906 = .int X0.2.1 ∧ u.1 6909 = .int X0.2.2.1 ∧ u.1 6911 = .int X0.2.2.2.1 ∧ u.1 6919 = .long X0.2.2.2.2.1 ∧ u.1 6920 = .int X0.2.2.2.2.2.1 ∧ u.1 6921 = .int X0.2.2.2.2.2.2.1 ∧ u.1 6922 = .int X0.2.2.2.2.2.2.2.1 ∧ u.1 6958 = .int X0.2.2.2.2.2.2.2.2.1 ∧ u.1 6959 = .int X0.2.2.2.2.2.2.2.2.2.1 ∧ u.1 6960 = .int X0.2.2.2.2.2.2.2.2.2.2.1 ∧ u.1 6961 = .long X0.2.2.2.2.2.2.2.2.2.2.2.1 ∧ u.1 6962 = .int X0.2.2.2.2.2.2.2.2.2.2.2.2.1 ∧ u.1 6963 = .int X0.2.2.2.2.2.2.2.2.2.2.2.2.2.1 ∧ u.1 6964 = .int X0.2.2.2.2.2.2.2.2.2.2.2.2.2.2.1 ∧ u.1 6965 = .int X0.2.2.2.2.2.2.2.2.2.2.2.2.2.2.2.1 ∧ u.1 6966 = .int X0.2.2.2.2.2.2.2.2.2.2.2.2.2.2.2.2.1 ∧ (∀ j, nel j [6904, 6906, 6909, 6911, 6919, 6920, 6921, 6922, 6958, 6959, 6960, 6961, 6962, 6963, 6964, 6965, 6966] = false → u.1 j = m0 j) ∧ u.2 70 = (30, .inl X0.2.2.2.2.2.2.2.2.2.2.2.2.2.2.2.2.2.1) ∧ u.2 71 = (8, .inl X0.2.2.2.2.2.2.2.2.2.2.2.2.2.2.2.2.2.2.1) ∧ u.2 72 = (40, .inl X0.2.2.2.2.2.2.2.2.2.2.2.2.2.2.2.2.2.2.2.1) ∧ u.2 73 = (40, .inl X0.2.2.2.2.2.2.2.2.2.2.2.2.2.2.2.2.2.2.2.2) ∧ (∀ j, nel j [70, 71, 72, 73] = false → u.2 j = a0 j)) (gB D cy N q s.heap.size) (gA N q s.heap.size)) args s 0 0 (gA N q s.heap.size)) (F0 M 42 ls []) := by
    intro v1j4 v2j4 v3j4 v4j4 x69_4j4 x69_6j4 x69_9j4 x69_11j4 x69_19j4 x69_20j4 x69_21j4 x69_22j4 x69_58j4 x69_59j4 x69_60j4 x69_61j4 x69_62j4 x69_63j4 x69_64j4 x69_65j4 x69_66j4 A70j4 A71j4 A72j4 A73j4 m a H locs w_x69_4 w_x69_6 w_x69_9 w_x69_11 w_x69_19 w_x69_20 w_x69_21 w_x69_22 w_x69_58 w_x69_59 w_x69_60 w_x69_61 w_x69_62 w_x69_63 w_x69_64 w_x69_65 w_x69_66 hoff hsh w_A70 w_A71 w_A72 w_A73 hoffa ls hl hs0 hW hS
    unfold fX12_againTold_J42 at hs0
    refine lv_iconst (v := 0) hx hb dX12_againTold_42 (by decide) ?_
    exact hJ43_0 v1j4 v2j4 v3j4 v4j4 0 x69_4j4 x69_6j4 x69_9j4 x69_11j4 x69_19j4 x69_20j4 x69_21j4 x69_22j4 x69_58j4 x69_59j4 x69_60j4 x69_61j4 x69_62j4 x69_63j4 x69_64j4 x69_65j4 x69_66j4 A70j4 A71j4 A72j4 A73j4 m a _ _ w_x69_4 w_x69_6 w_x69_9 w_x69_11 w_x69_19 w_x69_20 w_x69_21 w_x69_22 w_x69_58 w_x69_59 w_x69_60 w_x69_61 w_x69_62 w_x69_63 w_x69_64 w_x69_65 w_x69_66 hoff hsh w_A70 w_A71 w_A72 w_A73 hoffa ls (lv_sub hl [0, 1, 2, 3, 4] rfl) hs0 hW hS
  refine lv_aload_n hx hb dX12_againTold_0 rfl (lv_at hl 0 rfl) ?_
  refine lv_iconst (v := 0) hx hb dX12_againTold_1 (by decide) ?_
  refine lv_bipush (v := 30) hx hb dX12_againTold_2 (by decide) ?_
  obtain ⟨r1, hf1, hs0⟩ := obind hs0
  refine g_Vi (n := 2) hx hb hml hown hG hW hS [.int 0, .int 30] (kX12_numberTold hN hsh ((hoff 6957 rfl).trans h_x69_57) ((hoffa 75 rfl).trans h_A75) h_x69_58 h_x69_59 h_x69_60 h_x69_61 h_x69_62 h_x69_63 F 0 30 hf1) (ltN hN 69 rfl) gk69 (by decide) rfl rfl (gd_V gx1349 gx1350 gx1351 gx5 gx1352) rfl rfl (by decide) ⟨(show 2 + 1 ≤ kf + 12 by omega), (show 8 + (4 + 11) + 43 ≤ kl + 500 by omega)⟩ rfl hl (Nat.le_of_ble_eq_true rfl) ⟨Nat.zero_le _, Nat.zero_le _⟩ dX12_againTold_4 (fun x1 m1 a1 H locs hp1 hW hS => ?_)
  obtain ⟨hx1, hp1_x69_58, hp1_x69_59, hp1_x69_60, hp1_x69_61, hp1_x69_62, hp1_x69_63, ho1, ha1⟩ := hp1
  subst hx1
  rw [ha1] at hW
  have w_x69_4 : m1 6904 = .long x69_4 := (ho1 6904 rfl).trans h_x69_4
  have w_x69_6 : m1 6906 = .int x69_6 := (ho1 6906 rfl).trans h_x69_6
  have w_x69_9 : m1 6909 = .int x69_9 := (ho1 6909 rfl).trans h_x69_9
  have w_x69_11 : m1 6911 = .int x69_11 := (ho1 6911 rfl).trans h_x69_11
  have w_x69_19 : m1 6919 = .long x69_19 := (ho1 6919 rfl).trans h_x69_19
  have w_x69_20 : m1 6920 = .int x69_20 := (ho1 6920 rfl).trans h_x69_20
  have w_x69_21 : m1 6921 = .int x69_21 := (ho1 6921 rfl).trans h_x69_21
  have w_x69_22 : m1 6922 = .int x69_22 := (ho1 6922 rfl).trans h_x69_22
  have w_x69_58 : m1 6958 = .int r1.2.1 := hp1_x69_58
  have w_x69_59 : m1 6959 = .int r1.2.2.1 := hp1_x69_59
  have w_x69_60 : m1 6960 = .int r1.2.2.2.1 := hp1_x69_60
  have w_x69_61 : m1 6961 = .long r1.2.2.2.2.1 := hp1_x69_61
  have w_x69_62 : m1 6962 = .int r1.2.2.2.2.2.1 := hp1_x69_62
  have w_x69_63 : m1 6963 = .int r1.2.2.2.2.2.2 := hp1_x69_63
  have w_x69_64 : m1 6964 = .int x69_64 := (ho1 6964 rfl).trans h_x69_64
  have w_x69_65 : m1 6965 = .int x69_65 := (ho1 6965 rfl).trans h_x69_65
  have w_x69_66 : m1 6966 = .int x69_66 := (ho1 6966 rfl).trans h_x69_66
  have hoff := offm hoff ho1 (by decide +kernel)
  have hsh := SH.off hsh ho1 (by decide +kernel)
  refine lv_istore_n (lv' := [(2, .int r1.1), (0, .ref (q 69)), (1, .int p1)]) hx hb dX12_againTold_7 rfl hl (by decide) rfl (fun ls hl => ?_)
  refine lv_aload_n hx hb dX12_againTold_8 rfl (lv_at hl 1 rfl) ?_
  refine gf12_63 hx hb hG hown hW (o := 69) (ltN hN 69 rfl) gk69 (v := .int r1.2.2.2.2.2.2) w_x69_63 gx1305 dX12_againTold_9 ?_
  refine lv_if_le (tgt := 16) hx hb dX12_againTold_12 (by decide) (fun c2 => ?_) (fun c2 => ?_)
  · rw [if_pos c2] at hs0
    refine lv_aload_n hx hb dX12_againTold_16 rfl (lv_at hl 1 rfl) ?_
    refine gf12_64 hx hb hG hown hW (o := 69) (ltN hN 69 rfl) gk69 (v := .int x69_64) w_x69_64 gx1311 dX12_againTold_17 ?_
    refine lv_istore_n (lv' := [(3, .int x69_64), (2, .int r1.1), (0, .ref (q 69)), (1, .int p1)]) hx hb dX12_againTold_20 rfl hl (by decide) rfl (fun ls hl => ?_)
    refine lv_aload_n hx hb dX12_againTold_21 rfl (lv_at hl 2 rfl) ?_
    refine gf12_58 hx hb hG hown hW (o := 69) (ltN hN 69 rfl) gk69 (v := .int r1.2.1) w_x69_58 gx1319 dX12_againTold_22 ?_
    refine lv_istore (lv' := [(4, .int r1.2.1), (3, .int x69_64), (2, .int r1.1), (0, .ref (q 69)), (1, .int p1)]) hx hb dX12_againTold_25 hl (by decide) rfl (fun ls hl => ?_)
    refine lv_aload_n hx hb dX12_againTold_27 rfl (lv_at hl 3 rfl) ?_
    refine gf12_64 hx hb hG hown hW (o := 69) (ltN hN 69 rfl) gk69 (v := .int x69_64) w_x69_64 gx1311 dX12_againTold_28 ?_
    refine lv_if_eq (tgt := 42) hx hb dX12_againTold_31 (by decide) (fun c3 => ?_) (fun c3 => ?_)
    · rw [if_pos c3] at hs0
      exact hJ42_0 p1 r1.1 x69_64 r1.2.1 x69_4 x69_6 x69_9 x69_11 x69_19 x69_20 x69_21 x69_22 r1.2.1 r1.2.2.1 r1.2.2.2.1 r1.2.2.2.2.1 r1.2.2.2.2.2.1 r1.2.2.2.2.2.2 x69_64 x69_65 x69_66 A70 A71 A72 A73 m1 a0 _ _ w_x69_4 w_x69_6 w_x69_9 w_x69_11 w_x69_19 w_x69_20 w_x69_21 w_x69_22 w_x69_58 w_x69_59 w_x69_60 w_x69_61 w_x69_62 w_x69_63 w_x69_64 w_x69_65 w_x69_66 hoff hsh h_A70 h_A71 h_A72 h_A73 hoffa ls (lv_sub hl [3, 4, 2, 1, 0] rfl) hs0 hW hS
    · rw [if_neg c3] at hs0
      refine lv_iload_n hx hb dX12_againTold_34 rfl (lv_at hl 2 rfl) ?_
      refine lv_if_le (tgt := 42) hx hb dX12_againTold_35 (by decide) (fun c5 => ?_) (fun c5 => ?_)
      · rw [if_pos c5] at hs0
        exact hJ42_0 p1 r1.1 x69_64 r1.2.1 x69_4 x69_6 x69_9 x69_11 x69_19 x69_20 x69_21 x69_22 r1.2.1 r1.2.2.1 r1.2.2.2.1 r1.2.2.2.2.1 r1.2.2.2.2.2.1 r1.2.2.2.2.2.2 x69_64 x69_65 x69_66 A70 A71 A72 A73 m1 a0 _ _ w_x69_4 w_x69_6 w_x69_9 w_x69_11 w_x69_19 w_x69_20 w_x69_21 w_x69_22 w_x69_58 w_x69_59 w_x69_60 w_x69_61 w_x69_62 w_x69_63 w_x69_64 w_x69_65 w_x69_66 hoff hsh h_A70 h_A71 h_A72 h_A73 hoffa ls (lv_sub hl [3, 4, 2, 1, 0] rfl) hs0 hW hS
      · rw [if_neg c5] at hs0
        refine lv_iconst (v := 1) hx hb dX12_againTold_38 (by decide) ?_
        refine lv_goto (tgt := 43) hx hb dX12_againTold_39 (by decide) ?_
        exact hJ43_0 p1 r1.1 x69_64 r1.2.1 1 x69_4 x69_6 x69_9 x69_11 x69_19 x69_20 x69_21 x69_22 r1.2.1 r1.2.2.1 r1.2.2.2.1 r1.2.2.2.2.1 r1.2.2.2.2.2.1 r1.2.2.2.2.2.2 x69_64 x69_65 x69_66 A70 A71 A72 A73 m1 a0 _ _ w_x69_4 w_x69_6 w_x69_9 w_x69_11 w_x69_19 w_x69_20 w_x69_21 w_x69_22 w_x69_58 w_x69_59 w_x69_60 w_x69_61 w_x69_62 w_x69_63 w_x69_64 w_x69_65 w_x69_66 hoff hsh h_A70 h_A71 h_A72 h_A73 hoffa ls (lv_sub hl [3, 4, 2, 1, 0] rfl) hs0 hW hS
  · rw [if_neg c2] at hs0
    have hs0 := Option.some.inj hs0
    subst hs0
    exact W.vret hx hb hr (fun t ht hw => ⟨⟨(m1, a0), rfl, ⟨w_x69_4, w_x69_6, w_x69_9, w_x69_11, w_x69_19, w_x69_20, w_x69_21, w_x69_22, w_x69_58, w_x69_59, w_x69_60, w_x69_61, w_x69_62, w_x69_63, w_x69_64, w_x69_65, w_x69_66, hoff, h_A70, h_A71, h_A72, h_A73, hoffa⟩, g_end hW ht hw⟩, hS.F ht⟩) hS.2.2 dX12_againTold_15 hlocks
-- HealLinkModel.stepTold (I)V
def fX12_stepTold_J177 (rec : Int32 → Int32 → Int32 → Int32 → Int32 → (Nat → Int32) → Int64 → Int32 → Int32 → Int32 → Int64 → Int32 → Int32 → Int32 → Int32 → Int32 → Int32 → Int64 → Int32 → Int32 → Int32 → Int32 → Int32 → (Nat → Int32) → (Nat → Int32) → (Nat → Int32) → (Nat → Int32) → Int32 → Option (Int64 × Int32 × Int32 × Int32 × Int64 × Int32 × Int32 × Int32 × Int32 × Int32 × Int32 × Int64 × Int32 × Int32 × Int32 × Int32 × Int32 × (Nat → Int32) × (Nat → Int32) × (Nat → Int32) × (Nat → Int32))) (F : Nat) (x69_0 : Int32) (x69_1 : Int32) (x69_2 : Int32) (x69_3 : Int32) (x69_57 : Int32) (A75 : Nat → Int32) (v1j25 : Int32) (x69_4j25 : Int64) (x69_6j25 : Int32) (x69_9j25 : Int32) (x69_11j25 : Int32) (x69_19j25 : Int64) (x69_20j25 : Int32) (x69_21j25 : Int32) (x69_22j25 : Int32) (x69_58j25 : Int32) (x69_59j25 : Int32) (x69_60j25 : Int32) (x69_61j25 : Int64) (x69_62j25 : Int32) (x69_63j25 : Int32) (x69_64j25 : Int32) (x69_65j25 : Int32) (x69_66j25 : Int32) (A70j25 : Nat → Int32) (A71j25 : Nat → Int32) (A72j25 : Nat → Int32) (A73j25 : Nat → Int32) : Option (Int64 × Int32 × Int32 × Int32 × Int64 × Int32 × Int32 × Int32 × Int32 × Int32 × Int32 × Int64 × Int32 × Int32 × Int32 × Int32 × Int32 × (Nat → Int32) × (Nat → Int32) × (Nat → Int32) × (Nat → Int32)) := ((fX12_next F x69_57 x69_63j25 A75 x69_58j25 x69_59j25 x69_60j25 x69_61j25 x69_62j25).bind (fun r35 => ((fX12_againTold rec F x69_0 x69_1 x69_2 x69_3 x69_57 A75 x69_4j25 x69_6j25 x69_9j25 x69_11j25 x69_19j25 x69_20j25 x69_21j25 x69_22j25 r35.1 r35.2.1 r35.2.2.1 r35.2.2.2.1 r35.2.2.2.2 x69_63j25 x69_64j25 x69_65j25 x69_66j25 A70j25 A71j25 A72j25 A73j25 (v1j25 + 1)).bind (fun r36 => some (r36.1, r36.2.1, r36.2.2.1, r36.2.2.2.1, r36.2.2.2.2.1, r36.2.2.2.2.2.1, r36.2.2.2.2.2.2.1, r36.2.2.2.2.2.2.2.1, r36.2.2.2.2.2.2.2.2.1, r36.2.2.2.2.2.2.2.2.2.1, r36.2.2.2.2.2.2.2.2.2.2.1, r36.2.2.2.2.2.2.2.2.2.2.2.1, r36.2.2.2.2.2.2.2.2.2.2.2.2.1, r36.2.2.2.2.2.2.2.2.2.2.2.2.2.1, r36.2.2.2.2.2.2.2.2.2.2.2.2.2.2.1, r36.2.2.2.2.2.2.2.2.2.2.2.2.2.2.2.1, r36.2.2.2.2.2.2.2.2.2.2.2.2.2.2.2.2.1, r36.2.2.2.2.2.2.2.2.2.2.2.2.2.2.2.2.2.1, r36.2.2.2.2.2.2.2.2.2.2.2.2.2.2.2.2.2.2.1, r36.2.2.2.2.2.2.2.2.2.2.2.2.2.2.2.2.2.2.2.1, r36.2.2.2.2.2.2.2.2.2.2.2.2.2.2.2.2.2.2.2.2)))))
def fX12_stepTold_J130 (rec : Int32 → Int32 → Int32 → Int32 → Int32 → (Nat → Int32) → Int64 → Int32 → Int32 → Int32 → Int64 → Int32 → Int32 → Int32 → Int32 → Int32 → Int32 → Int64 → Int32 → Int32 → Int32 → Int32 → Int32 → (Nat → Int32) → (Nat → Int32) → (Nat → Int32) → (Nat → Int32) → Int32 → Option (Int64 × Int32 × Int32 × Int32 × Int64 × Int32 × Int32 × Int32 × Int32 × Int32 × Int32 × Int64 × Int32 × Int32 × Int32 × Int32 × Int32 × (Nat → Int32) × (Nat → Int32) × (Nat → Int32) × (Nat → Int32))) (F : Nat) (x69_0 : Int32) (x69_1 : Int32) (x69_2 : Int32) (x69_3 : Int32) (x69_57 : Int32) (A75 : Nat → Int32) (s0j34 : Int32) (x69_4j34 : Int64) (x69_6j34 : Int32) (x69_9j34 : Int32) (x69_11j34 : Int32) (x69_19j34 : Int64) (x69_20j34 : Int32) (x69_21j34 : Int32) (x69_22j34 : Int32) (x69_58j34 : Int32) (x69_59j34 : Int32) (x69_60j34 : Int32) (x69_61j34 : Int64) (x69_62j34 : Int32) (x69_63j34 : Int32) (x69_64j34 : Int32) (x69_65j34 : Int32) (x69_66j34 : Int32) (A70j34 : Nat → Int32) (A71j34 : Nat → Int32) (A72j34 : Nat → Int32) (A73j34 : Nat → Int32) : Option (Int64 × Int32 × Int32 × Int32 × Int64 × Int32 × Int32 × Int32 × Int32 × Int32 × Int32 × Int64 × Int32 × Int32 × Int32 × Int32 × Int32 × (Nat → Int32) × (Nat → Int32) × (Nat → Int32) × (Nat → Int32)) := ((fX12_next F x69_57 x69_63j34 A75 x69_58j34 x69_59j34 x69_60j34 x69_61j34 x69_62j34).bind (fun r41 => ((fX12_numberTold F x69_57 A75 r41.1 r41.2.1 r41.2.2.1 r41.2.2.2.1 r41.2.2.2.2 x69_63j34 0 (x69_1 - 1)).bind (fun r42 => ((fX12_acting F x69_0 x69_1 x69_2 x69_3 r42.2.2.2.2.2.2 x69_64j34 x69_4j34 x69_6j34 x69_9j34 x69_11j34 x69_19j34 x69_20j34 x69_21j34 x69_22j34 x69_65j34 x69_66j34 A70j34 A71j34 A72j34 A73j34 s0j34 r42.1 (-1)).bind (fun r43 => some (r43.1, r43.2.1, r43.2.2.1, r43.2.2.2.1, r43.2.2.2.2.1, r43.2.2.2.2.2.1, r43.2.2.2.2.2.2.1, r43.2.2.2.2.2.2.2.1, r42.2.1, r42.2.2.1, r42.2.2.2.1, r42.2.2.2.2.1, r42.2.2.2.2.2.1, r42.2.2.2.2.2.2, x69_64j34, r43.2.2.2.2.2.2.2.2.1, r43.2.2.2.2.2.2.2.2.2.1, r43.2.2.2.2.2.2.2.2.2.2.1, r43.2.2.2.2.2.2.2.2.2.2.2.1, r43.2.2.2.2.2.2.2.2.2.2.2.2.1, r43.2.2.2.2.2.2.2.2.2.2.2.2.2)))))))
def fX12_stepTold_J115 (rec : Int32 → Int32 → Int32 → Int32 → Int32 → (Nat → Int32) → Int64 → Int32 → Int32 → Int32 → Int64 → Int32 → Int32 → Int32 → Int32 → Int32 → Int32 → Int64 → Int32 → Int32 → Int32 → Int32 → Int32 → (Nat → Int32) → (Nat → Int32) → (Nat → Int32) → (Nat → Int32) → Int32 → Option (Int64 × Int32 × Int32 × Int32 × Int64 × Int32 × Int32 × Int32 × Int32 × Int32 × Int32 × Int64 × Int32 × Int32 × Int32 × Int32 × Int32 × (Nat → Int32) × (Nat → Int32) × (Nat → Int32) × (Nat → Int32))) (F : Nat) (x69_0 : Int32) (x69_1 : Int32) (x69_2 : Int32) (x69_3 : Int32) (x69_57 : Int32) (A75 : Nat → Int32) (x69_4j10 : Int64) (x69_6j10 : Int32) (x69_9j10 : Int32) (x69_11j10 : Int32) (x69_19j10 : Int64) (x69_20j10 : Int32) (x69_21j10 : Int32) (x69_22j10 : Int32) (x69_58j10 : Int32) (x69_59j10 : Int32) (x69_60j10 : Int32) (x69_61j10 : Int64) (x69_62j10 : Int32) (x69_63j10 : Int32) (x69_64j10 : Int32) (x69_65j10 : Int32) (x69_66j10 : Int32) (A70j10 : Nat → Int32) (A71j10 : Nat → Int32) (A72j10 : Nat → Int32) (A73j10 : Nat → Int32) : Option (Int64 × Int32 × Int32 × Int32 × Int64 × Int32 × Int32 × Int32 × Int32 × Int32 × Int32 × Int64 × Int32 × Int32 × Int32 × Int32 × Int32 × (Nat → Int32) × (Nat → Int32) × (Nat → Int32) × (Nat → Int32)) := ((fX12_isWord F (sLen 11) (sByt 11) x69_60j10 x69_61j10 x69_63j10).bind (fun r32 => (if r32 = 0 then fX12_stepTold_J130 rec F x69_0 x69_1 x69_2 x69_3 x69_57 A75 2 x69_4j10 x69_6j10 x69_9j10 x69_11j10 x69_19j10 x69_20j10 x69_21j10 x69_22j10 x69_58j10 x69_59j10 x69_60j10 x69_61j10 x69_62j10 x69_63j10 x69_64j10 x69_65j10 x69_66j10 A70j10 A71j10 A72j10 A73j10 else fX12_stepTold_J130 rec F x69_0 x69_1 x69_2 x69_3 x69_57 A75 4 x69_4j10 x69_6j10 x69_9j10 x69_11j10 x69_19j10 x69_20j10 x69_21j10 x69_22j10 x69_58j10 x69_59j10 x69_60j10 x69_61j10 x69_62j10 x69_63j10 x69_64j10 x69_65j10 x69_66j10 A70j10 A71j10 A72j10 A73j10)))
def fX12_stepTold_J59 (rec : Int32 → Int32 → Int32 → Int32 → Int32 → (Nat → Int32) → Int64 → Int32 → Int32 → Int32 → Int64 → Int32 → Int32 → Int32 → Int32 → Int32 → Int32 → Int64 → Int32 → Int32 → Int32 → Int32 → Int32 → (Nat → Int32) → (Nat → Int32) → (Nat → Int32) → (Nat → Int32) → Int32 → Option (Int64 × Int32 × Int32 × Int32 × Int64 × Int32 × Int32 × Int32 × Int32 × Int32 × Int32 × Int64 × Int32 × Int32 × Int32 × Int32 × Int32 × (Nat → Int32) × (Nat → Int32) × (Nat → Int32) × (Nat → Int32))) (F : Nat) (x69_0 : Int32) (x69_1 : Int32) (x69_2 : Int32) (x69_3 : Int32) (x69_57 : Int32) (A75 : Nat → Int32) (s0j31 : Int32) (x69_4j31 : Int64) (x69_6j31 : Int32) (x69_9j31 : Int32) (x69_11j31 : Int32) (x69_19j31 : Int64) (x69_20j31 : Int32) (x69_21j31 : Int32) (x69_22j31 : Int32) (x69_58j31 : Int32) (x69_59j31 : Int32) (x69_60j31 : Int32) (x69_61j31 : Int64) (x69_62j31 : Int32) (x69_63j31 : Int32) (x69_64j31 : Int32) (x69_65j31 : Int32) (x69_66j31 : Int32) (A70j31 : Nat → Int32) (A71j31 : Nat → Int32) (A72j31 : Nat → Int32) (A73j31 : Nat → Int32) : Option (Int64 × Int32 × Int32 × Int32 × Int64 × Int32 × Int32 × Int32 × Int32 × Int32 × Int32 × Int64 × Int32 × Int32 × Int32 × Int32 × Int32 × (Nat → Int32) × (Nat → Int32) × (Nat → Int32) × (Nat → Int32)) := ((fX12_next F x69_57 x69_63j31 A75 x69_58j31 x69_59j31 x69_60j31 x69_61j31 x69_62j31).bind (fun r37 => ((fX12_numberTold F x69_57 A75 r37.1 r37.2.1 r37.2.2.1 r37.2.2.2.1 r37.2.2.2.2 x69_63j31 0 (x69_1 - 1)).bind (fun r38 => ((fX12_numberTold F x69_57 A75 r38.2.1 r38.2.2.1 r38.2.2.2.1 r38.2.2.2.2.1 r38.2.2.2.2.2.1 r38.2.2.2.2.2.2 0 1).bind (fun r39 => ((fX12_acting F x69_0 x69_1 x69_2 x69_3 r39.2.2.2.2.2.2 x69_64j31 x69_4j31 x69_6j31 x69_9j31 x69_11j31 x69_19j31 x69_20j31 x69_21j31 x69_22j31 x69_65j31 x69_66j31 A70j31 A71j31 A72j31 A73j31 s0j31 r38.1 r39.1).bind (fun r40 => some (r40.1, r40.2.1, r40.2.2.1, r40.2.2.2.1, r40.2.2.2.2.1, r40.2.2.2.2.2.1, r40.2.2.2.2.2.2.1, r40.2.2.2.2.2.2.2.1, r39.2.1, r39.2.2.1, r39.2.2.2.1, r39.2.2.2.2.1, r39.2.2.2.2.2.1, r39.2.2.2.2.2.2, x69_64j31, r40.2.2.2.2.2.2.2.2.1, r40.2.2.2.2.2.2.2.2.2.1, r40.2.2.2.2.2.2.2.2.2.2.1, r40.2.2.2.2.2.2.2.2.2.2.2.1, r40.2.2.2.2.2.2.2.2.2.2.2.2.1, r40.2.2.2.2.2.2.2.2.2.2.2.2.2)))))))))
def fX12_stepTold_J44 (rec : Int32 → Int32 → Int32 → Int32 → Int32 → (Nat → Int32) → Int64 → Int32 → Int32 → Int32 → Int64 → Int32 → Int32 → Int32 → Int32 → Int32 → Int32 → Int64 → Int32 → Int32 → Int32 → Int32 → Int32 → (Nat → Int32) → (Nat → Int32) → (Nat → Int32) → (Nat → Int32) → Int32 → Option (Int64 × Int32 × Int32 × Int32 × Int64 × Int32 × Int32 × Int32 × Int32 × Int32 × Int32 × Int64 × Int32 × Int32 × Int32 × Int32 × Int32 × (Nat → Int32) × (Nat → Int32) × (Nat → Int32) × (Nat → Int32))) (F : Nat) (x69_0 : Int32) (x69_1 : Int32) (x69_2 : Int32) (x69_3 : Int32) (x69_57 : Int32) (A75 : Nat → Int32) (x69_4j5 : Int64) (x69_6j5 : Int32) (x69_9j5 : Int32) (x69_11j5 : Int32) (x69_19j5 : Int64) (x69_20j5 : Int32) (x69_21j5 : Int32) (x69_22j5 : Int32) (x69_58j5 : Int32) (x69_59j5 : Int32) (x69_60j5 : Int32) (x69_61j5 : Int64) (x69_62j5 : Int32) (x69_63j5 : Int32) (x69_64j5 : Int32) (x69_65j5 : Int32) (x69_66j5 : Int32) (A70j5 : Nat → Int32) (A71j5 : Nat → Int32) (A72j5 : Nat → Int32) (A73j5 : Nat → Int32) : Option (Int64 × Int32 × Int32 × Int32 × Int64 × Int32 × Int32 × Int32 × Int32 × Int32 × Int32 × Int64 × Int32 × Int32 × Int32 × Int32 × Int32 × (Nat → Int32) × (Nat → Int32) × (Nat → Int32) × (Nat → Int32)) := ((fX12_isWord F (sLen 9) (sByt 9) x69_60j5 x69_61j5 x69_63j5).bind (fun r29 => (if r29 = 0 then fX12_stepTold_J59 rec F x69_0 x69_1 x69_2 x69_3 x69_57 A75 1 x69_4j5 x69_6j5 x69_9j5 x69_11j5 x69_19j5 x69_20j5 x69_21j5 x69_22j5 x69_58j5 x69_59j5 x69_60j5 x69_61j5 x69_62j5 x69_63j5 x69_64j5 x69_65j5 x69_66j5 A70j5 A71j5 A72j5 A73j5 else fX12_stepTold_J59 rec F x69_0 x69_1 x69_2 x69_3 x69_57 A75 3 x69_4j5 x69_6j5 x69_9j5 x69_11j5 x69_19j5 x69_20j5 x69_21j5 x69_22j5 x69_58j5 x69_59j5 x69_60j5 x69_61j5 x69_62j5 x69_63j5 x69_64j5 x69_65j5 x69_66j5 A70j5 A71j5 A72j5 A73j5)))
def fX12_stepTold (rec : Int32 → Int32 → Int32 → Int32 → Int32 → (Nat → Int32) → Int64 → Int32 → Int32 → Int32 → Int64 → Int32 → Int32 → Int32 → Int32 → Int32 → Int32 → Int64 → Int32 → Int32 → Int32 → Int32 → Int32 → (Nat → Int32) → (Nat → Int32) → (Nat → Int32) → (Nat → Int32) → Int32 → Option (Int64 × Int32 × Int32 × Int32 × Int64 × Int32 × Int32 × Int32 × Int32 × Int32 × Int32 × Int64 × Int32 × Int32 × Int32 × Int32 × Int32 × (Nat → Int32) × (Nat → Int32) × (Nat → Int32) × (Nat → Int32))) (F : Nat) (x69_0 : Int32) (x69_1 : Int32) (x69_2 : Int32) (x69_3 : Int32) (x69_57 : Int32) (A75 : Nat → Int32) (x69_4 : Int64) (x69_6 : Int32) (x69_9 : Int32) (x69_11 : Int32) (x69_19 : Int64) (x69_20 : Int32) (x69_21 : Int32) (x69_22 : Int32) (x69_58 : Int32) (x69_59 : Int32) (x69_60 : Int32) (x69_61 : Int64) (x69_62 : Int32) (x69_63 : Int32) (x69_64 : Int32) (x69_65 : Int32) (x69_66 : Int32) (A70 : Nat → Int32) (A71 : Nat → Int32) (A72 : Nat → Int32) (A73 : Nat → Int32) (p1 : Int32) : Option (Int64 × Int32 × Int32 × Int32 × Int64 × Int32 × Int32 × Int32 × Int32 × Int32 × Int32 × Int64 × Int32 × Int32 × Int32 × Int32 × Int32 × (Nat → Int32) × (Nat → Int32) × (Nat → Int32) × (Nat → Int32)) := ((fX12_isWord F (sLen 7) (sByt 7) x69_60 x69_61 x69_63).bind (fun r1 => (if r1 = 0 then ((fX12_isWord F (sLen 8) (sByt 8) x69_60 x69_61 x69_63).bind (fun r3 => (if r3 = 0 then ((fX12_isWord F (sLen 9) (sByt 9) x69_60 x69_61 x69_63).bind (fun r6 => (if r6 = 0 then ((fX12_isWord F (sLen 10) (sByt 10) x69_60 x69_61 x69_63).bind (fun r8 => (if r8 = 0 then ((fX12_isWord F (sLen 11) (sByt 11) x69_60 x69_61 x69_63).bind (fun r11 => (if r11 = 0 then ((fX12_isWord F (sLen 12) (sByt 12) x69_60 x69_61 x69_63).bind (fun r13 => (if r13 = 0 then ((fX12_isWord F (sLen 13) (sByt 13) x69_60 x69_61 x69_63).bind (fun r15 => (if r15 = 0 then some (x69_4, x69_6, x69_9, x69_11, x69_19, x69_20, x69_21, x69_22, x69_58, x69_59, x69_60, x69_61, x69_62, (fX12_wrong x69_58 x69_63 1), x69_64, x69_65, x69_66, A70, A71, A72, A73) else ((fX12_next F x69_57 x69_63 A75 x69_58 x69_59 x69_60 x69_61 x69_62).bind (fun r18 => ((fX12_numberTold F x69_57 A75 r18.1 r18.2.1 r18.2.2.1 r18.2.2.2.1 r18.2.2.2.2 x69_63 1 9).bind (fun r19 => (if x69_64 = 0 then some (x69_4, x69_6, x69_9, x69_11, x69_19, x69_20, x69_21, x69_22, r19.2.1, r19.2.2.1, r19.2.2.2.1, r19.2.2.2.2.1, r19.2.2.2.2.2.1, r19.2.2.2.2.2.2, x69_64, x69_65, x69_66, A70, A71, A72, A73) else (if x69_66 = 0 then (if r19.2.2.2.2.2.2 = 0 then ((fX12_clears F x69_0 x69_1 x69_2 x69_3 r19.2.2.2.2.2.2 x69_64 x69_4 x69_6 x69_9 x69_11 x69_19 x69_20 x69_21 x69_22 x69_65 x69_66 A70 A71 A72 A73 r19.1).bind (fun r23 => some (r23.1, r23.2.1, r23.2.2.1, r23.2.2.2.1, r23.2.2.2.2.1, r23.2.2.2.2.2.1, r23.2.2.2.2.2.2.1, r23.2.2.2.2.2.2.2.1, r19.2.1, r19.2.2.1, r19.2.2.2.1, r19.2.2.2.2.1, r19.2.2.2.2.2.1, r19.2.2.2.2.2.2, x69_64, r23.2.2.2.2.2.2.2.2.1, r23.2.2.2.2.2.2.2.2.2.1, r23.2.2.2.2.2.2.2.2.2.2.1, r23.2.2.2.2.2.2.2.2.2.2.2.1, r23.2.2.2.2.2.2.2.2.2.2.2.2.1, r23.2.2.2.2.2.2.2.2.2.2.2.2.2))) else some (x69_4, x69_6, x69_9, x69_11, x69_19, x69_20, x69_21, x69_22, r19.2.1, r19.2.2.1, r19.2.2.2.1, r19.2.2.2.2.1, r19.2.2.2.2.2.1, r19.2.2.2.2.2.2, x69_64, x69_65, x69_66, A70, A71, A72, A73)) else some (x69_4, x69_6, x69_9, x69_11, x69_19, x69_20, x69_21, x69_22, r19.2.1, r19.2.2.1, r19.2.2.2.1, r19.2.2.2.2.1, r19.2.2.2.2.2.1, r19.2.2.2.2.2.2, x69_64, x69_65, x69_66, A70, A71, A72, A73)))))))))) else (if p1 = 4 then fX12_stepTold_J177 rec F x69_0 x69_1 x69_2 x69_3 x69_57 A75 p1 x69_4 x69_6 x69_9 x69_11 x69_19 x69_20 x69_21 x69_22 x69_58 x69_59 x69_60 x69_61 x69_62 (fX12_wrong x69_58 x69_63 3) x69_64 x69_65 x69_66 A70 A71 A72 A73 else fX12_stepTold_J177 rec F x69_0 x69_1 x69_2 x69_3 x69_57 A75 p1 x69_4 x69_6 x69_9 x69_11 x69_19 x69_20 x69_21 x69_22 x69_58 x69_59 x69_60 x69_61 x69_62 x69_63 x69_64 x69_65 x69_66 A70 A71 A72 A73)))) else fX12_stepTold_J115 rec F x69_0 x69_1 x69_2 x69_3 x69_57 A75 x69_4 x69_6 x69_9 x69_11 x69_19 x69_20 x69_21 x69_22 x69_58 x69_59 x69_60 x69_61 x69_62 x69_63 x69_64 x69_65 x69_66 A70 A71 A72 A73))) else fX12_stepTold_J115 rec F x69_0 x69_1 x69_2 x69_3 x69_57 A75 x69_4 x69_6 x69_9 x69_11 x69_19 x69_20 x69_21 x69_22 x69_58 x69_59 x69_60 x69_61 x69_62 x69_63 x69_64 x69_65 x69_66 A70 A71 A72 A73))) else fX12_stepTold_J44 rec F x69_0 x69_1 x69_2 x69_3 x69_57 A75 x69_4 x69_6 x69_9 x69_11 x69_19 x69_20 x69_21 x69_22 x69_58 x69_59 x69_60 x69_61 x69_62 x69_63 x69_64 x69_65 x69_66 A70 A71 A72 A73))) else fX12_stepTold_J44 rec F x69_0 x69_1 x69_2 x69_3 x69_57 A75 x69_4 x69_6 x69_9 x69_11 x69_19 x69_20 x69_21 x69_22 x69_58 x69_59 x69_60 x69_61 x69_62 x69_63 x69_64 x69_65 x69_66 A70 A71 A72 A73))) else ((fX12_next F x69_57 x69_63 A75 x69_58 x69_59 x69_60 x69_61 x69_62).bind (fun r27 => ((fX12_acting F x69_0 x69_1 x69_2 x69_3 x69_63 x69_64 x69_4 x69_6 x69_9 x69_11 x69_19 x69_20 x69_21 x69_22 x69_65 x69_66 A70 A71 A72 A73 0 (-1) (-1)).bind (fun r28 => some (r28.1, r28.2.1, r28.2.2.1, r28.2.2.2.1, r28.2.2.2.2.1, r28.2.2.2.2.2.1, r28.2.2.2.2.2.2.1, r28.2.2.2.2.2.2.2.1, r27.1, r27.2.1, r27.2.2.1, r27.2.2.2.1, r27.2.2.2.2, x69_63, x69_64, r28.2.2.2.2.2.2.2.2.1, r28.2.2.2.2.2.2.2.2.2.1, r28.2.2.2.2.2.2.2.2.2.2.1, r28.2.2.2.2.2.2.2.2.2.2.2.1, r28.2.2.2.2.2.2.2.2.2.2.2.2.1, r28.2.2.2.2.2.2.2.2.2.2.2.2.2))))))))
theorem dX12_stepTold_0 : decode cX12_stepTold 0 = .ok (.aload_n 0, 1) := by decide +kernel
theorem dX12_stepTold_1 : decode cX12_stepTold 1 = .ok (.ldc_w 417, 3) := by decide +kernel
theorem dX12_stepTold_4 : decode cX12_stepTold 4 = .ok (.invokevirtual 419, 3) := by decide +kernel
theorem dX12_stepTold_7 : decode cX12_stepTold 7 = .ok (.ifCond .eq 17, 3) := by decide +kernel
theorem dX12_stepTold_10 : decode cX12_stepTold 10 = .ok (.aload_n 0, 1) := by decide +kernel
theorem dX12_stepTold_11 : decode cX12_stepTold 11 = .ok (.invokevirtual 402, 3) := by decide +kernel
theorem dX12_stepTold_14 : decode cX12_stepTold 14 = .ok (.aload_n 0, 1) := by decide +kernel
theorem dX12_stepTold_15 : decode cX12_stepTold 15 = .ok (.iconst 0, 1) := by decide +kernel
theorem dX12_stepTold_16 : decode cX12_stepTold 16 = .ok (.iconst (-1), 1) := by decide +kernel
theorem dX12_stepTold_17 : decode cX12_stepTold 17 = .ok (.iconst (-1), 1) := by decide +kernel
theorem dX12_stepTold_18 : decode cX12_stepTold 18 = .ok (.invokevirtual 414, 3) := by decide +kernel
theorem dX12_stepTold_21 : decode cX12_stepTold 21 = .ok (.goto 226, 3) := by decide +kernel
theorem dX12_stepTold_24 : decode cX12_stepTold 24 = .ok (.aload_n 0, 1) := by decide +kernel
theorem dX12_stepTold_25 : decode cX12_stepTold 25 = .ok (.ldc_w 423, 3) := by decide +kernel
theorem dX12_stepTold_28 : decode cX12_stepTold 28 = .ok (.invokevirtual 419, 3) := by decide +kernel
theorem dX12_stepTold_31 : decode cX12_stepTold 31 = .ok (.ifCond .ne 13, 3) := by decide +kernel
theorem dX12_stepTold_34 : decode cX12_stepTold 34 = .ok (.aload_n 0, 1) := by decide +kernel
theorem dX12_stepTold_35 : decode cX12_stepTold 35 = .ok (.ldc_w 425, 3) := by decide +kernel
theorem dX12_stepTold_38 : decode cX12_stepTold 38 = .ok (.invokevirtual 419, 3) := by decide +kernel
theorem dX12_stepTold_41 : decode cX12_stepTold 41 = .ok (.ifCond .eq 54, 3) := by decide +kernel
theorem dX12_stepTold_44 : decode cX12_stepTold 44 = .ok (.aload_n 0, 1) := by decide +kernel
theorem dX12_stepTold_45 : decode cX12_stepTold 45 = .ok (.ldc_w 425, 3) := by decide +kernel
theorem dX12_stepTold_48 : decode cX12_stepTold 48 = .ok (.invokevirtual 419, 3) := by decide +kernel
theorem dX12_stepTold_51 : decode cX12_stepTold 51 = .ok (.ifCond .eq 7, 3) := by decide +kernel
theorem dX12_stepTold_54 : decode cX12_stepTold 54 = .ok (.iconst 3, 1) := by decide +kernel
theorem dX12_stepTold_55 : decode cX12_stepTold 55 = .ok (.goto 4, 3) := by decide +kernel
theorem dX12_stepTold_58 : decode cX12_stepTold 58 = .ok (.iconst 1, 1) := by decide +kernel
theorem dX12_stepTold_59 : decode cX12_stepTold 59 = .ok (.istore_n 2, 1) := by decide +kernel
theorem dX12_stepTold_60 : decode cX12_stepTold 60 = .ok (.aload_n 0, 1) := by decide +kernel
theorem dX12_stepTold_61 : decode cX12_stepTold 61 = .ok (.invokevirtual 402, 3) := by decide +kernel
theorem dX12_stepTold_64 : decode cX12_stepTold 64 = .ok (.aload_n 0, 1) := by decide +kernel
theorem dX12_stepTold_65 : decode cX12_stepTold 65 = .ok (.iconst 0, 1) := by decide +kernel
theorem dX12_stepTold_66 : decode cX12_stepTold 66 = .ok (.aload_n 0, 1) := by decide +kernel
theorem dX12_stepTold_67 : decode cX12_stepTold 67 = .ok (.getfield 13, 3) := by decide +kernel
theorem dX12_stepTold_70 : decode cX12_stepTold 70 = .ok (.iconst 1, 1) := by decide +kernel
theorem dX12_stepTold_71 : decode cX12_stepTold 71 = .ok (.isub, 1) := by decide +kernel
theorem dX12_stepTold_72 : decode cX12_stepTold 72 = .ok (.invokevirtual 427, 3) := by decide +kernel
theorem dX12_stepTold_75 : decode cX12_stepTold 75 = .ok (.istore_n 3, 1) := by decide +kernel
theorem dX12_stepTold_76 : decode cX12_stepTold 76 = .ok (.aload_n 0, 1) := by decide +kernel
theorem dX12_stepTold_77 : decode cX12_stepTold 77 = .ok (.iconst 0, 1) := by decide +kernel
theorem dX12_stepTold_78 : decode cX12_stepTold 78 = .ok (.iconst 1, 1) := by decide +kernel
theorem dX12_stepTold_79 : decode cX12_stepTold 79 = .ok (.invokevirtual 427, 3) := by decide +kernel
theorem dX12_stepTold_82 : decode cX12_stepTold 82 = .ok (.istore 4, 2) := by decide +kernel
theorem dX12_stepTold_84 : decode cX12_stepTold 84 = .ok (.aload_n 0, 1) := by decide +kernel
theorem dX12_stepTold_85 : decode cX12_stepTold 85 = .ok (.iload_n 2, 1) := by decide +kernel
theorem dX12_stepTold_86 : decode cX12_stepTold 86 = .ok (.iload_n 3, 1) := by decide +kernel
theorem dX12_stepTold_87 : decode cX12_stepTold 87 = .ok (.iload 4, 2) := by decide +kernel
theorem dX12_stepTold_89 : decode cX12_stepTold 89 = .ok (.invokevirtual 414, 3) := by decide +kernel
theorem dX12_stepTold_92 : decode cX12_stepTold 92 = .ok (.goto 155, 3) := by decide +kernel
theorem dX12_stepTold_95 : decode cX12_stepTold 95 = .ok (.aload_n 0, 1) := by decide +kernel
theorem dX12_stepTold_96 : decode cX12_stepTold 96 = .ok (.ldc_w 430, 3) := by decide +kernel
theorem dX12_stepTold_99 : decode cX12_stepTold 99 = .ok (.invokevirtual 419, 3) := by decide +kernel
theorem dX12_stepTold_102 : decode cX12_stepTold 102 = .ok (.ifCond .ne 13, 3) := by decide +kernel
theorem dX12_stepTold_105 : decode cX12_stepTold 105 = .ok (.aload_n 0, 1) := by decide +kernel
theorem dX12_stepTold_106 : decode cX12_stepTold 106 = .ok (.ldc_w 432, 3) := by decide +kernel
theorem dX12_stepTold_109 : decode cX12_stepTold 109 = .ok (.invokevirtual 419, 3) := by decide +kernel
theorem dX12_stepTold_112 : decode cX12_stepTold 112 = .ok (.ifCond .eq 45, 3) := by decide +kernel
theorem dX12_stepTold_115 : decode cX12_stepTold 115 = .ok (.aload_n 0, 1) := by decide +kernel
theorem dX12_stepTold_116 : decode cX12_stepTold 116 = .ok (.ldc_w 432, 3) := by decide +kernel
theorem dX12_stepTold_119 : decode cX12_stepTold 119 = .ok (.invokevirtual 419, 3) := by decide +kernel
theorem dX12_stepTold_122 : decode cX12_stepTold 122 = .ok (.ifCond .eq 7, 3) := by decide +kernel
theorem dX12_stepTold_125 : decode cX12_stepTold 125 = .ok (.iconst 4, 1) := by decide +kernel
theorem dX12_stepTold_126 : decode cX12_stepTold 126 = .ok (.goto 4, 3) := by decide +kernel
theorem dX12_stepTold_129 : decode cX12_stepTold 129 = .ok (.iconst 2, 1) := by decide +kernel
theorem dX12_stepTold_130 : decode cX12_stepTold 130 = .ok (.istore_n 2, 1) := by decide +kernel
theorem dX12_stepTold_131 : decode cX12_stepTold 131 = .ok (.aload_n 0, 1) := by decide +kernel
theorem dX12_stepTold_132 : decode cX12_stepTold 132 = .ok (.invokevirtual 402, 3) := by decide +kernel
theorem dX12_stepTold_135 : decode cX12_stepTold 135 = .ok (.aload_n 0, 1) := by decide +kernel
theorem dX12_stepTold_136 : decode cX12_stepTold 136 = .ok (.iconst 0, 1) := by decide +kernel
theorem dX12_stepTold_137 : decode cX12_stepTold 137 = .ok (.aload_n 0, 1) := by decide +kernel
theorem dX12_stepTold_138 : decode cX12_stepTold 138 = .ok (.getfield 13, 3) := by decide +kernel
theorem dX12_stepTold_141 : decode cX12_stepTold 141 = .ok (.iconst 1, 1) := by decide +kernel
theorem dX12_stepTold_142 : decode cX12_stepTold 142 = .ok (.isub, 1) := by decide +kernel
theorem dX12_stepTold_143 : decode cX12_stepTold 143 = .ok (.invokevirtual 427, 3) := by decide +kernel
theorem dX12_stepTold_146 : decode cX12_stepTold 146 = .ok (.istore_n 3, 1) := by decide +kernel
theorem dX12_stepTold_147 : decode cX12_stepTold 147 = .ok (.aload_n 0, 1) := by decide +kernel
theorem dX12_stepTold_148 : decode cX12_stepTold 148 = .ok (.iload_n 2, 1) := by decide +kernel
theorem dX12_stepTold_149 : decode cX12_stepTold 149 = .ok (.iload_n 3, 1) := by decide +kernel
theorem dX12_stepTold_150 : decode cX12_stepTold 150 = .ok (.iconst (-1), 1) := by decide +kernel
theorem dX12_stepTold_151 : decode cX12_stepTold 151 = .ok (.invokevirtual 414, 3) := by decide +kernel
theorem dX12_stepTold_154 : decode cX12_stepTold 154 = .ok (.goto 93, 3) := by decide +kernel
theorem dX12_stepTold_157 : decode cX12_stepTold 157 = .ok (.aload_n 0, 1) := by decide +kernel
theorem dX12_stepTold_158 : decode cX12_stepTold 158 = .ok (.ldc_w 434, 3) := by decide +kernel
theorem dX12_stepTold_161 : decode cX12_stepTold 161 = .ok (.invokevirtual 419, 3) := by decide +kernel
theorem dX12_stepTold_164 : decode cX12_stepTold 164 = .ok (.ifCond .eq 27, 3) := by decide +kernel
theorem dX12_stepTold_167 : decode cX12_stepTold 167 = .ok (.iload_n 1, 1) := by decide +kernel
theorem dX12_stepTold_168 : decode cX12_stepTold 168 = .ok (.iconst 4, 1) := by decide +kernel
theorem dX12_stepTold_169 : decode cX12_stepTold 169 = .ok (.if_icmp .ne 8, 3) := by decide +kernel
theorem dX12_stepTold_172 : decode cX12_stepTold 172 = .ok (.aload_n 0, 1) := by decide +kernel
theorem dX12_stepTold_173 : decode cX12_stepTold 173 = .ok (.iconst 3, 1) := by decide +kernel
theorem dX12_stepTold_174 : decode cX12_stepTold 174 = .ok (.invokevirtual 399, 3) := by decide +kernel
theorem dX12_stepTold_177 : decode cX12_stepTold 177 = .ok (.aload_n 0, 1) := by decide +kernel
theorem dX12_stepTold_178 : decode cX12_stepTold 178 = .ok (.invokevirtual 402, 3) := by decide +kernel
theorem dX12_stepTold_181 : decode cX12_stepTold 181 = .ok (.aload_n 0, 1) := by decide +kernel
theorem dX12_stepTold_182 : decode cX12_stepTold 182 = .ok (.iload_n 1, 1) := by decide +kernel
theorem dX12_stepTold_183 : decode cX12_stepTold 183 = .ok (.iconst 1, 1) := by decide +kernel
theorem dX12_stepTold_184 : decode cX12_stepTold 184 = .ok (.iadd, 1) := by decide +kernel
theorem dX12_stepTold_185 : decode cX12_stepTold 185 = .ok (.invokevirtual 436, 3) := by decide +kernel
theorem dX12_stepTold_188 : decode cX12_stepTold 188 = .ok (.goto 59, 3) := by decide +kernel
theorem dX12_stepTold_191 : decode cX12_stepTold 191 = .ok (.aload_n 0, 1) := by decide +kernel
theorem dX12_stepTold_192 : decode cX12_stepTold 192 = .ok (.ldc_w 439, 3) := by decide +kernel
theorem dX12_stepTold_195 : decode cX12_stepTold 195 = .ok (.invokevirtual 419, 3) := by decide +kernel
theorem dX12_stepTold_198 : decode cX12_stepTold 198 = .ok (.ifCond .eq 44, 3) := by decide +kernel
theorem dX12_stepTold_201 : decode cX12_stepTold 201 = .ok (.aload_n 0, 1) := by decide +kernel
theorem dX12_stepTold_202 : decode cX12_stepTold 202 = .ok (.invokevirtual 402, 3) := by decide +kernel
theorem dX12_stepTold_205 : decode cX12_stepTold 205 = .ok (.aload_n 0, 1) := by decide +kernel
theorem dX12_stepTold_206 : decode cX12_stepTold 206 = .ok (.iconst 1, 1) := by decide +kernel
theorem dX12_stepTold_207 : decode cX12_stepTold 207 = .ok (.bipush 9, 2) := by decide +kernel
theorem dX12_stepTold_209 : decode cX12_stepTold 209 = .ok (.invokevirtual 427, 3) := by decide +kernel
theorem dX12_stepTold_212 : decode cX12_stepTold 212 = .ok (.istore_n 2, 1) := by decide +kernel
theorem dX12_stepTold_213 : decode cX12_stepTold 213 = .ok (.aload_n 0, 1) := by decide +kernel
theorem dX12_stepTold_214 : decode cX12_stepTold 214 = .ok (.getfield 405, 3) := by decide +kernel
theorem dX12_stepTold_217 : decode cX12_stepTold 217 = .ok (.ifCond .eq 22, 3) := by decide +kernel
theorem dX12_stepTold_220 : decode cX12_stepTold 220 = .ok (.aload_n 0, 1) := by decide +kernel
theorem dX12_stepTold_221 : decode cX12_stepTold 221 = .ok (.getfield 408, 3) := by decide +kernel
theorem dX12_stepTold_224 : decode cX12_stepTold 224 = .ok (.ifCond .ne 15, 3) := by decide +kernel
theorem dX12_stepTold_227 : decode cX12_stepTold 227 = .ok (.aload_n 0, 1) := by decide +kernel
theorem dX12_stepTold_228 : decode cX12_stepTold 228 = .ok (.getfield 356, 3) := by decide +kernel
theorem dX12_stepTold_231 : decode cX12_stepTold 231 = .ok (.ifCond .ne 8, 3) := by decide +kernel
theorem dX12_stepTold_234 : decode cX12_stepTold 234 = .ok (.aload_n 0, 1) := by decide +kernel
theorem dX12_stepTold_235 : decode cX12_stepTold 235 = .ok (.iload_n 2, 1) := by decide +kernel
theorem dX12_stepTold_236 : decode cX12_stepTold 236 = .ok (.invokevirtual 441, 3) := by decide +kernel
theorem dX12_stepTold_239 : decode cX12_stepTold 239 = .ok (.goto 8, 3) := by decide +kernel
theorem dX12_stepTold_242 : decode cX12_stepTold 242 = .ok (.aload_n 0, 1) := by decide +kernel
theorem dX12_stepTold_243 : decode cX12_stepTold 243 = .ok (.iconst 1, 1) := by decide +kernel
theorem dX12_stepTold_244 : decode cX12_stepTold 244 = .ok (.invokevirtual 399, 3) := by decide +kernel
theorem dX12_stepTold_247 : decode cX12_stepTold 247 = .ok (.return_, 1) := by decide +kernel
set_option maxHeartbeats 4000000 in
set_option maxRecDepth 100000 in
theorem kX12_stepTold {l : Launch} {D : va_G} {cy : Nat → ClassId} {N : Nat} {q : Nat → Nat} {sa sv : Nat → Nat} {rec : Int32 → Int32 → Int32 → Int32 → Int32 → (Nat → Int32) → Int64 → Int32 → Int32 → Int32 → Int64 → Int32 → Int32 → Int32 → Int32 → Int32 → Int32 → Int64 → Int32 → Int32 → Int32 → Int32 → Int32 → (Nat → Int32) → (Nat → Int32) → (Nat → Int32) → (Nat → Int32) → Int32 → Option (Int64 × Int32 × Int32 × Int32 × Int64 × Int32 × Int32 × Int32 × Int32 × Int32 × Int32 × Int64 × Int32 × Int32 × Int32 × Int32 × Int32 × (Nat → Int32) × (Nat → Int32) × (Nat → Int32) × (Nat → Int32))} {kf kl : Nat} (hrec : ∀ {m0 : Nat → Value} {a0 : Nat → vp_A} {sz : Nat} (hsh : SH q m0) {x69_0 : Int32} (h_x69_0 : m0 6900 = .int x69_0) {x69_1 : Int32} (h_x69_1 : m0 6901 = .int x69_1) {x69_2 : Int32} (h_x69_2 : m0 6902 = .int x69_2) {x69_3 : Int32} (h_x69_3 : m0 6903 = .int x69_3) {x69_57 : Int32} (h_x69_57 : m0 6957 = .int x69_57) {A75 : Nat → Int32} (h_A75 : a0 75 = (264, .inl A75)) {x69_4 : Int64} (h_x69_4 : m0 6904 = .long x69_4) {x69_6 : Int32} (h_x69_6 : m0 6906 = .int x69_6) {x69_9 : Int32} (h_x69_9 : m0 6909 = .int x69_9) {x69_11 : Int32} (h_x69_11 : m0 6911 = .int x69_11) {x69_19 : Int64} (h_x69_19 : m0 6919 = .long x69_19) {x69_20 : Int32} (h_x69_20 : m0 6920 = .int x69_20) {x69_21 : Int32} (h_x69_21 : m0 6921 = .int x69_21) {x69_22 : Int32} (h_x69_22 : m0 6922 = .int x69_22) {x69_58 : Int32} (h_x69_58 : m0 6958 = .int x69_58) {x69_59 : Int32} (h_x69_59 : m0 6959 = .int x69_59) {x69_60 : Int32} (h_x69_60 : m0 6960 = .int x69_60) {x69_61 : Int64} (h_x69_61 : m0 6961 = .long x69_61) {x69_62 : Int32} (h_x69_62 : m0 6962 = .int x69_62) {x69_63 : Int32} (h_x69_63 : m0 6963 = .int x69_63) {x69_64 : Int32} (h_x69_64 : m0 6964 = .int x69_64) {x69_65 : Int32} (h_x69_65 : m0 6965 = .int x69_65) {x69_66 : Int32} (h_x69_66 : m0 6966 = .int x69_66) {A70 : Nat → Int32} (h_A70 : a0 70 = (30, .inl A70)) {A71 : Nat → Int32} (h_A71 : a0 71 = (8, .inl A71)) {A72 : Nat → Int32} (h_A72 : a0 72 = (40, .inl A72)) {A73 : Nat → Int32} (h_A73 : a0 73 = (40, .inl A73)) (p1 : Int32) {X0 : Int64 × Int32 × Int32 × Int32 × Int64 × Int32 × Int32 × Int32 × Int32 × Int32 × Int32 × Int64 × Int32 × Int32 × Int32 × Int32 × Int32 × (Nat → Int32) × (Nat → Int32) × (Nat → Int32) × (Nat → Int32)} (hs0 : rec x69_0 x69_1 x69_2 x69_3 x69_57 A75 x69_4 x69_6 x69_9 x69_11 x69_19 x69_20 x69_21 x69_22 x69_58 x69_59 x69_60 x69_61 x69_62 x69_63 x69_64 x69_65 x69_66 A70 A71 A72 A73 p1 = some X0), eMv l yX12_stepsTold cX12_stepsTold 2 none ({ frames := kf, cells := 0, slots := 0, locals := kl } : Room) D cy N q m0 a0 sz [.ref (q 69), .int p1] (XS sa sv) (fun m' a' => m' 6904 = .long X0.1 ∧ m' 6906 = .int X0.2.1 ∧ m' 6909 = .int X0.2.2.1 ∧ m' 6911 = .int X0.2.2.2.1 ∧ m' 6919 = .long X0.2.2.2.2.1 ∧ m' 6920 = .int X0.2.2.2.2.2.1 ∧ m' 6921 = .int X0.2.2.2.2.2.2.1 ∧ m' 6922 = .int X0.2.2.2.2.2.2.2.1 ∧ m' 6958 = .int X0.2.2.2.2.2.2.2.2.1 ∧ m' 6959 = .int X0.2.2.2.2.2.2.2.2.2.1 ∧ m' 6960 = .int X0.2.2.2.2.2.2.2.2.2.2.1 ∧ m' 6961 = .long X0.2.2.2.2.2.2.2.2.2.2.2.1 ∧ m' 6962 = .int X0.2.2.2.2.2.2.2.2.2.2.2.2.1 ∧ m' 6963 = .int X0.2.2.2.2.2.2.2.2.2.2.2.2.2.1 ∧ m' 6964 = .int X0.2.2.2.2.2.2.2.2.2.2.2.2.2.2.1 ∧ m' 6965 = .int X0.2.2.2.2.2.2.2.2.2.2.2.2.2.2.2.1 ∧ m' 6966 = .int X0.2.2.2.2.2.2.2.2.2.2.2.2.2.2.2.2.1 ∧ (∀ j, nel j [6904, 6906, 6909, 6911, 6919, 6920, 6921, 6922, 6958, 6959, 6960, 6961, 6962, 6963, 6964, 6965, 6966] = false → m' j = m0 j) ∧ a' 70 = (30, .inl X0.2.2.2.2.2.2.2.2.2.2.2.2.2.2.2.2.2.1) ∧ a' 71 = (8, .inl X0.2.2.2.2.2.2.2.2.2.2.2.2.2.2.2.2.2.2.1) ∧ a' 72 = (40, .inl X0.2.2.2.2.2.2.2.2.2.2.2.2.2.2.2.2.2.2.2.1) ∧ a' 73 = (40, .inl X0.2.2.2.2.2.2.2.2.2.2.2.2.2.2.2.2.2.2.2.2) ∧ (∀ j, nel j [70, 71, 72, 73] = false → a' j = a0 j)))  {m0 : Nat → Value} {a0 : Nat → vp_A} {sz : Nat} (hN : 105 ≤ N) (hsh : SH q m0) {x69_0 : Int32} (h_x69_0 : m0 6900 = .int x69_0) {x69_1 : Int32} (h_x69_1 : m0 6901 = .int x69_1) {x69_2 : Int32} (h_x69_2 : m0 6902 = .int x69_2) {x69_3 : Int32} (h_x69_3 : m0 6903 = .int x69_3) {x69_57 : Int32} (h_x69_57 : m0 6957 = .int x69_57) {A75 : Nat → Int32} (h_A75 : a0 75 = (264, .inl A75)) {x69_4 : Int64} (h_x69_4 : m0 6904 = .long x69_4) {x69_6 : Int32} (h_x69_6 : m0 6906 = .int x69_6) {x69_9 : Int32} (h_x69_9 : m0 6909 = .int x69_9) {x69_11 : Int32} (h_x69_11 : m0 6911 = .int x69_11) {x69_19 : Int64} (h_x69_19 : m0 6919 = .long x69_19) {x69_20 : Int32} (h_x69_20 : m0 6920 = .int x69_20) {x69_21 : Int32} (h_x69_21 : m0 6921 = .int x69_21) {x69_22 : Int32} (h_x69_22 : m0 6922 = .int x69_22) {x69_58 : Int32} (h_x69_58 : m0 6958 = .int x69_58) {x69_59 : Int32} (h_x69_59 : m0 6959 = .int x69_59) {x69_60 : Int32} (h_x69_60 : m0 6960 = .int x69_60) {x69_61 : Int64} (h_x69_61 : m0 6961 = .long x69_61) {x69_62 : Int32} (h_x69_62 : m0 6962 = .int x69_62) {x69_63 : Int32} (h_x69_63 : m0 6963 = .int x69_63) {x69_64 : Int32} (h_x69_64 : m0 6964 = .int x69_64) {x69_65 : Int32} (h_x69_65 : m0 6965 = .int x69_65) {x69_66 : Int32} (h_x69_66 : m0 6966 = .int x69_66) {A70 : Nat → Int32} (h_A70 : a0 70 = (30, .inl A70)) {A71 : Nat → Int32} (h_A71 : a0 71 = (8, .inl A71)) {A72 : Nat → Int32} (h_A72 : a0 72 = (40, .inl A72)) {A73 : Nat → Int32} (h_A73 : a0 73 = (40, .inl A73)) (F : Nat) (p1 : Int32) {X0 : Int64 × Int32 × Int32 × Int32 × Int64 × Int32 × Int32 × Int32 × Int32 × Int32 × Int32 × Int64 × Int32 × Int32 × Int32 × Int32 × Int32 × (Nat → Int32) × (Nat → Int32) × (Nat → Int32) × (Nat → Int32)} (hs0 : fX12_stepTold rec F x69_0 x69_1 x69_2 x69_3 x69_57 A75 x69_4 x69_6 x69_9 x69_11 x69_19 x69_20 x69_21 x69_22 x69_58 x69_59 x69_60 x69_61 x69_62 x69_63 x69_64 x69_65 x69_66 A70 A71 A72 A73 p1 = some X0) : eMv l yX12_stepTold cX12_stepTold 5 none ({ frames := kf + 24, cells := 0, slots := 0, locals := kl + 1000 } : Room) D cy N q m0 a0 sz [.ref (q 69), .int p1] (XS sa sv) (fun m' a' => m' 6904 = .long X0.1 ∧ m' 6906 = .int X0.2.1 ∧ m' 6909 = .int X0.2.2.1 ∧ m' 6911 = .int X0.2.2.2.1 ∧ m' 6919 = .long X0.2.2.2.2.1 ∧ m' 6920 = .int X0.2.2.2.2.2.1 ∧ m' 6921 = .int X0.2.2.2.2.2.2.1 ∧ m' 6922 = .int X0.2.2.2.2.2.2.2.1 ∧ m' 6958 = .int X0.2.2.2.2.2.2.2.2.1 ∧ m' 6959 = .int X0.2.2.2.2.2.2.2.2.2.1 ∧ m' 6960 = .int X0.2.2.2.2.2.2.2.2.2.2.1 ∧ m' 6961 = .long X0.2.2.2.2.2.2.2.2.2.2.2.1 ∧ m' 6962 = .int X0.2.2.2.2.2.2.2.2.2.2.2.2.1 ∧ m' 6963 = .int X0.2.2.2.2.2.2.2.2.2.2.2.2.2.1 ∧ m' 6964 = .int X0.2.2.2.2.2.2.2.2.2.2.2.2.2.2.1 ∧ m' 6965 = .int X0.2.2.2.2.2.2.2.2.2.2.2.2.2.2.2.1 ∧ m' 6966 = .int X0.2.2.2.2.2.2.2.2.2.2.2.2.2.2.2.2.1 ∧ (∀ j, nel j [6904, 6906, 6909, 6911, 6919, 6920, 6921, 6922, 6958, 6959, 6960, 6961, 6962, 6963, 6964, 6965, 6966] = false → m' j = m0 j) ∧ a' 70 = (30, .inl X0.2.2.2.2.2.2.2.2.2.2.2.2.2.2.2.2.2.1) ∧ a' 71 = (8, .inl X0.2.2.2.2.2.2.2.2.2.2.2.2.2.2.2.2.2.2.1) ∧ a' 72 = (40, .inl X0.2.2.2.2.2.2.2.2.2.2.2.2.2.2.2.2.2.2.2.1) ∧ a' 73 = (40, .inl X0.2.2.2.2.2.2.2.2.2.2.2.2.2.2.2.2.2.2.2.2) ∧ (∀ j, nel j [70, 71, 72, 73] = false → a' j = a0 j)) := by
  refine e_ofv (by decide) (Nat.le_of_ble_eq_true rfl) ?_
  intro p e s M args below meth c hx hb hr hG hown hin hlocks hml hW hS hE ls hl
  unfold fX12_stepTold at hs0
  have hoff : ∀ j, nel j [6904, 6906, 6909, 6911, 6919, 6920, 6921, 6922, 6958, 6959, 6960, 6961, 6962, 6963, 6964, 6965, 6966] = false → m0 j = m0 j := off0
  have hoffa : ∀ j, nel j [70, 71, 72, 73] = false → a0 j = a0 j := off0
  have hJ177_0 : ∀ (v1j25 : Int32) (x69_4j25 : Int64) (x69_6j25 : Int32) (x69_9j25 : Int32) (x69_11j25 : Int32) (x69_19j25 : Int64) (x69_20j25 : Int32) (x69_21j25 : Int32) (x69_22j25 : Int32) (x69_58j25 : Int32) (x69_59j25 : Int32) (x69_60j25 : Int32) (x69_61j25 : Int64) (x69_62j25 : Int32) (x69_63j25 : Int32) (x69_64j25 : Int32) (x69_65j25 : Int32) (x69_66j25 : Int32) (A70j25 : Nat → Int32) (A71j25 : Nat → Int32) (A72j25 : Nat → Int32) (A73j25 : Nat → Int32) (m : Nat → Value) (a : Nat → vp_A) (H : Heap) (locs : List Loc) (w_x69_4 : m 6904 = .long x69_4j25) (w_x69_6 : m 6906 = .int x69_6j25) (w_x69_9 : m 6909 = .int x69_9j25) (w_x69_11 : m 6911 = .int x69_11j25) (w_x69_19 : m 6919 = .long x69_19j25) (w_x69_20 : m 6920 = .int x69_20j25) (w_x69_21 : m 6921 = .int x69_21j25) (w_x69_22 : m 6922 = .int x69_22j25) (w_x69_58 : m 6958 = .int x69_58j25) (w_x69_59 : m 6959 = .int x69_59j25) (w_x69_60 : m 6960 = .int x69_60j25) (w_x69_61 : m 6961 = .long x69_61j25) (w_x69_62 : m 6962 = .int x69_62j25) (w_x69_63 : m 6963 = .int x69_63j25) (w_x69_64 : m 6964 = .int x69_64j25) (w_x69_65 : m 6965 = .int x69_65j25) (w_x69_66 : m 6966 = .int x69_66j25) (hoff : ∀ j, nel j [6904, 6906, 6909, 6911, 6919, 6920, 6921, 6922, 6958, 6959, 6960, 6961, 6962, 6963, 6964, 6965, 6966] = false → m j = m0 j) (hsh : SH q m) (w_A70 : a 70 = (30, .inl A70j25)) (w_A71 : a 71 = (8, .inl A71j25)) (w_A72 : a 72 = (40, .inl A72j25)) (w_A73 : a 73 = (40, .inl A73j25)) (hoffa : ∀ j, nel j [70, 71, 72, 73] = false → a j = a0 j) (ls : Array Slot) (hl : lv_has ls 5 [(0, .ref (q 69)), (1, .int v1j25)]) (hs0 : fX12_stepTold_J177 rec F x69_0 x69_1 x69_2 x69_3 x69_57 A75 v1j25 x69_4j25 x69_6j25 x69_9j25 x69_11j25 x69_19j25 x69_20j25 x69_21j25 x69_22j25 x69_58j25 x69_59j25 x69_60j25 x69_61j25 x69_62j25 x69_63j25 x69_64j25 x69_65j25 x69_66j25 A70j25 A71j25 A72j25 A73j25 = some X0) (hW : GW D cy (gA N q s.heap.size) N q m a s H) (hS : va_S (gA N q s.heap.size) s.heap H locs), W p l e ({ frames := kf + 24, cells := 0, slots := 0, locals := kl + 1000 } : Room) s M args below meth c H locs 0 0 (MQ below (va_Qv (fun (u : (Nat → Value) × (Nat → vp_A)) => u.1 6904 = .long X0.1 ∧ u.1 6906 = .int X0.2.1 ∧ u.1 6909 = .int X0.2.2.1 ∧ u.1 6911 = .int X0.2.2.2.1 ∧ u.1 6919 = .long X0.2.2.2.2.1 ∧ u.1 6920 = .int X0.2.2.2.2.2.1 ∧ u.1 6921 = .int X0.2.2.2.2.2.2.1 ∧ u.1 6922 = .int X0.2.2.2.2.2.2.2.1 ∧ u.1 6958 = .int X0.2.2.2.2.2.2.2.2.1 ∧ u.1 6959 = .int X0.2.2.2.2.2.2.2.2.2.1 ∧ u.1 6960 = .int X0.2.2.2.2.2.2.2.2.2.2.1 ∧ u.1 6961 = .long X0.2.2.2.2.2.2.2.2.2.2.2.1 ∧ u.1 6962 = .int X0.2.2.2.2.2.2.2.2.2.2.2.2.1 ∧ u.1 6963 = .int X0.2.2.2.2.2.2.2.2.2.2.2.2.2.1 ∧ u.1 6964 = .int X0.2.2.2.2.2.2.2.2.2.2.2.2.2.2.1 ∧ u.1 6965 = .int X0.2.2.2.2.2.2.2.2.2.2.2.2.2.2.2.1 ∧ u.1 6966 = .int X0.2.2.2.2.2.2.2.2.2.2.2.2.2.2.2.2.1 ∧ (∀ j, nel j [6904, 6906, 6909, 6911, 6919, 6920, 6921, 6922, 6958, 6959, 6960, 6961, 6962, 6963, 6964, 6965, 6966] = false → u.1 j = m0 j) ∧ u.2 70 = (30, .inl X0.2.2.2.2.2.2.2.2.2.2.2.2.2.2.2.2.2.1) ∧ u.2 71 = (8, .inl X0.2.2.2.2.2.2.2.2.2.2.2.2.2.2.2.2.2.2.1) ∧ u.2 72 = (40, .inl X0.2.2.2.2.2.2.2.2.2.2.2.2.2.2.2.2.2.2.2.1) ∧ u.2 73 = (40, .inl X0.2.2.2.2.2.2.2.2.2.2.2.2.2.2.2.2.2.2.2.2) ∧ (∀ j, nel j [70, 71, 72, 73] = false → u.2 j = a0 j)) (gB D cy N q s.heap.size) (gA N q s.heap.size)) args s 0 0 (gA N q s.heap.size)) (F0 M 177 ls []) := by
    intro v1j25 x69_4j25 x69_6j25 x69_9j25 x69_11j25 x69_19j25 x69_20j25 x69_21j25 x69_22j25 x69_58j25 x69_59j25 x69_60j25 x69_61j25 x69_62j25 x69_63j25 x69_64j25 x69_65j25 x69_66j25 A70j25 A71j25 A72j25 A73j25 m a H locs w_x69_4 w_x69_6 w_x69_9 w_x69_11 w_x69_19 w_x69_20 w_x69_21 w_x69_22 w_x69_58 w_x69_59 w_x69_60 w_x69_61 w_x69_62 w_x69_63 w_x69_64 w_x69_65 w_x69_66 hoff hsh w_A70 w_A71 w_A72 w_A73 hoffa ls hl hs0 hW hS
    unfold fX12_stepTold_J177 at hs0
    refine lv_aload_n hx hb dX12_stepTold_177 rfl (lv_at hl 0 rfl) ?_
    obtain ⟨r35, hf35, hs0⟩ := obind hs0
    refine g_Vv (n := 0) hx hb hml hown hG hW hS [] (kX12_next hN hsh ((hoff 6957 rfl).trans h_x69_57) w_x69_63 ((hoffa 75 rfl).trans h_A75) w_x69_58 w_x69_59 w_x69_60 w_x69_61 w_x69_62 F hf35) (ltN hN 69 rfl) gk69 (by decide) rfl rfl (gd_V gx1315 gx1316 gx1317 gx5 gx1318) rfl rfl (by decide) ⟨(show 1 + 1 ≤ kf + 24 by omega), (show 8 + (3 + 11) + 21 ≤ kl + 1000 by omega)⟩ rfl hl (Nat.le_of_ble_eq_true rfl) ⟨Nat.zero_le _, Nat.zero_le _⟩ dX12_stepTold_178 (fun m35 a35 H locs hp35 hW hS => ?_)
    obtain ⟨hp35_x69_58, hp35_x69_59, hp35_x69_60, hp35_x69_61, hp35_x69_62, ho35, ha35⟩ := hp35
    rw [ha35] at hW
    have w_x69_4 : m35 6904 = .long x69_4j25 := (ho35 6904 rfl).trans w_x69_4
    have w_x69_6 : m35 6906 = .int x69_6j25 := (ho35 6906 rfl).trans w_x69_6
    have w_x69_9 : m35 6909 = .int x69_9j25 := (ho35 6909 rfl).trans w_x69_9
    have w_x69_11 : m35 6911 = .int x69_11j25 := (ho35 6911 rfl).trans w_x69_11
    have w_x69_19 : m35 6919 = .long x69_19j25 := (ho35 6919 rfl).trans w_x69_19
    have w_x69_20 : m35 6920 = .int x69_20j25 := (ho35 6920 rfl).trans w_x69_20
    have w_x69_21 : m35 6921 = .int x69_21j25 := (ho35 6921 rfl).trans w_x69_21
    have w_x69_22 : m35 6922 = .int x69_22j25 := (ho35 6922 rfl).trans w_x69_22
    have w_x69_58 : m35 6958 = .int r35.1 := hp35_x69_58
    have w_x69_59 : m35 6959 = .int r35.2.1 := hp35_x69_59
    have w_x69_60 : m35 6960 = .int r35.2.2.1 := hp35_x69_60
    have w_x69_61 : m35 6961 = .long r35.2.2.2.1 := hp35_x69_61
    have w_x69_62 : m35 6962 = .int r35.2.2.2.2 := hp35_x69_62
    have w_x69_63 : m35 6963 = .int x69_63j25 := (ho35 6963 rfl).trans w_x69_63
    have w_x69_64 : m35 6964 = .int x69_64j25 := (ho35 6964 rfl).trans w_x69_64
    have w_x69_65 : m35 6965 = .int x69_65j25 := (ho35 6965 rfl).trans w_x69_65
    have w_x69_66 : m35 6966 = .int x69_66j25 := (ho35 6966 rfl).trans w_x69_66
    have hoff := offm hoff ho35 (by decide +kernel)
    have hsh := SH.off hsh ho35 (by decide +kernel)
    refine lv_aload_n hx hb dX12_stepTold_181 rfl (lv_at hl 0 rfl) ?_
    refine lv_iload_n hx hb dX12_stepTold_182 rfl (lv_at hl 1 rfl) ?_
    refine lv_iconst (v := 1) hx hb dX12_stepTold_183 (by decide) ?_
    refine lv_iadd hx hb dX12_stepTold_184 ?_
    obtain ⟨r36, hf36, hs0⟩ := obind hs0
    refine g_Vve (n := 1) hx hb hml hown hG hW hS [.int (v1j25 + 1)] XS.ok hE (kX12_againTold hrec hN hsh ((hoff 6900 rfl).trans h_x69_0) ((hoff 6901 rfl).trans h_x69_1) ((hoff 6902 rfl).trans h_x69_2) ((hoff 6903 rfl).trans h_x69_3) ((hoff 6957 rfl).trans h_x69_57) ((hoffa 75 rfl).trans h_A75) w_x69_4 w_x69_6 w_x69_9 w_x69_11 w_x69_19 w_x69_20 w_x69_21 w_x69_22 w_x69_58 w_x69_59 w_x69_60 w_x69_61 w_x69_62 w_x69_63 w_x69_64 w_x69_65 w_x69_66 w_A70 w_A71 w_A72 w_A73 F (v1j25 + 1) hf36) (ltN hN 69 rfl) gk69 (by decide) rfl rfl (gd_V gx1367 gx1368 gx1369 gx5 gx1348) rfl rfl (by decide) ⟨(show (kf + 12) + 1 ≤ kf + 24 by omega), (show 8 + (8 + 11) + (kl + 500) ≤ kl + 1000 by omega)⟩ rfl hl (Nat.le_of_ble_eq_true rfl) ⟨Nat.zero_le _, Nat.zero_le _⟩ dX12_stepTold_185 (fun m36 a36 H locs hp36 hW hS => ?_)
    obtain ⟨hp36_x69_4, hp36_x69_6, hp36_x69_9, hp36_x69_11, hp36_x69_19, hp36_x69_20, hp36_x69_21, hp36_x69_22, hp36_x69_58, hp36_x69_59, hp36_x69_60, hp36_x69_61, hp36_x69_62, hp36_x69_63, hp36_x69_64, hp36_x69_65, hp36_x69_66, ho36, hp36_A70, hp36_A71, hp36_A72, hp36_A73, hoa36⟩ := hp36
    have w_x69_4 : m36 6904 = .long r36.1 := hp36_x69_4
    have w_x69_6 : m36 6906 = .int r36.2.1 := hp36_x69_6
    have w_x69_9 : m36 6909 = .int r36.2.2.1 := hp36_x69_9
    have w_x69_11 : m36 6911 = .int r36.2.2.2.1 := hp36_x69_11
    have w_x69_19 : m36 6919 = .long r36.2.2.2.2.1 := hp36_x69_19
    have w_x69_20 : m36 6920 = .int r36.2.2.2.2.2.1 := hp36_x69_20
    have w_x69_21 : m36 6921 = .int r36.2.2.2.2.2.2.1 := hp36_x69_21
    have w_x69_22 : m36 6922 = .int r36.2.2.2.2.2.2.2.1 := hp36_x69_22
    have w_x69_58 : m36 6958 = .int r36.2.2.2.2.2.2.2.2.1 := hp36_x69_58
    have w_x69_59 : m36 6959 = .int r36.2.2.2.2.2.2.2.2.2.1 := hp36_x69_59
    have w_x69_60 : m36 6960 = .int r36.2.2.2.2.2.2.2.2.2.2.1 := hp36_x69_60
    have w_x69_61 : m36 6961 = .long r36.2.2.2.2.2.2.2.2.2.2.2.1 := hp36_x69_61
    have w_x69_62 : m36 6962 = .int r36.2.2.2.2.2.2.2.2.2.2.2.2.1 := hp36_x69_62
    have w_x69_63 : m36 6963 = .int r36.2.2.2.2.2.2.2.2.2.2.2.2.2.1 := hp36_x69_63
    have w_x69_64 : m36 6964 = .int r36.2.2.2.2.2.2.2.2.2.2.2.2.2.2.1 := hp36_x69_64
    have w_x69_65 : m36 6965 = .int r36.2.2.2.2.2.2.2.2.2.2.2.2.2.2.2.1 := hp36_x69_65
    have w_x69_66 : m36 6966 = .int r36.2.2.2.2.2.2.2.2.2.2.2.2.2.2.2.2.1 := hp36_x69_66
    have hoff := offm hoff ho36 (by decide +kernel)
    have hsh := SH.off hsh ho36 (by decide +kernel)
    have w_A70 : a36 70 = (30, .inl r36.2.2.2.2.2.2.2.2.2.2.2.2.2.2.2.2.2.1) := hp36_A70
    have w_A71 : a36 71 = (8, .inl r36.2.2.2.2.2.2.2.2.2.2.2.2.2.2.2.2.2.2.1) := hp36_A71
    have w_A72 : a36 72 = (40, .inl r36.2.2.2.2.2.2.2.2.2.2.2.2.2.2.2.2.2.2.2.1) := hp36_A72
    have w_A73 : a36 73 = (40, .inl r36.2.2.2.2.2.2.2.2.2.2.2.2.2.2.2.2.2.2.2.2) := hp36_A73
    have hoffa := offm hoffa hoa36 (by decide +kernel)
    refine lv_goto (tgt := 247) hx hb dX12_stepTold_188 (by decide) ?_
    have hs0 := Option.some.inj hs0
    subst hs0
    exact W.vret hx hb hr (fun t ht hw => ⟨⟨(m36, a36), rfl, ⟨w_x69_4, w_x69_6, w_x69_9, w_x69_11, w_x69_19, w_x69_20, w_x69_21, w_x69_22, w_x69_58, w_x69_59, w_x69_60, w_x69_61, w_x69_62, w_x69_63, w_x69_64, w_x69_65, w_x69_66, hoff, w_A70, w_A71, w_A72, w_A73, hoffa⟩, g_end hW ht hw⟩, hS.F ht⟩) hS.2.2 dX12_stepTold_247 hlocks
  have hJ130_0 : ∀ (s0j34 : Int32) (x69_4j34 : Int64) (x69_6j34 : Int32) (x69_9j34 : Int32) (x69_11j34 : Int32) (x69_19j34 : Int64) (x69_20j34 : Int32) (x69_21j34 : Int32) (x69_22j34 : Int32) (x69_58j34 : Int32) (x69_59j34 : Int32) (x69_60j34 : Int32) (x69_61j34 : Int64) (x69_62j34 : Int32) (x69_63j34 : Int32) (x69_64j34 : Int32) (x69_65j34 : Int32) (x69_66j34 : Int32) (A70j34 : Nat → Int32) (A71j34 : Nat → Int32) (A72j34 : Nat → Int32) (A73j34 : Nat → Int32) (m : Nat → Value) (a : Nat → vp_A) (H : Heap) (locs : List Loc) (w_x69_4 : m 6904 = .long x69_4j34) (w_x69_6 : m 6906 = .int x69_6j34) (w_x69_9 : m 6909 = .int x69_9j34) (w_x69_11 : m 6911 = .int x69_11j34) (w_x69_19 : m 6919 = .long x69_19j34) (w_x69_20 : m 6920 = .int x69_20j34) (w_x69_21 : m 6921 = .int x69_21j34) (w_x69_22 : m 6922 = .int x69_22j34) (w_x69_58 : m 6958 = .int x69_58j34) (w_x69_59 : m 6959 = .int x69_59j34) (w_x69_60 : m 6960 = .int x69_60j34) (w_x69_61 : m 6961 = .long x69_61j34) (w_x69_62 : m 6962 = .int x69_62j34) (w_x69_63 : m 6963 = .int x69_63j34) (w_x69_64 : m 6964 = .int x69_64j34) (w_x69_65 : m 6965 = .int x69_65j34) (w_x69_66 : m 6966 = .int x69_66j34) (hoff : ∀ j, nel j [6904, 6906, 6909, 6911, 6919, 6920, 6921, 6922, 6958, 6959, 6960, 6961, 6962, 6963, 6964, 6965, 6966] = false → m j = m0 j) (hsh : SH q m) (w_A70 : a 70 = (30, .inl A70j34)) (w_A71 : a 71 = (8, .inl A71j34)) (w_A72 : a 72 = (40, .inl A72j34)) (w_A73 : a 73 = (40, .inl A73j34)) (hoffa : ∀ j, nel j [70, 71, 72, 73] = false → a j = a0 j) (ls : Array Slot) (hl : lv_has ls 5 [(0, .ref (q 69))]) (hs0 : fX12_stepTold_J130 rec F x69_0 x69_1 x69_2 x69_3 x69_57 A75 s0j34 x69_4j34 x69_6j34 x69_9j34 x69_11j34 x69_19j34 x69_20j34 x69_21j34 x69_22j34 x69_58j34 x69_59j34 x69_60j34 x69_61j34 x69_62j34 x69_63j34 x69_64j34 x69_65j34 x69_66j34 A70j34 A71j34 A72j34 A73j34 = some X0) (hW : GW D cy (gA N q s.heap.size) N q m a s H) (hS : va_S (gA N q s.heap.size) s.heap H locs), W p l e ({ frames := kf + 24, cells := 0, slots := 0, locals := kl + 1000 } : Room) s M args below meth c H locs 0 0 (MQ below (va_Qv (fun (u : (Nat → Value) × (Nat → vp_A)) => u.1 6904 = .long X0.1 ∧ u.1 6906 = .int X0.2.1 ∧ u.1 6909 = .int X0.2.2.1 ∧ u.1 6911 = .int X0.2.2.2.1 ∧ u.1 6919 = .long X0.2.2.2.2.1 ∧ u.1 6920 = .int X0.2.2.2.2.2.1 ∧ u.1 6921 = .int X0.2.2.2.2.2.2.1 ∧ u.1 6922 = .int X0.2.2.2.2.2.2.2.1 ∧ u.1 6958 = .int X0.2.2.2.2.2.2.2.2.1 ∧ u.1 6959 = .int X0.2.2.2.2.2.2.2.2.2.1 ∧ u.1 6960 = .int X0.2.2.2.2.2.2.2.2.2.2.1 ∧ u.1 6961 = .long X0.2.2.2.2.2.2.2.2.2.2.2.1 ∧ u.1 6962 = .int X0.2.2.2.2.2.2.2.2.2.2.2.2.1 ∧ u.1 6963 = .int X0.2.2.2.2.2.2.2.2.2.2.2.2.2.1 ∧ u.1 6964 = .int X0.2.2.2.2.2.2.2.2.2.2.2.2.2.2.1 ∧ u.1 6965 = .int X0.2.2.2.2.2.2.2.2.2.2.2.2.2.2.2.1 ∧ u.1 6966 = .int X0.2.2.2.2.2.2.2.2.2.2.2.2.2.2.2.2.1 ∧ (∀ j, nel j [6904, 6906, 6909, 6911, 6919, 6920, 6921, 6922, 6958, 6959, 6960, 6961, 6962, 6963, 6964, 6965, 6966] = false → u.1 j = m0 j) ∧ u.2 70 = (30, .inl X0.2.2.2.2.2.2.2.2.2.2.2.2.2.2.2.2.2.1) ∧ u.2 71 = (8, .inl X0.2.2.2.2.2.2.2.2.2.2.2.2.2.2.2.2.2.2.1) ∧ u.2 72 = (40, .inl X0.2.2.2.2.2.2.2.2.2.2.2.2.2.2.2.2.2.2.2.1) ∧ u.2 73 = (40, .inl X0.2.2.2.2.2.2.2.2.2.2.2.2.2.2.2.2.2.2.2.2) ∧ (∀ j, nel j [70, 71, 72, 73] = false → u.2 j = a0 j)) (gB D cy N q s.heap.size) (gA N q s.heap.size)) args s 0 0 (gA N q s.heap.size)) (F0 M 130 ls [.int s0j34]) := by
    intro s0j34 x69_4j34 x69_6j34 x69_9j34 x69_11j34 x69_19j34 x69_20j34 x69_21j34 x69_22j34 x69_58j34 x69_59j34 x69_60j34 x69_61j34 x69_62j34 x69_63j34 x69_64j34 x69_65j34 x69_66j34 A70j34 A71j34 A72j34 A73j34 m a H locs w_x69_4 w_x69_6 w_x69_9 w_x69_11 w_x69_19 w_x69_20 w_x69_21 w_x69_22 w_x69_58 w_x69_59 w_x69_60 w_x69_61 w_x69_62 w_x69_63 w_x69_64 w_x69_65 w_x69_66 hoff hsh w_A70 w_A71 w_A72 w_A73 hoffa ls hl hs0 hW hS
    unfold fX12_stepTold_J130 at hs0
    refine lv_istore_n (lv' := [(2, .int s0j34), (0, .ref (q 69))]) hx hb dX12_stepTold_130 rfl hl (by decide) rfl (fun ls hl => ?_)
    refine lv_aload_n hx hb dX12_stepTold_131 rfl (lv_at hl 1 rfl) ?_
    obtain ⟨r41, hf41, hs0⟩ := obind hs0
    refine g_Vv (n := 0) hx hb hml hown hG hW hS [] (kX12_next hN hsh ((hoff 6957 rfl).trans h_x69_57) w_x69_63 ((hoffa 75 rfl).trans h_A75) w_x69_58 w_x69_59 w_x69_60 w_x69_61 w_x69_62 F hf41) (ltN hN 69 rfl) gk69 (by decide) rfl rfl (gd_V gx1315 gx1316 gx1317 gx5 gx1318) rfl rfl (by decide) ⟨(show 1 + 1 ≤ kf + 24 by omega), (show 8 + (3 + 11) + 21 ≤ kl + 1000 by omega)⟩ rfl hl (Nat.le_of_ble_eq_true rfl) ⟨Nat.zero_le _, Nat.zero_le _⟩ dX12_stepTold_132 (fun m41 a41 H locs hp41 hW hS => ?_)
    obtain ⟨hp41_x69_58, hp41_x69_59, hp41_x69_60, hp41_x69_61, hp41_x69_62, ho41, ha41⟩ := hp41
    rw [ha41] at hW
    have w_x69_4 : m41 6904 = .long x69_4j34 := (ho41 6904 rfl).trans w_x69_4
    have w_x69_6 : m41 6906 = .int x69_6j34 := (ho41 6906 rfl).trans w_x69_6
    have w_x69_9 : m41 6909 = .int x69_9j34 := (ho41 6909 rfl).trans w_x69_9
    have w_x69_11 : m41 6911 = .int x69_11j34 := (ho41 6911 rfl).trans w_x69_11
    have w_x69_19 : m41 6919 = .long x69_19j34 := (ho41 6919 rfl).trans w_x69_19
    have w_x69_20 : m41 6920 = .int x69_20j34 := (ho41 6920 rfl).trans w_x69_20
    have w_x69_21 : m41 6921 = .int x69_21j34 := (ho41 6921 rfl).trans w_x69_21
    have w_x69_22 : m41 6922 = .int x69_22j34 := (ho41 6922 rfl).trans w_x69_22
    have w_x69_58 : m41 6958 = .int r41.1 := hp41_x69_58
    have w_x69_59 : m41 6959 = .int r41.2.1 := hp41_x69_59
    have w_x69_60 : m41 6960 = .int r41.2.2.1 := hp41_x69_60
    have w_x69_61 : m41 6961 = .long r41.2.2.2.1 := hp41_x69_61
    have w_x69_62 : m41 6962 = .int r41.2.2.2.2 := hp41_x69_62
    have w_x69_63 : m41 6963 = .int x69_63j34 := (ho41 6963 rfl).trans w_x69_63
    have w_x69_64 : m41 6964 = .int x69_64j34 := (ho41 6964 rfl).trans w_x69_64
    have w_x69_65 : m41 6965 = .int x69_65j34 := (ho41 6965 rfl).trans w_x69_65
    have w_x69_66 : m41 6966 = .int x69_66j34 := (ho41 6966 rfl).trans w_x69_66
    have hoff := offm hoff ho41 (by decide +kernel)
    have hsh := SH.off hsh ho41 (by decide +kernel)
    refine lv_aload_n hx hb dX12_stepTold_135 rfl (lv_at hl 1 rfl) ?_
    refine lv_iconst (v := 0) hx hb dX12_stepTold_136 (by decide) ?_
    refine lv_aload_n hx hb dX12_stepTold_137 rfl (lv_at hl 1 rfl) ?_
    refine gf12_1 hx hb hG hown hW (o := 69) (ltN hN 69 rfl) gk69 (v := .int x69_1) ((hoff 6901 rfl).trans h_x69_1) gx163 dX12_stepTold_138 ?_
    refine lv_iconst (v := 1) hx hb dX12_stepTold_141 (by decide) ?_
    refine lv_isub hx hb dX12_stepTold_142 ?_
    obtain ⟨r42, hf42, hs0⟩ := obind hs0
    refine g_Vi (n := 2) hx hb hml hown hG hW hS [.int 0, .int (x69_1 - 1)] (kX12_numberTold hN hsh ((hoff 6957 rfl).trans h_x69_57) ((hoffa 75 rfl).trans h_A75) w_x69_58 w_x69_59 w_x69_60 w_x69_61 w_x69_62 w_x69_63 F 0 (x69_1 - 1) hf42) (ltN hN 69 rfl) gk69 (by decide) rfl rfl (gd_V gx1349 gx1350 gx1351 gx5 gx1352) rfl rfl (by decide) ⟨(show 2 + 1 ≤ kf + 24 by omega), (show 8 + (4 + 11) + 43 ≤ kl + 1000 by omega)⟩ rfl hl (Nat.le_of_ble_eq_true rfl) ⟨Nat.zero_le _, Nat.zero_le _⟩ dX12_stepTold_143 (fun x42 m42 a42 H locs hp42 hW hS => ?_)
    obtain ⟨hx42, hp42_x69_58, hp42_x69_59, hp42_x69_60, hp42_x69_61, hp42_x69_62, hp42_x69_63, ho42, ha42⟩ := hp42
    subst hx42
    rw [ha42] at hW
    have w_x69_4 : m42 6904 = .long x69_4j34 := (ho42 6904 rfl).trans w_x69_4
    have w_x69_6 : m42 6906 = .int x69_6j34 := (ho42 6906 rfl).trans w_x69_6
    have w_x69_9 : m42 6909 = .int x69_9j34 := (ho42 6909 rfl).trans w_x69_9
    have w_x69_11 : m42 6911 = .int x69_11j34 := (ho42 6911 rfl).trans w_x69_11
    have w_x69_19 : m42 6919 = .long x69_19j34 := (ho42 6919 rfl).trans w_x69_19
    have w_x69_20 : m42 6920 = .int x69_20j34 := (ho42 6920 rfl).trans w_x69_20
    have w_x69_21 : m42 6921 = .int x69_21j34 := (ho42 6921 rfl).trans w_x69_21
    have w_x69_22 : m42 6922 = .int x69_22j34 := (ho42 6922 rfl).trans w_x69_22
    have w_x69_58 : m42 6958 = .int r42.2.1 := hp42_x69_58
    have w_x69_59 : m42 6959 = .int r42.2.2.1 := hp42_x69_59
    have w_x69_60 : m42 6960 = .int r42.2.2.2.1 := hp42_x69_60
    have w_x69_61 : m42 6961 = .long r42.2.2.2.2.1 := hp42_x69_61
    have w_x69_62 : m42 6962 = .int r42.2.2.2.2.2.1 := hp42_x69_62
    have w_x69_63 : m42 6963 = .int r42.2.2.2.2.2.2 := hp42_x69_63
    have w_x69_64 : m42 6964 = .int x69_64j34 := (ho42 6964 rfl).trans w_x69_64
    have w_x69_65 : m42 6965 = .int x69_65j34 := (ho42 6965 rfl).trans w_x69_65
    have w_x69_66 : m42 6966 = .int x69_66j34 := (ho42 6966 rfl).trans w_x69_66
    have hoff := offm hoff ho42 (by decide +kernel)
    have hsh := SH.off hsh ho42 (by decide +kernel)
    refine lv_istore_n (lv' := [(3, .int r42.1), (2, .int s0j34), (0, .ref (q 69))]) hx hb dX12_stepTold_146 rfl hl (by decide) rfl (fun ls hl => ?_)
    refine lv_aload_n hx hb dX12_stepTold_147 rfl (lv_at hl 2 rfl) ?_
    refine lv_iload_n hx hb dX12_stepTold_148 rfl (lv_at hl 1 rfl) ?_
    refine lv_iload_n hx hb dX12_stepTold_149 rfl (lv_at hl 0 rfl) ?_
    refine lv_iconst (v := (-1)) hx hb dX12_stepTold_150 (by decide) ?_
    obtain ⟨r43, hf43, hs0⟩ := obind hs0
    refine g_Vv (n := 3) hx hb hml hown hG hW hS [.int s0j34, .int r42.1, .int (-1)] (kX12_acting hN hsh ((hoff 6900 rfl).trans h_x69_0) ((hoff 6901 rfl).trans h_x69_1) ((hoff 6902 rfl).trans h_x69_2) ((hoff 6903 rfl).trans h_x69_3) w_x69_63 w_x69_64 w_x69_4 w_x69_6 w_x69_9 w_x69_11 w_x69_19 w_x69_20 w_x69_21 w_x69_22 w_x69_65 w_x69_66 w_A70 w_A71 w_A72 w_A73 F s0j34 r42.1 (-1) hf43) (ltN hN 69 rfl) gk69 (by decide) rfl rfl (gd_V gx1363 gx1364 gx1365 gx5 gx1366) rfl rfl (by decide) ⟨(show 4 + 1 ≤ kf + 24 by omega), (show 8 + (4 + 11) + 100 ≤ kl + 1000 by omega)⟩ rfl hl (Nat.le_of_ble_eq_true rfl) ⟨Nat.zero_le _, Nat.zero_le _⟩ dX12_stepTold_151 (fun m43 a43 H locs hp43 hW hS => ?_)
    obtain ⟨hp43_x69_4, hp43_x69_6, hp43_x69_9, hp43_x69_11, hp43_x69_19, hp43_x69_20, hp43_x69_21, hp43_x69_22, hp43_x69_65, hp43_x69_66, ho43, hp43_A70, hp43_A71, hp43_A72, hp43_A73, hoa43⟩ := hp43
    have w_x69_4 : m43 6904 = .long r43.1 := hp43_x69_4
    have w_x69_6 : m43 6906 = .int r43.2.1 := hp43_x69_6
    have w_x69_9 : m43 6909 = .int r43.2.2.1 := hp43_x69_9
    have w_x69_11 : m43 6911 = .int r43.2.2.2.1 := hp43_x69_11
    have w_x69_19 : m43 6919 = .long r43.2.2.2.2.1 := hp43_x69_19
    have w_x69_20 : m43 6920 = .int r43.2.2.2.2.2.1 := hp43_x69_20
    have w_x69_21 : m43 6921 = .int r43.2.2.2.2.2.2.1 := hp43_x69_21
    have w_x69_22 : m43 6922 = .int r43.2.2.2.2.2.2.2.1 := hp43_x69_22
    have w_x69_58 : m43 6958 = .int r42.2.1 := (ho43 6958 rfl).trans w_x69_58
    have w_x69_59 : m43 6959 = .int r42.2.2.1 := (ho43 6959 rfl).trans w_x69_59
    have w_x69_60 : m43 6960 = .int r42.2.2.2.1 := (ho43 6960 rfl).trans w_x69_60
    have w_x69_61 : m43 6961 = .long r42.2.2.2.2.1 := (ho43 6961 rfl).trans w_x69_61
    have w_x69_62 : m43 6962 = .int r42.2.2.2.2.2.1 := (ho43 6962 rfl).trans w_x69_62
    have w_x69_63 : m43 6963 = .int r42.2.2.2.2.2.2 := (ho43 6963 rfl).trans w_x69_63
    have w_x69_64 : m43 6964 = .int x69_64j34 := (ho43 6964 rfl).trans w_x69_64
    have w_x69_65 : m43 6965 = .int r43.2.2.2.2.2.2.2.2.1 := hp43_x69_65
    have w_x69_66 : m43 6966 = .int r43.2.2.2.2.2.2.2.2.2.1 := hp43_x69_66
    have hoff := offm hoff ho43 (by decide +kernel)
    have hsh := SH.off hsh ho43 (by decide +kernel)
    have w_A70 : a43 70 = (30, .inl r43.2.2.2.2.2.2.2.2.2.2.1) := hp43_A70
    have w_A71 : a43 71 = (8, .inl r43.2.2.2.2.2.2.2.2.2.2.2.1) := hp43_A71
    have w_A72 : a43 72 = (40, .inl r43.2.2.2.2.2.2.2.2.2.2.2.2.1) := hp43_A72
    have w_A73 : a43 73 = (40, .inl r43.2.2.2.2.2.2.2.2.2.2.2.2.2) := hp43_A73
    have hoffa := offm hoffa hoa43 (by decide +kernel)
    refine lv_goto (tgt := 247) hx hb dX12_stepTold_154 (by decide) ?_
    have hs0 := Option.some.inj hs0
    subst hs0
    exact W.vret hx hb hr (fun t ht hw => ⟨⟨(m43, a43), rfl, ⟨w_x69_4, w_x69_6, w_x69_9, w_x69_11, w_x69_19, w_x69_20, w_x69_21, w_x69_22, w_x69_58, w_x69_59, w_x69_60, w_x69_61, w_x69_62, w_x69_63, w_x69_64, w_x69_65, w_x69_66, hoff, w_A70, w_A71, w_A72, w_A73, hoffa⟩, g_end hW ht hw⟩, hS.F ht⟩) hS.2.2 dX12_stepTold_247 hlocks
  have hJ115_0 : ∀ (x69_4j10 : Int64) (x69_6j10 : Int32) (x69_9j10 : Int32) (x69_11j10 : Int32) (x69_19j10 : Int64) (x69_20j10 : Int32) (x69_21j10 : Int32) (x69_22j10 : Int32) (x69_58j10 : Int32) (x69_59j10 : Int32) (x69_60j10 : Int32) (x69_61j10 : Int64) (x69_62j10 : Int32) (x69_63j10 : Int32) (x69_64j10 : Int32) (x69_65j10 : Int32) (x69_66j10 : Int32) (A70j10 : Nat → Int32) (A71j10 : Nat → Int32) (A72j10 : Nat → Int32) (A73j10 : Nat → Int32) (m : Nat → Value) (a : Nat → vp_A) (H : Heap) (locs : List Loc) (w_x69_4 : m 6904 = .long x69_4j10) (w_x69_6 : m 6906 = .int x69_6j10) (w_x69_9 : m 6909 = .int x69_9j10) (w_x69_11 : m 6911 = .int x69_11j10) (w_x69_19 : m 6919 = .long x69_19j10) (w_x69_20 : m 6920 = .int x69_20j10) (w_x69_21 : m 6921 = .int x69_21j10) (w_x69_22 : m 6922 = .int x69_22j10) (w_x69_58 : m 6958 = .int x69_58j10) (w_x69_59 : m 6959 = .int x69_59j10) (w_x69_60 : m 6960 = .int x69_60j10) (w_x69_61 : m 6961 = .long x69_61j10) (w_x69_62 : m 6962 = .int x69_62j10) (w_x69_63 : m 6963 = .int x69_63j10) (w_x69_64 : m 6964 = .int x69_64j10) (w_x69_65 : m 6965 = .int x69_65j10) (w_x69_66 : m 6966 = .int x69_66j10) (hoff : ∀ j, nel j [6904, 6906, 6909, 6911, 6919, 6920, 6921, 6922, 6958, 6959, 6960, 6961, 6962, 6963, 6964, 6965, 6966] = false → m j = m0 j) (hsh : SH q m) (w_A70 : a 70 = (30, .inl A70j10)) (w_A71 : a 71 = (8, .inl A71j10)) (w_A72 : a 72 = (40, .inl A72j10)) (w_A73 : a 73 = (40, .inl A73j10)) (hoffa : ∀ j, nel j [70, 71, 72, 73] = false → a j = a0 j) (ls : Array Slot) (hl : lv_has ls 5 [(0, .ref (q 69))]) (hs0 : fX12_stepTold_J115 rec F x69_0 x69_1 x69_2 x69_3 x69_57 A75 x69_4j10 x69_6j10 x69_9j10 x69_11j10 x69_19j10 x69_20j10 x69_21j10 x69_22j10 x69_58j10 x69_59j10 x69_60j10 x69_61j10 x69_62j10 x69_63j10 x69_64j10 x69_65j10 x69_66j10 A70j10 A71j10 A72j10 A73j10 = some X0) (hW : GW D cy (gA N q s.heap.size) N q m a s H) (hS : va_S (gA N q s.heap.size) s.heap H locs), W p l e ({ frames := kf + 24, cells := 0, slots := 0, locals := kl + 1000 } : Room) s M args below meth c H locs 0 0 (MQ below (va_Qv (fun (u : (Nat → Value) × (Nat → vp_A)) => u.1 6904 = .long X0.1 ∧ u.1 6906 = .int X0.2.1 ∧ u.1 6909 = .int X0.2.2.1 ∧ u.1 6911 = .int X0.2.2.2.1 ∧ u.1 6919 = .long X0.2.2.2.2.1 ∧ u.1 6920 = .int X0.2.2.2.2.2.1 ∧ u.1 6921 = .int X0.2.2.2.2.2.2.1 ∧ u.1 6922 = .int X0.2.2.2.2.2.2.2.1 ∧ u.1 6958 = .int X0.2.2.2.2.2.2.2.2.1 ∧ u.1 6959 = .int X0.2.2.2.2.2.2.2.2.2.1 ∧ u.1 6960 = .int X0.2.2.2.2.2.2.2.2.2.2.1 ∧ u.1 6961 = .long X0.2.2.2.2.2.2.2.2.2.2.2.1 ∧ u.1 6962 = .int X0.2.2.2.2.2.2.2.2.2.2.2.2.1 ∧ u.1 6963 = .int X0.2.2.2.2.2.2.2.2.2.2.2.2.2.1 ∧ u.1 6964 = .int X0.2.2.2.2.2.2.2.2.2.2.2.2.2.2.1 ∧ u.1 6965 = .int X0.2.2.2.2.2.2.2.2.2.2.2.2.2.2.2.1 ∧ u.1 6966 = .int X0.2.2.2.2.2.2.2.2.2.2.2.2.2.2.2.2.1 ∧ (∀ j, nel j [6904, 6906, 6909, 6911, 6919, 6920, 6921, 6922, 6958, 6959, 6960, 6961, 6962, 6963, 6964, 6965, 6966] = false → u.1 j = m0 j) ∧ u.2 70 = (30, .inl X0.2.2.2.2.2.2.2.2.2.2.2.2.2.2.2.2.2.1) ∧ u.2 71 = (8, .inl X0.2.2.2.2.2.2.2.2.2.2.2.2.2.2.2.2.2.2.1) ∧ u.2 72 = (40, .inl X0.2.2.2.2.2.2.2.2.2.2.2.2.2.2.2.2.2.2.2.1) ∧ u.2 73 = (40, .inl X0.2.2.2.2.2.2.2.2.2.2.2.2.2.2.2.2.2.2.2.2) ∧ (∀ j, nel j [70, 71, 72, 73] = false → u.2 j = a0 j)) (gB D cy N q s.heap.size) (gA N q s.heap.size)) args s 0 0 (gA N q s.heap.size)) (F0 M 115 ls []) := by
    intro x69_4j10 x69_6j10 x69_9j10 x69_11j10 x69_19j10 x69_20j10 x69_21j10 x69_22j10 x69_58j10 x69_59j10 x69_60j10 x69_61j10 x69_62j10 x69_63j10 x69_64j10 x69_65j10 x69_66j10 A70j10 A71j10 A72j10 A73j10 m a H locs w_x69_4 w_x69_6 w_x69_9 w_x69_11 w_x69_19 w_x69_20 w_x69_21 w_x69_22 w_x69_58 w_x69_59 w_x69_60 w_x69_61 w_x69_62 w_x69_63 w_x69_64 w_x69_65 w_x69_66 hoff hsh w_A70 w_A71 w_A72 w_A73 hoffa ls hl hs0 hW hS
    unfold fX12_stepTold_J115 at hs0
    refine lv_aload_n hx hb dX12_stepTold_115 rfl (lv_at hl 0 rfl) ?_
    refine va_ldcwS (own := sOwn 11) (index := sIdx 11) hx hb hown (hE.1 11 (by decide)).1 dX12_stepTold_116 ?_
    obtain ⟨r32, hf32, hs0⟩ := obind hs0
    refine g_Vie (n := 1) hx hb hml hown hG hW hS [.ref (sa 11)] XT.ok (hE.one 11 (by decide)) (kX12_isWord hN (by decide) w_x69_60 w_x69_61 w_x69_63 F hf32) (ltN hN 69 rfl) gk69 (by decide) rfl rfl (gd_V gx1354 gx1355 gx1356 gx5 gx1357) rfl rfl (by decide) ⟨(show 5 + 1 ≤ kf + 24 by omega), (show 8 + (2 + 11) + 108 ≤ kl + 1000 by omega)⟩ rfl hl (Nat.le_of_ble_eq_true rfl) ⟨Nat.zero_le _, Nat.zero_le _⟩ dX12_stepTold_119 (fun x32 m32 a32 H locs hp32 hW hS => ?_)
    obtain ⟨hx32, hm32, ha32⟩ := hp32
    subst hx32
    rw [hm32] at hW
    rw [ha32] at hW
    refine lv_if_eq (tgt := 129) hx hb dX12_stepTold_122 (by decide) (fun c33 => ?_) (fun c33 => ?_)
    · rw [if_pos c33] at hs0
      refine lv_iconst (v := 2) hx hb dX12_stepTold_129 (by decide) ?_
      exact hJ130_0 2 x69_4j10 x69_6j10 x69_9j10 x69_11j10 x69_19j10 x69_20j10 x69_21j10 x69_22j10 x69_58j10 x69_59j10 x69_60j10 x69_61j10 x69_62j10 x69_63j10 x69_64j10 x69_65j10 x69_66j10 A70j10 A71j10 A72j10 A73j10 m a _ _ w_x69_4 w_x69_6 w_x69_9 w_x69_11 w_x69_19 w_x69_20 w_x69_21 w_x69_22 w_x69_58 w_x69_59 w_x69_60 w_x69_61 w_x69_62 w_x69_63 w_x69_64 w_x69_65 w_x69_66 hoff hsh w_A70 w_A71 w_A72 w_A73 hoffa ls (lv_sub hl [0] rfl) hs0 hW hS
    · rw [if_neg c33] at hs0
      refine lv_iconst (v := 4) hx hb dX12_stepTold_125 (by decide) ?_
      refine lv_goto (tgt := 130) hx hb dX12_stepTold_126 (by decide) ?_
      exact hJ130_0 4 x69_4j10 x69_6j10 x69_9j10 x69_11j10 x69_19j10 x69_20j10 x69_21j10 x69_22j10 x69_58j10 x69_59j10 x69_60j10 x69_61j10 x69_62j10 x69_63j10 x69_64j10 x69_65j10 x69_66j10 A70j10 A71j10 A72j10 A73j10 m a _ _ w_x69_4 w_x69_6 w_x69_9 w_x69_11 w_x69_19 w_x69_20 w_x69_21 w_x69_22 w_x69_58 w_x69_59 w_x69_60 w_x69_61 w_x69_62 w_x69_63 w_x69_64 w_x69_65 w_x69_66 hoff hsh w_A70 w_A71 w_A72 w_A73 hoffa ls (lv_sub hl [0] rfl) hs0 hW hS
  have hJ59_0 : ∀ (s0j31 : Int32) (x69_4j31 : Int64) (x69_6j31 : Int32) (x69_9j31 : Int32) (x69_11j31 : Int32) (x69_19j31 : Int64) (x69_20j31 : Int32) (x69_21j31 : Int32) (x69_22j31 : Int32) (x69_58j31 : Int32) (x69_59j31 : Int32) (x69_60j31 : Int32) (x69_61j31 : Int64) (x69_62j31 : Int32) (x69_63j31 : Int32) (x69_64j31 : Int32) (x69_65j31 : Int32) (x69_66j31 : Int32) (A70j31 : Nat → Int32) (A71j31 : Nat → Int32) (A72j31 : Nat → Int32) (A73j31 : Nat → Int32) (m : Nat → Value) (a : Nat → vp_A) (H : Heap) (locs : List Loc) (w_x69_4 : m 6904 = .long x69_4j31) (w_x69_6 : m 6906 = .int x69_6j31) (w_x69_9 : m 6909 = .int x69_9j31) (w_x69_11 : m 6911 = .int x69_11j31) (w_x69_19 : m 6919 = .long x69_19j31) (w_x69_20 : m 6920 = .int x69_20j31) (w_x69_21 : m 6921 = .int x69_21j31) (w_x69_22 : m 6922 = .int x69_22j31) (w_x69_58 : m 6958 = .int x69_58j31) (w_x69_59 : m 6959 = .int x69_59j31) (w_x69_60 : m 6960 = .int x69_60j31) (w_x69_61 : m 6961 = .long x69_61j31) (w_x69_62 : m 6962 = .int x69_62j31) (w_x69_63 : m 6963 = .int x69_63j31) (w_x69_64 : m 6964 = .int x69_64j31) (w_x69_65 : m 6965 = .int x69_65j31) (w_x69_66 : m 6966 = .int x69_66j31) (hoff : ∀ j, nel j [6904, 6906, 6909, 6911, 6919, 6920, 6921, 6922, 6958, 6959, 6960, 6961, 6962, 6963, 6964, 6965, 6966] = false → m j = m0 j) (hsh : SH q m) (w_A70 : a 70 = (30, .inl A70j31)) (w_A71 : a 71 = (8, .inl A71j31)) (w_A72 : a 72 = (40, .inl A72j31)) (w_A73 : a 73 = (40, .inl A73j31)) (hoffa : ∀ j, nel j [70, 71, 72, 73] = false → a j = a0 j) (ls : Array Slot) (hl : lv_has ls 5 [(0, .ref (q 69))]) (hs0 : fX12_stepTold_J59 rec F x69_0 x69_1 x69_2 x69_3 x69_57 A75 s0j31 x69_4j31 x69_6j31 x69_9j31 x69_11j31 x69_19j31 x69_20j31 x69_21j31 x69_22j31 x69_58j31 x69_59j31 x69_60j31 x69_61j31 x69_62j31 x69_63j31 x69_64j31 x69_65j31 x69_66j31 A70j31 A71j31 A72j31 A73j31 = some X0) (hW : GW D cy (gA N q s.heap.size) N q m a s H) (hS : va_S (gA N q s.heap.size) s.heap H locs), W p l e ({ frames := kf + 24, cells := 0, slots := 0, locals := kl + 1000 } : Room) s M args below meth c H locs 0 0 (MQ below (va_Qv (fun (u : (Nat → Value) × (Nat → vp_A)) => u.1 6904 = .long X0.1 ∧ u.1 6906 = .int X0.2.1 ∧ u.1 6909 = .int X0.2.2.1 ∧ u.1 6911 = .int X0.2.2.2.1 ∧ u.1 6919 = .long X0.2.2.2.2.1 ∧ u.1 6920 = .int X0.2.2.2.2.2.1 ∧ u.1 6921 = .int X0.2.2.2.2.2.2.1 ∧ u.1 6922 = .int X0.2.2.2.2.2.2.2.1 ∧ u.1 6958 = .int X0.2.2.2.2.2.2.2.2.1 ∧ u.1 6959 = .int X0.2.2.2.2.2.2.2.2.2.1 ∧ u.1 6960 = .int X0.2.2.2.2.2.2.2.2.2.2.1 ∧ u.1 6961 = .long X0.2.2.2.2.2.2.2.2.2.2.2.1 ∧ u.1 6962 = .int X0.2.2.2.2.2.2.2.2.2.2.2.2.1 ∧ u.1 6963 = .int X0.2.2.2.2.2.2.2.2.2.2.2.2.2.1 ∧ u.1 6964 = .int X0.2.2.2.2.2.2.2.2.2.2.2.2.2.2.1 ∧ u.1 6965 = .int X0.2.2.2.2.2.2.2.2.2.2.2.2.2.2.2.1 ∧ u.1 6966 = .int X0.2.2.2.2.2.2.2.2.2.2.2.2.2.2.2.2.1 ∧ (∀ j, nel j [6904, 6906, 6909, 6911, 6919, 6920, 6921, 6922, 6958, 6959, 6960, 6961, 6962, 6963, 6964, 6965, 6966] = false → u.1 j = m0 j) ∧ u.2 70 = (30, .inl X0.2.2.2.2.2.2.2.2.2.2.2.2.2.2.2.2.2.1) ∧ u.2 71 = (8, .inl X0.2.2.2.2.2.2.2.2.2.2.2.2.2.2.2.2.2.2.1) ∧ u.2 72 = (40, .inl X0.2.2.2.2.2.2.2.2.2.2.2.2.2.2.2.2.2.2.2.1) ∧ u.2 73 = (40, .inl X0.2.2.2.2.2.2.2.2.2.2.2.2.2.2.2.2.2.2.2.2) ∧ (∀ j, nel j [70, 71, 72, 73] = false → u.2 j = a0 j)) (gB D cy N q s.heap.size) (gA N q s.heap.size)) args s 0 0 (gA N q s.heap.size)) (F0 M 59 ls [.int s0j31]) := by
    intro s0j31 x69_4j31 x69_6j31 x69_9j31 x69_11j31 x69_19j31 x69_20j31 x69_21j31 x69_22j31 x69_58j31 x69_59j31 x69_60j31 x69_61j31 x69_62j31 x69_63j31 x69_64j31 x69_65j31 x69_66j31 A70j31 A71j31 A72j31 A73j31 m a H locs w_x69_4 w_x69_6 w_x69_9 w_x69_11 w_x69_19 w_x69_20 w_x69_21 w_x69_22 w_x69_58 w_x69_59 w_x69_60 w_x69_61 w_x69_62 w_x69_63 w_x69_64 w_x69_65 w_x69_66 hoff hsh w_A70 w_A71 w_A72 w_A73 hoffa ls hl hs0 hW hS
    unfold fX12_stepTold_J59 at hs0
    refine lv_istore_n (lv' := [(2, .int s0j31), (0, .ref (q 69))]) hx hb dX12_stepTold_59 rfl hl (by decide) rfl (fun ls hl => ?_)
    refine lv_aload_n hx hb dX12_stepTold_60 rfl (lv_at hl 1 rfl) ?_
    obtain ⟨r37, hf37, hs0⟩ := obind hs0
    refine g_Vv (n := 0) hx hb hml hown hG hW hS [] (kX12_next hN hsh ((hoff 6957 rfl).trans h_x69_57) w_x69_63 ((hoffa 75 rfl).trans h_A75) w_x69_58 w_x69_59 w_x69_60 w_x69_61 w_x69_62 F hf37) (ltN hN 69 rfl) gk69 (by decide) rfl rfl (gd_V gx1315 gx1316 gx1317 gx5 gx1318) rfl rfl (by decide) ⟨(show 1 + 1 ≤ kf + 24 by omega), (show 8 + (3 + 11) + 21 ≤ kl + 1000 by omega)⟩ rfl hl (Nat.le_of_ble_eq_true rfl) ⟨Nat.zero_le _, Nat.zero_le _⟩ dX12_stepTold_61 (fun m37 a37 H locs hp37 hW hS => ?_)
    obtain ⟨hp37_x69_58, hp37_x69_59, hp37_x69_60, hp37_x69_61, hp37_x69_62, ho37, ha37⟩ := hp37
    rw [ha37] at hW
    have w_x69_4 : m37 6904 = .long x69_4j31 := (ho37 6904 rfl).trans w_x69_4
    have w_x69_6 : m37 6906 = .int x69_6j31 := (ho37 6906 rfl).trans w_x69_6
    have w_x69_9 : m37 6909 = .int x69_9j31 := (ho37 6909 rfl).trans w_x69_9
    have w_x69_11 : m37 6911 = .int x69_11j31 := (ho37 6911 rfl).trans w_x69_11
    have w_x69_19 : m37 6919 = .long x69_19j31 := (ho37 6919 rfl).trans w_x69_19
    have w_x69_20 : m37 6920 = .int x69_20j31 := (ho37 6920 rfl).trans w_x69_20
    have w_x69_21 : m37 6921 = .int x69_21j31 := (ho37 6921 rfl).trans w_x69_21
    have w_x69_22 : m37 6922 = .int x69_22j31 := (ho37 6922 rfl).trans w_x69_22
    have w_x69_58 : m37 6958 = .int r37.1 := hp37_x69_58
    have w_x69_59 : m37 6959 = .int r37.2.1 := hp37_x69_59
    have w_x69_60 : m37 6960 = .int r37.2.2.1 := hp37_x69_60
    have w_x69_61 : m37 6961 = .long r37.2.2.2.1 := hp37_x69_61
    have w_x69_62 : m37 6962 = .int r37.2.2.2.2 := hp37_x69_62
    have w_x69_63 : m37 6963 = .int x69_63j31 := (ho37 6963 rfl).trans w_x69_63
    have w_x69_64 : m37 6964 = .int x69_64j31 := (ho37 6964 rfl).trans w_x69_64
    have w_x69_65 : m37 6965 = .int x69_65j31 := (ho37 6965 rfl).trans w_x69_65
    have w_x69_66 : m37 6966 = .int x69_66j31 := (ho37 6966 rfl).trans w_x69_66
    have hoff := offm hoff ho37 (by decide +kernel)
    have hsh := SH.off hsh ho37 (by decide +kernel)
    refine lv_aload_n hx hb dX12_stepTold_64 rfl (lv_at hl 1 rfl) ?_
    refine lv_iconst (v := 0) hx hb dX12_stepTold_65 (by decide) ?_
    refine lv_aload_n hx hb dX12_stepTold_66 rfl (lv_at hl 1 rfl) ?_
    refine gf12_1 hx hb hG hown hW (o := 69) (ltN hN 69 rfl) gk69 (v := .int x69_1) ((hoff 6901 rfl).trans h_x69_1) gx163 dX12_stepTold_67 ?_
    refine lv_iconst (v := 1) hx hb dX12_stepTold_70 (by decide) ?_
    refine lv_isub hx hb dX12_stepTold_71 ?_
    obtain ⟨r38, hf38, hs0⟩ := obind hs0
    refine g_Vi (n := 2) hx hb hml hown hG hW hS [.int 0, .int (x69_1 - 1)] (kX12_numberTold hN hsh ((hoff 6957 rfl).trans h_x69_57) ((hoffa 75 rfl).trans h_A75) w_x69_58 w_x69_59 w_x69_60 w_x69_61 w_x69_62 w_x69_63 F 0 (x69_1 - 1) hf38) (ltN hN 69 rfl) gk69 (by decide) rfl rfl (gd_V gx1349 gx1350 gx1351 gx5 gx1352) rfl rfl (by decide) ⟨(show 2 + 1 ≤ kf + 24 by omega), (show 8 + (4 + 11) + 43 ≤ kl + 1000 by omega)⟩ rfl hl (Nat.le_of_ble_eq_true rfl) ⟨Nat.zero_le _, Nat.zero_le _⟩ dX12_stepTold_72 (fun x38 m38 a38 H locs hp38 hW hS => ?_)
    obtain ⟨hx38, hp38_x69_58, hp38_x69_59, hp38_x69_60, hp38_x69_61, hp38_x69_62, hp38_x69_63, ho38, ha38⟩ := hp38
    subst hx38
    rw [ha38] at hW
    have w_x69_4 : m38 6904 = .long x69_4j31 := (ho38 6904 rfl).trans w_x69_4
    have w_x69_6 : m38 6906 = .int x69_6j31 := (ho38 6906 rfl).trans w_x69_6
    have w_x69_9 : m38 6909 = .int x69_9j31 := (ho38 6909 rfl).trans w_x69_9
    have w_x69_11 : m38 6911 = .int x69_11j31 := (ho38 6911 rfl).trans w_x69_11
    have w_x69_19 : m38 6919 = .long x69_19j31 := (ho38 6919 rfl).trans w_x69_19
    have w_x69_20 : m38 6920 = .int x69_20j31 := (ho38 6920 rfl).trans w_x69_20
    have w_x69_21 : m38 6921 = .int x69_21j31 := (ho38 6921 rfl).trans w_x69_21
    have w_x69_22 : m38 6922 = .int x69_22j31 := (ho38 6922 rfl).trans w_x69_22
    have w_x69_58 : m38 6958 = .int r38.2.1 := hp38_x69_58
    have w_x69_59 : m38 6959 = .int r38.2.2.1 := hp38_x69_59
    have w_x69_60 : m38 6960 = .int r38.2.2.2.1 := hp38_x69_60
    have w_x69_61 : m38 6961 = .long r38.2.2.2.2.1 := hp38_x69_61
    have w_x69_62 : m38 6962 = .int r38.2.2.2.2.2.1 := hp38_x69_62
    have w_x69_63 : m38 6963 = .int r38.2.2.2.2.2.2 := hp38_x69_63
    have w_x69_64 : m38 6964 = .int x69_64j31 := (ho38 6964 rfl).trans w_x69_64
    have w_x69_65 : m38 6965 = .int x69_65j31 := (ho38 6965 rfl).trans w_x69_65
    have w_x69_66 : m38 6966 = .int x69_66j31 := (ho38 6966 rfl).trans w_x69_66
    have hoff := offm hoff ho38 (by decide +kernel)
    have hsh := SH.off hsh ho38 (by decide +kernel)
    refine lv_istore_n (lv' := [(3, .int r38.1), (2, .int s0j31), (0, .ref (q 69))]) hx hb dX12_stepTold_75 rfl hl (by decide) rfl (fun ls hl => ?_)
    refine lv_aload_n hx hb dX12_stepTold_76 rfl (lv_at hl 2 rfl) ?_
    refine lv_iconst (v := 0) hx hb dX12_stepTold_77 (by decide) ?_
    refine lv_iconst (v := 1) hx hb dX12_stepTold_78 (by decide) ?_
    obtain ⟨r39, hf39, hs0⟩ := obind hs0
    refine g_Vi (n := 2) hx hb hml hown hG hW hS [.int 0, .int 1] (kX12_numberTold hN hsh ((hoff 6957 rfl).trans h_x69_57) ((hoffa 75 rfl).trans h_A75) w_x69_58 w_x69_59 w_x69_60 w_x69_61 w_x69_62 w_x69_63 F 0 1 hf39) (ltN hN 69 rfl) gk69 (by decide) rfl rfl (gd_V gx1349 gx1350 gx1351 gx5 gx1352) rfl rfl (by decide) ⟨(show 2 + 1 ≤ kf + 24 by omega), (show 8 + (4 + 11) + 43 ≤ kl + 1000 by omega)⟩ rfl hl (Nat.le_of_ble_eq_true rfl) ⟨Nat.zero_le _, Nat.zero_le _⟩ dX12_stepTold_79 (fun x39 m39 a39 H locs hp39 hW hS => ?_)
    obtain ⟨hx39, hp39_x69_58, hp39_x69_59, hp39_x69_60, hp39_x69_61, hp39_x69_62, hp39_x69_63, ho39, ha39⟩ := hp39
    subst hx39
    rw [ha39] at hW
    have w_x69_4 : m39 6904 = .long x69_4j31 := (ho39 6904 rfl).trans w_x69_4
    have w_x69_6 : m39 6906 = .int x69_6j31 := (ho39 6906 rfl).trans w_x69_6
    have w_x69_9 : m39 6909 = .int x69_9j31 := (ho39 6909 rfl).trans w_x69_9
    have w_x69_11 : m39 6911 = .int x69_11j31 := (ho39 6911 rfl).trans w_x69_11
    have w_x69_19 : m39 6919 = .long x69_19j31 := (ho39 6919 rfl).trans w_x69_19
    have w_x69_20 : m39 6920 = .int x69_20j31 := (ho39 6920 rfl).trans w_x69_20
    have w_x69_21 : m39 6921 = .int x69_21j31 := (ho39 6921 rfl).trans w_x69_21
    have w_x69_22 : m39 6922 = .int x69_22j31 := (ho39 6922 rfl).trans w_x69_22
    have w_x69_58 : m39 6958 = .int r39.2.1 := hp39_x69_58
    have w_x69_59 : m39 6959 = .int r39.2.2.1 := hp39_x69_59
    have w_x69_60 : m39 6960 = .int r39.2.2.2.1 := hp39_x69_60
    have w_x69_61 : m39 6961 = .long r39.2.2.2.2.1 := hp39_x69_61
    have w_x69_62 : m39 6962 = .int r39.2.2.2.2.2.1 := hp39_x69_62
    have w_x69_63 : m39 6963 = .int r39.2.2.2.2.2.2 := hp39_x69_63
    have w_x69_64 : m39 6964 = .int x69_64j31 := (ho39 6964 rfl).trans w_x69_64
    have w_x69_65 : m39 6965 = .int x69_65j31 := (ho39 6965 rfl).trans w_x69_65
    have w_x69_66 : m39 6966 = .int x69_66j31 := (ho39 6966 rfl).trans w_x69_66
    have hoff := offm hoff ho39 (by decide +kernel)
    have hsh := SH.off hsh ho39 (by decide +kernel)
    refine lv_istore (lv' := [(4, .int r39.1), (3, .int r38.1), (2, .int s0j31), (0, .ref (q 69))]) hx hb dX12_stepTold_82 hl (by decide) rfl (fun ls hl => ?_)
    refine lv_aload_n hx hb dX12_stepTold_84 rfl (lv_at hl 3 rfl) ?_
    refine lv_iload_n hx hb dX12_stepTold_85 rfl (lv_at hl 2 rfl) ?_
    refine lv_iload_n hx hb dX12_stepTold_86 rfl (lv_at hl 1 rfl) ?_
    refine lv_iload hx hb dX12_stepTold_87 (lv_at hl 0 rfl) ?_
    obtain ⟨r40, hf40, hs0⟩ := obind hs0
    refine g_Vv (n := 3) hx hb hml hown hG hW hS [.int s0j31, .int r38.1, .int r39.1] (kX12_acting hN hsh ((hoff 6900 rfl).trans h_x69_0) ((hoff 6901 rfl).trans h_x69_1) ((hoff 6902 rfl).trans h_x69_2) ((hoff 6903 rfl).trans h_x69_3) w_x69_63 w_x69_64 w_x69_4 w_x69_6 w_x69_9 w_x69_11 w_x69_19 w_x69_20 w_x69_21 w_x69_22 w_x69_65 w_x69_66 w_A70 w_A71 w_A72 w_A73 F s0j31 r38.1 r39.1 hf40) (ltN hN 69 rfl) gk69 (by decide) rfl rfl (gd_V gx1363 gx1364 gx1365 gx5 gx1366) rfl rfl (by decide) ⟨(show 4 + 1 ≤ kf + 24 by omega), (show 8 + (4 + 11) + 100 ≤ kl + 1000 by omega)⟩ rfl hl (Nat.le_of_ble_eq_true rfl) ⟨Nat.zero_le _, Nat.zero_le _⟩ dX12_stepTold_89 (fun m40 a40 H locs hp40 hW hS => ?_)
    obtain ⟨hp40_x69_4, hp40_x69_6, hp40_x69_9, hp40_x69_11, hp40_x69_19, hp40_x69_20, hp40_x69_21, hp40_x69_22, hp40_x69_65, hp40_x69_66, ho40, hp40_A70, hp40_A71, hp40_A72, hp40_A73, hoa40⟩ := hp40
    have w_x69_4 : m40 6904 = .long r40.1 := hp40_x69_4
    have w_x69_6 : m40 6906 = .int r40.2.1 := hp40_x69_6
    have w_x69_9 : m40 6909 = .int r40.2.2.1 := hp40_x69_9
    have w_x69_11 : m40 6911 = .int r40.2.2.2.1 := hp40_x69_11
    have w_x69_19 : m40 6919 = .long r40.2.2.2.2.1 := hp40_x69_19
    have w_x69_20 : m40 6920 = .int r40.2.2.2.2.2.1 := hp40_x69_20
    have w_x69_21 : m40 6921 = .int r40.2.2.2.2.2.2.1 := hp40_x69_21
    have w_x69_22 : m40 6922 = .int r40.2.2.2.2.2.2.2.1 := hp40_x69_22
    have w_x69_58 : m40 6958 = .int r39.2.1 := (ho40 6958 rfl).trans w_x69_58
    have w_x69_59 : m40 6959 = .int r39.2.2.1 := (ho40 6959 rfl).trans w_x69_59
    have w_x69_60 : m40 6960 = .int r39.2.2.2.1 := (ho40 6960 rfl).trans w_x69_60
    have w_x69_61 : m40 6961 = .long r39.2.2.2.2.1 := (ho40 6961 rfl).trans w_x69_61
    have w_x69_62 : m40 6962 = .int r39.2.2.2.2.2.1 := (ho40 6962 rfl).trans w_x69_62
    have w_x69_63 : m40 6963 = .int r39.2.2.2.2.2.2 := (ho40 6963 rfl).trans w_x69_63
    have w_x69_64 : m40 6964 = .int x69_64j31 := (ho40 6964 rfl).trans w_x69_64
    have w_x69_65 : m40 6965 = .int r40.2.2.2.2.2.2.2.2.1 := hp40_x69_65
    have w_x69_66 : m40 6966 = .int r40.2.2.2.2.2.2.2.2.2.1 := hp40_x69_66
    have hoff := offm hoff ho40 (by decide +kernel)
    have hsh := SH.off hsh ho40 (by decide +kernel)
    have w_A70 : a40 70 = (30, .inl r40.2.2.2.2.2.2.2.2.2.2.1) := hp40_A70
    have w_A71 : a40 71 = (8, .inl r40.2.2.2.2.2.2.2.2.2.2.2.1) := hp40_A71
    have w_A72 : a40 72 = (40, .inl r40.2.2.2.2.2.2.2.2.2.2.2.2.1) := hp40_A72
    have w_A73 : a40 73 = (40, .inl r40.2.2.2.2.2.2.2.2.2.2.2.2.2) := hp40_A73
    have hoffa := offm hoffa hoa40 (by decide +kernel)
    refine lv_goto (tgt := 247) hx hb dX12_stepTold_92 (by decide) ?_
    have hs0 := Option.some.inj hs0
    subst hs0
    exact W.vret hx hb hr (fun t ht hw => ⟨⟨(m40, a40), rfl, ⟨w_x69_4, w_x69_6, w_x69_9, w_x69_11, w_x69_19, w_x69_20, w_x69_21, w_x69_22, w_x69_58, w_x69_59, w_x69_60, w_x69_61, w_x69_62, w_x69_63, w_x69_64, w_x69_65, w_x69_66, hoff, w_A70, w_A71, w_A72, w_A73, hoffa⟩, g_end hW ht hw⟩, hS.F ht⟩) hS.2.2 dX12_stepTold_247 hlocks
  have hJ44_0 : ∀ (x69_4j5 : Int64) (x69_6j5 : Int32) (x69_9j5 : Int32) (x69_11j5 : Int32) (x69_19j5 : Int64) (x69_20j5 : Int32) (x69_21j5 : Int32) (x69_22j5 : Int32) (x69_58j5 : Int32) (x69_59j5 : Int32) (x69_60j5 : Int32) (x69_61j5 : Int64) (x69_62j5 : Int32) (x69_63j5 : Int32) (x69_64j5 : Int32) (x69_65j5 : Int32) (x69_66j5 : Int32) (A70j5 : Nat → Int32) (A71j5 : Nat → Int32) (A72j5 : Nat → Int32) (A73j5 : Nat → Int32) (m : Nat → Value) (a : Nat → vp_A) (H : Heap) (locs : List Loc) (w_x69_4 : m 6904 = .long x69_4j5) (w_x69_6 : m 6906 = .int x69_6j5) (w_x69_9 : m 6909 = .int x69_9j5) (w_x69_11 : m 6911 = .int x69_11j5) (w_x69_19 : m 6919 = .long x69_19j5) (w_x69_20 : m 6920 = .int x69_20j5) (w_x69_21 : m 6921 = .int x69_21j5) (w_x69_22 : m 6922 = .int x69_22j5) (w_x69_58 : m 6958 = .int x69_58j5) (w_x69_59 : m 6959 = .int x69_59j5) (w_x69_60 : m 6960 = .int x69_60j5) (w_x69_61 : m 6961 = .long x69_61j5) (w_x69_62 : m 6962 = .int x69_62j5) (w_x69_63 : m 6963 = .int x69_63j5) (w_x69_64 : m 6964 = .int x69_64j5) (w_x69_65 : m 6965 = .int x69_65j5) (w_x69_66 : m 6966 = .int x69_66j5) (hoff : ∀ j, nel j [6904, 6906, 6909, 6911, 6919, 6920, 6921, 6922, 6958, 6959, 6960, 6961, 6962, 6963, 6964, 6965, 6966] = false → m j = m0 j) (hsh : SH q m) (w_A70 : a 70 = (30, .inl A70j5)) (w_A71 : a 71 = (8, .inl A71j5)) (w_A72 : a 72 = (40, .inl A72j5)) (w_A73 : a 73 = (40, .inl A73j5)) (hoffa : ∀ j, nel j [70, 71, 72, 73] = false → a j = a0 j) (ls : Array Slot) (hl : lv_has ls 5 [(0, .ref (q 69))]) (hs0 : fX12_stepTold_J44 rec F x69_0 x69_1 x69_2 x69_3 x69_57 A75 x69_4j5 x69_6j5 x69_9j5 x69_11j5 x69_19j5 x69_20j5 x69_21j5 x69_22j5 x69_58j5 x69_59j5 x69_60j5 x69_61j5 x69_62j5 x69_63j5 x69_64j5 x69_65j5 x69_66j5 A70j5 A71j5 A72j5 A73j5 = some X0) (hW : GW D cy (gA N q s.heap.size) N q m a s H) (hS : va_S (gA N q s.heap.size) s.heap H locs), W p l e ({ frames := kf + 24, cells := 0, slots := 0, locals := kl + 1000 } : Room) s M args below meth c H locs 0 0 (MQ below (va_Qv (fun (u : (Nat → Value) × (Nat → vp_A)) => u.1 6904 = .long X0.1 ∧ u.1 6906 = .int X0.2.1 ∧ u.1 6909 = .int X0.2.2.1 ∧ u.1 6911 = .int X0.2.2.2.1 ∧ u.1 6919 = .long X0.2.2.2.2.1 ∧ u.1 6920 = .int X0.2.2.2.2.2.1 ∧ u.1 6921 = .int X0.2.2.2.2.2.2.1 ∧ u.1 6922 = .int X0.2.2.2.2.2.2.2.1 ∧ u.1 6958 = .int X0.2.2.2.2.2.2.2.2.1 ∧ u.1 6959 = .int X0.2.2.2.2.2.2.2.2.2.1 ∧ u.1 6960 = .int X0.2.2.2.2.2.2.2.2.2.2.1 ∧ u.1 6961 = .long X0.2.2.2.2.2.2.2.2.2.2.2.1 ∧ u.1 6962 = .int X0.2.2.2.2.2.2.2.2.2.2.2.2.1 ∧ u.1 6963 = .int X0.2.2.2.2.2.2.2.2.2.2.2.2.2.1 ∧ u.1 6964 = .int X0.2.2.2.2.2.2.2.2.2.2.2.2.2.2.1 ∧ u.1 6965 = .int X0.2.2.2.2.2.2.2.2.2.2.2.2.2.2.2.1 ∧ u.1 6966 = .int X0.2.2.2.2.2.2.2.2.2.2.2.2.2.2.2.2.1 ∧ (∀ j, nel j [6904, 6906, 6909, 6911, 6919, 6920, 6921, 6922, 6958, 6959, 6960, 6961, 6962, 6963, 6964, 6965, 6966] = false → u.1 j = m0 j) ∧ u.2 70 = (30, .inl X0.2.2.2.2.2.2.2.2.2.2.2.2.2.2.2.2.2.1) ∧ u.2 71 = (8, .inl X0.2.2.2.2.2.2.2.2.2.2.2.2.2.2.2.2.2.2.1) ∧ u.2 72 = (40, .inl X0.2.2.2.2.2.2.2.2.2.2.2.2.2.2.2.2.2.2.2.1) ∧ u.2 73 = (40, .inl X0.2.2.2.2.2.2.2.2.2.2.2.2.2.2.2.2.2.2.2.2) ∧ (∀ j, nel j [70, 71, 72, 73] = false → u.2 j = a0 j)) (gB D cy N q s.heap.size) (gA N q s.heap.size)) args s 0 0 (gA N q s.heap.size)) (F0 M 44 ls []) := by
    intro x69_4j5 x69_6j5 x69_9j5 x69_11j5 x69_19j5 x69_20j5 x69_21j5 x69_22j5 x69_58j5 x69_59j5 x69_60j5 x69_61j5 x69_62j5 x69_63j5 x69_64j5 x69_65j5 x69_66j5 A70j5 A71j5 A72j5 A73j5 m a H locs w_x69_4 w_x69_6 w_x69_9 w_x69_11 w_x69_19 w_x69_20 w_x69_21 w_x69_22 w_x69_58 w_x69_59 w_x69_60 w_x69_61 w_x69_62 w_x69_63 w_x69_64 w_x69_65 w_x69_66 hoff hsh w_A70 w_A71 w_A72 w_A73 hoffa ls hl hs0 hW hS
    unfold fX12_stepTold_J44 at hs0
    refine lv_aload_n hx hb dX12_stepTold_44 rfl (lv_at hl 0 rfl) ?_
    refine va_ldcwS (own := sOwn 9) (index := sIdx 9) hx hb hown (hE.1 9 (by decide)).1 dX12_stepTold_45 ?_
    obtain ⟨r29, hf29, hs0⟩ := obind hs0
    refine g_Vie (n := 1) hx hb hml hown hG hW hS [.ref (sa 9)] XT.ok (hE.one 9 (by decide)) (kX12_isWord hN (by decide) w_x69_60 w_x69_61 w_x69_63 F hf29) (ltN hN 69 rfl) gk69 (by decide) rfl rfl (gd_V gx1354 gx1355 gx1356 gx5 gx1357) rfl rfl (by decide) ⟨(show 5 + 1 ≤ kf + 24 by omega), (show 8 + (2 + 11) + 108 ≤ kl + 1000 by omega)⟩ rfl hl (Nat.le_of_ble_eq_true rfl) ⟨Nat.zero_le _, Nat.zero_le _⟩ dX12_stepTold_48 (fun x29 m29 a29 H locs hp29 hW hS => ?_)
    obtain ⟨hx29, hm29, ha29⟩ := hp29
    subst hx29
    rw [hm29] at hW
    rw [ha29] at hW
    refine lv_if_eq (tgt := 58) hx hb dX12_stepTold_51 (by decide) (fun c30 => ?_) (fun c30 => ?_)
    · rw [if_pos c30] at hs0
      refine lv_iconst (v := 1) hx hb dX12_stepTold_58 (by decide) ?_
      exact hJ59_0 1 x69_4j5 x69_6j5 x69_9j5 x69_11j5 x69_19j5 x69_20j5 x69_21j5 x69_22j5 x69_58j5 x69_59j5 x69_60j5 x69_61j5 x69_62j5 x69_63j5 x69_64j5 x69_65j5 x69_66j5 A70j5 A71j5 A72j5 A73j5 m a _ _ w_x69_4 w_x69_6 w_x69_9 w_x69_11 w_x69_19 w_x69_20 w_x69_21 w_x69_22 w_x69_58 w_x69_59 w_x69_60 w_x69_61 w_x69_62 w_x69_63 w_x69_64 w_x69_65 w_x69_66 hoff hsh w_A70 w_A71 w_A72 w_A73 hoffa ls (lv_sub hl [0] rfl) hs0 hW hS
    · rw [if_neg c30] at hs0
      refine lv_iconst (v := 3) hx hb dX12_stepTold_54 (by decide) ?_
      refine lv_goto (tgt := 59) hx hb dX12_stepTold_55 (by decide) ?_
      exact hJ59_0 3 x69_4j5 x69_6j5 x69_9j5 x69_11j5 x69_19j5 x69_20j5 x69_21j5 x69_22j5 x69_58j5 x69_59j5 x69_60j5 x69_61j5 x69_62j5 x69_63j5 x69_64j5 x69_65j5 x69_66j5 A70j5 A71j5 A72j5 A73j5 m a _ _ w_x69_4 w_x69_6 w_x69_9 w_x69_11 w_x69_19 w_x69_20 w_x69_21 w_x69_22 w_x69_58 w_x69_59 w_x69_60 w_x69_61 w_x69_62 w_x69_63 w_x69_64 w_x69_65 w_x69_66 hoff hsh w_A70 w_A71 w_A72 w_A73 hoffa ls (lv_sub hl [0] rfl) hs0 hW hS
  refine lv_aload_n hx hb dX12_stepTold_0 rfl (lv_at hl 0 rfl) ?_
  refine va_ldcwS (own := sOwn 7) (index := sIdx 7) hx hb hown (hE.1 7 (by decide)).1 dX12_stepTold_1 ?_
  obtain ⟨r1, hf1, hs0⟩ := obind hs0
  refine g_Vie (n := 1) hx hb hml hown hG hW hS [.ref (sa 7)] XT.ok (hE.one 7 (by decide)) (kX12_isWord hN (by decide) h_x69_60 h_x69_61 h_x69_63 F hf1) (ltN hN 69 rfl) gk69 (by decide) rfl rfl (gd_V gx1354 gx1355 gx1356 gx5 gx1357) rfl rfl (by decide) ⟨(show 5 + 1 ≤ kf + 24 by omega), (show 8 + (2 + 11) + 108 ≤ kl + 1000 by omega)⟩ rfl hl (Nat.le_of_ble_eq_true rfl) ⟨Nat.zero_le _, Nat.zero_le _⟩ dX12_stepTold_4 (fun x1 m1 a1 H locs hp1 hW hS => ?_)
  obtain ⟨hx1, hm1, ha1⟩ := hp1
  subst hx1
  rw [hm1] at hW
  rw [ha1] at hW
  refine lv_if_eq (tgt := 24) hx hb dX12_stepTold_7 (by decide) (fun c2 => ?_) (fun c2 => ?_)
  · rw [if_pos c2] at hs0
    refine lv_aload_n hx hb dX12_stepTold_24 rfl (lv_at hl 0 rfl) ?_
    refine va_ldcwS (own := sOwn 8) (index := sIdx 8) hx hb hown (hE.1 8 (by decide)).1 dX12_stepTold_25 ?_
    obtain ⟨r3, hf3, hs0⟩ := obind hs0
    refine g_Vie (n := 1) hx hb hml hown hG hW hS [.ref (sa 8)] XT.ok (hE.one 8 (by decide)) (kX12_isWord hN (by decide) h_x69_60 h_x69_61 h_x69_63 F hf3) (ltN hN 69 rfl) gk69 (by decide) rfl rfl (gd_V gx1354 gx1355 gx1356 gx5 gx1357) rfl rfl (by decide) ⟨(show 5 + 1 ≤ kf + 24 by omega), (show 8 + (2 + 11) + 108 ≤ kl + 1000 by omega)⟩ rfl hl (Nat.le_of_ble_eq_true rfl) ⟨Nat.zero_le _, Nat.zero_le _⟩ dX12_stepTold_28 (fun x3 m3 a3 H locs hp3 hW hS => ?_)
    obtain ⟨hx3, hm3, ha3⟩ := hp3
    subst hx3
    rw [hm3] at hW
    rw [ha3] at hW
    refine lv_if_ne (tgt := 44) hx hb dX12_stepTold_31 (by decide) (fun c4 => ?_) (fun c4 => ?_)
    · rw [if_neg c4] at hs0
      exact hJ44_0 x69_4 x69_6 x69_9 x69_11 x69_19 x69_20 x69_21 x69_22 x69_58 x69_59 x69_60 x69_61 x69_62 x69_63 x69_64 x69_65 x69_66 A70 A71 A72 A73 m0 a0 _ _ h_x69_4 h_x69_6 h_x69_9 h_x69_11 h_x69_19 h_x69_20 h_x69_21 h_x69_22 h_x69_58 h_x69_59 h_x69_60 h_x69_61 h_x69_62 h_x69_63 h_x69_64 h_x69_65 h_x69_66 hoff hsh h_A70 h_A71 h_A72 h_A73 hoffa ls (lv_sub hl [0] rfl) hs0 hW hS
    · rw [if_pos c4] at hs0
      refine lv_aload_n hx hb dX12_stepTold_34 rfl (lv_at hl 0 rfl) ?_
      refine va_ldcwS (own := sOwn 9) (index := sIdx 9) hx hb hown (hE.1 9 (by decide)).1 dX12_stepTold_35 ?_
      obtain ⟨r6, hf6, hs0⟩ := obind hs0
      refine g_Vie (n := 1) hx hb hml hown hG hW hS [.ref (sa 9)] XT.ok (hE.one 9 (by decide)) (kX12_isWord hN (by decide) h_x69_60 h_x69_61 h_x69_63 F hf6) (ltN hN 69 rfl) gk69 (by decide) rfl rfl (gd_V gx1354 gx1355 gx1356 gx5 gx1357) rfl rfl (by decide) ⟨(show 5 + 1 ≤ kf + 24 by omega), (show 8 + (2 + 11) + 108 ≤ kl + 1000 by omega)⟩ rfl hl (Nat.le_of_ble_eq_true rfl) ⟨Nat.zero_le _, Nat.zero_le _⟩ dX12_stepTold_38 (fun x6 m6 a6 H locs hp6 hW hS => ?_)
      obtain ⟨hx6, hm6, ha6⟩ := hp6
      subst hx6
      rw [hm6] at hW
      rw [ha6] at hW
      refine lv_if_eq (tgt := 95) hx hb dX12_stepTold_41 (by decide) (fun c7 => ?_) (fun c7 => ?_)
      · rw [if_pos c7] at hs0
        refine lv_aload_n hx hb dX12_stepTold_95 rfl (lv_at hl 0 rfl) ?_
        refine va_ldcwS (own := sOwn 10) (index := sIdx 10) hx hb hown (hE.1 10 (by decide)).1 dX12_stepTold_96 ?_
        obtain ⟨r8, hf8, hs0⟩ := obind hs0
        refine g_Vie (n := 1) hx hb hml hown hG hW hS [.ref (sa 10)] XT.ok (hE.one 10 (by decide)) (kX12_isWord hN (by decide) h_x69_60 h_x69_61 h_x69_63 F hf8) (ltN hN 69 rfl) gk69 (by decide) rfl rfl (gd_V gx1354 gx1355 gx1356 gx5 gx1357) rfl rfl (by decide) ⟨(show 5 + 1 ≤ kf + 24 by omega), (show 8 + (2 + 11) + 108 ≤ kl + 1000 by omega)⟩ rfl hl (Nat.le_of_ble_eq_true rfl) ⟨Nat.zero_le _, Nat.zero_le _⟩ dX12_stepTold_99 (fun x8 m8 a8 H locs hp8 hW hS => ?_)
        obtain ⟨hx8, hm8, ha8⟩ := hp8
        subst hx8
        rw [hm8] at hW
        rw [ha8] at hW
        refine lv_if_ne (tgt := 115) hx hb dX12_stepTold_102 (by decide) (fun c9 => ?_) (fun c9 => ?_)
        · rw [if_neg c9] at hs0
          exact hJ115_0 x69_4 x69_6 x69_9 x69_11 x69_19 x69_20 x69_21 x69_22 x69_58 x69_59 x69_60 x69_61 x69_62 x69_63 x69_64 x69_65 x69_66 A70 A71 A72 A73 m0 a0 _ _ h_x69_4 h_x69_6 h_x69_9 h_x69_11 h_x69_19 h_x69_20 h_x69_21 h_x69_22 h_x69_58 h_x69_59 h_x69_60 h_x69_61 h_x69_62 h_x69_63 h_x69_64 h_x69_65 h_x69_66 hoff hsh h_A70 h_A71 h_A72 h_A73 hoffa ls (lv_sub hl [0] rfl) hs0 hW hS
        · rw [if_pos c9] at hs0
          refine lv_aload_n hx hb dX12_stepTold_105 rfl (lv_at hl 0 rfl) ?_
          refine va_ldcwS (own := sOwn 11) (index := sIdx 11) hx hb hown (hE.1 11 (by decide)).1 dX12_stepTold_106 ?_
          obtain ⟨r11, hf11, hs0⟩ := obind hs0
          refine g_Vie (n := 1) hx hb hml hown hG hW hS [.ref (sa 11)] XT.ok (hE.one 11 (by decide)) (kX12_isWord hN (by decide) h_x69_60 h_x69_61 h_x69_63 F hf11) (ltN hN 69 rfl) gk69 (by decide) rfl rfl (gd_V gx1354 gx1355 gx1356 gx5 gx1357) rfl rfl (by decide) ⟨(show 5 + 1 ≤ kf + 24 by omega), (show 8 + (2 + 11) + 108 ≤ kl + 1000 by omega)⟩ rfl hl (Nat.le_of_ble_eq_true rfl) ⟨Nat.zero_le _, Nat.zero_le _⟩ dX12_stepTold_109 (fun x11 m11 a11 H locs hp11 hW hS => ?_)
          obtain ⟨hx11, hm11, ha11⟩ := hp11
          subst hx11
          rw [hm11] at hW
          rw [ha11] at hW
          refine lv_if_eq (tgt := 157) hx hb dX12_stepTold_112 (by decide) (fun c12 => ?_) (fun c12 => ?_)
          · rw [if_pos c12] at hs0
            refine lv_aload_n hx hb dX12_stepTold_157 rfl (lv_at hl 0 rfl) ?_
            refine va_ldcwS (own := sOwn 12) (index := sIdx 12) hx hb hown (hE.1 12 (by decide)).1 dX12_stepTold_158 ?_
            obtain ⟨r13, hf13, hs0⟩ := obind hs0
            refine g_Vie (n := 1) hx hb hml hown hG hW hS [.ref (sa 12)] XT.ok (hE.one 12 (by decide)) (kX12_isWord hN (by decide) h_x69_60 h_x69_61 h_x69_63 F hf13) (ltN hN 69 rfl) gk69 (by decide) rfl rfl (gd_V gx1354 gx1355 gx1356 gx5 gx1357) rfl rfl (by decide) ⟨(show 5 + 1 ≤ kf + 24 by omega), (show 8 + (2 + 11) + 108 ≤ kl + 1000 by omega)⟩ rfl hl (Nat.le_of_ble_eq_true rfl) ⟨Nat.zero_le _, Nat.zero_le _⟩ dX12_stepTold_161 (fun x13 m13 a13 H locs hp13 hW hS => ?_)
            obtain ⟨hx13, hm13, ha13⟩ := hp13
            subst hx13
            rw [hm13] at hW
            rw [ha13] at hW
            refine lv_if_eq (tgt := 191) hx hb dX12_stepTold_164 (by decide) (fun c14 => ?_) (fun c14 => ?_)
            · rw [if_pos c14] at hs0
              refine lv_aload_n hx hb dX12_stepTold_191 rfl (lv_at hl 0 rfl) ?_
              refine va_ldcwS (own := sOwn 13) (index := sIdx 13) hx hb hown (hE.1 13 (by decide)).1 dX12_stepTold_192 ?_
              obtain ⟨r15, hf15, hs0⟩ := obind hs0
              refine g_Vie (n := 1) hx hb hml hown hG hW hS [.ref (sa 13)] XT.ok (hE.one 13 (by decide)) (kX12_isWord hN (by decide) h_x69_60 h_x69_61 h_x69_63 F hf15) (ltN hN 69 rfl) gk69 (by decide) rfl rfl (gd_V gx1354 gx1355 gx1356 gx5 gx1357) rfl rfl (by decide) ⟨(show 5 + 1 ≤ kf + 24 by omega), (show 8 + (2 + 11) + 108 ≤ kl + 1000 by omega)⟩ rfl hl (Nat.le_of_ble_eq_true rfl) ⟨Nat.zero_le _, Nat.zero_le _⟩ dX12_stepTold_195 (fun x15 m15 a15 H locs hp15 hW hS => ?_)
              obtain ⟨hx15, hm15, ha15⟩ := hp15
              subst hx15
              rw [hm15] at hW
              rw [ha15] at hW
              refine lv_if_eq (tgt := 242) hx hb dX12_stepTold_198 (by decide) (fun c16 => ?_) (fun c16 => ?_)
              · rw [if_pos c16] at hs0
                refine lv_aload_n hx hb dX12_stepTold_242 rfl (lv_at hl 0 rfl) ?_
                refine lv_iconst (v := 1) hx hb dX12_stepTold_243 (by decide) ?_
                refine g_Vv (n := 1) hx hb hml hown hG hW hS [.int 1] (kX12_wrong hN hsh h_x69_58 h_x69_63 1) (ltN hN 69 rfl) gk69 (by decide) rfl rfl (gd_V gx1344 gx1345 gx1346 gx5 gx1347) rfl rfl (by decide) ⟨(show 0 + 1 ≤ kf + 24 by omega), (show 8 + (2 + 11) + 0 ≤ kl + 1000 by omega)⟩ rfl hl (Nat.le_of_ble_eq_true rfl) ⟨Nat.zero_le _, Nat.zero_le _⟩ dX12_stepTold_244 (fun m17 a17 H locs hp17 hW hS => ?_)
                obtain ⟨hp17_x69_63, ho17, ha17⟩ := hp17
                rw [ha17] at hW
                have w_x69_4 : m17 6904 = .long x69_4 := (ho17 6904 rfl).trans h_x69_4
                have w_x69_6 : m17 6906 = .int x69_6 := (ho17 6906 rfl).trans h_x69_6
                have w_x69_9 : m17 6909 = .int x69_9 := (ho17 6909 rfl).trans h_x69_9
                have w_x69_11 : m17 6911 = .int x69_11 := (ho17 6911 rfl).trans h_x69_11
                have w_x69_19 : m17 6919 = .long x69_19 := (ho17 6919 rfl).trans h_x69_19
                have w_x69_20 : m17 6920 = .int x69_20 := (ho17 6920 rfl).trans h_x69_20
                have w_x69_21 : m17 6921 = .int x69_21 := (ho17 6921 rfl).trans h_x69_21
                have w_x69_22 : m17 6922 = .int x69_22 := (ho17 6922 rfl).trans h_x69_22
                have w_x69_58 : m17 6958 = .int x69_58 := (ho17 6958 rfl).trans h_x69_58
                have w_x69_59 : m17 6959 = .int x69_59 := (ho17 6959 rfl).trans h_x69_59
                have w_x69_60 : m17 6960 = .int x69_60 := (ho17 6960 rfl).trans h_x69_60
                have w_x69_61 : m17 6961 = .long x69_61 := (ho17 6961 rfl).trans h_x69_61
                have w_x69_62 : m17 6962 = .int x69_62 := (ho17 6962 rfl).trans h_x69_62
                have w_x69_63 : m17 6963 = .int (fX12_wrong x69_58 x69_63 1) := hp17_x69_63
                have w_x69_64 : m17 6964 = .int x69_64 := (ho17 6964 rfl).trans h_x69_64
                have w_x69_65 : m17 6965 = .int x69_65 := (ho17 6965 rfl).trans h_x69_65
                have w_x69_66 : m17 6966 = .int x69_66 := (ho17 6966 rfl).trans h_x69_66
                have hoff := offm hoff ho17 (by decide +kernel)
                have hsh := SH.off hsh ho17 (by decide +kernel)
                have hs0 := Option.some.inj hs0
                subst hs0
                exact W.vret hx hb hr (fun t ht hw => ⟨⟨(m17, a0), rfl, ⟨w_x69_4, w_x69_6, w_x69_9, w_x69_11, w_x69_19, w_x69_20, w_x69_21, w_x69_22, w_x69_58, w_x69_59, w_x69_60, w_x69_61, w_x69_62, w_x69_63, w_x69_64, w_x69_65, w_x69_66, hoff, h_A70, h_A71, h_A72, h_A73, hoffa⟩, g_end hW ht hw⟩, hS.F ht⟩) hS.2.2 dX12_stepTold_247 hlocks
              · rw [if_neg c16] at hs0
                refine lv_aload_n hx hb dX12_stepTold_201 rfl (lv_at hl 0 rfl) ?_
                obtain ⟨r18, hf18, hs0⟩ := obind hs0
                refine g_Vv (n := 0) hx hb hml hown hG hW hS [] (kX12_next hN hsh ((hoff 6957 rfl).trans h_x69_57) h_x69_63 ((hoffa 75 rfl).trans h_A75) h_x69_58 h_x69_59 h_x69_60 h_x69_61 h_x69_62 F hf18) (ltN hN 69 rfl) gk69 (by decide) rfl rfl (gd_V gx1315 gx1316 gx1317 gx5 gx1318) rfl rfl (by decide) ⟨(show 1 + 1 ≤ kf + 24 by omega), (show 8 + (3 + 11) + 21 ≤ kl + 1000 by omega)⟩ rfl hl (Nat.le_of_ble_eq_true rfl) ⟨Nat.zero_le _, Nat.zero_le _⟩ dX12_stepTold_202 (fun m18 a18 H locs hp18 hW hS => ?_)
                obtain ⟨hp18_x69_58, hp18_x69_59, hp18_x69_60, hp18_x69_61, hp18_x69_62, ho18, ha18⟩ := hp18
                rw [ha18] at hW
                have w_x69_4 : m18 6904 = .long x69_4 := (ho18 6904 rfl).trans h_x69_4
                have w_x69_6 : m18 6906 = .int x69_6 := (ho18 6906 rfl).trans h_x69_6
                have w_x69_9 : m18 6909 = .int x69_9 := (ho18 6909 rfl).trans h_x69_9
                have w_x69_11 : m18 6911 = .int x69_11 := (ho18 6911 rfl).trans h_x69_11
                have w_x69_19 : m18 6919 = .long x69_19 := (ho18 6919 rfl).trans h_x69_19
                have w_x69_20 : m18 6920 = .int x69_20 := (ho18 6920 rfl).trans h_x69_20
                have w_x69_21 : m18 6921 = .int x69_21 := (ho18 6921 rfl).trans h_x69_21
                have w_x69_22 : m18 6922 = .int x69_22 := (ho18 6922 rfl).trans h_x69_22
                have w_x69_58 : m18 6958 = .int r18.1 := hp18_x69_58
                have w_x69_59 : m18 6959 = .int r18.2.1 := hp18_x69_59
                have w_x69_60 : m18 6960 = .int r18.2.2.1 := hp18_x69_60
                have w_x69_61 : m18 6961 = .long r18.2.2.2.1 := hp18_x69_61
                have w_x69_62 : m18 6962 = .int r18.2.2.2.2 := hp18_x69_62
                have w_x69_63 : m18 6963 = .int x69_63 := (ho18 6963 rfl).trans h_x69_63
                have w_x69_64 : m18 6964 = .int x69_64 := (ho18 6964 rfl).trans h_x69_64
                have w_x69_65 : m18 6965 = .int x69_65 := (ho18 6965 rfl).trans h_x69_65
                have w_x69_66 : m18 6966 = .int x69_66 := (ho18 6966 rfl).trans h_x69_66
                have hoff := offm hoff ho18 (by decide +kernel)
                have hsh := SH.off hsh ho18 (by decide +kernel)
                refine lv_aload_n hx hb dX12_stepTold_205 rfl (lv_at hl 0 rfl) ?_
                refine lv_iconst (v := 1) hx hb dX12_stepTold_206 (by decide) ?_
                refine lv_bipush (v := 9) hx hb dX12_stepTold_207 (by decide) ?_
                obtain ⟨r19, hf19, hs0⟩ := obind hs0
                refine g_Vi (n := 2) hx hb hml hown hG hW hS [.int 1, .int 9] (kX12_numberTold hN hsh ((hoff 6957 rfl).trans h_x69_57) ((hoffa 75 rfl).trans h_A75) w_x69_58 w_x69_59 w_x69_60 w_x69_61 w_x69_62 w_x69_63 F 1 9 hf19) (ltN hN 69 rfl) gk69 (by decide) rfl rfl (gd_V gx1349 gx1350 gx1351 gx5 gx1352) rfl rfl (by decide) ⟨(show 2 + 1 ≤ kf + 24 by omega), (show 8 + (4 + 11) + 43 ≤ kl + 1000 by omega)⟩ rfl hl (Nat.le_of_ble_eq_true rfl) ⟨Nat.zero_le _, Nat.zero_le _⟩ dX12_stepTold_209 (fun x19 m19 a19 H locs hp19 hW hS => ?_)
                obtain ⟨hx19, hp19_x69_58, hp19_x69_59, hp19_x69_60, hp19_x69_61, hp19_x69_62, hp19_x69_63, ho19, ha19⟩ := hp19
                subst hx19
                rw [ha19] at hW
                have w_x69_4 : m19 6904 = .long x69_4 := (ho19 6904 rfl).trans w_x69_4
                have w_x69_6 : m19 6906 = .int x69_6 := (ho19 6906 rfl).trans w_x69_6
                have w_x69_9 : m19 6909 = .int x69_9 := (ho19 6909 rfl).trans w_x69_9
                have w_x69_11 : m19 6911 = .int x69_11 := (ho19 6911 rfl).trans w_x69_11
                have w_x69_19 : m19 6919 = .long x69_19 := (ho19 6919 rfl).trans w_x69_19
                have w_x69_20 : m19 6920 = .int x69_20 := (ho19 6920 rfl).trans w_x69_20
                have w_x69_21 : m19 6921 = .int x69_21 := (ho19 6921 rfl).trans w_x69_21
                have w_x69_22 : m19 6922 = .int x69_22 := (ho19 6922 rfl).trans w_x69_22
                have w_x69_58 : m19 6958 = .int r19.2.1 := hp19_x69_58
                have w_x69_59 : m19 6959 = .int r19.2.2.1 := hp19_x69_59
                have w_x69_60 : m19 6960 = .int r19.2.2.2.1 := hp19_x69_60
                have w_x69_61 : m19 6961 = .long r19.2.2.2.2.1 := hp19_x69_61
                have w_x69_62 : m19 6962 = .int r19.2.2.2.2.2.1 := hp19_x69_62
                have w_x69_63 : m19 6963 = .int r19.2.2.2.2.2.2 := hp19_x69_63
                have w_x69_64 : m19 6964 = .int x69_64 := (ho19 6964 rfl).trans w_x69_64
                have w_x69_65 : m19 6965 = .int x69_65 := (ho19 6965 rfl).trans w_x69_65
                have w_x69_66 : m19 6966 = .int x69_66 := (ho19 6966 rfl).trans w_x69_66
                have hoff := offm hoff ho19 (by decide +kernel)
                have hsh := SH.off hsh ho19 (by decide +kernel)
                refine lv_istore_n (lv' := [(2, .int r19.1), (0, .ref (q 69)), (1, .int p1)]) hx hb dX12_stepTold_212 rfl hl (by decide) rfl (fun ls hl => ?_)
                refine lv_aload_n hx hb dX12_stepTold_213 rfl (lv_at hl 1 rfl) ?_
                refine gf12_64 hx hb hG hown hW (o := 69) (ltN hN 69 rfl) gk69 (v := .int x69_64) w_x69_64 gx1311 dX12_stepTold_214 ?_
                refine lv_if_eq (tgt := 239) hx hb dX12_stepTold_217 (by decide) (fun c20 => ?_) (fun c20 => ?_)
                · rw [if_pos c20] at hs0
                  refine lv_goto (tgt := 247) hx hb dX12_stepTold_239 (by decide) ?_
                  have hs0 := Option.some.inj hs0
                  subst hs0
                  exact W.vret hx hb hr (fun t ht hw => ⟨⟨(m19, a0), rfl, ⟨w_x69_4, w_x69_6, w_x69_9, w_x69_11, w_x69_19, w_x69_20, w_x69_21, w_x69_22, w_x69_58, w_x69_59, w_x69_60, w_x69_61, w_x69_62, w_x69_63, w_x69_64, w_x69_65, w_x69_66, hoff, h_A70, h_A71, h_A72, h_A73, hoffa⟩, g_end hW ht hw⟩, hS.F ht⟩) hS.2.2 dX12_stepTold_247 hlocks
                · rw [if_neg c20] at hs0
                  refine lv_aload_n hx hb dX12_stepTold_220 rfl (lv_at hl 1 rfl) ?_
                  refine gf12_66 hx hb hG hown hW (o := 69) (ltN hN 69 rfl) gk69 (v := .int x69_66) w_x69_66 gx1312 dX12_stepTold_221 ?_
                  refine lv_if_ne (tgt := 239) hx hb dX12_stepTold_224 (by decide) (fun c21 => ?_) (fun c21 => ?_)
                  · rw [if_neg c21] at hs0
                    refine lv_goto (tgt := 247) hx hb dX12_stepTold_239 (by decide) ?_
                    have hs0 := Option.some.inj hs0
                    subst hs0
                    exact W.vret hx hb hr (fun t ht hw => ⟨⟨(m19, a0), rfl, ⟨w_x69_4, w_x69_6, w_x69_9, w_x69_11, w_x69_19, w_x69_20, w_x69_21, w_x69_22, w_x69_58, w_x69_59, w_x69_60, w_x69_61, w_x69_62, w_x69_63, w_x69_64, w_x69_65, w_x69_66, hoff, h_A70, h_A71, h_A72, h_A73, hoffa⟩, g_end hW ht hw⟩, hS.F ht⟩) hS.2.2 dX12_stepTold_247 hlocks
                  · rw [if_pos c21] at hs0
                    refine lv_aload_n hx hb dX12_stepTold_227 rfl (lv_at hl 1 rfl) ?_
                    refine gf12_63 hx hb hG hown hW (o := 69) (ltN hN 69 rfl) gk69 (v := .int r19.2.2.2.2.2.2) w_x69_63 gx1305 dX12_stepTold_228 ?_
                    refine lv_if_ne (tgt := 239) hx hb dX12_stepTold_231 (by decide) (fun c22 => ?_) (fun c22 => ?_)
                    · rw [if_neg c22] at hs0
                      refine lv_goto (tgt := 247) hx hb dX12_stepTold_239 (by decide) ?_
                      have hs0 := Option.some.inj hs0
                      subst hs0
                      exact W.vret hx hb hr (fun t ht hw => ⟨⟨(m19, a0), rfl, ⟨w_x69_4, w_x69_6, w_x69_9, w_x69_11, w_x69_19, w_x69_20, w_x69_21, w_x69_22, w_x69_58, w_x69_59, w_x69_60, w_x69_61, w_x69_62, w_x69_63, w_x69_64, w_x69_65, w_x69_66, hoff, h_A70, h_A71, h_A72, h_A73, hoffa⟩, g_end hW ht hw⟩, hS.F ht⟩) hS.2.2 dX12_stepTold_247 hlocks
                    · rw [if_pos c22] at hs0
                      refine lv_aload_n hx hb dX12_stepTold_234 rfl (lv_at hl 1 rfl) ?_
                      refine lv_iload_n hx hb dX12_stepTold_235 rfl (lv_at hl 0 rfl) ?_
                      obtain ⟨r23, hf23, hs0⟩ := obind hs0
                      refine g_Vv (n := 1) hx hb hml hown hG hW hS [.int r19.1] (kX12_clears hN hsh ((hoff 6900 rfl).trans h_x69_0) ((hoff 6901 rfl).trans h_x69_1) ((hoff 6902 rfl).trans h_x69_2) ((hoff 6903 rfl).trans h_x69_3) w_x69_63 w_x69_64 w_x69_4 w_x69_6 w_x69_9 w_x69_11 w_x69_19 w_x69_20 w_x69_21 w_x69_22 w_x69_65 w_x69_66 h_A70 h_A71 h_A72 h_A73 F r19.1 hf23) (ltN hN 69 rfl) gk69 (by decide) rfl rfl (gd_V gx1370 gx1371 gx1372 gx5 gx1373) rfl rfl (by decide) ⟨(show 5 + 1 ≤ kf + 24 by omega), (show 8 + (6 + 11) + 123 ≤ kl + 1000 by omega)⟩ rfl hl (Nat.le_of_ble_eq_true rfl) ⟨Nat.zero_le _, Nat.zero_le _⟩ dX12_stepTold_236 (fun m23 a23 H locs hp23 hW hS => ?_)
                      obtain ⟨hp23_x69_4, hp23_x69_6, hp23_x69_9, hp23_x69_11, hp23_x69_19, hp23_x69_20, hp23_x69_21, hp23_x69_22, hp23_x69_65, hp23_x69_66, ho23, hp23_A70, hp23_A71, hp23_A72, hp23_A73, hoa23⟩ := hp23
                      have w_x69_4 : m23 6904 = .long r23.1 := hp23_x69_4
                      have w_x69_6 : m23 6906 = .int r23.2.1 := hp23_x69_6
                      have w_x69_9 : m23 6909 = .int r23.2.2.1 := hp23_x69_9
                      have w_x69_11 : m23 6911 = .int r23.2.2.2.1 := hp23_x69_11
                      have w_x69_19 : m23 6919 = .long r23.2.2.2.2.1 := hp23_x69_19
                      have w_x69_20 : m23 6920 = .int r23.2.2.2.2.2.1 := hp23_x69_20
                      have w_x69_21 : m23 6921 = .int r23.2.2.2.2.2.2.1 := hp23_x69_21
                      have w_x69_22 : m23 6922 = .int r23.2.2.2.2.2.2.2.1 := hp23_x69_22
                      have w_x69_58 : m23 6958 = .int r19.2.1 := (ho23 6958 rfl).trans w_x69_58
                      have w_x69_59 : m23 6959 = .int r19.2.2.1 := (ho23 6959 rfl).trans w_x69_59
                      have w_x69_60 : m23 6960 = .int r19.2.2.2.1 := (ho23 6960 rfl).trans w_x69_60
                      have w_x69_61 : m23 6961 = .long r19.2.2.2.2.1 := (ho23 6961 rfl).trans w_x69_61
                      have w_x69_62 : m23 6962 = .int r19.2.2.2.2.2.1 := (ho23 6962 rfl).trans w_x69_62
                      have w_x69_63 : m23 6963 = .int r19.2.2.2.2.2.2 := (ho23 6963 rfl).trans w_x69_63
                      have w_x69_64 : m23 6964 = .int x69_64 := (ho23 6964 rfl).trans w_x69_64
                      have w_x69_65 : m23 6965 = .int r23.2.2.2.2.2.2.2.2.1 := hp23_x69_65
                      have w_x69_66 : m23 6966 = .int r23.2.2.2.2.2.2.2.2.2.1 := hp23_x69_66
                      have hoff := offm hoff ho23 (by decide +kernel)
                      have hsh := SH.off hsh ho23 (by decide +kernel)
                      have w_A70 : a23 70 = (30, .inl r23.2.2.2.2.2.2.2.2.2.2.1) := hp23_A70
                      have w_A71 : a23 71 = (8, .inl r23.2.2.2.2.2.2.2.2.2.2.2.1) := hp23_A71
                      have w_A72 : a23 72 = (40, .inl r23.2.2.2.2.2.2.2.2.2.2.2.2.1) := hp23_A72
                      have w_A73 : a23 73 = (40, .inl r23.2.2.2.2.2.2.2.2.2.2.2.2.2) := hp23_A73
                      have hoffa := offm hoffa hoa23 (by decide +kernel)
                      refine lv_goto (tgt := 247) hx hb dX12_stepTold_239 (by decide) ?_
                      have hs0 := Option.some.inj hs0
                      subst hs0
                      exact W.vret hx hb hr (fun t ht hw => ⟨⟨(m23, a23), rfl, ⟨w_x69_4, w_x69_6, w_x69_9, w_x69_11, w_x69_19, w_x69_20, w_x69_21, w_x69_22, w_x69_58, w_x69_59, w_x69_60, w_x69_61, w_x69_62, w_x69_63, w_x69_64, w_x69_65, w_x69_66, hoff, w_A70, w_A71, w_A72, w_A73, hoffa⟩, g_end hW ht hw⟩, hS.F ht⟩) hS.2.2 dX12_stepTold_247 hlocks
            · rw [if_neg c14] at hs0
              refine lv_iload_n hx hb dX12_stepTold_167 rfl (lv_at hl 1 rfl) ?_
              refine lv_iconst (v := 4) hx hb dX12_stepTold_168 (by decide) ?_
              refine lv_icmp_ne (tgt := 177) hx hb dX12_stepTold_169 (by decide) (fun c24 => ?_) (fun c24 => ?_)
              · rw [if_neg c24] at hs0
                exact hJ177_0 p1 x69_4 x69_6 x69_9 x69_11 x69_19 x69_20 x69_21 x69_22 x69_58 x69_59 x69_60 x69_61 x69_62 x69_63 x69_64 x69_65 x69_66 A70 A71 A72 A73 m0 a0 _ _ h_x69_4 h_x69_6 h_x69_9 h_x69_11 h_x69_19 h_x69_20 h_x69_21 h_x69_22 h_x69_58 h_x69_59 h_x69_60 h_x69_61 h_x69_62 h_x69_63 h_x69_64 h_x69_65 h_x69_66 hoff hsh h_A70 h_A71 h_A72 h_A73 hoffa ls (lv_sub hl [0, 1] rfl) hs0 hW hS
              · rw [if_pos c24] at hs0
                refine lv_aload_n hx hb dX12_stepTold_172 rfl (lv_at hl 0 rfl) ?_
                refine lv_iconst (v := 3) hx hb dX12_stepTold_173 (by decide) ?_
                refine g_Vv (n := 1) hx hb hml hown hG hW hS [.int 3] (kX12_wrong hN hsh h_x69_58 h_x69_63 3) (ltN hN 69 rfl) gk69 (by decide) rfl rfl (gd_V gx1344 gx1345 gx1346 gx5 gx1347) rfl rfl (by decide) ⟨(show 0 + 1 ≤ kf + 24 by omega), (show 8 + (2 + 11) + 0 ≤ kl + 1000 by omega)⟩ rfl hl (Nat.le_of_ble_eq_true rfl) ⟨Nat.zero_le _, Nat.zero_le _⟩ dX12_stepTold_174 (fun m26 a26 H locs hp26 hW hS => ?_)
                obtain ⟨hp26_x69_63, ho26, ha26⟩ := hp26
                rw [ha26] at hW
                have w_x69_4 : m26 6904 = .long x69_4 := (ho26 6904 rfl).trans h_x69_4
                have w_x69_6 : m26 6906 = .int x69_6 := (ho26 6906 rfl).trans h_x69_6
                have w_x69_9 : m26 6909 = .int x69_9 := (ho26 6909 rfl).trans h_x69_9
                have w_x69_11 : m26 6911 = .int x69_11 := (ho26 6911 rfl).trans h_x69_11
                have w_x69_19 : m26 6919 = .long x69_19 := (ho26 6919 rfl).trans h_x69_19
                have w_x69_20 : m26 6920 = .int x69_20 := (ho26 6920 rfl).trans h_x69_20
                have w_x69_21 : m26 6921 = .int x69_21 := (ho26 6921 rfl).trans h_x69_21
                have w_x69_22 : m26 6922 = .int x69_22 := (ho26 6922 rfl).trans h_x69_22
                have w_x69_58 : m26 6958 = .int x69_58 := (ho26 6958 rfl).trans h_x69_58
                have w_x69_59 : m26 6959 = .int x69_59 := (ho26 6959 rfl).trans h_x69_59
                have w_x69_60 : m26 6960 = .int x69_60 := (ho26 6960 rfl).trans h_x69_60
                have w_x69_61 : m26 6961 = .long x69_61 := (ho26 6961 rfl).trans h_x69_61
                have w_x69_62 : m26 6962 = .int x69_62 := (ho26 6962 rfl).trans h_x69_62
                have w_x69_63 : m26 6963 = .int (fX12_wrong x69_58 x69_63 3) := hp26_x69_63
                have w_x69_64 : m26 6964 = .int x69_64 := (ho26 6964 rfl).trans h_x69_64
                have w_x69_65 : m26 6965 = .int x69_65 := (ho26 6965 rfl).trans h_x69_65
                have w_x69_66 : m26 6966 = .int x69_66 := (ho26 6966 rfl).trans h_x69_66
                have hoff := offm hoff ho26 (by decide +kernel)
                have hsh := SH.off hsh ho26 (by decide +kernel)
                exact hJ177_0 p1 x69_4 x69_6 x69_9 x69_11 x69_19 x69_20 x69_21 x69_22 x69_58 x69_59 x69_60 x69_61 x69_62 (fX12_wrong x69_58 x69_63 3) x69_64 x69_65 x69_66 A70 A71 A72 A73 m26 a0 _ _ w_x69_4 w_x69_6 w_x69_9 w_x69_11 w_x69_19 w_x69_20 w_x69_21 w_x69_22 w_x69_58 w_x69_59 w_x69_60 w_x69_61 w_x69_62 w_x69_63 w_x69_64 w_x69_65 w_x69_66 hoff hsh h_A70 h_A71 h_A72 h_A73 hoffa ls (lv_sub hl [0, 1] rfl) hs0 hW hS
          · rw [if_neg c12] at hs0
            exact hJ115_0 x69_4 x69_6 x69_9 x69_11 x69_19 x69_20 x69_21 x69_22 x69_58 x69_59 x69_60 x69_61 x69_62 x69_63 x69_64 x69_65 x69_66 A70 A71 A72 A73 m0 a0 _ _ h_x69_4 h_x69_6 h_x69_9 h_x69_11 h_x69_19 h_x69_20 h_x69_21 h_x69_22 h_x69_58 h_x69_59 h_x69_60 h_x69_61 h_x69_62 h_x69_63 h_x69_64 h_x69_65 h_x69_66 hoff hsh h_A70 h_A71 h_A72 h_A73 hoffa ls (lv_sub hl [0] rfl) hs0 hW hS
      · rw [if_neg c7] at hs0
        exact hJ44_0 x69_4 x69_6 x69_9 x69_11 x69_19 x69_20 x69_21 x69_22 x69_58 x69_59 x69_60 x69_61 x69_62 x69_63 x69_64 x69_65 x69_66 A70 A71 A72 A73 m0 a0 _ _ h_x69_4 h_x69_6 h_x69_9 h_x69_11 h_x69_19 h_x69_20 h_x69_21 h_x69_22 h_x69_58 h_x69_59 h_x69_60 h_x69_61 h_x69_62 h_x69_63 h_x69_64 h_x69_65 h_x69_66 hoff hsh h_A70 h_A71 h_A72 h_A73 hoffa ls (lv_sub hl [0] rfl) hs0 hW hS
  · rw [if_neg c2] at hs0
    refine lv_aload_n hx hb dX12_stepTold_10 rfl (lv_at hl 0 rfl) ?_
    obtain ⟨r27, hf27, hs0⟩ := obind hs0
    refine g_Vv (n := 0) hx hb hml hown hG hW hS [] (kX12_next hN hsh ((hoff 6957 rfl).trans h_x69_57) h_x69_63 ((hoffa 75 rfl).trans h_A75) h_x69_58 h_x69_59 h_x69_60 h_x69_61 h_x69_62 F hf27) (ltN hN 69 rfl) gk69 (by decide) rfl rfl (gd_V gx1315 gx1316 gx1317 gx5 gx1318) rfl rfl (by decide) ⟨(show 1 + 1 ≤ kf + 24 by omega), (show 8 + (3 + 11) + 21 ≤ kl + 1000 by omega)⟩ rfl hl (Nat.le_of_ble_eq_true rfl) ⟨Nat.zero_le _, Nat.zero_le _⟩ dX12_stepTold_11 (fun m27 a27 H locs hp27 hW hS => ?_)
    obtain ⟨hp27_x69_58, hp27_x69_59, hp27_x69_60, hp27_x69_61, hp27_x69_62, ho27, ha27⟩ := hp27
    rw [ha27] at hW
    have w_x69_4 : m27 6904 = .long x69_4 := (ho27 6904 rfl).trans h_x69_4
    have w_x69_6 : m27 6906 = .int x69_6 := (ho27 6906 rfl).trans h_x69_6
    have w_x69_9 : m27 6909 = .int x69_9 := (ho27 6909 rfl).trans h_x69_9
    have w_x69_11 : m27 6911 = .int x69_11 := (ho27 6911 rfl).trans h_x69_11
    have w_x69_19 : m27 6919 = .long x69_19 := (ho27 6919 rfl).trans h_x69_19
    have w_x69_20 : m27 6920 = .int x69_20 := (ho27 6920 rfl).trans h_x69_20
    have w_x69_21 : m27 6921 = .int x69_21 := (ho27 6921 rfl).trans h_x69_21
    have w_x69_22 : m27 6922 = .int x69_22 := (ho27 6922 rfl).trans h_x69_22
    have w_x69_58 : m27 6958 = .int r27.1 := hp27_x69_58
    have w_x69_59 : m27 6959 = .int r27.2.1 := hp27_x69_59
    have w_x69_60 : m27 6960 = .int r27.2.2.1 := hp27_x69_60
    have w_x69_61 : m27 6961 = .long r27.2.2.2.1 := hp27_x69_61
    have w_x69_62 : m27 6962 = .int r27.2.2.2.2 := hp27_x69_62
    have w_x69_63 : m27 6963 = .int x69_63 := (ho27 6963 rfl).trans h_x69_63
    have w_x69_64 : m27 6964 = .int x69_64 := (ho27 6964 rfl).trans h_x69_64
    have w_x69_65 : m27 6965 = .int x69_65 := (ho27 6965 rfl).trans h_x69_65
    have w_x69_66 : m27 6966 = .int x69_66 := (ho27 6966 rfl).trans h_x69_66
    have hoff := offm hoff ho27 (by decide +kernel)
    have hsh := SH.off hsh ho27 (by decide +kernel)
    refine lv_aload_n hx hb dX12_stepTold_14 rfl (lv_at hl 0 rfl) ?_
    refine lv_iconst (v := 0) hx hb dX12_stepTold_15 (by decide) ?_
    refine lv_iconst (v := (-1)) hx hb dX12_stepTold_16 (by decide) ?_
    refine lv_iconst (v := (-1)) hx hb dX12_stepTold_17 (by decide) ?_
    obtain ⟨r28, hf28, hs0⟩ := obind hs0
    refine g_Vv (n := 3) hx hb hml hown hG hW hS [.int 0, .int (-1), .int (-1)] (kX12_acting hN hsh ((hoff 6900 rfl).trans h_x69_0) ((hoff 6901 rfl).trans h_x69_1) ((hoff 6902 rfl).trans h_x69_2) ((hoff 6903 rfl).trans h_x69_3) w_x69_63 w_x69_64 w_x69_4 w_x69_6 w_x69_9 w_x69_11 w_x69_19 w_x69_20 w_x69_21 w_x69_22 w_x69_65 w_x69_66 h_A70 h_A71 h_A72 h_A73 F 0 (-1) (-1) hf28) (ltN hN 69 rfl) gk69 (by decide) rfl rfl (gd_V gx1363 gx1364 gx1365 gx5 gx1366) rfl rfl (by decide) ⟨(show 4 + 1 ≤ kf + 24 by omega), (show 8 + (4 + 11) + 100 ≤ kl + 1000 by omega)⟩ rfl hl (Nat.le_of_ble_eq_true rfl) ⟨Nat.zero_le _, Nat.zero_le _⟩ dX12_stepTold_18 (fun m28 a28 H locs hp28 hW hS => ?_)
    obtain ⟨hp28_x69_4, hp28_x69_6, hp28_x69_9, hp28_x69_11, hp28_x69_19, hp28_x69_20, hp28_x69_21, hp28_x69_22, hp28_x69_65, hp28_x69_66, ho28, hp28_A70, hp28_A71, hp28_A72, hp28_A73, hoa28⟩ := hp28
    have w_x69_4 : m28 6904 = .long r28.1 := hp28_x69_4
    have w_x69_6 : m28 6906 = .int r28.2.1 := hp28_x69_6
    have w_x69_9 : m28 6909 = .int r28.2.2.1 := hp28_x69_9
    have w_x69_11 : m28 6911 = .int r28.2.2.2.1 := hp28_x69_11
    have w_x69_19 : m28 6919 = .long r28.2.2.2.2.1 := hp28_x69_19
    have w_x69_20 : m28 6920 = .int r28.2.2.2.2.2.1 := hp28_x69_20
    have w_x69_21 : m28 6921 = .int r28.2.2.2.2.2.2.1 := hp28_x69_21
    have w_x69_22 : m28 6922 = .int r28.2.2.2.2.2.2.2.1 := hp28_x69_22
    have w_x69_58 : m28 6958 = .int r27.1 := (ho28 6958 rfl).trans w_x69_58
    have w_x69_59 : m28 6959 = .int r27.2.1 := (ho28 6959 rfl).trans w_x69_59
    have w_x69_60 : m28 6960 = .int r27.2.2.1 := (ho28 6960 rfl).trans w_x69_60
    have w_x69_61 : m28 6961 = .long r27.2.2.2.1 := (ho28 6961 rfl).trans w_x69_61
    have w_x69_62 : m28 6962 = .int r27.2.2.2.2 := (ho28 6962 rfl).trans w_x69_62
    have w_x69_63 : m28 6963 = .int x69_63 := (ho28 6963 rfl).trans w_x69_63
    have w_x69_64 : m28 6964 = .int x69_64 := (ho28 6964 rfl).trans w_x69_64
    have w_x69_65 : m28 6965 = .int r28.2.2.2.2.2.2.2.2.1 := hp28_x69_65
    have w_x69_66 : m28 6966 = .int r28.2.2.2.2.2.2.2.2.2.1 := hp28_x69_66
    have hoff := offm hoff ho28 (by decide +kernel)
    have hsh := SH.off hsh ho28 (by decide +kernel)
    have w_A70 : a28 70 = (30, .inl r28.2.2.2.2.2.2.2.2.2.2.1) := hp28_A70
    have w_A71 : a28 71 = (8, .inl r28.2.2.2.2.2.2.2.2.2.2.2.1) := hp28_A71
    have w_A72 : a28 72 = (40, .inl r28.2.2.2.2.2.2.2.2.2.2.2.2.1) := hp28_A72
    have w_A73 : a28 73 = (40, .inl r28.2.2.2.2.2.2.2.2.2.2.2.2.2) := hp28_A73
    have hoffa := offm hoffa hoa28 (by decide +kernel)
    refine lv_goto (tgt := 247) hx hb dX12_stepTold_21 (by decide) ?_
    have hs0 := Option.some.inj hs0
    subst hs0
    exact W.vret hx hb hr (fun t ht hw => ⟨⟨(m28, a28), rfl, ⟨w_x69_4, w_x69_6, w_x69_9, w_x69_11, w_x69_19, w_x69_20, w_x69_21, w_x69_22, w_x69_58, w_x69_59, w_x69_60, w_x69_61, w_x69_62, w_x69_63, w_x69_64, w_x69_65, w_x69_66, hoff, w_A70, w_A71, w_A72, w_A73, hoffa⟩, g_end hW ht hw⟩, hS.F ht⟩) hS.2.2 dX12_stepTold_247 hlocks
-- HealLinkModel.stepsTold (I)V
def fX12_stepsTold_J31 (rec : Int32 → Int32 → Int32 → Int32 → Int32 → (Nat → Int32) → Int64 → Int32 → Int32 → Int32 → Int64 → Int32 → Int32 → Int32 → Int32 → Int32 → Int32 → Int64 → Int32 → Int32 → Int32 → Int32 → Int32 → (Nat → Int32) → (Nat → Int32) → (Nat → Int32) → (Nat → Int32) → Int32 → Option (Int64 × Int32 × Int32 × Int32 × Int64 × Int32 × Int32 × Int32 × Int32 × Int32 × Int32 × Int64 × Int32 × Int32 × Int32 × Int32 × Int32 × (Nat → Int32) × (Nat → Int32) × (Nat → Int32) × (Nat → Int32))) (F : Nat) (x69_0 : Int32) (x69_1 : Int32) (x69_2 : Int32) (x69_3 : Int32) (x69_57 : Int32) (A75 : Nat → Int32) (v1 : Int32) (x69_4j5 : Int64) (x69_6j5 : Int32) (x69_9j5 : Int32) (x69_11j5 : Int32) (x69_19j5 : Int64) (x69_20j5 : Int32) (x69_21j5 : Int32) (x69_22j5 : Int32) (x69_58j5 : Int32) (x69_59j5 : Int32) (x69_60j5 : Int32) (x69_61j5 : Int64) (x69_62j5 : Int32) (x69_63j5 : Int32) (x69_64j5 : Int32) (x69_65j5 : Int32) (x69_66j5 : Int32) (A70j5 : Nat → Int32) (A71j5 : Nat → Int32) (A72j5 : Nat → Int32) (A73j5 : Nat → Int32) : Option (((Int64 × Int32 × Int32 × Int32 × Int64 × Int32 × Int32 × Int32 × Int32 × Int32 × Int32 × Int64 × Int32 × Int32 × Int32 × Int32 × Int32 × (Nat → Int32) × (Nat → Int32) × (Nat → Int32) × (Nat → Int32)) ⊕ (Int64 × Int32 × Int32 × Int32 × Int64 × Int32 × Int32 × Int32 × Int32 × Int32 × Int32 × Int64 × Int32 × Int32 × Int32 × Int32 × Int32 × (Nat → Int32) × (Nat → Int32) × (Nat → Int32) × (Nat → Int32))) ⊕ (Int64 × Int32 × Int32 × Int32 × Int64 × Int32 × Int32 × Int32 × Int32 × Int32 × Int32 × Int64 × Int32 × Int32 × Int32 × Int32 × Int32 × (Nat → Int32) × (Nat → Int32) × (Nat → Int32) × (Nat → Int32))) := ((fX12_stepTold rec F x69_0 x69_1 x69_2 x69_3 x69_57 A75 x69_4j5 x69_6j5 x69_9j5 x69_11j5 x69_19j5 x69_20j5 x69_21j5 x69_22j5 x69_58j5 x69_59j5 x69_60j5 x69_61j5 x69_62j5 x69_63j5 x69_64j5 x69_65j5 x69_66j5 A70j5 A71j5 A72j5 A73j5 v1).bind (fun r7 => ((fX12_must F x69_57 A75 r7.2.2.2.2.2.2.2.2.1 r7.2.2.2.2.2.2.2.2.2.1 r7.2.2.2.2.2.2.2.2.2.2.1 r7.2.2.2.2.2.2.2.2.2.2.2.1 r7.2.2.2.2.2.2.2.2.2.2.2.2.1 r7.2.2.2.2.2.2.2.2.2.2.2.2.2.1 59).bind (fun r8 => (if r7.2.2.2.2.2.2.2.2.2.2.2.2.2.2.2.2.1 = 0 then some (Sum.inr (r7.1, r7.2.1, r7.2.2.1, r7.2.2.2.1, r7.2.2.2.2.1, r7.2.2.2.2.2.1, r7.2.2.2.2.2.2.1, r7.2.2.2.2.2.2.2.1, r8.1, r8.2.1, r8.2.2.1, r8.2.2.2.1, r8.2.2.2.2.1, r8.2.2.2.2.2, r7.2.2.2.2.2.2.2.2.2.2.2.2.2.2.1, r7.2.2.2.2.2.2.2.2.2.2.2.2.2.2.2.1, r7.2.2.2.2.2.2.2.2.2.2.2.2.2.2.2.2.1, r7.2.2.2.2.2.2.2.2.2.2.2.2.2.2.2.2.2.1, r7.2.2.2.2.2.2.2.2.2.2.2.2.2.2.2.2.2.2.1, r7.2.2.2.2.2.2.2.2.2.2.2.2.2.2.2.2.2.2.2.1, r7.2.2.2.2.2.2.2.2.2.2.2.2.2.2.2.2.2.2.2.2)) else (if r7.2.2.2.2.2.2.2.2.2.2.2.2.2.2.1 = 0 then some (Sum.inr (r7.1, r7.2.1, r7.2.2.1, r7.2.2.2.1, r7.2.2.2.2.1, r7.2.2.2.2.2.1, r7.2.2.2.2.2.2.1, r7.2.2.2.2.2.2.2.1, r8.1, r8.2.1, r8.2.2.1, r8.2.2.2.1, r8.2.2.2.2.1, r8.2.2.2.2.2, r7.2.2.2.2.2.2.2.2.2.2.2.2.2.2.1, r7.2.2.2.2.2.2.2.2.2.2.2.2.2.2.2.1, r7.2.2.2.2.2.2.2.2.2.2.2.2.2.2.2.2.1, r7.2.2.2.2.2.2.2.2.2.2.2.2.2.2.2.2.2.1, r7.2.2.2.2.2.2.2.2.2.2.2.2.2.2.2.2.2.2.1, r7.2.2.2.2.2.2.2.2.2.2.2.2.2.2.2.2.2.2.2.1, r7.2.2.2.2.2.2.2.2.2.2.2.2.2.2.2.2.2.2.2.2)) else some (Sum.inl (Sum.inl (r7.1, r7.2.1, r7.2.2.1, r7.2.2.2.1, r7.2.2.2.2.1, r7.2.2.2.2.2.1, r7.2.2.2.2.2.2.1, r7.2.2.2.2.2.2.2.1, r8.1, r8.2.1, r8.2.2.1, r8.2.2.2.1, r8.2.2.2.2.1, r8.2.2.2.2.2, r7.2.2.2.2.2.2.2.2.2.2.2.2.2.2.1, r7.2.2.2.2.2.2.2.2.2.2.2.2.2.2.2.1, r7.2.2.2.2.2.2.2.2.2.2.2.2.2.2.2.2.1, r7.2.2.2.2.2.2.2.2.2.2.2.2.2.2.2.2.2.1, r7.2.2.2.2.2.2.2.2.2.2.2.2.2.2.2.2.2.2.1, r7.2.2.2.2.2.2.2.2.2.2.2.2.2.2.2.2.2.2.2.1, r7.2.2.2.2.2.2.2.2.2.2.2.2.2.2.2.2.2.2.2.2)))))))))
def fX12_stepsTold_S0 (rec : Int32 → Int32 → Int32 → Int32 → Int32 → (Nat → Int32) → Int64 → Int32 → Int32 → Int32 → Int64 → Int32 → Int32 → Int32 → Int32 → Int32 → Int32 → Int64 → Int32 → Int32 → Int32 → Int32 → Int32 → (Nat → Int32) → (Nat → Int32) → (Nat → Int32) → (Nat → Int32) → Int32 → Option (Int64 × Int32 × Int32 × Int32 × Int64 × Int32 × Int32 × Int32 × Int32 × Int32 × Int32 × Int64 × Int32 × Int32 × Int32 × Int32 × Int32 × (Nat → Int32) × (Nat → Int32) × (Nat → Int32) × (Nat → Int32))) (F : Nat) (x69_0 : Int32) (x69_1 : Int32) (x69_2 : Int32) (x69_3 : Int32) (x69_57 : Int32) (A75 : Nat → Int32) (v1 : Int32) (x69_4 : Int64) (x69_6 : Int32) (x69_9 : Int32) (x69_11 : Int32) (x69_19 : Int64) (x69_20 : Int32) (x69_21 : Int32) (x69_22 : Int32) (x69_58 : Int32) (x69_59 : Int32) (x69_60 : Int32) (x69_61 : Int64) (x69_62 : Int32) (x69_63 : Int32) (x69_64 : Int32) (x69_65 : Int32) (x69_66 : Int32) (A70 : Nat → Int32) (A71 : Nat → Int32) (A72 : Nat → Int32) (A73 : Nat → Int32) : Option (((Int64 × Int32 × Int32 × Int32 × Int64 × Int32 × Int32 × Int32 × Int32 × Int32 × Int32 × Int64 × Int32 × Int32 × Int32 × Int32 × Int32 × (Nat → Int32) × (Nat → Int32) × (Nat → Int32) × (Nat → Int32)) ⊕ (Int64 × Int32 × Int32 × Int32 × Int64 × Int32 × Int32 × Int32 × Int32 × Int32 × Int32 × Int64 × Int32 × Int32 × Int32 × Int32 × Int32 × (Nat → Int32) × (Nat → Int32) × (Nat → Int32) × (Nat → Int32))) ⊕ (Int64 × Int32 × Int32 × Int32 × Int64 × Int32 × Int32 × Int32 × Int32 × Int32 × Int32 × Int64 × Int32 × Int32 × Int32 × Int32 × Int32 × (Nat → Int32) × (Nat → Int32) × (Nat → Int32) × (Nat → Int32))) := (if x69_63 = 0 then (if x69_60 = 0 then some (Sum.inl (Sum.inr ((x69_4, x69_6, x69_9, x69_11, x69_19, x69_20, x69_21, x69_22, x69_58, x69_59, x69_60, x69_61, x69_62, x69_63, x69_64, x69_65, x69_66, A70, A71, A72, A73)))) else (if x69_60 = 3 then (if x69_62 = 93 then some (Sum.inl (Sum.inr ((x69_4, x69_6, x69_9, x69_11, x69_19, x69_20, x69_21, x69_22, x69_58, x69_59, x69_60, x69_61, x69_62, x69_63, x69_64, x69_65, x69_66, A70, A71, A72, A73)))) else fX12_stepsTold_J31 rec F x69_0 x69_1 x69_2 x69_3 x69_57 A75 v1 x69_4 x69_6 x69_9 x69_11 x69_19 x69_20 x69_21 x69_22 x69_58 x69_59 x69_60 x69_61 x69_62 x69_63 x69_64 x69_65 x69_66 A70 A71 A72 A73) else fX12_stepsTold_J31 rec F x69_0 x69_1 x69_2 x69_3 x69_57 A75 v1 x69_4 x69_6 x69_9 x69_11 x69_19 x69_20 x69_21 x69_22 x69_58 x69_59 x69_60 x69_61 x69_62 x69_63 x69_64 x69_65 x69_66 A70 A71 A72 A73)) else some (Sum.inl (Sum.inr ((x69_4, x69_6, x69_9, x69_11, x69_19, x69_20, x69_21, x69_22, x69_58, x69_59, x69_60, x69_61, x69_62, x69_63, x69_64, x69_65, x69_66, A70, A71, A72, A73)))))
def fX12_stepsTold_B (rec : Int32 → Int32 → Int32 → Int32 → Int32 → (Nat → Int32) → Int64 → Int32 → Int32 → Int32 → Int64 → Int32 → Int32 → Int32 → Int32 → Int32 → Int32 → Int64 → Int32 → Int32 → Int32 → Int32 → Int32 → (Nat → Int32) → (Nat → Int32) → (Nat → Int32) → (Nat → Int32) → Int32 → Option (Int64 × Int32 × Int32 × Int32 × Int64 × Int32 × Int32 × Int32 × Int32 × Int32 × Int32 × Int64 × Int32 × Int32 × Int32 × Int32 × Int32 × (Nat → Int32) × (Nat → Int32) × (Nat → Int32) × (Nat → Int32))) (F : Nat) (x69_0 : Int32) (x69_1 : Int32) (x69_2 : Int32) (x69_3 : Int32) (x69_57 : Int32) (A75 : Nat → Int32) (x69_4 : Int64) (x69_6 : Int32) (x69_9 : Int32) (x69_11 : Int32) (x69_19 : Int64) (x69_20 : Int32) (x69_21 : Int32) (x69_22 : Int32) (x69_58 : Int32) (x69_59 : Int32) (x69_60 : Int32) (x69_61 : Int64) (x69_62 : Int32) (x69_63 : Int32) (x69_64 : Int32) (x69_65 : Int32) (x69_66 : Int32) (A70 : Nat → Int32) (A71 : Nat → Int32) (A72 : Nat → Int32) (A73 : Nat → Int32) (p1 : Int32) : Option (Int64 × Int32 × Int32 × Int32 × Int64 × Int32 × Int32 × Int32 × Int32 × Int32 × Int32 × Int64 × Int32 × Int32 × Int32 × Int32 × Int32 × (Nat → Int32) × (Nat → Int32) × (Nat → Int32) × (Nat → Int32)) := (gloop (fun u1 : (Int64 × Int32 × Int32 × Int32 × Int64 × Int32 × Int32 × Int32 × Int32 × Int32 × Int32 × Int64 × Int32 × Int32 × Int32 × Int32 × Int32 × (Nat → Int32) × (Nat → Int32) × (Nat → Int32) × (Nat → Int32)) => fX12_stepsTold_S0 rec F x69_0 x69_1 x69_2 x69_3 x69_57 A75 p1 u1.1 u1.2.1 u1.2.2.1 u1.2.2.2.1 u1.2.2.2.2.1 u1.2.2.2.2.2.1 u1.2.2.2.2.2.2.1 u1.2.2.2.2.2.2.2.1 u1.2.2.2.2.2.2.2.2.1 u1.2.2.2.2.2.2.2.2.2.1 u1.2.2.2.2.2.2.2.2.2.2.1 u1.2.2.2.2.2.2.2.2.2.2.2.1 u1.2.2.2.2.2.2.2.2.2.2.2.2.1 u1.2.2.2.2.2.2.2.2.2.2.2.2.2.1 u1.2.2.2.2.2.2.2.2.2.2.2.2.2.2.1 u1.2.2.2.2.2.2.2.2.2.2.2.2.2.2.2.1 u1.2.2.2.2.2.2.2.2.2.2.2.2.2.2.2.2.1 u1.2.2.2.2.2.2.2.2.2.2.2.2.2.2.2.2.2.1 u1.2.2.2.2.2.2.2.2.2.2.2.2.2.2.2.2.2.2.1 u1.2.2.2.2.2.2.2.2.2.2.2.2.2.2.2.2.2.2.2.1 u1.2.2.2.2.2.2.2.2.2.2.2.2.2.2.2.2.2.2.2.2) F (x69_4, x69_6, x69_9, x69_11, x69_19, x69_20, x69_21, x69_22, x69_58, x69_59, x69_60, x69_61, x69_62, x69_63, x69_64, x69_65, x69_66, A70, A71, A72, A73)).bind (Sum.elim (fun t1_56 => some (t1_56.1, t1_56.2.1, t1_56.2.2.1, t1_56.2.2.2.1, t1_56.2.2.2.2.1, t1_56.2.2.2.2.2.1, t1_56.2.2.2.2.2.2.1, t1_56.2.2.2.2.2.2.2.1, t1_56.2.2.2.2.2.2.2.2.1, t1_56.2.2.2.2.2.2.2.2.2.1, t1_56.2.2.2.2.2.2.2.2.2.2.1, t1_56.2.2.2.2.2.2.2.2.2.2.2.1, t1_56.2.2.2.2.2.2.2.2.2.2.2.2.1, t1_56.2.2.2.2.2.2.2.2.2.2.2.2.2.1, t1_56.2.2.2.2.2.2.2.2.2.2.2.2.2.2.1, t1_56.2.2.2.2.2.2.2.2.2.2.2.2.2.2.2.1, t1_56.2.2.2.2.2.2.2.2.2.2.2.2.2.2.2.2.1, t1_56.2.2.2.2.2.2.2.2.2.2.2.2.2.2.2.2.2.1, t1_56.2.2.2.2.2.2.2.2.2.2.2.2.2.2.2.2.2.2.1, t1_56.2.2.2.2.2.2.2.2.2.2.2.2.2.2.2.2.2.2.2.1, t1_56.2.2.2.2.2.2.2.2.2.2.2.2.2.2.2.2.2.2.2.2)) (fun t1_57 => some (t1_57.1, t1_57.2.1, t1_57.2.2.1, t1_57.2.2.2.1, t1_57.2.2.2.2.1, t1_57.2.2.2.2.2.1, t1_57.2.2.2.2.2.2.1, t1_57.2.2.2.2.2.2.2.1, t1_57.2.2.2.2.2.2.2.2.1, t1_57.2.2.2.2.2.2.2.2.2.1, t1_57.2.2.2.2.2.2.2.2.2.2.1, t1_57.2.2.2.2.2.2.2.2.2.2.2.1, t1_57.2.2.2.2.2.2.2.2.2.2.2.2.1, t1_57.2.2.2.2.2.2.2.2.2.2.2.2.2.1, t1_57.2.2.2.2.2.2.2.2.2.2.2.2.2.2.1, t1_57.2.2.2.2.2.2.2.2.2.2.2.2.2.2.2.1, t1_57.2.2.2.2.2.2.2.2.2.2.2.2.2.2.2.2.1, t1_57.2.2.2.2.2.2.2.2.2.2.2.2.2.2.2.2.2.1, t1_57.2.2.2.2.2.2.2.2.2.2.2.2.2.2.2.2.2.2.1, t1_57.2.2.2.2.2.2.2.2.2.2.2.2.2.2.2.2.2.2.2.1, t1_57.2.2.2.2.2.2.2.2.2.2.2.2.2.2.2.2.2.2.2.2)))
theorem dX12_stepsTold_0 : decode cX12_stepsTold 0 = .ok (.aload_n 0, 1) := by decide +kernel
theorem dX12_stepsTold_1 : decode cX12_stepsTold 1 = .ok (.getfield 356, 3) := by decide +kernel
theorem dX12_stepsTold_4 : decode cX12_stepsTold 4 = .ok (.ifCond .ne 53, 3) := by decide +kernel
theorem dX12_stepsTold_7 : decode cX12_stepsTold 7 = .ok (.aload_n 0, 1) := by decide +kernel
theorem dX12_stepsTold_8 : decode cX12_stepsTold 8 = .ok (.getfield 368, 3) := by decide +kernel
theorem dX12_stepsTold_11 : decode cX12_stepsTold 11 = .ok (.ifCond .eq 46, 3) := by decide +kernel
theorem dX12_stepsTold_14 : decode cX12_stepsTold 14 = .ok (.aload_n 0, 1) := by decide +kernel
theorem dX12_stepsTold_15 : decode cX12_stepsTold 15 = .ok (.getfield 368, 3) := by decide +kernel
theorem dX12_stepsTold_18 : decode cX12_stepsTold 18 = .ok (.iconst 3, 1) := by decide +kernel
theorem dX12_stepsTold_19 : decode cX12_stepsTold 19 = .ok (.if_icmp .ne 12, 3) := by decide +kernel
theorem dX12_stepsTold_22 : decode cX12_stepsTold 22 = .ok (.aload_n 0, 1) := by decide +kernel
theorem dX12_stepsTold_23 : decode cX12_stepsTold 23 = .ok (.getfield 374, 3) := by decide +kernel
theorem dX12_stepsTold_26 : decode cX12_stepsTold 26 = .ok (.bipush 93, 2) := by decide +kernel
theorem dX12_stepsTold_28 : decode cX12_stepsTold 28 = .ok (.if_icmp .eq 29, 3) := by decide +kernel
theorem dX12_stepsTold_31 : decode cX12_stepsTold 31 = .ok (.aload_n 0, 1) := by decide +kernel
theorem dX12_stepsTold_32 : decode cX12_stepsTold 32 = .ok (.iload_n 1, 1) := by decide +kernel
theorem dX12_stepsTold_33 : decode cX12_stepsTold 33 = .ok (.invokevirtual 450, 3) := by decide +kernel
theorem dX12_stepsTold_36 : decode cX12_stepsTold 36 = .ok (.aload_n 0, 1) := by decide +kernel
theorem dX12_stepsTold_37 : decode cX12_stepsTold 37 = .ok (.bipush 59, 2) := by decide +kernel
theorem dX12_stepsTold_39 : decode cX12_stepsTold 39 = .ok (.invokevirtual 444, 3) := by decide +kernel
theorem dX12_stepsTold_42 : decode cX12_stepsTold 42 = .ok (.aload_n 0, 1) := by decide +kernel
theorem dX12_stepsTold_43 : decode cX12_stepsTold 43 = .ok (.getfield 408, 3) := by decide +kernel
theorem dX12_stepsTold_46 : decode cX12_stepsTold 46 = .ok (.ifCond .eq (-46), 3) := by decide +kernel
theorem dX12_stepsTold_49 : decode cX12_stepsTold 49 = .ok (.aload_n 0, 1) := by decide +kernel
theorem dX12_stepsTold_50 : decode cX12_stepsTold 50 = .ok (.getfield 405, 3) := by decide +kernel
theorem dX12_stepsTold_53 : decode cX12_stepsTold 53 = .ok (.ifCond .eq (-53), 3) := by decide +kernel
theorem dX12_stepsTold_56 : decode cX12_stepsTold 56 = .ok (.return_, 1) := by decide +kernel
theorem dX12_stepsTold_57 : decode cX12_stepsTold 57 = .ok (.return_, 1) := by decide +kernel
set_option maxHeartbeats 4000000 in
set_option maxRecDepth 100000 in
theorem kX12_stepsTold_B {l : Launch} {D : va_G} {cy : Nat → ClassId} {N : Nat} {q : Nat → Nat} {sa sv : Nat → Nat} {rec : Int32 → Int32 → Int32 → Int32 → Int32 → (Nat → Int32) → Int64 → Int32 → Int32 → Int32 → Int64 → Int32 → Int32 → Int32 → Int32 → Int32 → Int32 → Int64 → Int32 → Int32 → Int32 → Int32 → Int32 → (Nat → Int32) → (Nat → Int32) → (Nat → Int32) → (Nat → Int32) → Int32 → Option (Int64 × Int32 × Int32 × Int32 × Int64 × Int32 × Int32 × Int32 × Int32 × Int32 × Int32 × Int64 × Int32 × Int32 × Int32 × Int32 × Int32 × (Nat → Int32) × (Nat → Int32) × (Nat → Int32) × (Nat → Int32))} {kf kl : Nat} (hrec : ∀ {m0 : Nat → Value} {a0 : Nat → vp_A} {sz : Nat} (hsh : SH q m0) {x69_0 : Int32} (h_x69_0 : m0 6900 = .int x69_0) {x69_1 : Int32} (h_x69_1 : m0 6901 = .int x69_1) {x69_2 : Int32} (h_x69_2 : m0 6902 = .int x69_2) {x69_3 : Int32} (h_x69_3 : m0 6903 = .int x69_3) {x69_57 : Int32} (h_x69_57 : m0 6957 = .int x69_57) {A75 : Nat → Int32} (h_A75 : a0 75 = (264, .inl A75)) {x69_4 : Int64} (h_x69_4 : m0 6904 = .long x69_4) {x69_6 : Int32} (h_x69_6 : m0 6906 = .int x69_6) {x69_9 : Int32} (h_x69_9 : m0 6909 = .int x69_9) {x69_11 : Int32} (h_x69_11 : m0 6911 = .int x69_11) {x69_19 : Int64} (h_x69_19 : m0 6919 = .long x69_19) {x69_20 : Int32} (h_x69_20 : m0 6920 = .int x69_20) {x69_21 : Int32} (h_x69_21 : m0 6921 = .int x69_21) {x69_22 : Int32} (h_x69_22 : m0 6922 = .int x69_22) {x69_58 : Int32} (h_x69_58 : m0 6958 = .int x69_58) {x69_59 : Int32} (h_x69_59 : m0 6959 = .int x69_59) {x69_60 : Int32} (h_x69_60 : m0 6960 = .int x69_60) {x69_61 : Int64} (h_x69_61 : m0 6961 = .long x69_61) {x69_62 : Int32} (h_x69_62 : m0 6962 = .int x69_62) {x69_63 : Int32} (h_x69_63 : m0 6963 = .int x69_63) {x69_64 : Int32} (h_x69_64 : m0 6964 = .int x69_64) {x69_65 : Int32} (h_x69_65 : m0 6965 = .int x69_65) {x69_66 : Int32} (h_x69_66 : m0 6966 = .int x69_66) {A70 : Nat → Int32} (h_A70 : a0 70 = (30, .inl A70)) {A71 : Nat → Int32} (h_A71 : a0 71 = (8, .inl A71)) {A72 : Nat → Int32} (h_A72 : a0 72 = (40, .inl A72)) {A73 : Nat → Int32} (h_A73 : a0 73 = (40, .inl A73)) (p1 : Int32) {X0 : Int64 × Int32 × Int32 × Int32 × Int64 × Int32 × Int32 × Int32 × Int32 × Int32 × Int32 × Int64 × Int32 × Int32 × Int32 × Int32 × Int32 × (Nat → Int32) × (Nat → Int32) × (Nat → Int32) × (Nat → Int32)} (hs0 : rec x69_0 x69_1 x69_2 x69_3 x69_57 A75 x69_4 x69_6 x69_9 x69_11 x69_19 x69_20 x69_21 x69_22 x69_58 x69_59 x69_60 x69_61 x69_62 x69_63 x69_64 x69_65 x69_66 A70 A71 A72 A73 p1 = some X0), eMv l yX12_stepsTold cX12_stepsTold 2 none ({ frames := kf, cells := 0, slots := 0, locals := kl } : Room) D cy N q m0 a0 sz [.ref (q 69), .int p1] (XS sa sv) (fun m' a' => m' 6904 = .long X0.1 ∧ m' 6906 = .int X0.2.1 ∧ m' 6909 = .int X0.2.2.1 ∧ m' 6911 = .int X0.2.2.2.1 ∧ m' 6919 = .long X0.2.2.2.2.1 ∧ m' 6920 = .int X0.2.2.2.2.2.1 ∧ m' 6921 = .int X0.2.2.2.2.2.2.1 ∧ m' 6922 = .int X0.2.2.2.2.2.2.2.1 ∧ m' 6958 = .int X0.2.2.2.2.2.2.2.2.1 ∧ m' 6959 = .int X0.2.2.2.2.2.2.2.2.2.1 ∧ m' 6960 = .int X0.2.2.2.2.2.2.2.2.2.2.1 ∧ m' 6961 = .long X0.2.2.2.2.2.2.2.2.2.2.2.1 ∧ m' 6962 = .int X0.2.2.2.2.2.2.2.2.2.2.2.2.1 ∧ m' 6963 = .int X0.2.2.2.2.2.2.2.2.2.2.2.2.2.1 ∧ m' 6964 = .int X0.2.2.2.2.2.2.2.2.2.2.2.2.2.2.1 ∧ m' 6965 = .int X0.2.2.2.2.2.2.2.2.2.2.2.2.2.2.2.1 ∧ m' 6966 = .int X0.2.2.2.2.2.2.2.2.2.2.2.2.2.2.2.2.1 ∧ (∀ j, nel j [6904, 6906, 6909, 6911, 6919, 6920, 6921, 6922, 6958, 6959, 6960, 6961, 6962, 6963, 6964, 6965, 6966] = false → m' j = m0 j) ∧ a' 70 = (30, .inl X0.2.2.2.2.2.2.2.2.2.2.2.2.2.2.2.2.2.1) ∧ a' 71 = (8, .inl X0.2.2.2.2.2.2.2.2.2.2.2.2.2.2.2.2.2.2.1) ∧ a' 72 = (40, .inl X0.2.2.2.2.2.2.2.2.2.2.2.2.2.2.2.2.2.2.2.1) ∧ a' 73 = (40, .inl X0.2.2.2.2.2.2.2.2.2.2.2.2.2.2.2.2.2.2.2.2) ∧ (∀ j, nel j [70, 71, 72, 73] = false → a' j = a0 j)))  {m0 : Nat → Value} {a0 : Nat → vp_A} {sz : Nat} (hN : 105 ≤ N) (hsh : SH q m0) {x69_0 : Int32} (h_x69_0 : m0 6900 = .int x69_0) {x69_1 : Int32} (h_x69_1 : m0 6901 = .int x69_1) {x69_2 : Int32} (h_x69_2 : m0 6902 = .int x69_2) {x69_3 : Int32} (h_x69_3 : m0 6903 = .int x69_3) {x69_57 : Int32} (h_x69_57 : m0 6957 = .int x69_57) {A75 : Nat → Int32} (h_A75 : a0 75 = (264, .inl A75)) {x69_4 : Int64} (h_x69_4 : m0 6904 = .long x69_4) {x69_6 : Int32} (h_x69_6 : m0 6906 = .int x69_6) {x69_9 : Int32} (h_x69_9 : m0 6909 = .int x69_9) {x69_11 : Int32} (h_x69_11 : m0 6911 = .int x69_11) {x69_19 : Int64} (h_x69_19 : m0 6919 = .long x69_19) {x69_20 : Int32} (h_x69_20 : m0 6920 = .int x69_20) {x69_21 : Int32} (h_x69_21 : m0 6921 = .int x69_21) {x69_22 : Int32} (h_x69_22 : m0 6922 = .int x69_22) {x69_58 : Int32} (h_x69_58 : m0 6958 = .int x69_58) {x69_59 : Int32} (h_x69_59 : m0 6959 = .int x69_59) {x69_60 : Int32} (h_x69_60 : m0 6960 = .int x69_60) {x69_61 : Int64} (h_x69_61 : m0 6961 = .long x69_61) {x69_62 : Int32} (h_x69_62 : m0 6962 = .int x69_62) {x69_63 : Int32} (h_x69_63 : m0 6963 = .int x69_63) {x69_64 : Int32} (h_x69_64 : m0 6964 = .int x69_64) {x69_65 : Int32} (h_x69_65 : m0 6965 = .int x69_65) {x69_66 : Int32} (h_x69_66 : m0 6966 = .int x69_66) {A70 : Nat → Int32} (h_A70 : a0 70 = (30, .inl A70)) {A71 : Nat → Int32} (h_A71 : a0 71 = (8, .inl A71)) {A72 : Nat → Int32} (h_A72 : a0 72 = (40, .inl A72)) {A73 : Nat → Int32} (h_A73 : a0 73 = (40, .inl A73)) (F : Nat) (p1 : Int32) {X0 : Int64 × Int32 × Int32 × Int32 × Int64 × Int32 × Int32 × Int32 × Int32 × Int32 × Int32 × Int64 × Int32 × Int32 × Int32 × Int32 × Int32 × (Nat → Int32) × (Nat → Int32) × (Nat → Int32) × (Nat → Int32)} (hs0 : fX12_stepsTold_B rec F x69_0 x69_1 x69_2 x69_3 x69_57 A75 x69_4 x69_6 x69_9 x69_11 x69_19 x69_20 x69_21 x69_22 x69_58 x69_59 x69_60 x69_61 x69_62 x69_63 x69_64 x69_65 x69_66 A70 A71 A72 A73 p1 = some X0) : eMv l yX12_stepsTold cX12_stepsTold 2 none ({ frames := kf + 36, cells := 0, slots := 0, locals := kl + 1500 } : Room) D cy N q m0 a0 sz [.ref (q 69), .int p1] (XS sa sv) (fun m' a' => m' 6904 = .long X0.1 ∧ m' 6906 = .int X0.2.1 ∧ m' 6909 = .int X0.2.2.1 ∧ m' 6911 = .int X0.2.2.2.1 ∧ m' 6919 = .long X0.2.2.2.2.1 ∧ m' 6920 = .int X0.2.2.2.2.2.1 ∧ m' 6921 = .int X0.2.2.2.2.2.2.1 ∧ m' 6922 = .int X0.2.2.2.2.2.2.2.1 ∧ m' 6958 = .int X0.2.2.2.2.2.2.2.2.1 ∧ m' 6959 = .int X0.2.2.2.2.2.2.2.2.2.1 ∧ m' 6960 = .int X0.2.2.2.2.2.2.2.2.2.2.1 ∧ m' 6961 = .long X0.2.2.2.2.2.2.2.2.2.2.2.1 ∧ m' 6962 = .int X0.2.2.2.2.2.2.2.2.2.2.2.2.1 ∧ m' 6963 = .int X0.2.2.2.2.2.2.2.2.2.2.2.2.2.1 ∧ m' 6964 = .int X0.2.2.2.2.2.2.2.2.2.2.2.2.2.2.1 ∧ m' 6965 = .int X0.2.2.2.2.2.2.2.2.2.2.2.2.2.2.2.1 ∧ m' 6966 = .int X0.2.2.2.2.2.2.2.2.2.2.2.2.2.2.2.2.1 ∧ (∀ j, nel j [6904, 6906, 6909, 6911, 6919, 6920, 6921, 6922, 6958, 6959, 6960, 6961, 6962, 6963, 6964, 6965, 6966] = false → m' j = m0 j) ∧ a' 70 = (30, .inl X0.2.2.2.2.2.2.2.2.2.2.2.2.2.2.2.2.2.1) ∧ a' 71 = (8, .inl X0.2.2.2.2.2.2.2.2.2.2.2.2.2.2.2.2.2.2.1) ∧ a' 72 = (40, .inl X0.2.2.2.2.2.2.2.2.2.2.2.2.2.2.2.2.2.2.2.1) ∧ a' 73 = (40, .inl X0.2.2.2.2.2.2.2.2.2.2.2.2.2.2.2.2.2.2.2.2) ∧ (∀ j, nel j [70, 71, 72, 73] = false → a' j = a0 j)) := by
  refine e_ofv (by decide) (Nat.le_of_ble_eq_true rfl) ?_
  intro p e s M args below meth c hx hb hr hG hown hin hlocks hml hW hS hE ls hl
  unfold fX12_stepsTold_B at hs0
  have hoff : ∀ j, nel j [6904, 6906, 6909, 6911, 6919, 6920, 6921, 6922, 6958, 6959, 6960, 6961, 6962, 6963, 6964, 6965, 6966] = false → m0 j = m0 j := off0
  have hoffa : ∀ j, nel j [70, 71, 72, 73] = false → a0 j = a0 j := off0
  obtain ⟨r1, hg1, hs0⟩ := obind hs0
  have hE1_56 : ∀ (t1_56 : Int64 × Int32 × Int32 × Int32 × Int64 × Int32 × Int32 × Int32 × Int32 × Int32 × Int32 × Int64 × Int32 × Int32 × Int32 × Int32 × Int32 × (Nat → Int32) × (Nat → Int32) × (Nat → Int32) × (Nat → Int32)) (hr1 : Sum.inl t1_56 = r1) (m : Nat → Value) (a : Nat → vp_A) (H : Heap) (locs : List Loc) (w_x69_4 : m 6904 = .long t1_56.1) (w_x69_6 : m 6906 = .int t1_56.2.1) (w_x69_9 : m 6909 = .int t1_56.2.2.1) (w_x69_11 : m 6911 = .int t1_56.2.2.2.1) (w_x69_19 : m 6919 = .long t1_56.2.2.2.2.1) (w_x69_20 : m 6920 = .int t1_56.2.2.2.2.2.1) (w_x69_21 : m 6921 = .int t1_56.2.2.2.2.2.2.1) (w_x69_22 : m 6922 = .int t1_56.2.2.2.2.2.2.2.1) (w_x69_58 : m 6958 = .int t1_56.2.2.2.2.2.2.2.2.1) (w_x69_59 : m 6959 = .int t1_56.2.2.2.2.2.2.2.2.2.1) (w_x69_60 : m 6960 = .int t1_56.2.2.2.2.2.2.2.2.2.2.1) (w_x69_61 : m 6961 = .long t1_56.2.2.2.2.2.2.2.2.2.2.2.1) (w_x69_62 : m 6962 = .int t1_56.2.2.2.2.2.2.2.2.2.2.2.2.1) (w_x69_63 : m 6963 = .int t1_56.2.2.2.2.2.2.2.2.2.2.2.2.2.1) (w_x69_64 : m 6964 = .int t1_56.2.2.2.2.2.2.2.2.2.2.2.2.2.2.1) (w_x69_65 : m 6965 = .int t1_56.2.2.2.2.2.2.2.2.2.2.2.2.2.2.2.1) (w_x69_66 : m 6966 = .int t1_56.2.2.2.2.2.2.2.2.2.2.2.2.2.2.2.2.1) (hoff : ∀ j, nel j [6904, 6906, 6909, 6911, 6919, 6920, 6921, 6922, 6958, 6959, 6960, 6961, 6962, 6963, 6964, 6965, 6966] = false → m j = m0 j) (hsh : SH q m) (w_A70 : a 70 = (30, .inl t1_56.2.2.2.2.2.2.2.2.2.2.2.2.2.2.2.2.2.1)) (w_A71 : a 71 = (8, .inl t1_56.2.2.2.2.2.2.2.2.2.2.2.2.2.2.2.2.2.2.1)) (w_A72 : a 72 = (40, .inl t1_56.2.2.2.2.2.2.2.2.2.2.2.2.2.2.2.2.2.2.2.1)) (w_A73 : a 73 = (40, .inl t1_56.2.2.2.2.2.2.2.2.2.2.2.2.2.2.2.2.2.2.2.2)) (hoffa : ∀ j, nel j [70, 71, 72, 73] = false → a j = a0 j) (ls : Array Slot) (hl : lv_has ls 2 []) (hW : GW D cy (gA N q s.heap.size) N q m a s H) (hS : va_S (gA N q s.heap.size) s.heap H locs), W p l e ({ frames := kf + 36, cells := 0, slots := 0, locals := kl + 1500 } : Room) s M args below meth c H locs 0 0 (MQ below (va_Qv (fun (u : (Nat → Value) × (Nat → vp_A)) => u.1 6904 = .long X0.1 ∧ u.1 6906 = .int X0.2.1 ∧ u.1 6909 = .int X0.2.2.1 ∧ u.1 6911 = .int X0.2.2.2.1 ∧ u.1 6919 = .long X0.2.2.2.2.1 ∧ u.1 6920 = .int X0.2.2.2.2.2.1 ∧ u.1 6921 = .int X0.2.2.2.2.2.2.1 ∧ u.1 6922 = .int X0.2.2.2.2.2.2.2.1 ∧ u.1 6958 = .int X0.2.2.2.2.2.2.2.2.1 ∧ u.1 6959 = .int X0.2.2.2.2.2.2.2.2.2.1 ∧ u.1 6960 = .int X0.2.2.2.2.2.2.2.2.2.2.1 ∧ u.1 6961 = .long X0.2.2.2.2.2.2.2.2.2.2.2.1 ∧ u.1 6962 = .int X0.2.2.2.2.2.2.2.2.2.2.2.2.1 ∧ u.1 6963 = .int X0.2.2.2.2.2.2.2.2.2.2.2.2.2.1 ∧ u.1 6964 = .int X0.2.2.2.2.2.2.2.2.2.2.2.2.2.2.1 ∧ u.1 6965 = .int X0.2.2.2.2.2.2.2.2.2.2.2.2.2.2.2.1 ∧ u.1 6966 = .int X0.2.2.2.2.2.2.2.2.2.2.2.2.2.2.2.2.1 ∧ (∀ j, nel j [6904, 6906, 6909, 6911, 6919, 6920, 6921, 6922, 6958, 6959, 6960, 6961, 6962, 6963, 6964, 6965, 6966] = false → u.1 j = m0 j) ∧ u.2 70 = (30, .inl X0.2.2.2.2.2.2.2.2.2.2.2.2.2.2.2.2.2.1) ∧ u.2 71 = (8, .inl X0.2.2.2.2.2.2.2.2.2.2.2.2.2.2.2.2.2.2.1) ∧ u.2 72 = (40, .inl X0.2.2.2.2.2.2.2.2.2.2.2.2.2.2.2.2.2.2.2.1) ∧ u.2 73 = (40, .inl X0.2.2.2.2.2.2.2.2.2.2.2.2.2.2.2.2.2.2.2.2) ∧ (∀ j, nel j [70, 71, 72, 73] = false → u.2 j = a0 j)) (gB D cy N q s.heap.size) (gA N q s.heap.size)) args s 0 0 (gA N q s.heap.size)) (F0 M 56 ls []) := by
    intro t1_56 hr1 m a H locs w_x69_4 w_x69_6 w_x69_9 w_x69_11 w_x69_19 w_x69_20 w_x69_21 w_x69_22 w_x69_58 w_x69_59 w_x69_60 w_x69_61 w_x69_62 w_x69_63 w_x69_64 w_x69_65 w_x69_66 hoff hsh w_A70 w_A71 w_A72 w_A73 hoffa ls hl hW hS
    subst hr1
    have hs0 := osum_l hs0
    have hs0 := Option.some.inj hs0
    subst hs0
    exact W.vret hx hb hr (fun t ht hw => ⟨⟨(m, a), rfl, ⟨w_x69_4, w_x69_6, w_x69_9, w_x69_11, w_x69_19, w_x69_20, w_x69_21, w_x69_22, w_x69_58, w_x69_59, w_x69_60, w_x69_61, w_x69_62, w_x69_63, w_x69_64, w_x69_65, w_x69_66, hoff, w_A70, w_A71, w_A72, w_A73, hoffa⟩, g_end hW ht hw⟩, hS.F ht⟩) hS.2.2 dX12_stepsTold_56 hlocks
  have hE1_57 : ∀ (t1_57 : Int64 × Int32 × Int32 × Int32 × Int64 × Int32 × Int32 × Int32 × Int32 × Int32 × Int32 × Int64 × Int32 × Int32 × Int32 × Int32 × Int32 × (Nat → Int32) × (Nat → Int32) × (Nat → Int32) × (Nat → Int32)) (hr1 : Sum.inr (t1_57) = r1) (m : Nat → Value) (a : Nat → vp_A) (H : Heap) (locs : List Loc) (w_x69_4 : m 6904 = .long t1_57.1) (w_x69_6 : m 6906 = .int t1_57.2.1) (w_x69_9 : m 6909 = .int t1_57.2.2.1) (w_x69_11 : m 6911 = .int t1_57.2.2.2.1) (w_x69_19 : m 6919 = .long t1_57.2.2.2.2.1) (w_x69_20 : m 6920 = .int t1_57.2.2.2.2.2.1) (w_x69_21 : m 6921 = .int t1_57.2.2.2.2.2.2.1) (w_x69_22 : m 6922 = .int t1_57.2.2.2.2.2.2.2.1) (w_x69_58 : m 6958 = .int t1_57.2.2.2.2.2.2.2.2.1) (w_x69_59 : m 6959 = .int t1_57.2.2.2.2.2.2.2.2.2.1) (w_x69_60 : m 6960 = .int t1_57.2.2.2.2.2.2.2.2.2.2.1) (w_x69_61 : m 6961 = .long t1_57.2.2.2.2.2.2.2.2.2.2.2.1) (w_x69_62 : m 6962 = .int t1_57.2.2.2.2.2.2.2.2.2.2.2.2.1) (w_x69_63 : m 6963 = .int t1_57.2.2.2.2.2.2.2.2.2.2.2.2.2.1) (w_x69_64 : m 6964 = .int t1_57.2.2.2.2.2.2.2.2.2.2.2.2.2.2.1) (w_x69_65 : m 6965 = .int t1_57.2.2.2.2.2.2.2.2.2.2.2.2.2.2.2.1) (w_x69_66 : m 6966 = .int t1_57.2.2.2.2.2.2.2.2.2.2.2.2.2.2.2.2.1) (hoff : ∀ j, nel j [6904, 6906, 6909, 6911, 6919, 6920, 6921, 6922, 6958, 6959, 6960, 6961, 6962, 6963, 6964, 6965, 6966] = false → m j = m0 j) (hsh : SH q m) (w_A70 : a 70 = (30, .inl t1_57.2.2.2.2.2.2.2.2.2.2.2.2.2.2.2.2.2.1)) (w_A71 : a 71 = (8, .inl t1_57.2.2.2.2.2.2.2.2.2.2.2.2.2.2.2.2.2.2.1)) (w_A72 : a 72 = (40, .inl t1_57.2.2.2.2.2.2.2.2.2.2.2.2.2.2.2.2.2.2.2.1)) (w_A73 : a 73 = (40, .inl t1_57.2.2.2.2.2.2.2.2.2.2.2.2.2.2.2.2.2.2.2.2)) (hoffa : ∀ j, nel j [70, 71, 72, 73] = false → a j = a0 j) (ls : Array Slot) (hl : lv_has ls 2 []) (hW : GW D cy (gA N q s.heap.size) N q m a s H) (hS : va_S (gA N q s.heap.size) s.heap H locs), W p l e ({ frames := kf + 36, cells := 0, slots := 0, locals := kl + 1500 } : Room) s M args below meth c H locs 0 0 (MQ below (va_Qv (fun (u : (Nat → Value) × (Nat → vp_A)) => u.1 6904 = .long X0.1 ∧ u.1 6906 = .int X0.2.1 ∧ u.1 6909 = .int X0.2.2.1 ∧ u.1 6911 = .int X0.2.2.2.1 ∧ u.1 6919 = .long X0.2.2.2.2.1 ∧ u.1 6920 = .int X0.2.2.2.2.2.1 ∧ u.1 6921 = .int X0.2.2.2.2.2.2.1 ∧ u.1 6922 = .int X0.2.2.2.2.2.2.2.1 ∧ u.1 6958 = .int X0.2.2.2.2.2.2.2.2.1 ∧ u.1 6959 = .int X0.2.2.2.2.2.2.2.2.2.1 ∧ u.1 6960 = .int X0.2.2.2.2.2.2.2.2.2.2.1 ∧ u.1 6961 = .long X0.2.2.2.2.2.2.2.2.2.2.2.1 ∧ u.1 6962 = .int X0.2.2.2.2.2.2.2.2.2.2.2.2.1 ∧ u.1 6963 = .int X0.2.2.2.2.2.2.2.2.2.2.2.2.2.1 ∧ u.1 6964 = .int X0.2.2.2.2.2.2.2.2.2.2.2.2.2.2.1 ∧ u.1 6965 = .int X0.2.2.2.2.2.2.2.2.2.2.2.2.2.2.2.1 ∧ u.1 6966 = .int X0.2.2.2.2.2.2.2.2.2.2.2.2.2.2.2.2.1 ∧ (∀ j, nel j [6904, 6906, 6909, 6911, 6919, 6920, 6921, 6922, 6958, 6959, 6960, 6961, 6962, 6963, 6964, 6965, 6966] = false → u.1 j = m0 j) ∧ u.2 70 = (30, .inl X0.2.2.2.2.2.2.2.2.2.2.2.2.2.2.2.2.2.1) ∧ u.2 71 = (8, .inl X0.2.2.2.2.2.2.2.2.2.2.2.2.2.2.2.2.2.2.1) ∧ u.2 72 = (40, .inl X0.2.2.2.2.2.2.2.2.2.2.2.2.2.2.2.2.2.2.2.1) ∧ u.2 73 = (40, .inl X0.2.2.2.2.2.2.2.2.2.2.2.2.2.2.2.2.2.2.2.2) ∧ (∀ j, nel j [70, 71, 72, 73] = false → u.2 j = a0 j)) (gB D cy N q s.heap.size) (gA N q s.heap.size)) args s 0 0 (gA N q s.heap.size)) (F0 M 57 ls []) := by
    intro t1_57 hr1 m a H locs w_x69_4 w_x69_6 w_x69_9 w_x69_11 w_x69_19 w_x69_20 w_x69_21 w_x69_22 w_x69_58 w_x69_59 w_x69_60 w_x69_61 w_x69_62 w_x69_63 w_x69_64 w_x69_65 w_x69_66 hoff hsh w_A70 w_A71 w_A72 w_A73 hoffa ls hl hW hS
    subst hr1
    have hs0 := osum_r hs0
    have hs0 := Option.some.inj hs0
    subst hs0
    exact W.vret hx hb hr (fun t ht hw => ⟨⟨(m, a), rfl, ⟨w_x69_4, w_x69_6, w_x69_9, w_x69_11, w_x69_19, w_x69_20, w_x69_21, w_x69_22, w_x69_58, w_x69_59, w_x69_60, w_x69_61, w_x69_62, w_x69_63, w_x69_64, w_x69_65, w_x69_66, hoff, w_A70, w_A71, w_A72, w_A73, hoffa⟩, g_end hW ht hw⟩, hS.F ht⟩) hS.2.2 dX12_stepsTold_57 hlocks
  have hL1 : ∀ (n : Nat) (x69_4k1 : Int64) (x69_6k1 : Int32) (x69_9k1 : Int32) (x69_11k1 : Int32) (x69_19k1 : Int64) (x69_20k1 : Int32) (x69_21k1 : Int32) (x69_22k1 : Int32) (x69_58k1 : Int32) (x69_59k1 : Int32) (x69_60k1 : Int32) (x69_61k1 : Int64) (x69_62k1 : Int32) (x69_63k1 : Int32) (x69_64k1 : Int32) (x69_65k1 : Int32) (x69_66k1 : Int32) (A70k1 : Nat → Int32) (A71k1 : Nat → Int32) (A72k1 : Nat → Int32) (A73k1 : Nat → Int32) (m : Nat → Value) (a : Nat → vp_A) (H : Heap) (locs : List Loc) (w_x69_4 : m 6904 = .long x69_4k1) (w_x69_6 : m 6906 = .int x69_6k1) (w_x69_9 : m 6909 = .int x69_9k1) (w_x69_11 : m 6911 = .int x69_11k1) (w_x69_19 : m 6919 = .long x69_19k1) (w_x69_20 : m 6920 = .int x69_20k1) (w_x69_21 : m 6921 = .int x69_21k1) (w_x69_22 : m 6922 = .int x69_22k1) (w_x69_58 : m 6958 = .int x69_58k1) (w_x69_59 : m 6959 = .int x69_59k1) (w_x69_60 : m 6960 = .int x69_60k1) (w_x69_61 : m 6961 = .long x69_61k1) (w_x69_62 : m 6962 = .int x69_62k1) (w_x69_63 : m 6963 = .int x69_63k1) (w_x69_64 : m 6964 = .int x69_64k1) (w_x69_65 : m 6965 = .int x69_65k1) (w_x69_66 : m 6966 = .int x69_66k1) (hoff : ∀ j, nel j [6904, 6906, 6909, 6911, 6919, 6920, 6921, 6922, 6958, 6959, 6960, 6961, 6962, 6963, 6964, 6965, 6966] = false → m j = m0 j) (hsh : SH q m) (w_A70 : a 70 = (30, .inl A70k1)) (w_A71 : a 71 = (8, .inl A71k1)) (w_A72 : a 72 = (40, .inl A72k1)) (w_A73 : a 73 = (40, .inl A73k1)) (hoffa : ∀ j, nel j [70, 71, 72, 73] = false → a j = a0 j) (ls : Array Slot) (hl : lv_has ls 2 [(0, .ref (q 69)), (1, .int p1)]) (hg1 : gloop (fun u1 : (Int64 × Int32 × Int32 × Int32 × Int64 × Int32 × Int32 × Int32 × Int32 × Int32 × Int32 × Int64 × Int32 × Int32 × Int32 × Int32 × Int32 × (Nat → Int32) × (Nat → Int32) × (Nat → Int32) × (Nat → Int32)) => fX12_stepsTold_S0 rec F x69_0 x69_1 x69_2 x69_3 x69_57 A75 p1 u1.1 u1.2.1 u1.2.2.1 u1.2.2.2.1 u1.2.2.2.2.1 u1.2.2.2.2.2.1 u1.2.2.2.2.2.2.1 u1.2.2.2.2.2.2.2.1 u1.2.2.2.2.2.2.2.2.1 u1.2.2.2.2.2.2.2.2.2.1 u1.2.2.2.2.2.2.2.2.2.2.1 u1.2.2.2.2.2.2.2.2.2.2.2.1 u1.2.2.2.2.2.2.2.2.2.2.2.2.1 u1.2.2.2.2.2.2.2.2.2.2.2.2.2.1 u1.2.2.2.2.2.2.2.2.2.2.2.2.2.2.1 u1.2.2.2.2.2.2.2.2.2.2.2.2.2.2.2.1 u1.2.2.2.2.2.2.2.2.2.2.2.2.2.2.2.2.1 u1.2.2.2.2.2.2.2.2.2.2.2.2.2.2.2.2.2.1 u1.2.2.2.2.2.2.2.2.2.2.2.2.2.2.2.2.2.2.1 u1.2.2.2.2.2.2.2.2.2.2.2.2.2.2.2.2.2.2.2.1 u1.2.2.2.2.2.2.2.2.2.2.2.2.2.2.2.2.2.2.2.2) n (x69_4k1, x69_6k1, x69_9k1, x69_11k1, x69_19k1, x69_20k1, x69_21k1, x69_22k1, x69_58k1, x69_59k1, x69_60k1, x69_61k1, x69_62k1, x69_63k1, x69_64k1, x69_65k1, x69_66k1, A70k1, A71k1, A72k1, A73k1) = some r1) (hW : GW D cy (gA N q s.heap.size) N q m a s H) (hS : va_S (gA N q s.heap.size) s.heap H locs), W p l e ({ frames := kf + 36, cells := 0, slots := 0, locals := kl + 1500 } : Room) s M args below meth c H locs 0 0 (MQ below (va_Qv (fun (u : (Nat → Value) × (Nat → vp_A)) => u.1 6904 = .long X0.1 ∧ u.1 6906 = .int X0.2.1 ∧ u.1 6909 = .int X0.2.2.1 ∧ u.1 6911 = .int X0.2.2.2.1 ∧ u.1 6919 = .long X0.2.2.2.2.1 ∧ u.1 6920 = .int X0.2.2.2.2.2.1 ∧ u.1 6921 = .int X0.2.2.2.2.2.2.1 ∧ u.1 6922 = .int X0.2.2.2.2.2.2.2.1 ∧ u.1 6958 = .int X0.2.2.2.2.2.2.2.2.1 ∧ u.1 6959 = .int X0.2.2.2.2.2.2.2.2.2.1 ∧ u.1 6960 = .int X0.2.2.2.2.2.2.2.2.2.2.1 ∧ u.1 6961 = .long X0.2.2.2.2.2.2.2.2.2.2.2.1 ∧ u.1 6962 = .int X0.2.2.2.2.2.2.2.2.2.2.2.2.1 ∧ u.1 6963 = .int X0.2.2.2.2.2.2.2.2.2.2.2.2.2.1 ∧ u.1 6964 = .int X0.2.2.2.2.2.2.2.2.2.2.2.2.2.2.1 ∧ u.1 6965 = .int X0.2.2.2.2.2.2.2.2.2.2.2.2.2.2.2.1 ∧ u.1 6966 = .int X0.2.2.2.2.2.2.2.2.2.2.2.2.2.2.2.2.1 ∧ (∀ j, nel j [6904, 6906, 6909, 6911, 6919, 6920, 6921, 6922, 6958, 6959, 6960, 6961, 6962, 6963, 6964, 6965, 6966] = false → u.1 j = m0 j) ∧ u.2 70 = (30, .inl X0.2.2.2.2.2.2.2.2.2.2.2.2.2.2.2.2.2.1) ∧ u.2 71 = (8, .inl X0.2.2.2.2.2.2.2.2.2.2.2.2.2.2.2.2.2.2.1) ∧ u.2 72 = (40, .inl X0.2.2.2.2.2.2.2.2.2.2.2.2.2.2.2.2.2.2.2.1) ∧ u.2 73 = (40, .inl X0.2.2.2.2.2.2.2.2.2.2.2.2.2.2.2.2.2.2.2.2) ∧ (∀ j, nel j [70, 71, 72, 73] = false → u.2 j = a0 j)) (gB D cy N q s.heap.size) (gA N q s.heap.size)) args s 0 0 (gA N q s.heap.size)) (F0 M 0 ls []) := by
    intro n
    induction n with
    | zero => intro x69_4k1 x69_6k1 x69_9k1 x69_11k1 x69_19k1 x69_20k1 x69_21k1 x69_22k1 x69_58k1 x69_59k1 x69_60k1 x69_61k1 x69_62k1 x69_63k1 x69_64k1 x69_65k1 x69_66k1 A70k1 A71k1 A72k1 A73k1 m a H locs w_x69_4 w_x69_6 w_x69_9 w_x69_11 w_x69_19 w_x69_20 w_x69_21 w_x69_22 w_x69_58 w_x69_59 w_x69_60 w_x69_61 w_x69_62 w_x69_63 w_x69_64 w_x69_65 w_x69_66 hoff hsh w_A70 w_A71 w_A72 w_A73 hoffa ls hl hg1 hW hS; exact (gl_zero hg1).elim
    | succ n ih1 =>
      intro x69_4k1 x69_6k1 x69_9k1 x69_11k1 x69_19k1 x69_20k1 x69_21k1 x69_22k1 x69_58k1 x69_59k1 x69_60k1 x69_61k1 x69_62k1 x69_63k1 x69_64k1 x69_65k1 x69_66k1 A70k1 A71k1 A72k1 A73k1 m a H locs w_x69_4 w_x69_6 w_x69_9 w_x69_11 w_x69_19 w_x69_20 w_x69_21 w_x69_22 w_x69_58 w_x69_59 w_x69_60 w_x69_61 w_x69_62 w_x69_63 w_x69_64 w_x69_65 w_x69_66 hoff hsh w_A70 w_A71 w_A72 w_A73 hoffa ls hl hg1 hW hS
      obtain ⟨X1, hs1, hXl1, hXr1⟩ := gl_succ hg1
      have hs1 : fX12_stepsTold_S0 rec F x69_0 x69_1 x69_2 x69_3 x69_57 A75 p1 x69_4k1 x69_6k1 x69_9k1 x69_11k1 x69_19k1 x69_20k1 x69_21k1 x69_22k1 x69_58k1 x69_59k1 x69_60k1 x69_61k1 x69_62k1 x69_63k1 x69_64k1 x69_65k1 x69_66k1 A70k1 A71k1 A72k1 A73k1 = some X1 := hs1
      unfold fX12_stepsTold_S0 at hs1
      have hJ31_1 : ∀ (x69_4j14 : Int64) (x69_6j14 : Int32) (x69_9j14 : Int32) (x69_11j14 : Int32) (x69_19j14 : Int64) (x69_20j14 : Int32) (x69_21j14 : Int32) (x69_22j14 : Int32) (x69_58j14 : Int32) (x69_59j14 : Int32) (x69_60j14 : Int32) (x69_61j14 : Int64) (x69_62j14 : Int32) (x69_63j14 : Int32) (x69_64j14 : Int32) (x69_65j14 : Int32) (x69_66j14 : Int32) (A70j14 : Nat → Int32) (A71j14 : Nat → Int32) (A72j14 : Nat → Int32) (A73j14 : Nat → Int32) (m : Nat → Value) (a : Nat → vp_A) (H : Heap) (locs : List Loc) (w_x69_4 : m 6904 = .long x69_4j14) (w_x69_6 : m 6906 = .int x69_6j14) (w_x69_9 : m 6909 = .int x69_9j14) (w_x69_11 : m 6911 = .int x69_11j14) (w_x69_19 : m 6919 = .long x69_19j14) (w_x69_20 : m 6920 = .int x69_20j14) (w_x69_21 : m 6921 = .int x69_21j14) (w_x69_22 : m 6922 = .int x69_22j14) (w_x69_58 : m 6958 = .int x69_58j14) (w_x69_59 : m 6959 = .int x69_59j14) (w_x69_60 : m 6960 = .int x69_60j14) (w_x69_61 : m 6961 = .long x69_61j14) (w_x69_62 : m 6962 = .int x69_62j14) (w_x69_63 : m 6963 = .int x69_63j14) (w_x69_64 : m 6964 = .int x69_64j14) (w_x69_65 : m 6965 = .int x69_65j14) (w_x69_66 : m 6966 = .int x69_66j14) (hoff : ∀ j, nel j [6904, 6906, 6909, 6911, 6919, 6920, 6921, 6922, 6958, 6959, 6960, 6961, 6962, 6963, 6964, 6965, 6966] = false → m j = m0 j) (hsh : SH q m) (w_A70 : a 70 = (30, .inl A70j14)) (w_A71 : a 71 = (8, .inl A71j14)) (w_A72 : a 72 = (40, .inl A72j14)) (w_A73 : a 73 = (40, .inl A73j14)) (hoffa : ∀ j, nel j [70, 71, 72, 73] = false → a j = a0 j) (ls : Array Slot) (hl : lv_has ls 2 [(0, .ref (q 69)), (1, .int p1)]) (hs1 : fX12_stepsTold_J31 rec F x69_0 x69_1 x69_2 x69_3 x69_57 A75 p1 x69_4j14 x69_6j14 x69_9j14 x69_11j14 x69_19j14 x69_20j14 x69_21j14 x69_22j14 x69_58j14 x69_59j14 x69_60j14 x69_61j14 x69_62j14 x69_63j14 x69_64j14 x69_65j14 x69_66j14 A70j14 A71j14 A72j14 A73j14 = some X1) (hW : GW D cy (gA N q s.heap.size) N q m a s H) (hS : va_S (gA N q s.heap.size) s.heap H locs), W p l e ({ frames := kf + 36, cells := 0, slots := 0, locals := kl + 1500 } : Room) s M args below meth c H locs 0 0 (MQ below (va_Qv (fun (u : (Nat → Value) × (Nat → vp_A)) => u.1 6904 = .long X0.1 ∧ u.1 6906 = .int X0.2.1 ∧ u.1 6909 = .int X0.2.2.1 ∧ u.1 6911 = .int X0.2.2.2.1 ∧ u.1 6919 = .long X0.2.2.2.2.1 ∧ u.1 6920 = .int X0.2.2.2.2.2.1 ∧ u.1 6921 = .int X0.2.2.2.2.2.2.1 ∧ u.1 6922 = .int X0.2.2.2.2.2.2.2.1 ∧ u.1 6958 = .int X0.2.2.2.2.2.2.2.2.1 ∧ u.1 6959 = .int X0.2.2.2.2.2.2.2.2.2.1 ∧ u.1 6960 = .int X0.2.2.2.2.2.2.2.2.2.2.1 ∧ u.1 6961 = .long X0.2.2.2.2.2.2.2.2.2.2.2.1 ∧ u.1 6962 = .int X0.2.2.2.2.2.2.2.2.2.2.2.2.1 ∧ u.1 6963 = .int X0.2.2.2.2.2.2.2.2.2.2.2.2.2.1 ∧ u.1 6964 = .int X0.2.2.2.2.2.2.2.2.2.2.2.2.2.2.1 ∧ u.1 6965 = .int X0.2.2.2.2.2.2.2.2.2.2.2.2.2.2.2.1 ∧ u.1 6966 = .int X0.2.2.2.2.2.2.2.2.2.2.2.2.2.2.2.2.1 ∧ (∀ j, nel j [6904, 6906, 6909, 6911, 6919, 6920, 6921, 6922, 6958, 6959, 6960, 6961, 6962, 6963, 6964, 6965, 6966] = false → u.1 j = m0 j) ∧ u.2 70 = (30, .inl X0.2.2.2.2.2.2.2.2.2.2.2.2.2.2.2.2.2.1) ∧ u.2 71 = (8, .inl X0.2.2.2.2.2.2.2.2.2.2.2.2.2.2.2.2.2.2.1) ∧ u.2 72 = (40, .inl X0.2.2.2.2.2.2.2.2.2.2.2.2.2.2.2.2.2.2.2.1) ∧ u.2 73 = (40, .inl X0.2.2.2.2.2.2.2.2.2.2.2.2.2.2.2.2.2.2.2.2) ∧ (∀ j, nel j [70, 71, 72, 73] = false → u.2 j = a0 j)) (gB D cy N q s.heap.size) (gA N q s.heap.size)) args s 0 0 (gA N q s.heap.size)) (F0 M 31 ls []) := by
        intro x69_4j14 x69_6j14 x69_9j14 x69_11j14 x69_19j14 x69_20j14 x69_21j14 x69_22j14 x69_58j14 x69_59j14 x69_60j14 x69_61j14 x69_62j14 x69_63j14 x69_64j14 x69_65j14 x69_66j14 A70j14 A71j14 A72j14 A73j14 m a H locs w_x69_4 w_x69_6 w_x69_9 w_x69_11 w_x69_19 w_x69_20 w_x69_21 w_x69_22 w_x69_58 w_x69_59 w_x69_60 w_x69_61 w_x69_62 w_x69_63 w_x69_64 w_x69_65 w_x69_66 hoff hsh w_A70 w_A71 w_A72 w_A73 hoffa ls hl hs1 hW hS
        unfold fX12_stepsTold_J31 at hs1
        refine lv_aload_n hx hb dX12_stepsTold_31 rfl (lv_at hl 0 rfl) ?_
        refine lv_iload_n hx hb dX12_stepsTold_32 rfl (lv_at hl 1 rfl) ?_
        obtain ⟨r16, hf16, hs1⟩ := obind hs1
        refine g_Vve (n := 1) hx hb hml hown hG hW hS [.int p1] XS.ok hE (kX12_stepTold hrec hN hsh ((hoff 6900 rfl).trans h_x69_0) ((hoff 6901 rfl).trans h_x69_1) ((hoff 6902 rfl).trans h_x69_2) ((hoff 6903 rfl).trans h_x69_3) ((hoff 6957 rfl).trans h_x69_57) ((hoffa 75 rfl).trans h_A75) w_x69_4 w_x69_6 w_x69_9 w_x69_11 w_x69_19 w_x69_20 w_x69_21 w_x69_22 w_x69_58 w_x69_59 w_x69_60 w_x69_61 w_x69_62 w_x69_63 w_x69_64 w_x69_65 w_x69_66 w_A70 w_A71 w_A72 w_A73 F p1 hf16) (ltN hN 69 rfl) gk69 (by decide) rfl rfl (gd_V gx1337 gx1338 gx1339 gx5 gx1353) rfl rfl (by decide) ⟨(show (kf + 24) + 1 ≤ kf + 36 by omega), (show 8 + (5 + 11) + (kl + 1000) ≤ kl + 1500 by omega)⟩ rfl hl (Nat.le_of_ble_eq_true rfl) ⟨Nat.zero_le _, Nat.zero_le _⟩ dX12_stepsTold_33 (fun m16 a16 H locs hp16 hW hS => ?_)
        obtain ⟨hp16_x69_4, hp16_x69_6, hp16_x69_9, hp16_x69_11, hp16_x69_19, hp16_x69_20, hp16_x69_21, hp16_x69_22, hp16_x69_58, hp16_x69_59, hp16_x69_60, hp16_x69_61, hp16_x69_62, hp16_x69_63, hp16_x69_64, hp16_x69_65, hp16_x69_66, ho16, hp16_A70, hp16_A71, hp16_A72, hp16_A73, hoa16⟩ := hp16
        have w_x69_4 : m16 6904 = .long r16.1 := hp16_x69_4
        have w_x69_6 : m16 6906 = .int r16.2.1 := hp16_x69_6
        have w_x69_9 : m16 6909 = .int r16.2.2.1 := hp16_x69_9
        have w_x69_11 : m16 6911 = .int r16.2.2.2.1 := hp16_x69_11
        have w_x69_19 : m16 6919 = .long r16.2.2.2.2.1 := hp16_x69_19
        have w_x69_20 : m16 6920 = .int r16.2.2.2.2.2.1 := hp16_x69_20
        have w_x69_21 : m16 6921 = .int r16.2.2.2.2.2.2.1 := hp16_x69_21
        have w_x69_22 : m16 6922 = .int r16.2.2.2.2.2.2.2.1 := hp16_x69_22
        have w_x69_58 : m16 6958 = .int r16.2.2.2.2.2.2.2.2.1 := hp16_x69_58
        have w_x69_59 : m16 6959 = .int r16.2.2.2.2.2.2.2.2.2.1 := hp16_x69_59
        have w_x69_60 : m16 6960 = .int r16.2.2.2.2.2.2.2.2.2.2.1 := hp16_x69_60
        have w_x69_61 : m16 6961 = .long r16.2.2.2.2.2.2.2.2.2.2.2.1 := hp16_x69_61
        have w_x69_62 : m16 6962 = .int r16.2.2.2.2.2.2.2.2.2.2.2.2.1 := hp16_x69_62
        have w_x69_63 : m16 6963 = .int r16.2.2.2.2.2.2.2.2.2.2.2.2.2.1 := hp16_x69_63
        have w_x69_64 : m16 6964 = .int r16.2.2.2.2.2.2.2.2.2.2.2.2.2.2.1 := hp16_x69_64
        have w_x69_65 : m16 6965 = .int r16.2.2.2.2.2.2.2.2.2.2.2.2.2.2.2.1 := hp16_x69_65
        have w_x69_66 : m16 6966 = .int r16.2.2.2.2.2.2.2.2.2.2.2.2.2.2.2.2.1 := hp16_x69_66
        have hoff := offm hoff ho16 (by decide +kernel)
        have hsh := SH.off hsh ho16 (by decide +kernel)
        have w_A70 : a16 70 = (30, .inl r16.2.2.2.2.2.2.2.2.2.2.2.2.2.2.2.2.2.1) := hp16_A70
        have w_A71 : a16 71 = (8, .inl r16.2.2.2.2.2.2.2.2.2.2.2.2.2.2.2.2.2.2.1) := hp16_A71
        have w_A72 : a16 72 = (40, .inl r16.2.2.2.2.2.2.2.2.2.2.2.2.2.2.2.2.2.2.2.1) := hp16_A72
        have w_A73 : a16 73 = (40, .inl r16.2.2.2.2.2.2.2.2.2.2.2.2.2.2.2.2.2.2.2.2) := hp16_A73
        have hoffa := offm hoffa hoa16 (by decide +kernel)
        refine lv_aload_n hx hb dX12_stepsTold_36 rfl (lv_at hl 0 rfl) ?_
        refine lv_bipush (v := 59) hx hb dX12_stepsTold_37 (by decide) ?_
        obtain ⟨r17, hf17, hs1⟩ := obind hs1
        refine g_Vv (n := 1) hx hb hml hown hG hW hS [.int 59] (kX12_must hN hsh ((hoff 6957 rfl).trans h_x69_57) ((hoffa 75 rfl).trans h_A75) w_x69_58 w_x69_59 w_x69_60 w_x69_61 w_x69_62 w_x69_63 F 59 hf17) (ltN hN 69 rfl) gk69 (by decide) rfl rfl (gd_V gx1340 gx1341 gx1342 gx5 gx1343) rfl rfl (by decide) ⟨(show 2 + 1 ≤ kf + 36 by omega), (show 8 + (2 + 11) + 43 ≤ kl + 1500 by omega)⟩ rfl hl (Nat.le_of_ble_eq_true rfl) ⟨Nat.zero_le _, Nat.zero_le _⟩ dX12_stepsTold_39 (fun m17 a17 H locs hp17 hW hS => ?_)
        obtain ⟨hp17_x69_58, hp17_x69_59, hp17_x69_60, hp17_x69_61, hp17_x69_62, hp17_x69_63, ho17, ha17⟩ := hp17
        rw [ha17] at hW
        have w_x69_4 : m17 6904 = .long r16.1 := (ho17 6904 rfl).trans w_x69_4
        have w_x69_6 : m17 6906 = .int r16.2.1 := (ho17 6906 rfl).trans w_x69_6
        have w_x69_9 : m17 6909 = .int r16.2.2.1 := (ho17 6909 rfl).trans w_x69_9
        have w_x69_11 : m17 6911 = .int r16.2.2.2.1 := (ho17 6911 rfl).trans w_x69_11
        have w_x69_19 : m17 6919 = .long r16.2.2.2.2.1 := (ho17 6919 rfl).trans w_x69_19
        have w_x69_20 : m17 6920 = .int r16.2.2.2.2.2.1 := (ho17 6920 rfl).trans w_x69_20
        have w_x69_21 : m17 6921 = .int r16.2.2.2.2.2.2.1 := (ho17 6921 rfl).trans w_x69_21
        have w_x69_22 : m17 6922 = .int r16.2.2.2.2.2.2.2.1 := (ho17 6922 rfl).trans w_x69_22
        have w_x69_58 : m17 6958 = .int r17.1 := hp17_x69_58
        have w_x69_59 : m17 6959 = .int r17.2.1 := hp17_x69_59
        have w_x69_60 : m17 6960 = .int r17.2.2.1 := hp17_x69_60
        have w_x69_61 : m17 6961 = .long r17.2.2.2.1 := hp17_x69_61
        have w_x69_62 : m17 6962 = .int r17.2.2.2.2.1 := hp17_x69_62
        have w_x69_63 : m17 6963 = .int r17.2.2.2.2.2 := hp17_x69_63
        have w_x69_64 : m17 6964 = .int r16.2.2.2.2.2.2.2.2.2.2.2.2.2.2.1 := (ho17 6964 rfl).trans w_x69_64
        have w_x69_65 : m17 6965 = .int r16.2.2.2.2.2.2.2.2.2.2.2.2.2.2.2.1 := (ho17 6965 rfl).trans w_x69_65
        have w_x69_66 : m17 6966 = .int r16.2.2.2.2.2.2.2.2.2.2.2.2.2.2.2.2.1 := (ho17 6966 rfl).trans w_x69_66
        have hoff := offm hoff ho17 (by decide +kernel)
        have hsh := SH.off hsh ho17 (by decide +kernel)
        refine lv_aload_n hx hb dX12_stepsTold_42 rfl (lv_at hl 0 rfl) ?_
        refine gf12_66 hx hb hG hown hW (o := 69) (ltN hN 69 rfl) gk69 (v := .int r16.2.2.2.2.2.2.2.2.2.2.2.2.2.2.2.2.1) w_x69_66 gx1312 dX12_stepsTold_43 ?_
        refine lv_if_eq (tgt := 0) hx hb dX12_stepsTold_46 (by decide) (fun c18 => ?_) (fun c18 => ?_)
        · rw [if_pos c18] at hs1
          exact ih1 r16.1 r16.2.1 r16.2.2.1 r16.2.2.2.1 r16.2.2.2.2.1 r16.2.2.2.2.2.1 r16.2.2.2.2.2.2.1 r16.2.2.2.2.2.2.2.1 r17.1 r17.2.1 r17.2.2.1 r17.2.2.2.1 r17.2.2.2.2.1 r17.2.2.2.2.2 r16.2.2.2.2.2.2.2.2.2.2.2.2.2.2.1 r16.2.2.2.2.2.2.2.2.2.2.2.2.2.2.2.1 r16.2.2.2.2.2.2.2.2.2.2.2.2.2.2.2.2.1 r16.2.2.2.2.2.2.2.2.2.2.2.2.2.2.2.2.2.1 r16.2.2.2.2.2.2.2.2.2.2.2.2.2.2.2.2.2.2.1 r16.2.2.2.2.2.2.2.2.2.2.2.2.2.2.2.2.2.2.2.1 r16.2.2.2.2.2.2.2.2.2.2.2.2.2.2.2.2.2.2.2.2 m17 a16 _ _ w_x69_4 w_x69_6 w_x69_9 w_x69_11 w_x69_19 w_x69_20 w_x69_21 w_x69_22 w_x69_58 w_x69_59 w_x69_60 w_x69_61 w_x69_62 w_x69_63 w_x69_64 w_x69_65 w_x69_66 hoff hsh w_A70 w_A71 w_A72 w_A73 hoffa ls (lv_sub hl [0, 1] rfl) (hXr1 _ (Option.some.inj hs1).symm) hW hS
        · rw [if_neg c18] at hs1
          refine lv_aload_n hx hb dX12_stepsTold_49 rfl (lv_at hl 0 rfl) ?_
          refine gf12_64 hx hb hG hown hW (o := 69) (ltN hN 69 rfl) gk69 (v := .int r16.2.2.2.2.2.2.2.2.2.2.2.2.2.2.1) w_x69_64 gx1311 dX12_stepsTold_50 ?_
          refine lv_if_eq (tgt := 0) hx hb dX12_stepsTold_53 (by decide) (fun c19 => ?_) (fun c19 => ?_)
          · rw [if_pos c19] at hs1
            exact ih1 r16.1 r16.2.1 r16.2.2.1 r16.2.2.2.1 r16.2.2.2.2.1 r16.2.2.2.2.2.1 r16.2.2.2.2.2.2.1 r16.2.2.2.2.2.2.2.1 r17.1 r17.2.1 r17.2.2.1 r17.2.2.2.1 r17.2.2.2.2.1 r17.2.2.2.2.2 r16.2.2.2.2.2.2.2.2.2.2.2.2.2.2.1 r16.2.2.2.2.2.2.2.2.2.2.2.2.2.2.2.1 r16.2.2.2.2.2.2.2.2.2.2.2.2.2.2.2.2.1 r16.2.2.2.2.2.2.2.2.2.2.2.2.2.2.2.2.2.1 r16.2.2.2.2.2.2.2.2.2.2.2.2.2.2.2.2.2.2.1 r16.2.2.2.2.2.2.2.2.2.2.2.2.2.2.2.2.2.2.2.1 r16.2.2.2.2.2.2.2.2.2.2.2.2.2.2.2.2.2.2.2.2 m17 a16 _ _ w_x69_4 w_x69_6 w_x69_9 w_x69_11 w_x69_19 w_x69_20 w_x69_21 w_x69_22 w_x69_58 w_x69_59 w_x69_60 w_x69_61 w_x69_62 w_x69_63 w_x69_64 w_x69_65 w_x69_66 hoff hsh w_A70 w_A71 w_A72 w_A73 hoffa ls (lv_sub hl [0, 1] rfl) (hXr1 _ (Option.some.inj hs1).symm) hW hS
          · rw [if_neg c19] at hs1
            exact hE1_56 (r16.1, r16.2.1, r16.2.2.1, r16.2.2.2.1, r16.2.2.2.2.1, r16.2.2.2.2.2.1, r16.2.2.2.2.2.2.1, r16.2.2.2.2.2.2.2.1, r17.1, r17.2.1, r17.2.2.1, r17.2.2.2.1, r17.2.2.2.2.1, r17.2.2.2.2.2, r16.2.2.2.2.2.2.2.2.2.2.2.2.2.2.1, r16.2.2.2.2.2.2.2.2.2.2.2.2.2.2.2.1, r16.2.2.2.2.2.2.2.2.2.2.2.2.2.2.2.2.1, r16.2.2.2.2.2.2.2.2.2.2.2.2.2.2.2.2.2.1, r16.2.2.2.2.2.2.2.2.2.2.2.2.2.2.2.2.2.2.1, r16.2.2.2.2.2.2.2.2.2.2.2.2.2.2.2.2.2.2.2.1, r16.2.2.2.2.2.2.2.2.2.2.2.2.2.2.2.2.2.2.2.2) (hXl1 _ (Option.some.inj hs1).symm) m17 a16 _ _ w_x69_4 w_x69_6 w_x69_9 w_x69_11 w_x69_19 w_x69_20 w_x69_21 w_x69_22 w_x69_58 w_x69_59 w_x69_60 w_x69_61 w_x69_62 w_x69_63 w_x69_64 w_x69_65 w_x69_66 hoff hsh w_A70 w_A71 w_A72 w_A73 hoffa ls (lv_sub hl [] rfl) hW hS
      refine lv_aload_n hx hb dX12_stepsTold_0 rfl (lv_at hl 0 rfl) ?_
      refine gf12_63 hx hb hG hown hW (o := 69) (ltN hN 69 rfl) gk69 (v := .int x69_63k1) w_x69_63 gx1305 dX12_stepsTold_1 ?_
      refine lv_if_ne (tgt := 57) hx hb dX12_stepsTold_4 (by decide) (fun c11 => ?_) (fun c11 => ?_)
      · rw [if_neg c11] at hs1
        exact hE1_57 (x69_4k1, x69_6k1, x69_9k1, x69_11k1, x69_19k1, x69_20k1, x69_21k1, x69_22k1, x69_58k1, x69_59k1, x69_60k1, x69_61k1, x69_62k1, x69_63k1, x69_64k1, x69_65k1, x69_66k1, A70k1, A71k1, A72k1, A73k1) (hXl1 _ (Option.some.inj hs1).symm) m a _ _ w_x69_4 w_x69_6 w_x69_9 w_x69_11 w_x69_19 w_x69_20 w_x69_21 w_x69_22 w_x69_58 w_x69_59 w_x69_60 w_x69_61 w_x69_62 w_x69_63 w_x69_64 w_x69_65 w_x69_66 hoff hsh w_A70 w_A71 w_A72 w_A73 hoffa ls (lv_sub hl [] rfl) hW hS
      · rw [if_pos c11] at hs1
        refine lv_aload_n hx hb dX12_stepsTold_7 rfl (lv_at hl 0 rfl) ?_
        refine gf12_60 hx hb hG hown hW (o := 69) (ltN hN 69 rfl) gk69 (v := .int x69_60k1) w_x69_60 gx1314 dX12_stepsTold_8 ?_
        refine lv_if_eq (tgt := 57) hx hb dX12_stepsTold_11 (by decide) (fun c12 => ?_) (fun c12 => ?_)
        · rw [if_pos c12] at hs1
          exact hE1_57 (x69_4k1, x69_6k1, x69_9k1, x69_11k1, x69_19k1, x69_20k1, x69_21k1, x69_22k1, x69_58k1, x69_59k1, x69_60k1, x69_61k1, x69_62k1, x69_63k1, x69_64k1, x69_65k1, x69_66k1, A70k1, A71k1, A72k1, A73k1) (hXl1 _ (Option.some.inj hs1).symm) m a _ _ w_x69_4 w_x69_6 w_x69_9 w_x69_11 w_x69_19 w_x69_20 w_x69_21 w_x69_22 w_x69_58 w_x69_59 w_x69_60 w_x69_61 w_x69_62 w_x69_63 w_x69_64 w_x69_65 w_x69_66 hoff hsh w_A70 w_A71 w_A72 w_A73 hoffa ls (lv_sub hl [] rfl) hW hS
        · rw [if_neg c12] at hs1
          refine lv_aload_n hx hb dX12_stepsTold_14 rfl (lv_at hl 0 rfl) ?_
          refine gf12_60 hx hb hG hown hW (o := 69) (ltN hN 69 rfl) gk69 (v := .int x69_60k1) w_x69_60 gx1314 dX12_stepsTold_15 ?_
          refine lv_iconst (v := 3) hx hb dX12_stepsTold_18 (by decide) ?_
          refine lv_icmp_ne (tgt := 31) hx hb dX12_stepsTold_19 (by decide) (fun c13 => ?_) (fun c13 => ?_)
          · rw [if_neg c13] at hs1
            exact hJ31_1 x69_4k1 x69_6k1 x69_9k1 x69_11k1 x69_19k1 x69_20k1 x69_21k1 x69_22k1 x69_58k1 x69_59k1 x69_60k1 x69_61k1 x69_62k1 x69_63k1 x69_64k1 x69_65k1 x69_66k1 A70k1 A71k1 A72k1 A73k1 m a _ _ w_x69_4 w_x69_6 w_x69_9 w_x69_11 w_x69_19 w_x69_20 w_x69_21 w_x69_22 w_x69_58 w_x69_59 w_x69_60 w_x69_61 w_x69_62 w_x69_63 w_x69_64 w_x69_65 w_x69_66 hoff hsh w_A70 w_A71 w_A72 w_A73 hoffa ls (lv_sub hl [0, 1] rfl) hs1 hW hS
          · rw [if_pos c13] at hs1
            refine lv_aload_n hx hb dX12_stepsTold_22 rfl (lv_at hl 0 rfl) ?_
            refine gf12_62 hx hb hG hown hW (o := 69) (ltN hN 69 rfl) gk69 (v := .int x69_62k1) w_x69_62 gx1321 dX12_stepsTold_23 ?_
            refine lv_bipush (v := 93) hx hb dX12_stepsTold_26 (by decide) ?_
            refine lv_icmp_eq (tgt := 57) hx hb dX12_stepsTold_28 (by decide) (fun c15 => ?_) (fun c15 => ?_)
            · rw [if_pos c15] at hs1
              exact hE1_57 (x69_4k1, x69_6k1, x69_9k1, x69_11k1, x69_19k1, x69_20k1, x69_21k1, x69_22k1, x69_58k1, x69_59k1, x69_60k1, x69_61k1, x69_62k1, x69_63k1, x69_64k1, x69_65k1, x69_66k1, A70k1, A71k1, A72k1, A73k1) (hXl1 _ (Option.some.inj hs1).symm) m a _ _ w_x69_4 w_x69_6 w_x69_9 w_x69_11 w_x69_19 w_x69_20 w_x69_21 w_x69_22 w_x69_58 w_x69_59 w_x69_60 w_x69_61 w_x69_62 w_x69_63 w_x69_64 w_x69_65 w_x69_66 hoff hsh w_A70 w_A71 w_A72 w_A73 hoffa ls (lv_sub hl [] rfl) hW hS
            · rw [if_neg c15] at hs1
              exact hJ31_1 x69_4k1 x69_6k1 x69_9k1 x69_11k1 x69_19k1 x69_20k1 x69_21k1 x69_22k1 x69_58k1 x69_59k1 x69_60k1 x69_61k1 x69_62k1 x69_63k1 x69_64k1 x69_65k1 x69_66k1 A70k1 A71k1 A72k1 A73k1 m a _ _ w_x69_4 w_x69_6 w_x69_9 w_x69_11 w_x69_19 w_x69_20 w_x69_21 w_x69_22 w_x69_58 w_x69_59 w_x69_60 w_x69_61 w_x69_62 w_x69_63 w_x69_64 w_x69_65 w_x69_66 hoff hsh w_A70 w_A71 w_A72 w_A73 hoffa ls (lv_sub hl [0, 1] rfl) hs1 hW hS
  exact hL1 F x69_4 x69_6 x69_9 x69_11 x69_19 x69_20 x69_21 x69_22 x69_58 x69_59 x69_60 x69_61 x69_62 x69_63 x69_64 x69_65 x69_66 A70 A71 A72 A73 m0 a0 _ _ h_x69_4 h_x69_6 h_x69_9 h_x69_11 h_x69_19 h_x69_20 h_x69_21 h_x69_22 h_x69_58 h_x69_59 h_x69_60 h_x69_61 h_x69_62 h_x69_63 h_x69_64 h_x69_65 h_x69_66 hoff hsh h_A70 h_A71 h_A72 h_A73 hoffa ls (lv_sub hl [0, 1] rfl) hg1 hW hS
def fX12_stepsTold (F : Nat) : Nat → Int32 → Int32 → Int32 → Int32 → Int32 → (Nat → Int32) → Int64 → Int32 → Int32 → Int32 → Int64 → Int32 → Int32 → Int32 → Int32 → Int32 → Int32 → Int64 → Int32 → Int32 → Int32 → Int32 → Int32 → (Nat → Int32) → (Nat → Int32) → (Nat → Int32) → (Nat → Int32) → Int32 → Option (Int64 × Int32 × Int32 × Int32 × Int64 × Int32 × Int32 × Int32 × Int32 × Int32 × Int32 × Int64 × Int32 × Int32 × Int32 × Int32 × Int32 × (Nat → Int32) × (Nat → Int32) × (Nat → Int32) × (Nat → Int32))
  | 0 => fun _ _ _ _ _ _ _ _ _ _ _ _ _ _ _ _ _ _ _ _ _ _ _ _ _ _ _ _ => none
  | d + 1 => fun x69_0 x69_1 x69_2 x69_3 x69_57 A75 x69_4 x69_6 x69_9 x69_11 x69_19 x69_20 x69_21 x69_22 x69_58 x69_59 x69_60 x69_61 x69_62 x69_63 x69_64 x69_65 x69_66 A70 A71 A72 A73 p1 => fX12_stepsTold_B (fX12_stepsTold F d) F x69_0 x69_1 x69_2 x69_3 x69_57 A75 x69_4 x69_6 x69_9 x69_11 x69_19 x69_20 x69_21 x69_22 x69_58 x69_59 x69_60 x69_61 x69_62 x69_63 x69_64 x69_65 x69_66 A70 A71 A72 A73 p1
set_option maxHeartbeats 4000000 in
theorem kX12_stepsTold_all {l : Launch} {D : va_G} {cy : Nat → ClassId} {N : Nat} {q : Nat → Nat} {sa sv : Nat → Nat}  (hN : 105 ≤ N) (F d : Nat) : ∀ {m0 : Nat → Value} {a0 : Nat → vp_A} {sz : Nat} (hsh : SH q m0) {x69_0 : Int32} (h_x69_0 : m0 6900 = .int x69_0) {x69_1 : Int32} (h_x69_1 : m0 6901 = .int x69_1) {x69_2 : Int32} (h_x69_2 : m0 6902 = .int x69_2) {x69_3 : Int32} (h_x69_3 : m0 6903 = .int x69_3) {x69_57 : Int32} (h_x69_57 : m0 6957 = .int x69_57) {A75 : Nat → Int32} (h_A75 : a0 75 = (264, .inl A75)) {x69_4 : Int64} (h_x69_4 : m0 6904 = .long x69_4) {x69_6 : Int32} (h_x69_6 : m0 6906 = .int x69_6) {x69_9 : Int32} (h_x69_9 : m0 6909 = .int x69_9) {x69_11 : Int32} (h_x69_11 : m0 6911 = .int x69_11) {x69_19 : Int64} (h_x69_19 : m0 6919 = .long x69_19) {x69_20 : Int32} (h_x69_20 : m0 6920 = .int x69_20) {x69_21 : Int32} (h_x69_21 : m0 6921 = .int x69_21) {x69_22 : Int32} (h_x69_22 : m0 6922 = .int x69_22) {x69_58 : Int32} (h_x69_58 : m0 6958 = .int x69_58) {x69_59 : Int32} (h_x69_59 : m0 6959 = .int x69_59) {x69_60 : Int32} (h_x69_60 : m0 6960 = .int x69_60) {x69_61 : Int64} (h_x69_61 : m0 6961 = .long x69_61) {x69_62 : Int32} (h_x69_62 : m0 6962 = .int x69_62) {x69_63 : Int32} (h_x69_63 : m0 6963 = .int x69_63) {x69_64 : Int32} (h_x69_64 : m0 6964 = .int x69_64) {x69_65 : Int32} (h_x69_65 : m0 6965 = .int x69_65) {x69_66 : Int32} (h_x69_66 : m0 6966 = .int x69_66) {A70 : Nat → Int32} (h_A70 : a0 70 = (30, .inl A70)) {A71 : Nat → Int32} (h_A71 : a0 71 = (8, .inl A71)) {A72 : Nat → Int32} (h_A72 : a0 72 = (40, .inl A72)) {A73 : Nat → Int32} (h_A73 : a0 73 = (40, .inl A73)) (p1 : Int32) {X0 : Int64 × Int32 × Int32 × Int32 × Int64 × Int32 × Int32 × Int32 × Int32 × Int32 × Int32 × Int64 × Int32 × Int32 × Int32 × Int32 × Int32 × (Nat → Int32) × (Nat → Int32) × (Nat → Int32) × (Nat → Int32)} (hs0 : fX12_stepsTold F d x69_0 x69_1 x69_2 x69_3 x69_57 A75 x69_4 x69_6 x69_9 x69_11 x69_19 x69_20 x69_21 x69_22 x69_58 x69_59 x69_60 x69_61 x69_62 x69_63 x69_64 x69_65 x69_66 A70 A71 A72 A73 p1 = some X0), eMv l yX12_stepsTold cX12_stepsTold 2 none ({ frames := 36 * d, cells := 0, slots := 0, locals := 1500 * d } : Room) D cy N q m0 a0 sz [.ref (q 69), .int p1] (XS sa sv) (fun m' a' => m' 6904 = .long X0.1 ∧ m' 6906 = .int X0.2.1 ∧ m' 6909 = .int X0.2.2.1 ∧ m' 6911 = .int X0.2.2.2.1 ∧ m' 6919 = .long X0.2.2.2.2.1 ∧ m' 6920 = .int X0.2.2.2.2.2.1 ∧ m' 6921 = .int X0.2.2.2.2.2.2.1 ∧ m' 6922 = .int X0.2.2.2.2.2.2.2.1 ∧ m' 6958 = .int X0.2.2.2.2.2.2.2.2.1 ∧ m' 6959 = .int X0.2.2.2.2.2.2.2.2.2.1 ∧ m' 6960 = .int X0.2.2.2.2.2.2.2.2.2.2.1 ∧ m' 6961 = .long X0.2.2.2.2.2.2.2.2.2.2.2.1 ∧ m' 6962 = .int X0.2.2.2.2.2.2.2.2.2.2.2.2.1 ∧ m' 6963 = .int X0.2.2.2.2.2.2.2.2.2.2.2.2.2.1 ∧ m' 6964 = .int X0.2.2.2.2.2.2.2.2.2.2.2.2.2.2.1 ∧ m' 6965 = .int X0.2.2.2.2.2.2.2.2.2.2.2.2.2.2.2.1 ∧ m' 6966 = .int X0.2.2.2.2.2.2.2.2.2.2.2.2.2.2.2.2.1 ∧ (∀ j, nel j [6904, 6906, 6909, 6911, 6919, 6920, 6921, 6922, 6958, 6959, 6960, 6961, 6962, 6963, 6964, 6965, 6966] = false → m' j = m0 j) ∧ a' 70 = (30, .inl X0.2.2.2.2.2.2.2.2.2.2.2.2.2.2.2.2.2.1) ∧ a' 71 = (8, .inl X0.2.2.2.2.2.2.2.2.2.2.2.2.2.2.2.2.2.2.1) ∧ a' 72 = (40, .inl X0.2.2.2.2.2.2.2.2.2.2.2.2.2.2.2.2.2.2.2.1) ∧ a' 73 = (40, .inl X0.2.2.2.2.2.2.2.2.2.2.2.2.2.2.2.2.2.2.2.2) ∧ (∀ j, nel j [70, 71, 72, 73] = false → a' j = a0 j)) := by
  induction d with
  | zero => intro m0 a0 sz hsh x69_0 h_x69_0 x69_1 h_x69_1 x69_2 h_x69_2 x69_3 h_x69_3 x69_57 h_x69_57 A75 h_A75 x69_4 h_x69_4 x69_6 h_x69_6 x69_9 h_x69_9 x69_11 h_x69_11 x69_19 h_x69_19 x69_20 h_x69_20 x69_21 h_x69_21 x69_22 h_x69_22 x69_58 h_x69_58 x69_59 h_x69_59 x69_60 h_x69_60 x69_61 h_x69_61 x69_62 h_x69_62 x69_63 h_x69_63 x69_64 h_x69_64 x69_65 h_x69_65 x69_66 h_x69_66 A70 h_A70 A71 h_A71 A72 h_A72 A73 h_A73 p1 X0 hs0; cases hs0
  | succ d ih => intro m0 a0 sz hsh x69_0 h_x69_0 x69_1 h_x69_1 x69_2 h_x69_2 x69_3 h_x69_3 x69_57 h_x69_57 A75 h_A75 x69_4 h_x69_4 x69_6 h_x69_6 x69_9 h_x69_9 x69_11 h_x69_11 x69_19 h_x69_19 x69_20 h_x69_20 x69_21 h_x69_21 x69_22 h_x69_22 x69_58 h_x69_58 x69_59 h_x69_59 x69_60 h_x69_60 x69_61 h_x69_61 x69_62 h_x69_62 x69_63 h_x69_63 x69_64 h_x69_64 x69_65 h_x69_65 x69_66 h_x69_66 A70 h_A70 A71 h_A71 A72 h_A72 A73 h_A73 p1 X0 hs0; exact kX12_stepsTold_B ih hN hsh h_x69_0 h_x69_1 h_x69_2 h_x69_3 h_x69_57 h_A75 h_x69_4 h_x69_6 h_x69_9 h_x69_11 h_x69_19 h_x69_20 h_x69_21 h_x69_22 h_x69_58 h_x69_59 h_x69_60 h_x69_61 h_x69_62 h_x69_63 h_x69_64 h_x69_65 h_x69_66 h_A70 h_A71 h_A72 h_A73 F p1 hs0
theorem kX12_stepsTold {l : Launch} {D : va_G} {cy : Nat → ClassId} {N : Nat} {q : Nat → Nat} {sa sv : Nat → Nat}  (hN : 105 ≤ N) (d : Nat) {m0 : Nat → Value} {a0 : Nat → vp_A} {sz : Nat} (hsh : SH q m0) {x69_0 : Int32} (h_x69_0 : m0 6900 = .int x69_0) {x69_1 : Int32} (h_x69_1 : m0 6901 = .int x69_1) {x69_2 : Int32} (h_x69_2 : m0 6902 = .int x69_2) {x69_3 : Int32} (h_x69_3 : m0 6903 = .int x69_3) {x69_57 : Int32} (h_x69_57 : m0 6957 = .int x69_57) {A75 : Nat → Int32} (h_A75 : a0 75 = (264, .inl A75)) {x69_4 : Int64} (h_x69_4 : m0 6904 = .long x69_4) {x69_6 : Int32} (h_x69_6 : m0 6906 = .int x69_6) {x69_9 : Int32} (h_x69_9 : m0 6909 = .int x69_9) {x69_11 : Int32} (h_x69_11 : m0 6911 = .int x69_11) {x69_19 : Int64} (h_x69_19 : m0 6919 = .long x69_19) {x69_20 : Int32} (h_x69_20 : m0 6920 = .int x69_20) {x69_21 : Int32} (h_x69_21 : m0 6921 = .int x69_21) {x69_22 : Int32} (h_x69_22 : m0 6922 = .int x69_22) {x69_58 : Int32} (h_x69_58 : m0 6958 = .int x69_58) {x69_59 : Int32} (h_x69_59 : m0 6959 = .int x69_59) {x69_60 : Int32} (h_x69_60 : m0 6960 = .int x69_60) {x69_61 : Int64} (h_x69_61 : m0 6961 = .long x69_61) {x69_62 : Int32} (h_x69_62 : m0 6962 = .int x69_62) {x69_63 : Int32} (h_x69_63 : m0 6963 = .int x69_63) {x69_64 : Int32} (h_x69_64 : m0 6964 = .int x69_64) {x69_65 : Int32} (h_x69_65 : m0 6965 = .int x69_65) {x69_66 : Int32} (h_x69_66 : m0 6966 = .int x69_66) {A70 : Nat → Int32} (h_A70 : a0 70 = (30, .inl A70)) {A71 : Nat → Int32} (h_A71 : a0 71 = (8, .inl A71)) {A72 : Nat → Int32} (h_A72 : a0 72 = (40, .inl A72)) {A73 : Nat → Int32} (h_A73 : a0 73 = (40, .inl A73)) (F : Nat) (p1 : Int32) {X0 : Int64 × Int32 × Int32 × Int32 × Int64 × Int32 × Int32 × Int32 × Int32 × Int32 × Int32 × Int64 × Int32 × Int32 × Int32 × Int32 × Int32 × (Nat → Int32) × (Nat → Int32) × (Nat → Int32) × (Nat → Int32)} (hs0 : fX12_stepsTold F d x69_0 x69_1 x69_2 x69_3 x69_57 A75 x69_4 x69_6 x69_9 x69_11 x69_19 x69_20 x69_21 x69_22 x69_58 x69_59 x69_60 x69_61 x69_62 x69_63 x69_64 x69_65 x69_66 A70 A71 A72 A73 p1 = some X0) : eMv l yX12_stepsTold cX12_stepsTold 2 none ({ frames := 36 * d, cells := 0, slots := 0, locals := 1500 * d } : Room) D cy N q m0 a0 sz [.ref (q 69), .int p1] (XS sa sv) (fun m' a' => m' 6904 = .long X0.1 ∧ m' 6906 = .int X0.2.1 ∧ m' 6909 = .int X0.2.2.1 ∧ m' 6911 = .int X0.2.2.2.1 ∧ m' 6919 = .long X0.2.2.2.2.1 ∧ m' 6920 = .int X0.2.2.2.2.2.1 ∧ m' 6921 = .int X0.2.2.2.2.2.2.1 ∧ m' 6922 = .int X0.2.2.2.2.2.2.2.1 ∧ m' 6958 = .int X0.2.2.2.2.2.2.2.2.1 ∧ m' 6959 = .int X0.2.2.2.2.2.2.2.2.2.1 ∧ m' 6960 = .int X0.2.2.2.2.2.2.2.2.2.2.1 ∧ m' 6961 = .long X0.2.2.2.2.2.2.2.2.2.2.2.1 ∧ m' 6962 = .int X0.2.2.2.2.2.2.2.2.2.2.2.2.1 ∧ m' 6963 = .int X0.2.2.2.2.2.2.2.2.2.2.2.2.2.1 ∧ m' 6964 = .int X0.2.2.2.2.2.2.2.2.2.2.2.2.2.2.1 ∧ m' 6965 = .int X0.2.2.2.2.2.2.2.2.2.2.2.2.2.2.2.1 ∧ m' 6966 = .int X0.2.2.2.2.2.2.2.2.2.2.2.2.2.2.2.2.1 ∧ (∀ j, nel j [6904, 6906, 6909, 6911, 6919, 6920, 6921, 6922, 6958, 6959, 6960, 6961, 6962, 6963, 6964, 6965, 6966] = false → m' j = m0 j) ∧ a' 70 = (30, .inl X0.2.2.2.2.2.2.2.2.2.2.2.2.2.2.2.2.2.1) ∧ a' 71 = (8, .inl X0.2.2.2.2.2.2.2.2.2.2.2.2.2.2.2.2.2.2.1) ∧ a' 72 = (40, .inl X0.2.2.2.2.2.2.2.2.2.2.2.2.2.2.2.2.2.2.2.1) ∧ a' 73 = (40, .inl X0.2.2.2.2.2.2.2.2.2.2.2.2.2.2.2.2.2.2.2.2) ∧ (∀ j, nel j [70, 71, 72, 73] = false → a' j = a0 j)) := kX12_stepsTold_all hN F d hsh h_x69_0 h_x69_1 h_x69_2 h_x69_3 h_x69_57 h_A75 h_x69_4 h_x69_6 h_x69_9 h_x69_11 h_x69_19 h_x69_20 h_x69_21 h_x69_22 h_x69_58 h_x69_59 h_x69_60 h_x69_61 h_x69_62 h_x69_63 h_x69_64 h_x69_65 h_x69_66 h_A70 h_A71 h_A72 h_A73 p1 hs0
-- HealLinkModel.goesThrough (Z)V
def fX12_goesThrough (F : Nat) (x69_0 : Int32) (x69_1 : Int32) (x69_2 : Int32) (x69_3 : Int32) (x69_57 : Int32) (A75 : Nat → Int32) (x69_4 : Int64) (x69_6 : Int32) (x69_9 : Int32) (x69_11 : Int32) (x69_19 : Int64) (x69_20 : Int32) (x69_21 : Int32) (x69_22 : Int32) (x69_58 : Int32) (x69_59 : Int32) (x69_60 : Int32) (x69_61 : Int64) (x69_62 : Int32) (x69_63 : Int32) (x69_64 : Int32) (x69_65 : Int32) (x69_66 : Int32) (A70 : Nat → Int32) (A71 : Nat → Int32) (A72 : Nat → Int32) (A73 : Nat → Int32) (p1 : Int32) : Option (Int64 × Int32 × Int32 × Int32 × Int64 × Int32 × Int32 × Int32 × Int32 × Int32 × Int32 × Int64 × Int32 × Int32 × Int32 × Int32 × Int32 × (Nat → Int32) × (Nat → Int32) × (Nat → Int32) × (Nat → Int32)) := (if bzb p1 = true then ((fX12_next F x69_57 0 A75 x69_58 0 x69_60 x69_61 x69_62).bind (fun r7 => ((fX12_stepsTold F 7 x69_0 x69_1 x69_2 x69_3 x69_57 A75 x69_4 x69_6 x69_9 x69_11 x69_19 x69_20 x69_21 x69_22 r7.1 r7.2.1 r7.2.2.1 r7.2.2.2.1 r7.2.2.2.2 0 p1 0 0 A70 A71 A72 A73 0).bind (fun r8 => (if r8.2.2.2.2.2.2.2.2.2.2.2.2.2.1 = 0 then (if r8.2.2.2.2.2.2.2.2.2.2.2.2.2.2.2.2.1 = 0 then (if r8.2.2.2.2.2.2.2.2.2.2.1 = 0 then some (r8.1, r8.2.1, r8.2.2.1, r8.2.2.2.1, r8.2.2.2.2.1, r8.2.2.2.2.2.1, r8.2.2.2.2.2.2.1, r8.2.2.2.2.2.2.2.1, r8.2.2.2.2.2.2.2.2.1, r8.2.2.2.2.2.2.2.2.2.1, r8.2.2.2.2.2.2.2.2.2.2.1, r8.2.2.2.2.2.2.2.2.2.2.2.1, r8.2.2.2.2.2.2.2.2.2.2.2.2.1, r8.2.2.2.2.2.2.2.2.2.2.2.2.2.1, r8.2.2.2.2.2.2.2.2.2.2.2.2.2.2.1, r8.2.2.2.2.2.2.2.2.2.2.2.2.2.2.2.1, r8.2.2.2.2.2.2.2.2.2.2.2.2.2.2.2.2.1, r8.2.2.2.2.2.2.2.2.2.2.2.2.2.2.2.2.2.1, r8.2.2.2.2.2.2.2.2.2.2.2.2.2.2.2.2.2.2.1, r8.2.2.2.2.2.2.2.2.2.2.2.2.2.2.2.2.2.2.2.1, r8.2.2.2.2.2.2.2.2.2.2.2.2.2.2.2.2.2.2.2.2) else some (r8.1, r8.2.1, r8.2.2.1, r8.2.2.2.1, r8.2.2.2.2.1, r8.2.2.2.2.2.1, r8.2.2.2.2.2.2.1, r8.2.2.2.2.2.2.2.1, r8.2.2.2.2.2.2.2.2.1, r8.2.2.2.2.2.2.2.2.2.1, r8.2.2.2.2.2.2.2.2.2.2.1, r8.2.2.2.2.2.2.2.2.2.2.2.1, r8.2.2.2.2.2.2.2.2.2.2.2.2.1, (fX12_wrong r8.2.2.2.2.2.2.2.2.1 r8.2.2.2.2.2.2.2.2.2.2.2.2.2.1 1), r8.2.2.2.2.2.2.2.2.2.2.2.2.2.2.1, r8.2.2.2.2.2.2.2.2.2.2.2.2.2.2.2.1, r8.2.2.2.2.2.2.2.2.2.2.2.2.2.2.2.2.1, r8.2.2.2.2.2.2.2.2.2.2.2.2.2.2.2.2.2.1, r8.2.2.2.2.2.2.2.2.2.2.2.2.2.2.2.2.2.2.1, r8.2.2.2.2.2.2.2.2.2.2.2.2.2.2.2.2.2.2.2.1, r8.2.2.2.2.2.2.2.2.2.2.2.2.2.2.2.2.2.2.2.2)) else some (r8.1, r8.2.1, r8.2.2.1, r8.2.2.2.1, r8.2.2.2.2.1, r8.2.2.2.2.2.1, r8.2.2.2.2.2.2.1, r8.2.2.2.2.2.2.2.1, r8.2.2.2.2.2.2.2.2.1, r8.2.2.2.2.2.2.2.2.2.1, r8.2.2.2.2.2.2.2.2.2.2.1, r8.2.2.2.2.2.2.2.2.2.2.2.1, r8.2.2.2.2.2.2.2.2.2.2.2.2.1, r8.2.2.2.2.2.2.2.2.2.2.2.2.2.1, r8.2.2.2.2.2.2.2.2.2.2.2.2.2.2.1, r8.2.2.2.2.2.2.2.2.2.2.2.2.2.2.2.1, r8.2.2.2.2.2.2.2.2.2.2.2.2.2.2.2.2.1, r8.2.2.2.2.2.2.2.2.2.2.2.2.2.2.2.2.2.1, r8.2.2.2.2.2.2.2.2.2.2.2.2.2.2.2.2.2.2.1, r8.2.2.2.2.2.2.2.2.2.2.2.2.2.2.2.2.2.2.2.1, r8.2.2.2.2.2.2.2.2.2.2.2.2.2.2.2.2.2.2.2.2)) else some (r8.1, r8.2.1, r8.2.2.1, r8.2.2.2.1, r8.2.2.2.2.1, r8.2.2.2.2.2.1, r8.2.2.2.2.2.2.1, r8.2.2.2.2.2.2.2.1, r8.2.2.2.2.2.2.2.2.1, r8.2.2.2.2.2.2.2.2.2.1, r8.2.2.2.2.2.2.2.2.2.2.1, r8.2.2.2.2.2.2.2.2.2.2.2.1, r8.2.2.2.2.2.2.2.2.2.2.2.2.1, r8.2.2.2.2.2.2.2.2.2.2.2.2.2.1, r8.2.2.2.2.2.2.2.2.2.2.2.2.2.2.1, r8.2.2.2.2.2.2.2.2.2.2.2.2.2.2.2.1, r8.2.2.2.2.2.2.2.2.2.2.2.2.2.2.2.2.1, r8.2.2.2.2.2.2.2.2.2.2.2.2.2.2.2.2.2.1, r8.2.2.2.2.2.2.2.2.2.2.2.2.2.2.2.2.2.2.1, r8.2.2.2.2.2.2.2.2.2.2.2.2.2.2.2.2.2.2.2.1, r8.2.2.2.2.2.2.2.2.2.2.2.2.2.2.2.2.2.2.2.2)))))) else none)
theorem dX12_goesThrough_0 : decode cX12_goesThrough 0 = .ok (.aload_n 0, 1) := by decide +kernel
theorem dX12_goesThrough_1 : decode cX12_goesThrough 1 = .ok (.iload_n 1, 1) := by decide +kernel
theorem dX12_goesThrough_2 : decode cX12_goesThrough 2 = .ok (.putfield 405, 3) := by decide +kernel
theorem dX12_goesThrough_5 : decode cX12_goesThrough 5 = .ok (.aload_n 0, 1) := by decide +kernel
theorem dX12_goesThrough_6 : decode cX12_goesThrough 6 = .ok (.iconst 0, 1) := by decide +kernel
theorem dX12_goesThrough_7 : decode cX12_goesThrough 7 = .ok (.putfield 408, 3) := by decide +kernel
theorem dX12_goesThrough_10 : decode cX12_goesThrough 10 = .ok (.aload_n 0, 1) := by decide +kernel
theorem dX12_goesThrough_11 : decode cX12_goesThrough 11 = .ok (.iconst 0, 1) := by decide +kernel
theorem dX12_goesThrough_12 : decode cX12_goesThrough 12 = .ok (.putfield 411, 3) := by decide +kernel
theorem dX12_goesThrough_15 : decode cX12_goesThrough 15 = .ok (.aload_n 0, 1) := by decide +kernel
theorem dX12_goesThrough_16 : decode cX12_goesThrough 16 = .ok (.iconst 0, 1) := by decide +kernel
theorem dX12_goesThrough_17 : decode cX12_goesThrough 17 = .ok (.putfield 356, 3) := by decide +kernel
theorem dX12_goesThrough_20 : decode cX12_goesThrough 20 = .ok (.aload_n 0, 1) := by decide +kernel
theorem dX12_goesThrough_21 : decode cX12_goesThrough 21 = .ok (.iconst 0, 1) := by decide +kernel
theorem dX12_goesThrough_22 : decode cX12_goesThrough 22 = .ok (.putfield 359, 3) := by decide +kernel
theorem dX12_goesThrough_25 : decode cX12_goesThrough 25 = .ok (.aload_n 0, 1) := by decide +kernel
theorem dX12_goesThrough_26 : decode cX12_goesThrough 26 = .ok (.invokevirtual 402, 3) := by decide +kernel
theorem dX12_goesThrough_29 : decode cX12_goesThrough 29 = .ok (.aload_n 0, 1) := by decide +kernel
theorem dX12_goesThrough_30 : decode cX12_goesThrough 30 = .ok (.iconst 0, 1) := by decide +kernel
theorem dX12_goesThrough_31 : decode cX12_goesThrough 31 = .ok (.invokevirtual 447, 3) := by decide +kernel
theorem dX12_goesThrough_34 : decode cX12_goesThrough 34 = .ok (.aload_n 0, 1) := by decide +kernel
theorem dX12_goesThrough_35 : decode cX12_goesThrough 35 = .ok (.getfield 356, 3) := by decide +kernel
theorem dX12_goesThrough_38 : decode cX12_goesThrough 38 = .ok (.ifCond .ne 22, 3) := by decide +kernel
theorem dX12_goesThrough_41 : decode cX12_goesThrough 41 = .ok (.aload_n 0, 1) := by decide +kernel
theorem dX12_goesThrough_42 : decode cX12_goesThrough 42 = .ok (.getfield 408, 3) := by decide +kernel
theorem dX12_goesThrough_45 : decode cX12_goesThrough 45 = .ok (.ifCond .ne 15, 3) := by decide +kernel
theorem dX12_goesThrough_48 : decode cX12_goesThrough 48 = .ok (.aload_n 0, 1) := by decide +kernel
theorem dX12_goesThrough_49 : decode cX12_goesThrough 49 = .ok (.getfield 368, 3) := by decide +kernel
theorem dX12_goesThrough_52 : decode cX12_goesThrough 52 = .ok (.ifCond .eq 8, 3) := by decide +kernel
theorem dX12_goesThrough_55 : decode cX12_goesThrough 55 = .ok (.aload_n 0, 1) := by decide +kernel
theorem dX12_goesThrough_56 : decode cX12_goesThrough 56 = .ok (.iconst 1, 1) := by decide +kernel
theorem dX12_goesThrough_57 : decode cX12_goesThrough 57 = .ok (.invokevirtual 399, 3) := by decide +kernel
theorem dX12_goesThrough_60 : decode cX12_goesThrough 60 = .ok (.return_, 1) := by decide +kernel
set_option maxHeartbeats 4000000 in
set_option maxRecDepth 100000 in
theorem kX12_goesThrough {l : Launch} {D : va_G} {cy : Nat → ClassId} {N : Nat} {q : Nat → Nat} {sa sv : Nat → Nat} {m0 : Nat → Value} {a0 : Nat → vp_A} {sz : Nat} (hN : 105 ≤ N) (hsh : SH q m0) {x69_0 : Int32} (h_x69_0 : m0 6900 = .int x69_0) {x69_1 : Int32} (h_x69_1 : m0 6901 = .int x69_1) {x69_2 : Int32} (h_x69_2 : m0 6902 = .int x69_2) {x69_3 : Int32} (h_x69_3 : m0 6903 = .int x69_3) {x69_57 : Int32} (h_x69_57 : m0 6957 = .int x69_57) {A75 : Nat → Int32} (h_A75 : a0 75 = (264, .inl A75)) {x69_4 : Int64} (h_x69_4 : m0 6904 = .long x69_4) {x69_6 : Int32} (h_x69_6 : m0 6906 = .int x69_6) {x69_9 : Int32} (h_x69_9 : m0 6909 = .int x69_9) {x69_11 : Int32} (h_x69_11 : m0 6911 = .int x69_11) {x69_19 : Int64} (h_x69_19 : m0 6919 = .long x69_19) {x69_20 : Int32} (h_x69_20 : m0 6920 = .int x69_20) {x69_21 : Int32} (h_x69_21 : m0 6921 = .int x69_21) {x69_22 : Int32} (h_x69_22 : m0 6922 = .int x69_22) {x69_58 : Int32} (h_x69_58 : m0 6958 = .int x69_58) {x69_59 : Int32} (h_x69_59 : m0 6959 = .int x69_59) {x69_60 : Int32} (h_x69_60 : m0 6960 = .int x69_60) {x69_61 : Int64} (h_x69_61 : m0 6961 = .long x69_61) {x69_62 : Int32} (h_x69_62 : m0 6962 = .int x69_62) {x69_63 : Int32} (h_x69_63 : m0 6963 = .int x69_63) {x69_64 : Int32} (h_x69_64 : m0 6964 = .int x69_64) {x69_65 : Int32} (h_x69_65 : m0 6965 = .int x69_65) {x69_66 : Int32} (h_x69_66 : m0 6966 = .int x69_66) {A70 : Nat → Int32} (h_A70 : a0 70 = (30, .inl A70)) {A71 : Nat → Int32} (h_A71 : a0 71 = (8, .inl A71)) {A72 : Nat → Int32} (h_A72 : a0 72 = (40, .inl A72)) {A73 : Nat → Int32} (h_A73 : a0 73 = (40, .inl A73)) (F : Nat) (p1 : Int32) {X0 : Int64 × Int32 × Int32 × Int32 × Int64 × Int32 × Int32 × Int32 × Int32 × Int32 × Int32 × Int64 × Int32 × Int32 × Int32 × Int32 × Int32 × (Nat → Int32) × (Nat → Int32) × (Nat → Int32) × (Nat → Int32)} (hs0 : fX12_goesThrough F x69_0 x69_1 x69_2 x69_3 x69_57 A75 x69_4 x69_6 x69_9 x69_11 x69_19 x69_20 x69_21 x69_22 x69_58 x69_59 x69_60 x69_61 x69_62 x69_63 x69_64 x69_65 x69_66 A70 A71 A72 A73 p1 = some X0) : eMv l yX12_goesThrough cX12_goesThrough 2 none ({ frames := 253, cells := 0, slots := 0, locals := 10521 } : Room) D cy N q m0 a0 sz [.ref (q 69), .int p1] (XS sa sv) (fun m' a' => m' 6904 = .long X0.1 ∧ m' 6906 = .int X0.2.1 ∧ m' 6909 = .int X0.2.2.1 ∧ m' 6911 = .int X0.2.2.2.1 ∧ m' 6919 = .long X0.2.2.2.2.1 ∧ m' 6920 = .int X0.2.2.2.2.2.1 ∧ m' 6921 = .int X0.2.2.2.2.2.2.1 ∧ m' 6922 = .int X0.2.2.2.2.2.2.2.1 ∧ m' 6958 = .int X0.2.2.2.2.2.2.2.2.1 ∧ m' 6959 = .int X0.2.2.2.2.2.2.2.2.2.1 ∧ m' 6960 = .int X0.2.2.2.2.2.2.2.2.2.2.1 ∧ m' 6961 = .long X0.2.2.2.2.2.2.2.2.2.2.2.1 ∧ m' 6962 = .int X0.2.2.2.2.2.2.2.2.2.2.2.2.1 ∧ m' 6963 = .int X0.2.2.2.2.2.2.2.2.2.2.2.2.2.1 ∧ m' 6964 = .int X0.2.2.2.2.2.2.2.2.2.2.2.2.2.2.1 ∧ m' 6965 = .int X0.2.2.2.2.2.2.2.2.2.2.2.2.2.2.2.1 ∧ m' 6966 = .int X0.2.2.2.2.2.2.2.2.2.2.2.2.2.2.2.2.1 ∧ (∀ j, nel j [6904, 6906, 6909, 6911, 6919, 6920, 6921, 6922, 6958, 6959, 6960, 6961, 6962, 6963, 6964, 6965, 6966] = false → m' j = m0 j) ∧ a' 70 = (30, .inl X0.2.2.2.2.2.2.2.2.2.2.2.2.2.2.2.2.2.1) ∧ a' 71 = (8, .inl X0.2.2.2.2.2.2.2.2.2.2.2.2.2.2.2.2.2.2.1) ∧ a' 72 = (40, .inl X0.2.2.2.2.2.2.2.2.2.2.2.2.2.2.2.2.2.2.2.1) ∧ a' 73 = (40, .inl X0.2.2.2.2.2.2.2.2.2.2.2.2.2.2.2.2.2.2.2.2) ∧ (∀ j, nel j [70, 71, 72, 73] = false → a' j = a0 j)) := by
  refine e_ofv (by decide) (Nat.le_of_ble_eq_true rfl) ?_
  intro p e s M args below meth c hx hb hr hG hown hin hlocks hml hW hS hE ls hl
  unfold fX12_goesThrough at hs0
  have hoff : ∀ j, nel j [6904, 6906, 6909, 6911, 6919, 6920, 6921, 6922, 6958, 6959, 6960, 6961, 6962, 6963, 6964, 6965, 6966] = false → m0 j = m0 j := off0
  have hoffa : ∀ j, nel j [70, 71, 72, 73] = false → a0 j = a0 j := off0
  refine lv_aload_n hx hb dX12_goesThrough_0 rfl (lv_at hl 0 rfl) ?_
  refine lv_iload_n hx hb dX12_goesThrough_1 rfl (lv_at hl 1 rfl) ?_
  obtain ⟨hz1, hs0⟩ := oif hs0
  refine gp12_64 hx hb hG hown hW hS (o := 69) (ltN hN 69 rfl) gk69 (v := p1) hz1 gx1311 dX12_goesThrough_2 (fun m2 H locs hm2 ho2 hW hS => ?_)
  have ho2 := off1 ho2
  have w_x69_4 : m2 6904 = .long x69_4 := (ho2 6904 rfl).trans h_x69_4
  have w_x69_6 : m2 6906 = .int x69_6 := (ho2 6906 rfl).trans h_x69_6
  have w_x69_9 : m2 6909 = .int x69_9 := (ho2 6909 rfl).trans h_x69_9
  have w_x69_11 : m2 6911 = .int x69_11 := (ho2 6911 rfl).trans h_x69_11
  have w_x69_19 : m2 6919 = .long x69_19 := (ho2 6919 rfl).trans h_x69_19
  have w_x69_20 : m2 6920 = .int x69_20 := (ho2 6920 rfl).trans h_x69_20
  have w_x69_21 : m2 6921 = .int x69_21 := (ho2 6921 rfl).trans h_x69_21
  have w_x69_22 : m2 6922 = .int x69_22 := (ho2 6922 rfl).trans h_x69_22
  have w_x69_58 : m2 6958 = .int x69_58 := (ho2 6958 rfl).trans h_x69_58
  have w_x69_59 : m2 6959 = .int x69_59 := (ho2 6959 rfl).trans h_x69_59
  have w_x69_60 : m2 6960 = .int x69_60 := (ho2 6960 rfl).trans h_x69_60
  have w_x69_61 : m2 6961 = .long x69_61 := (ho2 6961 rfl).trans h_x69_61
  have w_x69_62 : m2 6962 = .int x69_62 := (ho2 6962 rfl).trans h_x69_62
  have w_x69_63 : m2 6963 = .int x69_63 := (ho2 6963 rfl).trans h_x69_63
  have w_x69_64 : m2 6964 = .int p1 := hm2
  have w_x69_65 : m2 6965 = .int x69_65 := (ho2 6965 rfl).trans h_x69_65
  have w_x69_66 : m2 6966 = .int x69_66 := (ho2 6966 rfl).trans h_x69_66
  have hoff := offm hoff ho2 (by decide +kernel)
  have hsh := SH.off hsh ho2 (by decide +kernel)
  refine lv_aload_n hx hb dX12_goesThrough_5 rfl (lv_at hl 0 rfl) ?_
  refine lv_iconst (v := 0) hx hb dX12_goesThrough_6 (by decide) ?_
  refine gp12_66 hx hb hG hown hW hS (o := 69) (ltN hN 69 rfl) gk69 (v := 0) (by decide) gx1312 dX12_goesThrough_7 (fun m3 H locs hm3 ho3 hW hS => ?_)
  have ho3 := off1 ho3
  have w_x69_4 : m3 6904 = .long x69_4 := (ho3 6904 rfl).trans w_x69_4
  have w_x69_6 : m3 6906 = .int x69_6 := (ho3 6906 rfl).trans w_x69_6
  have w_x69_9 : m3 6909 = .int x69_9 := (ho3 6909 rfl).trans w_x69_9
  have w_x69_11 : m3 6911 = .int x69_11 := (ho3 6911 rfl).trans w_x69_11
  have w_x69_19 : m3 6919 = .long x69_19 := (ho3 6919 rfl).trans w_x69_19
  have w_x69_20 : m3 6920 = .int x69_20 := (ho3 6920 rfl).trans w_x69_20
  have w_x69_21 : m3 6921 = .int x69_21 := (ho3 6921 rfl).trans w_x69_21
  have w_x69_22 : m3 6922 = .int x69_22 := (ho3 6922 rfl).trans w_x69_22
  have w_x69_58 : m3 6958 = .int x69_58 := (ho3 6958 rfl).trans w_x69_58
  have w_x69_59 : m3 6959 = .int x69_59 := (ho3 6959 rfl).trans w_x69_59
  have w_x69_60 : m3 6960 = .int x69_60 := (ho3 6960 rfl).trans w_x69_60
  have w_x69_61 : m3 6961 = .long x69_61 := (ho3 6961 rfl).trans w_x69_61
  have w_x69_62 : m3 6962 = .int x69_62 := (ho3 6962 rfl).trans w_x69_62
  have w_x69_63 : m3 6963 = .int x69_63 := (ho3 6963 rfl).trans w_x69_63
  have w_x69_64 : m3 6964 = .int p1 := (ho3 6964 rfl).trans w_x69_64
  have w_x69_65 : m3 6965 = .int x69_65 := (ho3 6965 rfl).trans w_x69_65
  have w_x69_66 : m3 6966 = .int 0 := hm3
  have hoff := offm hoff ho3 (by decide +kernel)
  have hsh := SH.off hsh ho3 (by decide +kernel)
  refine lv_aload_n hx hb dX12_goesThrough_10 rfl (lv_at hl 0 rfl) ?_
  refine lv_iconst (v := 0) hx hb dX12_goesThrough_11 (by decide) ?_
  refine gp12_65 hx hb hG hown hW hS (o := 69) (ltN hN 69 rfl) gk69 (v := 0) gx1306 dX12_goesThrough_12 (fun m4 H locs hm4 ho4 hW hS => ?_)
  have ho4 := off1 ho4
  have w_x69_4 : m4 6904 = .long x69_4 := (ho4 6904 rfl).trans w_x69_4
  have w_x69_6 : m4 6906 = .int x69_6 := (ho4 6906 rfl).trans w_x69_6
  have w_x69_9 : m4 6909 = .int x69_9 := (ho4 6909 rfl).trans w_x69_9
  have w_x69_11 : m4 6911 = .int x69_11 := (ho4 6911 rfl).trans w_x69_11
  have w_x69_19 : m4 6919 = .long x69_19 := (ho4 6919 rfl).trans w_x69_19
  have w_x69_20 : m4 6920 = .int x69_20 := (ho4 6920 rfl).trans w_x69_20
  have w_x69_21 : m4 6921 = .int x69_21 := (ho4 6921 rfl).trans w_x69_21
  have w_x69_22 : m4 6922 = .int x69_22 := (ho4 6922 rfl).trans w_x69_22
  have w_x69_58 : m4 6958 = .int x69_58 := (ho4 6958 rfl).trans w_x69_58
  have w_x69_59 : m4 6959 = .int x69_59 := (ho4 6959 rfl).trans w_x69_59
  have w_x69_60 : m4 6960 = .int x69_60 := (ho4 6960 rfl).trans w_x69_60
  have w_x69_61 : m4 6961 = .long x69_61 := (ho4 6961 rfl).trans w_x69_61
  have w_x69_62 : m4 6962 = .int x69_62 := (ho4 6962 rfl).trans w_x69_62
  have w_x69_63 : m4 6963 = .int x69_63 := (ho4 6963 rfl).trans w_x69_63
  have w_x69_64 : m4 6964 = .int p1 := (ho4 6964 rfl).trans w_x69_64
  have w_x69_65 : m4 6965 = .int 0 := hm4
  have w_x69_66 : m4 6966 = .int 0 := (ho4 6966 rfl).trans w_x69_66
  have hoff := offm hoff ho4 (by decide +kernel)
  have hsh := SH.off hsh ho4 (by decide +kernel)
  refine lv_aload_n hx hb dX12_goesThrough_15 rfl (lv_at hl 0 rfl) ?_
  refine lv_iconst (v := 0) hx hb dX12_goesThrough_16 (by decide) ?_
  refine gp12_63 hx hb hG hown hW hS (o := 69) (ltN hN 69 rfl) gk69 (v := 0) gx1305 dX12_goesThrough_17 (fun m5 H locs hm5 ho5 hW hS => ?_)
  have ho5 := off1 ho5
  have w_x69_4 : m5 6904 = .long x69_4 := (ho5 6904 rfl).trans w_x69_4
  have w_x69_6 : m5 6906 = .int x69_6 := (ho5 6906 rfl).trans w_x69_6
  have w_x69_9 : m5 6909 = .int x69_9 := (ho5 6909 rfl).trans w_x69_9
  have w_x69_11 : m5 6911 = .int x69_11 := (ho5 6911 rfl).trans w_x69_11
  have w_x69_19 : m5 6919 = .long x69_19 := (ho5 6919 rfl).trans w_x69_19
  have w_x69_20 : m5 6920 = .int x69_20 := (ho5 6920 rfl).trans w_x69_20
  have w_x69_21 : m5 6921 = .int x69_21 := (ho5 6921 rfl).trans w_x69_21
  have w_x69_22 : m5 6922 = .int x69_22 := (ho5 6922 rfl).trans w_x69_22
  have w_x69_58 : m5 6958 = .int x69_58 := (ho5 6958 rfl).trans w_x69_58
  have w_x69_59 : m5 6959 = .int x69_59 := (ho5 6959 rfl).trans w_x69_59
  have w_x69_60 : m5 6960 = .int x69_60 := (ho5 6960 rfl).trans w_x69_60
  have w_x69_61 : m5 6961 = .long x69_61 := (ho5 6961 rfl).trans w_x69_61
  have w_x69_62 : m5 6962 = .int x69_62 := (ho5 6962 rfl).trans w_x69_62
  have w_x69_63 : m5 6963 = .int 0 := hm5
  have w_x69_64 : m5 6964 = .int p1 := (ho5 6964 rfl).trans w_x69_64
  have w_x69_65 : m5 6965 = .int 0 := (ho5 6965 rfl).trans w_x69_65
  have w_x69_66 : m5 6966 = .int 0 := (ho5 6966 rfl).trans w_x69_66
  have hoff := offm hoff ho5 (by decide +kernel)
  have hsh := SH.off hsh ho5 (by decide +kernel)
  refine lv_aload_n hx hb dX12_goesThrough_20 rfl (lv_at hl 0 rfl) ?_
  refine lv_iconst (v := 0) hx hb dX12_goesThrough_21 (by decide) ?_
  refine gp12_59 hx hb hG hown hW hS (o := 69) (ltN hN 69 rfl) gk69 (v := 0) gx1313 dX12_goesThrough_22 (fun m6 H locs hm6 ho6 hW hS => ?_)
  have ho6 := off1 ho6
  have w_x69_4 : m6 6904 = .long x69_4 := (ho6 6904 rfl).trans w_x69_4
  have w_x69_6 : m6 6906 = .int x69_6 := (ho6 6906 rfl).trans w_x69_6
  have w_x69_9 : m6 6909 = .int x69_9 := (ho6 6909 rfl).trans w_x69_9
  have w_x69_11 : m6 6911 = .int x69_11 := (ho6 6911 rfl).trans w_x69_11
  have w_x69_19 : m6 6919 = .long x69_19 := (ho6 6919 rfl).trans w_x69_19
  have w_x69_20 : m6 6920 = .int x69_20 := (ho6 6920 rfl).trans w_x69_20
  have w_x69_21 : m6 6921 = .int x69_21 := (ho6 6921 rfl).trans w_x69_21
  have w_x69_22 : m6 6922 = .int x69_22 := (ho6 6922 rfl).trans w_x69_22
  have w_x69_58 : m6 6958 = .int x69_58 := (ho6 6958 rfl).trans w_x69_58
  have w_x69_59 : m6 6959 = .int 0 := hm6
  have w_x69_60 : m6 6960 = .int x69_60 := (ho6 6960 rfl).trans w_x69_60
  have w_x69_61 : m6 6961 = .long x69_61 := (ho6 6961 rfl).trans w_x69_61
  have w_x69_62 : m6 6962 = .int x69_62 := (ho6 6962 rfl).trans w_x69_62
  have w_x69_63 : m6 6963 = .int 0 := (ho6 6963 rfl).trans w_x69_63
  have w_x69_64 : m6 6964 = .int p1 := (ho6 6964 rfl).trans w_x69_64
  have w_x69_65 : m6 6965 = .int 0 := (ho6 6965 rfl).trans w_x69_65
  have w_x69_66 : m6 6966 = .int 0 := (ho6 6966 rfl).trans w_x69_66
  have hoff := offm hoff ho6 (by decide +kernel)
  have hsh := SH.off hsh ho6 (by decide +kernel)
  refine lv_aload_n hx hb dX12_goesThrough_25 rfl (lv_at hl 0 rfl) ?_
  obtain ⟨r7, hf7, hs0⟩ := obind hs0
  refine g_Vv (n := 0) hx hb hml hown hG hW hS [] (kX12_next hN hsh ((hoff 6957 rfl).trans h_x69_57) w_x69_63 ((hoffa 75 rfl).trans h_A75) w_x69_58 w_x69_59 w_x69_60 w_x69_61 w_x69_62 F hf7) (ltN hN 69 rfl) gk69 (by decide) rfl rfl (gd_V gx1315 gx1316 gx1317 gx5 gx1318) rfl rfl (by decide) ⟨Nat.le_of_ble_eq_true rfl, Nat.le_of_ble_eq_true rfl⟩ rfl hl (Nat.le_of_ble_eq_true rfl) ⟨Nat.zero_le _, Nat.zero_le _⟩ dX12_goesThrough_26 (fun m7 a7 H locs hp7 hW hS => ?_)
  obtain ⟨hp7_x69_58, hp7_x69_59, hp7_x69_60, hp7_x69_61, hp7_x69_62, ho7, ha7⟩ := hp7
  rw [ha7] at hW
  have w_x69_4 : m7 6904 = .long x69_4 := (ho7 6904 rfl).trans w_x69_4
  have w_x69_6 : m7 6906 = .int x69_6 := (ho7 6906 rfl).trans w_x69_6
  have w_x69_9 : m7 6909 = .int x69_9 := (ho7 6909 rfl).trans w_x69_9
  have w_x69_11 : m7 6911 = .int x69_11 := (ho7 6911 rfl).trans w_x69_11
  have w_x69_19 : m7 6919 = .long x69_19 := (ho7 6919 rfl).trans w_x69_19
  have w_x69_20 : m7 6920 = .int x69_20 := (ho7 6920 rfl).trans w_x69_20
  have w_x69_21 : m7 6921 = .int x69_21 := (ho7 6921 rfl).trans w_x69_21
  have w_x69_22 : m7 6922 = .int x69_22 := (ho7 6922 rfl).trans w_x69_22
  have w_x69_58 : m7 6958 = .int r7.1 := hp7_x69_58
  have w_x69_59 : m7 6959 = .int r7.2.1 := hp7_x69_59
  have w_x69_60 : m7 6960 = .int r7.2.2.1 := hp7_x69_60
  have w_x69_61 : m7 6961 = .long r7.2.2.2.1 := hp7_x69_61
  have w_x69_62 : m7 6962 = .int r7.2.2.2.2 := hp7_x69_62
  have w_x69_63 : m7 6963 = .int 0 := (ho7 6963 rfl).trans w_x69_63
  have w_x69_64 : m7 6964 = .int p1 := (ho7 6964 rfl).trans w_x69_64
  have w_x69_65 : m7 6965 = .int 0 := (ho7 6965 rfl).trans w_x69_65
  have w_x69_66 : m7 6966 = .int 0 := (ho7 6966 rfl).trans w_x69_66
  have hoff := offm hoff ho7 (by decide +kernel)
  have hsh := SH.off hsh ho7 (by decide +kernel)
  refine lv_aload_n hx hb dX12_goesThrough_29 rfl (lv_at hl 0 rfl) ?_
  refine lv_iconst (v := 0) hx hb dX12_goesThrough_30 (by decide) ?_
  obtain ⟨r8, hf8, hs0⟩ := obind hs0
  refine g_Vve (n := 1) hx hb hml hown hG hW hS [.int 0] XS.ok hE (kX12_stepsTold hN 7 hsh ((hoff 6900 rfl).trans h_x69_0) ((hoff 6901 rfl).trans h_x69_1) ((hoff 6902 rfl).trans h_x69_2) ((hoff 6903 rfl).trans h_x69_3) ((hoff 6957 rfl).trans h_x69_57) ((hoffa 75 rfl).trans h_A75) w_x69_4 w_x69_6 w_x69_9 w_x69_11 w_x69_19 w_x69_20 w_x69_21 w_x69_22 w_x69_58 w_x69_59 w_x69_60 w_x69_61 w_x69_62 w_x69_63 w_x69_64 w_x69_65 w_x69_66 h_A70 h_A71 h_A72 h_A73 F 0 hf8) (ltN hN 69 rfl) gk69 (by decide) rfl rfl (gd_V gx1333 gx1334 gx1335 gx5 gx1336) rfl rfl (by decide) ⟨Nat.le_of_ble_eq_true rfl, Nat.le_of_ble_eq_true rfl⟩ rfl hl (Nat.le_of_ble_eq_true rfl) ⟨Nat.zero_le _, Nat.zero_le _⟩ dX12_goesThrough_31 (fun m8 a8 H locs hp8 hW hS => ?_)
  obtain ⟨hp8_x69_4, hp8_x69_6, hp8_x69_9, hp8_x69_11, hp8_x69_19, hp8_x69_20, hp8_x69_21, hp8_x69_22, hp8_x69_58, hp8_x69_59, hp8_x69_60, hp8_x69_61, hp8_x69_62, hp8_x69_63, hp8_x69_64, hp8_x69_65, hp8_x69_66, ho8, hp8_A70, hp8_A71, hp8_A72, hp8_A73, hoa8⟩ := hp8
  have w_x69_4 : m8 6904 = .long r8.1 := hp8_x69_4
  have w_x69_6 : m8 6906 = .int r8.2.1 := hp8_x69_6
  have w_x69_9 : m8 6909 = .int r8.2.2.1 := hp8_x69_9
  have w_x69_11 : m8 6911 = .int r8.2.2.2.1 := hp8_x69_11
  have w_x69_19 : m8 6919 = .long r8.2.2.2.2.1 := hp8_x69_19
  have w_x69_20 : m8 6920 = .int r8.2.2.2.2.2.1 := hp8_x69_20
  have w_x69_21 : m8 6921 = .int r8.2.2.2.2.2.2.1 := hp8_x69_21
  have w_x69_22 : m8 6922 = .int r8.2.2.2.2.2.2.2.1 := hp8_x69_22
  have w_x69_58 : m8 6958 = .int r8.2.2.2.2.2.2.2.2.1 := hp8_x69_58
  have w_x69_59 : m8 6959 = .int r8.2.2.2.2.2.2.2.2.2.1 := hp8_x69_59
  have w_x69_60 : m8 6960 = .int r8.2.2.2.2.2.2.2.2.2.2.1 := hp8_x69_60
  have w_x69_61 : m8 6961 = .long r8.2.2.2.2.2.2.2.2.2.2.2.1 := hp8_x69_61
  have w_x69_62 : m8 6962 = .int r8.2.2.2.2.2.2.2.2.2.2.2.2.1 := hp8_x69_62
  have w_x69_63 : m8 6963 = .int r8.2.2.2.2.2.2.2.2.2.2.2.2.2.1 := hp8_x69_63
  have w_x69_64 : m8 6964 = .int r8.2.2.2.2.2.2.2.2.2.2.2.2.2.2.1 := hp8_x69_64
  have w_x69_65 : m8 6965 = .int r8.2.2.2.2.2.2.2.2.2.2.2.2.2.2.2.1 := hp8_x69_65
  have w_x69_66 : m8 6966 = .int r8.2.2.2.2.2.2.2.2.2.2.2.2.2.2.2.2.1 := hp8_x69_66
  have hoff := offm hoff ho8 (by decide +kernel)
  have hsh := SH.off hsh ho8 (by decide +kernel)
  have w_A70 : a8 70 = (30, .inl r8.2.2.2.2.2.2.2.2.2.2.2.2.2.2.2.2.2.1) := hp8_A70
  have w_A71 : a8 71 = (8, .inl r8.2.2.2.2.2.2.2.2.2.2.2.2.2.2.2.2.2.2.1) := hp8_A71
  have w_A72 : a8 72 = (40, .inl r8.2.2.2.2.2.2.2.2.2.2.2.2.2.2.2.2.2.2.2.1) := hp8_A72
  have w_A73 : a8 73 = (40, .inl r8.2.2.2.2.2.2.2.2.2.2.2.2.2.2.2.2.2.2.2.2) := hp8_A73
  have hoffa := offm hoffa hoa8 (by decide +kernel)
  refine lv_aload_n hx hb dX12_goesThrough_34 rfl (lv_at hl 0 rfl) ?_
  refine gf12_63 hx hb hG hown hW (o := 69) (ltN hN 69 rfl) gk69 (v := .int r8.2.2.2.2.2.2.2.2.2.2.2.2.2.1) w_x69_63 gx1305 dX12_goesThrough_35 ?_
  refine lv_if_ne (tgt := 60) hx hb dX12_goesThrough_38 (by decide) (fun c9 => ?_) (fun c9 => ?_)
  · rw [if_neg c9] at hs0
    have hs0 := Option.some.inj hs0
    subst hs0
    exact W.vret hx hb hr (fun t ht hw => ⟨⟨(m8, a8), rfl, ⟨w_x69_4, w_x69_6, w_x69_9, w_x69_11, w_x69_19, w_x69_20, w_x69_21, w_x69_22, w_x69_58, w_x69_59, w_x69_60, w_x69_61, w_x69_62, w_x69_63, w_x69_64, w_x69_65, w_x69_66, hoff, w_A70, w_A71, w_A72, w_A73, hoffa⟩, g_end hW ht hw⟩, hS.F ht⟩) hS.2.2 dX12_goesThrough_60 hlocks
  · rw [if_pos c9] at hs0
    refine lv_aload_n hx hb dX12_goesThrough_41 rfl (lv_at hl 0 rfl) ?_
    refine gf12_66 hx hb hG hown hW (o := 69) (ltN hN 69 rfl) gk69 (v := .int r8.2.2.2.2.2.2.2.2.2.2.2.2.2.2.2.2.1) w_x69_66 gx1312 dX12_goesThrough_42 ?_
    refine lv_if_ne (tgt := 60) hx hb dX12_goesThrough_45 (by decide) (fun c10 => ?_) (fun c10 => ?_)
    · rw [if_neg c10] at hs0
      have hs0 := Option.some.inj hs0
      subst hs0
      exact W.vret hx hb hr (fun t ht hw => ⟨⟨(m8, a8), rfl, ⟨w_x69_4, w_x69_6, w_x69_9, w_x69_11, w_x69_19, w_x69_20, w_x69_21, w_x69_22, w_x69_58, w_x69_59, w_x69_60, w_x69_61, w_x69_62, w_x69_63, w_x69_64, w_x69_65, w_x69_66, hoff, w_A70, w_A71, w_A72, w_A73, hoffa⟩, g_end hW ht hw⟩, hS.F ht⟩) hS.2.2 dX12_goesThrough_60 hlocks
    · rw [if_pos c10] at hs0
      refine lv_aload_n hx hb dX12_goesThrough_48 rfl (lv_at hl 0 rfl) ?_
      refine gf12_60 hx hb hG hown hW (o := 69) (ltN hN 69 rfl) gk69 (v := .int r8.2.2.2.2.2.2.2.2.2.2.1) w_x69_60 gx1314 dX12_goesThrough_49 ?_
      refine lv_if_eq (tgt := 60) hx hb dX12_goesThrough_52 (by decide) (fun c11 => ?_) (fun c11 => ?_)
      · rw [if_pos c11] at hs0
        have hs0 := Option.some.inj hs0
        subst hs0
        exact W.vret hx hb hr (fun t ht hw => ⟨⟨(m8, a8), rfl, ⟨w_x69_4, w_x69_6, w_x69_9, w_x69_11, w_x69_19, w_x69_20, w_x69_21, w_x69_22, w_x69_58, w_x69_59, w_x69_60, w_x69_61, w_x69_62, w_x69_63, w_x69_64, w_x69_65, w_x69_66, hoff, w_A70, w_A71, w_A72, w_A73, hoffa⟩, g_end hW ht hw⟩, hS.F ht⟩) hS.2.2 dX12_goesThrough_60 hlocks
      · rw [if_neg c11] at hs0
        refine lv_aload_n hx hb dX12_goesThrough_55 rfl (lv_at hl 0 rfl) ?_
        refine lv_iconst (v := 1) hx hb dX12_goesThrough_56 (by decide) ?_
        refine g_Vv (n := 1) hx hb hml hown hG hW hS [.int 1] (kX12_wrong hN hsh w_x69_58 w_x69_63 1) (ltN hN 69 rfl) gk69 (by decide) rfl rfl (gd_V gx1344 gx1345 gx1346 gx5 gx1347) rfl rfl (by decide) ⟨Nat.le_of_ble_eq_true rfl, Nat.le_of_ble_eq_true rfl⟩ rfl hl (Nat.le_of_ble_eq_true rfl) ⟨Nat.zero_le _, Nat.zero_le _⟩ dX12_goesThrough_57 (fun m12 a12 H locs hp12 hW hS => ?_)
        obtain ⟨hp12_x69_63, ho12, ha12⟩ := hp12
        rw [ha12] at hW
        have w_x69_4 : m12 6904 = .long r8.1 := (ho12 6904 rfl).trans w_x69_4
        have w_x69_6 : m12 6906 = .int r8.2.1 := (ho12 6906 rfl).trans w_x69_6
        have w_x69_9 : m12 6909 = .int r8.2.2.1 := (ho12 6909 rfl).trans w_x69_9
        have w_x69_11 : m12 6911 = .int r8.2.2.2.1 := (ho12 6911 rfl).trans w_x69_11
        have w_x69_19 : m12 6919 = .long r8.2.2.2.2.1 := (ho12 6919 rfl).trans w_x69_19
        have w_x69_20 : m12 6920 = .int r8.2.2.2.2.2.1 := (ho12 6920 rfl).trans w_x69_20
        have w_x69_21 : m12 6921 = .int r8.2.2.2.2.2.2.1 := (ho12 6921 rfl).trans w_x69_21
        have w_x69_22 : m12 6922 = .int r8.2.2.2.2.2.2.2.1 := (ho12 6922 rfl).trans w_x69_22
        have w_x69_58 : m12 6958 = .int r8.2.2.2.2.2.2.2.2.1 := (ho12 6958 rfl).trans w_x69_58
        have w_x69_59 : m12 6959 = .int r8.2.2.2.2.2.2.2.2.2.1 := (ho12 6959 rfl).trans w_x69_59
        have w_x69_60 : m12 6960 = .int r8.2.2.2.2.2.2.2.2.2.2.1 := (ho12 6960 rfl).trans w_x69_60
        have w_x69_61 : m12 6961 = .long r8.2.2.2.2.2.2.2.2.2.2.2.1 := (ho12 6961 rfl).trans w_x69_61
        have w_x69_62 : m12 6962 = .int r8.2.2.2.2.2.2.2.2.2.2.2.2.1 := (ho12 6962 rfl).trans w_x69_62
        have w_x69_63 : m12 6963 = .int (fX12_wrong r8.2.2.2.2.2.2.2.2.1 r8.2.2.2.2.2.2.2.2.2.2.2.2.2.1 1) := hp12_x69_63
        have w_x69_64 : m12 6964 = .int r8.2.2.2.2.2.2.2.2.2.2.2.2.2.2.1 := (ho12 6964 rfl).trans w_x69_64
        have w_x69_65 : m12 6965 = .int r8.2.2.2.2.2.2.2.2.2.2.2.2.2.2.2.1 := (ho12 6965 rfl).trans w_x69_65
        have w_x69_66 : m12 6966 = .int r8.2.2.2.2.2.2.2.2.2.2.2.2.2.2.2.2.1 := (ho12 6966 rfl).trans w_x69_66
        have hoff := offm hoff ho12 (by decide +kernel)
        have hsh := SH.off hsh ho12 (by decide +kernel)
        have hs0 := Option.some.inj hs0
        subst hs0
        exact W.vret hx hb hr (fun t ht hw => ⟨⟨(m12, a8), rfl, ⟨w_x69_4, w_x69_6, w_x69_9, w_x69_11, w_x69_19, w_x69_20, w_x69_21, w_x69_22, w_x69_58, w_x69_59, w_x69_60, w_x69_61, w_x69_62, w_x69_63, w_x69_64, w_x69_65, w_x69_66, hoff, w_A70, w_A71, w_A72, w_A73, hoffa⟩, g_end hW ht hw⟩, hS.F ht⟩) hS.2.2 dX12_goesThrough_60 hlocks
-- HealLinkModel.script ()I
def fX12_script (F : Nat) (x69_0 : Int32) (x69_1 : Int32) (x69_2 : Int32) (x69_3 : Int32) (A75 : Nat → Int32) (x69_4 : Int64) (x69_6 : Int32) (x69_9 : Int32) (x69_11 : Int32) (x69_17 : Int32) (x69_18 : Int32) (x69_19 : Int64) (x69_20 : Int32) (x69_21 : Int32) (x69_22 : Int32) (x69_57 : Int32) (x69_58 : Int32) (x69_59 : Int32) (x69_60 : Int32) (x69_61 : Int64) (x69_62 : Int32) (x69_63 : Int32) (x69_64 : Int32) (x69_65 : Int32) (x69_66 : Int32) (A70 : Nat → Int32) (A71 : Nat → Int32) (A72 : Nat → Int32) (A73 : Nat → Int32) : Option (Int32 × Int64 × Int32 × Int32 × Int32 × Int32 × Int32 × Int64 × Int32 × Int32 × Int32 × Int32 × Int32 × Int32 × Int32 × Int64 × Int32 × Int32 × Int32 × Int32 × Int32 × (Nat → Int32) × (Nat → Int32) × (Nat → Int32) × (Nat → Int32)) := (if x69_17 ≤ 240 then ((fX12_goesThrough F x69_0 x69_1 x69_2 x69_3 x69_17 A75 x69_4 x69_6 x69_9 x69_11 x69_19 x69_20 x69_21 x69_22 x69_58 x69_59 x69_60 x69_61 x69_62 x69_63 x69_64 x69_65 x69_66 A70 A71 A72 A73 0).bind (fun r5 => (if r5.2.2.2.2.2.2.2.2.2.2.2.2.2.1 ≤ 0 then ((fX12_goesThrough F x69_0 x69_1 x69_2 x69_3 x69_17 A75 r5.1 r5.2.1 r5.2.2.1 r5.2.2.2.1 r5.2.2.2.2.1 r5.2.2.2.2.2.1 r5.2.2.2.2.2.2.1 r5.2.2.2.2.2.2.2.1 r5.2.2.2.2.2.2.2.2.1 r5.2.2.2.2.2.2.2.2.2.1 r5.2.2.2.2.2.2.2.2.2.2.1 r5.2.2.2.2.2.2.2.2.2.2.2.1 r5.2.2.2.2.2.2.2.2.2.2.2.2.1 r5.2.2.2.2.2.2.2.2.2.2.2.2.2.1 r5.2.2.2.2.2.2.2.2.2.2.2.2.2.2.1 r5.2.2.2.2.2.2.2.2.2.2.2.2.2.2.2.1 r5.2.2.2.2.2.2.2.2.2.2.2.2.2.2.2.2.1 r5.2.2.2.2.2.2.2.2.2.2.2.2.2.2.2.2.2.1 r5.2.2.2.2.2.2.2.2.2.2.2.2.2.2.2.2.2.2.1 r5.2.2.2.2.2.2.2.2.2.2.2.2.2.2.2.2.2.2.2.1 r5.2.2.2.2.2.2.2.2.2.2.2.2.2.2.2.2.2.2.2.2 1).bind (fun r7 => some (r7.2.2.2.2.2.2.2.2.2.2.2.2.2.2.2.1, r7.1, r7.2.1, r7.2.2.1, r7.2.2.2.1, 0, 0, r7.2.2.2.2.1, r7.2.2.2.2.2.1, r7.2.2.2.2.2.2.1, r7.2.2.2.2.2.2.2.1, x69_17, r7.2.2.2.2.2.2.2.2.1, r7.2.2.2.2.2.2.2.2.2.1, r7.2.2.2.2.2.2.2.2.2.2.1, r7.2.2.2.2.2.2.2.2.2.2.2.1, r7.2.2.2.2.2.2.2.2.2.2.2.2.1, r7.2.2.2.2.2.2.2.2.2.2.2.2.2.1, r7.2.2.2.2.2.2.2.2.2.2.2.2.2.2.1, r7.2.2.2.2.2.2.2.2.2.2.2.2.2.2.2.1, r7.2.2.2.2.2.2.2.2.2.2.2.2.2.2.2.2.1, r7.2.2.2.2.2.2.2.2.2.2.2.2.2.2.2.2.2.1, r7.2.2.2.2.2.2.2.2.2.2.2.2.2.2.2.2.2.2.1, r7.2.2.2.2.2.2.2.2.2.2.2.2.2.2.2.2.2.2.2.1, r7.2.2.2.2.2.2.2.2.2.2.2.2.2.2.2.2.2.2.2.2))) else some ((-2) - r5.2.2.2.2.2.2.2.2.2.2.2.2.2.1, r5.1, r5.2.1, r5.2.2.1, r5.2.2.2.1, 0, 0, r5.2.2.2.2.1, r5.2.2.2.2.2.1, r5.2.2.2.2.2.2.1, r5.2.2.2.2.2.2.2.1, x69_17, r5.2.2.2.2.2.2.2.2.1, r5.2.2.2.2.2.2.2.2.2.1, r5.2.2.2.2.2.2.2.2.2.2.1, r5.2.2.2.2.2.2.2.2.2.2.2.1, r5.2.2.2.2.2.2.2.2.2.2.2.2.1, r5.2.2.2.2.2.2.2.2.2.2.2.2.2.1, r5.2.2.2.2.2.2.2.2.2.2.2.2.2.2.1, r5.2.2.2.2.2.2.2.2.2.2.2.2.2.2.2.1, r5.2.2.2.2.2.2.2.2.2.2.2.2.2.2.2.2.1, r5.2.2.2.2.2.2.2.2.2.2.2.2.2.2.2.2.2.1, r5.2.2.2.2.2.2.2.2.2.2.2.2.2.2.2.2.2.2.1, r5.2.2.2.2.2.2.2.2.2.2.2.2.2.2.2.2.2.2.2.1, r5.2.2.2.2.2.2.2.2.2.2.2.2.2.2.2.2.2.2.2.2)))) else some ((-1), x69_4, x69_6, x69_9, x69_11, 0, 0, x69_19, x69_20, x69_21, x69_22, x69_17, x69_58, x69_59, x69_60, x69_61, x69_62, x69_63, x69_64, x69_65, x69_66, A70, A71, A72, A73))
theorem dX12_script_0 : decode cX12_script 0 = .ok (.aload_n 0, 1) := by decide +kernel
theorem dX12_script_1 : decode cX12_script 1 = .ok (.iconst 0, 1) := by decide +kernel
theorem dX12_script_2 : decode cX12_script 2 = .ok (.putfield 137, 3) := by decide +kernel
theorem dX12_script_5 : decode cX12_script 5 = .ok (.aload_n 0, 1) := by decide +kernel
theorem dX12_script_6 : decode cX12_script 6 = .ok (.aload_n 0, 1) := by decide +kernel
theorem dX12_script_7 : decode cX12_script 7 = .ok (.getfield 247, 3) := by decide +kernel
theorem dX12_script_10 : decode cX12_script 10 = .ok (.putfield 353, 3) := by decide +kernel
theorem dX12_script_13 : decode cX12_script 13 = .ok (.aload_n 0, 1) := by decide +kernel
theorem dX12_script_14 : decode cX12_script 14 = .ok (.iconst 0, 1) := by decide +kernel
theorem dX12_script_15 : decode cX12_script 15 = .ok (.putfield 247, 3) := by decide +kernel
theorem dX12_script_18 : decode cX12_script 18 = .ok (.aload_n 0, 1) := by decide +kernel
theorem dX12_script_19 : decode cX12_script 19 = .ok (.getfield 353, 3) := by decide +kernel
theorem dX12_script_22 : decode cX12_script 22 = .ok (.sipush 240, 3) := by decide +kernel
theorem dX12_script_25 : decode cX12_script 25 = .ok (.if_icmp .le 5, 3) := by decide +kernel
theorem dX12_script_28 : decode cX12_script 28 = .ok (.iconst (-1), 1) := by decide +kernel
theorem dX12_script_29 : decode cX12_script 29 = .ok (.ireturn, 1) := by decide +kernel
theorem dX12_script_30 : decode cX12_script 30 = .ok (.aload_n 0, 1) := by decide +kernel
theorem dX12_script_31 : decode cX12_script 31 = .ok (.iconst 0, 1) := by decide +kernel
theorem dX12_script_32 : decode cX12_script 32 = .ok (.invokevirtual 453, 3) := by decide +kernel
theorem dX12_script_35 : decode cX12_script 35 = .ok (.aload_n 0, 1) := by decide +kernel
theorem dX12_script_36 : decode cX12_script 36 = .ok (.getfield 356, 3) := by decide +kernel
theorem dX12_script_39 : decode cX12_script 39 = .ok (.ifCond .le 11, 3) := by decide +kernel
theorem dX12_script_42 : decode cX12_script 42 = .ok (.bipush (-2), 2) := by decide +kernel
theorem dX12_script_44 : decode cX12_script 44 = .ok (.aload_n 0, 1) := by decide +kernel
theorem dX12_script_45 : decode cX12_script 45 = .ok (.getfield 356, 3) := by decide +kernel
theorem dX12_script_48 : decode cX12_script 48 = .ok (.isub, 1) := by decide +kernel
theorem dX12_script_49 : decode cX12_script 49 = .ok (.ireturn, 1) := by decide +kernel
theorem dX12_script_50 : decode cX12_script 50 = .ok (.aload_n 0, 1) := by decide +kernel
theorem dX12_script_51 : decode cX12_script 51 = .ok (.iconst 1, 1) := by decide +kernel
theorem dX12_script_52 : decode cX12_script 52 = .ok (.invokevirtual 453, 3) := by decide +kernel
theorem dX12_script_55 : decode cX12_script 55 = .ok (.aload_n 0, 1) := by decide +kernel
theorem dX12_script_56 : decode cX12_script 56 = .ok (.getfield 411, 3) := by decide +kernel
theorem dX12_script_59 : decode cX12_script 59 = .ok (.ireturn, 1) := by decide +kernel
set_option maxHeartbeats 4000000 in
set_option maxRecDepth 100000 in
theorem kX12_script {l : Launch} {D : va_G} {cy : Nat → ClassId} {N : Nat} {q : Nat → Nat} {sa sv : Nat → Nat} {m0 : Nat → Value} {a0 : Nat → vp_A} {sz : Nat} (hN : 105 ≤ N) (hsh : SH q m0) {x69_0 : Int32} (h_x69_0 : m0 6900 = .int x69_0) {x69_1 : Int32} (h_x69_1 : m0 6901 = .int x69_1) {x69_2 : Int32} (h_x69_2 : m0 6902 = .int x69_2) {x69_3 : Int32} (h_x69_3 : m0 6903 = .int x69_3) {A75 : Nat → Int32} (h_A75 : a0 75 = (264, .inl A75)) {x69_4 : Int64} (h_x69_4 : m0 6904 = .long x69_4) {x69_6 : Int32} (h_x69_6 : m0 6906 = .int x69_6) {x69_9 : Int32} (h_x69_9 : m0 6909 = .int x69_9) {x69_11 : Int32} (h_x69_11 : m0 6911 = .int x69_11) {x69_17 : Int32} (h_x69_17 : m0 6917 = .int x69_17) {x69_18 : Int32} (h_x69_18 : m0 6918 = .int x69_18) {x69_19 : Int64} (h_x69_19 : m0 6919 = .long x69_19) {x69_20 : Int32} (h_x69_20 : m0 6920 = .int x69_20) {x69_21 : Int32} (h_x69_21 : m0 6921 = .int x69_21) {x69_22 : Int32} (h_x69_22 : m0 6922 = .int x69_22) {x69_57 : Int32} (h_x69_57 : m0 6957 = .int x69_57) {x69_58 : Int32} (h_x69_58 : m0 6958 = .int x69_58) {x69_59 : Int32} (h_x69_59 : m0 6959 = .int x69_59) {x69_60 : Int32} (h_x69_60 : m0 6960 = .int x69_60) {x69_61 : Int64} (h_x69_61 : m0 6961 = .long x69_61) {x69_62 : Int32} (h_x69_62 : m0 6962 = .int x69_62) {x69_63 : Int32} (h_x69_63 : m0 6963 = .int x69_63) {x69_64 : Int32} (h_x69_64 : m0 6964 = .int x69_64) {x69_65 : Int32} (h_x69_65 : m0 6965 = .int x69_65) {x69_66 : Int32} (h_x69_66 : m0 6966 = .int x69_66) {A70 : Nat → Int32} (h_A70 : a0 70 = (30, .inl A70)) {A71 : Nat → Int32} (h_A71 : a0 71 = (8, .inl A71)) {A72 : Nat → Int32} (h_A72 : a0 72 = (40, .inl A72)) {A73 : Nat → Int32} (h_A73 : a0 73 = (40, .inl A73)) (F : Nat) {X0 : Int32 × Int64 × Int32 × Int32 × Int32 × Int32 × Int32 × Int64 × Int32 × Int32 × Int32 × Int32 × Int32 × Int32 × Int32 × Int64 × Int32 × Int32 × Int32 × Int32 × Int32 × (Nat → Int32) × (Nat → Int32) × (Nat → Int32) × (Nat → Int32)} (hs0 : fX12_script F x69_0 x69_1 x69_2 x69_3 A75 x69_4 x69_6 x69_9 x69_11 x69_17 x69_18 x69_19 x69_20 x69_21 x69_22 x69_57 x69_58 x69_59 x69_60 x69_61 x69_62 x69_63 x69_64 x69_65 x69_66 A70 A71 A72 A73 = some X0) : eMi l yX12_script cX12_script 1 (some .int) ({ frames := 254, cells := 0, slots := 0, locals := 10542 } : Room) D cy N q m0 a0 sz [.ref (q 69)] (XS sa sv) (fun r m' a' => r = X0.1 ∧ m' 6904 = .long X0.2.1 ∧ m' 6906 = .int X0.2.2.1 ∧ m' 6909 = .int X0.2.2.2.1 ∧ m' 6911 = .int X0.2.2.2.2.1 ∧ m' 6917 = .int X0.2.2.2.2.2.1 ∧ m' 6918 = .int X0.2.2.2.2.2.2.1 ∧ m' 6919 = .long X0.2.2.2.2.2.2.2.1 ∧ m' 6920 = .int X0.2.2.2.2.2.2.2.2.1 ∧ m' 6921 = .int X0.2.2.2.2.2.2.2.2.2.1 ∧ m' 6922 = .int X0.2.2.2.2.2.2.2.2.2.2.1 ∧ m' 6957 = .int X0.2.2.2.2.2.2.2.2.2.2.2.1 ∧ m' 6958 = .int X0.2.2.2.2.2.2.2.2.2.2.2.2.1 ∧ m' 6959 = .int X0.2.2.2.2.2.2.2.2.2.2.2.2.2.1 ∧ m' 6960 = .int X0.2.2.2.2.2.2.2.2.2.2.2.2.2.2.1 ∧ m' 6961 = .long X0.2.2.2.2.2.2.2.2.2.2.2.2.2.2.2.1 ∧ m' 6962 = .int X0.2.2.2.2.2.2.2.2.2.2.2.2.2.2.2.2.1 ∧ m' 6963 = .int X0.2.2.2.2.2.2.2.2.2.2.2.2.2.2.2.2.2.1 ∧ m' 6964 = .int X0.2.2.2.2.2.2.2.2.2.2.2.2.2.2.2.2.2.2.1 ∧ m' 6965 = .int X0.2.2.2.2.2.2.2.2.2.2.2.2.2.2.2.2.2.2.2.1 ∧ m' 6966 = .int X0.2.2.2.2.2.2.2.2.2.2.2.2.2.2.2.2.2.2.2.2.1 ∧ (∀ j, nel j [6904, 6906, 6909, 6911, 6917, 6918, 6919, 6920, 6921, 6922, 6957, 6958, 6959, 6960, 6961, 6962, 6963, 6964, 6965, 6966] = false → m' j = m0 j) ∧ a' 70 = (30, .inl X0.2.2.2.2.2.2.2.2.2.2.2.2.2.2.2.2.2.2.2.2.2.1) ∧ a' 71 = (8, .inl X0.2.2.2.2.2.2.2.2.2.2.2.2.2.2.2.2.2.2.2.2.2.2.1) ∧ a' 72 = (40, .inl X0.2.2.2.2.2.2.2.2.2.2.2.2.2.2.2.2.2.2.2.2.2.2.2.1) ∧ a' 73 = (40, .inl X0.2.2.2.2.2.2.2.2.2.2.2.2.2.2.2.2.2.2.2.2.2.2.2.2) ∧ (∀ j, nel j [70, 71, 72, 73] = false → a' j = a0 j)) := by
  refine e_ofi (by decide) (Nat.le_of_ble_eq_true rfl) ?_
  intro p e s M args below meth c hx hb hr hG hown hin hlocks hml hW hS hE ls hl
  unfold fX12_script at hs0
  have hoff : ∀ j, nel j [6904, 6906, 6909, 6911, 6917, 6918, 6919, 6920, 6921, 6922, 6957, 6958, 6959, 6960, 6961, 6962, 6963, 6964, 6965, 6966] = false → m0 j = m0 j := off0
  have hoffa : ∀ j, nel j [70, 71, 72, 73] = false → a0 j = a0 j := off0
  refine lv_aload_n hx hb dX12_script_0 rfl (lv_at hl 0 rfl) ?_
  refine lv_iconst (v := 0) hx hb dX12_script_1 (by decide) ?_
  refine gp12_18 hx hb hG hown hW hS (o := 69) (ltN hN 69 rfl) gk69 (v := 0) gx246 dX12_script_2 (fun m1 H locs hm1 ho1 hW hS => ?_)
  have ho1 := off1 ho1
  have w_x69_4 : m1 6904 = .long x69_4 := (ho1 6904 rfl).trans h_x69_4
  have w_x69_6 : m1 6906 = .int x69_6 := (ho1 6906 rfl).trans h_x69_6
  have w_x69_9 : m1 6909 = .int x69_9 := (ho1 6909 rfl).trans h_x69_9
  have w_x69_11 : m1 6911 = .int x69_11 := (ho1 6911 rfl).trans h_x69_11
  have w_x69_17 : m1 6917 = .int x69_17 := (ho1 6917 rfl).trans h_x69_17
  have w_x69_18 : m1 6918 = .int 0 := hm1
  have w_x69_19 : m1 6919 = .long x69_19 := (ho1 6919 rfl).trans h_x69_19
  have w_x69_20 : m1 6920 = .int x69_20 := (ho1 6920 rfl).trans h_x69_20
  have w_x69_21 : m1 6921 = .int x69_21 := (ho1 6921 rfl).trans h_x69_21
  have w_x69_22 : m1 6922 = .int x69_22 := (ho1 6922 rfl).trans h_x69_22
  have w_x69_57 : m1 6957 = .int x69_57 := (ho1 6957 rfl).trans h_x69_57
  have w_x69_58 : m1 6958 = .int x69_58 := (ho1 6958 rfl).trans h_x69_58
  have w_x69_59 : m1 6959 = .int x69_59 := (ho1 6959 rfl).trans h_x69_59
  have w_x69_60 : m1 6960 = .int x69_60 := (ho1 6960 rfl).trans h_x69_60
  have w_x69_61 : m1 6961 = .long x69_61 := (ho1 6961 rfl).trans h_x69_61
  have w_x69_62 : m1 6962 = .int x69_62 := (ho1 6962 rfl).trans h_x69_62
  have w_x69_63 : m1 6963 = .int x69_63 := (ho1 6963 rfl).trans h_x69_63
  have w_x69_64 : m1 6964 = .int x69_64 := (ho1 6964 rfl).trans h_x69_64
  have w_x69_65 : m1 6965 = .int x69_65 := (ho1 6965 rfl).trans h_x69_65
  have w_x69_66 : m1 6966 = .int x69_66 := (ho1 6966 rfl).trans h_x69_66
  have hoff := offm hoff ho1 (by decide +kernel)
  have hsh := SH.off hsh ho1 (by decide +kernel)
  refine lv_aload_n hx hb dX12_script_5 rfl (lv_at hl 0 rfl) ?_
  refine lv_aload_n hx hb dX12_script_6 rfl (lv_at hl 0 rfl) ?_
  refine gf12_17 hx hb hG hown hW (o := 69) (ltN hN 69 rfl) gk69 (v := .int x69_17) w_x69_17 gx600 dX12_script_7 ?_
  refine gp12_57 hx hb hG hown hW hS (o := 69) (ltN hN 69 rfl) gk69 (v := x69_17) gx1304 dX12_script_10 (fun m2 H locs hm2 ho2 hW hS => ?_)
  have ho2 := off1 ho2
  have w_x69_4 : m2 6904 = .long x69_4 := (ho2 6904 rfl).trans w_x69_4
  have w_x69_6 : m2 6906 = .int x69_6 := (ho2 6906 rfl).trans w_x69_6
  have w_x69_9 : m2 6909 = .int x69_9 := (ho2 6909 rfl).trans w_x69_9
  have w_x69_11 : m2 6911 = .int x69_11 := (ho2 6911 rfl).trans w_x69_11
  have w_x69_17 : m2 6917 = .int x69_17 := (ho2 6917 rfl).trans w_x69_17
  have w_x69_18 : m2 6918 = .int 0 := (ho2 6918 rfl).trans w_x69_18
  have w_x69_19 : m2 6919 = .long x69_19 := (ho2 6919 rfl).trans w_x69_19
  have w_x69_20 : m2 6920 = .int x69_20 := (ho2 6920 rfl).trans w_x69_20
  have w_x69_21 : m2 6921 = .int x69_21 := (ho2 6921 rfl).trans w_x69_21
  have w_x69_22 : m2 6922 = .int x69_22 := (ho2 6922 rfl).trans w_x69_22
  have w_x69_57 : m2 6957 = .int x69_17 := hm2
  have w_x69_58 : m2 6958 = .int x69_58 := (ho2 6958 rfl).trans w_x69_58
  have w_x69_59 : m2 6959 = .int x69_59 := (ho2 6959 rfl).trans w_x69_59
  have w_x69_60 : m2 6960 = .int x69_60 := (ho2 6960 rfl).trans w_x69_60
  have w_x69_61 : m2 6961 = .long x69_61 := (ho2 6961 rfl).trans w_x69_61
  have w_x69_62 : m2 6962 = .int x69_62 := (ho2 6962 rfl).trans w_x69_62
  have w_x69_63 : m2 6963 = .int x69_63 := (ho2 6963 rfl).trans w_x69_63
  have w_x69_64 : m2 6964 = .int x69_64 := (ho2 6964 rfl).trans w_x69_64
  have w_x69_65 : m2 6965 = .int x69_65 := (ho2 6965 rfl).trans w_x69_65
  have w_x69_66 : m2 6966 = .int x69_66 := (ho2 6966 rfl).trans w_x69_66
  have hoff := offm hoff ho2 (by decide +kernel)
  have hsh := SH.off hsh ho2 (by decide +kernel)
  refine lv_aload_n hx hb dX12_script_13 rfl (lv_at hl 0 rfl) ?_
  refine lv_iconst (v := 0) hx hb dX12_script_14 (by decide) ?_
  refine gp12_17 hx hb hG hown hW hS (o := 69) (ltN hN 69 rfl) gk69 (v := 0) gx600 dX12_script_15 (fun m3 H locs hm3 ho3 hW hS => ?_)
  have ho3 := off1 ho3
  have w_x69_4 : m3 6904 = .long x69_4 := (ho3 6904 rfl).trans w_x69_4
  have w_x69_6 : m3 6906 = .int x69_6 := (ho3 6906 rfl).trans w_x69_6
  have w_x69_9 : m3 6909 = .int x69_9 := (ho3 6909 rfl).trans w_x69_9
  have w_x69_11 : m3 6911 = .int x69_11 := (ho3 6911 rfl).trans w_x69_11
  have w_x69_17 : m3 6917 = .int 0 := hm3
  have w_x69_18 : m3 6918 = .int 0 := (ho3 6918 rfl).trans w_x69_18
  have w_x69_19 : m3 6919 = .long x69_19 := (ho3 6919 rfl).trans w_x69_19
  have w_x69_20 : m3 6920 = .int x69_20 := (ho3 6920 rfl).trans w_x69_20
  have w_x69_21 : m3 6921 = .int x69_21 := (ho3 6921 rfl).trans w_x69_21
  have w_x69_22 : m3 6922 = .int x69_22 := (ho3 6922 rfl).trans w_x69_22
  have w_x69_57 : m3 6957 = .int x69_17 := (ho3 6957 rfl).trans w_x69_57
  have w_x69_58 : m3 6958 = .int x69_58 := (ho3 6958 rfl).trans w_x69_58
  have w_x69_59 : m3 6959 = .int x69_59 := (ho3 6959 rfl).trans w_x69_59
  have w_x69_60 : m3 6960 = .int x69_60 := (ho3 6960 rfl).trans w_x69_60
  have w_x69_61 : m3 6961 = .long x69_61 := (ho3 6961 rfl).trans w_x69_61
  have w_x69_62 : m3 6962 = .int x69_62 := (ho3 6962 rfl).trans w_x69_62
  have w_x69_63 : m3 6963 = .int x69_63 := (ho3 6963 rfl).trans w_x69_63
  have w_x69_64 : m3 6964 = .int x69_64 := (ho3 6964 rfl).trans w_x69_64
  have w_x69_65 : m3 6965 = .int x69_65 := (ho3 6965 rfl).trans w_x69_65
  have w_x69_66 : m3 6966 = .int x69_66 := (ho3 6966 rfl).trans w_x69_66
  have hoff := offm hoff ho3 (by decide +kernel)
  have hsh := SH.off hsh ho3 (by decide +kernel)
  refine lv_aload_n hx hb dX12_script_18 rfl (lv_at hl 0 rfl) ?_
  refine gf12_57 hx hb hG hown hW (o := 69) (ltN hN 69 rfl) gk69 (v := .int x69_17) w_x69_57 gx1304 dX12_script_19 ?_
  refine lv_sipush (v := 240) hx hb dX12_script_22 (by decide) ?_
  refine lv_icmp_le (tgt := 30) hx hb dX12_script_25 (by decide) (fun c4 => ?_) (fun c4 => ?_)
  · rw [if_pos c4] at hs0
    refine lv_aload_n hx hb dX12_script_30 rfl (lv_at hl 0 rfl) ?_
    refine lv_iconst (v := 0) hx hb dX12_script_31 (by decide) ?_
    obtain ⟨r5, hf5, hs0⟩ := obind hs0
    refine g_Vve (n := 1) hx hb hml hown hG hW hS [.int 0] XS.ok hE (kX12_goesThrough hN hsh ((hoff 6900 rfl).trans h_x69_0) ((hoff 6901 rfl).trans h_x69_1) ((hoff 6902 rfl).trans h_x69_2) ((hoff 6903 rfl).trans h_x69_3) w_x69_57 ((hoffa 75 rfl).trans h_A75) w_x69_4 w_x69_6 w_x69_9 w_x69_11 w_x69_19 w_x69_20 w_x69_21 w_x69_22 w_x69_58 w_x69_59 w_x69_60 w_x69_61 w_x69_62 w_x69_63 w_x69_64 w_x69_65 w_x69_66 h_A70 h_A71 h_A72 h_A73 F 0 hf5) (ltN hN 69 rfl) gk69 (by decide) rfl rfl (gd_V gx1307 gx1308 gx1309 gx5 gx1310) rfl rfl (by decide) ⟨Nat.le_of_ble_eq_true rfl, Nat.le_of_ble_eq_true rfl⟩ rfl hl (Nat.le_of_ble_eq_true rfl) ⟨Nat.zero_le _, Nat.zero_le _⟩ dX12_script_32 (fun m5 a5 H locs hp5 hW hS => ?_)
    obtain ⟨hp5_x69_4, hp5_x69_6, hp5_x69_9, hp5_x69_11, hp5_x69_19, hp5_x69_20, hp5_x69_21, hp5_x69_22, hp5_x69_58, hp5_x69_59, hp5_x69_60, hp5_x69_61, hp5_x69_62, hp5_x69_63, hp5_x69_64, hp5_x69_65, hp5_x69_66, ho5, hp5_A70, hp5_A71, hp5_A72, hp5_A73, hoa5⟩ := hp5
    have w_x69_4 : m5 6904 = .long r5.1 := hp5_x69_4
    have w_x69_6 : m5 6906 = .int r5.2.1 := hp5_x69_6
    have w_x69_9 : m5 6909 = .int r5.2.2.1 := hp5_x69_9
    have w_x69_11 : m5 6911 = .int r5.2.2.2.1 := hp5_x69_11
    have w_x69_17 : m5 6917 = .int 0 := (ho5 6917 rfl).trans w_x69_17
    have w_x69_18 : m5 6918 = .int 0 := (ho5 6918 rfl).trans w_x69_18
    have w_x69_19 : m5 6919 = .long r5.2.2.2.2.1 := hp5_x69_19
    have w_x69_20 : m5 6920 = .int r5.2.2.2.2.2.1 := hp5_x69_20
    have w_x69_21 : m5 6921 = .int r5.2.2.2.2.2.2.1 := hp5_x69_21
    have w_x69_22 : m5 6922 = .int r5.2.2.2.2.2.2.2.1 := hp5_x69_22
    have w_x69_57 : m5 6957 = .int x69_17 := (ho5 6957 rfl).trans w_x69_57
    have w_x69_58 : m5 6958 = .int r5.2.2.2.2.2.2.2.2.1 := hp5_x69_58
    have w_x69_59 : m5 6959 = .int r5.2.2.2.2.2.2.2.2.2.1 := hp5_x69_59
    have w_x69_60 : m5 6960 = .int r5.2.2.2.2.2.2.2.2.2.2.1 := hp5_x69_60
    have w_x69_61 : m5 6961 = .long r5.2.2.2.2.2.2.2.2.2.2.2.1 := hp5_x69_61
    have w_x69_62 : m5 6962 = .int r5.2.2.2.2.2.2.2.2.2.2.2.2.1 := hp5_x69_62
    have w_x69_63 : m5 6963 = .int r5.2.2.2.2.2.2.2.2.2.2.2.2.2.1 := hp5_x69_63
    have w_x69_64 : m5 6964 = .int r5.2.2.2.2.2.2.2.2.2.2.2.2.2.2.1 := hp5_x69_64
    have w_x69_65 : m5 6965 = .int r5.2.2.2.2.2.2.2.2.2.2.2.2.2.2.2.1 := hp5_x69_65
    have w_x69_66 : m5 6966 = .int r5.2.2.2.2.2.2.2.2.2.2.2.2.2.2.2.2.1 := hp5_x69_66
    have hoff := offm hoff ho5 (by decide +kernel)
    have hsh := SH.off hsh ho5 (by decide +kernel)
    have w_A70 : a5 70 = (30, .inl r5.2.2.2.2.2.2.2.2.2.2.2.2.2.2.2.2.2.1) := hp5_A70
    have w_A71 : a5 71 = (8, .inl r5.2.2.2.2.2.2.2.2.2.2.2.2.2.2.2.2.2.2.1) := hp5_A71
    have w_A72 : a5 72 = (40, .inl r5.2.2.2.2.2.2.2.2.2.2.2.2.2.2.2.2.2.2.2.1) := hp5_A72
    have w_A73 : a5 73 = (40, .inl r5.2.2.2.2.2.2.2.2.2.2.2.2.2.2.2.2.2.2.2.2) := hp5_A73
    have hoffa := offm hoffa hoa5 (by decide +kernel)
    refine lv_aload_n hx hb dX12_script_35 rfl (lv_at hl 0 rfl) ?_
    refine gf12_63 hx hb hG hown hW (o := 69) (ltN hN 69 rfl) gk69 (v := .int r5.2.2.2.2.2.2.2.2.2.2.2.2.2.1) w_x69_63 gx1305 dX12_script_36 ?_
    refine lv_if_le (tgt := 50) hx hb dX12_script_39 (by decide) (fun c6 => ?_) (fun c6 => ?_)
    · rw [if_pos c6] at hs0
      refine lv_aload_n hx hb dX12_script_50 rfl (lv_at hl 0 rfl) ?_
      refine lv_iconst (v := 1) hx hb dX12_script_51 (by decide) ?_
      obtain ⟨r7, hf7, hs0⟩ := obind hs0
      refine g_Vve (n := 1) hx hb hml hown hG hW hS [.int 1] XS.ok hE (kX12_goesThrough hN hsh ((hoff 6900 rfl).trans h_x69_0) ((hoff 6901 rfl).trans h_x69_1) ((hoff 6902 rfl).trans h_x69_2) ((hoff 6903 rfl).trans h_x69_3) w_x69_57 ((hoffa 75 rfl).trans h_A75) w_x69_4 w_x69_6 w_x69_9 w_x69_11 w_x69_19 w_x69_20 w_x69_21 w_x69_22 w_x69_58 w_x69_59 w_x69_60 w_x69_61 w_x69_62 w_x69_63 w_x69_64 w_x69_65 w_x69_66 w_A70 w_A71 w_A72 w_A73 F 1 hf7) (ltN hN 69 rfl) gk69 (by decide) rfl rfl (gd_V gx1307 gx1308 gx1309 gx5 gx1310) rfl rfl (by decide) ⟨Nat.le_of_ble_eq_true rfl, Nat.le_of_ble_eq_true rfl⟩ rfl hl (Nat.le_of_ble_eq_true rfl) ⟨Nat.zero_le _, Nat.zero_le _⟩ dX12_script_52 (fun m7 a7 H locs hp7 hW hS => ?_)
      obtain ⟨hp7_x69_4, hp7_x69_6, hp7_x69_9, hp7_x69_11, hp7_x69_19, hp7_x69_20, hp7_x69_21, hp7_x69_22, hp7_x69_58, hp7_x69_59, hp7_x69_60, hp7_x69_61, hp7_x69_62, hp7_x69_63, hp7_x69_64, hp7_x69_65, hp7_x69_66, ho7, hp7_A70, hp7_A71, hp7_A72, hp7_A73, hoa7⟩ := hp7
      have w_x69_4 : m7 6904 = .long r7.1 := hp7_x69_4
      have w_x69_6 : m7 6906 = .int r7.2.1 := hp7_x69_6
      have w_x69_9 : m7 6909 = .int r7.2.2.1 := hp7_x69_9
      have w_x69_11 : m7 6911 = .int r7.2.2.2.1 := hp7_x69_11
      have w_x69_17 : m7 6917 = .int 0 := (ho7 6917 rfl).trans w_x69_17
      have w_x69_18 : m7 6918 = .int 0 := (ho7 6918 rfl).trans w_x69_18
      have w_x69_19 : m7 6919 = .long r7.2.2.2.2.1 := hp7_x69_19
      have w_x69_20 : m7 6920 = .int r7.2.2.2.2.2.1 := hp7_x69_20
      have w_x69_21 : m7 6921 = .int r7.2.2.2.2.2.2.1 := hp7_x69_21
      have w_x69_22 : m7 6922 = .int r7.2.2.2.2.2.2.2.1 := hp7_x69_22
      have w_x69_57 : m7 6957 = .int x69_17 := (ho7 6957 rfl).trans w_x69_57
      have w_x69_58 : m7 6958 = .int r7.2.2.2.2.2.2.2.2.1 := hp7_x69_58
      have w_x69_59 : m7 6959 = .int r7.2.2.2.2.2.2.2.2.2.1 := hp7_x69_59
      have w_x69_60 : m7 6960 = .int r7.2.2.2.2.2.2.2.2.2.2.1 := hp7_x69_60
      have w_x69_61 : m7 6961 = .long r7.2.2.2.2.2.2.2.2.2.2.2.1 := hp7_x69_61
      have w_x69_62 : m7 6962 = .int r7.2.2.2.2.2.2.2.2.2.2.2.2.1 := hp7_x69_62
      have w_x69_63 : m7 6963 = .int r7.2.2.2.2.2.2.2.2.2.2.2.2.2.1 := hp7_x69_63
      have w_x69_64 : m7 6964 = .int r7.2.2.2.2.2.2.2.2.2.2.2.2.2.2.1 := hp7_x69_64
      have w_x69_65 : m7 6965 = .int r7.2.2.2.2.2.2.2.2.2.2.2.2.2.2.2.1 := hp7_x69_65
      have w_x69_66 : m7 6966 = .int r7.2.2.2.2.2.2.2.2.2.2.2.2.2.2.2.2.1 := hp7_x69_66
      have hoff := offm hoff ho7 (by decide +kernel)
      have hsh := SH.off hsh ho7 (by decide +kernel)
      have w_A70 : a7 70 = (30, .inl r7.2.2.2.2.2.2.2.2.2.2.2.2.2.2.2.2.2.1) := hp7_A70
      have w_A71 : a7 71 = (8, .inl r7.2.2.2.2.2.2.2.2.2.2.2.2.2.2.2.2.2.2.1) := hp7_A71
      have w_A72 : a7 72 = (40, .inl r7.2.2.2.2.2.2.2.2.2.2.2.2.2.2.2.2.2.2.2.1) := hp7_A72
      have w_A73 : a7 73 = (40, .inl r7.2.2.2.2.2.2.2.2.2.2.2.2.2.2.2.2.2.2.2.2) := hp7_A73
      have hoffa := offm hoffa hoa7 (by decide +kernel)
      refine lv_aload_n hx hb dX12_script_55 rfl (lv_at hl 0 rfl) ?_
      refine gf12_65 hx hb hG hown hW (o := 69) (ltN hN 69 rfl) gk69 (v := .int r7.2.2.2.2.2.2.2.2.2.2.2.2.2.2.2.1) w_x69_65 gx1306 dX12_script_56 ?_
      have hs0 := Option.some.inj hs0
      subst hs0
      exact W.zret hx hb hr rfl (fun t ht hw => ⟨⟨_, (m7, a7), rfl, ⟨rfl, w_x69_4, w_x69_6, w_x69_9, w_x69_11, w_x69_17, w_x69_18, w_x69_19, w_x69_20, w_x69_21, w_x69_22, w_x69_57, w_x69_58, w_x69_59, w_x69_60, w_x69_61, w_x69_62, w_x69_63, w_x69_64, w_x69_65, w_x69_66, hoff, w_A70, w_A71, w_A72, w_A73, hoffa⟩, g_end hW ht hw⟩, hS.F ht⟩) hS.2.2 dX12_script_59 hlocks
    · rw [if_neg c6] at hs0
      refine lv_bipush (v := (-2)) hx hb dX12_script_42 (by decide) ?_
      refine lv_aload_n hx hb dX12_script_44 rfl (lv_at hl 0 rfl) ?_
      refine gf12_63 hx hb hG hown hW (o := 69) (ltN hN 69 rfl) gk69 (v := .int r5.2.2.2.2.2.2.2.2.2.2.2.2.2.1) w_x69_63 gx1305 dX12_script_45 ?_
      refine lv_isub hx hb dX12_script_48 ?_
      have hs0 := Option.some.inj hs0
      subst hs0
      exact W.zret hx hb hr rfl (fun t ht hw => ⟨⟨_, (m5, a5), rfl, ⟨rfl, w_x69_4, w_x69_6, w_x69_9, w_x69_11, w_x69_17, w_x69_18, w_x69_19, w_x69_20, w_x69_21, w_x69_22, w_x69_57, w_x69_58, w_x69_59, w_x69_60, w_x69_61, w_x69_62, w_x69_63, w_x69_64, w_x69_65, w_x69_66, hoff, w_A70, w_A71, w_A72, w_A73, hoffa⟩, g_end hW ht hw⟩, hS.F ht⟩) hS.2.2 dX12_script_49 hlocks
  · rw [if_neg c4] at hs0
    refine lv_iconst (v := (-1)) hx hb dX12_script_28 (by decide) ?_
    have hs0 := Option.some.inj hs0
    subst hs0
    exact W.zret hx hb hr rfl (fun t ht hw => ⟨⟨_, (m3, a0), rfl, ⟨rfl, w_x69_4, w_x69_6, w_x69_9, w_x69_11, w_x69_17, w_x69_18, w_x69_19, w_x69_20, w_x69_21, w_x69_22, w_x69_57, w_x69_58, w_x69_59, w_x69_60, w_x69_61, w_x69_62, w_x69_63, w_x69_64, w_x69_65, w_x69_66, hoff, h_A70, h_A71, h_A72, h_A73, hoffa⟩, g_end hW ht hw⟩, hS.F ht⟩) hS.2.2 dX12_script_29 hlocks
