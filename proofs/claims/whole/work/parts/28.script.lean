/-! 28.script (by program): the pure function of each method, its rows, its contract -/
-- HealLink$Tape.isWord (ILjava/lang/String;)Z
def fX10_isWord_S17 (F : Nat) (sn : Nat) (sf : Nat → Int32) (x24_3 : Int32) (A26 : Nat → Int32) (v1 : Int32) (v3 : Int32) : Option (((Unit) ⊕ (Unit)) ⊕ (Int32)) := (if (nI sn) ≤ v3 then some (Sum.inl (Sum.inr (()))) else (if inb v3 sn = true then (if (cAt 264 A26 (v1 + v3)) = (chAt sf v3.toNatClampNeg) then some (Sum.inr (v3 + 1)) else some (Sum.inl (Sum.inl ()))) else none))
def fX10_isWord (F : Nat) (sn : Nat) (sf : Nat → Int32) (x24_3 : Int32) (A26 : Nat → Int32) (p1 : Int32) : Option (Int32) := (if (x24_3 - p1) = (nI sn) then (gloop (fun u3 : Int32 => fX10_isWord_S17 F sn sf x24_3 A26 p1 u3) F 0).bind (Sum.elim (fun t3_43 => some 0) (fun t3_51 => some 1)) else some 0)
theorem dX10_isWord_0 : decode cX10_isWord 0 = .ok (.aload_n 0, 1) := by decide +kernel
theorem dX10_isWord_1 : decode cX10_isWord 1 = .ok (.getfield 37, 3) := by decide +kernel
theorem dX10_isWord_4 : decode cX10_isWord 4 = .ok (.iload_n 1, 1) := by decide +kernel
theorem dX10_isWord_5 : decode cX10_isWord 5 = .ok (.isub, 1) := by decide +kernel
theorem dX10_isWord_6 : decode cX10_isWord 6 = .ok (.aload_n 2, 1) := by decide +kernel
theorem dX10_isWord_7 : decode cX10_isWord 7 = .ok (.invokevirtual 114, 3) := by decide +kernel
theorem dX10_isWord_10 : decode cX10_isWord 10 = .ok (.if_icmp .eq 5, 3) := by decide +kernel
theorem dX10_isWord_13 : decode cX10_isWord 13 = .ok (.iconst 0, 1) := by decide +kernel
theorem dX10_isWord_14 : decode cX10_isWord 14 = .ok (.ireturn, 1) := by decide +kernel
theorem dX10_isWord_15 : decode cX10_isWord 15 = .ok (.iconst 0, 1) := by decide +kernel
theorem dX10_isWord_16 : decode cX10_isWord 16 = .ok (.istore_n 3, 1) := by decide +kernel
theorem dX10_isWord_17 : decode cX10_isWord 17 = .ok (.iload_n 3, 1) := by decide +kernel
theorem dX10_isWord_18 : decode cX10_isWord 18 = .ok (.aload_n 2, 1) := by decide +kernel
theorem dX10_isWord_19 : decode cX10_isWord 19 = .ok (.invokevirtual 114, 3) := by decide +kernel
theorem dX10_isWord_22 : decode cX10_isWord 22 = .ok (.if_icmp .ge 29, 3) := by decide +kernel
theorem dX10_isWord_25 : decode cX10_isWord 25 = .ok (.aload_n 0, 1) := by decide +kernel
theorem dX10_isWord_26 : decode cX10_isWord 26 = .ok (.getfield 16, 3) := by decide +kernel
theorem dX10_isWord_29 : decode cX10_isWord 29 = .ok (.iload_n 1, 1) := by decide +kernel
theorem dX10_isWord_30 : decode cX10_isWord 30 = .ok (.iload_n 3, 1) := by decide +kernel
theorem dX10_isWord_31 : decode cX10_isWord 31 = .ok (.iadd, 1) := by decide +kernel
theorem dX10_isWord_32 : decode cX10_isWord 32 = .ok (.invokevirtual 118, 3) := by decide +kernel
theorem dX10_isWord_35 : decode cX10_isWord 35 = .ok (.aload_n 2, 1) := by decide +kernel
theorem dX10_isWord_36 : decode cX10_isWord 36 = .ok (.iload_n 3, 1) := by decide +kernel
theorem dX10_isWord_37 : decode cX10_isWord 37 = .ok (.invokevirtual 121, 3) := by decide +kernel
theorem dX10_isWord_40 : decode cX10_isWord 40 = .ok (.if_icmp .eq 5, 3) := by decide +kernel
theorem dX10_isWord_43 : decode cX10_isWord 43 = .ok (.iconst 0, 1) := by decide +kernel
theorem dX10_isWord_44 : decode cX10_isWord 44 = .ok (.ireturn, 1) := by decide +kernel
theorem dX10_isWord_45 : decode cX10_isWord 45 = .ok (.iinc 3 1, 3) := by decide +kernel
theorem dX10_isWord_48 : decode cX10_isWord 48 = .ok (.goto (-31), 3) := by decide +kernel
theorem dX10_isWord_51 : decode cX10_isWord 51 = .ok (.iconst 1, 1) := by decide +kernel
theorem dX10_isWord_52 : decode cX10_isWord 52 = .ok (.ireturn, 1) := by decide +kernel
set_option maxHeartbeats 4000000 in
set_option maxRecDepth 100000 in
theorem kX10_isWord {l : Launch} {D : va_G} {cy : Nat → ClassId} {N : Nat} {q : Nat → Nat} {st svv sn : Nat} {sf : Nat → Int32} {m0 : Nat → Value} {a0 : Nat → vp_A} {sz : Nat} (hN : 105 ≤ N) (hsn : sn < 2 ^ 31) (hsh : SH q m0) {x24_3 : Int32} (h_x24_3 : m0 2403 = .int x24_3) {A26 : Nat → Int32} (h_A26 : a0 26 = (264, .inl A26)) (F : Nat) (p1 : Int32) {X0 : Int32} (hs0 : fX10_isWord F sn sf x24_3 A26 p1 = some X0) : eMi l yX10_isWord cX10_isWord 4 (some .boolean) ({ frames := 4, cells := 0, slots := 0, locals := 85 } : Room) D cy N q m0 a0 sz [.ref (q 24), .int p1, .ref st] (XT st svv sn sf) (fun r m' a' => r = X0 ∧ m' = m0 ∧ a' = a0) := by
  refine e_ofi (by decide) (Nat.le_of_ble_eq_true rfl) ?_
  intro p e s M args below meth c hx hb hr hG hown hin hlocks hml hW hS hE ls hl
  unfold fX10_isWord at hs0
  refine lv_aload_n hx hb dX10_isWord_0 rfl (lv_at hl 0 rfl) ?_
  refine gf10_3 hx hb hG hown hW (o := 24) (ltN hN 24 rfl) gk24 (v := .int x24_3) h_x24_3 gx1142 dX10_isWord_1 ?_
  refine lv_iload_n hx hb dX10_isWord_4 rfl (lv_at hl 1 rfl) ?_
  refine lv_isub hx hb dX10_isWord_5 ?_
  refine lv_aload_n hx hb dX10_isWord_6 rfl (lv_at hl 2 rfl) ?_
  refine vp_callSi (W.runV (As := []) (rest := [.int (x24_3 - p1)]) ⟨hx, hb, hml, hown, hG⟩ (kJ0_length (a := st) (v := svv) (n := sn) (f := sf)) (cwV 0 hG (gd_V gx1198 gx1199 gx1200 gx1201 gx1202) rfl rfl rfl (by decide +kernel) ⟨Nat.le_of_ble_eq_true rfl, Nat.le_of_ble_eq_true rfl⟩) ⟨SE.blind, s_recv hE.1 hS, fun U hU hw => ⟨rfl, hE.se hS hU hw⟩⟩ rfl rfl hl.1 rfl (lv_room (Nat.le_of_ble_eq_true rfl)) dX10_isWord_7 ⟨Nat.zero_le _, Nat.zero_le _⟩) (fun x1 hx1 => ?_)
  subst hx1
  refine lv_icmp_eq (tgt := 15) hx hb dX10_isWord_10 (by decide) (fun c2 => ?_) (fun c2 => ?_)
  · rw [if_pos c2] at hs0
    refine lv_iconst (v := 0) hx hb dX10_isWord_15 (by decide) ?_
    refine lv_istore_n (lv' := [(3, .int 0), (0, .ref (q 24)), (1, .int p1), (2, .ref st)]) hx hb dX10_isWord_16 rfl hl (by decide) rfl (fun ls hl => ?_)
    obtain ⟨r3, hg3, hs0⟩ := obind hs0
    have hE1_43 : ∀ (t3_43 : Unit) (hr3 : Sum.inl t3_43 = r3) (H : Heap) (locs : List Loc) (ls : Array Slot) (hl : lv_has ls 4 []) (hW : GW D cy (gA N q s.heap.size) N q m0 a0 s H) (hS : va_S (gA N q s.heap.size) s.heap H locs), W p l e ({ frames := 4, cells := 0, slots := 0, locals := 85 } : Room) s M args below meth c H locs 0 0 (MQ below (va_Qi (fun (r : Int32) (u : (Nat → Value) × (Nat → vp_A)) => r = X0 ∧ u.1 = m0 ∧ u.2 = a0) (gB D cy N q s.heap.size) (gA N q s.heap.size)) args s 0 0 (gA N q s.heap.size)) (F0 M 43 ls []) := by
      intro t3_43 hr3 H locs ls hl hW hS
      subst hr3
      have hs0 := osum_l hs0
      refine lv_iconst (v := 0) hx hb dX10_isWord_43 (by decide) ?_
      have hs0 := Option.some.inj hs0
      subst hs0
      exact W.zret hx hb hr rfl (fun t ht hw => ⟨⟨_, (m0, a0), rfl, ⟨rfl, rfl, rfl⟩, g_end hW ht hw⟩, hS.F ht⟩) hS.2.2 dX10_isWord_44 hlocks
    have hE1_51 : ∀ (t3_51 : Unit) (hr3 : Sum.inr (t3_51) = r3) (H : Heap) (locs : List Loc) (ls : Array Slot) (hl : lv_has ls 4 []) (hW : GW D cy (gA N q s.heap.size) N q m0 a0 s H) (hS : va_S (gA N q s.heap.size) s.heap H locs), W p l e ({ frames := 4, cells := 0, slots := 0, locals := 85 } : Room) s M args below meth c H locs 0 0 (MQ below (va_Qi (fun (r : Int32) (u : (Nat → Value) × (Nat → vp_A)) => r = X0 ∧ u.1 = m0 ∧ u.2 = a0) (gB D cy N q s.heap.size) (gA N q s.heap.size)) args s 0 0 (gA N q s.heap.size)) (F0 M 51 ls []) := by
      intro t3_51 hr3 H locs ls hl hW hS
      subst hr3
      have hs0 := osum_r hs0
      refine lv_iconst (v := 1) hx hb dX10_isWord_51 (by decide) ?_
      have hs0 := Option.some.inj hs0
      subst hs0
      exact W.zret hx hb hr rfl (fun t ht hw => ⟨⟨_, (m0, a0), rfl, ⟨rfl, rfl, rfl⟩, g_end hW ht hw⟩, hS.F ht⟩) hS.2.2 dX10_isWord_52 hlocks
    have hL1 : ∀ (n : Nat) (v3k3 : Int32) (H : Heap) (locs : List Loc) (ls : Array Slot) (hl : lv_has ls 4 [(0, .ref (q 24)), (1, .int p1), (2, .ref st), (3, .int v3k3)]) (hg3 : gloop (fun u3 : Int32 => fX10_isWord_S17 F sn sf x24_3 A26 p1 u3) n v3k3 = some r3) (hW : GW D cy (gA N q s.heap.size) N q m0 a0 s H) (hS : va_S (gA N q s.heap.size) s.heap H locs), W p l e ({ frames := 4, cells := 0, slots := 0, locals := 85 } : Room) s M args below meth c H locs 0 0 (MQ below (va_Qi (fun (r : Int32) (u : (Nat → Value) × (Nat → vp_A)) => r = X0 ∧ u.1 = m0 ∧ u.2 = a0) (gB D cy N q s.heap.size) (gA N q s.heap.size)) args s 0 0 (gA N q s.heap.size)) (F0 M 17 ls []) := by
      intro n
      induction n with
      | zero => intro v3k3 H locs ls hl hg3 hW hS; exact (gl_zero hg3).elim
      | succ n ih1 =>
        intro v3k3 H locs ls hl hg3 hW hS
        obtain ⟨X1, hs1, hXl1, hXr1⟩ := gl_succ hg3
        have hs1 : fX10_isWord_S17 F sn sf x24_3 A26 p1 v3k3 = some X1 := hs1
        unfold fX10_isWord_S17 at hs1
        refine lv_iload_n hx hb dX10_isWord_17 rfl (lv_at hl 3 rfl) ?_
        refine lv_aload_n hx hb dX10_isWord_18 rfl (lv_at hl 2 rfl) ?_
        refine vp_callSi (W.runV (As := []) (rest := [.int v3k3]) ⟨hx, hb, hml, hown, hG⟩ (kJ0_length (a := st) (v := svv) (n := sn) (f := sf)) (cwV 0 hG (gd_V gx1198 gx1199 gx1200 gx1201 gx1202) rfl rfl rfl (by decide +kernel) ⟨Nat.le_of_ble_eq_true rfl, Nat.le_of_ble_eq_true rfl⟩) ⟨SE.blind, s_recv hE.1 hS, fun U hU hw => ⟨rfl, hE.se hS hU hw⟩⟩ rfl rfl hl.1 rfl (lv_room (Nat.le_of_ble_eq_true rfl)) dX10_isWord_19 ⟨Nat.zero_le _, Nat.zero_le _⟩) (fun x9 hx9 => ?_)
        subst hx9
        refine lv_icmp_ge (tgt := 51) hx hb dX10_isWord_22 (by decide) (fun c10 => ?_) (fun c10 => ?_)
        · rw [if_pos c10] at hs1
          exact hE1_51 () (hXl1 _ (Option.some.inj hs1).symm) _ _ ls (lv_sub hl [] rfl) hW hS
        · rw [if_neg c10] at hs1
          refine lv_aload_n hx hb dX10_isWord_25 rfl (lv_at hl 0 rfl) ?_
          refine gf10_1 hx hb hG hown hW (o := 24) (ltN hN 24 rfl) gk24 (v := .ref (q 25)) (sh24_1 hsh) gx79 dX10_isWord_26 ?_
          refine lv_iload_n hx hb dX10_isWord_29 rfl (lv_at hl 1 rfl) ?_
          refine lv_iload_n hx hb dX10_isWord_30 rfl (lv_at hl 3 rfl) ?_
          refine lv_iadd hx hb dX10_isWord_31 ?_
          refine g_ViR (n := 1) hx hb hml hown hG hW hS [.int (p1 + v3k3)] (kX2_at (ltN hN 25 rfl) gk25 (ltN hN 26 rfl) gk26 (sh25_0 hsh) (by decide) h_A26 (p1 + v3k3)) (ltN hN 25 rfl) gk25 (by decide) rfl rfl (gd_V gx1158 gx564 gx565 gx47 gx566) rfl rfl (by decide) ⟨Nat.le_of_ble_eq_true rfl, Nat.le_of_ble_eq_true rfl⟩ rfl hl (Nat.le_of_ble_eq_true rfl) ⟨Nat.zero_le _, Nat.zero_le _⟩ dX10_isWord_32 (fun H locs hW hS => ?_)
          refine lv_aload_n hx hb dX10_isWord_35 rfl (lv_at hl 2 rfl) ?_
          refine lv_iload_n hx hb dX10_isWord_36 rfl (lv_at hl 3 rfl) ?_
          obtain ⟨hi12, hs1⟩ := oif hs1
          refine vp_callSi (W.runV (As := [.int v3k3]) (rest := [.int (cAt 264 A26 (p1 + v3k3))]) ⟨hx, hb, hml, hown, hG⟩ (kJ0_charAtI (a := st) (v := svv) (f := sf) hsn hi12) (cwV 1 hG (gd_V gx1210 gx1211 gx1212 gx1201 gx1213) rfl rfl rfl (by decide +kernel) ⟨Nat.le_of_ble_eq_true rfl, Nat.le_of_ble_eq_true rfl⟩) ⟨SE.blind, s_recv hE.1 hS, fun U hU hw => ⟨rfl, hE.se hS hU hw⟩⟩ rfl rfl hl.1 rfl (lv_room (Nat.le_of_ble_eq_true rfl)) dX10_isWord_37 ⟨Nat.zero_le _, Nat.zero_le _⟩) (fun x12 hx12 => ?_)
          subst hx12
          refine lv_icmp_eq (tgt := 45) hx hb dX10_isWord_40 (by decide) (fun c13 => ?_) (fun c13 => ?_)
          · rw [if_pos c13] at hs1
            refine lv_iinc (v := v3k3 + 1) (lv' := [(3, .int (v3k3 + 1)), (0, .ref (q 24)), (1, .int p1), (2, .ref st)]) hx hb dX10_isWord_45 hl (k := 3) rfl rfl (by decide) rfl (fun ls hl => ?_)
            refine lv_goto (tgt := 17) hx hb dX10_isWord_48 (by decide) ?_
            exact ih1 (v3k3 + 1) _ _ ls (lv_sub hl [1, 2, 3, 0] rfl) (hXr1 _ (Option.some.inj hs1).symm) hW hS
          · rw [if_neg c13] at hs1
            exact hE1_43 () (hXl1 _ (Option.some.inj hs1).symm) _ _ ls (lv_sub hl [] rfl) hW hS
    exact hL1 F 0 _ _ ls (lv_sub hl [1, 2, 3, 0] rfl) hg3 hW hS
  · rw [if_neg c2] at hs0
    refine lv_iconst (v := 0) hx hb dX10_isWord_13 (by decide) ?_
    have hs0 := Option.some.inj hs0
    subst hs0
    exact W.zret hx hb hr rfl (fun t ht hw => ⟨⟨_, (m0, a0), rfl, ⟨rfl, rfl, rfl⟩, g_end hW ht hw⟩, hS.F ht⟩) hS.2.2 dX10_isWord_14 hlocks
-- HealLink$Tape.readWord ()I
def fX10_readWord_S5 (F : Nat) (x24_2 : Int32) (A26 : Nat → Int32) (v1 : Int32) (x24_3 : Int32) : Option ((Int32) ⊕ (Int32)) := (if x24_2 ≤ x24_3 then some (Sum.inl x24_3) else (if (fX10_peek x24_2 x24_3 A26) < 97 then some (Sum.inl x24_3) else (if 122 < (fX10_peek x24_2 x24_3 A26) then some (Sum.inl x24_3) else some (Sum.inr (x24_3 + 1)))))
def fX10_readWord_J47 (F : Nat) (x24_2 : Int32) (A26 : Nat → Int32) (v1j8 : Int32) (x24_3j8 : Int32) : Option (Int32 × Int32) := ((fX10_isWord F (sLen 0) (sByt 0) x24_3j8 A26 v1j8).bind (fun r15 => (if r15 = 0 then ((fX10_isWord F (sLen 1) (sByt 1) x24_3j8 A26 v1j8).bind (fun r17 => (if r17 = 0 then ((fX10_isWord F (sLen 2) (sByt 2) x24_3j8 A26 v1j8).bind (fun r19 => (if r19 = 0 then ((fX10_isWord F (sLen 3) (sByt 3) x24_3j8 A26 v1j8).bind (fun r21 => (if r21 = 0 then ((fX10_isWord F (sLen 4) (sByt 4) x24_3j8 A26 v1j8).bind (fun r23 => (if r23 = 0 then ((fX10_isWord F (sLen 5) (sByt 5) x24_3j8 A26 v1j8).bind (fun r25 => (if r25 = 0 then ((fX10_isWord F (sLen 6) (sByt 6) x24_3j8 A26 v1j8).bind (fun r27 => (if r27 = 0 then some ((-1), x24_3j8) else some (6, x24_3j8)))) else some (5, x24_3j8)))) else some (4, x24_3j8)))) else some (3, x24_3j8)))) else some (2, x24_3j8)))) else some (1, x24_3j8)))) else some (0, x24_3j8))))
def fX10_readWord (F : Nat) (x24_2 : Int32) (A26 : Nat → Int32) (x24_3 : Int32) : Option (Int32 × Int32) := (gloop (fun u1 : Int32 => fX10_readWord_S5 F x24_2 A26 x24_3 u1) F x24_3).bind (fun t1_47 => fX10_readWord_J47 F x24_2 A26 x24_3 t1_47)
theorem dX10_readWord_0 : decode cX10_readWord 0 = .ok (.aload_n 0, 1) := by decide +kernel
theorem dX10_readWord_1 : decode cX10_readWord 1 = .ok (.getfield 37, 3) := by decide +kernel
theorem dX10_readWord_4 : decode cX10_readWord 4 = .ok (.istore_n 1, 1) := by decide +kernel
theorem dX10_readWord_5 : decode cX10_readWord 5 = .ok (.aload_n 0, 1) := by decide +kernel
theorem dX10_readWord_6 : decode cX10_readWord 6 = .ok (.getfield 37, 3) := by decide +kernel
theorem dX10_readWord_9 : decode cX10_readWord 9 = .ok (.aload_n 0, 1) := by decide +kernel
theorem dX10_readWord_10 : decode cX10_readWord 10 = .ok (.getfield 34, 3) := by decide +kernel
theorem dX10_readWord_13 : decode cX10_readWord 13 = .ok (.if_icmp .ge 34, 3) := by decide +kernel
theorem dX10_readWord_16 : decode cX10_readWord 16 = .ok (.aload_n 0, 1) := by decide +kernel
theorem dX10_readWord_17 : decode cX10_readWord 17 = .ok (.invokevirtual 51, 3) := by decide +kernel
theorem dX10_readWord_20 : decode cX10_readWord 20 = .ok (.bipush 97, 2) := by decide +kernel
theorem dX10_readWord_22 : decode cX10_readWord 22 = .ok (.if_icmp .lt 25, 3) := by decide +kernel
theorem dX10_readWord_25 : decode cX10_readWord 25 = .ok (.aload_n 0, 1) := by decide +kernel
theorem dX10_readWord_26 : decode cX10_readWord 26 = .ok (.invokevirtual 51, 3) := by decide +kernel
theorem dX10_readWord_29 : decode cX10_readWord 29 = .ok (.bipush 122, 2) := by decide +kernel
theorem dX10_readWord_31 : decode cX10_readWord 31 = .ok (.if_icmp .gt 16, 3) := by decide +kernel
theorem dX10_readWord_34 : decode cX10_readWord 34 = .ok (.aload_n 0, 1) := by decide +kernel
theorem dX10_readWord_35 : decode cX10_readWord 35 = .ok (.dup, 1) := by decide +kernel
theorem dX10_readWord_36 : decode cX10_readWord 36 = .ok (.getfield 37, 3) := by decide +kernel
theorem dX10_readWord_39 : decode cX10_readWord 39 = .ok (.iconst 1, 1) := by decide +kernel
theorem dX10_readWord_40 : decode cX10_readWord 40 = .ok (.iadd, 1) := by decide +kernel
theorem dX10_readWord_41 : decode cX10_readWord 41 = .ok (.putfield 37, 3) := by decide +kernel
theorem dX10_readWord_44 : decode cX10_readWord 44 = .ok (.goto (-39), 3) := by decide +kernel
theorem dX10_readWord_47 : decode cX10_readWord 47 = .ok (.aload_n 0, 1) := by decide +kernel
theorem dX10_readWord_48 : decode cX10_readWord 48 = .ok (.iload_n 1, 1) := by decide +kernel
theorem dX10_readWord_49 : decode cX10_readWord 49 = .ok (.ldc 96, 2) := by decide +kernel
theorem dX10_readWord_51 : decode cX10_readWord 51 = .ok (.invokevirtual 98, 3) := by decide +kernel
theorem dX10_readWord_54 : decode cX10_readWord 54 = .ok (.ifCond .eq 5, 3) := by decide +kernel
theorem dX10_readWord_57 : decode cX10_readWord 57 = .ok (.iconst 0, 1) := by decide +kernel
theorem dX10_readWord_58 : decode cX10_readWord 58 = .ok (.ireturn, 1) := by decide +kernel
theorem dX10_readWord_59 : decode cX10_readWord 59 = .ok (.aload_n 0, 1) := by decide +kernel
theorem dX10_readWord_60 : decode cX10_readWord 60 = .ok (.iload_n 1, 1) := by decide +kernel
theorem dX10_readWord_61 : decode cX10_readWord 61 = .ok (.ldc 102, 2) := by decide +kernel
theorem dX10_readWord_63 : decode cX10_readWord 63 = .ok (.invokevirtual 98, 3) := by decide +kernel
theorem dX10_readWord_66 : decode cX10_readWord 66 = .ok (.ifCond .eq 5, 3) := by decide +kernel
theorem dX10_readWord_69 : decode cX10_readWord 69 = .ok (.iconst 1, 1) := by decide +kernel
theorem dX10_readWord_70 : decode cX10_readWord 70 = .ok (.ireturn, 1) := by decide +kernel
theorem dX10_readWord_71 : decode cX10_readWord 71 = .ok (.aload_n 0, 1) := by decide +kernel
theorem dX10_readWord_72 : decode cX10_readWord 72 = .ok (.iload_n 1, 1) := by decide +kernel
theorem dX10_readWord_73 : decode cX10_readWord 73 = .ok (.ldc 104, 2) := by decide +kernel
theorem dX10_readWord_75 : decode cX10_readWord 75 = .ok (.invokevirtual 98, 3) := by decide +kernel
theorem dX10_readWord_78 : decode cX10_readWord 78 = .ok (.ifCond .eq 5, 3) := by decide +kernel
theorem dX10_readWord_81 : decode cX10_readWord 81 = .ok (.iconst 2, 1) := by decide +kernel
theorem dX10_readWord_82 : decode cX10_readWord 82 = .ok (.ireturn, 1) := by decide +kernel
theorem dX10_readWord_83 : decode cX10_readWord 83 = .ok (.aload_n 0, 1) := by decide +kernel
theorem dX10_readWord_84 : decode cX10_readWord 84 = .ok (.iload_n 1, 1) := by decide +kernel
theorem dX10_readWord_85 : decode cX10_readWord 85 = .ok (.ldc 106, 2) := by decide +kernel
theorem dX10_readWord_87 : decode cX10_readWord 87 = .ok (.invokevirtual 98, 3) := by decide +kernel
theorem dX10_readWord_90 : decode cX10_readWord 90 = .ok (.ifCond .eq 5, 3) := by decide +kernel
theorem dX10_readWord_93 : decode cX10_readWord 93 = .ok (.iconst 3, 1) := by decide +kernel
theorem dX10_readWord_94 : decode cX10_readWord 94 = .ok (.ireturn, 1) := by decide +kernel
theorem dX10_readWord_95 : decode cX10_readWord 95 = .ok (.aload_n 0, 1) := by decide +kernel
theorem dX10_readWord_96 : decode cX10_readWord 96 = .ok (.iload_n 1, 1) := by decide +kernel
theorem dX10_readWord_97 : decode cX10_readWord 97 = .ok (.ldc 108, 2) := by decide +kernel
theorem dX10_readWord_99 : decode cX10_readWord 99 = .ok (.invokevirtual 98, 3) := by decide +kernel
theorem dX10_readWord_102 : decode cX10_readWord 102 = .ok (.ifCond .eq 5, 3) := by decide +kernel
theorem dX10_readWord_105 : decode cX10_readWord 105 = .ok (.iconst 4, 1) := by decide +kernel
theorem dX10_readWord_106 : decode cX10_readWord 106 = .ok (.ireturn, 1) := by decide +kernel
theorem dX10_readWord_107 : decode cX10_readWord 107 = .ok (.aload_n 0, 1) := by decide +kernel
theorem dX10_readWord_108 : decode cX10_readWord 108 = .ok (.iload_n 1, 1) := by decide +kernel
theorem dX10_readWord_109 : decode cX10_readWord 109 = .ok (.ldc 110, 2) := by decide +kernel
theorem dX10_readWord_111 : decode cX10_readWord 111 = .ok (.invokevirtual 98, 3) := by decide +kernel
theorem dX10_readWord_114 : decode cX10_readWord 114 = .ok (.ifCond .eq 5, 3) := by decide +kernel
theorem dX10_readWord_117 : decode cX10_readWord 117 = .ok (.iconst 5, 1) := by decide +kernel
theorem dX10_readWord_118 : decode cX10_readWord 118 = .ok (.ireturn, 1) := by decide +kernel
theorem dX10_readWord_119 : decode cX10_readWord 119 = .ok (.aload_n 0, 1) := by decide +kernel
theorem dX10_readWord_120 : decode cX10_readWord 120 = .ok (.iload_n 1, 1) := by decide +kernel
theorem dX10_readWord_121 : decode cX10_readWord 121 = .ok (.ldc 112, 2) := by decide +kernel
theorem dX10_readWord_123 : decode cX10_readWord 123 = .ok (.invokevirtual 98, 3) := by decide +kernel
theorem dX10_readWord_126 : decode cX10_readWord 126 = .ok (.ifCond .eq 8, 3) := by decide +kernel
theorem dX10_readWord_129 : decode cX10_readWord 129 = .ok (.bipush 6, 2) := by decide +kernel
theorem dX10_readWord_131 : decode cX10_readWord 131 = .ok (.goto 4, 3) := by decide +kernel
theorem dX10_readWord_134 : decode cX10_readWord 134 = .ok (.iconst (-1), 1) := by decide +kernel
theorem dX10_readWord_135 : decode cX10_readWord 135 = .ok (.ireturn, 1) := by decide +kernel
set_option maxHeartbeats 4000000 in
set_option maxRecDepth 100000 in
theorem kX10_readWord {l : Launch} {D : va_G} {cy : Nat → ClassId} {N : Nat} {q : Nat → Nat} {sa sv : Nat → Nat} {m0 : Nat → Value} {a0 : Nat → vp_A} {sz : Nat} (hN : 105 ≤ N) (hsh : SH q m0) {x24_2 : Int32} (h_x24_2 : m0 2402 = .int x24_2) {A26 : Nat → Int32} (h_A26 : a0 26 = (264, .inl A26)) {x24_3 : Int32} (h_x24_3 : m0 2403 = .int x24_3) (F : Nat) {X0 : Int32 × Int32} (hs0 : fX10_readWord F x24_2 A26 x24_3 = some X0) : eMi l yX10_readWord cX10_readWord 2 (some .int) ({ frames := 5, cells := 0, slots := 0, locals := 108 } : Room) D cy N q m0 a0 sz [.ref (q 24)] (XS sa sv) (fun r m' a' => r = X0.1 ∧ m' 2403 = .int X0.2 ∧ (∀ j, nel j [2403] = false → m' j = m0 j) ∧ a' = a0) := by
  refine e_ofi (by decide) (Nat.le_of_ble_eq_true rfl) ?_
  intro p e s M args below meth c hx hb hr hG hown hin hlocks hml hW hS hE ls hl
  unfold fX10_readWord at hs0
  have hoff : ∀ j, nel j [2403] = false → m0 j = m0 j := off0
  have hJ47_0 : ∀ (v1j8 : Int32) (x24_3j8 : Int32) (m : Nat → Value) (H : Heap) (locs : List Loc) (w_x24_3 : m 2403 = .int x24_3j8) (hoff : ∀ j, nel j [2403] = false → m j = m0 j) (hsh : SH q m) (ls : Array Slot) (hl : lv_has ls 2 [(0, .ref (q 24)), (1, .int v1j8)]) (hs0 : fX10_readWord_J47 F x24_2 A26 v1j8 x24_3j8 = some X0) (hW : GW D cy (gA N q s.heap.size) N q m a0 s H) (hS : va_S (gA N q s.heap.size) s.heap H locs), W p l e ({ frames := 5, cells := 0, slots := 0, locals := 108 } : Room) s M args below meth c H locs 0 0 (MQ below (va_Qi (fun (r : Int32) (u : (Nat → Value) × (Nat → vp_A)) => r = X0.1 ∧ u.1 2403 = .int X0.2 ∧ (∀ j, nel j [2403] = false → u.1 j = m0 j) ∧ u.2 = a0) (gB D cy N q s.heap.size) (gA N q s.heap.size)) args s 0 0 (gA N q s.heap.size)) (F0 M 47 ls []) := by
    intro v1j8 x24_3j8 m H locs w_x24_3 hoff hsh ls hl hs0 hW hS
    unfold fX10_readWord_J47 at hs0
    refine lv_aload_n hx hb dX10_readWord_47 rfl (lv_at hl 0 rfl) ?_
    refine lv_iload_n hx hb dX10_readWord_48 rfl (lv_at hl 1 rfl) ?_
    refine va_ldcS (own := sOwn 0) (index := sIdx 0) hx hb hown (hE.1 0 (by decide)).1 dX10_readWord_49 ?_
    obtain ⟨r15, hf15, hs0⟩ := obind hs0
    refine g_Vie (n := 2) hx hb hml hown hG hW hS [.int v1j8, .ref (sa 0)] XT.ok (hE.one 0 (by decide)) (kX10_isWord hN (by decide) hsh w_x24_3 h_A26 F v1j8 hf15) (ltN hN 24 rfl) gk24 (by decide) rfl rfl (gd_V gx1194 gx1195 gx1196 gx31 gx1197) rfl rfl (by decide) ⟨Nat.le_of_ble_eq_true rfl, Nat.le_of_ble_eq_true rfl⟩ rfl hl (Nat.le_of_ble_eq_true rfl) ⟨Nat.zero_le _, Nat.zero_le _⟩ dX10_readWord_51 (fun x15 m15 a15 H locs hp15 hW hS => ?_)
    obtain ⟨hx15, hm15, ha15⟩ := hp15
    subst hx15
    rw [hm15] at hW
    rw [ha15] at hW
    refine lv_if_eq (tgt := 59) hx hb dX10_readWord_54 (by decide) (fun c16 => ?_) (fun c16 => ?_)
    · rw [if_pos c16] at hs0
      refine lv_aload_n hx hb dX10_readWord_59 rfl (lv_at hl 0 rfl) ?_
      refine lv_iload_n hx hb dX10_readWord_60 rfl (lv_at hl 1 rfl) ?_
      refine va_ldcS (own := sOwn 1) (index := sIdx 1) hx hb hown (hE.1 1 (by decide)).1 dX10_readWord_61 ?_
      obtain ⟨r17, hf17, hs0⟩ := obind hs0
      refine g_Vie (n := 2) hx hb hml hown hG hW hS [.int v1j8, .ref (sa 1)] XT.ok (hE.one 1 (by decide)) (kX10_isWord hN (by decide) hsh w_x24_3 h_A26 F v1j8 hf17) (ltN hN 24 rfl) gk24 (by decide) rfl rfl (gd_V gx1194 gx1195 gx1196 gx31 gx1197) rfl rfl (by decide) ⟨Nat.le_of_ble_eq_true rfl, Nat.le_of_ble_eq_true rfl⟩ rfl hl (Nat.le_of_ble_eq_true rfl) ⟨Nat.zero_le _, Nat.zero_le _⟩ dX10_readWord_63 (fun x17 m17 a17 H locs hp17 hW hS => ?_)
      obtain ⟨hx17, hm17, ha17⟩ := hp17
      subst hx17
      rw [hm17] at hW
      rw [ha17] at hW
      refine lv_if_eq (tgt := 71) hx hb dX10_readWord_66 (by decide) (fun c18 => ?_) (fun c18 => ?_)
      · rw [if_pos c18] at hs0
        refine lv_aload_n hx hb dX10_readWord_71 rfl (lv_at hl 0 rfl) ?_
        refine lv_iload_n hx hb dX10_readWord_72 rfl (lv_at hl 1 rfl) ?_
        refine va_ldcS (own := sOwn 2) (index := sIdx 2) hx hb hown (hE.1 2 (by decide)).1 dX10_readWord_73 ?_
        obtain ⟨r19, hf19, hs0⟩ := obind hs0
        refine g_Vie (n := 2) hx hb hml hown hG hW hS [.int v1j8, .ref (sa 2)] XT.ok (hE.one 2 (by decide)) (kX10_isWord hN (by decide) hsh w_x24_3 h_A26 F v1j8 hf19) (ltN hN 24 rfl) gk24 (by decide) rfl rfl (gd_V gx1194 gx1195 gx1196 gx31 gx1197) rfl rfl (by decide) ⟨Nat.le_of_ble_eq_true rfl, Nat.le_of_ble_eq_true rfl⟩ rfl hl (Nat.le_of_ble_eq_true rfl) ⟨Nat.zero_le _, Nat.zero_le _⟩ dX10_readWord_75 (fun x19 m19 a19 H locs hp19 hW hS => ?_)
        obtain ⟨hx19, hm19, ha19⟩ := hp19
        subst hx19
        rw [hm19] at hW
        rw [ha19] at hW
        refine lv_if_eq (tgt := 83) hx hb dX10_readWord_78 (by decide) (fun c20 => ?_) (fun c20 => ?_)
        · rw [if_pos c20] at hs0
          refine lv_aload_n hx hb dX10_readWord_83 rfl (lv_at hl 0 rfl) ?_
          refine lv_iload_n hx hb dX10_readWord_84 rfl (lv_at hl 1 rfl) ?_
          refine va_ldcS (own := sOwn 3) (index := sIdx 3) hx hb hown (hE.1 3 (by decide)).1 dX10_readWord_85 ?_
          obtain ⟨r21, hf21, hs0⟩ := obind hs0
          refine g_Vie (n := 2) hx hb hml hown hG hW hS [.int v1j8, .ref (sa 3)] XT.ok (hE.one 3 (by decide)) (kX10_isWord hN (by decide) hsh w_x24_3 h_A26 F v1j8 hf21) (ltN hN 24 rfl) gk24 (by decide) rfl rfl (gd_V gx1194 gx1195 gx1196 gx31 gx1197) rfl rfl (by decide) ⟨Nat.le_of_ble_eq_true rfl, Nat.le_of_ble_eq_true rfl⟩ rfl hl (Nat.le_of_ble_eq_true rfl) ⟨Nat.zero_le _, Nat.zero_le _⟩ dX10_readWord_87 (fun x21 m21 a21 H locs hp21 hW hS => ?_)
          obtain ⟨hx21, hm21, ha21⟩ := hp21
          subst hx21
          rw [hm21] at hW
          rw [ha21] at hW
          refine lv_if_eq (tgt := 95) hx hb dX10_readWord_90 (by decide) (fun c22 => ?_) (fun c22 => ?_)
          · rw [if_pos c22] at hs0
            refine lv_aload_n hx hb dX10_readWord_95 rfl (lv_at hl 0 rfl) ?_
            refine lv_iload_n hx hb dX10_readWord_96 rfl (lv_at hl 1 rfl) ?_
            refine va_ldcS (own := sOwn 4) (index := sIdx 4) hx hb hown (hE.1 4 (by decide)).1 dX10_readWord_97 ?_
            obtain ⟨r23, hf23, hs0⟩ := obind hs0
            refine g_Vie (n := 2) hx hb hml hown hG hW hS [.int v1j8, .ref (sa 4)] XT.ok (hE.one 4 (by decide)) (kX10_isWord hN (by decide) hsh w_x24_3 h_A26 F v1j8 hf23) (ltN hN 24 rfl) gk24 (by decide) rfl rfl (gd_V gx1194 gx1195 gx1196 gx31 gx1197) rfl rfl (by decide) ⟨Nat.le_of_ble_eq_true rfl, Nat.le_of_ble_eq_true rfl⟩ rfl hl (Nat.le_of_ble_eq_true rfl) ⟨Nat.zero_le _, Nat.zero_le _⟩ dX10_readWord_99 (fun x23 m23 a23 H locs hp23 hW hS => ?_)
            obtain ⟨hx23, hm23, ha23⟩ := hp23
            subst hx23
            rw [hm23] at hW
            rw [ha23] at hW
            refine lv_if_eq (tgt := 107) hx hb dX10_readWord_102 (by decide) (fun c24 => ?_) (fun c24 => ?_)
            · rw [if_pos c24] at hs0
              refine lv_aload_n hx hb dX10_readWord_107 rfl (lv_at hl 0 rfl) ?_
              refine lv_iload_n hx hb dX10_readWord_108 rfl (lv_at hl 1 rfl) ?_
              refine va_ldcS (own := sOwn 5) (index := sIdx 5) hx hb hown (hE.1 5 (by decide)).1 dX10_readWord_109 ?_
              obtain ⟨r25, hf25, hs0⟩ := obind hs0
              refine g_Vie (n := 2) hx hb hml hown hG hW hS [.int v1j8, .ref (sa 5)] XT.ok (hE.one 5 (by decide)) (kX10_isWord hN (by decide) hsh w_x24_3 h_A26 F v1j8 hf25) (ltN hN 24 rfl) gk24 (by decide) rfl rfl (gd_V gx1194 gx1195 gx1196 gx31 gx1197) rfl rfl (by decide) ⟨Nat.le_of_ble_eq_true rfl, Nat.le_of_ble_eq_true rfl⟩ rfl hl (Nat.le_of_ble_eq_true rfl) ⟨Nat.zero_le _, Nat.zero_le _⟩ dX10_readWord_111 (fun x25 m25 a25 H locs hp25 hW hS => ?_)
              obtain ⟨hx25, hm25, ha25⟩ := hp25
              subst hx25
              rw [hm25] at hW
              rw [ha25] at hW
              refine lv_if_eq (tgt := 119) hx hb dX10_readWord_114 (by decide) (fun c26 => ?_) (fun c26 => ?_)
              · rw [if_pos c26] at hs0
                refine lv_aload_n hx hb dX10_readWord_119 rfl (lv_at hl 0 rfl) ?_
                refine lv_iload_n hx hb dX10_readWord_120 rfl (lv_at hl 1 rfl) ?_
                refine va_ldcS (own := sOwn 6) (index := sIdx 6) hx hb hown (hE.1 6 (by decide)).1 dX10_readWord_121 ?_
                obtain ⟨r27, hf27, hs0⟩ := obind hs0
                refine g_Vie (n := 2) hx hb hml hown hG hW hS [.int v1j8, .ref (sa 6)] XT.ok (hE.one 6 (by decide)) (kX10_isWord hN (by decide) hsh w_x24_3 h_A26 F v1j8 hf27) (ltN hN 24 rfl) gk24 (by decide) rfl rfl (gd_V gx1194 gx1195 gx1196 gx31 gx1197) rfl rfl (by decide) ⟨Nat.le_of_ble_eq_true rfl, Nat.le_of_ble_eq_true rfl⟩ rfl hl (Nat.le_of_ble_eq_true rfl) ⟨Nat.zero_le _, Nat.zero_le _⟩ dX10_readWord_123 (fun x27 m27 a27 H locs hp27 hW hS => ?_)
                obtain ⟨hx27, hm27, ha27⟩ := hp27
                subst hx27
                rw [hm27] at hW
                rw [ha27] at hW
                refine lv_if_eq (tgt := 134) hx hb dX10_readWord_126 (by decide) (fun c28 => ?_) (fun c28 => ?_)
                · rw [if_pos c28] at hs0
                  refine lv_iconst (v := (-1)) hx hb dX10_readWord_134 (by decide) ?_
                  have hs0 := Option.some.inj hs0
                  subst hs0
                  exact W.zret hx hb hr rfl (fun t ht hw => ⟨⟨_, (m, a0), rfl, ⟨rfl, w_x24_3, hoff, rfl⟩, g_end hW ht hw⟩, hS.F ht⟩) hS.2.2 dX10_readWord_135 hlocks
                · rw [if_neg c28] at hs0
                  refine lv_bipush (v := 6) hx hb dX10_readWord_129 (by decide) ?_
                  refine lv_goto (tgt := 135) hx hb dX10_readWord_131 (by decide) ?_
                  have hs0 := Option.some.inj hs0
                  subst hs0
                  exact W.zret hx hb hr rfl (fun t ht hw => ⟨⟨_, (m, a0), rfl, ⟨rfl, w_x24_3, hoff, rfl⟩, g_end hW ht hw⟩, hS.F ht⟩) hS.2.2 dX10_readWord_135 hlocks
              · rw [if_neg c26] at hs0
                refine lv_iconst (v := 5) hx hb dX10_readWord_117 (by decide) ?_
                have hs0 := Option.some.inj hs0
                subst hs0
                exact W.zret hx hb hr rfl (fun t ht hw => ⟨⟨_, (m, a0), rfl, ⟨rfl, w_x24_3, hoff, rfl⟩, g_end hW ht hw⟩, hS.F ht⟩) hS.2.2 dX10_readWord_118 hlocks
            · rw [if_neg c24] at hs0
              refine lv_iconst (v := 4) hx hb dX10_readWord_105 (by decide) ?_
              have hs0 := Option.some.inj hs0
              subst hs0
              exact W.zret hx hb hr rfl (fun t ht hw => ⟨⟨_, (m, a0), rfl, ⟨rfl, w_x24_3, hoff, rfl⟩, g_end hW ht hw⟩, hS.F ht⟩) hS.2.2 dX10_readWord_106 hlocks
          · rw [if_neg c22] at hs0
            refine lv_iconst (v := 3) hx hb dX10_readWord_93 (by decide) ?_
            have hs0 := Option.some.inj hs0
            subst hs0
            exact W.zret hx hb hr rfl (fun t ht hw => ⟨⟨_, (m, a0), rfl, ⟨rfl, w_x24_3, hoff, rfl⟩, g_end hW ht hw⟩, hS.F ht⟩) hS.2.2 dX10_readWord_94 hlocks
        · rw [if_neg c20] at hs0
          refine lv_iconst (v := 2) hx hb dX10_readWord_81 (by decide) ?_
          have hs0 := Option.some.inj hs0
          subst hs0
          exact W.zret hx hb hr rfl (fun t ht hw => ⟨⟨_, (m, a0), rfl, ⟨rfl, w_x24_3, hoff, rfl⟩, g_end hW ht hw⟩, hS.F ht⟩) hS.2.2 dX10_readWord_82 hlocks
      · rw [if_neg c18] at hs0
        refine lv_iconst (v := 1) hx hb dX10_readWord_69 (by decide) ?_
        have hs0 := Option.some.inj hs0
        subst hs0
        exact W.zret hx hb hr rfl (fun t ht hw => ⟨⟨_, (m, a0), rfl, ⟨rfl, w_x24_3, hoff, rfl⟩, g_end hW ht hw⟩, hS.F ht⟩) hS.2.2 dX10_readWord_70 hlocks
    · rw [if_neg c16] at hs0
      refine lv_iconst (v := 0) hx hb dX10_readWord_57 (by decide) ?_
      have hs0 := Option.some.inj hs0
      subst hs0
      exact W.zret hx hb hr rfl (fun t ht hw => ⟨⟨_, (m, a0), rfl, ⟨rfl, w_x24_3, hoff, rfl⟩, g_end hW ht hw⟩, hS.F ht⟩) hS.2.2 dX10_readWord_58 hlocks
  refine lv_aload_n hx hb dX10_readWord_0 rfl (lv_at hl 0 rfl) ?_
  refine gf10_3 hx hb hG hown hW (o := 24) (ltN hN 24 rfl) gk24 (v := .int x24_3) h_x24_3 gx1142 dX10_readWord_1 ?_
  refine lv_istore_n (lv' := [(1, .int x24_3), (0, .ref (q 24))]) hx hb dX10_readWord_4 rfl hl (by decide) rfl (fun ls hl => ?_)
  obtain ⟨r1, hg1, hs0⟩ := obind hs0
  have hE1_47 : ∀ (t1_47 : Int32) (hr1 : t1_47 = r1) (m : Nat → Value) (H : Heap) (locs : List Loc) (w_x24_3 : m 2403 = .int t1_47) (hoff : ∀ j, nel j [2403] = false → m j = m0 j) (hsh : SH q m) (ls : Array Slot) (hl : lv_has ls 2 [(0, .ref (q 24)), (1, .int x24_3)]) (hW : GW D cy (gA N q s.heap.size) N q m a0 s H) (hS : va_S (gA N q s.heap.size) s.heap H locs), W p l e ({ frames := 5, cells := 0, slots := 0, locals := 108 } : Room) s M args below meth c H locs 0 0 (MQ below (va_Qi (fun (r : Int32) (u : (Nat → Value) × (Nat → vp_A)) => r = X0.1 ∧ u.1 2403 = .int X0.2 ∧ (∀ j, nel j [2403] = false → u.1 j = m0 j) ∧ u.2 = a0) (gB D cy N q s.heap.size) (gA N q s.heap.size)) args s 0 0 (gA N q s.heap.size)) (F0 M 47 ls []) := by
    intro t1_47 hr1 m H locs w_x24_3 hoff hsh ls hl hW hS
    subst hr1
    exact hJ47_0 x24_3 t1_47 m _ _ w_x24_3 hoff hsh ls (lv_sub hl [0, 1] rfl) hs0 hW hS
  have hL1 : ∀ (n : Nat) (x24_3k1 : Int32) (m : Nat → Value) (H : Heap) (locs : List Loc) (w_x24_3 : m 2403 = .int x24_3k1) (hoff : ∀ j, nel j [2403] = false → m j = m0 j) (hsh : SH q m) (ls : Array Slot) (hl : lv_has ls 2 [(0, .ref (q 24)), (1, .int x24_3)]) (hg1 : gloop (fun u1 : Int32 => fX10_readWord_S5 F x24_2 A26 x24_3 u1) n x24_3k1 = some r1) (hW : GW D cy (gA N q s.heap.size) N q m a0 s H) (hS : va_S (gA N q s.heap.size) s.heap H locs), W p l e ({ frames := 5, cells := 0, slots := 0, locals := 108 } : Room) s M args below meth c H locs 0 0 (MQ below (va_Qi (fun (r : Int32) (u : (Nat → Value) × (Nat → vp_A)) => r = X0.1 ∧ u.1 2403 = .int X0.2 ∧ (∀ j, nel j [2403] = false → u.1 j = m0 j) ∧ u.2 = a0) (gB D cy N q s.heap.size) (gA N q s.heap.size)) args s 0 0 (gA N q s.heap.size)) (F0 M 5 ls []) := by
    intro n
    induction n with
    | zero => intro x24_3k1 m H locs w_x24_3 hoff hsh ls hl hg1 hW hS; exact (gl_zero hg1).elim
    | succ n ih1 =>
      intro x24_3k1 m H locs w_x24_3 hoff hsh ls hl hg1 hW hS
      obtain ⟨X1, hs1, hXl1, hXr1⟩ := gl_succ hg1
      have hs1 : fX10_readWord_S5 F x24_2 A26 x24_3 x24_3k1 = some X1 := hs1
      unfold fX10_readWord_S5 at hs1
      refine lv_aload_n hx hb dX10_readWord_5 rfl (lv_at hl 0 rfl) ?_
      refine gf10_3 hx hb hG hown hW (o := 24) (ltN hN 24 rfl) gk24 (v := .int x24_3k1) w_x24_3 gx1142 dX10_readWord_6 ?_
      refine lv_aload_n hx hb dX10_readWord_9 rfl (lv_at hl 0 rfl) ?_
      refine gf10_2 hx hb hG hown hW (o := 24) (ltN hN 24 rfl) gk24 (v := .int x24_2) ((hoff 2402 rfl).trans h_x24_2) gx1141 dX10_readWord_10 ?_
      refine lv_icmp_ge (tgt := 47) hx hb dX10_readWord_13 (by decide) (fun c9 => ?_) (fun c9 => ?_)
      · rw [if_pos c9] at hs1
        exact hE1_47 x24_3k1 (hXl1 _ (Option.some.inj hs1).symm) m _ _ w_x24_3 hoff hsh ls (lv_sub hl [0, 1] rfl) hW hS
      · rw [if_neg c9] at hs1
        refine lv_aload_n hx hb dX10_readWord_16 rfl (lv_at hl 0 rfl) ?_
        refine g_ViR (n := 0) hx hb hml hown hG hW hS [] (kX10_peek hN hsh ((hoff 2402 rfl).trans h_x24_2) w_x24_3 h_A26) (ltN hN 24 rfl) gk24 (by decide) rfl rfl (gd_V gx1154 gx1155 gx1156 gx31 gx1157) rfl rfl (by decide) ⟨Nat.le_of_ble_eq_true rfl, Nat.le_of_ble_eq_true rfl⟩ rfl hl (Nat.le_of_ble_eq_true rfl) ⟨Nat.zero_le _, Nat.zero_le _⟩ dX10_readWord_17 (fun H locs hW hS => ?_)
        refine lv_bipush (v := 97) hx hb dX10_readWord_20 (by decide) ?_
        refine lv_icmp_lt (tgt := 47) hx hb dX10_readWord_22 (by decide) (fun c11 => ?_) (fun c11 => ?_)
        · rw [if_pos c11] at hs1
          exact hE1_47 x24_3k1 (hXl1 _ (Option.some.inj hs1).symm) m _ _ w_x24_3 hoff hsh ls (lv_sub hl [0, 1] rfl) hW hS
        · rw [if_neg c11] at hs1
          refine lv_aload_n hx hb dX10_readWord_25 rfl (lv_at hl 0 rfl) ?_
          refine g_ViR (n := 0) hx hb hml hown hG hW hS [] (kX10_peek hN hsh ((hoff 2402 rfl).trans h_x24_2) w_x24_3 h_A26) (ltN hN 24 rfl) gk24 (by decide) rfl rfl (gd_V gx1154 gx1155 gx1156 gx31 gx1157) rfl rfl (by decide) ⟨Nat.le_of_ble_eq_true rfl, Nat.le_of_ble_eq_true rfl⟩ rfl hl (Nat.le_of_ble_eq_true rfl) ⟨Nat.zero_le _, Nat.zero_le _⟩ dX10_readWord_26 (fun H locs hW hS => ?_)
          refine lv_bipush (v := 122) hx hb dX10_readWord_29 (by decide) ?_
          refine lv_icmp_gt (tgt := 47) hx hb dX10_readWord_31 (by decide) (fun c13 => ?_) (fun c13 => ?_)
          · rw [if_pos c13] at hs1
            exact hE1_47 x24_3k1 (hXl1 _ (Option.some.inj hs1).symm) m _ _ w_x24_3 hoff hsh ls (lv_sub hl [0, 1] rfl) hW hS
          · rw [if_neg c13] at hs1
            refine lv_aload_n hx hb dX10_readWord_34 rfl (lv_at hl 0 rfl) ?_
            refine lv_dup hx hb dX10_readWord_35 rfl ?_
            refine gf10_3 hx hb hG hown hW (o := 24) (ltN hN 24 rfl) gk24 (v := .int x24_3k1) w_x24_3 gx1142 dX10_readWord_36 ?_
            refine lv_iconst (v := 1) hx hb dX10_readWord_39 (by decide) ?_
            refine lv_iadd hx hb dX10_readWord_40 ?_
            refine gp10_3 hx hb hG hown hW hS (o := 24) (ltN hN 24 rfl) gk24 (v := (x24_3k1 + 1)) gx1142 dX10_readWord_41 (fun m14 H locs hm14 ho14 hW hS => ?_)
            have ho14 := off1 ho14
            have w_x24_3 : m14 2403 = .int (x24_3k1 + 1) := hm14
            have hoff := offm hoff ho14 (by decide +kernel)
            have hsh := SH.off hsh ho14 (by decide +kernel)
            refine lv_goto (tgt := 5) hx hb dX10_readWord_44 (by decide) ?_
            exact ih1 (x24_3k1 + 1) m14 _ _ w_x24_3 hoff hsh ls (lv_sub hl [0, 1] rfl) (hXr1 _ (Option.some.inj hs1).symm) hW hS
  exact hL1 F x24_3 m0 _ _ h_x24_3 hoff hsh ls (lv_sub hl [1, 0] rfl) hg1 hW hS
-- HealLink$Tape.readStep (ILHealLink$Steps;)V
def fX10_readStep_J138 (F : Nat) (x24_2 : Int32) (A26 : Nat → Int32) (x11_6j4 : Int32) (x11_7j4 : Int32) (x24_3j4 : Int32) (x24_4j4 : Int32) (A13j4 : Nat → Int32) (A15j4 : Nat → Int32) (A17j4 : Nat → Int32) (A19j4 : Nat → Int32) : Option (Int32 × Int32 × Int32 × Int32 × (Nat → Int32) × (Nat → Int32) × (Nat → Int32) × (Nat → Int32)) := ((fX10_expect F x24_2 A26 x24_3j4 x24_4j4 59).bind (fun r25 => some (x11_6j4, x11_7j4, r25.1, r25.2, A13j4, A15j4, A17j4, A19j4)))
def fX10_readStep (F : Nat) (x24_2 : Int32) (A26 : Nat → Int32) (x11_6 : Int32) (x11_7 : Int32) (x24_3 : Int32) (x24_4 : Int32) (A13 : Nat → Int32) (A15 : Nat → Int32) (A17 : Nat → Int32) (A19 : Nat → Int32) (p1 : Int32) : Option (Int32 × Int32 × Int32 × Int32 × (Nat → Int32) × (Nat → Int32) × (Nat → Int32) × (Nat → Int32)) := ((fX10_readWord F x24_2 A26 x24_3).bind (fun r1 => (if r1.1 = 0 then fX10_readStep_J138 F x24_2 A26 ((fX8_add x11_6 A13 A15 A17 r1.1 0 0).1) x11_7 r1.2 x24_4 ((fX8_add x11_6 A13 A15 A17 r1.1 0 0).2.1) ((fX8_add x11_6 A13 A15 A17 r1.1 0 0).2.2.1) ((fX8_add x11_6 A13 A15 A17 r1.1 0 0).2.2.2) A19 else (if r1.1 = 1 then ((fX10_readNumber F x24_2 A26 r1.2 x24_4 0 (p1 - 1)).bind (fun r6 => ((fX10_readNumber F x24_2 A26 r6.2.1 r6.2.2 0 1).bind (fun r7 => fX10_readStep_J138 F x24_2 A26 ((fX8_add x11_6 A13 A15 A17 r1.1 r6.1 r7.1).1) x11_7 r7.2.1 r7.2.2 ((fX8_add x11_6 A13 A15 A17 r1.1 r6.1 r7.1).2.1) ((fX8_add x11_6 A13 A15 A17 r1.1 r6.1 r7.1).2.2.1) ((fX8_add x11_6 A13 A15 A17 r1.1 r6.1 r7.1).2.2.2) A19)))) else (if r1.1 = 2 then ((fX10_readNumber F x24_2 A26 r1.2 x24_4 0 (p1 - 1)).bind (fun r10 => fX10_readStep_J138 F x24_2 A26 ((fX8_add x11_6 A13 A15 A17 r1.1 r10.1 0).1) x11_7 r10.2.1 r10.2.2 ((fX8_add x11_6 A13 A15 A17 r1.1 r10.1 0).2.1) ((fX8_add x11_6 A13 A15 A17 r1.1 r10.1 0).2.2.1) ((fX8_add x11_6 A13 A15 A17 r1.1 r10.1 0).2.2.2) A19)) else (if r1.1 = 3 then ((fX10_readNumber F x24_2 A26 r1.2 x24_4 0 (p1 - 1)).bind (fun r13 => ((fX10_readNumber F x24_2 A26 r13.2.1 r13.2.2 0 1).bind (fun r14 => fX10_readStep_J138 F x24_2 A26 ((fX8_add x11_6 A13 A15 A17 r1.1 r13.1 r14.1).1) x11_7 r14.2.1 r14.2.2 ((fX8_add x11_6 A13 A15 A17 r1.1 r13.1 r14.1).2.1) ((fX8_add x11_6 A13 A15 A17 r1.1 r13.1 r14.1).2.2.1) ((fX8_add x11_6 A13 A15 A17 r1.1 r13.1 r14.1).2.2.2) A19)))) else (if r1.1 = 4 then ((fX10_readNumber F x24_2 A26 r1.2 x24_4 0 (p1 - 1)).bind (fun r17 => fX10_readStep_J138 F x24_2 A26 ((fX8_add x11_6 A13 A15 A17 r1.1 r17.1 0).1) x11_7 r17.2.1 r17.2.2 ((fX8_add x11_6 A13 A15 A17 r1.1 r17.1 0).2.1) ((fX8_add x11_6 A13 A15 A17 r1.1 r17.1 0).2.2.1) ((fX8_add x11_6 A13 A15 A17 r1.1 r17.1 0).2.2.2) A19)) else (if r1.1 = 5 then ((fX10_readNumber F x24_2 A26 r1.2 x24_4 1 9).bind (fun r20 => fX10_readStep_J138 F x24_2 A26 ((fX8_add x11_6 A13 A15 A17 r1.1 r20.1 0).1) x11_7 r20.2.1 r20.2.2 ((fX8_add x11_6 A13 A15 A17 r1.1 r20.1 0).2.1) ((fX8_add x11_6 A13 A15 A17 r1.1 r20.1 0).2.2.1) ((fX8_add x11_6 A13 A15 A17 r1.1 r20.1 0).2.2.2) A19)) else (if r1.1 = 6 then ((fX10_readAgain F x24_2 A26 x11_6 x11_7 r1.2 x24_4 A13 A15 A17 A19 x24_3).bind (fun r23 => some (r23.1, r23.2.1, r23.2.2.1, r23.2.2.2.1, r23.2.2.2.2.1, r23.2.2.2.2.2.1, r23.2.2.2.2.2.2.1, r23.2.2.2.2.2.2.2))) else fX10_readStep_J138 F x24_2 A26 x11_6 x11_7 r1.2 (fX10_blame x24_4 x24_3 1) A13 A15 A17 A19)))))))))
theorem dX10_readStep_0 : decode cX10_readStep 0 = .ok (.aload_n 0, 1) := by decide +kernel
theorem dX10_readStep_1 : decode cX10_readStep 1 = .ok (.getfield 37, 3) := by decide +kernel
theorem dX10_readStep_4 : decode cX10_readStep 4 = .ok (.istore_n 3, 1) := by decide +kernel
theorem dX10_readStep_5 : decode cX10_readStep 5 = .ok (.aload_n 0, 1) := by decide +kernel
theorem dX10_readStep_6 : decode cX10_readStep 6 = .ok (.invokevirtual 77, 3) := by decide +kernel
theorem dX10_readStep_9 : decode cX10_readStep 9 = .ok (.istore 4, 2) := by decide +kernel
theorem dX10_readStep_11 : decode cX10_readStep 11 = .ok (.iload 4, 2) := by decide +kernel
theorem dX10_readStep_13 : decode cX10_readStep 13 = .ok (.tableswitch 119 0 6 #[43, 54, 77, 54, 77, 95, 112], 43) := by decide +kernel
theorem dX10_readStep_56 : decode cX10_readStep 56 = .ok (.aload_n 2, 1) := by decide +kernel
theorem dX10_readStep_57 : decode cX10_readStep 57 = .ok (.iload 4, 2) := by decide +kernel
theorem dX10_readStep_59 : decode cX10_readStep 59 = .ok (.iconst 0, 1) := by decide +kernel
theorem dX10_readStep_60 : decode cX10_readStep 60 = .ok (.iconst 0, 1) := by decide +kernel
theorem dX10_readStep_61 : decode cX10_readStep 61 = .ok (.invokevirtual 80, 3) := by decide +kernel
theorem dX10_readStep_64 : decode cX10_readStep 64 = .ok (.goto 74, 3) := by decide +kernel
theorem dX10_readStep_67 : decode cX10_readStep 67 = .ok (.aload_n 2, 1) := by decide +kernel
theorem dX10_readStep_68 : decode cX10_readStep 68 = .ok (.iload 4, 2) := by decide +kernel
theorem dX10_readStep_70 : decode cX10_readStep 70 = .ok (.aload_n 0, 1) := by decide +kernel
theorem dX10_readStep_71 : decode cX10_readStep 71 = .ok (.iconst 0, 1) := by decide +kernel
theorem dX10_readStep_72 : decode cX10_readStep 72 = .ok (.iload_n 1, 1) := by decide +kernel
theorem dX10_readStep_73 : decode cX10_readStep 73 = .ok (.iconst 1, 1) := by decide +kernel
theorem dX10_readStep_74 : decode cX10_readStep 74 = .ok (.isub, 1) := by decide +kernel
theorem dX10_readStep_75 : decode cX10_readStep 75 = .ok (.invokevirtual 84, 3) := by decide +kernel
theorem dX10_readStep_78 : decode cX10_readStep 78 = .ok (.aload_n 0, 1) := by decide +kernel
theorem dX10_readStep_79 : decode cX10_readStep 79 = .ok (.iconst 0, 1) := by decide +kernel
theorem dX10_readStep_80 : decode cX10_readStep 80 = .ok (.iconst 1, 1) := by decide +kernel
theorem dX10_readStep_81 : decode cX10_readStep 81 = .ok (.invokevirtual 84, 3) := by decide +kernel
theorem dX10_readStep_84 : decode cX10_readStep 84 = .ok (.invokevirtual 80, 3) := by decide +kernel
theorem dX10_readStep_87 : decode cX10_readStep 87 = .ok (.goto 51, 3) := by decide +kernel
theorem dX10_readStep_90 : decode cX10_readStep 90 = .ok (.aload_n 2, 1) := by decide +kernel
theorem dX10_readStep_91 : decode cX10_readStep 91 = .ok (.iload 4, 2) := by decide +kernel
theorem dX10_readStep_93 : decode cX10_readStep 93 = .ok (.aload_n 0, 1) := by decide +kernel
theorem dX10_readStep_94 : decode cX10_readStep 94 = .ok (.iconst 0, 1) := by decide +kernel
theorem dX10_readStep_95 : decode cX10_readStep 95 = .ok (.iload_n 1, 1) := by decide +kernel
theorem dX10_readStep_96 : decode cX10_readStep 96 = .ok (.iconst 1, 1) := by decide +kernel
theorem dX10_readStep_97 : decode cX10_readStep 97 = .ok (.isub, 1) := by decide +kernel
theorem dX10_readStep_98 : decode cX10_readStep 98 = .ok (.invokevirtual 84, 3) := by decide +kernel
theorem dX10_readStep_101 : decode cX10_readStep 101 = .ok (.iconst 0, 1) := by decide +kernel
theorem dX10_readStep_102 : decode cX10_readStep 102 = .ok (.invokevirtual 80, 3) := by decide +kernel
theorem dX10_readStep_105 : decode cX10_readStep 105 = .ok (.goto 33, 3) := by decide +kernel
theorem dX10_readStep_108 : decode cX10_readStep 108 = .ok (.aload_n 2, 1) := by decide +kernel
theorem dX10_readStep_109 : decode cX10_readStep 109 = .ok (.iload 4, 2) := by decide +kernel
theorem dX10_readStep_111 : decode cX10_readStep 111 = .ok (.aload_n 0, 1) := by decide +kernel
theorem dX10_readStep_112 : decode cX10_readStep 112 = .ok (.iconst 1, 1) := by decide +kernel
theorem dX10_readStep_113 : decode cX10_readStep 113 = .ok (.bipush 9, 2) := by decide +kernel
theorem dX10_readStep_115 : decode cX10_readStep 115 = .ok (.invokevirtual 84, 3) := by decide +kernel
theorem dX10_readStep_118 : decode cX10_readStep 118 = .ok (.iconst 0, 1) := by decide +kernel
theorem dX10_readStep_119 : decode cX10_readStep 119 = .ok (.invokevirtual 80, 3) := by decide +kernel
theorem dX10_readStep_122 : decode cX10_readStep 122 = .ok (.goto 16, 3) := by decide +kernel
theorem dX10_readStep_125 : decode cX10_readStep 125 = .ok (.aload_n 0, 1) := by decide +kernel
theorem dX10_readStep_126 : decode cX10_readStep 126 = .ok (.iload_n 3, 1) := by decide +kernel
theorem dX10_readStep_127 : decode cX10_readStep 127 = .ok (.aload_n 2, 1) := by decide +kernel
theorem dX10_readStep_128 : decode cX10_readStep 128 = .ok (.invokevirtual 87, 3) := by decide +kernel
theorem dX10_readStep_131 : decode cX10_readStep 131 = .ok (.return_, 1) := by decide +kernel
theorem dX10_readStep_132 : decode cX10_readStep 132 = .ok (.aload_n 0, 1) := by decide +kernel
theorem dX10_readStep_133 : decode cX10_readStep 133 = .ok (.iload_n 3, 1) := by decide +kernel
theorem dX10_readStep_134 : decode cX10_readStep 134 = .ok (.iconst 1, 1) := by decide +kernel
theorem dX10_readStep_135 : decode cX10_readStep 135 = .ok (.invokevirtual 67, 3) := by decide +kernel
theorem dX10_readStep_138 : decode cX10_readStep 138 = .ok (.aload_n 0, 1) := by decide +kernel
theorem dX10_readStep_139 : decode cX10_readStep 139 = .ok (.bipush 59, 2) := by decide +kernel
theorem dX10_readStep_141 : decode cX10_readStep 141 = .ok (.invokevirtual 73, 3) := by decide +kernel
theorem dX10_readStep_144 : decode cX10_readStep 144 = .ok (.return_, 1) := by decide +kernel
set_option maxHeartbeats 4000000 in
set_option maxRecDepth 100000 in
theorem kX10_readStep {l : Launch} {D : va_G} {cy : Nat → ClassId} {N : Nat} {q : Nat → Nat} {sa sv : Nat → Nat} {m0 : Nat → Value} {a0 : Nat → vp_A} {sz : Nat} (hN : 105 ≤ N) (hsh : SH q m0) {x24_2 : Int32} (h_x24_2 : m0 2402 = .int x24_2) {A26 : Nat → Int32} (h_A26 : a0 26 = (264, .inl A26)) {x11_6 : Int32} (h_x11_6 : m0 1106 = .int x11_6) {x11_7 : Int32} (h_x11_7 : m0 1107 = .int x11_7) {x24_3 : Int32} (h_x24_3 : m0 2403 = .int x24_3) {x24_4 : Int32} (h_x24_4 : m0 2404 = .int x24_4) {A13 : Nat → Int32} (h_A13 : a0 13 = (64, .inl A13)) {A15 : Nat → Int32} (h_A15 : a0 15 = (64, .inl A15)) {A17 : Nat → Int32} (h_A17 : a0 17 = (64, .inl A17)) {A19 : Nat → Int32} (h_A19 : a0 19 = (4, .inl A19)) (F : Nat) (p1 : Int32) {X0 : Int32 × Int32 × Int32 × Int32 × (Nat → Int32) × (Nat → Int32) × (Nat → Int32) × (Nat → Int32)} (hs0 : fX10_readStep F x24_2 A26 x11_6 x11_7 x24_3 x24_4 A13 A15 A17 A19 p1 = some X0) : eMv l yX10_readStep cX10_readStep 5 none ({ frames := 6, cells := 0, slots := 0, locals := 129 } : Room) D cy N q m0 a0 sz [.ref (q 24), .int p1, .ref (q 11)] (XS sa sv) (fun m' a' => m' 1106 = .int X0.1 ∧ m' 1107 = .int X0.2.1 ∧ m' 2403 = .int X0.2.2.1 ∧ m' 2404 = .int X0.2.2.2.1 ∧ (∀ j, nel j [1106, 1107, 2403, 2404] = false → m' j = m0 j) ∧ a' 13 = (64, .inl X0.2.2.2.2.1) ∧ a' 15 = (64, .inl X0.2.2.2.2.2.1) ∧ a' 17 = (64, .inl X0.2.2.2.2.2.2.1) ∧ a' 19 = (4, .inl X0.2.2.2.2.2.2.2) ∧ (∀ j, nel j [13, 15, 17, 19] = false → a' j = a0 j)) := by
  refine e_ofv (by decide) (Nat.le_of_ble_eq_true rfl) ?_
  intro p e s M args below meth c hx hb hr hG hown hin hlocks hml hW hS hE ls hl
  unfold fX10_readStep at hs0
  have hoff : ∀ j, nel j [1106, 1107, 2403, 2404] = false → m0 j = m0 j := off0
  have hoffa : ∀ j, nel j [13, 15, 17, 19] = false → a0 j = a0 j := off0
  have hJ138_0 : ∀ (x11_6j4 : Int32) (x11_7j4 : Int32) (x24_3j4 : Int32) (x24_4j4 : Int32) (A13j4 : Nat → Int32) (A15j4 : Nat → Int32) (A17j4 : Nat → Int32) (A19j4 : Nat → Int32) (m : Nat → Value) (a : Nat → vp_A) (H : Heap) (locs : List Loc) (w_x11_6 : m 1106 = .int x11_6j4) (w_x11_7 : m 1107 = .int x11_7j4) (w_x24_3 : m 2403 = .int x24_3j4) (w_x24_4 : m 2404 = .int x24_4j4) (hoff : ∀ j, nel j [1106, 1107, 2403, 2404] = false → m j = m0 j) (hsh : SH q m) (w_A13 : a 13 = (64, .inl A13j4)) (w_A15 : a 15 = (64, .inl A15j4)) (w_A17 : a 17 = (64, .inl A17j4)) (w_A19 : a 19 = (4, .inl A19j4)) (hoffa : ∀ j, nel j [13, 15, 17, 19] = false → a j = a0 j) (ls : Array Slot) (hl : lv_has ls 5 [(0, .ref (q 24))]) (hs0 : fX10_readStep_J138 F x24_2 A26 x11_6j4 x11_7j4 x24_3j4 x24_4j4 A13j4 A15j4 A17j4 A19j4 = some X0) (hW : GW D cy (gA N q s.heap.size) N q m a s H) (hS : va_S (gA N q s.heap.size) s.heap H locs), W p l e ({ frames := 6, cells := 0, slots := 0, locals := 129 } : Room) s M args below meth c H locs 0 0 (MQ below (va_Qv (fun (u : (Nat → Value) × (Nat → vp_A)) => u.1 1106 = .int X0.1 ∧ u.1 1107 = .int X0.2.1 ∧ u.1 2403 = .int X0.2.2.1 ∧ u.1 2404 = .int X0.2.2.2.1 ∧ (∀ j, nel j [1106, 1107, 2403, 2404] = false → u.1 j = m0 j) ∧ u.2 13 = (64, .inl X0.2.2.2.2.1) ∧ u.2 15 = (64, .inl X0.2.2.2.2.2.1) ∧ u.2 17 = (64, .inl X0.2.2.2.2.2.2.1) ∧ u.2 19 = (4, .inl X0.2.2.2.2.2.2.2) ∧ (∀ j, nel j [13, 15, 17, 19] = false → u.2 j = a0 j)) (gB D cy N q s.heap.size) (gA N q s.heap.size)) args s 0 0 (gA N q s.heap.size)) (F0 M 138 ls []) := by
    intro x11_6j4 x11_7j4 x24_3j4 x24_4j4 A13j4 A15j4 A17j4 A19j4 m a H locs w_x11_6 w_x11_7 w_x24_3 w_x24_4 hoff hsh w_A13 w_A15 w_A17 w_A19 hoffa ls hl hs0 hW hS
    unfold fX10_readStep_J138 at hs0
    refine lv_aload_n hx hb dX10_readStep_138 rfl (lv_at hl 0 rfl) ?_
    refine lv_bipush (v := 59) hx hb dX10_readStep_139 (by decide) ?_
    obtain ⟨r25, hf25, hs0⟩ := obind hs0
    refine g_Vv (n := 1) hx hb hml hown hG hW hS [.int 59] (kX10_expect hN hsh ((hoff 2402 rfl).trans h_x24_2) ((hoffa 26 rfl).trans h_A26) w_x24_3 w_x24_4 F 59 hf25) (ltN hN 24 rfl) gk24 (by decide) rfl rfl (gd_V gx1182 gx1183 gx1184 gx31 gx1185) rfl rfl (by decide) ⟨Nat.le_of_ble_eq_true rfl, Nat.le_of_ble_eq_true rfl⟩ rfl hl (Nat.le_of_ble_eq_true rfl) ⟨Nat.zero_le _, Nat.zero_le _⟩ dX10_readStep_141 (fun m25 a25 H locs hp25 hW hS => ?_)
    obtain ⟨hp25_x24_3, hp25_x24_4, ho25, ha25⟩ := hp25
    rw [ha25] at hW
    have w_x11_6 : m25 1106 = .int x11_6j4 := (ho25 1106 rfl).trans w_x11_6
    have w_x11_7 : m25 1107 = .int x11_7j4 := (ho25 1107 rfl).trans w_x11_7
    have w_x24_3 : m25 2403 = .int r25.1 := hp25_x24_3
    have w_x24_4 : m25 2404 = .int r25.2 := hp25_x24_4
    have hoff := offm hoff ho25 (by decide +kernel)
    have hsh := SH.off hsh ho25 (by decide +kernel)
    have hs0 := Option.some.inj hs0
    subst hs0
    exact W.vret hx hb hr (fun t ht hw => ⟨⟨(m25, a), rfl, ⟨w_x11_6, w_x11_7, w_x24_3, w_x24_4, hoff, w_A13, w_A15, w_A17, w_A19, hoffa⟩, g_end hW ht hw⟩, hS.F ht⟩) hS.2.2 dX10_readStep_144 hlocks
  refine lv_aload_n hx hb dX10_readStep_0 rfl (lv_at hl 0 rfl) ?_
  refine gf10_3 hx hb hG hown hW (o := 24) (ltN hN 24 rfl) gk24 (v := .int x24_3) h_x24_3 gx1142 dX10_readStep_1 ?_
  refine lv_istore_n (lv' := [(3, .int x24_3), (0, .ref (q 24)), (1, .int p1), (2, .ref (q 11))]) hx hb dX10_readStep_4 rfl hl (by decide) rfl (fun ls hl => ?_)
  refine lv_aload_n hx hb dX10_readStep_5 rfl (lv_at hl 1 rfl) ?_
  obtain ⟨r1, hf1, hs0⟩ := obind hs0
  refine g_Vie (n := 0) hx hb hml hown hG hW hS [] XS.ok hE (kX10_readWord hN hsh ((hoff 2402 rfl).trans h_x24_2) ((hoffa 26 rfl).trans h_A26) h_x24_3 F hf1) (ltN hN 24 rfl) gk24 (by decide) rfl rfl (gd_V gx1190 gx1191 gx1192 gx31 gx1193) rfl rfl (by decide) ⟨Nat.le_of_ble_eq_true rfl, Nat.le_of_ble_eq_true rfl⟩ rfl hl (Nat.le_of_ble_eq_true rfl) ⟨Nat.zero_le _, Nat.zero_le _⟩ dX10_readStep_6 (fun x1 m1 a1 H locs hp1 hW hS => ?_)
  obtain ⟨hx1, hp1_x24_3, ho1, ha1⟩ := hp1
  subst hx1
  rw [ha1] at hW
  have w_x11_6 : m1 1106 = .int x11_6 := (ho1 1106 rfl).trans h_x11_6
  have w_x11_7 : m1 1107 = .int x11_7 := (ho1 1107 rfl).trans h_x11_7
  have w_x24_3 : m1 2403 = .int r1.2 := hp1_x24_3
  have w_x24_4 : m1 2404 = .int x24_4 := (ho1 2404 rfl).trans h_x24_4
  have hoff := offm hoff ho1 (by decide +kernel)
  have hsh := SH.off hsh ho1 (by decide +kernel)
  refine lv_istore (lv' := [(4, .int r1.1), (3, .int x24_3), (0, .ref (q 24)), (1, .int p1), (2, .ref (q 11))]) hx hb dX10_readStep_9 hl (by decide) rfl (fun ls hl => ?_)
  refine lv_iload hx hb dX10_readStep_11 (lv_at hl 0 rfl) ?_
  by_cases c2 : r1.1 = 0
  · rw [if_pos c2] at hs0
    refine lv_tableIn (tgt := 56) hx hb dX10_readStep_13 (by rw [c2]; decide) (by rw [c2]; decide) (by rw [c2]; rfl) (by decide) ?_
    refine lv_aload_n hx hb dX10_readStep_56 rfl (lv_at hl 4 rfl) ?_
    refine lv_iload hx hb dX10_readStep_57 (lv_at hl 0 rfl) ?_
    refine lv_iconst (v := 0) hx hb dX10_readStep_59 (by decide) ?_
    refine lv_iconst (v := 0) hx hb dX10_readStep_60 (by decide) ?_
    refine g_Vv (n := 3) hx hb hml hown hG hW hS [.int r1.1, .int 0, .int 0] (kX8_add hN hsh w_x11_6 h_A13 h_A15 h_A17 r1.1 0 0) (ltN hN 11 rfl) gk11 (by decide) rfl rfl (gd_V gx1247 gx1179 gx1180 gx27 gx1181) rfl rfl (by decide) ⟨Nat.le_of_ble_eq_true rfl, Nat.le_of_ble_eq_true rfl⟩ rfl hl (Nat.le_of_ble_eq_true rfl) ⟨Nat.zero_le _, Nat.zero_le _⟩ dX10_readStep_61 (fun m3 a3 H locs hp3 hW hS => ?_)
    obtain ⟨hp3_x11_6, ho3, hp3_A13, hp3_A15, hp3_A17, hoa3⟩ := hp3
    have w_x11_6 : m3 1106 = .int ((fX8_add x11_6 A13 A15 A17 r1.1 0 0).1) := hp3_x11_6
    have w_x11_7 : m3 1107 = .int x11_7 := (ho3 1107 rfl).trans w_x11_7
    have w_x24_3 : m3 2403 = .int r1.2 := (ho3 2403 rfl).trans w_x24_3
    have w_x24_4 : m3 2404 = .int x24_4 := (ho3 2404 rfl).trans w_x24_4
    have hoff := offm hoff ho3 (by decide +kernel)
    have hsh := SH.off hsh ho3 (by decide +kernel)
    have w_A13 : a3 13 = (64, .inl ((fX8_add x11_6 A13 A15 A17 r1.1 0 0).2.1)) := hp3_A13
    have w_A15 : a3 15 = (64, .inl ((fX8_add x11_6 A13 A15 A17 r1.1 0 0).2.2.1)) := hp3_A15
    have w_A17 : a3 17 = (64, .inl ((fX8_add x11_6 A13 A15 A17 r1.1 0 0).2.2.2)) := hp3_A17
    have w_A19 : a3 19 = (4, .inl A19) := (hoa3 19 rfl).trans h_A19
    have hoffa := offm hoffa hoa3 (by decide +kernel)
    refine lv_goto (tgt := 138) hx hb dX10_readStep_64 (by decide) ?_
    exact hJ138_0 ((fX8_add x11_6 A13 A15 A17 r1.1 0 0).1) x11_7 r1.2 x24_4 ((fX8_add x11_6 A13 A15 A17 r1.1 0 0).2.1) ((fX8_add x11_6 A13 A15 A17 r1.1 0 0).2.2.1) ((fX8_add x11_6 A13 A15 A17 r1.1 0 0).2.2.2) A19 m3 a3 _ _ w_x11_6 w_x11_7 w_x24_3 w_x24_4 hoff hsh w_A13 w_A15 w_A17 w_A19 hoffa ls (lv_sub hl [2] rfl) hs0 hW hS
  · rw [if_neg c2] at hs0
    by_cases c5 : r1.1 = 1
    · rw [if_pos c5] at hs0
      refine lv_tableIn (tgt := 67) hx hb dX10_readStep_13 (by rw [c5]; decide) (by rw [c5]; decide) (by rw [c5]; rfl) (by decide) ?_
      refine lv_aload_n hx hb dX10_readStep_67 rfl (lv_at hl 4 rfl) ?_
      refine lv_iload hx hb dX10_readStep_68 (lv_at hl 0 rfl) ?_
      refine lv_aload_n hx hb dX10_readStep_70 rfl (lv_at hl 2 rfl) ?_
      refine lv_iconst (v := 0) hx hb dX10_readStep_71 (by decide) ?_
      refine lv_iload_n hx hb dX10_readStep_72 rfl (lv_at hl 3 rfl) ?_
      refine lv_iconst (v := 1) hx hb dX10_readStep_73 (by decide) ?_
      refine lv_isub hx hb dX10_readStep_74 ?_
      obtain ⟨r6, hf6, hs0⟩ := obind hs0
      refine g_Vi (n := 2) hx hb hml hown hG hW hS [.int 0, .int (p1 - 1)] (kX10_readNumber hN hsh ((hoff 2402 rfl).trans h_x24_2) ((hoffa 26 rfl).trans h_A26) w_x24_3 w_x24_4 F 0 (p1 - 1) hf6) (ltN hN 24 rfl) gk24 (by decide) rfl rfl (gd_V gx1248 gx1249 gx1250 gx31 gx1251) rfl rfl (by decide) ⟨Nat.le_of_ble_eq_true rfl, Nat.le_of_ble_eq_true rfl⟩ rfl hl (Nat.le_of_ble_eq_true rfl) ⟨Nat.zero_le _, Nat.zero_le _⟩ dX10_readStep_75 (fun x6 m6 a6 H locs hp6 hW hS => ?_)
      obtain ⟨hx6, hp6_x24_3, hp6_x24_4, ho6, ha6⟩ := hp6
      subst hx6
      rw [ha6] at hW
      have w_x11_6 : m6 1106 = .int x11_6 := (ho6 1106 rfl).trans w_x11_6
      have w_x11_7 : m6 1107 = .int x11_7 := (ho6 1107 rfl).trans w_x11_7
      have w_x24_3 : m6 2403 = .int r6.2.1 := hp6_x24_3
      have w_x24_4 : m6 2404 = .int r6.2.2 := hp6_x24_4
      have hoff := offm hoff ho6 (by decide +kernel)
      have hsh := SH.off hsh ho6 (by decide +kernel)
      refine lv_aload_n hx hb dX10_readStep_78 rfl (lv_at hl 2 rfl) ?_
      refine lv_iconst (v := 0) hx hb dX10_readStep_79 (by decide) ?_
      refine lv_iconst (v := 1) hx hb dX10_readStep_80 (by decide) ?_
      obtain ⟨r7, hf7, hs0⟩ := obind hs0
      refine g_Vi (n := 2) hx hb hml hown hG hW hS [.int 0, .int 1] (kX10_readNumber hN hsh ((hoff 2402 rfl).trans h_x24_2) ((hoffa 26 rfl).trans h_A26) w_x24_3 w_x24_4 F 0 1 hf7) (ltN hN 24 rfl) gk24 (by decide) rfl rfl (gd_V gx1248 gx1249 gx1250 gx31 gx1251) rfl rfl (by decide) ⟨Nat.le_of_ble_eq_true rfl, Nat.le_of_ble_eq_true rfl⟩ rfl hl (Nat.le_of_ble_eq_true rfl) ⟨Nat.zero_le _, Nat.zero_le _⟩ dX10_readStep_81 (fun x7 m7 a7 H locs hp7 hW hS => ?_)
      obtain ⟨hx7, hp7_x24_3, hp7_x24_4, ho7, ha7⟩ := hp7
      subst hx7
      rw [ha7] at hW
      have w_x11_6 : m7 1106 = .int x11_6 := (ho7 1106 rfl).trans w_x11_6
      have w_x11_7 : m7 1107 = .int x11_7 := (ho7 1107 rfl).trans w_x11_7
      have w_x24_3 : m7 2403 = .int r7.2.1 := hp7_x24_3
      have w_x24_4 : m7 2404 = .int r7.2.2 := hp7_x24_4
      have hoff := offm hoff ho7 (by decide +kernel)
      have hsh := SH.off hsh ho7 (by decide +kernel)
      refine g_Vv (n := 3) hx hb hml hown hG hW hS [.int r1.1, .int r6.1, .int r7.1] (kX8_add hN hsh w_x11_6 h_A13 h_A15 h_A17 r1.1 r6.1 r7.1) (ltN hN 11 rfl) gk11 (by decide) rfl rfl (gd_V gx1247 gx1179 gx1180 gx27 gx1181) rfl rfl (by decide) ⟨Nat.le_of_ble_eq_true rfl, Nat.le_of_ble_eq_true rfl⟩ rfl hl (Nat.le_of_ble_eq_true rfl) ⟨Nat.zero_le _, Nat.zero_le _⟩ dX10_readStep_84 (fun m8 a8 H locs hp8 hW hS => ?_)
      obtain ⟨hp8_x11_6, ho8, hp8_A13, hp8_A15, hp8_A17, hoa8⟩ := hp8
      have w_x11_6 : m8 1106 = .int ((fX8_add x11_6 A13 A15 A17 r1.1 r6.1 r7.1).1) := hp8_x11_6
      have w_x11_7 : m8 1107 = .int x11_7 := (ho8 1107 rfl).trans w_x11_7
      have w_x24_3 : m8 2403 = .int r7.2.1 := (ho8 2403 rfl).trans w_x24_3
      have w_x24_4 : m8 2404 = .int r7.2.2 := (ho8 2404 rfl).trans w_x24_4
      have hoff := offm hoff ho8 (by decide +kernel)
      have hsh := SH.off hsh ho8 (by decide +kernel)
      have w_A13 : a8 13 = (64, .inl ((fX8_add x11_6 A13 A15 A17 r1.1 r6.1 r7.1).2.1)) := hp8_A13
      have w_A15 : a8 15 = (64, .inl ((fX8_add x11_6 A13 A15 A17 r1.1 r6.1 r7.1).2.2.1)) := hp8_A15
      have w_A17 : a8 17 = (64, .inl ((fX8_add x11_6 A13 A15 A17 r1.1 r6.1 r7.1).2.2.2)) := hp8_A17
      have w_A19 : a8 19 = (4, .inl A19) := (hoa8 19 rfl).trans h_A19
      have hoffa := offm hoffa hoa8 (by decide +kernel)
      refine lv_goto (tgt := 138) hx hb dX10_readStep_87 (by decide) ?_
      exact hJ138_0 ((fX8_add x11_6 A13 A15 A17 r1.1 r6.1 r7.1).1) x11_7 r7.2.1 r7.2.2 ((fX8_add x11_6 A13 A15 A17 r1.1 r6.1 r7.1).2.1) ((fX8_add x11_6 A13 A15 A17 r1.1 r6.1 r7.1).2.2.1) ((fX8_add x11_6 A13 A15 A17 r1.1 r6.1 r7.1).2.2.2) A19 m8 a8 _ _ w_x11_6 w_x11_7 w_x24_3 w_x24_4 hoff hsh w_A13 w_A15 w_A17 w_A19 hoffa ls (lv_sub hl [2] rfl) hs0 hW hS
    · rw [if_neg c5] at hs0
      by_cases c9 : r1.1 = 2
      · rw [if_pos c9] at hs0
        refine lv_tableIn (tgt := 90) hx hb dX10_readStep_13 (by rw [c9]; decide) (by rw [c9]; decide) (by rw [c9]; rfl) (by decide) ?_
        refine lv_aload_n hx hb dX10_readStep_90 rfl (lv_at hl 4 rfl) ?_
        refine lv_iload hx hb dX10_readStep_91 (lv_at hl 0 rfl) ?_
        refine lv_aload_n hx hb dX10_readStep_93 rfl (lv_at hl 2 rfl) ?_
        refine lv_iconst (v := 0) hx hb dX10_readStep_94 (by decide) ?_
        refine lv_iload_n hx hb dX10_readStep_95 rfl (lv_at hl 3 rfl) ?_
        refine lv_iconst (v := 1) hx hb dX10_readStep_96 (by decide) ?_
        refine lv_isub hx hb dX10_readStep_97 ?_
        obtain ⟨r10, hf10, hs0⟩ := obind hs0
        refine g_Vi (n := 2) hx hb hml hown hG hW hS [.int 0, .int (p1 - 1)] (kX10_readNumber hN hsh ((hoff 2402 rfl).trans h_x24_2) ((hoffa 26 rfl).trans h_A26) w_x24_3 w_x24_4 F 0 (p1 - 1) hf10) (ltN hN 24 rfl) gk24 (by decide) rfl rfl (gd_V gx1248 gx1249 gx1250 gx31 gx1251) rfl rfl (by decide) ⟨Nat.le_of_ble_eq_true rfl, Nat.le_of_ble_eq_true rfl⟩ rfl hl (Nat.le_of_ble_eq_true rfl) ⟨Nat.zero_le _, Nat.zero_le _⟩ dX10_readStep_98 (fun x10 m10 a10 H locs hp10 hW hS => ?_)
        obtain ⟨hx10, hp10_x24_3, hp10_x24_4, ho10, ha10⟩ := hp10
        subst hx10
        rw [ha10] at hW
        have w_x11_6 : m10 1106 = .int x11_6 := (ho10 1106 rfl).trans w_x11_6
        have w_x11_7 : m10 1107 = .int x11_7 := (ho10 1107 rfl).trans w_x11_7
        have w_x24_3 : m10 2403 = .int r10.2.1 := hp10_x24_3
        have w_x24_4 : m10 2404 = .int r10.2.2 := hp10_x24_4
        have hoff := offm hoff ho10 (by decide +kernel)
        have hsh := SH.off hsh ho10 (by decide +kernel)
        refine lv_iconst (v := 0) hx hb dX10_readStep_101 (by decide) ?_
        refine g_Vv (n := 3) hx hb hml hown hG hW hS [.int r1.1, .int r10.1, .int 0] (kX8_add hN hsh w_x11_6 h_A13 h_A15 h_A17 r1.1 r10.1 0) (ltN hN 11 rfl) gk11 (by decide) rfl rfl (gd_V gx1247 gx1179 gx1180 gx27 gx1181) rfl rfl (by decide) ⟨Nat.le_of_ble_eq_true rfl, Nat.le_of_ble_eq_true rfl⟩ rfl hl (Nat.le_of_ble_eq_true rfl) ⟨Nat.zero_le _, Nat.zero_le _⟩ dX10_readStep_102 (fun m11 a11 H locs hp11 hW hS => ?_)
        obtain ⟨hp11_x11_6, ho11, hp11_A13, hp11_A15, hp11_A17, hoa11⟩ := hp11
        have w_x11_6 : m11 1106 = .int ((fX8_add x11_6 A13 A15 A17 r1.1 r10.1 0).1) := hp11_x11_6
        have w_x11_7 : m11 1107 = .int x11_7 := (ho11 1107 rfl).trans w_x11_7
        have w_x24_3 : m11 2403 = .int r10.2.1 := (ho11 2403 rfl).trans w_x24_3
        have w_x24_4 : m11 2404 = .int r10.2.2 := (ho11 2404 rfl).trans w_x24_4
        have hoff := offm hoff ho11 (by decide +kernel)
        have hsh := SH.off hsh ho11 (by decide +kernel)
        have w_A13 : a11 13 = (64, .inl ((fX8_add x11_6 A13 A15 A17 r1.1 r10.1 0).2.1)) := hp11_A13
        have w_A15 : a11 15 = (64, .inl ((fX8_add x11_6 A13 A15 A17 r1.1 r10.1 0).2.2.1)) := hp11_A15
        have w_A17 : a11 17 = (64, .inl ((fX8_add x11_6 A13 A15 A17 r1.1 r10.1 0).2.2.2)) := hp11_A17
        have w_A19 : a11 19 = (4, .inl A19) := (hoa11 19 rfl).trans h_A19
        have hoffa := offm hoffa hoa11 (by decide +kernel)
        refine lv_goto (tgt := 138) hx hb dX10_readStep_105 (by decide) ?_
        exact hJ138_0 ((fX8_add x11_6 A13 A15 A17 r1.1 r10.1 0).1) x11_7 r10.2.1 r10.2.2 ((fX8_add x11_6 A13 A15 A17 r1.1 r10.1 0).2.1) ((fX8_add x11_6 A13 A15 A17 r1.1 r10.1 0).2.2.1) ((fX8_add x11_6 A13 A15 A17 r1.1 r10.1 0).2.2.2) A19 m11 a11 _ _ w_x11_6 w_x11_7 w_x24_3 w_x24_4 hoff hsh w_A13 w_A15 w_A17 w_A19 hoffa ls (lv_sub hl [2] rfl) hs0 hW hS
      · rw [if_neg c9] at hs0
        by_cases c12 : r1.1 = 3
        · rw [if_pos c12] at hs0
          refine lv_tableIn (tgt := 67) hx hb dX10_readStep_13 (by rw [c12]; decide) (by rw [c12]; decide) (by rw [c12]; rfl) (by decide) ?_
          refine lv_aload_n hx hb dX10_readStep_67 rfl (lv_at hl 4 rfl) ?_
          refine lv_iload hx hb dX10_readStep_68 (lv_at hl 0 rfl) ?_
          refine lv_aload_n hx hb dX10_readStep_70 rfl (lv_at hl 2 rfl) ?_
          refine lv_iconst (v := 0) hx hb dX10_readStep_71 (by decide) ?_
          refine lv_iload_n hx hb dX10_readStep_72 rfl (lv_at hl 3 rfl) ?_
          refine lv_iconst (v := 1) hx hb dX10_readStep_73 (by decide) ?_
          refine lv_isub hx hb dX10_readStep_74 ?_
          obtain ⟨r13, hf13, hs0⟩ := obind hs0
          refine g_Vi (n := 2) hx hb hml hown hG hW hS [.int 0, .int (p1 - 1)] (kX10_readNumber hN hsh ((hoff 2402 rfl).trans h_x24_2) ((hoffa 26 rfl).trans h_A26) w_x24_3 w_x24_4 F 0 (p1 - 1) hf13) (ltN hN 24 rfl) gk24 (by decide) rfl rfl (gd_V gx1248 gx1249 gx1250 gx31 gx1251) rfl rfl (by decide) ⟨Nat.le_of_ble_eq_true rfl, Nat.le_of_ble_eq_true rfl⟩ rfl hl (Nat.le_of_ble_eq_true rfl) ⟨Nat.zero_le _, Nat.zero_le _⟩ dX10_readStep_75 (fun x13 m13 a13 H locs hp13 hW hS => ?_)
          obtain ⟨hx13, hp13_x24_3, hp13_x24_4, ho13, ha13⟩ := hp13
          subst hx13
          rw [ha13] at hW
          have w_x11_6 : m13 1106 = .int x11_6 := (ho13 1106 rfl).trans w_x11_6
          have w_x11_7 : m13 1107 = .int x11_7 := (ho13 1107 rfl).trans w_x11_7
          have w_x24_3 : m13 2403 = .int r13.2.1 := hp13_x24_3
          have w_x24_4 : m13 2404 = .int r13.2.2 := hp13_x24_4
          have hoff := offm hoff ho13 (by decide +kernel)
          have hsh := SH.off hsh ho13 (by decide +kernel)
          refine lv_aload_n hx hb dX10_readStep_78 rfl (lv_at hl 2 rfl) ?_
          refine lv_iconst (v := 0) hx hb dX10_readStep_79 (by decide) ?_
          refine lv_iconst (v := 1) hx hb dX10_readStep_80 (by decide) ?_
          obtain ⟨r14, hf14, hs0⟩ := obind hs0
          refine g_Vi (n := 2) hx hb hml hown hG hW hS [.int 0, .int 1] (kX10_readNumber hN hsh ((hoff 2402 rfl).trans h_x24_2) ((hoffa 26 rfl).trans h_A26) w_x24_3 w_x24_4 F 0 1 hf14) (ltN hN 24 rfl) gk24 (by decide) rfl rfl (gd_V gx1248 gx1249 gx1250 gx31 gx1251) rfl rfl (by decide) ⟨Nat.le_of_ble_eq_true rfl, Nat.le_of_ble_eq_true rfl⟩ rfl hl (Nat.le_of_ble_eq_true rfl) ⟨Nat.zero_le _, Nat.zero_le _⟩ dX10_readStep_81 (fun x14 m14 a14 H locs hp14 hW hS => ?_)
          obtain ⟨hx14, hp14_x24_3, hp14_x24_4, ho14, ha14⟩ := hp14
          subst hx14
          rw [ha14] at hW
          have w_x11_6 : m14 1106 = .int x11_6 := (ho14 1106 rfl).trans w_x11_6
          have w_x11_7 : m14 1107 = .int x11_7 := (ho14 1107 rfl).trans w_x11_7
          have w_x24_3 : m14 2403 = .int r14.2.1 := hp14_x24_3
          have w_x24_4 : m14 2404 = .int r14.2.2 := hp14_x24_4
          have hoff := offm hoff ho14 (by decide +kernel)
          have hsh := SH.off hsh ho14 (by decide +kernel)
          refine g_Vv (n := 3) hx hb hml hown hG hW hS [.int r1.1, .int r13.1, .int r14.1] (kX8_add hN hsh w_x11_6 h_A13 h_A15 h_A17 r1.1 r13.1 r14.1) (ltN hN 11 rfl) gk11 (by decide) rfl rfl (gd_V gx1247 gx1179 gx1180 gx27 gx1181) rfl rfl (by decide) ⟨Nat.le_of_ble_eq_true rfl, Nat.le_of_ble_eq_true rfl⟩ rfl hl (Nat.le_of_ble_eq_true rfl) ⟨Nat.zero_le _, Nat.zero_le _⟩ dX10_readStep_84 (fun m15 a15 H locs hp15 hW hS => ?_)
          obtain ⟨hp15_x11_6, ho15, hp15_A13, hp15_A15, hp15_A17, hoa15⟩ := hp15
          have w_x11_6 : m15 1106 = .int ((fX8_add x11_6 A13 A15 A17 r1.1 r13.1 r14.1).1) := hp15_x11_6
          have w_x11_7 : m15 1107 = .int x11_7 := (ho15 1107 rfl).trans w_x11_7
          have w_x24_3 : m15 2403 = .int r14.2.1 := (ho15 2403 rfl).trans w_x24_3
          have w_x24_4 : m15 2404 = .int r14.2.2 := (ho15 2404 rfl).trans w_x24_4
          have hoff := offm hoff ho15 (by decide +kernel)
          have hsh := SH.off hsh ho15 (by decide +kernel)
          have w_A13 : a15 13 = (64, .inl ((fX8_add x11_6 A13 A15 A17 r1.1 r13.1 r14.1).2.1)) := hp15_A13
          have w_A15 : a15 15 = (64, .inl ((fX8_add x11_6 A13 A15 A17 r1.1 r13.1 r14.1).2.2.1)) := hp15_A15
          have w_A17 : a15 17 = (64, .inl ((fX8_add x11_6 A13 A15 A17 r1.1 r13.1 r14.1).2.2.2)) := hp15_A17
          have w_A19 : a15 19 = (4, .inl A19) := (hoa15 19 rfl).trans h_A19
          have hoffa := offm hoffa hoa15 (by decide +kernel)
          refine lv_goto (tgt := 138) hx hb dX10_readStep_87 (by decide) ?_
          exact hJ138_0 ((fX8_add x11_6 A13 A15 A17 r1.1 r13.1 r14.1).1) x11_7 r14.2.1 r14.2.2 ((fX8_add x11_6 A13 A15 A17 r1.1 r13.1 r14.1).2.1) ((fX8_add x11_6 A13 A15 A17 r1.1 r13.1 r14.1).2.2.1) ((fX8_add x11_6 A13 A15 A17 r1.1 r13.1 r14.1).2.2.2) A19 m15 a15 _ _ w_x11_6 w_x11_7 w_x24_3 w_x24_4 hoff hsh w_A13 w_A15 w_A17 w_A19 hoffa ls (lv_sub hl [2] rfl) hs0 hW hS
        · rw [if_neg c12] at hs0
          by_cases c16 : r1.1 = 4
          · rw [if_pos c16] at hs0
            refine lv_tableIn (tgt := 90) hx hb dX10_readStep_13 (by rw [c16]; decide) (by rw [c16]; decide) (by rw [c16]; rfl) (by decide) ?_
            refine lv_aload_n hx hb dX10_readStep_90 rfl (lv_at hl 4 rfl) ?_
            refine lv_iload hx hb dX10_readStep_91 (lv_at hl 0 rfl) ?_
            refine lv_aload_n hx hb dX10_readStep_93 rfl (lv_at hl 2 rfl) ?_
            refine lv_iconst (v := 0) hx hb dX10_readStep_94 (by decide) ?_
            refine lv_iload_n hx hb dX10_readStep_95 rfl (lv_at hl 3 rfl) ?_
            refine lv_iconst (v := 1) hx hb dX10_readStep_96 (by decide) ?_
            refine lv_isub hx hb dX10_readStep_97 ?_
            obtain ⟨r17, hf17, hs0⟩ := obind hs0
            refine g_Vi (n := 2) hx hb hml hown hG hW hS [.int 0, .int (p1 - 1)] (kX10_readNumber hN hsh ((hoff 2402 rfl).trans h_x24_2) ((hoffa 26 rfl).trans h_A26) w_x24_3 w_x24_4 F 0 (p1 - 1) hf17) (ltN hN 24 rfl) gk24 (by decide) rfl rfl (gd_V gx1248 gx1249 gx1250 gx31 gx1251) rfl rfl (by decide) ⟨Nat.le_of_ble_eq_true rfl, Nat.le_of_ble_eq_true rfl⟩ rfl hl (Nat.le_of_ble_eq_true rfl) ⟨Nat.zero_le _, Nat.zero_le _⟩ dX10_readStep_98 (fun x17 m17 a17 H locs hp17 hW hS => ?_)
            obtain ⟨hx17, hp17_x24_3, hp17_x24_4, ho17, ha17⟩ := hp17
            subst hx17
            rw [ha17] at hW
            have w_x11_6 : m17 1106 = .int x11_6 := (ho17 1106 rfl).trans w_x11_6
            have w_x11_7 : m17 1107 = .int x11_7 := (ho17 1107 rfl).trans w_x11_7
            have w_x24_3 : m17 2403 = .int r17.2.1 := hp17_x24_3
            have w_x24_4 : m17 2404 = .int r17.2.2 := hp17_x24_4
            have hoff := offm hoff ho17 (by decide +kernel)
            have hsh := SH.off hsh ho17 (by decide +kernel)
            refine lv_iconst (v := 0) hx hb dX10_readStep_101 (by decide) ?_
            refine g_Vv (n := 3) hx hb hml hown hG hW hS [.int r1.1, .int r17.1, .int 0] (kX8_add hN hsh w_x11_6 h_A13 h_A15 h_A17 r1.1 r17.1 0) (ltN hN 11 rfl) gk11 (by decide) rfl rfl (gd_V gx1247 gx1179 gx1180 gx27 gx1181) rfl rfl (by decide) ⟨Nat.le_of_ble_eq_true rfl, Nat.le_of_ble_eq_true rfl⟩ rfl hl (Nat.le_of_ble_eq_true rfl) ⟨Nat.zero_le _, Nat.zero_le _⟩ dX10_readStep_102 (fun m18 a18 H locs hp18 hW hS => ?_)
            obtain ⟨hp18_x11_6, ho18, hp18_A13, hp18_A15, hp18_A17, hoa18⟩ := hp18
            have w_x11_6 : m18 1106 = .int ((fX8_add x11_6 A13 A15 A17 r1.1 r17.1 0).1) := hp18_x11_6
            have w_x11_7 : m18 1107 = .int x11_7 := (ho18 1107 rfl).trans w_x11_7
            have w_x24_3 : m18 2403 = .int r17.2.1 := (ho18 2403 rfl).trans w_x24_3
            have w_x24_4 : m18 2404 = .int r17.2.2 := (ho18 2404 rfl).trans w_x24_4
            have hoff := offm hoff ho18 (by decide +kernel)
            have hsh := SH.off hsh ho18 (by decide +kernel)
            have w_A13 : a18 13 = (64, .inl ((fX8_add x11_6 A13 A15 A17 r1.1 r17.1 0).2.1)) := hp18_A13
            have w_A15 : a18 15 = (64, .inl ((fX8_add x11_6 A13 A15 A17 r1.1 r17.1 0).2.2.1)) := hp18_A15
            have w_A17 : a18 17 = (64, .inl ((fX8_add x11_6 A13 A15 A17 r1.1 r17.1 0).2.2.2)) := hp18_A17
            have w_A19 : a18 19 = (4, .inl A19) := (hoa18 19 rfl).trans h_A19
            have hoffa := offm hoffa hoa18 (by decide +kernel)
            refine lv_goto (tgt := 138) hx hb dX10_readStep_105 (by decide) ?_
            exact hJ138_0 ((fX8_add x11_6 A13 A15 A17 r1.1 r17.1 0).1) x11_7 r17.2.1 r17.2.2 ((fX8_add x11_6 A13 A15 A17 r1.1 r17.1 0).2.1) ((fX8_add x11_6 A13 A15 A17 r1.1 r17.1 0).2.2.1) ((fX8_add x11_6 A13 A15 A17 r1.1 r17.1 0).2.2.2) A19 m18 a18 _ _ w_x11_6 w_x11_7 w_x24_3 w_x24_4 hoff hsh w_A13 w_A15 w_A17 w_A19 hoffa ls (lv_sub hl [2] rfl) hs0 hW hS
          · rw [if_neg c16] at hs0
            by_cases c19 : r1.1 = 5
            · rw [if_pos c19] at hs0
              refine lv_tableIn (tgt := 108) hx hb dX10_readStep_13 (by rw [c19]; decide) (by rw [c19]; decide) (by rw [c19]; rfl) (by decide) ?_
              refine lv_aload_n hx hb dX10_readStep_108 rfl (lv_at hl 4 rfl) ?_
              refine lv_iload hx hb dX10_readStep_109 (lv_at hl 0 rfl) ?_
              refine lv_aload_n hx hb dX10_readStep_111 rfl (lv_at hl 2 rfl) ?_
              refine lv_iconst (v := 1) hx hb dX10_readStep_112 (by decide) ?_
              refine lv_bipush (v := 9) hx hb dX10_readStep_113 (by decide) ?_
              obtain ⟨r20, hf20, hs0⟩ := obind hs0
              refine g_Vi (n := 2) hx hb hml hown hG hW hS [.int 1, .int 9] (kX10_readNumber hN hsh ((hoff 2402 rfl).trans h_x24_2) ((hoffa 26 rfl).trans h_A26) w_x24_3 w_x24_4 F 1 9 hf20) (ltN hN 24 rfl) gk24 (by decide) rfl rfl (gd_V gx1248 gx1249 gx1250 gx31 gx1251) rfl rfl (by decide) ⟨Nat.le_of_ble_eq_true rfl, Nat.le_of_ble_eq_true rfl⟩ rfl hl (Nat.le_of_ble_eq_true rfl) ⟨Nat.zero_le _, Nat.zero_le _⟩ dX10_readStep_115 (fun x20 m20 a20 H locs hp20 hW hS => ?_)
              obtain ⟨hx20, hp20_x24_3, hp20_x24_4, ho20, ha20⟩ := hp20
              subst hx20
              rw [ha20] at hW
              have w_x11_6 : m20 1106 = .int x11_6 := (ho20 1106 rfl).trans w_x11_6
              have w_x11_7 : m20 1107 = .int x11_7 := (ho20 1107 rfl).trans w_x11_7
              have w_x24_3 : m20 2403 = .int r20.2.1 := hp20_x24_3
              have w_x24_4 : m20 2404 = .int r20.2.2 := hp20_x24_4
              have hoff := offm hoff ho20 (by decide +kernel)
              have hsh := SH.off hsh ho20 (by decide +kernel)
              refine lv_iconst (v := 0) hx hb dX10_readStep_118 (by decide) ?_
              refine g_Vv (n := 3) hx hb hml hown hG hW hS [.int r1.1, .int r20.1, .int 0] (kX8_add hN hsh w_x11_6 h_A13 h_A15 h_A17 r1.1 r20.1 0) (ltN hN 11 rfl) gk11 (by decide) rfl rfl (gd_V gx1247 gx1179 gx1180 gx27 gx1181) rfl rfl (by decide) ⟨Nat.le_of_ble_eq_true rfl, Nat.le_of_ble_eq_true rfl⟩ rfl hl (Nat.le_of_ble_eq_true rfl) ⟨Nat.zero_le _, Nat.zero_le _⟩ dX10_readStep_119 (fun m21 a21 H locs hp21 hW hS => ?_)
              obtain ⟨hp21_x11_6, ho21, hp21_A13, hp21_A15, hp21_A17, hoa21⟩ := hp21
              have w_x11_6 : m21 1106 = .int ((fX8_add x11_6 A13 A15 A17 r1.1 r20.1 0).1) := hp21_x11_6
              have w_x11_7 : m21 1107 = .int x11_7 := (ho21 1107 rfl).trans w_x11_7
              have w_x24_3 : m21 2403 = .int r20.2.1 := (ho21 2403 rfl).trans w_x24_3
              have w_x24_4 : m21 2404 = .int r20.2.2 := (ho21 2404 rfl).trans w_x24_4
              have hoff := offm hoff ho21 (by decide +kernel)
              have hsh := SH.off hsh ho21 (by decide +kernel)
              have w_A13 : a21 13 = (64, .inl ((fX8_add x11_6 A13 A15 A17 r1.1 r20.1 0).2.1)) := hp21_A13
              have w_A15 : a21 15 = (64, .inl ((fX8_add x11_6 A13 A15 A17 r1.1 r20.1 0).2.2.1)) := hp21_A15
              have w_A17 : a21 17 = (64, .inl ((fX8_add x11_6 A13 A15 A17 r1.1 r20.1 0).2.2.2)) := hp21_A17
              have w_A19 : a21 19 = (4, .inl A19) := (hoa21 19 rfl).trans h_A19
              have hoffa := offm hoffa hoa21 (by decide +kernel)
              refine lv_goto (tgt := 138) hx hb dX10_readStep_122 (by decide) ?_
              exact hJ138_0 ((fX8_add x11_6 A13 A15 A17 r1.1 r20.1 0).1) x11_7 r20.2.1 r20.2.2 ((fX8_add x11_6 A13 A15 A17 r1.1 r20.1 0).2.1) ((fX8_add x11_6 A13 A15 A17 r1.1 r20.1 0).2.2.1) ((fX8_add x11_6 A13 A15 A17 r1.1 r20.1 0).2.2.2) A19 m21 a21 _ _ w_x11_6 w_x11_7 w_x24_3 w_x24_4 hoff hsh w_A13 w_A15 w_A17 w_A19 hoffa ls (lv_sub hl [2] rfl) hs0 hW hS
            · rw [if_neg c19] at hs0
              by_cases c22 : r1.1 = 6
              · rw [if_pos c22] at hs0
                refine lv_tableIn (tgt := 125) hx hb dX10_readStep_13 (by rw [c22]; decide) (by rw [c22]; decide) (by rw [c22]; rfl) (by decide) ?_
                refine lv_aload_n hx hb dX10_readStep_125 rfl (lv_at hl 2 rfl) ?_
                refine lv_iload_n hx hb dX10_readStep_126 rfl (lv_at hl 1 rfl) ?_
                refine lv_aload_n hx hb dX10_readStep_127 rfl (lv_at hl 4 rfl) ?_
                obtain ⟨r23, hf23, hs0⟩ := obind hs0
                refine g_Vv (n := 2) hx hb hml hown hG hW hS [.int x24_3, .ref (q 11)] (kX10_readAgain hN hsh ((hoff 2402 rfl).trans h_x24_2) ((hoffa 26 rfl).trans h_A26) w_x11_6 w_x11_7 w_x24_3 w_x24_4 h_A13 h_A15 h_A17 h_A19 F x24_3 hf23) (ltN hN 24 rfl) gk24 (by decide) rfl rfl (gd_V gx1252 gx1253 gx1254 gx31 gx1255) rfl rfl (by decide) ⟨Nat.le_of_ble_eq_true rfl, Nat.le_of_ble_eq_true rfl⟩ rfl hl (Nat.le_of_ble_eq_true rfl) ⟨Nat.zero_le _, Nat.zero_le _⟩ dX10_readStep_128 (fun m23 a23 H locs hp23 hW hS => ?_)
                obtain ⟨hp23_x11_6, hp23_x11_7, hp23_x24_3, hp23_x24_4, ho23, hp23_A13, hp23_A15, hp23_A17, hp23_A19, hoa23⟩ := hp23
                have w_x11_6 : m23 1106 = .int r23.1 := hp23_x11_6
                have w_x11_7 : m23 1107 = .int r23.2.1 := hp23_x11_7
                have w_x24_3 : m23 2403 = .int r23.2.2.1 := hp23_x24_3
                have w_x24_4 : m23 2404 = .int r23.2.2.2.1 := hp23_x24_4
                have hoff := offm hoff ho23 (by decide +kernel)
                have hsh := SH.off hsh ho23 (by decide +kernel)
                have w_A13 : a23 13 = (64, .inl r23.2.2.2.2.1) := hp23_A13
                have w_A15 : a23 15 = (64, .inl r23.2.2.2.2.2.1) := hp23_A15
                have w_A17 : a23 17 = (64, .inl r23.2.2.2.2.2.2.1) := hp23_A17
                have w_A19 : a23 19 = (4, .inl r23.2.2.2.2.2.2.2) := hp23_A19
                have hoffa := offm hoffa hoa23 (by decide +kernel)
                have hs0 := Option.some.inj hs0
                subst hs0
                exact W.vret hx hb hr (fun t ht hw => ⟨⟨(m23, a23), rfl, ⟨w_x11_6, w_x11_7, w_x24_3, w_x24_4, hoff, w_A13, w_A15, w_A17, w_A19, hoffa⟩, g_end hW ht hw⟩, hS.F ht⟩) hS.2.2 dX10_readStep_131 hlocks
              · rw [if_neg c22] at hs0
                have n2 := ti_ne (n := 0) c2 (by decide)
                have n5 := ti_ne (n := 1) c5 (by decide)
                have n9 := ti_ne (n := 2) c9 (by decide)
                have n12 := ti_ne (n := 3) c12 (by decide)
                have n16 := ti_ne (n := 4) c16 (by decide)
                have n19 := ti_ne (n := 5) c19 (by decide)
                have n22 := ti_ne (n := 6) c22 (by decide)
                refine lv_tableOut (tgt := 132) hx hb dX10_readStep_13 (by omega) (by decide) ?_
                refine lv_aload_n hx hb dX10_readStep_132 rfl (lv_at hl 2 rfl) ?_
                refine lv_iload_n hx hb dX10_readStep_133 rfl (lv_at hl 1 rfl) ?_
                refine lv_iconst (v := 1) hx hb dX10_readStep_134 (by decide) ?_
                refine g_Vv (n := 2) hx hb hml hown hG hW hS [.int x24_3, .int 1] (kX10_blame hN hsh w_x24_4 x24_3 1) (ltN hN 24 rfl) gk24 (by decide) rfl rfl (gd_V gx1167 gx1168 gx1169 gx31 gx1170) rfl rfl (by decide) ⟨Nat.le_of_ble_eq_true rfl, Nat.le_of_ble_eq_true rfl⟩ rfl hl (Nat.le_of_ble_eq_true rfl) ⟨Nat.zero_le _, Nat.zero_le _⟩ dX10_readStep_135 (fun m24 a24 H locs hp24 hW hS => ?_)
                obtain ⟨hp24_x24_4, ho24, ha24⟩ := hp24
                rw [ha24] at hW
                have w_x11_6 : m24 1106 = .int x11_6 := (ho24 1106 rfl).trans w_x11_6
                have w_x11_7 : m24 1107 = .int x11_7 := (ho24 1107 rfl).trans w_x11_7
                have w_x24_3 : m24 2403 = .int r1.2 := (ho24 2403 rfl).trans w_x24_3
                have w_x24_4 : m24 2404 = .int (fX10_blame x24_4 x24_3 1) := hp24_x24_4
                have hoff := offm hoff ho24 (by decide +kernel)
                have hsh := SH.off hsh ho24 (by decide +kernel)
                exact hJ138_0 x11_6 x11_7 r1.2 (fX10_blame x24_4 x24_3 1) A13 A15 A17 A19 m24 a0 _ _ w_x11_6 w_x11_7 w_x24_3 w_x24_4 hoff hsh h_A13 h_A15 h_A17 h_A19 hoffa ls (lv_sub hl [2] rfl) hs0 hW hS
-- HealLink$Tape.read (IILHealLink$Steps;)I
def fX10_read_J82 (F : Nat) (A26 : Nat → Int32) (v2 : Int32) (v4j13 : Int32) (x11_6j13 : Int32) (x11_7j13 : Int32) (x24_2 : Int32) (x24_3j13 : Int32) (x24_4j13 : Int32) (A13j13 : Nat → Int32) (A15j13 : Nat → Int32) (A17j13 : Nat → Int32) (A19j13 : Nat → Int32) : Option ((Int32 × Int32 × Int32 × Int32 × (Nat → Int32) × (Nat → Int32) × (Nat → Int32) × (Nat → Int32)) ⊕ (Int32 × Int32 × Int32 × Int32 × Int32 × (Nat → Int32) × (Nat → Int32) × (Nat → Int32) × (Nat → Int32))) := ((fX10_skipBlanks F x24_2 A26 x24_3j13).bind (fun r15 => some (Sum.inr (v4j13 + 1, x11_6j13, x11_7j13, r15, x24_4j13, A13j13, A15j13, A17j13, A19j13))))
def fX10_read_S32 (F : Nat) (A26 : Nat → Int32) (v2 : Int32) (x24_2 : Int32) (v4 : Int32) (x11_6 : Int32) (x11_7 : Int32) (x24_3 : Int32) (x24_4 : Int32) (A13 : Nat → Int32) (A15 : Nat → Int32) (A17 : Nat → Int32) (A19 : Nat → Int32) : Option ((Int32 × Int32 × Int32 × Int32 × (Nat → Int32) × (Nat → Int32) × (Nat → Int32) × (Nat → Int32)) ⊕ (Int32 × Int32 × Int32 × Int32 × Int32 × (Nat → Int32) × (Nat → Int32) × (Nat → Int32) × (Nat → Int32))) := (if 264 ≤ v4 then some (Sum.inl (x11_6, x11_7, x24_3, x24_4, A13, A15, A17, A19)) else (if x24_2 ≤ x24_3 then some (Sum.inl (x11_6, x11_7, x24_3, x24_4, A13, A15, A17, A19)) else (if x24_4 = (-1) then (if (fX10_peek x24_2 x24_3 A26) = 93 then ((fX10_readClose F x24_2 A19 A26 x11_6 x11_7 x24_3 x24_4 A13 A15 A17).bind (fun r14 => fX10_read_J82 F A26 v2 v4 r14.1 r14.2.1 x24_2 r14.2.2.1 r14.2.2.2.1 r14.2.2.2.2.1 r14.2.2.2.2.2.1 r14.2.2.2.2.2.2 A19)) else ((fX10_readStep F x24_2 A26 x11_6 x11_7 x24_3 x24_4 A13 A15 A17 A19 v2).bind (fun r12 => fX10_read_J82 F A26 v2 v4 r12.1 r12.2.1 x24_2 r12.2.2.1 r12.2.2.2.1 r12.2.2.2.2.1 r12.2.2.2.2.2.1 r12.2.2.2.2.2.2.1 r12.2.2.2.2.2.2.2))) else some (Sum.inl (x11_6, x11_7, x24_3, x24_4, A13, A15, A17, A19)))))
def fX10_read_J92 (F : Nat) (A26 : Nat → Int32) (x11_6j16 : Int32) (x11_7j16 : Int32) (x24_2j16 : Int32) (x24_3j16 : Int32) (x24_4j16 : Int32) (A13j16 : Nat → Int32) (A15j16 : Nat → Int32) (A17j16 : Nat → Int32) (A19j16 : Nat → Int32) : Option (Int32 × Int32 × Int32 × Int32 × Int32 × Int32 × (Nat → Int32) × (Nat → Int32) × (Nat → Int32) × (Nat → Int32)) := (if (fX8_mayClose x11_7j16) = 0 then some (x24_4j16, x11_6j16, x11_7j16, x24_2j16, x24_3j16, x24_4j16, A13j16, A15j16, A17j16, A19j16) else some ((fX10_blame x24_4j16 x24_3j16 1), x11_6j16, x11_7j16, x24_2j16, x24_3j16, (fX10_blame x24_4j16 x24_3j16 1), A13j16, A15j16, A17j16, A19j16))
def fX10_read (F : Nat) (A26 : Nat → Int32) (x11_6 : Int32) (x11_7 : Int32) (x24_2 : Int32) (x24_3 : Int32) (x24_4 : Int32) (A13 : Nat → Int32) (A15 : Nat → Int32) (A17 : Nat → Int32) (A19 : Nat → Int32) (p1 : Int32) (p2 : Int32) : Option (Int32 × Int32 × Int32 × Int32 × Int32 × Int32 × (Nat → Int32) × (Nat → Int32) × (Nat → Int32) × (Nat → Int32)) := ((fX10_skipBlanks F (if 264 < p1 then 264 else p1) A26 0).bind (fun r5 => (gloop (fun u6 : (Int32 × Int32 × Int32 × Int32 × Int32 × (Nat → Int32) × (Nat → Int32) × (Nat → Int32) × (Nat → Int32)) => fX10_read_S32 F A26 p2 (if 264 < p1 then 264 else p1) u6.1 u6.2.1 u6.2.2.1 u6.2.2.2.1 u6.2.2.2.2.1 u6.2.2.2.2.2.1 u6.2.2.2.2.2.2.1 u6.2.2.2.2.2.2.2.1 u6.2.2.2.2.2.2.2.2) F (0, (fX8_empty x11_6 x11_7).1, (fX8_empty x11_6 x11_7).2, r5, (-1), A13, A15, A17, A19)).bind (fun t6_92 => fX10_read_J92 F A26 t6_92.1 t6_92.2.1 (if 264 < p1 then 264 else p1) t6_92.2.2.1 t6_92.2.2.2.1 t6_92.2.2.2.2.1 t6_92.2.2.2.2.2.1 t6_92.2.2.2.2.2.2.1 t6_92.2.2.2.2.2.2.2)))
theorem dX10_read_0 : decode cX10_read 0 = .ok (.aload_n 0, 1) := by decide +kernel
theorem dX10_read_1 : decode cX10_read 1 = .ok (.iload_n 1, 1) := by decide +kernel
theorem dX10_read_2 : decode cX10_read 2 = .ok (.sipush 264, 3) := by decide +kernel
theorem dX10_read_5 : decode cX10_read 5 = .ok (.invokestatic 28, 3) := by decide +kernel
theorem dX10_read_8 : decode cX10_read 8 = .ok (.putfield 34, 3) := by decide +kernel
theorem dX10_read_11 : decode cX10_read 11 = .ok (.aload_n 0, 1) := by decide +kernel
theorem dX10_read_12 : decode cX10_read 12 = .ok (.iconst 0, 1) := by decide +kernel
theorem dX10_read_13 : decode cX10_read 13 = .ok (.putfield 37, 3) := by decide +kernel
theorem dX10_read_16 : decode cX10_read 16 = .ok (.aload_n 0, 1) := by decide +kernel
theorem dX10_read_17 : decode cX10_read 17 = .ok (.iconst (-1), 1) := by decide +kernel
theorem dX10_read_18 : decode cX10_read 18 = .ok (.putfield 40, 3) := by decide +kernel
theorem dX10_read_21 : decode cX10_read 21 = .ok (.aload_n 3, 1) := by decide +kernel
theorem dX10_read_22 : decode cX10_read 22 = .ok (.invokevirtual 43, 3) := by decide +kernel
theorem dX10_read_25 : decode cX10_read 25 = .ok (.aload_n 0, 1) := by decide +kernel
theorem dX10_read_26 : decode cX10_read 26 = .ok (.invokevirtual 48, 3) := by decide +kernel
theorem dX10_read_29 : decode cX10_read 29 = .ok (.iconst 0, 1) := by decide +kernel
theorem dX10_read_30 : decode cX10_read 30 = .ok (.istore 4, 2) := by decide +kernel
theorem dX10_read_32 : decode cX10_read 32 = .ok (.iload 4, 2) := by decide +kernel
theorem dX10_read_34 : decode cX10_read 34 = .ok (.sipush 264, 3) := by decide +kernel
theorem dX10_read_37 : decode cX10_read 37 = .ok (.if_icmp .ge 55, 3) := by decide +kernel
theorem dX10_read_40 : decode cX10_read 40 = .ok (.aload_n 0, 1) := by decide +kernel
theorem dX10_read_41 : decode cX10_read 41 = .ok (.getfield 37, 3) := by decide +kernel
theorem dX10_read_44 : decode cX10_read 44 = .ok (.aload_n 0, 1) := by decide +kernel
theorem dX10_read_45 : decode cX10_read 45 = .ok (.getfield 34, 3) := by decide +kernel
theorem dX10_read_48 : decode cX10_read 48 = .ok (.if_icmp .ge 44, 3) := by decide +kernel
theorem dX10_read_51 : decode cX10_read 51 = .ok (.aload_n 0, 1) := by decide +kernel
theorem dX10_read_52 : decode cX10_read 52 = .ok (.getfield 40, 3) := by decide +kernel
theorem dX10_read_55 : decode cX10_read 55 = .ok (.iconst (-1), 1) := by decide +kernel
theorem dX10_read_56 : decode cX10_read 56 = .ok (.if_icmp .ne 36, 3) := by decide +kernel
theorem dX10_read_59 : decode cX10_read 59 = .ok (.aload_n 0, 1) := by decide +kernel
theorem dX10_read_60 : decode cX10_read 60 = .ok (.invokevirtual 51, 3) := by decide +kernel
theorem dX10_read_63 : decode cX10_read 63 = .ok (.bipush 93, 2) := by decide +kernel
theorem dX10_read_65 : decode cX10_read 65 = .ok (.if_icmp .ne 11, 3) := by decide +kernel
theorem dX10_read_68 : decode cX10_read 68 = .ok (.aload_n 0, 1) := by decide +kernel
theorem dX10_read_69 : decode cX10_read 69 = .ok (.aload_n 3, 1) := by decide +kernel
theorem dX10_read_70 : decode cX10_read 70 = .ok (.invokevirtual 55, 3) := by decide +kernel
theorem dX10_read_73 : decode cX10_read 73 = .ok (.goto 9, 3) := by decide +kernel
theorem dX10_read_76 : decode cX10_read 76 = .ok (.aload_n 0, 1) := by decide +kernel
theorem dX10_read_77 : decode cX10_read 77 = .ok (.iload_n 2, 1) := by decide +kernel
theorem dX10_read_78 : decode cX10_read 78 = .ok (.aload_n 3, 1) := by decide +kernel
theorem dX10_read_79 : decode cX10_read 79 = .ok (.invokevirtual 59, 3) := by decide +kernel
theorem dX10_read_82 : decode cX10_read 82 = .ok (.aload_n 0, 1) := by decide +kernel
theorem dX10_read_83 : decode cX10_read 83 = .ok (.invokevirtual 48, 3) := by decide +kernel
theorem dX10_read_86 : decode cX10_read 86 = .ok (.iinc 4 1, 3) := by decide +kernel
theorem dX10_read_89 : decode cX10_read 89 = .ok (.goto (-57), 3) := by decide +kernel
theorem dX10_read_92 : decode cX10_read 92 = .ok (.aload_n 3, 1) := by decide +kernel
theorem dX10_read_93 : decode cX10_read 93 = .ok (.invokevirtual 63, 3) := by decide +kernel
theorem dX10_read_96 : decode cX10_read 96 = .ok (.ifCond .eq 12, 3) := by decide +kernel
theorem dX10_read_99 : decode cX10_read 99 = .ok (.aload_n 0, 1) := by decide +kernel
theorem dX10_read_100 : decode cX10_read 100 = .ok (.aload_n 0, 1) := by decide +kernel
theorem dX10_read_101 : decode cX10_read 101 = .ok (.getfield 37, 3) := by decide +kernel
theorem dX10_read_104 : decode cX10_read 104 = .ok (.iconst 1, 1) := by decide +kernel
theorem dX10_read_105 : decode cX10_read 105 = .ok (.invokevirtual 67, 3) := by decide +kernel
theorem dX10_read_108 : decode cX10_read 108 = .ok (.aload_n 0, 1) := by decide +kernel
theorem dX10_read_109 : decode cX10_read 109 = .ok (.getfield 40, 3) := by decide +kernel
theorem dX10_read_112 : decode cX10_read 112 = .ok (.ireturn, 1) := by decide +kernel
set_option maxHeartbeats 4000000 in
set_option maxRecDepth 100000 in
theorem kX10_read {l : Launch} {D : va_G} {cy : Nat → ClassId} {N : Nat} {q : Nat → Nat} {sa sv : Nat → Nat} {m0 : Nat → Value} {a0 : Nat → vp_A} {sz : Nat} (hN : 105 ≤ N) (hsh : SH q m0) {A26 : Nat → Int32} (h_A26 : a0 26 = (264, .inl A26)) {x11_6 : Int32} (h_x11_6 : m0 1106 = .int x11_6) {x11_7 : Int32} (h_x11_7 : m0 1107 = .int x11_7) {x24_2 : Int32} (h_x24_2 : m0 2402 = .int x24_2) {x24_3 : Int32} (h_x24_3 : m0 2403 = .int x24_3) {x24_4 : Int32} (h_x24_4 : m0 2404 = .int x24_4) {A13 : Nat → Int32} (h_A13 : a0 13 = (64, .inl A13)) {A15 : Nat → Int32} (h_A15 : a0 15 = (64, .inl A15)) {A17 : Nat → Int32} (h_A17 : a0 17 = (64, .inl A17)) {A19 : Nat → Int32} (h_A19 : a0 19 = (4, .inl A19)) (F : Nat) (p1 : Int32) (p2 : Int32) {X0 : Int32 × Int32 × Int32 × Int32 × Int32 × Int32 × (Nat → Int32) × (Nat → Int32) × (Nat → Int32) × (Nat → Int32)} (hs0 : fX10_read F A26 x11_6 x11_7 x24_2 x24_3 x24_4 A13 A15 A17 A19 p1 p2 = some X0) : eMi l yX10_read cX10_read 5 (some .int) ({ frames := 7, cells := 0, slots := 0, locals := 153 } : Room) D cy N q m0 a0 sz [.ref (q 24), .int p1, .int p2, .ref (q 11)] (XS sa sv) (fun r m' a' => r = X0.1 ∧ m' 1106 = .int X0.2.1 ∧ m' 1107 = .int X0.2.2.1 ∧ m' 2402 = .int X0.2.2.2.1 ∧ m' 2403 = .int X0.2.2.2.2.1 ∧ m' 2404 = .int X0.2.2.2.2.2.1 ∧ (∀ j, nel j [1106, 1107, 2402, 2403, 2404] = false → m' j = m0 j) ∧ a' 13 = (64, .inl X0.2.2.2.2.2.2.1) ∧ a' 15 = (64, .inl X0.2.2.2.2.2.2.2.1) ∧ a' 17 = (64, .inl X0.2.2.2.2.2.2.2.2.1) ∧ a' 19 = (4, .inl X0.2.2.2.2.2.2.2.2.2) ∧ (∀ j, nel j [13, 15, 17, 19] = false → a' j = a0 j)) := by
  refine e_ofi (by decide) (Nat.le_of_ble_eq_true rfl) ?_
  intro p e s M args below meth c hx hb hr hG hown hin hlocks hml hW hS hE ls hl
  unfold fX10_read at hs0
  have hoff : ∀ j, nel j [1106, 1107, 2402, 2403, 2404] = false → m0 j = m0 j := off0
  have hoffa : ∀ j, nel j [13, 15, 17, 19] = false → a0 j = a0 j := off0
  have hJ92_0 : ∀ (x11_6j16 : Int32) (x11_7j16 : Int32) (x24_2j16 : Int32) (x24_3j16 : Int32) (x24_4j16 : Int32) (A13j16 : Nat → Int32) (A15j16 : Nat → Int32) (A17j16 : Nat → Int32) (A19j16 : Nat → Int32) (m : Nat → Value) (a : Nat → vp_A) (H : Heap) (locs : List Loc) (w_x11_6 : m 1106 = .int x11_6j16) (w_x11_7 : m 1107 = .int x11_7j16) (w_x24_2 : m 2402 = .int x24_2j16) (w_x24_3 : m 2403 = .int x24_3j16) (w_x24_4 : m 2404 = .int x24_4j16) (hoff : ∀ j, nel j [1106, 1107, 2402, 2403, 2404] = false → m j = m0 j) (hsh : SH q m) (w_A13 : a 13 = (64, .inl A13j16)) (w_A15 : a 15 = (64, .inl A15j16)) (w_A17 : a 17 = (64, .inl A17j16)) (w_A19 : a 19 = (4, .inl A19j16)) (hoffa : ∀ j, nel j [13, 15, 17, 19] = false → a j = a0 j) (ls : Array Slot) (hl : lv_has ls 5 [(0, .ref (q 24)), (3, .ref (q 11))]) (hs0 : fX10_read_J92 F A26 x11_6j16 x11_7j16 x24_2j16 x24_3j16 x24_4j16 A13j16 A15j16 A17j16 A19j16 = some X0) (hW : GW D cy (gA N q s.heap.size) N q m a s H) (hS : va_S (gA N q s.heap.size) s.heap H locs), W p l e ({ frames := 7, cells := 0, slots := 0, locals := 153 } : Room) s M args below meth c H locs 0 0 (MQ below (va_Qi (fun (r : Int32) (u : (Nat → Value) × (Nat → vp_A)) => r = X0.1 ∧ u.1 1106 = .int X0.2.1 ∧ u.1 1107 = .int X0.2.2.1 ∧ u.1 2402 = .int X0.2.2.2.1 ∧ u.1 2403 = .int X0.2.2.2.2.1 ∧ u.1 2404 = .int X0.2.2.2.2.2.1 ∧ (∀ j, nel j [1106, 1107, 2402, 2403, 2404] = false → u.1 j = m0 j) ∧ u.2 13 = (64, .inl X0.2.2.2.2.2.2.1) ∧ u.2 15 = (64, .inl X0.2.2.2.2.2.2.2.1) ∧ u.2 17 = (64, .inl X0.2.2.2.2.2.2.2.2.1) ∧ u.2 19 = (4, .inl X0.2.2.2.2.2.2.2.2.2) ∧ (∀ j, nel j [13, 15, 17, 19] = false → u.2 j = a0 j)) (gB D cy N q s.heap.size) (gA N q s.heap.size)) args s 0 0 (gA N q s.heap.size)) (F0 M 92 ls []) := by
    intro x11_6j16 x11_7j16 x24_2j16 x24_3j16 x24_4j16 A13j16 A15j16 A17j16 A19j16 m a H locs w_x11_6 w_x11_7 w_x24_2 w_x24_3 w_x24_4 hoff hsh w_A13 w_A15 w_A17 w_A19 hoffa ls hl hs0 hW hS
    unfold fX10_read_J92 at hs0
    refine lv_aload_n hx hb dX10_read_92 rfl (lv_at hl 1 rfl) ?_
    refine g_ViR (n := 0) hx hb hml hown hG hW hS [] (kX8_mayClose hN w_x11_7) (ltN hN 11 rfl) gk11 (by decide) rfl rfl (gd_V gx1163 gx1164 gx1165 gx27 gx1166) rfl rfl (by decide) ⟨Nat.le_of_ble_eq_true rfl, Nat.le_of_ble_eq_true rfl⟩ rfl hl (Nat.le_of_ble_eq_true rfl) ⟨Nat.zero_le _, Nat.zero_le _⟩ dX10_read_93 (fun H locs hW hS => ?_)
    refine lv_if_eq (tgt := 108) hx hb dX10_read_96 (by decide) (fun c27 => ?_) (fun c27 => ?_)
    · rw [if_pos c27] at hs0
      refine lv_aload_n hx hb dX10_read_108 rfl (lv_at hl 0 rfl) ?_
      refine gf10_4 hx hb hG hown hW (o := 24) (ltN hN 24 rfl) gk24 (v := .int x24_4j16) w_x24_4 gx1143 dX10_read_109 ?_
      have hs0 := Option.some.inj hs0
      subst hs0
      exact W.zret hx hb hr rfl (fun t ht hw => ⟨⟨_, (m, a), rfl, ⟨rfl, w_x11_6, w_x11_7, w_x24_2, w_x24_3, w_x24_4, hoff, w_A13, w_A15, w_A17, w_A19, hoffa⟩, g_end hW ht hw⟩, hS.F ht⟩) hS.2.2 dX10_read_112 hlocks
    · rw [if_neg c27] at hs0
      refine lv_aload_n hx hb dX10_read_99 rfl (lv_at hl 0 rfl) ?_
      refine lv_aload_n hx hb dX10_read_100 rfl (lv_at hl 0 rfl) ?_
      refine gf10_3 hx hb hG hown hW (o := 24) (ltN hN 24 rfl) gk24 (v := .int x24_3j16) w_x24_3 gx1142 dX10_read_101 ?_
      refine lv_iconst (v := 1) hx hb dX10_read_104 (by decide) ?_
      refine g_Vv (n := 2) hx hb hml hown hG hW hS [.int x24_3j16, .int 1] (kX10_blame hN hsh w_x24_4 x24_3j16 1) (ltN hN 24 rfl) gk24 (by decide) rfl rfl (gd_V gx1167 gx1168 gx1169 gx31 gx1170) rfl rfl (by decide) ⟨Nat.le_of_ble_eq_true rfl, Nat.le_of_ble_eq_true rfl⟩ rfl hl (Nat.le_of_ble_eq_true rfl) ⟨Nat.zero_le _, Nat.zero_le _⟩ dX10_read_105 (fun m28 a28 H locs hp28 hW hS => ?_)
      obtain ⟨hp28_x24_4, ho28, ha28⟩ := hp28
      rw [ha28] at hW
      have w_x11_6 : m28 1106 = .int x11_6j16 := (ho28 1106 rfl).trans w_x11_6
      have w_x11_7 : m28 1107 = .int x11_7j16 := (ho28 1107 rfl).trans w_x11_7
      have w_x24_2 : m28 2402 = .int x24_2j16 := (ho28 2402 rfl).trans w_x24_2
      have w_x24_3 : m28 2403 = .int x24_3j16 := (ho28 2403 rfl).trans w_x24_3
      have w_x24_4 : m28 2404 = .int (fX10_blame x24_4j16 x24_3j16 1) := hp28_x24_4
      have hoff := offm hoff ho28 (by decide +kernel)
      have hsh := SH.off hsh ho28 (by decide +kernel)
      refine lv_aload_n hx hb dX10_read_108 rfl (lv_at hl 0 rfl) ?_
      refine gf10_4 hx hb hG hown hW (o := 24) (ltN hN 24 rfl) gk24 (v := .int (fX10_blame x24_4j16 x24_3j16 1)) w_x24_4 gx1143 dX10_read_109 ?_
      have hs0 := Option.some.inj hs0
      subst hs0
      exact W.zret hx hb hr rfl (fun t ht hw => ⟨⟨_, (m28, a), rfl, ⟨rfl, w_x11_6, w_x11_7, w_x24_2, w_x24_3, w_x24_4, hoff, w_A13, w_A15, w_A17, w_A19, hoffa⟩, g_end hW ht hw⟩, hS.F ht⟩) hS.2.2 dX10_read_112 hlocks
  refine lv_aload_n hx hb dX10_read_0 rfl (lv_at hl 0 rfl) ?_
  refine lv_iload_n hx hb dX10_read_1 rfl (lv_at hl 1 rfl) ?_
  refine lv_sipush (v := 264) hx hb dX10_read_2 (by decide) ?_
  refine va_mmin hx hb (hml.trans hl.1.symm) hown (hG _ gx1140) (hG _ gx487) (hG _ gx55) (hG _ gx488) (Nat.le_of_ble_eq_true rfl) (Nat.le_of_ble_eq_true rfl) (Nat.zero_le _) (Nat.zero_le _) dX10_read_5 ?_
  refine gp10_2 hx hb hG hown hW hS (o := 24) (ltN hN 24 rfl) gk24 (v := (if 264 < p1 then 264 else p1)) gx1141 dX10_read_8 (fun m1 H locs hm1 ho1 hW hS => ?_)
  have ho1 := off1 ho1
  have w_x11_6 : m1 1106 = .int x11_6 := (ho1 1106 rfl).trans h_x11_6
  have w_x11_7 : m1 1107 = .int x11_7 := (ho1 1107 rfl).trans h_x11_7
  have w_x24_2 : m1 2402 = .int (if 264 < p1 then 264 else p1) := hm1
  have w_x24_3 : m1 2403 = .int x24_3 := (ho1 2403 rfl).trans h_x24_3
  have w_x24_4 : m1 2404 = .int x24_4 := (ho1 2404 rfl).trans h_x24_4
  have hoff := offm hoff ho1 (by decide +kernel)
  have hsh := SH.off hsh ho1 (by decide +kernel)
  refine lv_aload_n hx hb dX10_read_11 rfl (lv_at hl 0 rfl) ?_
  refine lv_iconst (v := 0) hx hb dX10_read_12 (by decide) ?_
  refine gp10_3 hx hb hG hown hW hS (o := 24) (ltN hN 24 rfl) gk24 (v := 0) gx1142 dX10_read_13 (fun m2 H locs hm2 ho2 hW hS => ?_)
  have ho2 := off1 ho2
  have w_x11_6 : m2 1106 = .int x11_6 := (ho2 1106 rfl).trans w_x11_6
  have w_x11_7 : m2 1107 = .int x11_7 := (ho2 1107 rfl).trans w_x11_7
  have w_x24_2 : m2 2402 = .int (if 264 < p1 then 264 else p1) := (ho2 2402 rfl).trans w_x24_2
  have w_x24_3 : m2 2403 = .int 0 := hm2
  have w_x24_4 : m2 2404 = .int x24_4 := (ho2 2404 rfl).trans w_x24_4
  have hoff := offm hoff ho2 (by decide +kernel)
  have hsh := SH.off hsh ho2 (by decide +kernel)
  refine lv_aload_n hx hb dX10_read_16 rfl (lv_at hl 0 rfl) ?_
  refine lv_iconst (v := (-1)) hx hb dX10_read_17 (by decide) ?_
  refine gp10_4 hx hb hG hown hW hS (o := 24) (ltN hN 24 rfl) gk24 (v := (-1)) gx1143 dX10_read_18 (fun m3 H locs hm3 ho3 hW hS => ?_)
  have ho3 := off1 ho3
  have w_x11_6 : m3 1106 = .int x11_6 := (ho3 1106 rfl).trans w_x11_6
  have w_x11_7 : m3 1107 = .int x11_7 := (ho3 1107 rfl).trans w_x11_7
  have w_x24_2 : m3 2402 = .int (if 264 < p1 then 264 else p1) := (ho3 2402 rfl).trans w_x24_2
  have w_x24_3 : m3 2403 = .int 0 := (ho3 2403 rfl).trans w_x24_3
  have w_x24_4 : m3 2404 = .int (-1) := hm3
  have hoff := offm hoff ho3 (by decide +kernel)
  have hsh := SH.off hsh ho3 (by decide +kernel)
  refine lv_aload_n hx hb dX10_read_21 rfl (lv_at hl 3 rfl) ?_
  refine g_Vv (n := 0) hx hb hml hown hG hW hS [] (kX8_empty hN hsh w_x11_6 w_x11_7) (ltN hN 11 rfl) gk11 (by decide) rfl rfl (gd_V gx1144 gx1145 gx1146 gx27 gx1147) rfl rfl (by decide) ⟨Nat.le_of_ble_eq_true rfl, Nat.le_of_ble_eq_true rfl⟩ rfl hl (Nat.le_of_ble_eq_true rfl) ⟨Nat.zero_le _, Nat.zero_le _⟩ dX10_read_22 (fun m4 a4 H locs hp4 hW hS => ?_)
  obtain ⟨hp4_x11_6, hp4_x11_7, ho4, ha4⟩ := hp4
  rw [ha4] at hW
  have w_x11_6 : m4 1106 = .int ((fX8_empty x11_6 x11_7).1) := hp4_x11_6
  have w_x11_7 : m4 1107 = .int ((fX8_empty x11_6 x11_7).2) := hp4_x11_7
  have w_x24_2 : m4 2402 = .int (if 264 < p1 then 264 else p1) := (ho4 2402 rfl).trans w_x24_2
  have w_x24_3 : m4 2403 = .int 0 := (ho4 2403 rfl).trans w_x24_3
  have w_x24_4 : m4 2404 = .int (-1) := (ho4 2404 rfl).trans w_x24_4
  have hoff := offm hoff ho4 (by decide +kernel)
  have hsh := SH.off hsh ho4 (by decide +kernel)
  refine lv_aload_n hx hb dX10_read_25 rfl (lv_at hl 0 rfl) ?_
  obtain ⟨r5, hf5, hs0⟩ := obind hs0
  refine g_Vv (n := 0) hx hb hml hown hG hW hS [] (kX10_skipBlanks hN hsh w_x24_2 ((hoffa 26 rfl).trans h_A26) w_x24_3 F hf5) (ltN hN 24 rfl) gk24 (by decide) rfl rfl (gd_V gx1150 gx1151 gx1152 gx31 gx1153) rfl rfl (by decide) ⟨Nat.le_of_ble_eq_true rfl, Nat.le_of_ble_eq_true rfl⟩ rfl hl (Nat.le_of_ble_eq_true rfl) ⟨Nat.zero_le _, Nat.zero_le _⟩ dX10_read_26 (fun m5 a5 H locs hp5 hW hS => ?_)
  obtain ⟨hp5_x24_3, ho5, ha5⟩ := hp5
  rw [ha5] at hW
  have w_x11_6 : m5 1106 = .int ((fX8_empty x11_6 x11_7).1) := (ho5 1106 rfl).trans w_x11_6
  have w_x11_7 : m5 1107 = .int ((fX8_empty x11_6 x11_7).2) := (ho5 1107 rfl).trans w_x11_7
  have w_x24_2 : m5 2402 = .int (if 264 < p1 then 264 else p1) := (ho5 2402 rfl).trans w_x24_2
  have w_x24_3 : m5 2403 = .int r5 := hp5_x24_3
  have w_x24_4 : m5 2404 = .int (-1) := (ho5 2404 rfl).trans w_x24_4
  have hoff := offm hoff ho5 (by decide +kernel)
  have hsh := SH.off hsh ho5 (by decide +kernel)
  refine lv_iconst (v := 0) hx hb dX10_read_29 (by decide) ?_
  refine lv_istore (lv' := [(4, .int 0), (0, .ref (q 24)), (1, .int p1), (2, .int p2), (3, .ref (q 11))]) hx hb dX10_read_30 hl (by decide) rfl (fun ls hl => ?_)
  obtain ⟨r6, hg6, hs0⟩ := obind hs0
  have hE1_92 : ∀ (t6_92 : Int32 × Int32 × Int32 × Int32 × (Nat → Int32) × (Nat → Int32) × (Nat → Int32) × (Nat → Int32)) (hr6 : t6_92 = r6) (m : Nat → Value) (a : Nat → vp_A) (H : Heap) (locs : List Loc) (w_x11_6 : m 1106 = .int t6_92.1) (w_x11_7 : m 1107 = .int t6_92.2.1) (w_x24_2 : m 2402 = .int (if 264 < p1 then 264 else p1)) (w_x24_3 : m 2403 = .int t6_92.2.2.1) (w_x24_4 : m 2404 = .int t6_92.2.2.2.1) (hoff : ∀ j, nel j [1106, 1107, 2402, 2403, 2404] = false → m j = m0 j) (hsh : SH q m) (w_A13 : a 13 = (64, .inl t6_92.2.2.2.2.1)) (w_A15 : a 15 = (64, .inl t6_92.2.2.2.2.2.1)) (w_A17 : a 17 = (64, .inl t6_92.2.2.2.2.2.2.1)) (w_A19 : a 19 = (4, .inl t6_92.2.2.2.2.2.2.2)) (hoffa : ∀ j, nel j [13, 15, 17, 19] = false → a j = a0 j) (ls : Array Slot) (hl : lv_has ls 5 [(0, .ref (q 24)), (3, .ref (q 11))]) (hW : GW D cy (gA N q s.heap.size) N q m a s H) (hS : va_S (gA N q s.heap.size) s.heap H locs), W p l e ({ frames := 7, cells := 0, slots := 0, locals := 153 } : Room) s M args below meth c H locs 0 0 (MQ below (va_Qi (fun (r : Int32) (u : (Nat → Value) × (Nat → vp_A)) => r = X0.1 ∧ u.1 1106 = .int X0.2.1 ∧ u.1 1107 = .int X0.2.2.1 ∧ u.1 2402 = .int X0.2.2.2.1 ∧ u.1 2403 = .int X0.2.2.2.2.1 ∧ u.1 2404 = .int X0.2.2.2.2.2.1 ∧ (∀ j, nel j [1106, 1107, 2402, 2403, 2404] = false → u.1 j = m0 j) ∧ u.2 13 = (64, .inl X0.2.2.2.2.2.2.1) ∧ u.2 15 = (64, .inl X0.2.2.2.2.2.2.2.1) ∧ u.2 17 = (64, .inl X0.2.2.2.2.2.2.2.2.1) ∧ u.2 19 = (4, .inl X0.2.2.2.2.2.2.2.2.2) ∧ (∀ j, nel j [13, 15, 17, 19] = false → u.2 j = a0 j)) (gB D cy N q s.heap.size) (gA N q s.heap.size)) args s 0 0 (gA N q s.heap.size)) (F0 M 92 ls []) := by
    intro t6_92 hr6 m a H locs w_x11_6 w_x11_7 w_x24_2 w_x24_3 w_x24_4 hoff hsh w_A13 w_A15 w_A17 w_A19 hoffa ls hl hW hS
    subst hr6
    exact hJ92_0 t6_92.1 t6_92.2.1 (if 264 < p1 then 264 else p1) t6_92.2.2.1 t6_92.2.2.2.1 t6_92.2.2.2.2.1 t6_92.2.2.2.2.2.1 t6_92.2.2.2.2.2.2.1 t6_92.2.2.2.2.2.2.2 m a _ _ w_x11_6 w_x11_7 w_x24_2 w_x24_3 w_x24_4 hoff hsh w_A13 w_A15 w_A17 w_A19 hoffa ls (lv_sub hl [0, 1] rfl) hs0 hW hS
  have hL1 : ∀ (n : Nat) (v4k6 : Int32) (x11_6k6 : Int32) (x11_7k6 : Int32) (x24_3k6 : Int32) (x24_4k6 : Int32) (A13k6 : Nat → Int32) (A15k6 : Nat → Int32) (A17k6 : Nat → Int32) (A19k6 : Nat → Int32) (m : Nat → Value) (a : Nat → vp_A) (H : Heap) (locs : List Loc) (w_x11_6 : m 1106 = .int x11_6k6) (w_x11_7 : m 1107 = .int x11_7k6) (w_x24_2 : m 2402 = .int (if 264 < p1 then 264 else p1)) (w_x24_3 : m 2403 = .int x24_3k6) (w_x24_4 : m 2404 = .int x24_4k6) (hoff : ∀ j, nel j [1106, 1107, 2402, 2403, 2404] = false → m j = m0 j) (hsh : SH q m) (w_A13 : a 13 = (64, .inl A13k6)) (w_A15 : a 15 = (64, .inl A15k6)) (w_A17 : a 17 = (64, .inl A17k6)) (w_A19 : a 19 = (4, .inl A19k6)) (hoffa : ∀ j, nel j [13, 15, 17, 19] = false → a j = a0 j) (ls : Array Slot) (hl : lv_has ls 5 [(0, .ref (q 24)), (2, .int p2), (3, .ref (q 11)), (4, .int v4k6)]) (hg6 : gloop (fun u6 : (Int32 × Int32 × Int32 × Int32 × Int32 × (Nat → Int32) × (Nat → Int32) × (Nat → Int32) × (Nat → Int32)) => fX10_read_S32 F A26 p2 (if 264 < p1 then 264 else p1) u6.1 u6.2.1 u6.2.2.1 u6.2.2.2.1 u6.2.2.2.2.1 u6.2.2.2.2.2.1 u6.2.2.2.2.2.2.1 u6.2.2.2.2.2.2.2.1 u6.2.2.2.2.2.2.2.2) n (v4k6, x11_6k6, x11_7k6, x24_3k6, x24_4k6, A13k6, A15k6, A17k6, A19k6) = some r6) (hW : GW D cy (gA N q s.heap.size) N q m a s H) (hS : va_S (gA N q s.heap.size) s.heap H locs), W p l e ({ frames := 7, cells := 0, slots := 0, locals := 153 } : Room) s M args below meth c H locs 0 0 (MQ below (va_Qi (fun (r : Int32) (u : (Nat → Value) × (Nat → vp_A)) => r = X0.1 ∧ u.1 1106 = .int X0.2.1 ∧ u.1 1107 = .int X0.2.2.1 ∧ u.1 2402 = .int X0.2.2.2.1 ∧ u.1 2403 = .int X0.2.2.2.2.1 ∧ u.1 2404 = .int X0.2.2.2.2.2.1 ∧ (∀ j, nel j [1106, 1107, 2402, 2403, 2404] = false → u.1 j = m0 j) ∧ u.2 13 = (64, .inl X0.2.2.2.2.2.2.1) ∧ u.2 15 = (64, .inl X0.2.2.2.2.2.2.2.1) ∧ u.2 17 = (64, .inl X0.2.2.2.2.2.2.2.2.1) ∧ u.2 19 = (4, .inl X0.2.2.2.2.2.2.2.2.2) ∧ (∀ j, nel j [13, 15, 17, 19] = false → u.2 j = a0 j)) (gB D cy N q s.heap.size) (gA N q s.heap.size)) args s 0 0 (gA N q s.heap.size)) (F0 M 32 ls []) := by
    intro n
    induction n with
    | zero => intro v4k6 x11_6k6 x11_7k6 x24_3k6 x24_4k6 A13k6 A15k6 A17k6 A19k6 m a H locs w_x11_6 w_x11_7 w_x24_2 w_x24_3 w_x24_4 hoff hsh w_A13 w_A15 w_A17 w_A19 hoffa ls hl hg6 hW hS; exact (gl_zero hg6).elim
    | succ n ih1 =>
      intro v4k6 x11_6k6 x11_7k6 x24_3k6 x24_4k6 A13k6 A15k6 A17k6 A19k6 m a H locs w_x11_6 w_x11_7 w_x24_2 w_x24_3 w_x24_4 hoff hsh w_A13 w_A15 w_A17 w_A19 hoffa ls hl hg6 hW hS
      obtain ⟨X1, hs1, hXl1, hXr1⟩ := gl_succ hg6
      have hs1 : fX10_read_S32 F A26 p2 (if 264 < p1 then 264 else p1) v4k6 x11_6k6 x11_7k6 x24_3k6 x24_4k6 A13k6 A15k6 A17k6 A19k6 = some X1 := hs1
      unfold fX10_read_S32 at hs1
      have hJ82_1 : ∀ (v4j23 : Int32) (x11_6j23 : Int32) (x11_7j23 : Int32) (x24_3j23 : Int32) (x24_4j23 : Int32) (A13j23 : Nat → Int32) (A15j23 : Nat → Int32) (A17j23 : Nat → Int32) (A19j23 : Nat → Int32) (m : Nat → Value) (a : Nat → vp_A) (H : Heap) (locs : List Loc) (w_x11_6 : m 1106 = .int x11_6j23) (w_x11_7 : m 1107 = .int x11_7j23) (w_x24_2 : m 2402 = .int (if 264 < p1 then 264 else p1)) (w_x24_3 : m 2403 = .int x24_3j23) (w_x24_4 : m 2404 = .int x24_4j23) (hoff : ∀ j, nel j [1106, 1107, 2402, 2403, 2404] = false → m j = m0 j) (hsh : SH q m) (w_A13 : a 13 = (64, .inl A13j23)) (w_A15 : a 15 = (64, .inl A15j23)) (w_A17 : a 17 = (64, .inl A17j23)) (w_A19 : a 19 = (4, .inl A19j23)) (hoffa : ∀ j, nel j [13, 15, 17, 19] = false → a j = a0 j) (ls : Array Slot) (hl : lv_has ls 5 [(0, .ref (q 24)), (2, .int p2), (3, .ref (q 11)), (4, .int v4j23)]) (hs1 : fX10_read_J82 F A26 p2 v4j23 x11_6j23 x11_7j23 (if 264 < p1 then 264 else p1) x24_3j23 x24_4j23 A13j23 A15j23 A17j23 A19j23 = some X1) (hW : GW D cy (gA N q s.heap.size) N q m a s H) (hS : va_S (gA N q s.heap.size) s.heap H locs), W p l e ({ frames := 7, cells := 0, slots := 0, locals := 153 } : Room) s M args below meth c H locs 0 0 (MQ below (va_Qi (fun (r : Int32) (u : (Nat → Value) × (Nat → vp_A)) => r = X0.1 ∧ u.1 1106 = .int X0.2.1 ∧ u.1 1107 = .int X0.2.2.1 ∧ u.1 2402 = .int X0.2.2.2.1 ∧ u.1 2403 = .int X0.2.2.2.2.1 ∧ u.1 2404 = .int X0.2.2.2.2.2.1 ∧ (∀ j, nel j [1106, 1107, 2402, 2403, 2404] = false → u.1 j = m0 j) ∧ u.2 13 = (64, .inl X0.2.2.2.2.2.2.1) ∧ u.2 15 = (64, .inl X0.2.2.2.2.2.2.2.1) ∧ u.2 17 = (64, .inl X0.2.2.2.2.2.2.2.2.1) ∧ u.2 19 = (4, .inl X0.2.2.2.2.2.2.2.2.2) ∧ (∀ j, nel j [13, 15, 17, 19] = false → u.2 j = a0 j)) (gB D cy N q s.heap.size) (gA N q s.heap.size)) args s 0 0 (gA N q s.heap.size)) (F0 M 82 ls []) := by
        intro v4j23 x11_6j23 x11_7j23 x24_3j23 x24_4j23 A13j23 A15j23 A17j23 A19j23 m a H locs w_x11_6 w_x11_7 w_x24_2 w_x24_3 w_x24_4 hoff hsh w_A13 w_A15 w_A17 w_A19 hoffa ls hl hs1 hW hS
        unfold fX10_read_J82 at hs1
        refine lv_aload_n hx hb dX10_read_82 rfl (lv_at hl 0 rfl) ?_
        obtain ⟨r25, hf25, hs1⟩ := obind hs1
        refine g_Vv (n := 0) hx hb hml hown hG hW hS [] (kX10_skipBlanks hN hsh w_x24_2 ((hoffa 26 rfl).trans h_A26) w_x24_3 F hf25) (ltN hN 24 rfl) gk24 (by decide) rfl rfl (gd_V gx1150 gx1151 gx1152 gx31 gx1153) rfl rfl (by decide) ⟨Nat.le_of_ble_eq_true rfl, Nat.le_of_ble_eq_true rfl⟩ rfl hl (Nat.le_of_ble_eq_true rfl) ⟨Nat.zero_le _, Nat.zero_le _⟩ dX10_read_83 (fun m25 a25 H locs hp25 hW hS => ?_)
        obtain ⟨hp25_x24_3, ho25, ha25⟩ := hp25
        rw [ha25] at hW
        have w_x11_6 : m25 1106 = .int x11_6j23 := (ho25 1106 rfl).trans w_x11_6
        have w_x11_7 : m25 1107 = .int x11_7j23 := (ho25 1107 rfl).trans w_x11_7
        have w_x24_2 : m25 2402 = .int (if 264 < p1 then 264 else p1) := (ho25 2402 rfl).trans w_x24_2
        have w_x24_3 : m25 2403 = .int r25 := hp25_x24_3
        have w_x24_4 : m25 2404 = .int x24_4j23 := (ho25 2404 rfl).trans w_x24_4
        have hoff := offm hoff ho25 (by decide +kernel)
        have hsh := SH.off hsh ho25 (by decide +kernel)
        refine lv_iinc (v := v4j23 + 1) (lv' := [(4, .int (v4j23 + 1)), (0, .ref (q 24)), (2, .int p2), (3, .ref (q 11))]) hx hb dX10_read_86 hl (k := 3) rfl rfl (by decide) rfl (fun ls hl => ?_)
        refine lv_goto (tgt := 32) hx hb dX10_read_89 (by decide) ?_
        exact ih1 (v4j23 + 1) x11_6j23 x11_7j23 r25 x24_4j23 A13j23 A15j23 A17j23 A19j23 m25 a _ _ w_x11_6 w_x11_7 w_x24_2 w_x24_3 w_x24_4 hoff hsh w_A13 w_A15 w_A17 w_A19 hoffa ls (lv_sub hl [1, 2, 3, 0] rfl) (hXr1 _ (Option.some.inj hs1).symm) hW hS
      refine lv_iload hx hb dX10_read_32 (lv_at hl 3 rfl) ?_
      refine lv_sipush (v := 264) hx hb dX10_read_34 (by decide) ?_
      refine lv_icmp_ge (tgt := 92) hx hb dX10_read_37 (by decide) (fun c17 => ?_) (fun c17 => ?_)
      · rw [if_pos c17] at hs1
        exact hE1_92 (x11_6k6, x11_7k6, x24_3k6, x24_4k6, A13k6, A15k6, A17k6, A19k6) (hXl1 _ (Option.some.inj hs1).symm) m a _ _ w_x11_6 w_x11_7 w_x24_2 w_x24_3 w_x24_4 hoff hsh w_A13 w_A15 w_A17 w_A19 hoffa ls (lv_sub hl [0, 2] rfl) hW hS
      · rw [if_neg c17] at hs1
        refine lv_aload_n hx hb dX10_read_40 rfl (lv_at hl 0 rfl) ?_
        refine gf10_3 hx hb hG hown hW (o := 24) (ltN hN 24 rfl) gk24 (v := .int x24_3k6) w_x24_3 gx1142 dX10_read_41 ?_
        refine lv_aload_n hx hb dX10_read_44 rfl (lv_at hl 0 rfl) ?_
        refine gf10_2 hx hb hG hown hW (o := 24) (ltN hN 24 rfl) gk24 (v := .int (if 264 < p1 then 264 else p1)) w_x24_2 gx1141 dX10_read_45 ?_
        refine lv_icmp_ge (tgt := 92) hx hb dX10_read_48 (by decide) (fun c18 => ?_) (fun c18 => ?_)
        · rw [if_pos c18] at hs1
          exact hE1_92 (x11_6k6, x11_7k6, x24_3k6, x24_4k6, A13k6, A15k6, A17k6, A19k6) (hXl1 _ (Option.some.inj hs1).symm) m a _ _ w_x11_6 w_x11_7 w_x24_2 w_x24_3 w_x24_4 hoff hsh w_A13 w_A15 w_A17 w_A19 hoffa ls (lv_sub hl [0, 2] rfl) hW hS
        · rw [if_neg c18] at hs1
          refine lv_aload_n hx hb dX10_read_51 rfl (lv_at hl 0 rfl) ?_
          refine gf10_4 hx hb hG hown hW (o := 24) (ltN hN 24 rfl) gk24 (v := .int x24_4k6) w_x24_4 gx1143 dX10_read_52 ?_
          refine lv_iconst (v := (-1)) hx hb dX10_read_55 (by decide) ?_
          refine lv_icmp_ne (tgt := 92) hx hb dX10_read_56 (by decide) (fun c19 => ?_) (fun c19 => ?_)
          · rw [if_neg c19] at hs1
            exact hE1_92 (x11_6k6, x11_7k6, x24_3k6, x24_4k6, A13k6, A15k6, A17k6, A19k6) (hXl1 _ (Option.some.inj hs1).symm) m a _ _ w_x11_6 w_x11_7 w_x24_2 w_x24_3 w_x24_4 hoff hsh w_A13 w_A15 w_A17 w_A19 hoffa ls (lv_sub hl [0, 2] rfl) hW hS
          · rw [if_pos c19] at hs1
            refine lv_aload_n hx hb dX10_read_59 rfl (lv_at hl 0 rfl) ?_
            refine g_ViR (n := 0) hx hb hml hown hG hW hS [] (kX10_peek hN hsh w_x24_2 w_x24_3 ((hoffa 26 rfl).trans h_A26)) (ltN hN 24 rfl) gk24 (by decide) rfl rfl (gd_V gx1154 gx1155 gx1156 gx31 gx1157) rfl rfl (by decide) ⟨Nat.le_of_ble_eq_true rfl, Nat.le_of_ble_eq_true rfl⟩ rfl hl (Nat.le_of_ble_eq_true rfl) ⟨Nat.zero_le _, Nat.zero_le _⟩ dX10_read_60 (fun H locs hW hS => ?_)
            refine lv_bipush (v := 93) hx hb dX10_read_63 (by decide) ?_
            refine lv_icmp_ne (tgt := 76) hx hb dX10_read_65 (by decide) (fun c21 => ?_) (fun c21 => ?_)
            · rw [if_neg c21] at hs1
              refine lv_aload_n hx hb dX10_read_76 rfl (lv_at hl 0 rfl) ?_
              refine lv_iload_n hx hb dX10_read_77 rfl (lv_at hl 1 rfl) ?_
              refine lv_aload_n hx hb dX10_read_78 rfl (lv_at hl 2 rfl) ?_
              obtain ⟨r22, hf22, hs1⟩ := obind hs1
              refine g_Vve (n := 2) hx hb hml hown hG hW hS [.int p2, .ref (q 11)] XS.ok hE (kX10_readStep hN hsh w_x24_2 ((hoffa 26 rfl).trans h_A26) w_x11_6 w_x11_7 w_x24_3 w_x24_4 w_A13 w_A15 w_A17 w_A19 F p2 hf22) (ltN hN 24 rfl) gk24 (by decide) rfl rfl (gd_V gx1186 gx1187 gx1188 gx31 gx1189) rfl rfl (by decide) ⟨Nat.le_of_ble_eq_true rfl, Nat.le_of_ble_eq_true rfl⟩ rfl hl (Nat.le_of_ble_eq_true rfl) ⟨Nat.zero_le _, Nat.zero_le _⟩ dX10_read_79 (fun m22 a22 H locs hp22 hW hS => ?_)
              obtain ⟨hp22_x11_6, hp22_x11_7, hp22_x24_3, hp22_x24_4, ho22, hp22_A13, hp22_A15, hp22_A17, hp22_A19, hoa22⟩ := hp22
              have w_x11_6 : m22 1106 = .int r22.1 := hp22_x11_6
              have w_x11_7 : m22 1107 = .int r22.2.1 := hp22_x11_7
              have w_x24_2 : m22 2402 = .int (if 264 < p1 then 264 else p1) := (ho22 2402 rfl).trans w_x24_2
              have w_x24_3 : m22 2403 = .int r22.2.2.1 := hp22_x24_3
              have w_x24_4 : m22 2404 = .int r22.2.2.2.1 := hp22_x24_4
              have hoff := offm hoff ho22 (by decide +kernel)
              have hsh := SH.off hsh ho22 (by decide +kernel)
              have w_A13 : a22 13 = (64, .inl r22.2.2.2.2.1) := hp22_A13
              have w_A15 : a22 15 = (64, .inl r22.2.2.2.2.2.1) := hp22_A15
              have w_A17 : a22 17 = (64, .inl r22.2.2.2.2.2.2.1) := hp22_A17
              have w_A19 : a22 19 = (4, .inl r22.2.2.2.2.2.2.2) := hp22_A19
              have hoffa := offm hoffa hoa22 (by decide +kernel)
              exact hJ82_1 v4k6 r22.1 r22.2.1 r22.2.2.1 r22.2.2.2.1 r22.2.2.2.2.1 r22.2.2.2.2.2.1 r22.2.2.2.2.2.2.1 r22.2.2.2.2.2.2.2 m22 a22 _ _ w_x11_6 w_x11_7 w_x24_2 w_x24_3 w_x24_4 hoff hsh w_A13 w_A15 w_A17 w_A19 hoffa ls (lv_sub hl [0, 1, 2, 3] rfl) hs1 hW hS
            · rw [if_pos c21] at hs1
              refine lv_aload_n hx hb dX10_read_68 rfl (lv_at hl 0 rfl) ?_
              refine lv_aload_n hx hb dX10_read_69 rfl (lv_at hl 2 rfl) ?_
              obtain ⟨r24, hf24, hs1⟩ := obind hs1
              refine g_Vv (n := 1) hx hb hml hown hG hW hS [.ref (q 11)] (kX10_readClose hN hsh w_x24_2 w_A19 ((hoffa 26 rfl).trans h_A26) w_x11_6 w_x11_7 w_x24_3 w_x24_4 w_A13 w_A15 w_A17 F hf24) (ltN hN 24 rfl) gk24 (by decide) rfl rfl (gd_V gx1159 gx1160 gx1161 gx31 gx1162) rfl rfl (by decide) ⟨Nat.le_of_ble_eq_true rfl, Nat.le_of_ble_eq_true rfl⟩ rfl hl (Nat.le_of_ble_eq_true rfl) ⟨Nat.zero_le _, Nat.zero_le _⟩ dX10_read_70 (fun m24 a24 H locs hp24 hW hS => ?_)
              obtain ⟨hp24_x11_6, hp24_x11_7, hp24_x24_3, hp24_x24_4, ho24, hp24_A13, hp24_A15, hp24_A17, hoa24⟩ := hp24
              have w_x11_6 : m24 1106 = .int r24.1 := hp24_x11_6
              have w_x11_7 : m24 1107 = .int r24.2.1 := hp24_x11_7
              have w_x24_2 : m24 2402 = .int (if 264 < p1 then 264 else p1) := (ho24 2402 rfl).trans w_x24_2
              have w_x24_3 : m24 2403 = .int r24.2.2.1 := hp24_x24_3
              have w_x24_4 : m24 2404 = .int r24.2.2.2.1 := hp24_x24_4
              have hoff := offm hoff ho24 (by decide +kernel)
              have hsh := SH.off hsh ho24 (by decide +kernel)
              have w_A13 : a24 13 = (64, .inl r24.2.2.2.2.1) := hp24_A13
              have w_A15 : a24 15 = (64, .inl r24.2.2.2.2.2.1) := hp24_A15
              have w_A17 : a24 17 = (64, .inl r24.2.2.2.2.2.2) := hp24_A17
              have w_A19 : a24 19 = (4, .inl A19k6) := (hoa24 19 rfl).trans w_A19
              have hoffa := offm hoffa hoa24 (by decide +kernel)
              refine lv_goto (tgt := 82) hx hb dX10_read_73 (by decide) ?_
              exact hJ82_1 v4k6 r24.1 r24.2.1 r24.2.2.1 r24.2.2.2.1 r24.2.2.2.2.1 r24.2.2.2.2.2.1 r24.2.2.2.2.2.2 A19k6 m24 a24 _ _ w_x11_6 w_x11_7 w_x24_2 w_x24_3 w_x24_4 hoff hsh w_A13 w_A15 w_A17 w_A19 hoffa ls (lv_sub hl [0, 1, 2, 3] rfl) hs1 hW hS
  exact hL1 F 0 ((fX8_empty x11_6 x11_7).1) ((fX8_empty x11_6 x11_7).2) r5 (-1) A13 A15 A17 A19 m5 a0 _ _ w_x11_6 w_x11_7 w_x24_2 w_x24_3 w_x24_4 hoff hsh h_A13 h_A15 h_A17 h_A19 hoffa ls (lv_sub hl [1, 3, 4, 0] rfl) hg6 hW hS
-- HealLink.script ()I
def fX11_script (F : Nat) (xkr_0 : Int32) (xkr_1 : Int32) (xkr_2 : Int32) (xkr_3 : Int32) (A26 : Nat → Int32) (x0_8 : Int64) (x0_9 : Int32) (x0_10 : Int32) (x2_0 : Int32) (x2_1 : Int64) (x5_0 : Int32) (x5_1 : Int64) (x11_6 : Int32) (x11_7 : Int32) (x11_8 : Int32) (x24_0 : Int32) (x24_2 : Int32) (x24_3 : Int32) (x24_4 : Int32) (A1 : Nat → Int32) (A13 : Nat → Int32) (A15 : Nat → Int32) (A17 : Nat → Int32) (A19 : Nat → Int32) (A21 : Nat → Int32) (A23 : Nat → Int32) : Option (Int32 × Int64 × Int32 × Int32 × Int32 × Int64 × Int32 × Int64 × Int32 × Int32 × Int32 × Int32 × Int32 × Int32 × Int32 × (Nat → Int32) × (Nat → Int32) × (Nat → Int32) × (Nat → Int32) × (Nat → Int32) × (Nat → Int32) × (Nat → Int32)) := (if x24_0 ≤ 240 then ((fX10_read F A26 x11_6 x11_7 x24_2 x24_3 x24_4 A13 A15 A17 A19 x24_0 xkr_1).bind (fun r3 => (if r3.1 = (-1) then ((fX11_carryOut F r3.2.1 xkr_0 xkr_1 xkr_2 xkr_3 r3.2.2.2.2.2.2.1 r3.2.2.2.2.2.2.2.1 r3.2.2.2.2.2.2.2.2.1 x0_8 x0_9 x0_10 x2_0 x2_1 x5_0 x5_1 r3.2.2.1 x11_8 A1 A21 A23).bind (fun r5 => some (r5.1, r5.2.1, r5.2.2.1, r5.2.2.2.1, r5.2.2.2.2.1, r5.2.2.2.2.2.1, r5.2.2.2.2.2.2.1, r5.2.2.2.2.2.2.2.1, r3.2.1, r5.2.2.2.2.2.2.2.2.1, r5.2.2.2.2.2.2.2.2.2.1, 0, r3.2.2.2.1, r3.2.2.2.2.1, r3.2.2.2.2.2.1, r5.2.2.2.2.2.2.2.2.2.2.1, r3.2.2.2.2.2.2.1, r3.2.2.2.2.2.2.2.1, r3.2.2.2.2.2.2.2.2.1, r3.2.2.2.2.2.2.2.2.2, r5.2.2.2.2.2.2.2.2.2.2.2.1, r5.2.2.2.2.2.2.2.2.2.2.2.2))) else some ((-2) - r3.1, x0_8, x0_9, x0_10, x2_0, x2_1, x5_0, x5_1, r3.2.1, r3.2.2.1, x11_8, 0, r3.2.2.2.1, r3.2.2.2.2.1, r3.2.2.2.2.2.1, A1, r3.2.2.2.2.2.2.1, r3.2.2.2.2.2.2.2.1, r3.2.2.2.2.2.2.2.2.1, r3.2.2.2.2.2.2.2.2.2, A21, A23)))) else some ((-1), x0_8, x0_9, x0_10, x2_0, x2_1, x5_0, x5_1, x11_6, x11_7, x11_8, 0, x24_2, x24_3, x24_4, A1, A13, A15, A17, A19, A21, A23))
theorem dX11_script_0 : decode cX11_script 0 = .ok (.aload_n 0, 1) := by decide +kernel
theorem dX11_script_1 : decode cX11_script 1 = .ok (.getfield 40, 3) := by decide +kernel
theorem dX11_script_4 : decode cX11_script 4 = .ok (.getfield 205, 3) := by decide +kernel
theorem dX11_script_7 : decode cX11_script 7 = .ok (.istore_n 1, 1) := by decide +kernel
theorem dX11_script_8 : decode cX11_script 8 = .ok (.aload_n 0, 1) := by decide +kernel
theorem dX11_script_9 : decode cX11_script 9 = .ok (.getfield 40, 3) := by decide +kernel
theorem dX11_script_12 : decode cX11_script 12 = .ok (.iconst 0, 1) := by decide +kernel
theorem dX11_script_13 : decode cX11_script 13 = .ok (.putfield 205, 3) := by decide +kernel
theorem dX11_script_16 : decode cX11_script 16 = .ok (.iload_n 1, 1) := by decide +kernel
theorem dX11_script_17 : decode cX11_script 17 = .ok (.sipush 240, 3) := by decide +kernel
theorem dX11_script_20 : decode cX11_script 20 = .ok (.if_icmp .le 5, 3) := by decide +kernel
theorem dX11_script_23 : decode cX11_script 23 = .ok (.iconst (-1), 1) := by decide +kernel
theorem dX11_script_24 : decode cX11_script 24 = .ok (.ireturn, 1) := by decide +kernel
theorem dX11_script_25 : decode cX11_script 25 = .ok (.aload_n 0, 1) := by decide +kernel
theorem dX11_script_26 : decode cX11_script 26 = .ok (.getfield 40, 3) := by decide +kernel
theorem dX11_script_29 : decode cX11_script 29 = .ok (.iload_n 1, 1) := by decide +kernel
theorem dX11_script_30 : decode cX11_script 30 = .ok (.aload_n 0, 1) := by decide +kernel
theorem dX11_script_31 : decode cX11_script 31 = .ok (.getfield 56, 3) := by decide +kernel
theorem dX11_script_34 : decode cX11_script 34 = .ok (.getfield 202, 3) := by decide +kernel
theorem dX11_script_37 : decode cX11_script 37 = .ok (.aload_n 0, 1) := by decide +kernel
theorem dX11_script_38 : decode cX11_script 38 = .ok (.getfield 33, 3) := by decide +kernel
theorem dX11_script_41 : decode cX11_script 41 = .ok (.invokevirtual 283, 3) := by decide +kernel
theorem dX11_script_44 : decode cX11_script 44 = .ok (.istore_n 2, 1) := by decide +kernel
theorem dX11_script_45 : decode cX11_script 45 = .ok (.iload_n 2, 1) := by decide +kernel
theorem dX11_script_46 : decode cX11_script 46 = .ok (.iconst (-1), 1) := by decide +kernel
theorem dX11_script_47 : decode cX11_script 47 = .ok (.if_icmp .ne 10, 3) := by decide +kernel
theorem dX11_script_50 : decode cX11_script 50 = .ok (.aload_n 0, 1) := by decide +kernel
theorem dX11_script_51 : decode cX11_script 51 = .ok (.invokevirtual 287, 3) := by decide +kernel
theorem dX11_script_54 : decode cX11_script 54 = .ok (.goto 7, 3) := by decide +kernel
theorem dX11_script_57 : decode cX11_script 57 = .ok (.bipush (-2), 2) := by decide +kernel
theorem dX11_script_59 : decode cX11_script 59 = .ok (.iload_n 2, 1) := by decide +kernel
theorem dX11_script_60 : decode cX11_script 60 = .ok (.isub, 1) := by decide +kernel
theorem dX11_script_61 : decode cX11_script 61 = .ok (.ireturn, 1) := by decide +kernel
set_option maxHeartbeats 4000000 in
set_option maxRecDepth 100000 in
theorem kX11_script {l : Launch} {D : va_G} {cy : Nat → ClassId} {N : Nat} {q : Nat → Nat} {sa sv : Nat → Nat} {m0 : Nat → Value} {a0 : Nat → vp_A} {sz : Nat} (hN : 105 ≤ N) (hsh : SH q m0) {kr : Nat} (hkr : kr < N) (hgk : gk kr = 7) (hrf : m0 7 = .ref (q kr)) {xkr_0 : Int32} (h_xkr_0 : m0 (100 * kr + 0) = .int xkr_0) {xkr_1 : Int32} (h_xkr_1 : m0 (100 * kr + 1) = .int xkr_1) {xkr_2 : Int32} (h_xkr_2 : m0 (100 * kr + 2) = .int xkr_2) {xkr_3 : Int32} (h_xkr_3 : m0 (100 * kr + 3) = .int xkr_3) {A26 : Nat → Int32} (h_A26 : a0 26 = (264, .inl A26)) {x0_8 : Int64} (h_x0_8 : m0 8 = .long x0_8) {x0_9 : Int32} (h_x0_9 : m0 9 = .int x0_9) {x0_10 : Int32} (h_x0_10 : m0 10 = .int x0_10) {x2_0 : Int32} (h_x2_0 : m0 200 = .int x2_0) {x2_1 : Int64} (h_x2_1 : m0 201 = .long x2_1) {x5_0 : Int32} (h_x5_0 : m0 500 = .int x5_0) {x5_1 : Int64} (h_x5_1 : m0 501 = .long x5_1) {x11_6 : Int32} (h_x11_6 : m0 1106 = .int x11_6) {x11_7 : Int32} (h_x11_7 : m0 1107 = .int x11_7) {x11_8 : Int32} (h_x11_8 : m0 1108 = .int x11_8) {x24_0 : Int32} (h_x24_0 : m0 2400 = .int x24_0) {x24_2 : Int32} (h_x24_2 : m0 2402 = .int x24_2) {x24_3 : Int32} (h_x24_3 : m0 2403 = .int x24_3) {x24_4 : Int32} (h_x24_4 : m0 2404 = .int x24_4) {A1 : Nat → Int32} (h_A1 : a0 1 = (8, .inl A1)) {A13 : Nat → Int32} (h_A13 : a0 13 = (64, .inl A13)) {A15 : Nat → Int32} (h_A15 : a0 15 = (64, .inl A15)) {A17 : Nat → Int32} (h_A17 : a0 17 = (64, .inl A17)) {A19 : Nat → Int32} (h_A19 : a0 19 = (4, .inl A19)) {A21 : Nat → Int32} (h_A21 : a0 21 = (4, .inl A21)) {A23 : Nat → Int32} (h_A23 : a0 23 = (4, .inl A23)) (F : Nat) {X0 : Int32 × Int64 × Int32 × Int32 × Int32 × Int64 × Int32 × Int64 × Int32 × Int32 × Int32 × Int32 × Int32 × Int32 × Int32 × (Nat → Int32) × (Nat → Int32) × (Nat → Int32) × (Nat → Int32) × (Nat → Int32) × (Nat → Int32) × (Nat → Int32)} (hs0 : fX11_script F xkr_0 xkr_1 xkr_2 xkr_3 A26 x0_8 x0_9 x0_10 x2_0 x2_1 x5_0 x5_1 x11_6 x11_7 x11_8 x24_0 x24_2 x24_3 x24_4 A1 A13 A15 A17 A19 A21 A23 = some X0) : eMi l yX11_script cX11_script 3 (some .int) ({ frames := 8, cells := 0, slots := 0, locals := 177 } : Room) D cy N q m0 a0 sz [.ref (q 0)] (XS sa sv) (fun r m' a' => r = X0.1 ∧ m' 8 = .long X0.2.1 ∧ m' 9 = .int X0.2.2.1 ∧ m' 10 = .int X0.2.2.2.1 ∧ m' 200 = .int X0.2.2.2.2.1 ∧ m' 201 = .long X0.2.2.2.2.2.1 ∧ m' 500 = .int X0.2.2.2.2.2.2.1 ∧ m' 501 = .long X0.2.2.2.2.2.2.2.1 ∧ m' 1106 = .int X0.2.2.2.2.2.2.2.2.1 ∧ m' 1107 = .int X0.2.2.2.2.2.2.2.2.2.1 ∧ m' 1108 = .int X0.2.2.2.2.2.2.2.2.2.2.1 ∧ m' 2400 = .int X0.2.2.2.2.2.2.2.2.2.2.2.1 ∧ m' 2402 = .int X0.2.2.2.2.2.2.2.2.2.2.2.2.1 ∧ m' 2403 = .int X0.2.2.2.2.2.2.2.2.2.2.2.2.2.1 ∧ m' 2404 = .int X0.2.2.2.2.2.2.2.2.2.2.2.2.2.2.1 ∧ (∀ j, nel j [8, 9, 10, 200, 201, 500, 501, 1106, 1107, 1108, 2400, 2402, 2403, 2404] = false → m' j = m0 j) ∧ a' 1 = (8, .inl X0.2.2.2.2.2.2.2.2.2.2.2.2.2.2.2.1) ∧ a' 13 = (64, .inl X0.2.2.2.2.2.2.2.2.2.2.2.2.2.2.2.2.1) ∧ a' 15 = (64, .inl X0.2.2.2.2.2.2.2.2.2.2.2.2.2.2.2.2.2.1) ∧ a' 17 = (64, .inl X0.2.2.2.2.2.2.2.2.2.2.2.2.2.2.2.2.2.2.1) ∧ a' 19 = (4, .inl X0.2.2.2.2.2.2.2.2.2.2.2.2.2.2.2.2.2.2.2.1) ∧ a' 21 = (4, .inl X0.2.2.2.2.2.2.2.2.2.2.2.2.2.2.2.2.2.2.2.2.1) ∧ a' 23 = (4, .inl X0.2.2.2.2.2.2.2.2.2.2.2.2.2.2.2.2.2.2.2.2.2) ∧ (∀ j, nel j [1, 13, 15, 17, 19, 21, 23] = false → a' j = a0 j)) := by
  refine e_ofi (by decide) (Nat.le_of_ble_eq_true rfl) ?_
  intro p e s M args below meth c hx hb hr hG hown hin hlocks hml hW hS hE ls hl
  unfold fX11_script at hs0
  have hoff : ∀ j, nel j [8, 9, 10, 200, 201, 500, 501, 1106, 1107, 1108, 2400, 2402, 2403, 2404] = false → m0 j = m0 j := off0
  have hoffa : ∀ j, nel j [1, 13, 15, 17, 19, 21, 23] = false → a0 j = a0 j := off0
  refine lv_aload_n hx hb dX11_script_0 rfl (lv_at hl 0 rfl) ?_
  refine gf11_5 hx hb hG hown hW (o := 0) (ltN hN 0 rfl) gk0 (v := .ref (q 24)) (sh0_5 hsh) gx32 dX11_script_1 ?_
  refine gf10_0 hx hb hG hown hW (o := 24) (ltN hN 24 rfl) gk24 (v := .int x24_0) h_x24_0 gx592 dX11_script_4 ?_
  refine lv_istore_n (lv' := [(1, .int x24_0), (0, .ref (q 0))]) hx hb dX11_script_7 rfl hl (by decide) rfl (fun ls hl => ?_)
  refine lv_aload_n hx hb dX11_script_8 rfl (lv_at hl 1 rfl) ?_
  refine gf11_5 hx hb hG hown hW (o := 0) (ltN hN 0 rfl) gk0 (v := .ref (q 24)) (sh0_5 hsh) gx32 dX11_script_9 ?_
  refine lv_iconst (v := 0) hx hb dX11_script_12 (by decide) ?_
  refine gp10_0 hx hb hG hown hW hS (o := 24) (ltN hN 24 rfl) gk24 (v := 0) gx592 dX11_script_13 (fun m1 H locs hm1 ho1 hW hS => ?_)
  have ho1 := off1 ho1
  have w_x0_8 : m1 8 = .long x0_8 := (ho1 8 rfl).trans h_x0_8
  have w_x0_9 : m1 9 = .int x0_9 := (ho1 9 rfl).trans h_x0_9
  have w_x0_10 : m1 10 = .int x0_10 := (ho1 10 rfl).trans h_x0_10
  have w_x2_0 : m1 200 = .int x2_0 := (ho1 200 rfl).trans h_x2_0
  have w_x2_1 : m1 201 = .long x2_1 := (ho1 201 rfl).trans h_x2_1
  have w_x5_0 : m1 500 = .int x5_0 := (ho1 500 rfl).trans h_x5_0
  have w_x5_1 : m1 501 = .long x5_1 := (ho1 501 rfl).trans h_x5_1
  have w_x11_6 : m1 1106 = .int x11_6 := (ho1 1106 rfl).trans h_x11_6
  have w_x11_7 : m1 1107 = .int x11_7 := (ho1 1107 rfl).trans h_x11_7
  have w_x11_8 : m1 1108 = .int x11_8 := (ho1 1108 rfl).trans h_x11_8
  have w_x24_0 : m1 2400 = .int 0 := hm1
  have w_x24_2 : m1 2402 = .int x24_2 := (ho1 2402 rfl).trans h_x24_2
  have w_x24_3 : m1 2403 = .int x24_3 := (ho1 2403 rfl).trans h_x24_3
  have w_x24_4 : m1 2404 = .int x24_4 := (ho1 2404 rfl).trans h_x24_4
  have hoff := offm hoff ho1 (by decide +kernel)
  have hsh := SH.off hsh ho1 (by decide +kernel)
  refine lv_iload_n hx hb dX11_script_16 rfl (lv_at hl 0 rfl) ?_
  refine lv_sipush (v := 240) hx hb dX11_script_17 (by decide) ?_
  refine lv_icmp_le (tgt := 25) hx hb dX11_script_20 (by decide) (fun c2 => ?_) (fun c2 => ?_)
  · rw [if_pos c2] at hs0
    refine lv_aload_n hx hb dX11_script_25 rfl (lv_at hl 1 rfl) ?_
    refine gf11_5 hx hb hG hown hW (o := 0) (ltN hN 0 rfl) gk0 (v := .ref (q 24)) (sh0_5 hsh) gx32 dX11_script_26 ?_
    refine lv_iload_n hx hb dX11_script_29 rfl (lv_at hl 0 rfl) ?_
    refine lv_aload_n hx hb dX11_script_30 rfl (lv_at hl 1 rfl) ?_
    refine gf11_7 hx hb hG hown hW (o := 0) (ltN hN 0 rfl) gk0 (v := .ref (q kr)) ((hoff 7 rfl).trans hrf) gx40 dX11_script_31 ?_
    refine gf7_1 hx hb hG hown hW (o := kr) hkr hgk (v := .int xkr_1) ((off_kr hoff hgk 1 rfl (by decide)).trans h_xkr_1) gx591 dX11_script_34 ?_
    refine lv_aload_n hx hb dX11_script_37 rfl (lv_at hl 1 rfl) ?_
    refine gf11_4 hx hb hG hown hW (o := 0) (ltN hN 0 rfl) gk0 (v := .ref (q 11)) (sh0_4 hsh) gx28 dX11_script_38 ?_
    obtain ⟨r3, hf3, hs0⟩ := obind hs0
    refine g_Vie (n := 3) hx hb hml hown hG hW hS [.int x24_0, .int xkr_1, .ref (q 11)] XS.ok hE (kX10_read hN hsh ((hoffa 26 rfl).trans h_A26) w_x11_6 w_x11_7 w_x24_2 w_x24_3 w_x24_4 h_A13 h_A15 h_A17 h_A19 F x24_0 xkr_1 hf3) (ltN hN 24 rfl) gk24 (by decide) rfl rfl (gd_V gx1136 gx1137 gx1138 gx31 gx1139) rfl rfl (by decide) ⟨Nat.le_of_ble_eq_true rfl, Nat.le_of_ble_eq_true rfl⟩ rfl hl (Nat.le_of_ble_eq_true rfl) ⟨Nat.zero_le _, Nat.zero_le _⟩ dX11_script_41 (fun x3 m3 a3 H locs hp3 hW hS => ?_)
    obtain ⟨hx3, hp3_x11_6, hp3_x11_7, hp3_x24_2, hp3_x24_3, hp3_x24_4, ho3, hp3_A13, hp3_A15, hp3_A17, hp3_A19, hoa3⟩ := hp3
    subst hx3
    have w_x0_8 : m3 8 = .long x0_8 := (ho3 8 rfl).trans w_x0_8
    have w_x0_9 : m3 9 = .int x0_9 := (ho3 9 rfl).trans w_x0_9
    have w_x0_10 : m3 10 = .int x0_10 := (ho3 10 rfl).trans w_x0_10
    have w_x2_0 : m3 200 = .int x2_0 := (ho3 200 rfl).trans w_x2_0
    have w_x2_1 : m3 201 = .long x2_1 := (ho3 201 rfl).trans w_x2_1
    have w_x5_0 : m3 500 = .int x5_0 := (ho3 500 rfl).trans w_x5_0
    have w_x5_1 : m3 501 = .long x5_1 := (ho3 501 rfl).trans w_x5_1
    have w_x11_6 : m3 1106 = .int r3.2.1 := hp3_x11_6
    have w_x11_7 : m3 1107 = .int r3.2.2.1 := hp3_x11_7
    have w_x11_8 : m3 1108 = .int x11_8 := (ho3 1108 rfl).trans w_x11_8
    have w_x24_0 : m3 2400 = .int 0 := (ho3 2400 rfl).trans w_x24_0
    have w_x24_2 : m3 2402 = .int r3.2.2.2.1 := hp3_x24_2
    have w_x24_3 : m3 2403 = .int r3.2.2.2.2.1 := hp3_x24_3
    have w_x24_4 : m3 2404 = .int r3.2.2.2.2.2.1 := hp3_x24_4
    have hoff := offm hoff ho3 (by decide +kernel)
    have hsh := SH.off hsh ho3 (by decide +kernel)
    have w_A1 : a3 1 = (8, .inl A1) := (hoa3 1 rfl).trans h_A1
    have w_A13 : a3 13 = (64, .inl r3.2.2.2.2.2.2.1) := hp3_A13
    have w_A15 : a3 15 = (64, .inl r3.2.2.2.2.2.2.2.1) := hp3_A15
    have w_A17 : a3 17 = (64, .inl r3.2.2.2.2.2.2.2.2.1) := hp3_A17
    have w_A19 : a3 19 = (4, .inl r3.2.2.2.2.2.2.2.2.2) := hp3_A19
    have w_A21 : a3 21 = (4, .inl A21) := (hoa3 21 rfl).trans h_A21
    have w_A23 : a3 23 = (4, .inl A23) := (hoa3 23 rfl).trans h_A23
    have hoffa := offm hoffa hoa3 (by decide +kernel)
    refine lv_istore_n (lv' := [(2, .int r3.1), (1, .int x24_0), (0, .ref (q 0))]) hx hb dX11_script_44 rfl hl (by decide) rfl (fun ls hl => ?_)
    refine lv_iload_n hx hb dX11_script_45 rfl (lv_at hl 0 rfl) ?_
    refine lv_iconst (v := (-1)) hx hb dX11_script_46 (by decide) ?_
    refine lv_icmp_ne (tgt := 57) hx hb dX11_script_47 (by decide) (fun c4 => ?_) (fun c4 => ?_)
    · rw [if_neg c4] at hs0
      refine lv_bipush (v := (-2)) hx hb dX11_script_57 (by decide) ?_
      refine lv_iload_n hx hb dX11_script_59 rfl (lv_at hl 0 rfl) ?_
      refine lv_isub hx hb dX11_script_60 ?_
      have hs0 := Option.some.inj hs0
      subst hs0
      exact W.zret hx hb hr rfl (fun t ht hw => ⟨⟨_, (m3, a3), rfl, ⟨rfl, w_x0_8, w_x0_9, w_x0_10, w_x2_0, w_x2_1, w_x5_0, w_x5_1, w_x11_6, w_x11_7, w_x11_8, w_x24_0, w_x24_2, w_x24_3, w_x24_4, hoff, w_A1, w_A13, w_A15, w_A17, w_A19, w_A21, w_A23, hoffa⟩, g_end hW ht hw⟩, hS.F ht⟩) hS.2.2 dX11_script_61 hlocks
    · rw [if_pos c4] at hs0
      refine lv_aload_n hx hb dX11_script_50 rfl (lv_at hl 2 rfl) ?_
      obtain ⟨r5, hf5, hs0⟩ := obind hs0
      refine g_Vi (n := 0) hx hb hml hown hG hW hS [] (kX11_carryOut hN hsh hkr hgk ((hoff 7 rfl).trans hrf) w_x11_6 ((off_kr hoff hgk 0 rfl (by decide)).trans h_xkr_0) ((off_kr hoff hgk 1 rfl (by decide)).trans h_xkr_1) ((off_kr hoff hgk 2 rfl (by decide)).trans h_xkr_2) ((off_kr hoff hgk 3 rfl (by decide)).trans h_xkr_3) w_A13 w_A15 w_A17 w_x0_8 w_x0_9 w_x0_10 w_x2_0 w_x2_1 w_x5_0 w_x5_1 w_x11_7 w_x11_8 w_A1 w_A21 w_A23 F hf5) (ltN hN 0 rfl) gk0 (by decide) rfl rfl (gd_V gx1265 gx1266 gx1267 gx2 gx1268) rfl rfl (by decide) ⟨Nat.le_of_ble_eq_true rfl, Nat.le_of_ble_eq_true rfl⟩ rfl hl (Nat.le_of_ble_eq_true rfl) ⟨Nat.zero_le _, Nat.zero_le _⟩ dX11_script_51 (fun x5 m5 a5 H locs hp5 hW hS => ?_)
      obtain ⟨hx5, hp5_x0_8, hp5_x0_9, hp5_x0_10, hp5_x2_0, hp5_x2_1, hp5_x5_0, hp5_x5_1, hp5_x11_7, hp5_x11_8, ho5, hp5_A1, hp5_A21, hp5_A23, hoa5⟩ := hp5
      subst hx5
      have w_x0_8 : m5 8 = .long r5.2.1 := hp5_x0_8
      have w_x0_9 : m5 9 = .int r5.2.2.1 := hp5_x0_9
      have w_x0_10 : m5 10 = .int r5.2.2.2.1 := hp5_x0_10
      have w_x2_0 : m5 200 = .int r5.2.2.2.2.1 := hp5_x2_0
      have w_x2_1 : m5 201 = .long r5.2.2.2.2.2.1 := hp5_x2_1
      have w_x5_0 : m5 500 = .int r5.2.2.2.2.2.2.1 := hp5_x5_0
      have w_x5_1 : m5 501 = .long r5.2.2.2.2.2.2.2.1 := hp5_x5_1
      have w_x11_6 : m5 1106 = .int r3.2.1 := (ho5 1106 rfl).trans w_x11_6
      have w_x11_7 : m5 1107 = .int r5.2.2.2.2.2.2.2.2.1 := hp5_x11_7
      have w_x11_8 : m5 1108 = .int r5.2.2.2.2.2.2.2.2.2.1 := hp5_x11_8
      have w_x24_0 : m5 2400 = .int 0 := (ho5 2400 rfl).trans w_x24_0
      have w_x24_2 : m5 2402 = .int r3.2.2.2.1 := (ho5 2402 rfl).trans w_x24_2
      have w_x24_3 : m5 2403 = .int r3.2.2.2.2.1 := (ho5 2403 rfl).trans w_x24_3
      have w_x24_4 : m5 2404 = .int r3.2.2.2.2.2.1 := (ho5 2404 rfl).trans w_x24_4
      have hoff := offm hoff ho5 (by decide +kernel)
      have hsh := SH.off hsh ho5 (by decide +kernel)
      have w_A1 : a5 1 = (8, .inl r5.2.2.2.2.2.2.2.2.2.2.1) := hp5_A1
      have w_A13 : a5 13 = (64, .inl r3.2.2.2.2.2.2.1) := (hoa5 13 rfl).trans w_A13
      have w_A15 : a5 15 = (64, .inl r3.2.2.2.2.2.2.2.1) := (hoa5 15 rfl).trans w_A15
      have w_A17 : a5 17 = (64, .inl r3.2.2.2.2.2.2.2.2.1) := (hoa5 17 rfl).trans w_A17
      have w_A19 : a5 19 = (4, .inl r3.2.2.2.2.2.2.2.2.2) := (hoa5 19 rfl).trans w_A19
      have w_A21 : a5 21 = (4, .inl r5.2.2.2.2.2.2.2.2.2.2.2.1) := hp5_A21
      have w_A23 : a5 23 = (4, .inl r5.2.2.2.2.2.2.2.2.2.2.2.2) := hp5_A23
      have hoffa := offm hoffa hoa5 (by decide +kernel)
      refine lv_goto (tgt := 61) hx hb dX11_script_54 (by decide) ?_
      have hs0 := Option.some.inj hs0
      subst hs0
      exact W.zret hx hb hr rfl (fun t ht hw => ⟨⟨_, (m5, a5), rfl, ⟨rfl, w_x0_8, w_x0_9, w_x0_10, w_x2_0, w_x2_1, w_x5_0, w_x5_1, w_x11_6, w_x11_7, w_x11_8, w_x24_0, w_x24_2, w_x24_3, w_x24_4, hoff, w_A1, w_A13, w_A15, w_A17, w_A19, w_A21, w_A23, hoffa⟩, g_end hW ht hw⟩, hS.F ht⟩) hS.2.2 dX11_script_61 hlocks
  · rw [if_neg c2] at hs0
    refine lv_iconst (v := (-1)) hx hb dX11_script_23 (by decide) ?_
    have hs0 := Option.some.inj hs0
    subst hs0
    exact W.zret hx hb hr rfl (fun t ht hw => ⟨⟨_, (m1, a0), rfl, ⟨rfl, w_x0_8, w_x0_9, w_x0_10, w_x2_0, w_x2_1, w_x5_0, w_x5_1, w_x11_6, w_x11_7, w_x11_8, w_x24_0, w_x24_2, w_x24_3, w_x24_4, hoff, h_A1, h_A13, h_A15, h_A17, h_A19, h_A21, h_A23, hoffa⟩, g_end hW ht hw⟩, hS.F ht⟩) hS.2.2 dX11_script_24 hlocks
