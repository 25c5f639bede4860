/-! 30.mevery (by program): the pure function of each method, its rows, its contract -/
-- HealLinkModel.laysAll (JI)Z
def fX12_laysAll_S30 (rec : Int32 → Int32 → (Nat → Int32) → (Nat → Int32) → (Nat → Int32) → Int32 → (Nat → Int64) → (Nat → Int32) → Int64 → Int32 → Option (Int32 × Int32 × (Nat → Int64) × (Nat → Int32))) (F : Nat) (x69_0 : Int32) (x69_55 : Int32) (A100 : Nat → Int32) (A101 : Nat → Int32) (A102 : Nat → Int32) (v1 : Int64) (v3 : Int32) (v4 : Int32) (x69_27 : Int32) (A79 : Nat → Int64) (A80 : Nat → Int32) : Option (((Int32 × (Nat → Int64) × (Nat → Int32)) ⊕ (Int32 × (Nat → Int64) × (Nat → Int32)) ⊕ (Int32 × (Nat → Int64) × (Nat → Int32))) ⊕ (Int32 × Int32 × (Nat → Int64) × (Nat → Int32))) := (if inb v3 25 = true then (if (A102 v3.toNatClampNeg) ≤ v4 then some (Sum.inl (Sum.inr (Sum.inr ((x69_27, A79, A80))))) else (if inb v3 25 = true then (if inb v3 25 = true then ((fX12_packetsOf F (fX12_put v1 (A100 v3.toNatClampNeg) (A101 v3.toNatClampNeg) v4)).bind (fun r8 => (if x69_0 < r8 then some (Sum.inl (Sum.inr (Sum.inr ((x69_27, A79, A80))))) else ((fX12_lettersOf F (fX12_put v1 (A100 v3.toNatClampNeg) (A101 v3.toNatClampNeg) v4)).bind (fun r10 => (if r10 ≤ x69_0 then ((rec x69_0 x69_55 A100 A101 A102 x69_27 A79 A80 (fX12_put v1 (A100 v3.toNatClampNeg) (A101 v3.toNatClampNeg) v4) (v3 + 1)).bind (fun r12 => (if r12.1 = 0 then some (Sum.inl (Sum.inr (Sum.inl (r12.2.1, r12.2.2.1, r12.2.2.2)))) else some (Sum.inr (v4 + 1, r12.2.1, r12.2.2.1, r12.2.2.2))))) else some (Sum.inl (Sum.inl (x69_27, A79, A80))))))))) else none) else none)) else none)
def fX12_laysAll_B (rec : Int32 → Int32 → (Nat → Int32) → (Nat → Int32) → (Nat → Int32) → Int32 → (Nat → Int64) → (Nat → Int32) → Int64 → Int32 → Option (Int32 × Int32 × (Nat → Int64) × (Nat → Int32))) (F : Nat) (x69_0 : Int32) (x69_55 : Int32) (A100 : Nat → Int32) (A101 : Nat → Int32) (A102 : Nat → Int32) (x69_27 : Int32) (A79 : Nat → Int64) (A80 : Nat → Int32) (p1 : Int64) (p3 : Int32) : Option (Int32 × Int32 × (Nat → Int64) × (Nat → Int32)) := (if p3 = x69_55 then (if x69_27 = 6000 then some (0, x69_27, A79, A80) else ((fX12_comes F x69_27 A79 A80 p1).bind (fun r26 => some (1, r26.1, r26.2.1, r26.2.2)))) else (gloop (fun u2 : (Int32 × Int32 × (Nat → Int64) × (Nat → Int32)) => fX12_laysAll_S30 rec F x69_0 x69_55 A100 A101 A102 p1 p3 u2.1 u2.2.1 u2.2.2.1 u2.2.2.2) F (0, x69_27, A79, A80)).bind (Sum.elim (fun t2_85 => some (1, t2_85.1, t2_85.2.1, t2_85.2.2)) (Sum.elim (fun t2_100 => some (0, t2_100.1, t2_100.2.1, t2_100.2.2)) (fun t2_108 => some (1, t2_108.1, t2_108.2.1, t2_108.2.2)))))
theorem dX12_laysAll_0 : decode cX12_laysAll 0 = .ok (.iload_n 3, 1) := by decide +kernel
theorem dX12_laysAll_1 : decode cX12_laysAll 1 = .ok (.aload_n 0, 1) := by decide +kernel
theorem dX12_laysAll_2 : decode cX12_laysAll 2 = .ok (.getfield 333, 3) := by decide +kernel
theorem dX12_laysAll_5 : decode cX12_laysAll 5 = .ok (.if_icmp .ne 22, 3) := by decide +kernel
theorem dX12_laysAll_8 : decode cX12_laysAll 8 = .ok (.aload_n 0, 1) := by decide +kernel
theorem dX12_laysAll_9 : decode cX12_laysAll 9 = .ok (.getfield 255, 3) := by decide +kernel
theorem dX12_laysAll_12 : decode cX12_laysAll 12 = .ok (.sipush 6000, 3) := by decide +kernel
theorem dX12_laysAll_15 : decode cX12_laysAll 15 = .ok (.if_icmp .ne 5, 3) := by decide +kernel
theorem dX12_laysAll_18 : decode cX12_laysAll 18 = .ok (.iconst 0, 1) := by decide +kernel
theorem dX12_laysAll_19 : decode cX12_laysAll 19 = .ok (.ireturn, 1) := by decide +kernel
theorem dX12_laysAll_20 : decode cX12_laysAll 20 = .ok (.aload_n 0, 1) := by decide +kernel
theorem dX12_laysAll_21 : decode cX12_laysAll 21 = .ok (.lload_n 1, 1) := by decide +kernel
theorem dX12_laysAll_22 : decode cX12_laysAll 22 = .ok (.invokevirtual 264, 3) := by decide +kernel
theorem dX12_laysAll_25 : decode cX12_laysAll 25 = .ok (.iconst 1, 1) := by decide +kernel
theorem dX12_laysAll_26 : decode cX12_laysAll 26 = .ok (.ireturn, 1) := by decide +kernel
theorem dX12_laysAll_27 : decode cX12_laysAll 27 = .ok (.iconst 0, 1) := by decide +kernel
theorem dX12_laysAll_28 : decode cX12_laysAll 28 = .ok (.istore 4, 2) := by decide +kernel
theorem dX12_laysAll_30 : decode cX12_laysAll 30 = .ok (.iload 4, 2) := by decide +kernel
theorem dX12_laysAll_32 : decode cX12_laysAll 32 = .ok (.aload_n 0, 1) := by decide +kernel
theorem dX12_laysAll_33 : decode cX12_laysAll 33 = .ok (.getfield 123, 3) := by decide +kernel
theorem dX12_laysAll_36 : decode cX12_laysAll 36 = .ok (.iload_n 3, 1) := by decide +kernel
theorem dX12_laysAll_37 : decode cX12_laysAll 37 = .ok (.iaload, 1) := by decide +kernel
theorem dX12_laysAll_38 : decode cX12_laysAll 38 = .ok (.if_icmp .ge 70, 3) := by decide +kernel
theorem dX12_laysAll_41 : decode cX12_laysAll 41 = .ok (.lload_n 1, 1) := by decide +kernel
theorem dX12_laysAll_42 : decode cX12_laysAll 42 = .ok (.aload_n 0, 1) := by decide +kernel
theorem dX12_laysAll_43 : decode cX12_laysAll 43 = .ok (.getfield 117, 3) := by decide +kernel
theorem dX12_laysAll_46 : decode cX12_laysAll 46 = .ok (.iload_n 3, 1) := by decide +kernel
theorem dX12_laysAll_47 : decode cX12_laysAll 47 = .ok (.iaload, 1) := by decide +kernel
theorem dX12_laysAll_48 : decode cX12_laysAll 48 = .ok (.aload_n 0, 1) := by decide +kernel
theorem dX12_laysAll_49 : decode cX12_laysAll 49 = .ok (.getfield 120, 3) := by decide +kernel
theorem dX12_laysAll_52 : decode cX12_laysAll 52 = .ok (.iload_n 3, 1) := by decide +kernel
theorem dX12_laysAll_53 : decode cX12_laysAll 53 = .ok (.iaload, 1) := by decide +kernel
theorem dX12_laysAll_54 : decode cX12_laysAll 54 = .ok (.iload 4, 2) := by decide +kernel
theorem dX12_laysAll_56 : decode cX12_laysAll 56 = .ok (.invokestatic 129, 3) := by decide +kernel
theorem dX12_laysAll_59 : decode cX12_laysAll 59 = .ok (.lstore 5, 2) := by decide +kernel
theorem dX12_laysAll_61 : decode cX12_laysAll 61 = .ok (.lload 5, 2) := by decide +kernel
theorem dX12_laysAll_63 : decode cX12_laysAll 63 = .ok (.invokestatic 181, 3) := by decide +kernel
theorem dX12_laysAll_66 : decode cX12_laysAll 66 = .ok (.aload_n 0, 1) := by decide +kernel
theorem dX12_laysAll_67 : decode cX12_laysAll 67 = .ok (.getfield 7, 3) := by decide +kernel
theorem dX12_laysAll_70 : decode cX12_laysAll 70 = .ok (.if_icmp .gt 38, 3) := by decide +kernel
theorem dX12_laysAll_73 : decode cX12_laysAll 73 = .ok (.lload 5, 2) := by decide +kernel
theorem dX12_laysAll_75 : decode cX12_laysAll 75 = .ok (.invokestatic 189, 3) := by decide +kernel
theorem dX12_laysAll_78 : decode cX12_laysAll 78 = .ok (.aload_n 0, 1) := by decide +kernel
theorem dX12_laysAll_79 : decode cX12_laysAll 79 = .ok (.getfield 7, 3) := by decide +kernel
theorem dX12_laysAll_82 : decode cX12_laysAll 82 = .ok (.if_icmp .le 6, 3) := by decide +kernel
theorem dX12_laysAll_85 : decode cX12_laysAll 85 = .ok (.goto 23, 3) := by decide +kernel
theorem dX12_laysAll_88 : decode cX12_laysAll 88 = .ok (.aload_n 0, 1) := by decide +kernel
theorem dX12_laysAll_89 : decode cX12_laysAll 89 = .ok (.lload 5, 2) := by decide +kernel
theorem dX12_laysAll_91 : decode cX12_laysAll 91 = .ok (.iload_n 3, 1) := by decide +kernel
theorem dX12_laysAll_92 : decode cX12_laysAll 92 = .ok (.iconst 1, 1) := by decide +kernel
theorem dX12_laysAll_93 : decode cX12_laysAll 93 = .ok (.iadd, 1) := by decide +kernel
theorem dX12_laysAll_94 : decode cX12_laysAll 94 = .ok (.invokevirtual 340, 3) := by decide +kernel
theorem dX12_laysAll_97 : decode cX12_laysAll 97 = .ok (.ifCond .ne 5, 3) := by decide +kernel
theorem dX12_laysAll_100 : decode cX12_laysAll 100 = .ok (.iconst 0, 1) := by decide +kernel
theorem dX12_laysAll_101 : decode cX12_laysAll 101 = .ok (.ireturn, 1) := by decide +kernel
theorem dX12_laysAll_102 : decode cX12_laysAll 102 = .ok (.iinc 4 1, 3) := by decide +kernel
theorem dX12_laysAll_105 : decode cX12_laysAll 105 = .ok (.goto (-75), 3) := by decide +kernel
theorem dX12_laysAll_108 : decode cX12_laysAll 108 = .ok (.iconst 1, 1) := by decide +kernel
theorem dX12_laysAll_109 : decode cX12_laysAll 109 = .ok (.ireturn, 1) := by decide +kernel
set_option maxHeartbeats 4000000 in
set_option maxRecDepth 100000 in
theorem kX12_laysAll_B {l : Launch} {D : va_G} {cy : Nat → ClassId} {N : Nat} {q : Nat → Nat} {rec : Int32 → Int32 → (Nat → Int32) → (Nat → Int32) → (Nat → Int32) → Int32 → (Nat → Int64) → (Nat → Int32) → Int64 → Int32 → Option (Int32 × Int32 × (Nat → Int64) × (Nat → Int32))} {kf kl : Nat} (hrec : ∀ {m0 : Nat → Value} {a0 : Nat → vp_A} {sz : Nat} (hsh : SH q m0) {x69_0 : Int32} (h_x69_0 : m0 6900 = .int x69_0) {x69_55 : Int32} (h_x69_55 : m0 6955 = .int x69_55) {A100 : Nat → Int32} (h_A100 : a0 100 = (25, .inl A100)) {A101 : Nat → Int32} (h_A101 : a0 101 = (25, .inl A101)) {A102 : Nat → Int32} (h_A102 : a0 102 = (25, .inl A102)) {x69_27 : Int32} (h_x69_27 : m0 6927 = .int x69_27) {A79 : Nat → Int64} (h_A79 : a0 79 = (6001, .inr (.inl A79))) {A80 : Nat → Int32} (h_A80 : a0 80 = (16384, .inl A80)) (p1 : Int64) (p3 : Int32) {X0 : Int32 × Int32 × (Nat → Int64) × (Nat → Int32)} (hs0 : rec x69_0 x69_55 A100 A101 A102 x69_27 A79 A80 p1 p3 = some X0), gMi l yX12_laysAll cX12_laysAll 7 (some .boolean) ({ frames := kf, cells := 0, slots := 0, locals := kl } : Room) D cy N q m0 a0 sz [.ref (q 69), .long p1, .int p3] (fun r m' a' => r = X0.1 ∧ m' 6927 = .int X0.2.1 ∧ (∀ j, nel j [6927] = false → m' j = m0 j) ∧ a' 79 = (6001, .inr (.inl X0.2.2.1)) ∧ a' 80 = (16384, .inl X0.2.2.2) ∧ (∀ j, nel j [79, 80] = false → a' j = a0 j)))  {m0 : Nat → Value} {a0 : Nat → vp_A} {sz : Nat} (hN : 105 ≤ N) (hsh : SH q m0) {x69_0 : Int32} (h_x69_0 : m0 6900 = .int x69_0) {x69_55 : Int32} (h_x69_55 : m0 6955 = .int x69_55) {A100 : Nat → Int32} (h_A100 : a0 100 = (25, .inl A100)) {A101 : Nat → Int32} (h_A101 : a0 101 = (25, .inl A101)) {A102 : Nat → Int32} (h_A102 : a0 102 = (25, .inl A102)) {x69_27 : Int32} (h_x69_27 : m0 6927 = .int x69_27) {A79 : Nat → Int64} (h_A79 : a0 79 = (6001, .inr (.inl A79))) {A80 : Nat → Int32} (h_A80 : a0 80 = (16384, .inl A80)) (F : Nat) (p1 : Int64) (p3 : Int32) {X0 : Int32 × Int32 × (Nat → Int64) × (Nat → Int32)} (hs0 : fX12_laysAll_B rec F x69_0 x69_55 A100 A101 A102 x69_27 A79 A80 p1 p3 = some X0) : gMi l yX12_laysAll cX12_laysAll 7 (some .boolean) ({ frames := kf + 12, cells := 0, slots := 0, locals := kl + 100 } : Room) D cy N q m0 a0 sz [.ref (q 69), .long p1, .int p3] (fun r m' a' => r = X0.1 ∧ m' 6927 = .int X0.2.1 ∧ (∀ j, nel j [6927] = false → m' j = m0 j) ∧ a' 79 = (6001, .inr (.inl X0.2.2.1)) ∧ a' 80 = (16384, .inl X0.2.2.2) ∧ (∀ j, nel j [79, 80] = false → a' j = a0 j)) := by
  refine g_ofi (by decide) (Nat.le_of_ble_eq_true rfl) ?_
  intro p e s M args below meth c hx hb hr hG hown hin hlocks hml hW hS ls hl
  unfold fX12_laysAll_B at hs0
  have hoff : ∀ j, nel j [6927] = false → m0 j = m0 j := off0
  have hoffa : ∀ j, nel j [79, 80] = false → a0 j = a0 j := off0
  refine lv_iload_n hx hb dX12_laysAll_0 rfl (lv_at hl 2 rfl) ?_
  refine lv_aload_n hx hb dX12_laysAll_1 rfl (lv_at hl 0 rfl) ?_
  refine gf12_55 hx hb hG hown hW (o := 69) (ltN hN 69 rfl) gk69 (v := .int x69_55) ((hoff 6955 rfl).trans h_x69_55) gx1063 dX12_laysAll_2 ?_
  refine lv_icmp_ne (tgt := 27) hx hb dX12_laysAll_5 (by decide) (fun c1 => ?_) (fun c1 => ?_)
  · rw [if_neg c1] at hs0
    refine lv_iconst (v := 0) hx hb dX12_laysAll_27 (by decide) ?_
    refine lv_istore (lv' := [(4, .int 0), (0, .ref (q 69)), (1, .long p1), (3, .int p3)]) hx hb dX12_laysAll_28 hl (by decide) rfl (fun ls hl => ?_)
    obtain ⟨r2, hg2, hs0⟩ := obind hs0
    have hE1_85 : ∀ (t2_85 : Int32 × (Nat → Int64) × (Nat → Int32)) (hr2 : Sum.inl t2_85 = r2) (m : Nat → Value) (a : Nat → vp_A) (H : Heap) (locs : List Loc) (w_x69_27 : m 6927 = .int t2_85.1) (hoff : ∀ j, nel j [6927] = false → m j = m0 j) (hsh : SH q m) (w_A79 : a 79 = (6001, .inr (.inl t2_85.2.1))) (w_A80 : a 80 = (16384, .inl t2_85.2.2)) (hoffa : ∀ j, nel j [79, 80] = false → a j = a0 j) (ls : Array Slot) (hl : lv_has ls 7 []) (hW : GW D cy (gA N q s.heap.size) N q m a s H) (hS : va_S (gA N q s.heap.size) s.heap H locs), W p l e ({ frames := kf + 12, cells := 0, slots := 0, locals := kl + 100 } : Room) s M args below meth c H locs 0 0 (MQ below (va_Qi (fun (r : Int32) (u : (Nat → Value) × (Nat → vp_A)) => r = X0.1 ∧ u.1 6927 = .int X0.2.1 ∧ (∀ j, nel j [6927] = false → u.1 j = m0 j) ∧ u.2 79 = (6001, .inr (.inl X0.2.2.1)) ∧ u.2 80 = (16384, .inl X0.2.2.2) ∧ (∀ j, nel j [79, 80] = false → u.2 j = a0 j)) (gB D cy N q s.heap.size) (gA N q s.heap.size)) args s 0 0 (gA N q s.heap.size)) (F0 M 85 ls []) := by
      intro t2_85 hr2 m a H locs w_x69_27 hoff hsh w_A79 w_A80 hoffa ls hl hW hS
      subst hr2
      have hs0 := osum_l hs0
      refine lv_goto (tgt := 108) hx hb dX12_laysAll_85 (by decide) ?_
      refine lv_iconst (v := 1) hx hb dX12_laysAll_108 (by decide) ?_
      have hs0 := Option.some.inj hs0
      subst hs0
      exact W.zret hx hb hr rfl (fun t ht hw => ⟨⟨_, (m, a), rfl, ⟨rfl, w_x69_27, hoff, w_A79, w_A80, hoffa⟩, g_end hW ht hw⟩, hS.F ht⟩) hS.2.2 dX12_laysAll_109 hlocks
    have hE1_100 : ∀ (t2_100 : Int32 × (Nat → Int64) × (Nat → Int32)) (hr2 : Sum.inr (Sum.inl t2_100) = r2) (m : Nat → Value) (a : Nat → vp_A) (H : Heap) (locs : List Loc) (w_x69_27 : m 6927 = .int t2_100.1) (hoff : ∀ j, nel j [6927] = false → m j = m0 j) (hsh : SH q m) (w_A79 : a 79 = (6001, .inr (.inl t2_100.2.1))) (w_A80 : a 80 = (16384, .inl t2_100.2.2)) (hoffa : ∀ j, nel j [79, 80] = false → a j = a0 j) (ls : Array Slot) (hl : lv_has ls 7 []) (hW : GW D cy (gA N q s.heap.size) N q m a s H) (hS : va_S (gA N q s.heap.size) s.heap H locs), W p l e ({ frames := kf + 12, cells := 0, slots := 0, locals := kl + 100 } : Room) s M args below meth c H locs 0 0 (MQ below (va_Qi (fun (r : Int32) (u : (Nat → Value) × (Nat → vp_A)) => r = X0.1 ∧ u.1 6927 = .int X0.2.1 ∧ (∀ j, nel j [6927] = false → u.1 j = m0 j) ∧ u.2 79 = (6001, .inr (.inl X0.2.2.1)) ∧ u.2 80 = (16384, .inl X0.2.2.2) ∧ (∀ j, nel j [79, 80] = false → u.2 j = a0 j)) (gB D cy N q s.heap.size) (gA N q s.heap.size)) args s 0 0 (gA N q s.heap.size)) (F0 M 100 ls []) := by
      intro t2_100 hr2 m a H locs w_x69_27 hoff hsh w_A79 w_A80 hoffa ls hl hW hS
      subst hr2
      have hs0 := osum_r hs0
      have hs0 := osum_l hs0
      refine lv_iconst (v := 0) hx hb dX12_laysAll_100 (by decide) ?_
      have hs0 := Option.some.inj hs0
      subst hs0
      exact W.zret hx hb hr rfl (fun t ht hw => ⟨⟨_, (m, a), rfl, ⟨rfl, w_x69_27, hoff, w_A79, w_A80, hoffa⟩, g_end hW ht hw⟩, hS.F ht⟩) hS.2.2 dX12_laysAll_101 hlocks
    have hE1_108 : ∀ (t2_108 : Int32 × (Nat → Int64) × (Nat → Int32)) (hr2 : Sum.inr (Sum.inr (t2_108)) = r2) (m : Nat → Value) (a : Nat → vp_A) (H : Heap) (locs : List Loc) (w_x69_27 : m 6927 = .int t2_108.1) (hoff : ∀ j, nel j [6927] = false → m j = m0 j) (hsh : SH q m) (w_A79 : a 79 = (6001, .inr (.inl t2_108.2.1))) (w_A80 : a 80 = (16384, .inl t2_108.2.2)) (hoffa : ∀ j, nel j [79, 80] = false → a j = a0 j) (ls : Array Slot) (hl : lv_has ls 7 []) (hW : GW D cy (gA N q s.heap.size) N q m a s H) (hS : va_S (gA N q s.heap.size) s.heap H locs), W p l e ({ frames := kf + 12, cells := 0, slots := 0, locals := kl + 100 } : Room) s M args below meth c H locs 0 0 (MQ below (va_Qi (fun (r : Int32) (u : (Nat → Value) × (Nat → vp_A)) => r = X0.1 ∧ u.1 6927 = .int X0.2.1 ∧ (∀ j, nel j [6927] = false → u.1 j = m0 j) ∧ u.2 79 = (6001, .inr (.inl X0.2.2.1)) ∧ u.2 80 = (16384, .inl X0.2.2.2) ∧ (∀ j, nel j [79, 80] = false → u.2 j = a0 j)) (gB D cy N q s.heap.size) (gA N q s.heap.size)) args s 0 0 (gA N q s.heap.size)) (F0 M 108 ls []) := by
      intro t2_108 hr2 m a H locs w_x69_27 hoff hsh w_A79 w_A80 hoffa ls hl hW hS
      subst hr2
      have hs0 := osum_r hs0
      have hs0 := osum_r hs0
      refine lv_iconst (v := 1) hx hb dX12_laysAll_108 (by decide) ?_
      have hs0 := Option.some.inj hs0
      subst hs0
      exact W.zret hx hb hr rfl (fun t ht hw => ⟨⟨_, (m, a), rfl, ⟨rfl, w_x69_27, hoff, w_A79, w_A80, hoffa⟩, g_end hW ht hw⟩, hS.F ht⟩) hS.2.2 dX12_laysAll_109 hlocks
    have hL1 : ∀ (n : Nat) (v4k2 : Int32) (x69_27k2 : Int32) (A79k2 : Nat → Int64) (A80k2 : Nat → Int32) (m : Nat → Value) (a : Nat → vp_A) (H : Heap) (locs : List Loc) (w_x69_27 : m 6927 = .int x69_27k2) (hoff : ∀ j, nel j [6927] = false → m j = m0 j) (hsh : SH q m) (w_A79 : a 79 = (6001, .inr (.inl A79k2))) (w_A80 : a 80 = (16384, .inl A80k2)) (hoffa : ∀ j, nel j [79, 80] = false → a j = a0 j) (ls : Array Slot) (hl : lv_has ls 7 [(0, .ref (q 69)), (1, .long p1), (3, .int p3), (4, .int v4k2)]) (hg2 : gloop (fun u2 : (Int32 × Int32 × (Nat → Int64) × (Nat → Int32)) => fX12_laysAll_S30 rec F x69_0 x69_55 A100 A101 A102 p1 p3 u2.1 u2.2.1 u2.2.2.1 u2.2.2.2) n (v4k2, x69_27k2, A79k2, A80k2) = some r2) (hW : GW D cy (gA N q s.heap.size) N q m a s H) (hS : va_S (gA N q s.heap.size) s.heap H locs), W p l e ({ frames := kf + 12, cells := 0, slots := 0, locals := kl + 100 } : Room) s M args below meth c H locs 0 0 (MQ below (va_Qi (fun (r : Int32) (u : (Nat → Value) × (Nat → vp_A)) => r = X0.1 ∧ u.1 6927 = .int X0.2.1 ∧ (∀ j, nel j [6927] = false → u.1 j = m0 j) ∧ u.2 79 = (6001, .inr (.inl X0.2.2.1)) ∧ u.2 80 = (16384, .inl X0.2.2.2) ∧ (∀ j, nel j [79, 80] = false → u.2 j = a0 j)) (gB D cy N q s.heap.size) (gA N q s.heap.size)) args s 0 0 (gA N q s.heap.size)) (F0 M 30 ls []) := by
      intro n
      induction n with
      | zero => intro v4k2 x69_27k2 A79k2 A80k2 m a H locs w_x69_27 hoff hsh w_A79 w_A80 hoffa ls hl hg2 hW hS; exact (gl_zero hg2).elim
      | succ n ih1 =>
        intro v4k2 x69_27k2 A79k2 A80k2 m a H locs w_x69_27 hoff hsh w_A79 w_A80 hoffa ls hl hg2 hW hS
        obtain ⟨X1, hs1, hXl1, hXr1⟩ := gl_succ hg2
        have hs1 : fX12_laysAll_S30 rec F x69_0 x69_55 A100 A101 A102 p1 p3 v4k2 x69_27k2 A79k2 A80k2 = some X1 := hs1
        unfold fX12_laysAll_S30 at hs1
        refine lv_iload hx hb dX12_laysAll_30 (lv_at hl 3 rfl) ?_
        refine lv_aload_n hx hb dX12_laysAll_32 rfl (lv_at hl 0 rfl) ?_
        refine gf12_54 hx hb hG hown hW (o := 69) (ltN hN 69 rfl) gk69 (v := .ref (q 102)) (sh69_54 hsh) gx200 dX12_laysAll_33 ?_
        refine lv_iload_n hx hb dX12_laysAll_36 rfl (lv_at hl 2 rfl) ?_
        obtain ⟨hi14, hs1⟩ := oif hs1
        refine g_iald hx hb hW (o := 102) (ltN hN 102 rfl) gk102 ((hoffa 102 rfl).trans h_A102) (vin hi14) dX12_laysAll_37 ?_
        refine lv_icmp_ge (tgt := 108) hx hb dX12_laysAll_38 (by decide) (fun c15 => ?_) (fun c15 => ?_)
        · rw [if_pos c15] at hs1
          exact hE1_108 (x69_27k2, A79k2, A80k2) (hXl1 _ (Option.some.inj hs1).symm) m a _ _ w_x69_27 hoff hsh w_A79 w_A80 hoffa ls (lv_sub hl [] rfl) hW hS
        · rw [if_neg c15] at hs1
          refine lv_lload_n hx hb dX12_laysAll_41 rfl (lv_at hl 1 rfl) ?_
          refine lv_aload_n hx hb dX12_laysAll_42 rfl (lv_at hl 0 rfl) ?_
          refine gf12_52 hx hb hG hown hW (o := 69) (ltN hN 69 rfl) gk69 (v := .ref (q 100)) (sh69_52 hsh) gx198 dX12_laysAll_43 ?_
          refine lv_iload_n hx hb dX12_laysAll_46 rfl (lv_at hl 2 rfl) ?_
          obtain ⟨hi16, hs1⟩ := oif hs1
          refine g_iald hx hb hW (o := 100) (ltN hN 100 rfl) gk100 ((hoffa 100 rfl).trans h_A100) (vin hi16) dX12_laysAll_47 ?_
          refine lv_aload_n hx hb dX12_laysAll_48 rfl (lv_at hl 0 rfl) ?_
          refine gf12_53 hx hb hG hown hW (o := 69) (ltN hN 69 rfl) gk69 (v := .ref (q 101)) (sh69_53 hsh) gx199 dX12_laysAll_49 ?_
          refine lv_iload_n hx hb dX12_laysAll_52 rfl (lv_at hl 2 rfl) ?_
          obtain ⟨hi17, hs1⟩ := oif hs1
          refine g_iald hx hb hW (o := 101) (ltN hN 101 rfl) gk101 ((hoffa 101 rfl).trans h_A101) (vin hi17) dX12_laysAll_53 ?_
          refine lv_iload hx hb dX12_laysAll_54 (lv_at hl 3 rfl) ?_
          refine g_SlR (n := 4) hx hb hml hown hG hW hS [.long p1, .int (A100 p3.toNatClampNeg), .int (A101 p3.toNatClampNeg), .int v4k2] (kX12_put hN p1 (A100 p3.toNatClampNeg) (A101 p3.toNatClampNeg) v4k2) rfl (gd_S gx203 gx204 gx5 gx205) rfl rfl (by decide) ⟨(show 0 + 1 ≤ kf + 12 by omega), (show 8 + (5 + 11) + 0 ≤ kl + 100 by omega)⟩ rfl hl (Nat.le_of_ble_eq_true rfl) ⟨Nat.zero_le _, Nat.zero_le _⟩ dX12_laysAll_56 (fun H locs hW hS => ?_)
          refine lv_lstore (lv' := [(5, .long (fX12_put p1 (A100 p3.toNatClampNeg) (A101 p3.toNatClampNeg) v4k2)), (0, .ref (q 69)), (1, .long p1), (3, .int p3), (4, .int v4k2)]) hx hb dX12_laysAll_59 hl (by decide) rfl (fun ls hl => ?_)
          refine lv_lload hx hb dX12_laysAll_61 (lv_at hl 0 rfl) ?_
          obtain ⟨r19, hf19, hs1⟩ := obind hs1
          refine g_SiR (n := 1) hx hb hml hown hG hW hS [.long (fX12_put p1 (A100 p3.toNatClampNeg) (A101 p3.toNatClampNeg) v4k2)] (kX12_packetsOf hN F (fX12_put p1 (A100 p3.toNatClampNeg) (A101 p3.toNatClampNeg) v4k2) hf19) rfl (gd_S gx361 gx362 gx5 gx363) rfl rfl (by decide) ⟨(show 1 + 1 ≤ kf + 12 by omega), (show 8 + (4 + 11) + 23 ≤ kl + 100 by omega)⟩ rfl hl (Nat.le_of_ble_eq_true rfl) ⟨Nat.zero_le _, Nat.zero_le _⟩ dX12_laysAll_63 (fun H locs hW hS => ?_)
          refine lv_aload_n hx hb dX12_laysAll_66 rfl (lv_at hl 1 rfl) ?_
          refine gf12_0 hx hb hG hown hW (o := 69) (ltN hN 69 rfl) gk69 (v := .int x69_0) ((hoff 6900 rfl).trans h_x69_0) gx162 dX12_laysAll_67 ?_
          refine lv_icmp_gt (tgt := 108) hx hb dX12_laysAll_70 (by decide) (fun c20 => ?_) (fun c20 => ?_)
          · rw [if_pos c20] at hs1
            exact hE1_108 (x69_27k2, A79k2, A80k2) (hXl1 _ (Option.some.inj hs1).symm) m a _ _ w_x69_27 hoff hsh w_A79 w_A80 hoffa ls (lv_sub hl [] rfl) hW hS
          · rw [if_neg c20] at hs1
            refine lv_lload hx hb dX12_laysAll_73 (lv_at hl 0 rfl) ?_
            obtain ⟨r21, hf21, hs1⟩ := obind hs1
            refine g_SiR (n := 1) hx hb hml hown hG hW hS [.long (fX12_put p1 (A100 p3.toNatClampNeg) (A101 p3.toNatClampNeg) v4k2)] (kX12_lettersOf hN F (fX12_put p1 (A100 p3.toNatClampNeg) (A101 p3.toNatClampNeg) v4k2) hf21) rfl (gd_S gx383 gx384 gx5 gx385) rfl rfl (by decide) ⟨(show 1 + 1 ≤ kf + 12 by omega), (show 8 + (4 + 11) + 23 ≤ kl + 100 by omega)⟩ rfl hl (Nat.le_of_ble_eq_true rfl) ⟨Nat.zero_le _, Nat.zero_le _⟩ dX12_laysAll_75 (fun H locs hW hS => ?_)
            refine lv_aload_n hx hb dX12_laysAll_78 rfl (lv_at hl 1 rfl) ?_
            refine gf12_0 hx hb hG hown hW (o := 69) (ltN hN 69 rfl) gk69 (v := .int x69_0) ((hoff 6900 rfl).trans h_x69_0) gx162 dX12_laysAll_79 ?_
            refine lv_icmp_le (tgt := 88) hx hb dX12_laysAll_82 (by decide) (fun c22 => ?_) (fun c22 => ?_)
            · rw [if_pos c22] at hs1
              refine lv_aload_n hx hb dX12_laysAll_88 rfl (lv_at hl 1 rfl) ?_
              refine lv_lload hx hb dX12_laysAll_89 (lv_at hl 0 rfl) ?_
              refine lv_iload_n hx hb dX12_laysAll_91 rfl (lv_at hl 3 rfl) ?_
              refine lv_iconst (v := 1) hx hb dX12_laysAll_92 (by decide) ?_
              refine lv_iadd hx hb dX12_laysAll_93 ?_
              obtain ⟨r23, hf23, hs1⟩ := obind hs1
              refine g_Vi (n := 2) hx hb hml hown hG hW hS [.long (fX12_put p1 (A100 p3.toNatClampNeg) (A101 p3.toNatClampNeg) v4k2), .int (p3 + 1)] (hrec hsh ((hoff 6900 rfl).trans h_x69_0) ((hoff 6955 rfl).trans h_x69_55) ((hoffa 100 rfl).trans h_A100) ((hoffa 101 rfl).trans h_A101) ((hoffa 102 rfl).trans h_A102) w_x69_27 w_A79 w_A80 (fX12_put p1 (A100 p3.toNatClampNeg) (A101 p3.toNatClampNeg) v4k2) (p3 + 1) hf23) (ltN hN 69 rfl) gk69 (by decide) rfl rfl (gd_V gx1068 gx1069 gx1070 gx5 gx1071) rfl rfl (by decide) ⟨(show (kf + 0) + 1 ≤ kf + 12 by omega), (show 8 + (7 + 11) + (kl + 0) ≤ kl + 100 by omega)⟩ rfl hl (Nat.le_of_ble_eq_true rfl) ⟨Nat.zero_le _, Nat.zero_le _⟩ dX12_laysAll_94 (fun x23 m23 a23 H locs hp23 hW hS => ?_)
              obtain ⟨hx23, hp23_x69_27, ho23, hp23_A79, hp23_A80, hoa23⟩ := hp23
              subst hx23
              have w_x69_27 : m23 6927 = .int r23.2.1 := hp23_x69_27
              have hoff := offm hoff ho23 (by decide +kernel)
              have hsh := SH.off hsh ho23 (by decide +kernel)
              have w_A79 : a23 79 = (6001, .inr (.inl r23.2.2.1)) := hp23_A79
              have w_A80 : a23 80 = (16384, .inl r23.2.2.2) := hp23_A80
              have hoffa := offm hoffa hoa23 (by decide +kernel)
              refine lv_if_ne (tgt := 102) hx hb dX12_laysAll_97 (by decide) (fun c24 => ?_) (fun c24 => ?_)
              · rw [if_neg c24] at hs1
                refine lv_iinc (v := v4k2 + 1) (lv' := [(4, .int (v4k2 + 1)), (5, .long (fX12_put p1 (A100 p3.toNatClampNeg) (A101 p3.toNatClampNeg) v4k2)), (0, .ref (q 69)), (1, .long p1), (3, .int p3)]) hx hb dX12_laysAll_102 hl (k := 4) rfl rfl (by decide) rfl (fun ls hl => ?_)
                refine lv_goto (tgt := 30) hx hb dX12_laysAll_105 (by decide) ?_
                exact ih1 (v4k2 + 1) r23.2.1 r23.2.2.1 r23.2.2.2 m23 a23 _ _ w_x69_27 hoff hsh w_A79 w_A80 hoffa ls (lv_sub hl [2, 3, 4, 0] rfl) (hXr1 _ (Option.some.inj hs1).symm) hW hS
              · rw [if_pos c24] at hs1
                exact hE1_100 (r23.2.1, r23.2.2.1, r23.2.2.2) (hXl1 _ (Option.some.inj hs1).symm) m23 a23 _ _ w_x69_27 hoff hsh w_A79 w_A80 hoffa ls (lv_sub hl [] rfl) hW hS
            · rw [if_neg c22] at hs1
              exact hE1_85 (x69_27k2, A79k2, A80k2) (hXl1 _ (Option.some.inj hs1).symm) m a _ _ w_x69_27 hoff hsh w_A79 w_A80 hoffa ls (lv_sub hl [] rfl) hW hS
    exact hL1 F 0 x69_27 A79 A80 m0 a0 _ _ h_x69_27 hoff hsh h_A79 h_A80 hoffa ls (lv_sub hl [1, 2, 3, 0] rfl) hg2 hW hS
  · rw [if_pos c1] at hs0
    refine lv_aload_n hx hb dX12_laysAll_8 rfl (lv_at hl 0 rfl) ?_
    refine gf12_27 hx hb hG hown hW (o := 69) (ltN hN 69 rfl) gk69 (v := .int x69_27) h_x69_27 gx713 dX12_laysAll_9 ?_
    refine lv_sipush (v := 6000) hx hb dX12_laysAll_12 (by decide) ?_
    refine lv_icmp_ne (tgt := 20) hx hb dX12_laysAll_15 (by decide) (fun c25 => ?_) (fun c25 => ?_)
    · rw [if_neg c25] at hs0
      refine lv_aload_n hx hb dX12_laysAll_20 rfl (lv_at hl 0 rfl) ?_
      refine lv_lload_n hx hb dX12_laysAll_21 rfl (lv_at hl 1 rfl) ?_
      obtain ⟨r26, hf26, hs0⟩ := obind hs0
      refine g_Vv (n := 1) hx hb hml hown hG hW hS [.long p1] (kX12_comes hN hsh h_x69_27 h_A79 h_A80 F p1 hf26) (ltN hN 69 rfl) gk69 (by decide) rfl rfl (gd_V gx723 gx724 gx725 gx5 gx726) rfl rfl (by decide) ⟨(show 1 + 1 ≤ kf + 12 by omega), (show 8 + (4 + 11) + 23 ≤ kl + 100 by omega)⟩ rfl hl (Nat.le_of_ble_eq_true rfl) ⟨Nat.zero_le _, Nat.zero_le _⟩ dX12_laysAll_22 (fun m26 a26 H locs hp26 hW hS => ?_)
      obtain ⟨hp26_x69_27, ho26, hp26_A79, hp26_A80, hoa26⟩ := hp26
      have w_x69_27 : m26 6927 = .int r26.1 := hp26_x69_27
      have hoff := offm hoff ho26 (by decide +kernel)
      have hsh := SH.off hsh ho26 (by decide +kernel)
      have w_A79 : a26 79 = (6001, .inr (.inl r26.2.1)) := hp26_A79
      have w_A80 : a26 80 = (16384, .inl r26.2.2) := hp26_A80
      have hoffa := offm hoffa hoa26 (by decide +kernel)
      refine lv_iconst (v := 1) hx hb dX12_laysAll_25 (by decide) ?_
      have hs0 := Option.some.inj hs0
      subst hs0
      exact W.zret hx hb hr rfl (fun t ht hw => ⟨⟨_, (m26, a26), rfl, ⟨rfl, w_x69_27, hoff, w_A79, w_A80, hoffa⟩, g_end hW ht hw⟩, hS.F ht⟩) hS.2.2 dX12_laysAll_26 hlocks
    · rw [if_pos c25] at hs0
      refine lv_iconst (v := 0) hx hb dX12_laysAll_18 (by decide) ?_
      have hs0 := Option.some.inj hs0
      subst hs0
      exact W.zret hx hb hr rfl (fun t ht hw => ⟨⟨_, (m0, a0), rfl, ⟨rfl, h_x69_27, hoff, h_A79, h_A80, hoffa⟩, g_end hW ht hw⟩, hS.F ht⟩) hS.2.2 dX12_laysAll_19 hlocks
def fX12_laysAll (F : Nat) : Nat → Int32 → Int32 → (Nat → Int32) → (Nat → Int32) → (Nat → Int32) → Int32 → (Nat → Int64) → (Nat → Int32) → Int64 → Int32 → Option (Int32 × Int32 × (Nat → Int64) × (Nat → Int32))
  | 0 => fun _ _ _ _ _ _ _ _ _ _ => none
  | d + 1 => fun x69_0 x69_55 A100 A101 A102 x69_27 A79 A80 p1 p3 => fX12_laysAll_B (fX12_laysAll F d) F x69_0 x69_55 A100 A101 A102 x69_27 A79 A80 p1 p3
set_option maxHeartbeats 4000000 in
theorem kX12_laysAll_all {l : Launch} {D : va_G} {cy : Nat → ClassId} {N : Nat} {q : Nat → Nat}  (hN : 105 ≤ N) (F d : Nat) : ∀ {m0 : Nat → Value} {a0 : Nat → vp_A} {sz : Nat} (hsh : SH q m0) {x69_0 : Int32} (h_x69_0 : m0 6900 = .int x69_0) {x69_55 : Int32} (h_x69_55 : m0 6955 = .int x69_55) {A100 : Nat → Int32} (h_A100 : a0 100 = (25, .inl A100)) {A101 : Nat → Int32} (h_A101 : a0 101 = (25, .inl A101)) {A102 : Nat → Int32} (h_A102 : a0 102 = (25, .inl A102)) {x69_27 : Int32} (h_x69_27 : m0 6927 = .int x69_27) {A79 : Nat → Int64} (h_A79 : a0 79 = (6001, .inr (.inl A79))) {A80 : Nat → Int32} (h_A80 : a0 80 = (16384, .inl A80)) (p1 : Int64) (p3 : Int32) {X0 : Int32 × Int32 × (Nat → Int64) × (Nat → Int32)} (hs0 : fX12_laysAll F d x69_0 x69_55 A100 A101 A102 x69_27 A79 A80 p1 p3 = some X0), gMi l yX12_laysAll cX12_laysAll 7 (some .boolean) ({ frames := 12 * d, cells := 0, slots := 0, locals := 100 * d } : Room) D cy N q m0 a0 sz [.ref (q 69), .long p1, .int p3] (fun r m' a' => r = X0.1 ∧ m' 6927 = .int X0.2.1 ∧ (∀ j, nel j [6927] = false → m' j = m0 j) ∧ a' 79 = (6001, .inr (.inl X0.2.2.1)) ∧ a' 80 = (16384, .inl X0.2.2.2) ∧ (∀ j, nel j [79, 80] = false → a' j = a0 j)) := by
  induction d with
  | zero => intro m0 a0 sz hsh x69_0 h_x69_0 x69_55 h_x69_55 A100 h_A100 A101 h_A101 A102 h_A102 x69_27 h_x69_27 A79 h_A79 A80 h_A80 p1 p3 X0 hs0; cases hs0
  | succ d ih => intro m0 a0 sz hsh x69_0 h_x69_0 x69_55 h_x69_55 A100 h_A100 A101 h_A101 A102 h_A102 x69_27 h_x69_27 A79 h_A79 A80 h_A80 p1 p3 X0 hs0; exact kX12_laysAll_B ih hN hsh h_x69_0 h_x69_55 h_A100 h_A101 h_A102 h_x69_27 h_A79 h_A80 F p1 p3 hs0
theorem kX12_laysAll {l : Launch} {D : va_G} {cy : Nat → ClassId} {N : Nat} {q : Nat → Nat}  (hN : 105 ≤ N) (d : Nat) {m0 : Nat → Value} {a0 : Nat → vp_A} {sz : Nat} (hsh : SH q m0) {x69_0 : Int32} (h_x69_0 : m0 6900 = .int x69_0) {x69_55 : Int32} (h_x69_55 : m0 6955 = .int x69_55) {A100 : Nat → Int32} (h_A100 : a0 100 = (25, .inl A100)) {A101 : Nat → Int32} (h_A101 : a0 101 = (25, .inl A101)) {A102 : Nat → Int32} (h_A102 : a0 102 = (25, .inl A102)) {x69_27 : Int32} (h_x69_27 : m0 6927 = .int x69_27) {A79 : Nat → Int64} (h_A79 : a0 79 = (6001, .inr (.inl A79))) {A80 : Nat → Int32} (h_A80 : a0 80 = (16384, .inl A80)) (F : Nat) (p1 : Int64) (p3 : Int32) {X0 : Int32 × Int32 × (Nat → Int64) × (Nat → Int32)} (hs0 : fX12_laysAll F d x69_0 x69_55 A100 A101 A102 x69_27 A79 A80 p1 p3 = some X0) : gMi l yX12_laysAll cX12_laysAll 7 (some .boolean) ({ frames := 12 * d, cells := 0, slots := 0, locals := 100 * d } : Room) D cy N q m0 a0 sz [.ref (q 69), .long p1, .int p3] (fun r m' a' => r = X0.1 ∧ m' 6927 = .int X0.2.1 ∧ (∀ j, nel j [6927] = false → m' j = m0 j) ∧ a' 79 = (6001, .inr (.inl X0.2.2.1)) ∧ a' 80 = (16384, .inl X0.2.2.2) ∧ (∀ j, nel j [79, 80] = false → a' j = a0 j)) := kX12_laysAll_all hN F d hsh h_x69_0 h_x69_55 h_A100 h_A101 h_A102 h_x69_27 h_A79 h_A80 p1 p3 hs0
-- HealLinkModel.laysEvery ()Z
def fX12_laysEvery_S29 (F : Nat) (x69_0 : Int32) (x69_1 : Int32) (x69_2 : Int32) (x69_3 : Int32) (x69_22 : Int32) (x69_55 : Int32) (A100 : Nat → Int32) (A101 : Nat → Int32) (A102 : Nat → Int32) (v1 : Int32) (x69_19 : Int64) (x69_20 : Int32) (x69_21 : Int32) (x69_27 : Int32) (x69_35 : Int32) (A76 : Nat → Int32) (A77 : Nat → Int32) (A78 : Nat → Int32) (A79 : Nat → Int64) (A80 : Nat → Int32) (A81 : Nat → Int32) (A82 : Nat → Int32) (A83 : Nat → Int32) (A84 : Nat → Int32) (A85 : Nat → Int32) (A86 : Nat → Int32) : Option ((Int64 × Int32 × Int32 × Int32 × Int32 × (Nat → Int32) × (Nat → Int32) × (Nat → Int32) × (Nat → Int64) × (Nat → Int32) × (Nat → Int32) × (Nat → Int32) × (Nat → Int32) × (Nat → Int32) × (Nat → Int32) × (Nat → Int32)) ⊕ (Int32 × Int64 × Int32 × Int32 × Int32 × Int32 × (Nat → Int32) × (Nat → Int32) × (Nat → Int32) × (Nat → Int64) × (Nat → Int32) × (Nat → Int32) × (Nat → Int32) × (Nat → Int32) × (Nat → Int32) × (Nat → Int32) × (Nat → Int32))) := (if x69_27 ≤ v1 then some (Sum.inl (x69_19, x69_20, x69_21, x69_27, x69_35, A76, A77, A78, A79, A80, A81, A82, A83, A84, A85, A86)) else ((fX12_edgesOf F x69_0 x69_1 x69_3 x69_22 x69_19 x69_20 x69_21 x69_27 x69_35 A76 A77 A78 A79 A80 A81 A82 A83 A84 A85 A86 v1).bind (fun r8 => some (Sum.inr (v1 + 1, r8.2.1, r8.2.2.1, r8.2.2.2.1, r8.2.2.2.2.1, r8.2.2.2.2.2.1, r8.2.2.2.2.2.2.1, r8.2.2.2.2.2.2.2.1, r8.2.2.2.2.2.2.2.2.1, r8.2.2.2.2.2.2.2.2.2.1, r8.2.2.2.2.2.2.2.2.2.2.1, r8.2.2.2.2.2.2.2.2.2.2.2.1, r8.2.2.2.2.2.2.2.2.2.2.2.2.1, r8.2.2.2.2.2.2.2.2.2.2.2.2.2.1, r8.2.2.2.2.2.2.2.2.2.2.2.2.2.2.1, r8.2.2.2.2.2.2.2.2.2.2.2.2.2.2.2.1, r8.2.2.2.2.2.2.2.2.2.2.2.2.2.2.2.2)))))
def fX12_laysEvery (F : Nat) (x69_0 : Int32) (x69_1 : Int32) (x69_2 : Int32) (x69_3 : Int32) (x69_19 : Int64) (x69_20 : Int32) (x69_21 : Int32) (x69_22 : Int32) (x69_27 : Int32) (x69_35 : Int32) (x69_55 : Int32) (A76 : Nat → Int32) (A77 : Nat → Int32) (A78 : Nat → Int32) (A79 : Nat → Int64) (A80 : Nat → Int32) (A81 : Nat → Int32) (A82 : Nat → Int32) (A83 : Nat → Int32) (A84 : Nat → Int32) (A85 : Nat → Int32) (A86 : Nat → Int32) (A100 : Nat → Int32) (A101 : Nat → Int32) (A102 : Nat → Int32) : Option (Int32 × Int64 × Int32 × Int32 × Int32 × Int32 × Int32 × Int32 × (Nat → Int32) × (Nat → Int32) × (Nat → Int32) × (Nat → Int64) × (Nat → Int32) × (Nat → Int32) × (Nat → Int32) × (Nat → Int32) × (Nat → Int32) × (Nat → Int32) × (Nat → Int32) × (Nat → Int32) × (Nat → Int32) × (Nat → Int32)) := ((fX12_begins F x69_27 x69_35 A80).bind (fun r2 => ((fX12_laysDigits F x69_0 x69_1 x69_2 x69_3 x69_55 A100 A101 A102).bind (fun r3 => ((fX12_laysAll F 26 x69_0 r3.1 r3.2.1 r3.2.2.1 r3.2.2.2 r2.1 A79 r2.2.2 0 0).bind (fun r4 => (if r4.1 = 0 then some (0, x69_19, x69_20, x69_21, x69_2, r4.2.1, r2.2.1, r3.1, A76, A77, A78, r4.2.2.1, r4.2.2.2, A81, A82, A83, A84, A85, A86, r3.2.1, r3.2.2.1, r3.2.2.2) else (gloop (fun u6 : (Int32 × Int64 × Int32 × Int32 × Int32 × Int32 × (Nat → Int32) × (Nat → Int32) × (Nat → Int32) × (Nat → Int64) × (Nat → Int32) × (Nat → Int32) × (Nat → Int32) × (Nat → Int32) × (Nat → Int32) × (Nat → Int32) × (Nat → Int32)) => fX12_laysEvery_S29 F x69_0 x69_1 x69_2 x69_3 x69_2 r3.1 r3.2.1 r3.2.2.1 r3.2.2.2 u6.1 u6.2.1 u6.2.2.1 u6.2.2.2.1 u6.2.2.2.2.1 u6.2.2.2.2.2.1 u6.2.2.2.2.2.2.1 u6.2.2.2.2.2.2.2.1 u6.2.2.2.2.2.2.2.2.1 u6.2.2.2.2.2.2.2.2.2.1 u6.2.2.2.2.2.2.2.2.2.2.1 u6.2.2.2.2.2.2.2.2.2.2.2.1 u6.2.2.2.2.2.2.2.2.2.2.2.2.1 u6.2.2.2.2.2.2.2.2.2.2.2.2.2.1 u6.2.2.2.2.2.2.2.2.2.2.2.2.2.2.1 u6.2.2.2.2.2.2.2.2.2.2.2.2.2.2.2.1 u6.2.2.2.2.2.2.2.2.2.2.2.2.2.2.2.2) F (0, x69_19, x69_20, x69_21, r4.2.1, r2.2.1, A76, A77, A78, r4.2.2.1, r4.2.2.2, A81, A82, A83, A84, A85, A86)).bind (fun t6_49 => some (1, t6_49.1, t6_49.2.1, t6_49.2.2.1, x69_2, t6_49.2.2.2.1, t6_49.2.2.2.2.1, r3.1, t6_49.2.2.2.2.2.1, t6_49.2.2.2.2.2.2.1, t6_49.2.2.2.2.2.2.2.1, t6_49.2.2.2.2.2.2.2.2.1, t6_49.2.2.2.2.2.2.2.2.2.1, t6_49.2.2.2.2.2.2.2.2.2.2.1, t6_49.2.2.2.2.2.2.2.2.2.2.2.1, t6_49.2.2.2.2.2.2.2.2.2.2.2.2.1, t6_49.2.2.2.2.2.2.2.2.2.2.2.2.2.1, t6_49.2.2.2.2.2.2.2.2.2.2.2.2.2.2.1, t6_49.2.2.2.2.2.2.2.2.2.2.2.2.2.2.2, r3.2.1, r3.2.2.1, r3.2.2.2)))))))))
theorem dX12_laysEvery_0 : decode cX12_laysEvery 0 = .ok (.aload_n 0, 1) := by decide +kernel
theorem dX12_laysEvery_1 : decode cX12_laysEvery 1 = .ok (.aload_n 0, 1) := by decide +kernel
theorem dX12_laysEvery_2 : decode cX12_laysEvery 2 = .ok (.getfield 16, 3) := by decide +kernel
theorem dX12_laysEvery_5 : decode cX12_laysEvery 5 = .ok (.putfield 213, 3) := by decide +kernel
theorem dX12_laysEvery_8 : decode cX12_laysEvery 8 = .ok (.aload_n 0, 1) := by decide +kernel
theorem dX12_laysEvery_9 : decode cX12_laysEvery 9 = .ok (.invokevirtual 272, 3) := by decide +kernel
theorem dX12_laysEvery_12 : decode cX12_laysEvery 12 = .ok (.aload_n 0, 1) := by decide +kernel
theorem dX12_laysEvery_13 : decode cX12_laysEvery 13 = .ok (.invokevirtual 343, 3) := by decide +kernel
theorem dX12_laysEvery_16 : decode cX12_laysEvery 16 = .ok (.aload_n 0, 1) := by decide +kernel
theorem dX12_laysEvery_17 : decode cX12_laysEvery 17 = .ok (.lconst 0, 1) := by decide +kernel
theorem dX12_laysEvery_18 : decode cX12_laysEvery 18 = .ok (.iconst 0, 1) := by decide +kernel
theorem dX12_laysEvery_19 : decode cX12_laysEvery 19 = .ok (.invokevirtual 340, 3) := by decide +kernel
theorem dX12_laysEvery_22 : decode cX12_laysEvery 22 = .ok (.ifCond .ne 5, 3) := by decide +kernel
theorem dX12_laysEvery_25 : decode cX12_laysEvery 25 = .ok (.iconst 0, 1) := by decide +kernel
theorem dX12_laysEvery_26 : decode cX12_laysEvery 26 = .ok (.ireturn, 1) := by decide +kernel
theorem dX12_laysEvery_27 : decode cX12_laysEvery 27 = .ok (.iconst 0, 1) := by decide +kernel
theorem dX12_laysEvery_28 : decode cX12_laysEvery 28 = .ok (.istore_n 1, 1) := by decide +kernel
theorem dX12_laysEvery_29 : decode cX12_laysEvery 29 = .ok (.iload_n 1, 1) := by decide +kernel
theorem dX12_laysEvery_30 : decode cX12_laysEvery 30 = .ok (.aload_n 0, 1) := by decide +kernel
theorem dX12_laysEvery_31 : decode cX12_laysEvery 31 = .ok (.getfield 255, 3) := by decide +kernel
theorem dX12_laysEvery_34 : decode cX12_laysEvery 34 = .ok (.if_icmp .ge 15, 3) := by decide +kernel
theorem dX12_laysEvery_37 : decode cX12_laysEvery 37 = .ok (.aload_n 0, 1) := by decide +kernel
theorem dX12_laysEvery_38 : decode cX12_laysEvery 38 = .ok (.iload_n 1, 1) := by decide +kernel
theorem dX12_laysEvery_39 : decode cX12_laysEvery 39 = .ok (.invokevirtual 275, 3) := by decide +kernel
theorem dX12_laysEvery_42 : decode cX12_laysEvery 42 = .ok (.pop, 1) := by decide +kernel
theorem dX12_laysEvery_43 : decode cX12_laysEvery 43 = .ok (.iinc 1 1, 3) := by decide +kernel
theorem dX12_laysEvery_46 : decode cX12_laysEvery 46 = .ok (.goto (-17), 3) := by decide +kernel
theorem dX12_laysEvery_49 : decode cX12_laysEvery 49 = .ok (.iconst 1, 1) := by decide +kernel
theorem dX12_laysEvery_50 : decode cX12_laysEvery 50 = .ok (.ireturn, 1) := by decide +kernel
set_option maxHeartbeats 4000000 in
set_option maxRecDepth 100000 in
theorem kX12_laysEvery {l : Launch} {D : va_G} {cy : Nat → ClassId} {N : Nat} {q : Nat → Nat} {m0 : Nat → Value} {a0 : Nat → vp_A} {sz : Nat} (hN : 105 ≤ N) (hsh : SH q m0) {x69_0 : Int32} (h_x69_0 : m0 6900 = .int x69_0) {x69_1 : Int32} (h_x69_1 : m0 6901 = .int x69_1) {x69_2 : Int32} (h_x69_2 : m0 6902 = .int x69_2) {x69_3 : Int32} (h_x69_3 : m0 6903 = .int x69_3) {x69_19 : Int64} (h_x69_19 : m0 6919 = .long x69_19) {x69_20 : Int32} (h_x69_20 : m0 6920 = .int x69_20) {x69_21 : Int32} (h_x69_21 : m0 6921 = .int x69_21) {x69_22 : Int32} (h_x69_22 : m0 6922 = .int x69_22) {x69_27 : Int32} (h_x69_27 : m0 6927 = .int x69_27) {x69_35 : Int32} (h_x69_35 : m0 6935 = .int x69_35) {x69_55 : Int32} (h_x69_55 : m0 6955 = .int x69_55) {A76 : Nat → Int32} (h_A76 : a0 76 = (40, .inl A76)) {A77 : Nat → Int32} (h_A77 : a0 77 = (40, .inl A77)) {A78 : Nat → Int32} (h_A78 : a0 78 = (40, .inl A78)) {A79 : Nat → Int64} (h_A79 : a0 79 = (6001, .inr (.inl A79))) {A80 : Nat → Int32} (h_A80 : a0 80 = (16384, .inl A80)) {A81 : Nat → Int32} (h_A81 : a0 81 = (6002, .inl A81)) {A82 : Nat → Int32} (h_A82 : a0 82 = (84000, .inl A82)) {A83 : Nat → Int32} (h_A83 : a0 83 = (84000, .inl A83)) {A84 : Nat → Int32} (h_A84 : a0 84 = (84000, .inl A84)) {A85 : Nat → Int32} (h_A85 : a0 85 = (84000, .inl A85)) {A86 : Nat → Int32} (h_A86 : a0 86 = (84000, .inl A86)) {A100 : Nat → Int32} (h_A100 : a0 100 = (25, .inl A100)) {A101 : Nat → Int32} (h_A101 : a0 101 = (25, .inl A101)) {A102 : Nat → Int32} (h_A102 : a0 102 = (25, .inl A102)) (F : Nat) {X0 : Int32 × Int64 × Int32 × Int32 × Int32 × Int32 × Int32 × Int32 × (Nat → Int32) × (Nat → Int32) × (Nat → Int32) × (Nat → Int64) × (Nat → Int32) × (Nat → Int32) × (Nat → Int32) × (Nat → Int32) × (Nat → Int32) × (Nat → Int32) × (Nat → Int32) × (Nat → Int32) × (Nat → Int32) × (Nat → Int32)} (hs0 : fX12_laysEvery F x69_0 x69_1 x69_2 x69_3 x69_19 x69_20 x69_21 x69_22 x69_27 x69_35 x69_55 A76 A77 A78 A79 A80 A81 A82 A83 A84 A85 A86 A100 A101 A102 = some X0) : gMi l yX12_laysEvery cX12_laysEvery 2 (some .boolean) ({ frames := 313, cells := 0, slots := 0, locals := 2626 } : Room) D cy N q m0 a0 sz [.ref (q 69)] (fun r m' a' => r = X0.1 ∧ m' 6919 = .long X0.2.1 ∧ m' 6920 = .int X0.2.2.1 ∧ m' 6921 = .int X0.2.2.2.1 ∧ m' 6922 = .int X0.2.2.2.2.1 ∧ m' 6927 = .int X0.2.2.2.2.2.1 ∧ m' 6935 = .int X0.2.2.2.2.2.2.1 ∧ m' 6955 = .int X0.2.2.2.2.2.2.2.1 ∧ (∀ j, nel j [6919, 6920, 6921, 6922, 6927, 6935, 6955] = false → m' j = m0 j) ∧ a' 76 = (40, .inl X0.2.2.2.2.2.2.2.2.1) ∧ a' 77 = (40, .inl X0.2.2.2.2.2.2.2.2.2.1) ∧ a' 78 = (40, .inl X0.2.2.2.2.2.2.2.2.2.2.1) ∧ a' 79 = (6001, .inr (.inl X0.2.2.2.2.2.2.2.2.2.2.2.1)) ∧ a' 80 = (16384, .inl X0.2.2.2.2.2.2.2.2.2.2.2.2.1) ∧ a' 81 = (6002, .inl X0.2.2.2.2.2.2.2.2.2.2.2.2.2.1) ∧ a' 82 = (84000, .inl X0.2.2.2.2.2.2.2.2.2.2.2.2.2.2.1) ∧ a' 83 = (84000, .inl X0.2.2.2.2.2.2.2.2.2.2.2.2.2.2.2.1) ∧ a' 84 = (84000, .inl X0.2.2.2.2.2.2.2.2.2.2.2.2.2.2.2.2.1) ∧ a' 85 = (84000, .inl X0.2.2.2.2.2.2.2.2.2.2.2.2.2.2.2.2.2.1) ∧ a' 86 = (84000, .inl X0.2.2.2.2.2.2.2.2.2.2.2.2.2.2.2.2.2.2.1) ∧ a' 100 = (25, .inl X0.2.2.2.2.2.2.2.2.2.2.2.2.2.2.2.2.2.2.2.1) ∧ a' 101 = (25, .inl X0.2.2.2.2.2.2.2.2.2.2.2.2.2.2.2.2.2.2.2.2.1) ∧ a' 102 = (25, .inl X0.2.2.2.2.2.2.2.2.2.2.2.2.2.2.2.2.2.2.2.2.2) ∧ (∀ j, nel j [76, 77, 78, 79, 80, 81, 82, 83, 84, 85, 86, 100, 101, 102] = false → a' j = a0 j)) := by
  refine g_ofi (by decide) (Nat.le_of_ble_eq_true rfl) ?_
  intro p e s M args below meth c hx hb hr hG hown hin hlocks hml hW hS ls hl
  unfold fX12_laysEvery at hs0
  have hoff : ∀ j, nel j [6919, 6920, 6921, 6922, 6927, 6935, 6955] = false → m0 j = m0 j := off0
  have hoffa : ∀ j, nel j [76, 77, 78, 79, 80, 81, 82, 83, 84, 85, 86, 100, 101, 102] = false → a0 j = a0 j := off0
  refine lv_aload_n hx hb dX12_laysEvery_0 rfl (lv_at hl 0 rfl) ?_
  refine lv_aload_n hx hb dX12_laysEvery_1 rfl (lv_at hl 0 rfl) ?_
  refine gf12_2 hx hb hG hown hW (o := 69) (ltN hN 69 rfl) gk69 (v := .int x69_2) ((hoff 6902 rfl).trans h_x69_2) gx164 dX12_laysEvery_2 ?_
  refine gp12_22 hx hb hG hown hW hS (o := 69) (ltN hN 69 rfl) gk69 (v := x69_2) gx505 dX12_laysEvery_5 (fun m1 H locs hm1 ho1 hW hS => ?_)
  have ho1 := off1 ho1
  have w_x69_19 : m1 6919 = .long x69_19 := (ho1 6919 rfl).trans h_x69_19
  have w_x69_20 : m1 6920 = .int x69_20 := (ho1 6920 rfl).trans h_x69_20
  have w_x69_21 : m1 6921 = .int x69_21 := (ho1 6921 rfl).trans h_x69_21
  have w_x69_22 : m1 6922 = .int x69_2 := hm1
  have w_x69_27 : m1 6927 = .int x69_27 := (ho1 6927 rfl).trans h_x69_27
  have w_x69_35 : m1 6935 = .int x69_35 := (ho1 6935 rfl).trans h_x69_35
  have w_x69_55 : m1 6955 = .int x69_55 := (ho1 6955 rfl).trans h_x69_55
  have hoff := offm hoff ho1 (by decide +kernel)
  have hsh := SH.off hsh ho1 (by decide +kernel)
  refine lv_aload_n hx hb dX12_laysEvery_8 rfl (lv_at hl 0 rfl) ?_
  obtain ⟨r2, hf2, hs0⟩ := obind hs0
  refine g_Vv (n := 0) hx hb hml hown hG hW hS [] (kX12_begins hN hsh w_x69_27 w_x69_35 h_A80 F hf2) (ltN hN 69 rfl) gk69 (by decide) rfl rfl (gd_V gx718 gx719 gx720 gx5 gx721) rfl rfl (by decide) ⟨Nat.le_of_ble_eq_true rfl, Nat.le_of_ble_eq_true rfl⟩ rfl hl (Nat.le_of_ble_eq_true rfl) ⟨Nat.zero_le _, Nat.zero_le _⟩ dX12_laysEvery_9 (fun m2 a2 H locs hp2 hW hS => ?_)
  obtain ⟨hp2_x69_27, hp2_x69_35, ho2, hp2_A80, hoa2⟩ := hp2
  have w_x69_19 : m2 6919 = .long x69_19 := (ho2 6919 rfl).trans w_x69_19
  have w_x69_20 : m2 6920 = .int x69_20 := (ho2 6920 rfl).trans w_x69_20
  have w_x69_21 : m2 6921 = .int x69_21 := (ho2 6921 rfl).trans w_x69_21
  have w_x69_22 : m2 6922 = .int x69_2 := (ho2 6922 rfl).trans w_x69_22
  have w_x69_27 : m2 6927 = .int r2.1 := hp2_x69_27
  have w_x69_35 : m2 6935 = .int r2.2.1 := hp2_x69_35
  have w_x69_55 : m2 6955 = .int x69_55 := (ho2 6955 rfl).trans w_x69_55
  have hoff := offm hoff ho2 (by decide +kernel)
  have hsh := SH.off hsh ho2 (by decide +kernel)
  have w_A76 : a2 76 = (40, .inl A76) := (hoa2 76 rfl).trans h_A76
  have w_A77 : a2 77 = (40, .inl A77) := (hoa2 77 rfl).trans h_A77
  have w_A78 : a2 78 = (40, .inl A78) := (hoa2 78 rfl).trans h_A78
  have w_A79 : a2 79 = (6001, .inr (.inl A79)) := (hoa2 79 rfl).trans h_A79
  have w_A80 : a2 80 = (16384, .inl r2.2.2) := hp2_A80
  have w_A81 : a2 81 = (6002, .inl A81) := (hoa2 81 rfl).trans h_A81
  have w_A82 : a2 82 = (84000, .inl A82) := (hoa2 82 rfl).trans h_A82
  have w_A83 : a2 83 = (84000, .inl A83) := (hoa2 83 rfl).trans h_A83
  have w_A84 : a2 84 = (84000, .inl A84) := (hoa2 84 rfl).trans h_A84
  have w_A85 : a2 85 = (84000, .inl A85) := (hoa2 85 rfl).trans h_A85
  have w_A86 : a2 86 = (84000, .inl A86) := (hoa2 86 rfl).trans h_A86
  have w_A100 : a2 100 = (25, .inl A100) := (hoa2 100 rfl).trans h_A100
  have w_A101 : a2 101 = (25, .inl A101) := (hoa2 101 rfl).trans h_A101
  have w_A102 : a2 102 = (25, .inl A102) := (hoa2 102 rfl).trans h_A102
  have hoffa := offm hoffa hoa2 (by decide +kernel)
  refine lv_aload_n hx hb dX12_laysEvery_12 rfl (lv_at hl 0 rfl) ?_
  obtain ⟨r3, hf3, hs0⟩ := obind hs0
  refine g_Vv (n := 0) hx hb hml hown hG hW hS [] (kX12_laysDigits hN hsh ((hoff 6900 rfl).trans h_x69_0) ((hoff 6901 rfl).trans h_x69_1) ((hoff 6902 rfl).trans h_x69_2) ((hoff 6903 rfl).trans h_x69_3) w_x69_55 w_A100 w_A101 w_A102 F hf3) (ltN hN 69 rfl) gk69 (by decide) rfl rfl (gd_V gx1059 gx1060 gx1061 gx5 gx1062) rfl rfl (by decide) ⟨Nat.le_of_ble_eq_true rfl, Nat.le_of_ble_eq_true rfl⟩ rfl hl (Nat.le_of_ble_eq_true rfl) ⟨Nat.zero_le _, Nat.zero_le _⟩ dX12_laysEvery_13 (fun m3 a3 H locs hp3 hW hS => ?_)
  obtain ⟨hp3_x69_55, ho3, hp3_A100, hp3_A101, hp3_A102, hoa3⟩ := hp3
  have w_x69_19 : m3 6919 = .long x69_19 := (ho3 6919 rfl).trans w_x69_19
  have w_x69_20 : m3 6920 = .int x69_20 := (ho3 6920 rfl).trans w_x69_20
  have w_x69_21 : m3 6921 = .int x69_21 := (ho3 6921 rfl).trans w_x69_21
  have w_x69_22 : m3 6922 = .int x69_2 := (ho3 6922 rfl).trans w_x69_22
  have w_x69_27 : m3 6927 = .int r2.1 := (ho3 6927 rfl).trans w_x69_27
  have w_x69_35 : m3 6935 = .int r2.2.1 := (ho3 6935 rfl).trans w_x69_35
  have w_x69_55 : m3 6955 = .int r3.1 := hp3_x69_55
  have hoff := offm hoff ho3 (by decide +kernel)
  have hsh := SH.off hsh ho3 (by decide +kernel)
  have w_A76 : a3 76 = (40, .inl A76) := (hoa3 76 rfl).trans w_A76
  have w_A77 : a3 77 = (40, .inl A77) := (hoa3 77 rfl).trans w_A77
  have w_A78 : a3 78 = (40, .inl A78) := (hoa3 78 rfl).trans w_A78
  have w_A79 : a3 79 = (6001, .inr (.inl A79)) := (hoa3 79 rfl).trans w_A79
  have w_A80 : a3 80 = (16384, .inl r2.2.2) := (hoa3 80 rfl).trans w_A80
  have w_A81 : a3 81 = (6002, .inl A81) := (hoa3 81 rfl).trans w_A81
  have w_A82 : a3 82 = (84000, .inl A82) := (hoa3 82 rfl).trans w_A82
  have w_A83 : a3 83 = (84000, .inl A83) := (hoa3 83 rfl).trans w_A83
  have w_A84 : a3 84 = (84000, .inl A84) := (hoa3 84 rfl).trans w_A84
  have w_A85 : a3 85 = (84000, .inl A85) := (hoa3 85 rfl).trans w_A85
  have w_A86 : a3 86 = (84000, .inl A86) := (hoa3 86 rfl).trans w_A86
  have w_A100 : a3 100 = (25, .inl r3.2.1) := hp3_A100
  have w_A101 : a3 101 = (25, .inl r3.2.2.1) := hp3_A101
  have w_A102 : a3 102 = (25, .inl r3.2.2.2) := hp3_A102
  have hoffa := offm hoffa hoa3 (by decide +kernel)
  refine lv_aload_n hx hb dX12_laysEvery_16 rfl (lv_at hl 0 rfl) ?_
  refine lv_lconst (v := 0) hx hb dX12_laysEvery_17 (by decide) ?_
  refine lv_iconst (v := 0) hx hb dX12_laysEvery_18 (by decide) ?_
  obtain ⟨r4, hf4, hs0⟩ := obind hs0
  refine g_Vi (n := 2) hx hb hml hown hG hW hS [.long 0, .int 0] (kX12_laysAll hN 26 hsh ((hoff 6900 rfl).trans h_x69_0) w_x69_55 w_A100 w_A101 w_A102 w_x69_27 w_A79 w_A80 F 0 0 hf4) (ltN hN 69 rfl) gk69 (by decide) rfl rfl (gd_V gx1068 gx1069 gx1070 gx5 gx1071) rfl rfl (by decide) ⟨Nat.le_of_ble_eq_true rfl, Nat.le_of_ble_eq_true rfl⟩ rfl hl (Nat.le_of_ble_eq_true rfl) ⟨Nat.zero_le _, Nat.zero_le _⟩ dX12_laysEvery_19 (fun x4 m4 a4 H locs hp4 hW hS => ?_)
  obtain ⟨hx4, hp4_x69_27, ho4, hp4_A79, hp4_A80, hoa4⟩ := hp4
  subst hx4
  have w_x69_19 : m4 6919 = .long x69_19 := (ho4 6919 rfl).trans w_x69_19
  have w_x69_20 : m4 6920 = .int x69_20 := (ho4 6920 rfl).trans w_x69_20
  have w_x69_21 : m4 6921 = .int x69_21 := (ho4 6921 rfl).trans w_x69_21
  have w_x69_22 : m4 6922 = .int x69_2 := (ho4 6922 rfl).trans w_x69_22
  have w_x69_27 : m4 6927 = .int r4.2.1 := hp4_x69_27
  have w_x69_35 : m4 6935 = .int r2.2.1 := (ho4 6935 rfl).trans w_x69_35
  have w_x69_55 : m4 6955 = .int r3.1 := (ho4 6955 rfl).trans w_x69_55
  have hoff := offm hoff ho4 (by decide +kernel)
  have hsh := SH.off hsh ho4 (by decide +kernel)
  have w_A76 : a4 76 = (40, .inl A76) := (hoa4 76 rfl).trans w_A76
  have w_A77 : a4 77 = (40, .inl A77) := (hoa4 77 rfl).trans w_A77
  have w_A78 : a4 78 = (40, .inl A78) := (hoa4 78 rfl).trans w_A78
  have w_A79 : a4 79 = (6001, .inr (.inl r4.2.2.1)) := hp4_A79
  have w_A80 : a4 80 = (16384, .inl r4.2.2.2) := hp4_A80
  have w_A81 : a4 81 = (6002, .inl A81) := (hoa4 81 rfl).trans w_A81
  have w_A82 : a4 82 = (84000, .inl A82) := (hoa4 82 rfl).trans w_A82
  have w_A83 : a4 83 = (84000, .inl A83) := (hoa4 83 rfl).trans w_A83
  have w_A84 : a4 84 = (84000, .inl A84) := (hoa4 84 rfl).trans w_A84
  have w_A85 : a4 85 = (84000, .inl A85) := (hoa4 85 rfl).trans w_A85
  have w_A86 : a4 86 = (84000, .inl A86) := (hoa4 86 rfl).trans w_A86
  have w_A100 : a4 100 = (25, .inl r3.2.1) := (hoa4 100 rfl).trans w_A100
  have w_A101 : a4 101 = (25, .inl r3.2.2.1) := (hoa4 101 rfl).trans w_A101
  have w_A102 : a4 102 = (25, .inl r3.2.2.2) := (hoa4 102 rfl).trans w_A102
  have hoffa := offm hoffa hoa4 (by decide +kernel)
  refine lv_if_ne (tgt := 27) hx hb dX12_laysEvery_22 (by decide) (fun c5 => ?_) (fun c5 => ?_)
  · rw [if_neg c5] at hs0
    refine lv_iconst (v := 0) hx hb dX12_laysEvery_27 (by decide) ?_
    refine lv_istore_n (lv' := [(1, .int 0), (0, .ref (q 69))]) hx hb dX12_laysEvery_28 rfl hl (by decide) rfl (fun ls hl => ?_)
    obtain ⟨r6, hg6, hs0⟩ := obind hs0
    have hE1_49 : ∀ (t6_49 : Int64 × Int32 × Int32 × Int32 × Int32 × (Nat → Int32) × (Nat → Int32) × (Nat → Int32) × (Nat → Int64) × (Nat → Int32) × (Nat → Int32) × (Nat → Int32) × (Nat → Int32) × (Nat → Int32) × (Nat → Int32) × (Nat → Int32)) (hr6 : t6_49 = r6) (m : Nat → Value) (a : Nat → vp_A) (H : Heap) (locs : List Loc) (w_x69_19 : m 6919 = .long t6_49.1) (w_x69_20 : m 6920 = .int t6_49.2.1) (w_x69_21 : m 6921 = .int t6_49.2.2.1) (w_x69_22 : m 6922 = .int x69_2) (w_x69_27 : m 6927 = .int t6_49.2.2.2.1) (w_x69_35 : m 6935 = .int t6_49.2.2.2.2.1) (w_x69_55 : m 6955 = .int r3.1) (hoff : ∀ j, nel j [6919, 6920, 6921, 6922, 6927, 6935, 6955] = false → m j = m0 j) (hsh : SH q m) (w_A76 : a 76 = (40, .inl t6_49.2.2.2.2.2.1)) (w_A77 : a 77 = (40, .inl t6_49.2.2.2.2.2.2.1)) (w_A78 : a 78 = (40, .inl t6_49.2.2.2.2.2.2.2.1)) (w_A79 : a 79 = (6001, .inr (.inl t6_49.2.2.2.2.2.2.2.2.1))) (w_A80 : a 80 = (16384, .inl t6_49.2.2.2.2.2.2.2.2.2.1)) (w_A81 : a 81 = (6002, .inl t6_49.2.2.2.2.2.2.2.2.2.2.1)) (w_A82 : a 82 = (84000, .inl t6_49.2.2.2.2.2.2.2.2.2.2.2.1)) (w_A83 : a 83 = (84000, .inl t6_49.2.2.2.2.2.2.2.2.2.2.2.2.1)) (w_A84 : a 84 = (84000, .inl t6_49.2.2.2.2.2.2.2.2.2.2.2.2.2.1)) (w_A85 : a 85 = (84000, .inl t6_49.2.2.2.2.2.2.2.2.2.2.2.2.2.2.1)) (w_A86 : a 86 = (84000, .inl t6_49.2.2.2.2.2.2.2.2.2.2.2.2.2.2.2)) (w_A100 : a 100 = (25, .inl r3.2.1)) (w_A101 : a 101 = (25, .inl r3.2.2.1)) (w_A102 : a 102 = (25, .inl r3.2.2.2)) (hoffa : ∀ j, nel j [76, 77, 78, 79, 80, 81, 82, 83, 84, 85, 86, 100, 101, 102] = false → a j = a0 j) (ls : Array Slot) (hl : lv_has ls 2 []) (hW : GW D cy (gA N q s.heap.size) N q m a s H) (hS : va_S (gA N q s.heap.size) s.heap H locs), W p l e ({ frames := 313, cells := 0, slots := 0, locals := 2626 } : Room) s M args below meth c H locs 0 0 (MQ below (va_Qi (fun (r : Int32) (u : (Nat → Value) × (Nat → vp_A)) => r = X0.1 ∧ u.1 6919 = .long X0.2.1 ∧ u.1 6920 = .int X0.2.2.1 ∧ u.1 6921 = .int X0.2.2.2.1 ∧ u.1 6922 = .int X0.2.2.2.2.1 ∧ u.1 6927 = .int X0.2.2.2.2.2.1 ∧ u.1 6935 = .int X0.2.2.2.2.2.2.1 ∧ u.1 6955 = .int X0.2.2.2.2.2.2.2.1 ∧ (∀ j, nel j [6919, 6920, 6921, 6922, 6927, 6935, 6955] = false → u.1 j = m0 j) ∧ u.2 76 = (40, .inl X0.2.2.2.2.2.2.2.2.1) ∧ u.2 77 = (40, .inl X0.2.2.2.2.2.2.2.2.2.1) ∧ u.2 78 = (40, .inl X0.2.2.2.2.2.2.2.2.2.2.1) ∧ u.2 79 = (6001, .inr (.inl X0.2.2.2.2.2.2.2.2.2.2.2.1)) ∧ u.2 80 = (16384, .inl X0.2.2.2.2.2.2.2.2.2.2.2.2.1) ∧ u.2 81 = (6002, .inl X0.2.2.2.2.2.2.2.2.2.2.2.2.2.1) ∧ u.2 82 = (84000, .inl X0.2.2.2.2.2.2.2.2.2.2.2.2.2.2.1) ∧ u.2 83 = (84000, .inl X0.2.2.2.2.2.2.2.2.2.2.2.2.2.2.2.1) ∧ u.2 84 = (84000, .inl X0.2.2.2.2.2.2.2.2.2.2.2.2.2.2.2.2.1) ∧ u.2 85 = (84000, .inl X0.2.2.2.2.2.2.2.2.2.2.2.2.2.2.2.2.2.1) ∧ u.2 86 = (84000, .inl X0.2.2.2.2.2.2.2.2.2.2.2.2.2.2.2.2.2.2.1) ∧ u.2 100 = (25, .inl X0.2.2.2.2.2.2.2.2.2.2.2.2.2.2.2.2.2.2.2.1) ∧ u.2 101 = (25, .inl X0.2.2.2.2.2.2.2.2.2.2.2.2.2.2.2.2.2.2.2.2.1) ∧ u.2 102 = (25, .inl X0.2.2.2.2.2.2.2.2.2.2.2.2.2.2.2.2.2.2.2.2.2) ∧ (∀ j, nel j [76, 77, 78, 79, 80, 81, 82, 83, 84, 85, 86, 100, 101, 102] = false → u.2 j = a0 j)) (gB D cy N q s.heap.size) (gA N q s.heap.size)) args s 0 0 (gA N q s.heap.size)) (F0 M 49 ls []) := by
      intro t6_49 hr6 m a H locs w_x69_19 w_x69_20 w_x69_21 w_x69_22 w_x69_27 w_x69_35 w_x69_55 hoff hsh w_A76 w_A77 w_A78 w_A79 w_A80 w_A81 w_A82 w_A83 w_A84 w_A85 w_A86 w_A100 w_A101 w_A102 hoffa ls hl hW hS
      subst hr6
      refine lv_iconst (v := 1) hx hb dX12_laysEvery_49 (by decide) ?_
      have hs0 := Option.some.inj hs0
      subst hs0
      exact W.zret hx hb hr rfl (fun t ht hw => ⟨⟨_, (m, a), rfl, ⟨rfl, w_x69_19, w_x69_20, w_x69_21, w_x69_22, w_x69_27, w_x69_35, w_x69_55, hoff, w_A76, w_A77, w_A78, w_A79, w_A80, w_A81, w_A82, w_A83, w_A84, w_A85, w_A86, w_A100, w_A101, w_A102, hoffa⟩, g_end hW ht hw⟩, hS.F ht⟩) hS.2.2 dX12_laysEvery_50 hlocks
    have hL1 : ∀ (n : Nat) (v1k6 : Int32) (x69_19k6 : Int64) (x69_20k6 : Int32) (x69_21k6 : Int32) (x69_27k6 : Int32) (x69_35k6 : Int32) (A76k6 : Nat → Int32) (A77k6 : Nat → Int32) (A78k6 : Nat → Int32) (A79k6 : Nat → Int64) (A80k6 : Nat → Int32) (A81k6 : Nat → Int32) (A82k6 : Nat → Int32) (A83k6 : Nat → Int32) (A84k6 : Nat → Int32) (A85k6 : Nat → Int32) (A86k6 : Nat → Int32) (m : Nat → Value) (a : Nat → vp_A) (H : Heap) (locs : List Loc) (w_x69_19 : m 6919 = .long x69_19k6) (w_x69_20 : m 6920 = .int x69_20k6) (w_x69_21 : m 6921 = .int x69_21k6) (w_x69_22 : m 6922 = .int x69_2) (w_x69_27 : m 6927 = .int x69_27k6) (w_x69_35 : m 6935 = .int x69_35k6) (w_x69_55 : m 6955 = .int r3.1) (hoff : ∀ j, nel j [6919, 6920, 6921, 6922, 6927, 6935, 6955] = false → m j = m0 j) (hsh : SH q m) (w_A76 : a 76 = (40, .inl A76k6)) (w_A77 : a 77 = (40, .inl A77k6)) (w_A78 : a 78 = (40, .inl A78k6)) (w_A79 : a 79 = (6001, .inr (.inl A79k6))) (w_A80 : a 80 = (16384, .inl A80k6)) (w_A81 : a 81 = (6002, .inl A81k6)) (w_A82 : a 82 = (84000, .inl A82k6)) (w_A83 : a 83 = (84000, .inl A83k6)) (w_A84 : a 84 = (84000, .inl A84k6)) (w_A85 : a 85 = (84000, .inl A85k6)) (w_A86 : a 86 = (84000, .inl A86k6)) (w_A100 : a 100 = (25, .inl r3.2.1)) (w_A101 : a 101 = (25, .inl r3.2.2.1)) (w_A102 : a 102 = (25, .inl r3.2.2.2)) (hoffa : ∀ j, nel j [76, 77, 78, 79, 80, 81, 82, 83, 84, 85, 86, 100, 101, 102] = false → a j = a0 j) (ls : Array Slot) (hl : lv_has ls 2 [(0, .ref (q 69)), (1, .int v1k6)]) (hg6 : gloop (fun u6 : (Int32 × Int64 × Int32 × Int32 × Int32 × Int32 × (Nat → Int32) × (Nat → Int32) × (Nat → Int32) × (Nat → Int64) × (Nat → Int32) × (Nat → Int32) × (Nat → Int32) × (Nat → Int32) × (Nat → Int32) × (Nat → Int32) × (Nat → Int32)) => fX12_laysEvery_S29 F x69_0 x69_1 x69_2 x69_3 x69_2 r3.1 r3.2.1 r3.2.2.1 r3.2.2.2 u6.1 u6.2.1 u6.2.2.1 u6.2.2.2.1 u6.2.2.2.2.1 u6.2.2.2.2.2.1 u6.2.2.2.2.2.2.1 u6.2.2.2.2.2.2.2.1 u6.2.2.2.2.2.2.2.2.1 u6.2.2.2.2.2.2.2.2.2.1 u6.2.2.2.2.2.2.2.2.2.2.1 u6.2.2.2.2.2.2.2.2.2.2.2.1 u6.2.2.2.2.2.2.2.2.2.2.2.2.1 u6.2.2.2.2.2.2.2.2.2.2.2.2.2.1 u6.2.2.2.2.2.2.2.2.2.2.2.2.2.2.1 u6.2.2.2.2.2.2.2.2.2.2.2.2.2.2.2.1 u6.2.2.2.2.2.2.2.2.2.2.2.2.2.2.2.2) n (v1k6, x69_19k6, x69_20k6, x69_21k6, x69_27k6, x69_35k6, A76k6, A77k6, A78k6, A79k6, A80k6, A81k6, A82k6, A83k6, A84k6, A85k6, A86k6) = some r6) (hW : GW D cy (gA N q s.heap.size) N q m a s H) (hS : va_S (gA N q s.heap.size) s.heap H locs), W p l e ({ frames := 313, cells := 0, slots := 0, locals := 2626 } : Room) s M args below meth c H locs 0 0 (MQ below (va_Qi (fun (r : Int32) (u : (Nat → Value) × (Nat → vp_A)) => r = X0.1 ∧ u.1 6919 = .long X0.2.1 ∧ u.1 6920 = .int X0.2.2.1 ∧ u.1 6921 = .int X0.2.2.2.1 ∧ u.1 6922 = .int X0.2.2.2.2.1 ∧ u.1 6927 = .int X0.2.2.2.2.2.1 ∧ u.1 6935 = .int X0.2.2.2.2.2.2.1 ∧ u.1 6955 = .int X0.2.2.2.2.2.2.2.1 ∧ (∀ j, nel j [6919, 6920, 6921, 6922, 6927, 6935, 6955] = false → u.1 j = m0 j) ∧ u.2 76 = (40, .inl X0.2.2.2.2.2.2.2.2.1) ∧ u.2 77 = (40, .inl X0.2.2.2.2.2.2.2.2.2.1) ∧ u.2 78 = (40, .inl X0.2.2.2.2.2.2.2.2.2.2.1) ∧ u.2 79 = (6001, .inr (.inl X0.2.2.2.2.2.2.2.2.2.2.2.1)) ∧ u.2 80 = (16384, .inl X0.2.2.2.2.2.2.2.2.2.2.2.2.1) ∧ u.2 81 = (6002, .inl X0.2.2.2.2.2.2.2.2.2.2.2.2.2.1) ∧ u.2 82 = (84000, .inl X0.2.2.2.2.2.2.2.2.2.2.2.2.2.2.1) ∧ u.2 83 = (84000, .inl X0.2.2.2.2.2.2.2.2.2.2.2.2.2.2.2.1) ∧ u.2 84 = (84000, .inl X0.2.2.2.2.2.2.2.2.2.2.2.2.2.2.2.2.1) ∧ u.2 85 = (84000, .inl X0.2.2.2.2.2.2.2.2.2.2.2.2.2.2.2.2.2.1) ∧ u.2 86 = (84000, .inl X0.2.2.2.2.2.2.2.2.2.2.2.2.2.2.2.2.2.2.1) ∧ u.2 100 = (25, .inl X0.2.2.2.2.2.2.2.2.2.2.2.2.2.2.2.2.2.2.2.1) ∧ u.2 101 = (25, .inl X0.2.2.2.2.2.2.2.2.2.2.2.2.2.2.2.2.2.2.2.2.1) ∧ u.2 102 = (25, .inl X0.2.2.2.2.2.2.2.2.2.2.2.2.2.2.2.2.2.2.2.2.2) ∧ (∀ j, nel j [76, 77, 78, 79, 80, 81, 82, 83, 84, 85, 86, 100, 101, 102] = false → u.2 j = a0 j)) (gB D cy N q s.heap.size) (gA N q s.heap.size)) args s 0 0 (gA N q s.heap.size)) (F0 M 29 ls []) := by
      intro n
      induction n with
      | zero => intro v1k6 x69_19k6 x69_20k6 x69_21k6 x69_27k6 x69_35k6 A76k6 A77k6 A78k6 A79k6 A80k6 A81k6 A82k6 A83k6 A84k6 A85k6 A86k6 m a H locs w_x69_19 w_x69_20 w_x69_21 w_x69_22 w_x69_27 w_x69_35 w_x69_55 hoff hsh w_A76 w_A77 w_A78 w_A79 w_A80 w_A81 w_A82 w_A83 w_A84 w_A85 w_A86 w_A100 w_A101 w_A102 hoffa ls hl hg6 hW hS; exact (gl_zero hg6).elim
      | succ n ih1 =>
        intro v1k6 x69_19k6 x69_20k6 x69_21k6 x69_27k6 x69_35k6 A76k6 A77k6 A78k6 A79k6 A80k6 A81k6 A82k6 A83k6 A84k6 A85k6 A86k6 m a H locs w_x69_19 w_x69_20 w_x69_21 w_x69_22 w_x69_27 w_x69_35 w_x69_55 hoff hsh w_A76 w_A77 w_A78 w_A79 w_A80 w_A81 w_A82 w_A83 w_A84 w_A85 w_A86 w_A100 w_A101 w_A102 hoffa ls hl hg6 hW hS
        obtain ⟨X1, hs1, hXl1, hXr1⟩ := gl_succ hg6
        have hs1 : fX12_laysEvery_S29 F x69_0 x69_1 x69_2 x69_3 x69_2 r3.1 r3.2.1 r3.2.2.1 r3.2.2.2 v1k6 x69_19k6 x69_20k6 x69_21k6 x69_27k6 x69_35k6 A76k6 A77k6 A78k6 A79k6 A80k6 A81k6 A82k6 A83k6 A84k6 A85k6 A86k6 = some X1 := hs1
        unfold fX12_laysEvery_S29 at hs1
        refine lv_iload_n hx hb dX12_laysEvery_29 rfl (lv_at hl 1 rfl) ?_
        refine lv_aload_n hx hb dX12_laysEvery_30 rfl (lv_at hl 0 rfl) ?_
        refine gf12_27 hx hb hG hown hW (o := 69) (ltN hN 69 rfl) gk69 (v := .int x69_27k6) w_x69_27 gx713 dX12_laysEvery_31 ?_
        refine lv_icmp_ge (tgt := 49) hx hb dX12_laysEvery_34 (by decide) (fun c9 => ?_) (fun c9 => ?_)
        · rw [if_pos c9] at hs1
          exact hE1_49 (x69_19k6, x69_20k6, x69_21k6, x69_27k6, x69_35k6, A76k6, A77k6, A78k6, A79k6, A80k6, A81k6, A82k6, A83k6, A84k6, A85k6, A86k6) (hXl1 _ (Option.some.inj hs1).symm) m a _ _ w_x69_19 w_x69_20 w_x69_21 w_x69_22 w_x69_27 w_x69_35 w_x69_55 hoff hsh w_A76 w_A77 w_A78 w_A79 w_A80 w_A81 w_A82 w_A83 w_A84 w_A85 w_A86 w_A100 w_A101 w_A102 hoffa ls (lv_sub hl [] rfl) hW hS
        · rw [if_neg c9] at hs1
          refine lv_aload_n hx hb dX12_laysEvery_37 rfl (lv_at hl 0 rfl) ?_
          refine lv_iload_n hx hb dX12_laysEvery_38 rfl (lv_at hl 1 rfl) ?_
          obtain ⟨r10, hf10, hs1⟩ := obind hs1
          refine g_Vi (n := 1) hx hb hml hown hG hW hS [.int v1k6] (kX12_edgesOf hN hsh ((hoff 6900 rfl).trans h_x69_0) ((hoff 6901 rfl).trans h_x69_1) ((hoff 6903 rfl).trans h_x69_3) w_x69_22 w_x69_19 w_x69_20 w_x69_21 w_x69_27 w_x69_35 w_A76 w_A77 w_A78 w_A79 w_A80 w_A81 w_A82 w_A83 w_A84 w_A85 w_A86 F v1k6 hf10) (ltN hN 69 rfl) gk69 (by decide) rfl rfl (gd_V gx731 gx732 gx733 gx5 gx734) rfl rfl (by decide) ⟨Nat.le_of_ble_eq_true rfl, Nat.le_of_ble_eq_true rfl⟩ rfl hl (Nat.le_of_ble_eq_true rfl) ⟨Nat.zero_le _, Nat.zero_le _⟩ dX12_laysEvery_39 (fun x10 m10 a10 H locs hp10 hW hS => ?_)
          obtain ⟨hx10, hp10_x69_19, hp10_x69_20, hp10_x69_21, hp10_x69_27, hp10_x69_35, ho10, hp10_A76, hp10_A77, hp10_A78, hp10_A79, hp10_A80, hp10_A81, hp10_A82, hp10_A83, hp10_A84, hp10_A85, hp10_A86, hoa10⟩ := hp10
          subst hx10
          have w_x69_19 : m10 6919 = .long r10.2.1 := hp10_x69_19
          have w_x69_20 : m10 6920 = .int r10.2.2.1 := hp10_x69_20
          have w_x69_21 : m10 6921 = .int r10.2.2.2.1 := hp10_x69_21
          have w_x69_22 : m10 6922 = .int x69_2 := (ho10 6922 rfl).trans w_x69_22
          have w_x69_27 : m10 6927 = .int r10.2.2.2.2.1 := hp10_x69_27
          have w_x69_35 : m10 6935 = .int r10.2.2.2.2.2.1 := hp10_x69_35
          have w_x69_55 : m10 6955 = .int r3.1 := (ho10 6955 rfl).trans w_x69_55
          have hoff := offm hoff ho10 (by decide +kernel)
          have hsh := SH.off hsh ho10 (by decide +kernel)
          have w_A76 : a10 76 = (40, .inl r10.2.2.2.2.2.2.1) := hp10_A76
          have w_A77 : a10 77 = (40, .inl r10.2.2.2.2.2.2.2.1) := hp10_A77
          have w_A78 : a10 78 = (40, .inl r10.2.2.2.2.2.2.2.2.1) := hp10_A78
          have w_A79 : a10 79 = (6001, .inr (.inl r10.2.2.2.2.2.2.2.2.2.1)) := hp10_A79
          have w_A80 : a10 80 = (16384, .inl r10.2.2.2.2.2.2.2.2.2.2.1) := hp10_A80
          have w_A81 : a10 81 = (6002, .inl r10.2.2.2.2.2.2.2.2.2.2.2.1) := hp10_A81
          have w_A82 : a10 82 = (84000, .inl r10.2.2.2.2.2.2.2.2.2.2.2.2.1) := hp10_A82
          have w_A83 : a10 83 = (84000, .inl r10.2.2.2.2.2.2.2.2.2.2.2.2.2.1) := hp10_A83
          have w_A84 : a10 84 = (84000, .inl r10.2.2.2.2.2.2.2.2.2.2.2.2.2.2.1) := hp10_A84
          have w_A85 : a10 85 = (84000, .inl r10.2.2.2.2.2.2.2.2.2.2.2.2.2.2.2.1) := hp10_A85
          have w_A86 : a10 86 = (84000, .inl r10.2.2.2.2.2.2.2.2.2.2.2.2.2.2.2.2) := hp10_A86
          have w_A100 : a10 100 = (25, .inl r3.2.1) := (hoa10 100 rfl).trans w_A100
          have w_A101 : a10 101 = (25, .inl r3.2.2.1) := (hoa10 101 rfl).trans w_A101
          have w_A102 : a10 102 = (25, .inl r3.2.2.2) := (hoa10 102 rfl).trans w_A102
          have hoffa := offm hoffa hoa10 (by decide +kernel)
          refine lv_pop hx hb dX12_laysEvery_42 rfl ?_
          refine lv_iinc (v := v1k6 + 1) (lv' := [(1, .int (v1k6 + 1)), (0, .ref (q 69))]) hx hb dX12_laysEvery_43 hl (k := 1) rfl rfl (by decide) rfl (fun ls hl => ?_)
          refine lv_goto (tgt := 29) hx hb dX12_laysEvery_46 (by decide) ?_
          exact ih1 (v1k6 + 1) r10.2.1 r10.2.2.1 r10.2.2.2.1 r10.2.2.2.2.1 r10.2.2.2.2.2.1 r10.2.2.2.2.2.2.1 r10.2.2.2.2.2.2.2.1 r10.2.2.2.2.2.2.2.2.1 r10.2.2.2.2.2.2.2.2.2.1 r10.2.2.2.2.2.2.2.2.2.2.1 r10.2.2.2.2.2.2.2.2.2.2.2.1 r10.2.2.2.2.2.2.2.2.2.2.2.2.1 r10.2.2.2.2.2.2.2.2.2.2.2.2.2.1 r10.2.2.2.2.2.2.2.2.2.2.2.2.2.2.1 r10.2.2.2.2.2.2.2.2.2.2.2.2.2.2.2.1 r10.2.2.2.2.2.2.2.2.2.2.2.2.2.2.2.2 m10 a10 _ _ w_x69_19 w_x69_20 w_x69_21 w_x69_22 w_x69_27 w_x69_35 w_x69_55 hoff hsh w_A76 w_A77 w_A78 w_A79 w_A80 w_A81 w_A82 w_A83 w_A84 w_A85 w_A86 w_A100 w_A101 w_A102 hoffa ls (lv_sub hl [1, 0] rfl) (hXr1 _ (Option.some.inj hs1).symm) hW hS
    exact hL1 F 0 x69_19 x69_20 x69_21 r4.2.1 r2.2.1 A76 A77 A78 r4.2.2.1 r4.2.2.2 A81 A82 A83 A84 A85 A86 m4 a4 _ _ w_x69_19 w_x69_20 w_x69_21 w_x69_22 w_x69_27 w_x69_35 w_x69_55 hoff hsh w_A76 w_A77 w_A78 w_A79 w_A80 w_A81 w_A82 w_A83 w_A84 w_A85 w_A86 w_A100 w_A101 w_A102 hoffa ls (lv_sub hl [1, 0] rfl) hg6 hW hS
  · rw [if_pos c5] at hs0
    refine lv_iconst (v := 0) hx hb dX12_laysEvery_25 (by decide) ?_
    have hs0 := Option.some.inj hs0
    subst hs0
    exact W.zret hx hb hr rfl (fun t ht hw => ⟨⟨_, (m4, a4), rfl, ⟨rfl, w_x69_19, w_x69_20, w_x69_21, w_x69_22, w_x69_27, w_x69_35, w_x69_55, hoff, w_A76, w_A77, w_A78, w_A79, w_A80, w_A81, w_A82, w_A83, w_A84, w_A85, w_A86, w_A100, w_A101, w_A102, hoffa⟩, g_end hW ht hw⟩, hS.F ht⟩) hS.2.2 dX12_laysEvery_26 hlocks
-- HealLinkModel.every (I)I
def fX12_every_J80 (F : Nat) (x69_0 : Int32) (x69_1 : Int32) (x69_2 : Int32) (x69_3 : Int32) (v1 : Int32) (v2j15 : Int32) (v3j15 : Int32) (x69_18 : Int32) (x69_19 : Int64) (x69_20 : Int32) (x69_21 : Int32) (x69_22 : Int32) (x69_27 : Int32) (x69_35 : Int32) (x69_43 : Int32) (x69_44 : Int32) (x69_45 : Int32) (x69_55 : Int32) (A76 : Nat → Int32) (A77 : Nat → Int32) (A78 : Nat → Int32) (A79 : Nat → Int64) (A80 : Nat → Int32) (A81 : Nat → Int32) (A82 : Nat → Int32) (A83 : Nat → Int32) (A84 : Nat → Int32) (A85 : Nat → Int32) (A86 : Nat → Int32) (A87 : Nat → Int32) (A88 : Nat → Int32) (A89 : Nat → Int32) (A90 : Nat → Int32) (A91 : Nat → Int32) (A92 : Nat → Int32) (A93 : Nat → Int32) (A94 : Nat → Int32) (A95 : Nat → Int32) (A96 : Nat → Int32) (A100 : Nat → Int32) (A101 : Nat → Int32) (A102 : Nat → Int32) : Option ((Int32) ⊕ (Int32 × Int32)) := some (Sum.inr (v2j15, v3j15 + 1))
def fX12_every_S45 (F : Nat) (x69_0 : Int32) (x69_1 : Int32) (x69_2 : Int32) (x69_3 : Int32) (v1 : Int32) (x69_18 : Int32) (x69_19 : Int64) (x69_20 : Int32) (x69_21 : Int32) (x69_22 : Int32) (x69_27 : Int32) (x69_35 : Int32) (x69_43 : Int32) (x69_44 : Int32) (x69_45 : Int32) (x69_55 : Int32) (A76 : Nat → Int32) (A77 : Nat → Int32) (A78 : Nat → Int32) (A79 : Nat → Int64) (A80 : Nat → Int32) (A81 : Nat → Int32) (A82 : Nat → Int32) (A83 : Nat → Int32) (A84 : Nat → Int32) (A85 : Nat → Int32) (A86 : Nat → Int32) (A87 : Nat → Int32) (A88 : Nat → Int32) (A89 : Nat → Int32) (A90 : Nat → Int32) (A91 : Nat → Int32) (A92 : Nat → Int32) (A93 : Nat → Int32) (A94 : Nat → Int32) (A95 : Nat → Int32) (A96 : Nat → Int32) (A100 : Nat → Int32) (A101 : Nat → Int32) (A102 : Nat → Int32) (v2 : Int32) (v3 : Int32) : Option ((Int32) ⊕ (Int32 × Int32)) := (if x69_27 ≤ v3 then some (Sum.inl v2) else (if inb v3 6001 = true then (if inb (A87 v3.toNatClampNeg) 6001 = true then (if inb v2 6001 = true then (if inb (A87 v2.toNatClampNeg) 6001 = true then (if (A94 (A87 v3.toNatClampNeg).toNatClampNeg) ≤ (A94 (A87 v2.toNatClampNeg).toNatClampNeg) then fX12_every_J80 F x69_0 x69_1 x69_2 x69_3 v1 v2 v3 x69_18 x69_19 x69_20 x69_21 x69_22 x69_27 x69_35 x69_43 x69_44 x69_45 x69_55 A76 A77 A78 A79 A80 A81 A82 A83 A84 A85 A86 A87 A88 A89 A90 A91 A92 A93 A94 A95 A96 A100 A101 A102 else fX12_every_J80 F x69_0 x69_1 x69_2 x69_3 v1 v3 v3 x69_18 x69_19 x69_20 x69_21 x69_22 x69_27 x69_35 x69_43 x69_44 x69_45 x69_55 A76 A77 A78 A79 A80 A81 A82 A83 A84 A85 A86 A87 A88 A89 A90 A91 A92 A93 A94 A95 A96 A100 A101 A102) else none) else none) else none) else none))
def fX12_every_S212 (F : Nat) (x69_0 : Int32) (x69_1 : Int32) (x69_2 : Int32) (x69_3 : Int32) (v3 : Int64) (x69_18 : Int32) (x69_19 : Int64) (x69_20 : Int32) (x69_21 : Int32) (x69_22 : Int32) (x69_27 : Int32) (x69_35 : Int32) (x69_43 : Int32) (x69_44 : Int32) (x69_45 : Int32) (x69_55 : Int32) (A76 : Nat → Int32) (A77 : Nat → Int32) (A78 : Nat → Int32) (A79 : Nat → Int64) (A80 : Nat → Int32) (A81 : Nat → Int32) (A82 : Nat → Int32) (A83 : Nat → Int32) (A84 : Nat → Int32) (A85 : Nat → Int32) (A86 : Nat → Int32) (A87 : Nat → Int32) (A88 : Nat → Int32) (A89 : Nat → Int32) (A90 : Nat → Int32) (A91 : Nat → Int32) (A92 : Nat → Int32) (A93 : Nat → Int32) (A94 : Nat → Int32) (A95 : Nat → Int32) (A96 : Nat → Int32) (A100 : Nat → Int32) (A101 : Nat → Int32) (A102 : Nat → Int32) (v5 : Int32) (v6 : Int32) : Option ((Int32) ⊕ (Int32 × Int32)) := (if 8 ≤ v6 then some (Sum.inl v5) else some (Sum.inr (v5 + (fX12_get v3 (9 + (2 * v6)) 2), v6 + 1)))
def fX12_every (F : Nat) (x69_0 : Int32) (x69_1 : Int32) (x69_2 : Int32) (x69_3 : Int32) (x69_18 : Int32) (x69_19 : Int64) (x69_20 : Int32) (x69_21 : Int32) (x69_22 : Int32) (x69_27 : Int32) (x69_35 : Int32) (x69_43 : Int32) (x69_44 : Int32) (x69_45 : Int32) (x69_55 : Int32) (A76 : Nat → Int32) (A77 : Nat → Int32) (A78 : Nat → Int32) (A79 : Nat → Int64) (A80 : Nat → Int32) (A81 : Nat → Int32) (A82 : Nat → Int32) (A83 : Nat → Int32) (A84 : Nat → Int32) (A85 : Nat → Int32) (A86 : Nat → Int32) (A87 : Nat → Int32) (A88 : Nat → Int32) (A89 : Nat → Int32) (A90 : Nat → Int32) (A91 : Nat → Int32) (A92 : Nat → Int32) (A93 : Nat → Int32) (A94 : Nat → Int32) (A95 : Nat → Int32) (A96 : Nat → Int32) (A100 : Nat → Int32) (A101 : Nat → Int32) (A102 : Nat → Int32) (p1 : Int32) : Option (Int32 × Int32 × Int64 × Int32 × Int32 × Int32 × Int32 × Int32 × Int32 × Int32 × Int32 × Int32 × (Nat → Int32) × (Nat → Int32) × (Nat → Int32) × (Nat → Int64) × (Nat → Int32) × (Nat → Int32) × (Nat → Int32) × (Nat → Int32) × (Nat → Int32) × (Nat → Int32) × (Nat → Int32) × (Nat → Int32) × (Nat → Int32) × (Nat → Int32) × (Nat → Int32) × (Nat → Int32) × (Nat → Int32) × (Nat → Int32) × (Nat → Int32) × (Nat → Int32) × (Nat → Int32) × (Nat → Int32) × (Nat → Int32) × (Nat → Int32)) := (if (fX12_within p1 0 9) = 0 then some ((-1), 0, x69_19, x69_20, x69_21, x69_22, x69_27, x69_35, x69_43, x69_44, x69_45, x69_55, A76, A77, A78, A79, A80, A81, A82, A83, A84, A85, A86, A87, A88, A89, A90, A91, A92, A93, A94, A95, A96, A100, A101, A102) else ((fX12_laysEvery F x69_0 x69_1 x69_2 x69_3 x69_19 x69_20 x69_21 x69_22 x69_27 x69_35 x69_55 A76 A77 A78 A79 A80 A81 A82 A83 A84 A85 A86 A100 A101 A102).bind (fun r4 => (if r4.1 = 0 then some ((-3), 0, r4.2.1, r4.2.2.1, r4.2.2.2.1, r4.2.2.2.2.1, r4.2.2.2.2.2.1, r4.2.2.2.2.2.2.1, x69_43, x69_44, x69_45, r4.2.2.2.2.2.2.2.1, r4.2.2.2.2.2.2.2.2.1, r4.2.2.2.2.2.2.2.2.2.1, r4.2.2.2.2.2.2.2.2.2.2.1, r4.2.2.2.2.2.2.2.2.2.2.2.1, r4.2.2.2.2.2.2.2.2.2.2.2.2.1, r4.2.2.2.2.2.2.2.2.2.2.2.2.2.1, r4.2.2.2.2.2.2.2.2.2.2.2.2.2.2.1, r4.2.2.2.2.2.2.2.2.2.2.2.2.2.2.2.1, r4.2.2.2.2.2.2.2.2.2.2.2.2.2.2.2.2.1, r4.2.2.2.2.2.2.2.2.2.2.2.2.2.2.2.2.2.1, r4.2.2.2.2.2.2.2.2.2.2.2.2.2.2.2.2.2.2.1, A87, A88, A89, A90, A91, A92, A93, A94, A95, A96, r4.2.2.2.2.2.2.2.2.2.2.2.2.2.2.2.2.2.2.2.1, r4.2.2.2.2.2.2.2.2.2.2.2.2.2.2.2.2.2.2.2.2.1, r4.2.2.2.2.2.2.2.2.2.2.2.2.2.2.2.2.2.2.2.2.2) else (if p1 = 1 then some (r4.2.2.2.2.2.1, 0, r4.2.1, r4.2.2.1, r4.2.2.2.1, r4.2.2.2.2.1, r4.2.2.2.2.2.1, r4.2.2.2.2.2.2.1, x69_43, x69_44, x69_45, r4.2.2.2.2.2.2.2.1, r4.2.2.2.2.2.2.2.2.1, r4.2.2.2.2.2.2.2.2.2.1, r4.2.2.2.2.2.2.2.2.2.2.1, r4.2.2.2.2.2.2.2.2.2.2.2.1, r4.2.2.2.2.2.2.2.2.2.2.2.2.1, r4.2.2.2.2.2.2.2.2.2.2.2.2.2.1, r4.2.2.2.2.2.2.2.2.2.2.2.2.2.2.1, r4.2.2.2.2.2.2.2.2.2.2.2.2.2.2.2.1, r4.2.2.2.2.2.2.2.2.2.2.2.2.2.2.2.2.1, r4.2.2.2.2.2.2.2.2.2.2.2.2.2.2.2.2.2.1, r4.2.2.2.2.2.2.2.2.2.2.2.2.2.2.2.2.2.2.1, A87, A88, A89, A90, A91, A92, A93, A94, A95, A96, r4.2.2.2.2.2.2.2.2.2.2.2.2.2.2.2.2.2.2.2.1, r4.2.2.2.2.2.2.2.2.2.2.2.2.2.2.2.2.2.2.2.2.1, r4.2.2.2.2.2.2.2.2.2.2.2.2.2.2.2.2.2.2.2.2.2) else ((fX12_laysWorst F r4.2.2.2.2.2.1 r4.2.2.2.2.2.2.2.2.2.2.2.2.2.1 r4.2.2.2.2.2.2.2.2.2.2.2.2.2.2.1 r4.2.2.2.2.2.2.2.2.2.2.2.2.2.2.2.1 x69_43 x69_44 x69_45 A87 A88 A89 A90 A91 A92 A93 A94 A95 A96).bind (fun r7 => (gloop (fun u8 : (Int32 × Int32) => fX12_every_S45 F x69_0 x69_1 x69_2 x69_3 p1 0 r4.2.1 r4.2.2.1 r4.2.2.2.1 r4.2.2.2.2.1 r4.2.2.2.2.2.1 r4.2.2.2.2.2.2.1 r7.1 r7.2.1 r7.2.2.1 r4.2.2.2.2.2.2.2.1 r4.2.2.2.2.2.2.2.2.1 r4.2.2.2.2.2.2.2.2.2.1 r4.2.2.2.2.2.2.2.2.2.2.1 r4.2.2.2.2.2.2.2.2.2.2.2.1 r4.2.2.2.2.2.2.2.2.2.2.2.2.1 r4.2.2.2.2.2.2.2.2.2.2.2.2.2.1 r4.2.2.2.2.2.2.2.2.2.2.2.2.2.2.1 r4.2.2.2.2.2.2.2.2.2.2.2.2.2.2.2.1 r4.2.2.2.2.2.2.2.2.2.2.2.2.2.2.2.2.1 r4.2.2.2.2.2.2.2.2.2.2.2.2.2.2.2.2.2.1 r4.2.2.2.2.2.2.2.2.2.2.2.2.2.2.2.2.2.2.1 r7.2.2.2.1 r7.2.2.2.2.1 r7.2.2.2.2.2.1 r7.2.2.2.2.2.2.1 r7.2.2.2.2.2.2.2.1 r7.2.2.2.2.2.2.2.2.1 r7.2.2.2.2.2.2.2.2.2.1 r7.2.2.2.2.2.2.2.2.2.2.1 r7.2.2.2.2.2.2.2.2.2.2.2.1 r7.2.2.2.2.2.2.2.2.2.2.2.2 r4.2.2.2.2.2.2.2.2.2.2.2.2.2.2.2.2.2.2.2.1 r4.2.2.2.2.2.2.2.2.2.2.2.2.2.2.2.2.2.2.2.2.1 r4.2.2.2.2.2.2.2.2.2.2.2.2.2.2.2.2.2.2.2.2.2 u8.1 u8.2) F (0, 1)).bind (fun t8_86 => (if inb t8_86 6001 = true then (if p1 = 0 then (if inb t8_86 6001 = true then (if inb (r7.2.2.2.1 t8_86.toNatClampNeg) 6001 = true then some ((fX12_told (r7.2.2.2.2.2.2.2.2.2.2.1 (r7.2.2.2.1 t8_86.toNatClampNeg).toNatClampNeg)), 0, r4.2.1, r4.2.2.1, r4.2.2.2.1, r4.2.2.2.2.1, r4.2.2.2.2.2.1, r4.2.2.2.2.2.2.1, r7.1, r7.2.1, r7.2.2.1, r4.2.2.2.2.2.2.2.1, r4.2.2.2.2.2.2.2.2.1, r4.2.2.2.2.2.2.2.2.2.1, r4.2.2.2.2.2.2.2.2.2.2.1, r4.2.2.2.2.2.2.2.2.2.2.2.1, r4.2.2.2.2.2.2.2.2.2.2.2.2.1, r4.2.2.2.2.2.2.2.2.2.2.2.2.2.1, r4.2.2.2.2.2.2.2.2.2.2.2.2.2.2.1, r4.2.2.2.2.2.2.2.2.2.2.2.2.2.2.2.1, r4.2.2.2.2.2.2.2.2.2.2.2.2.2.2.2.2.1, r4.2.2.2.2.2.2.2.2.2.2.2.2.2.2.2.2.2.1, r4.2.2.2.2.2.2.2.2.2.2.2.2.2.2.2.2.2.2.1, r7.2.2.2.1, r7.2.2.2.2.1, r7.2.2.2.2.2.1, r7.2.2.2.2.2.2.1, r7.2.2.2.2.2.2.2.1, r7.2.2.2.2.2.2.2.2.1, r7.2.2.2.2.2.2.2.2.2.1, r7.2.2.2.2.2.2.2.2.2.2.1, r7.2.2.2.2.2.2.2.2.2.2.2.1, r7.2.2.2.2.2.2.2.2.2.2.2.2, r4.2.2.2.2.2.2.2.2.2.2.2.2.2.2.2.2.2.2.2.1, r4.2.2.2.2.2.2.2.2.2.2.2.2.2.2.2.2.2.2.2.2.1, r4.2.2.2.2.2.2.2.2.2.2.2.2.2.2.2.2.2.2.2.2.2) else none) else none) else (if p1 = 1 then (gloop (fun u22 : (Int32 × Int32) => fX12_every_S212 F x69_0 x69_1 x69_2 x69_3 (r4.2.2.2.2.2.2.2.2.2.2.2.1 t8_86.toNatClampNeg) 0 r4.2.1 r4.2.2.1 r4.2.2.2.1 r4.2.2.2.2.1 r4.2.2.2.2.2.1 r4.2.2.2.2.2.2.1 r7.1 r7.2.1 r7.2.2.1 r4.2.2.2.2.2.2.2.1 r4.2.2.2.2.2.2.2.2.1 r4.2.2.2.2.2.2.2.2.2.1 r4.2.2.2.2.2.2.2.2.2.2.1 r4.2.2.2.2.2.2.2.2.2.2.2.1 r4.2.2.2.2.2.2.2.2.2.2.2.2.1 r4.2.2.2.2.2.2.2.2.2.2.2.2.2.1 r4.2.2.2.2.2.2.2.2.2.2.2.2.2.2.1 r4.2.2.2.2.2.2.2.2.2.2.2.2.2.2.2.1 r4.2.2.2.2.2.2.2.2.2.2.2.2.2.2.2.2.1 r4.2.2.2.2.2.2.2.2.2.2.2.2.2.2.2.2.2.1 r4.2.2.2.2.2.2.2.2.2.2.2.2.2.2.2.2.2.2.1 r7.2.2.2.1 r7.2.2.2.2.1 r7.2.2.2.2.2.1 r7.2.2.2.2.2.2.1 r7.2.2.2.2.2.2.2.1 r7.2.2.2.2.2.2.2.2.1 r7.2.2.2.2.2.2.2.2.2.1 r7.2.2.2.2.2.2.2.2.2.2.1 r7.2.2.2.2.2.2.2.2.2.2.2.1 r7.2.2.2.2.2.2.2.2.2.2.2.2 r4.2.2.2.2.2.2.2.2.2.2.2.2.2.2.2.2.2.2.2.1 r4.2.2.2.2.2.2.2.2.2.2.2.2.2.2.2.2.2.2.2.2.1 r4.2.2.2.2.2.2.2.2.2.2.2.2.2.2.2.2.2.2.2.2.2 u22.1 u22.2) F (0, 0)).bind (fun t22_242 => some (t22_242, 0, r4.2.1, r4.2.2.1, r4.2.2.2.1, r4.2.2.2.2.1, r4.2.2.2.2.2.1, r4.2.2.2.2.2.2.1, r7.1, r7.2.1, r7.2.2.1, r4.2.2.2.2.2.2.2.1, r4.2.2.2.2.2.2.2.2.1, r4.2.2.2.2.2.2.2.2.2.1, r4.2.2.2.2.2.2.2.2.2.2.1, r4.2.2.2.2.2.2.2.2.2.2.2.1, r4.2.2.2.2.2.2.2.2.2.2.2.2.1, r4.2.2.2.2.2.2.2.2.2.2.2.2.2.1, r4.2.2.2.2.2.2.2.2.2.2.2.2.2.2.1, r4.2.2.2.2.2.2.2.2.2.2.2.2.2.2.2.1, r4.2.2.2.2.2.2.2.2.2.2.2.2.2.2.2.2.1, r4.2.2.2.2.2.2.2.2.2.2.2.2.2.2.2.2.2.1, r4.2.2.2.2.2.2.2.2.2.2.2.2.2.2.2.2.2.2.1, r7.2.2.2.1, r7.2.2.2.2.1, r7.2.2.2.2.2.1, r7.2.2.2.2.2.2.1, r7.2.2.2.2.2.2.2.1, r7.2.2.2.2.2.2.2.2.1, r7.2.2.2.2.2.2.2.2.2.1, r7.2.2.2.2.2.2.2.2.2.2.1, r7.2.2.2.2.2.2.2.2.2.2.2.1, r7.2.2.2.2.2.2.2.2.2.2.2.2, r4.2.2.2.2.2.2.2.2.2.2.2.2.2.2.2.2.2.2.2.1, r4.2.2.2.2.2.2.2.2.2.2.2.2.2.2.2.2.2.2.2.2.1, r4.2.2.2.2.2.2.2.2.2.2.2.2.2.2.2.2.2.2.2.2.2)) else (if p1 = 2 then some ((fX12_get (r4.2.2.2.2.2.2.2.2.2.2.2.1 t8_86.toNatClampNeg) 0 2), 0, r4.2.1, r4.2.2.1, r4.2.2.2.1, r4.2.2.2.2.1, r4.2.2.2.2.2.1, r4.2.2.2.2.2.2.1, r7.1, r7.2.1, r7.2.2.1, r4.2.2.2.2.2.2.2.1, r4.2.2.2.2.2.2.2.2.1, r4.2.2.2.2.2.2.2.2.2.1, r4.2.2.2.2.2.2.2.2.2.2.1, r4.2.2.2.2.2.2.2.2.2.2.2.1, r4.2.2.2.2.2.2.2.2.2.2.2.2.1, r4.2.2.2.2.2.2.2.2.2.2.2.2.2.1, r4.2.2.2.2.2.2.2.2.2.2.2.2.2.2.1, r4.2.2.2.2.2.2.2.2.2.2.2.2.2.2.2.1, r4.2.2.2.2.2.2.2.2.2.2.2.2.2.2.2.2.1, r4.2.2.2.2.2.2.2.2.2.2.2.2.2.2.2.2.2.1, r4.2.2.2.2.2.2.2.2.2.2.2.2.2.2.2.2.2.2.1, r7.2.2.2.1, r7.2.2.2.2.1, r7.2.2.2.2.2.1, r7.2.2.2.2.2.2.1, r7.2.2.2.2.2.2.2.1, r7.2.2.2.2.2.2.2.2.1, r7.2.2.2.2.2.2.2.2.2.1, r7.2.2.2.2.2.2.2.2.2.2.1, r7.2.2.2.2.2.2.2.2.2.2.2.1, r7.2.2.2.2.2.2.2.2.2.2.2.2, r4.2.2.2.2.2.2.2.2.2.2.2.2.2.2.2.2.2.2.2.1, r4.2.2.2.2.2.2.2.2.2.2.2.2.2.2.2.2.2.2.2.2.1, r4.2.2.2.2.2.2.2.2.2.2.2.2.2.2.2.2.2.2.2.2.2) else (if p1 = 3 then some ((fX12_get (r4.2.2.2.2.2.2.2.2.2.2.2.1 t8_86.toNatClampNeg) 2 1), 0, r4.2.1, r4.2.2.1, r4.2.2.2.1, r4.2.2.2.2.1, r4.2.2.2.2.2.1, r4.2.2.2.2.2.2.1, r7.1, r7.2.1, r7.2.2.1, r4.2.2.2.2.2.2.2.1, r4.2.2.2.2.2.2.2.2.1, r4.2.2.2.2.2.2.2.2.2.1, r4.2.2.2.2.2.2.2.2.2.2.1, r4.2.2.2.2.2.2.2.2.2.2.2.1, r4.2.2.2.2.2.2.2.2.2.2.2.2.1, r4.2.2.2.2.2.2.2.2.2.2.2.2.2.1, r4.2.2.2.2.2.2.2.2.2.2.2.2.2.2.1, r4.2.2.2.2.2.2.2.2.2.2.2.2.2.2.2.1, r4.2.2.2.2.2.2.2.2.2.2.2.2.2.2.2.2.1, r4.2.2.2.2.2.2.2.2.2.2.2.2.2.2.2.2.2.1, r4.2.2.2.2.2.2.2.2.2.2.2.2.2.2.2.2.2.2.1, r7.2.2.2.1, r7.2.2.2.2.1, r7.2.2.2.2.2.1, r7.2.2.2.2.2.2.1, r7.2.2.2.2.2.2.2.1, r7.2.2.2.2.2.2.2.2.1, r7.2.2.2.2.2.2.2.2.2.1, r7.2.2.2.2.2.2.2.2.2.2.1, r7.2.2.2.2.2.2.2.2.2.2.2.1, r7.2.2.2.2.2.2.2.2.2.2.2.2, r4.2.2.2.2.2.2.2.2.2.2.2.2.2.2.2.2.2.2.2.1, r4.2.2.2.2.2.2.2.2.2.2.2.2.2.2.2.2.2.2.2.2.1, r4.2.2.2.2.2.2.2.2.2.2.2.2.2.2.2.2.2.2.2.2.2) else (if p1 = 4 then some ((fX12_get (r4.2.2.2.2.2.2.2.2.2.2.2.1 t8_86.toNatClampNeg) 3 3), 0, r4.2.1, r4.2.2.1, r4.2.2.2.1, r4.2.2.2.2.1, r4.2.2.2.2.2.1, r4.2.2.2.2.2.2.1, r7.1, r7.2.1, r7.2.2.1, r4.2.2.2.2.2.2.2.1, r4.2.2.2.2.2.2.2.2.1, r4.2.2.2.2.2.2.2.2.2.1, r4.2.2.2.2.2.2.2.2.2.2.1, r4.2.2.2.2.2.2.2.2.2.2.2.1, r4.2.2.2.2.2.2.2.2.2.2.2.2.1, r4.2.2.2.2.2.2.2.2.2.2.2.2.2.1, r4.2.2.2.2.2.2.2.2.2.2.2.2.2.2.1, r4.2.2.2.2.2.2.2.2.2.2.2.2.2.2.2.1, r4.2.2.2.2.2.2.2.2.2.2.2.2.2.2.2.2.1, r4.2.2.2.2.2.2.2.2.2.2.2.2.2.2.2.2.2.1, r4.2.2.2.2.2.2.2.2.2.2.2.2.2.2.2.2.2.2.1, r7.2.2.2.1, r7.2.2.2.2.1, r7.2.2.2.2.2.1, r7.2.2.2.2.2.2.1, r7.2.2.2.2.2.2.2.1, r7.2.2.2.2.2.2.2.2.1, r7.2.2.2.2.2.2.2.2.2.1, r7.2.2.2.2.2.2.2.2.2.2.1, r7.2.2.2.2.2.2.2.2.2.2.2.1, r7.2.2.2.2.2.2.2.2.2.2.2.2, r4.2.2.2.2.2.2.2.2.2.2.2.2.2.2.2.2.2.2.2.1, r4.2.2.2.2.2.2.2.2.2.2.2.2.2.2.2.2.2.2.2.2.1, r4.2.2.2.2.2.2.2.2.2.2.2.2.2.2.2.2.2.2.2.2.2) else (if p1 = 5 then some ((fX12_get (r4.2.2.2.2.2.2.2.2.2.2.2.1 t8_86.toNatClampNeg) 6 1), 0, r4.2.1, r4.2.2.1, r4.2.2.2.1, r4.2.2.2.2.1, r4.2.2.2.2.2.1, r4.2.2.2.2.2.2.1, r7.1, r7.2.1, r7.2.2.1, r4.2.2.2.2.2.2.2.1, r4.2.2.2.2.2.2.2.2.1, r4.2.2.2.2.2.2.2.2.2.1, r4.2.2.2.2.2.2.2.2.2.2.1, r4.2.2.2.2.2.2.2.2.2.2.2.1, r4.2.2.2.2.2.2.2.2.2.2.2.2.1, r4.2.2.2.2.2.2.2.2.2.2.2.2.2.1, r4.2.2.2.2.2.2.2.2.2.2.2.2.2.2.1, r4.2.2.2.2.2.2.2.2.2.2.2.2.2.2.2.1, r4.2.2.2.2.2.2.2.2.2.2.2.2.2.2.2.2.1, r4.2.2.2.2.2.2.2.2.2.2.2.2.2.2.2.2.2.1, r4.2.2.2.2.2.2.2.2.2.2.2.2.2.2.2.2.2.2.1, r7.2.2.2.1, r7.2.2.2.2.1, r7.2.2.2.2.2.1, r7.2.2.2.2.2.2.1, r7.2.2.2.2.2.2.2.1, r7.2.2.2.2.2.2.2.2.1, r7.2.2.2.2.2.2.2.2.2.1, r7.2.2.2.2.2.2.2.2.2.2.1, r7.2.2.2.2.2.2.2.2.2.2.2.1, r7.2.2.2.2.2.2.2.2.2.2.2.2, r4.2.2.2.2.2.2.2.2.2.2.2.2.2.2.2.2.2.2.2.1, r4.2.2.2.2.2.2.2.2.2.2.2.2.2.2.2.2.2.2.2.2.1, r4.2.2.2.2.2.2.2.2.2.2.2.2.2.2.2.2.2.2.2.2.2) else (if p1 = 6 then some ((fX12_get (r4.2.2.2.2.2.2.2.2.2.2.2.1 t8_86.toNatClampNeg) 7 2), 0, r4.2.1, r4.2.2.1, r4.2.2.2.1, r4.2.2.2.2.1, r4.2.2.2.2.2.1, r4.2.2.2.2.2.2.1, r7.1, r7.2.1, r7.2.2.1, r4.2.2.2.2.2.2.2.1, r4.2.2.2.2.2.2.2.2.1, r4.2.2.2.2.2.2.2.2.2.1, r4.2.2.2.2.2.2.2.2.2.2.1, r4.2.2.2.2.2.2.2.2.2.2.2.1, r4.2.2.2.2.2.2.2.2.2.2.2.2.1, r4.2.2.2.2.2.2.2.2.2.2.2.2.2.1, r4.2.2.2.2.2.2.2.2.2.2.2.2.2.2.1, r4.2.2.2.2.2.2.2.2.2.2.2.2.2.2.2.1, r4.2.2.2.2.2.2.2.2.2.2.2.2.2.2.2.2.1, r4.2.2.2.2.2.2.2.2.2.2.2.2.2.2.2.2.2.1, r4.2.2.2.2.2.2.2.2.2.2.2.2.2.2.2.2.2.2.1, r7.2.2.2.1, r7.2.2.2.2.1, r7.2.2.2.2.2.1, r7.2.2.2.2.2.2.1, r7.2.2.2.2.2.2.2.1, r7.2.2.2.2.2.2.2.2.1, r7.2.2.2.2.2.2.2.2.2.1, r7.2.2.2.2.2.2.2.2.2.2.1, r7.2.2.2.2.2.2.2.2.2.2.2.1, r7.2.2.2.2.2.2.2.2.2.2.2.2, r4.2.2.2.2.2.2.2.2.2.2.2.2.2.2.2.2.2.2.2.1, r4.2.2.2.2.2.2.2.2.2.2.2.2.2.2.2.2.2.2.2.2.1, r4.2.2.2.2.2.2.2.2.2.2.2.2.2.2.2.2.2.2.2.2.2) else (if p1 = 7 then ((fX12_packetsOf F (r4.2.2.2.2.2.2.2.2.2.2.2.1 t8_86.toNatClampNeg)).bind (fun r38 => some (r38, 0, r4.2.1, r4.2.2.1, r4.2.2.2.1, r4.2.2.2.2.1, r4.2.2.2.2.2.1, r4.2.2.2.2.2.2.1, r7.1, r7.2.1, r7.2.2.1, r4.2.2.2.2.2.2.2.1, r4.2.2.2.2.2.2.2.2.1, r4.2.2.2.2.2.2.2.2.2.1, r4.2.2.2.2.2.2.2.2.2.2.1, r4.2.2.2.2.2.2.2.2.2.2.2.1, r4.2.2.2.2.2.2.2.2.2.2.2.2.1, r4.2.2.2.2.2.2.2.2.2.2.2.2.2.1, r4.2.2.2.2.2.2.2.2.2.2.2.2.2.2.1, r4.2.2.2.2.2.2.2.2.2.2.2.2.2.2.2.1, r4.2.2.2.2.2.2.2.2.2.2.2.2.2.2.2.2.1, r4.2.2.2.2.2.2.2.2.2.2.2.2.2.2.2.2.2.1, r4.2.2.2.2.2.2.2.2.2.2.2.2.2.2.2.2.2.2.1, r7.2.2.2.1, r7.2.2.2.2.1, r7.2.2.2.2.2.1, r7.2.2.2.2.2.2.1, r7.2.2.2.2.2.2.2.1, r7.2.2.2.2.2.2.2.2.1, r7.2.2.2.2.2.2.2.2.2.1, r7.2.2.2.2.2.2.2.2.2.2.1, r7.2.2.2.2.2.2.2.2.2.2.2.1, r7.2.2.2.2.2.2.2.2.2.2.2.2, r4.2.2.2.2.2.2.2.2.2.2.2.2.2.2.2.2.2.2.2.1, r4.2.2.2.2.2.2.2.2.2.2.2.2.2.2.2.2.2.2.2.2.1, r4.2.2.2.2.2.2.2.2.2.2.2.2.2.2.2.2.2.2.2.2.2))) else (if p1 = 8 then ((fX12_lettersOf F (r4.2.2.2.2.2.2.2.2.2.2.2.1 t8_86.toNatClampNeg)).bind (fun r40 => some (r40, 0, r4.2.1, r4.2.2.1, r4.2.2.2.1, r4.2.2.2.2.1, r4.2.2.2.2.2.1, r4.2.2.2.2.2.2.1, r7.1, r7.2.1, r7.2.2.1, r4.2.2.2.2.2.2.2.1, r4.2.2.2.2.2.2.2.2.1, r4.2.2.2.2.2.2.2.2.2.1, r4.2.2.2.2.2.2.2.2.2.2.1, r4.2.2.2.2.2.2.2.2.2.2.2.1, r4.2.2.2.2.2.2.2.2.2.2.2.2.1, r4.2.2.2.2.2.2.2.2.2.2.2.2.2.1, r4.2.2.2.2.2.2.2.2.2.2.2.2.2.2.1, r4.2.2.2.2.2.2.2.2.2.2.2.2.2.2.2.1, r4.2.2.2.2.2.2.2.2.2.2.2.2.2.2.2.2.1, r4.2.2.2.2.2.2.2.2.2.2.2.2.2.2.2.2.2.1, r4.2.2.2.2.2.2.2.2.2.2.2.2.2.2.2.2.2.2.1, r7.2.2.2.1, r7.2.2.2.2.1, r7.2.2.2.2.2.1, r7.2.2.2.2.2.2.1, r7.2.2.2.2.2.2.2.1, r7.2.2.2.2.2.2.2.2.1, r7.2.2.2.2.2.2.2.2.2.1, r7.2.2.2.2.2.2.2.2.2.2.1, r7.2.2.2.2.2.2.2.2.2.2.2.1, r7.2.2.2.2.2.2.2.2.2.2.2.2, r4.2.2.2.2.2.2.2.2.2.2.2.2.2.2.2.2.2.2.2.1, r4.2.2.2.2.2.2.2.2.2.2.2.2.2.2.2.2.2.2.2.2.1, r4.2.2.2.2.2.2.2.2.2.2.2.2.2.2.2.2.2.2.2.2.2))) else (gloop (fun u41 : (Int32 × Int32) => fX12_every_S212 F x69_0 x69_1 x69_2 x69_3 (r4.2.2.2.2.2.2.2.2.2.2.2.1 t8_86.toNatClampNeg) 0 r4.2.1 r4.2.2.1 r4.2.2.2.1 r4.2.2.2.2.1 r4.2.2.2.2.2.1 r4.2.2.2.2.2.2.1 r7.1 r7.2.1 r7.2.2.1 r4.2.2.2.2.2.2.2.1 r4.2.2.2.2.2.2.2.2.1 r4.2.2.2.2.2.2.2.2.2.1 r4.2.2.2.2.2.2.2.2.2.2.1 r4.2.2.2.2.2.2.2.2.2.2.2.1 r4.2.2.2.2.2.2.2.2.2.2.2.2.1 r4.2.2.2.2.2.2.2.2.2.2.2.2.2.1 r4.2.2.2.2.2.2.2.2.2.2.2.2.2.2.1 r4.2.2.2.2.2.2.2.2.2.2.2.2.2.2.2.1 r4.2.2.2.2.2.2.2.2.2.2.2.2.2.2.2.2.1 r4.2.2.2.2.2.2.2.2.2.2.2.2.2.2.2.2.2.1 r4.2.2.2.2.2.2.2.2.2.2.2.2.2.2.2.2.2.2.1 r7.2.2.2.1 r7.2.2.2.2.1 r7.2.2.2.2.2.1 r7.2.2.2.2.2.2.1 r7.2.2.2.2.2.2.2.1 r7.2.2.2.2.2.2.2.2.1 r7.2.2.2.2.2.2.2.2.2.1 r7.2.2.2.2.2.2.2.2.2.2.1 r7.2.2.2.2.2.2.2.2.2.2.2.1 r7.2.2.2.2.2.2.2.2.2.2.2.2 r4.2.2.2.2.2.2.2.2.2.2.2.2.2.2.2.2.2.2.2.1 r4.2.2.2.2.2.2.2.2.2.2.2.2.2.2.2.2.2.2.2.2.1 r4.2.2.2.2.2.2.2.2.2.2.2.2.2.2.2.2.2.2.2.2.2 u41.1 u41.2) F (0, 0)).bind (fun t41_242 => some (t41_242, 0, r4.2.1, r4.2.2.1, r4.2.2.2.1, r4.2.2.2.2.1, r4.2.2.2.2.2.1, r4.2.2.2.2.2.2.1, r7.1, r7.2.1, r7.2.2.1, r4.2.2.2.2.2.2.2.1, r4.2.2.2.2.2.2.2.2.1, r4.2.2.2.2.2.2.2.2.2.1, r4.2.2.2.2.2.2.2.2.2.2.1, r4.2.2.2.2.2.2.2.2.2.2.2.1, r4.2.2.2.2.2.2.2.2.2.2.2.2.1, r4.2.2.2.2.2.2.2.2.2.2.2.2.2.1, r4.2.2.2.2.2.2.2.2.2.2.2.2.2.2.1, r4.2.2.2.2.2.2.2.2.2.2.2.2.2.2.2.1, r4.2.2.2.2.2.2.2.2.2.2.2.2.2.2.2.2.1, r4.2.2.2.2.2.2.2.2.2.2.2.2.2.2.2.2.2.1, r4.2.2.2.2.2.2.2.2.2.2.2.2.2.2.2.2.2.2.1, r7.2.2.2.1, r7.2.2.2.2.1, r7.2.2.2.2.2.1, r7.2.2.2.2.2.2.1, r7.2.2.2.2.2.2.2.1, r7.2.2.2.2.2.2.2.2.1, r7.2.2.2.2.2.2.2.2.2.1, r7.2.2.2.2.2.2.2.2.2.2.1, r7.2.2.2.2.2.2.2.2.2.2.2.1, r7.2.2.2.2.2.2.2.2.2.2.2.2, r4.2.2.2.2.2.2.2.2.2.2.2.2.2.2.2.2.2.2.2.1, r4.2.2.2.2.2.2.2.2.2.2.2.2.2.2.2.2.2.2.2.2.1, r4.2.2.2.2.2.2.2.2.2.2.2.2.2.2.2.2.2.2.2.2.2))))))))))) else none)))))))))
theorem dX12_every_0 : decode cX12_every 0 = .ok (.aload_n 0, 1) := by decide +kernel
theorem dX12_every_1 : decode cX12_every 1 = .ok (.iconst 0, 1) := by decide +kernel
theorem dX12_every_2 : decode cX12_every 2 = .ok (.putfield 137, 3) := by decide +kernel
theorem dX12_every_5 : decode cX12_every 5 = .ok (.iload_n 1, 1) := by decide +kernel
theorem dX12_every_6 : decode cX12_every 6 = .ok (.iconst 0, 1) := by decide +kernel
theorem dX12_every_7 : decode cX12_every 7 = .ok (.bipush 9, 2) := by decide +kernel
theorem dX12_every_9 : decode cX12_every 9 = .ok (.invokestatic 159, 3) := by decide +kernel
theorem dX12_every_12 : decode cX12_every 12 = .ok (.ifCond .ne 5, 3) := by decide +kernel
theorem dX12_every_15 : decode cX12_every 15 = .ok (.iconst (-1), 1) := by decide +kernel
theorem dX12_every_16 : decode cX12_every 16 = .ok (.ireturn, 1) := by decide +kernel
theorem dX12_every_17 : decode cX12_every 17 = .ok (.aload_n 0, 1) := by decide +kernel
theorem dX12_every_18 : decode cX12_every 18 = .ok (.invokevirtual 346, 3) := by decide +kernel
theorem dX12_every_21 : decode cX12_every 21 = .ok (.ifCond .ne 6, 3) := by decide +kernel
theorem dX12_every_24 : decode cX12_every 24 = .ok (.bipush (-3), 2) := by decide +kernel
theorem dX12_every_26 : decode cX12_every 26 = .ok (.ireturn, 1) := by decide +kernel
theorem dX12_every_27 : decode cX12_every 27 = .ok (.iload_n 1, 1) := by decide +kernel
theorem dX12_every_28 : decode cX12_every 28 = .ok (.iconst 1, 1) := by decide +kernel
theorem dX12_every_29 : decode cX12_every 29 = .ok (.if_icmp .ne 8, 3) := by decide +kernel
theorem dX12_every_32 : decode cX12_every 32 = .ok (.aload_n 0, 1) := by decide +kernel
theorem dX12_every_33 : decode cX12_every 33 = .ok (.getfield 255, 3) := by decide +kernel
theorem dX12_every_36 : decode cX12_every 36 = .ok (.ireturn, 1) := by decide +kernel
theorem dX12_every_37 : decode cX12_every 37 = .ok (.aload_n 0, 1) := by decide +kernel
theorem dX12_every_38 : decode cX12_every 38 = .ok (.invokevirtual 304, 3) := by decide +kernel
theorem dX12_every_41 : decode cX12_every 41 = .ok (.iconst 0, 1) := by decide +kernel
theorem dX12_every_42 : decode cX12_every 42 = .ok (.istore_n 2, 1) := by decide +kernel
theorem dX12_every_43 : decode cX12_every 43 = .ok (.iconst 1, 1) := by decide +kernel
theorem dX12_every_44 : decode cX12_every 44 = .ok (.istore_n 3, 1) := by decide +kernel
theorem dX12_every_45 : decode cX12_every 45 = .ok (.iload_n 3, 1) := by decide +kernel
theorem dX12_every_46 : decode cX12_every 46 = .ok (.aload_n 0, 1) := by decide +kernel
theorem dX12_every_47 : decode cX12_every 47 = .ok (.getfield 255, 3) := by decide +kernel
theorem dX12_every_50 : decode cX12_every 50 = .ok (.if_icmp .ge 36, 3) := by decide +kernel
theorem dX12_every_53 : decode cX12_every 53 = .ok (.aload_n 0, 1) := by decide +kernel
theorem dX12_every_54 : decode cX12_every 54 = .ok (.getfield 98, 3) := by decide +kernel
theorem dX12_every_57 : decode cX12_every 57 = .ok (.aload_n 0, 1) := by decide +kernel
theorem dX12_every_58 : decode cX12_every 58 = .ok (.getfield 76, 3) := by decide +kernel
theorem dX12_every_61 : decode cX12_every 61 = .ok (.iload_n 3, 1) := by decide +kernel
theorem dX12_every_62 : decode cX12_every 62 = .ok (.iaload, 1) := by decide +kernel
theorem dX12_every_63 : decode cX12_every 63 = .ok (.iaload, 1) := by decide +kernel
theorem dX12_every_64 : decode cX12_every 64 = .ok (.aload_n 0, 1) := by decide +kernel
theorem dX12_every_65 : decode cX12_every 65 = .ok (.getfield 98, 3) := by decide +kernel
theorem dX12_every_68 : decode cX12_every 68 = .ok (.aload_n 0, 1) := by decide +kernel
theorem dX12_every_69 : decode cX12_every 69 = .ok (.getfield 76, 3) := by decide +kernel
theorem dX12_every_72 : decode cX12_every 72 = .ok (.iload_n 2, 1) := by decide +kernel
theorem dX12_every_73 : decode cX12_every 73 = .ok (.iaload, 1) := by decide +kernel
theorem dX12_every_74 : decode cX12_every 74 = .ok (.iaload, 1) := by decide +kernel
theorem dX12_every_75 : decode cX12_every 75 = .ok (.if_icmp .le 5, 3) := by decide +kernel
theorem dX12_every_78 : decode cX12_every 78 = .ok (.iload_n 3, 1) := by decide +kernel
theorem dX12_every_79 : decode cX12_every 79 = .ok (.istore_n 2, 1) := by decide +kernel
theorem dX12_every_80 : decode cX12_every 80 = .ok (.iinc 3 1, 3) := by decide +kernel
theorem dX12_every_83 : decode cX12_every 83 = .ok (.goto (-38), 3) := by decide +kernel
theorem dX12_every_86 : decode cX12_every 86 = .ok (.aload_n 0, 1) := by decide +kernel
theorem dX12_every_87 : decode cX12_every 87 = .ok (.getfield 50, 3) := by decide +kernel
theorem dX12_every_90 : decode cX12_every 90 = .ok (.iload_n 2, 1) := by decide +kernel
theorem dX12_every_91 : decode cX12_every 91 = .ok (.laload, 1) := by decide +kernel
theorem dX12_every_92 : decode cX12_every 92 = .ok (.lstore_n 3, 1) := by decide +kernel
theorem dX12_every_93 : decode cX12_every 93 = .ok (.iload_n 1, 1) := by decide +kernel
theorem dX12_every_94 : decode cX12_every 94 = .ok (.tableswitch 112 0 8 #[50, 112, 65, 72, 79, 86, 94, 102, 107], 50) := by decide +kernel
theorem dX12_every_144 : decode cX12_every 144 = .ok (.aload_n 0, 1) := by decide +kernel
theorem dX12_every_145 : decode cX12_every 145 = .ok (.getfield 98, 3) := by decide +kernel
theorem dX12_every_148 : decode cX12_every 148 = .ok (.aload_n 0, 1) := by decide +kernel
theorem dX12_every_149 : decode cX12_every 149 = .ok (.getfield 76, 3) := by decide +kernel
theorem dX12_every_152 : decode cX12_every 152 = .ok (.iload_n 2, 1) := by decide +kernel
theorem dX12_every_153 : decode cX12_every 153 = .ok (.iaload, 1) := by decide +kernel
theorem dX12_every_154 : decode cX12_every 154 = .ok (.iaload, 1) := by decide +kernel
theorem dX12_every_155 : decode cX12_every 155 = .ok (.invokestatic 307, 3) := by decide +kernel
theorem dX12_every_158 : decode cX12_every 158 = .ok (.ireturn, 1) := by decide +kernel
theorem dX12_every_159 : decode cX12_every 159 = .ok (.lload_n 3, 1) := by decide +kernel
theorem dX12_every_160 : decode cX12_every 160 = .ok (.iconst 0, 1) := by decide +kernel
theorem dX12_every_161 : decode cX12_every 161 = .ok (.iconst 2, 1) := by decide +kernel
theorem dX12_every_162 : decode cX12_every 162 = .ok (.invokestatic 142, 3) := by decide +kernel
theorem dX12_every_165 : decode cX12_every 165 = .ok (.ireturn, 1) := by decide +kernel
theorem dX12_every_166 : decode cX12_every 166 = .ok (.lload_n 3, 1) := by decide +kernel
theorem dX12_every_167 : decode cX12_every 167 = .ok (.iconst 2, 1) := by decide +kernel
theorem dX12_every_168 : decode cX12_every 168 = .ok (.iconst 1, 1) := by decide +kernel
theorem dX12_every_169 : decode cX12_every 169 = .ok (.invokestatic 142, 3) := by decide +kernel
theorem dX12_every_172 : decode cX12_every 172 = .ok (.ireturn, 1) := by decide +kernel
theorem dX12_every_173 : decode cX12_every 173 = .ok (.lload_n 3, 1) := by decide +kernel
theorem dX12_every_174 : decode cX12_every 174 = .ok (.iconst 3, 1) := by decide +kernel
theorem dX12_every_175 : decode cX12_every 175 = .ok (.iconst 3, 1) := by decide +kernel
theorem dX12_every_176 : decode cX12_every 176 = .ok (.invokestatic 142, 3) := by decide +kernel
theorem dX12_every_179 : decode cX12_every 179 = .ok (.ireturn, 1) := by decide +kernel
theorem dX12_every_180 : decode cX12_every 180 = .ok (.lload_n 3, 1) := by decide +kernel
theorem dX12_every_181 : decode cX12_every 181 = .ok (.bipush 6, 2) := by decide +kernel
theorem dX12_every_183 : decode cX12_every 183 = .ok (.iconst 1, 1) := by decide +kernel
theorem dX12_every_184 : decode cX12_every 184 = .ok (.invokestatic 142, 3) := by decide +kernel
theorem dX12_every_187 : decode cX12_every 187 = .ok (.ireturn, 1) := by decide +kernel
theorem dX12_every_188 : decode cX12_every 188 = .ok (.lload_n 3, 1) := by decide +kernel
theorem dX12_every_189 : decode cX12_every 189 = .ok (.bipush 7, 2) := by decide +kernel
theorem dX12_every_191 : decode cX12_every 191 = .ok (.iconst 2, 1) := by decide +kernel
theorem dX12_every_192 : decode cX12_every 192 = .ok (.invokestatic 142, 3) := by decide +kernel
theorem dX12_every_195 : decode cX12_every 195 = .ok (.ireturn, 1) := by decide +kernel
theorem dX12_every_196 : decode cX12_every 196 = .ok (.lload_n 3, 1) := by decide +kernel
theorem dX12_every_197 : decode cX12_every 197 = .ok (.invokestatic 181, 3) := by decide +kernel
theorem dX12_every_200 : decode cX12_every 200 = .ok (.ireturn, 1) := by decide +kernel
theorem dX12_every_201 : decode cX12_every 201 = .ok (.lload_n 3, 1) := by decide +kernel
theorem dX12_every_202 : decode cX12_every 202 = .ok (.invokestatic 189, 3) := by decide +kernel
theorem dX12_every_205 : decode cX12_every 205 = .ok (.ireturn, 1) := by decide +kernel
theorem dX12_every_206 : decode cX12_every 206 = .ok (.iconst 0, 1) := by decide +kernel
theorem dX12_every_207 : decode cX12_every 207 = .ok (.istore 5, 2) := by decide +kernel
theorem dX12_every_209 : decode cX12_every 209 = .ok (.iconst 0, 1) := by decide +kernel
theorem dX12_every_210 : decode cX12_every 210 = .ok (.istore 6, 2) := by decide +kernel
theorem dX12_every_212 : decode cX12_every 212 = .ok (.iload 6, 2) := by decide +kernel
theorem dX12_every_214 : decode cX12_every 214 = .ok (.bipush 8, 2) := by decide +kernel
theorem dX12_every_216 : decode cX12_every 216 = .ok (.if_icmp .ge 26, 3) := by decide +kernel
theorem dX12_every_219 : decode cX12_every 219 = .ok (.iload 5, 2) := by decide +kernel
theorem dX12_every_221 : decode cX12_every 221 = .ok (.lload_n 3, 1) := by decide +kernel
theorem dX12_every_222 : decode cX12_every 222 = .ok (.bipush 9, 2) := by decide +kernel
theorem dX12_every_224 : decode cX12_every 224 = .ok (.iconst 2, 1) := by decide +kernel
theorem dX12_every_225 : decode cX12_every 225 = .ok (.iload 6, 2) := by decide +kernel
theorem dX12_every_227 : decode cX12_every 227 = .ok (.imul, 1) := by decide +kernel
theorem dX12_every_228 : decode cX12_every 228 = .ok (.iadd, 1) := by decide +kernel
theorem dX12_every_229 : decode cX12_every 229 = .ok (.iconst 2, 1) := by decide +kernel
theorem dX12_every_230 : decode cX12_every 230 = .ok (.invokestatic 142, 3) := by decide +kernel
theorem dX12_every_233 : decode cX12_every 233 = .ok (.iadd, 1) := by decide +kernel
theorem dX12_every_234 : decode cX12_every 234 = .ok (.istore 5, 2) := by decide +kernel
theorem dX12_every_236 : decode cX12_every 236 = .ok (.iinc 6 1, 3) := by decide +kernel
theorem dX12_every_239 : decode cX12_every 239 = .ok (.goto (-27), 3) := by decide +kernel
theorem dX12_every_242 : decode cX12_every 242 = .ok (.iload 5, 2) := by decide +kernel
theorem dX12_every_244 : decode cX12_every 244 = .ok (.ireturn, 1) := by decide +kernel
set_option maxHeartbeats 4000000 in
set_option maxRecDepth 100000 in
theorem kX12_every {l : Launch} {D : va_G} {cy : Nat → ClassId} {N : Nat} {q : Nat → Nat} {m0 : Nat → Value} {a0 : Nat → vp_A} {sz : Nat} (hN : 105 ≤ N) (hsh : SH q m0) {x69_0 : Int32} (h_x69_0 : m0 6900 = .int x69_0) {x69_1 : Int32} (h_x69_1 : m0 6901 = .int x69_1) {x69_2 : Int32} (h_x69_2 : m0 6902 = .int x69_2) {x69_3 : Int32} (h_x69_3 : m0 6903 = .int x69_3) {x69_18 : Int32} (h_x69_18 : m0 6918 = .int x69_18) {x69_19 : Int64} (h_x69_19 : m0 6919 = .long x69_19) {x69_20 : Int32} (h_x69_20 : m0 6920 = .int x69_20) {x69_21 : Int32} (h_x69_21 : m0 6921 = .int x69_21) {x69_22 : Int32} (h_x69_22 : m0 6922 = .int x69_22) {x69_27 : Int32} (h_x69_27 : m0 6927 = .int x69_27) {x69_35 : Int32} (h_x69_35 : m0 6935 = .int x69_35) {x69_43 : Int32} (h_x69_43 : m0 6943 = .int x69_43) {x69_44 : Int32} (h_x69_44 : m0 6944 = .int x69_44) {x69_45 : Int32} (h_x69_45 : m0 6945 = .int x69_45) {x69_55 : Int32} (h_x69_55 : m0 6955 = .int x69_55) {A76 : Nat → Int32} (h_A76 : a0 76 = (40, .inl A76)) {A77 : Nat → Int32} (h_A77 : a0 77 = (40, .inl A77)) {A78 : Nat → Int32} (h_A78 : a0 78 = (40, .inl A78)) {A79 : Nat → Int64} (h_A79 : a0 79 = (6001, .inr (.inl A79))) {A80 : Nat → Int32} (h_A80 : a0 80 = (16384, .inl A80)) {A81 : Nat → Int32} (h_A81 : a0 81 = (6002, .inl A81)) {A82 : Nat → Int32} (h_A82 : a0 82 = (84000, .inl A82)) {A83 : Nat → Int32} (h_A83 : a0 83 = (84000, .inl A83)) {A84 : Nat → Int32} (h_A84 : a0 84 = (84000, .inl A84)) {A85 : Nat → Int32} (h_A85 : a0 85 = (84000, .inl A85)) {A86 : Nat → Int32} (h_A86 : a0 86 = (84000, .inl A86)) {A87 : Nat → Int32} (h_A87 : a0 87 = (6001, .inl A87)) {A88 : Nat → Int32} (h_A88 : a0 88 = (6001, .inl A88)) {A89 : Nat → Int32} (h_A89 : a0 89 = (6001, .inl A89)) {A90 : Nat → Int32} (h_A90 : a0 90 = (6001, .inl A90)) {A91 : Nat → Int32} (h_A91 : a0 91 = (6001, .inl A91)) {A92 : Nat → Int32} (h_A92 : a0 92 = (6001, .inl A92)) {A93 : Nat → Int32} (h_A93 : a0 93 = (6001, .inl A93)) {A94 : Nat → Int32} (h_A94 : a0 94 = (6001, .inl A94)) {A95 : Nat → Int32} (h_A95 : a0 95 = (6001, .inl A95)) {A96 : Nat → Int32} (h_A96 : a0 96 = (6002, .inl A96)) {A100 : Nat → Int32} (h_A100 : a0 100 = (25, .inl A100)) {A101 : Nat → Int32} (h_A101 : a0 101 = (25, .inl A101)) {A102 : Nat → Int32} (h_A102 : a0 102 = (25, .inl A102)) (F : Nat) (p1 : Int32) {X0 : Int32 × Int32 × Int64 × Int32 × Int32 × Int32 × Int32 × Int32 × Int32 × Int32 × Int32 × Int32 × (Nat → Int32) × (Nat → Int32) × (Nat → Int32) × (Nat → Int64) × (Nat → Int32) × (Nat → Int32) × (Nat → Int32) × (Nat → Int32) × (Nat → Int32) × (Nat → Int32) × (Nat → Int32) × (Nat → Int32) × (Nat → Int32) × (Nat → Int32) × (Nat → Int32) × (Nat → Int32) × (Nat → Int32) × (Nat → Int32) × (Nat → Int32) × (Nat → Int32) × (Nat → Int32) × (Nat → Int32) × (Nat → Int32) × (Nat → Int32)} (hs0 : fX12_every F x69_0 x69_1 x69_2 x69_3 x69_18 x69_19 x69_20 x69_21 x69_22 x69_27 x69_35 x69_43 x69_44 x69_45 x69_55 A76 A77 A78 A79 A80 A81 A82 A83 A84 A85 A86 A87 A88 A89 A90 A91 A92 A93 A94 A95 A96 A100 A101 A102 p1 = some X0) : gMi l yX12_every cX12_every 7 (some .int) ({ frames := 314, cells := 0, slots := 0, locals := 2647 } : Room) D cy N q m0 a0 sz [.ref (q 69), .int p1] (fun r m' a' => r = X0.1 ∧ m' 6918 = .int X0.2.1 ∧ m' 6919 = .long X0.2.2.1 ∧ m' 6920 = .int X0.2.2.2.1 ∧ m' 6921 = .int X0.2.2.2.2.1 ∧ m' 6922 = .int X0.2.2.2.2.2.1 ∧ m' 6927 = .int X0.2.2.2.2.2.2.1 ∧ m' 6935 = .int X0.2.2.2.2.2.2.2.1 ∧ m' 6943 = .int X0.2.2.2.2.2.2.2.2.1 ∧ m' 6944 = .int X0.2.2.2.2.2.2.2.2.2.1 ∧ m' 6945 = .int X0.2.2.2.2.2.2.2.2.2.2.1 ∧ m' 6955 = .int X0.2.2.2.2.2.2.2.2.2.2.2.1 ∧ (∀ j, nel j [6918, 6919, 6920, 6921, 6922, 6927, 6935, 6943, 6944, 6945, 6955] = false → m' j = m0 j) ∧ a' 76 = (40, .inl X0.2.2.2.2.2.2.2.2.2.2.2.2.1) ∧ a' 77 = (40, .inl X0.2.2.2.2.2.2.2.2.2.2.2.2.2.1) ∧ a' 78 = (40, .inl X0.2.2.2.2.2.2.2.2.2.2.2.2.2.2.1) ∧ a' 79 = (6001, .inr (.inl X0.2.2.2.2.2.2.2.2.2.2.2.2.2.2.2.1)) ∧ a' 80 = (16384, .inl X0.2.2.2.2.2.2.2.2.2.2.2.2.2.2.2.2.1) ∧ a' 81 = (6002, .inl X0.2.2.2.2.2.2.2.2.2.2.2.2.2.2.2.2.2.1) ∧ a' 82 = (84000, .inl X0.2.2.2.2.2.2.2.2.2.2.2.2.2.2.2.2.2.2.1) ∧ a' 83 = (84000, .inl X0.2.2.2.2.2.2.2.2.2.2.2.2.2.2.2.2.2.2.2.1) ∧ a' 84 = (84000, .inl X0.2.2.2.2.2.2.2.2.2.2.2.2.2.2.2.2.2.2.2.2.1) ∧ a' 85 = (84000, .inl X0.2.2.2.2.2.2.2.2.2.2.2.2.2.2.2.2.2.2.2.2.2.1) ∧ a' 86 = (84000, .inl X0.2.2.2.2.2.2.2.2.2.2.2.2.2.2.2.2.2.2.2.2.2.2.1) ∧ a' 87 = (6001, .inl X0.2.2.2.2.2.2.2.2.2.2.2.2.2.2.2.2.2.2.2.2.2.2.2.1) ∧ a' 88 = (6001, .inl X0.2.2.2.2.2.2.2.2.2.2.2.2.2.2.2.2.2.2.2.2.2.2.2.2.1) ∧ a' 89 = (6001, .inl X0.2.2.2.2.2.2.2.2.2.2.2.2.2.2.2.2.2.2.2.2.2.2.2.2.2.1) ∧ a' 90 = (6001, .inl X0.2.2.2.2.2.2.2.2.2.2.2.2.2.2.2.2.2.2.2.2.2.2.2.2.2.2.1) ∧ a' 91 = (6001, .inl X0.2.2.2.2.2.2.2.2.2.2.2.2.2.2.2.2.2.2.2.2.2.2.2.2.2.2.2.1) ∧ a' 92 = (6001, .inl X0.2.2.2.2.2.2.2.2.2.2.2.2.2.2.2.2.2.2.2.2.2.2.2.2.2.2.2.2.1) ∧ a' 93 = (6001, .inl X0.2.2.2.2.2.2.2.2.2.2.2.2.2.2.2.2.2.2.2.2.2.2.2.2.2.2.2.2.2.1) ∧ a' 94 = (6001, .inl X0.2.2.2.2.2.2.2.2.2.2.2.2.2.2.2.2.2.2.2.2.2.2.2.2.2.2.2.2.2.2.1) ∧ a' 95 = (6001, .inl X0.2.2.2.2.2.2.2.2.2.2.2.2.2.2.2.2.2.2.2.2.2.2.2.2.2.2.2.2.2.2.2.1) ∧ a' 96 = (6002, .inl X0.2.2.2.2.2.2.2.2.2.2.2.2.2.2.2.2.2.2.2.2.2.2.2.2.2.2.2.2.2.2.2.2.1) ∧ a' 100 = (25, .inl X0.2.2.2.2.2.2.2.2.2.2.2.2.2.2.2.2.2.2.2.2.2.2.2.2.2.2.2.2.2.2.2.2.2.1) ∧ a' 101 = (25, .inl X0.2.2.2.2.2.2.2.2.2.2.2.2.2.2.2.2.2.2.2.2.2.2.2.2.2.2.2.2.2.2.2.2.2.2.1) ∧ a' 102 = (25, .inl X0.2.2.2.2.2.2.2.2.2.2.2.2.2.2.2.2.2.2.2.2.2.2.2.2.2.2.2.2.2.2.2.2.2.2.2) ∧ (∀ j, nel j [76, 77, 78, 79, 80, 81, 82, 83, 84, 85, 86, 87, 88, 89, 90, 91, 92, 93, 94, 95, 96, 100, 101, 102] = false → a' j = a0 j)) := by
  refine g_ofi (by decide) (Nat.le_of_ble_eq_true rfl) ?_
  intro p e s M args below meth c hx hb hr hG hown hin hlocks hml hW hS ls hl
  unfold fX12_every at hs0
  have hoff : ∀ j, nel j [6918, 6919, 6920, 6921, 6922, 6927, 6935, 6943, 6944, 6945, 6955] = false → m0 j = m0 j := off0
  have hoffa : ∀ j, nel j [76, 77, 78, 79, 80, 81, 82, 83, 84, 85, 86, 87, 88, 89, 90, 91, 92, 93, 94, 95, 96, 100, 101, 102] = false → a0 j = a0 j := off0
  refine lv_aload_n hx hb dX12_every_0 rfl (lv_at hl 0 rfl) ?_
  refine lv_iconst (v := 0) hx hb dX12_every_1 (by decide) ?_
  refine gp12_18 hx hb hG hown hW hS (o := 69) (ltN hN 69 rfl) gk69 (v := 0) gx246 dX12_every_2 (fun m1 H locs hm1 ho1 hW hS => ?_)
  have ho1 := off1 ho1
  have w_x69_18 : m1 6918 = .int 0 := hm1
  have w_x69_19 : m1 6919 = .long x69_19 := (ho1 6919 rfl).trans h_x69_19
  have w_x69_20 : m1 6920 = .int x69_20 := (ho1 6920 rfl).trans h_x69_20
  have w_x69_21 : m1 6921 = .int x69_21 := (ho1 6921 rfl).trans h_x69_21
  have w_x69_22 : m1 6922 = .int x69_22 := (ho1 6922 rfl).trans h_x69_22
  have w_x69_27 : m1 6927 = .int x69_27 := (ho1 6927 rfl).trans h_x69_27
  have w_x69_35 : m1 6935 = .int x69_35 := (ho1 6935 rfl).trans h_x69_35
  have w_x69_43 : m1 6943 = .int x69_43 := (ho1 6943 rfl).trans h_x69_43
  have w_x69_44 : m1 6944 = .int x69_44 := (ho1 6944 rfl).trans h_x69_44
  have w_x69_45 : m1 6945 = .int x69_45 := (ho1 6945 rfl).trans h_x69_45
  have w_x69_55 : m1 6955 = .int x69_55 := (ho1 6955 rfl).trans h_x69_55
  have hoff := offm hoff ho1 (by decide +kernel)
  have hsh := SH.off hsh ho1 (by decide +kernel)
  refine lv_iload_n hx hb dX12_every_5 rfl (lv_at hl 1 rfl) ?_
  refine lv_iconst (v := 0) hx hb dX12_every_6 (by decide) ?_
  refine lv_bipush (v := 9) hx hb dX12_every_7 (by decide) ?_
  refine g_SiR (n := 3) hx hb hml hown hG hW hS [.int p1, .int 0, .int 9] (kX12_within hN p1 0 9) rfl (gd_S gx247 gx248 gx5 gx249) rfl rfl (by decide) ⟨Nat.le_of_ble_eq_true rfl, Nat.le_of_ble_eq_true rfl⟩ rfl hl (Nat.le_of_ble_eq_true rfl) ⟨Nat.zero_le _, Nat.zero_le _⟩ dX12_every_9 (fun H locs hW hS => ?_)
  refine lv_if_ne (tgt := 17) hx hb dX12_every_12 (by decide) (fun c3 => ?_) (fun c3 => ?_)
  · rw [if_neg c3] at hs0
    refine lv_aload_n hx hb dX12_every_17 rfl (lv_at hl 0 rfl) ?_
    obtain ⟨r4, hf4, hs0⟩ := obind hs0
    refine g_Vi (n := 0) hx hb hml hown hG hW hS [] (kX12_laysEvery hN hsh ((hoff 6900 rfl).trans h_x69_0) ((hoff 6901 rfl).trans h_x69_1) ((hoff 6902 rfl).trans h_x69_2) ((hoff 6903 rfl).trans h_x69_3) w_x69_19 w_x69_20 w_x69_21 w_x69_22 w_x69_27 w_x69_35 w_x69_55 h_A76 h_A77 h_A78 h_A79 h_A80 h_A81 h_A82 h_A83 h_A84 h_A85 h_A86 h_A100 h_A101 h_A102 F hf4) (ltN hN 69 rfl) gk69 (by decide) rfl rfl (gd_V gx1055 gx1056 gx1057 gx5 gx1058) rfl rfl (by decide) ⟨Nat.le_of_ble_eq_true rfl, Nat.le_of_ble_eq_true rfl⟩ rfl hl (Nat.le_of_ble_eq_true rfl) ⟨Nat.zero_le _, Nat.zero_le _⟩ dX12_every_18 (fun x4 m4 a4 H locs hp4 hW hS => ?_)
    obtain ⟨hx4, hp4_x69_19, hp4_x69_20, hp4_x69_21, hp4_x69_22, hp4_x69_27, hp4_x69_35, hp4_x69_55, ho4, hp4_A76, hp4_A77, hp4_A78, hp4_A79, hp4_A80, hp4_A81, hp4_A82, hp4_A83, hp4_A84, hp4_A85, hp4_A86, hp4_A100, hp4_A101, hp4_A102, hoa4⟩ := hp4
    subst hx4
    have w_x69_18 : m4 6918 = .int 0 := (ho4 6918 rfl).trans w_x69_18
    have w_x69_19 : m4 6919 = .long r4.2.1 := hp4_x69_19
    have w_x69_20 : m4 6920 = .int r4.2.2.1 := hp4_x69_20
    have w_x69_21 : m4 6921 = .int r4.2.2.2.1 := hp4_x69_21
    have w_x69_22 : m4 6922 = .int r4.2.2.2.2.1 := hp4_x69_22
    have w_x69_27 : m4 6927 = .int r4.2.2.2.2.2.1 := hp4_x69_27
    have w_x69_35 : m4 6935 = .int r4.2.2.2.2.2.2.1 := hp4_x69_35
    have w_x69_43 : m4 6943 = .int x69_43 := (ho4 6943 rfl).trans w_x69_43
    have w_x69_44 : m4 6944 = .int x69_44 := (ho4 6944 rfl).trans w_x69_44
    have w_x69_45 : m4 6945 = .int x69_45 := (ho4 6945 rfl).trans w_x69_45
    have w_x69_55 : m4 6955 = .int r4.2.2.2.2.2.2.2.1 := hp4_x69_55
    have hoff := offm hoff ho4 (by decide +kernel)
    have hsh := SH.off hsh ho4 (by decide +kernel)
    have w_A76 : a4 76 = (40, .inl r4.2.2.2.2.2.2.2.2.1) := hp4_A76
    have w_A77 : a4 77 = (40, .inl r4.2.2.2.2.2.2.2.2.2.1) := hp4_A77
    have w_A78 : a4 78 = (40, .inl r4.2.2.2.2.2.2.2.2.2.2.1) := hp4_A78
    have w_A79 : a4 79 = (6001, .inr (.inl r4.2.2.2.2.2.2.2.2.2.2.2.1)) := hp4_A79
    have w_A80 : a4 80 = (16384, .inl r4.2.2.2.2.2.2.2.2.2.2.2.2.1) := hp4_A80
    have w_A81 : a4 81 = (6002, .inl r4.2.2.2.2.2.2.2.2.2.2.2.2.2.1) := hp4_A81
    have w_A82 : a4 82 = (84000, .inl r4.2.2.2.2.2.2.2.2.2.2.2.2.2.2.1) := hp4_A82
    have w_A83 : a4 83 = (84000, .inl r4.2.2.2.2.2.2.2.2.2.2.2.2.2.2.2.1) := hp4_A83
    have w_A84 : a4 84 = (84000, .inl r4.2.2.2.2.2.2.2.2.2.2.2.2.2.2.2.2.1) := hp4_A84
    have w_A85 : a4 85 = (84000, .inl r4.2.2.2.2.2.2.2.2.2.2.2.2.2.2.2.2.2.1) := hp4_A85
    have w_A86 : a4 86 = (84000, .inl r4.2.2.2.2.2.2.2.2.2.2.2.2.2.2.2.2.2.2.1) := hp4_A86
    have w_A87 : a4 87 = (6001, .inl A87) := (hoa4 87 rfl).trans h_A87
    have w_A88 : a4 88 = (6001, .inl A88) := (hoa4 88 rfl).trans h_A88
    have w_A89 : a4 89 = (6001, .inl A89) := (hoa4 89 rfl).trans h_A89
    have w_A90 : a4 90 = (6001, .inl A90) := (hoa4 90 rfl).trans h_A90
    have w_A91 : a4 91 = (6001, .inl A91) := (hoa4 91 rfl).trans h_A91
    have w_A92 : a4 92 = (6001, .inl A92) := (hoa4 92 rfl).trans h_A92
    have w_A93 : a4 93 = (6001, .inl A93) := (hoa4 93 rfl).trans h_A93
    have w_A94 : a4 94 = (6001, .inl A94) := (hoa4 94 rfl).trans h_A94
    have w_A95 : a4 95 = (6001, .inl A95) := (hoa4 95 rfl).trans h_A95
    have w_A96 : a4 96 = (6002, .inl A96) := (hoa4 96 rfl).trans h_A96
    have w_A100 : a4 100 = (25, .inl r4.2.2.2.2.2.2.2.2.2.2.2.2.2.2.2.2.2.2.2.1) := hp4_A100
    have w_A101 : a4 101 = (25, .inl r4.2.2.2.2.2.2.2.2.2.2.2.2.2.2.2.2.2.2.2.2.1) := hp4_A101
    have w_A102 : a4 102 = (25, .inl r4.2.2.2.2.2.2.2.2.2.2.2.2.2.2.2.2.2.2.2.2.2) := hp4_A102
    have hoffa := offm hoffa hoa4 (by decide +kernel)
    refine lv_if_ne (tgt := 27) hx hb dX12_every_21 (by decide) (fun c5 => ?_) (fun c5 => ?_)
    · rw [if_neg c5] at hs0
      refine lv_iload_n hx hb dX12_every_27 rfl (lv_at hl 1 rfl) ?_
      refine lv_iconst (v := 1) hx hb dX12_every_28 (by decide) ?_
      refine lv_icmp_ne (tgt := 37) hx hb dX12_every_29 (by decide) (fun c6 => ?_) (fun c6 => ?_)
      · rw [if_neg c6] at hs0
        refine lv_aload_n hx hb dX12_every_37 rfl (lv_at hl 0 rfl) ?_
        obtain ⟨r7, hf7, hs0⟩ := obind hs0
        refine g_Vv (n := 0) hx hb hml hown hG hW hS [] (kX12_laysWorst hN hsh w_x69_27 w_A81 w_A82 w_A83 w_x69_43 w_x69_44 w_x69_45 w_A87 w_A88 w_A89 w_A90 w_A91 w_A92 w_A93 w_A94 w_A95 w_A96 F hf7) (ltN hN 69 rfl) gk69 (by decide) rfl rfl (gd_V gx800 gx801 gx802 gx5 gx803) rfl rfl (by decide) ⟨Nat.le_of_ble_eq_true rfl, Nat.le_of_ble_eq_true rfl⟩ rfl hl (Nat.le_of_ble_eq_true rfl) ⟨Nat.zero_le _, Nat.zero_le _⟩ dX12_every_38 (fun m7 a7 H locs hp7 hW hS => ?_)
        obtain ⟨hp7_x69_43, hp7_x69_44, hp7_x69_45, ho7, hp7_A87, hp7_A88, hp7_A89, hp7_A90, hp7_A91, hp7_A92, hp7_A93, hp7_A94, hp7_A95, hp7_A96, hoa7⟩ := hp7
        have w_x69_18 : m7 6918 = .int 0 := (ho7 6918 rfl).trans w_x69_18
        have w_x69_19 : m7 6919 = .long r4.2.1 := (ho7 6919 rfl).trans w_x69_19
        have w_x69_20 : m7 6920 = .int r4.2.2.1 := (ho7 6920 rfl).trans w_x69_20
        have w_x69_21 : m7 6921 = .int r4.2.2.2.1 := (ho7 6921 rfl).trans w_x69_21
        have w_x69_22 : m7 6922 = .int r4.2.2.2.2.1 := (ho7 6922 rfl).trans w_x69_22
        have w_x69_27 : m7 6927 = .int r4.2.2.2.2.2.1 := (ho7 6927 rfl).trans w_x69_27
        have w_x69_35 : m7 6935 = .int r4.2.2.2.2.2.2.1 := (ho7 6935 rfl).trans w_x69_35
        have w_x69_43 : m7 6943 = .int r7.1 := hp7_x69_43
        have w_x69_44 : m7 6944 = .int r7.2.1 := hp7_x69_44
        have w_x69_45 : m7 6945 = .int r7.2.2.1 := hp7_x69_45
        have w_x69_55 : m7 6955 = .int r4.2.2.2.2.2.2.2.1 := (ho7 6955 rfl).trans w_x69_55
        have hoff := offm hoff ho7 (by decide +kernel)
        have hsh := SH.off hsh ho7 (by decide +kernel)
        have w_A76 : a7 76 = (40, .inl r4.2.2.2.2.2.2.2.2.1) := (hoa7 76 rfl).trans w_A76
        have w_A77 : a7 77 = (40, .inl r4.2.2.2.2.2.2.2.2.2.1) := (hoa7 77 rfl).trans w_A77
        have w_A78 : a7 78 = (40, .inl r4.2.2.2.2.2.2.2.2.2.2.1) := (hoa7 78 rfl).trans w_A78
        have w_A79 : a7 79 = (6001, .inr (.inl r4.2.2.2.2.2.2.2.2.2.2.2.1)) := (hoa7 79 rfl).trans w_A79
        have w_A80 : a7 80 = (16384, .inl r4.2.2.2.2.2.2.2.2.2.2.2.2.1) := (hoa7 80 rfl).trans w_A80
        have w_A81 : a7 81 = (6002, .inl r4.2.2.2.2.2.2.2.2.2.2.2.2.2.1) := (hoa7 81 rfl).trans w_A81
        have w_A82 : a7 82 = (84000, .inl r4.2.2.2.2.2.2.2.2.2.2.2.2.2.2.1) := (hoa7 82 rfl).trans w_A82
        have w_A83 : a7 83 = (84000, .inl r4.2.2.2.2.2.2.2.2.2.2.2.2.2.2.2.1) := (hoa7 83 rfl).trans w_A83
        have w_A84 : a7 84 = (84000, .inl r4.2.2.2.2.2.2.2.2.2.2.2.2.2.2.2.2.1) := (hoa7 84 rfl).trans w_A84
        have w_A85 : a7 85 = (84000, .inl r4.2.2.2.2.2.2.2.2.2.2.2.2.2.2.2.2.2.1) := (hoa7 85 rfl).trans w_A85
        have w_A86 : a7 86 = (84000, .inl r4.2.2.2.2.2.2.2.2.2.2.2.2.2.2.2.2.2.2.1) := (hoa7 86 rfl).trans w_A86
        have w_A87 : a7 87 = (6001, .inl r7.2.2.2.1) := hp7_A87
        have w_A88 : a7 88 = (6001, .inl r7.2.2.2.2.1) := hp7_A88
        have w_A89 : a7 89 = (6001, .inl r7.2.2.2.2.2.1) := hp7_A89
        have w_A90 : a7 90 = (6001, .inl r7.2.2.2.2.2.2.1) := hp7_A90
        have w_A91 : a7 91 = (6001, .inl r7.2.2.2.2.2.2.2.1) := hp7_A91
        have w_A92 : a7 92 = (6001, .inl r7.2.2.2.2.2.2.2.2.1) := hp7_A92
        have w_A93 : a7 93 = (6001, .inl r7.2.2.2.2.2.2.2.2.2.1) := hp7_A93
        have w_A94 : a7 94 = (6001, .inl r7.2.2.2.2.2.2.2.2.2.2.1) := hp7_A94
        have w_A95 : a7 95 = (6001, .inl r7.2.2.2.2.2.2.2.2.2.2.2.1) := hp7_A95
        have w_A96 : a7 96 = (6002, .inl r7.2.2.2.2.2.2.2.2.2.2.2.2) := hp7_A96
        have w_A100 : a7 100 = (25, .inl r4.2.2.2.2.2.2.2.2.2.2.2.2.2.2.2.2.2.2.2.1) := (hoa7 100 rfl).trans w_A100
        have w_A101 : a7 101 = (25, .inl r4.2.2.2.2.2.2.2.2.2.2.2.2.2.2.2.2.2.2.2.2.1) := (hoa7 101 rfl).trans w_A101
        have w_A102 : a7 102 = (25, .inl r4.2.2.2.2.2.2.2.2.2.2.2.2.2.2.2.2.2.2.2.2.2) := (hoa7 102 rfl).trans w_A102
        have hoffa := offm hoffa hoa7 (by decide +kernel)
        refine lv_iconst (v := 0) hx hb dX12_every_41 (by decide) ?_
        refine lv_istore_n (lv' := [(2, .int 0), (0, .ref (q 69)), (1, .int p1)]) hx hb dX12_every_42 rfl hl (by decide) rfl (fun ls hl => ?_)
        refine lv_iconst (v := 1) hx hb dX12_every_43 (by decide) ?_
        refine lv_istore_n (lv' := [(3, .int 1), (2, .int 0), (0, .ref (q 69)), (1, .int p1)]) hx hb dX12_every_44 rfl hl (by decide) rfl (fun ls hl => ?_)
        obtain ⟨r8, hg8, hs0⟩ := obind hs0
        have hE1_86 : ∀ (t8_86 : Int32) (hr8 : t8_86 = r8) (m : Nat → Value) (a : Nat → vp_A) (H : Heap) (locs : List Loc) (w_x69_18 : m 6918 = .int 0) (w_x69_19 : m 6919 = .long r4.2.1) (w_x69_20 : m 6920 = .int r4.2.2.1) (w_x69_21 : m 6921 = .int r4.2.2.2.1) (w_x69_22 : m 6922 = .int r4.2.2.2.2.1) (w_x69_27 : m 6927 = .int r4.2.2.2.2.2.1) (w_x69_35 : m 6935 = .int r4.2.2.2.2.2.2.1) (w_x69_43 : m 6943 = .int r7.1) (w_x69_44 : m 6944 = .int r7.2.1) (w_x69_45 : m 6945 = .int r7.2.2.1) (w_x69_55 : m 6955 = .int r4.2.2.2.2.2.2.2.1) (hoff : ∀ j, nel j [6918, 6919, 6920, 6921, 6922, 6927, 6935, 6943, 6944, 6945, 6955] = false → m j = m0 j) (hsh : SH q m) (w_A76 : a 76 = (40, .inl r4.2.2.2.2.2.2.2.2.1)) (w_A77 : a 77 = (40, .inl r4.2.2.2.2.2.2.2.2.2.1)) (w_A78 : a 78 = (40, .inl r4.2.2.2.2.2.2.2.2.2.2.1)) (w_A79 : a 79 = (6001, .inr (.inl r4.2.2.2.2.2.2.2.2.2.2.2.1))) (w_A80 : a 80 = (16384, .inl r4.2.2.2.2.2.2.2.2.2.2.2.2.1)) (w_A81 : a 81 = (6002, .inl r4.2.2.2.2.2.2.2.2.2.2.2.2.2.1)) (w_A82 : a 82 = (84000, .inl r4.2.2.2.2.2.2.2.2.2.2.2.2.2.2.1)) (w_A83 : a 83 = (84000, .inl r4.2.2.2.2.2.2.2.2.2.2.2.2.2.2.2.1)) (w_A84 : a 84 = (84000, .inl r4.2.2.2.2.2.2.2.2.2.2.2.2.2.2.2.2.1)) (w_A85 : a 85 = (84000, .inl r4.2.2.2.2.2.2.2.2.2.2.2.2.2.2.2.2.2.1)) (w_A86 : a 86 = (84000, .inl r4.2.2.2.2.2.2.2.2.2.2.2.2.2.2.2.2.2.2.1)) (w_A87 : a 87 = (6001, .inl r7.2.2.2.1)) (w_A88 : a 88 = (6001, .inl r7.2.2.2.2.1)) (w_A89 : a 89 = (6001, .inl r7.2.2.2.2.2.1)) (w_A90 : a 90 = (6001, .inl r7.2.2.2.2.2.2.1)) (w_A91 : a 91 = (6001, .inl r7.2.2.2.2.2.2.2.1)) (w_A92 : a 92 = (6001, .inl r7.2.2.2.2.2.2.2.2.1)) (w_A93 : a 93 = (6001, .inl r7.2.2.2.2.2.2.2.2.2.1)) (w_A94 : a 94 = (6001, .inl r7.2.2.2.2.2.2.2.2.2.2.1)) (w_A95 : a 95 = (6001, .inl r7.2.2.2.2.2.2.2.2.2.2.2.1)) (w_A96 : a 96 = (6002, .inl r7.2.2.2.2.2.2.2.2.2.2.2.2)) (w_A100 : a 100 = (25, .inl r4.2.2.2.2.2.2.2.2.2.2.2.2.2.2.2.2.2.2.2.1)) (w_A101 : a 101 = (25, .inl r4.2.2.2.2.2.2.2.2.2.2.2.2.2.2.2.2.2.2.2.2.1)) (w_A102 : a 102 = (25, .inl r4.2.2.2.2.2.2.2.2.2.2.2.2.2.2.2.2.2.2.2.2.2)) (hoffa : ∀ j, nel j [76, 77, 78, 79, 80, 81, 82, 83, 84, 85, 86, 87, 88, 89, 90, 91, 92, 93, 94, 95, 96, 100, 101, 102] = false → a j = a0 j) (ls : Array Slot) (hl : lv_has ls 7 [(0, .ref (q 69)), (1, .int p1), (2, .int t8_86)]) (hW : GW D cy (gA N q s.heap.size) N q m a s H) (hS : va_S (gA N q s.heap.size) s.heap H locs), W p l e ({ frames := 314, cells := 0, slots := 0, locals := 2647 } : Room) s M args below meth c H locs 0 0 (MQ below (va_Qi (fun (r : Int32) (u : (Nat → Value) × (Nat → vp_A)) => r = X0.1 ∧ u.1 6918 = .int X0.2.1 ∧ u.1 6919 = .long X0.2.2.1 ∧ u.1 6920 = .int X0.2.2.2.1 ∧ u.1 6921 = .int X0.2.2.2.2.1 ∧ u.1 6922 = .int X0.2.2.2.2.2.1 ∧ u.1 6927 = .int X0.2.2.2.2.2.2.1 ∧ u.1 6935 = .int X0.2.2.2.2.2.2.2.1 ∧ u.1 6943 = .int X0.2.2.2.2.2.2.2.2.1 ∧ u.1 6944 = .int X0.2.2.2.2.2.2.2.2.2.1 ∧ u.1 6945 = .int X0.2.2.2.2.2.2.2.2.2.2.1 ∧ u.1 6955 = .int X0.2.2.2.2.2.2.2.2.2.2.2.1 ∧ (∀ j, nel j [6918, 6919, 6920, 6921, 6922, 6927, 6935, 6943, 6944, 6945, 6955] = false → u.1 j = m0 j) ∧ u.2 76 = (40, .inl X0.2.2.2.2.2.2.2.2.2.2.2.2.1) ∧ u.2 77 = (40, .inl X0.2.2.2.2.2.2.2.2.2.2.2.2.2.1) ∧ u.2 78 = (40, .inl X0.2.2.2.2.2.2.2.2.2.2.2.2.2.2.1) ∧ u.2 79 = (6001, .inr (.inl X0.2.2.2.2.2.2.2.2.2.2.2.2.2.2.2.1)) ∧ u.2 80 = (16384, .inl X0.2.2.2.2.2.2.2.2.2.2.2.2.2.2.2.2.1) ∧ u.2 81 = (6002, .inl X0.2.2.2.2.2.2.2.2.2.2.2.2.2.2.2.2.2.1) ∧ u.2 82 = (84000, .inl X0.2.2.2.2.2.2.2.2.2.2.2.2.2.2.2.2.2.2.1) ∧ u.2 83 = (84000, .inl X0.2.2.2.2.2.2.2.2.2.2.2.2.2.2.2.2.2.2.2.1) ∧ u.2 84 = (84000, .inl X0.2.2.2.2.2.2.2.2.2.2.2.2.2.2.2.2.2.2.2.2.1) ∧ u.2 85 = (84000, .inl X0.2.2.2.2.2.2.2.2.2.2.2.2.2.2.2.2.2.2.2.2.2.1) ∧ u.2 86 = (84000, .inl X0.2.2.2.2.2.2.2.2.2.2.2.2.2.2.2.2.2.2.2.2.2.2.1) ∧ u.2 87 = (6001, .inl X0.2.2.2.2.2.2.2.2.2.2.2.2.2.2.2.2.2.2.2.2.2.2.2.1) ∧ u.2 88 = (6001, .inl X0.2.2.2.2.2.2.2.2.2.2.2.2.2.2.2.2.2.2.2.2.2.2.2.2.1) ∧ u.2 89 = (6001, .inl X0.2.2.2.2.2.2.2.2.2.2.2.2.2.2.2.2.2.2.2.2.2.2.2.2.2.1) ∧ u.2 90 = (6001, .inl X0.2.2.2.2.2.2.2.2.2.2.2.2.2.2.2.2.2.2.2.2.2.2.2.2.2.2.1) ∧ u.2 91 = (6001, .inl X0.2.2.2.2.2.2.2.2.2.2.2.2.2.2.2.2.2.2.2.2.2.2.2.2.2.2.2.1) ∧ u.2 92 = (6001, .inl X0.2.2.2.2.2.2.2.2.2.2.2.2.2.2.2.2.2.2.2.2.2.2.2.2.2.2.2.2.1) ∧ u.2 93 = (6001, .inl X0.2.2.2.2.2.2.2.2.2.2.2.2.2.2.2.2.2.2.2.2.2.2.2.2.2.2.2.2.2.1) ∧ u.2 94 = (6001, .inl X0.2.2.2.2.2.2.2.2.2.2.2.2.2.2.2.2.2.2.2.2.2.2.2.2.2.2.2.2.2.2.1) ∧ u.2 95 = (6001, .inl X0.2.2.2.2.2.2.2.2.2.2.2.2.2.2.2.2.2.2.2.2.2.2.2.2.2.2.2.2.2.2.2.1) ∧ u.2 96 = (6002, .inl X0.2.2.2.2.2.2.2.2.2.2.2.2.2.2.2.2.2.2.2.2.2.2.2.2.2.2.2.2.2.2.2.2.1) ∧ u.2 100 = (25, .inl X0.2.2.2.2.2.2.2.2.2.2.2.2.2.2.2.2.2.2.2.2.2.2.2.2.2.2.2.2.2.2.2.2.2.1) ∧ u.2 101 = (25, .inl X0.2.2.2.2.2.2.2.2.2.2.2.2.2.2.2.2.2.2.2.2.2.2.2.2.2.2.2.2.2.2.2.2.2.2.1) ∧ u.2 102 = (25, .inl X0.2.2.2.2.2.2.2.2.2.2.2.2.2.2.2.2.2.2.2.2.2.2.2.2.2.2.2.2.2.2.2.2.2.2.2) ∧ (∀ j, nel j [76, 77, 78, 79, 80, 81, 82, 83, 84, 85, 86, 87, 88, 89, 90, 91, 92, 93, 94, 95, 96, 100, 101, 102] = false → u.2 j = a0 j)) (gB D cy N q s.heap.size) (gA N q s.heap.size)) args s 0 0 (gA N q s.heap.size)) (F0 M 86 ls []) := by
          intro t8_86 hr8 m a H locs w_x69_18 w_x69_19 w_x69_20 w_x69_21 w_x69_22 w_x69_27 w_x69_35 w_x69_43 w_x69_44 w_x69_45 w_x69_55 hoff hsh w_A76 w_A77 w_A78 w_A79 w_A80 w_A81 w_A82 w_A83 w_A84 w_A85 w_A86 w_A87 w_A88 w_A89 w_A90 w_A91 w_A92 w_A93 w_A94 w_A95 w_A96 w_A100 w_A101 w_A102 hoffa ls hl hW hS
          subst hr8
          refine lv_aload_n hx hb dX12_every_86 rfl (lv_at hl 0 rfl) ?_
          refine gf12_26 hx hb hG hown hW (o := 69) (ltN hN 69 rfl) gk69 (v := .ref (q 79)) (sh69_26 hsh) gx175 dX12_every_87 ?_
          refine lv_iload_n hx hb dX12_every_90 rfl (lv_at hl 2 rfl) ?_
          obtain ⟨hi16, hs0⟩ := oif hs0
          refine g_lald hx hb hW (o := 79) (ltN hN 79 rfl) gk79 w_A79 (vin hi16) dX12_every_91 ?_
          refine lv_lstore_n (lv' := [(3, .long (r4.2.2.2.2.2.2.2.2.2.2.2.1 t8_86.toNatClampNeg)), (0, .ref (q 69)), (1, .int p1), (2, .int t8_86)]) hx hb dX12_every_92 rfl hl (by decide) rfl (fun ls hl => ?_)
          refine lv_iload_n hx hb dX12_every_93 rfl (lv_at hl 2 rfl) ?_
          by_cases c17 : p1 = 0
          · rw [if_pos c17] at hs0
            refine lv_tableIn (tgt := 144) hx hb dX12_every_94 (by rw [c17]; decide) (by rw [c17]; decide) (by rw [c17]; rfl) (by decide) ?_
            refine lv_aload_n hx hb dX12_every_144 rfl (lv_at hl 1 rfl) ?_
            refine gf12_46 hx hb hG hown hW (o := 69) (ltN hN 69 rfl) gk69 (v := .ref (q 94)) (sh69_46 hsh) gx192 dX12_every_145 ?_
            refine lv_aload_n hx hb dX12_every_148 rfl (lv_at hl 1 rfl) ?_
            refine gf12_36 hx hb hG hown hW (o := 69) (ltN hN 69 rfl) gk69 (v := .ref (q 87)) (sh69_36 hsh) gx184 dX12_every_149 ?_
            refine lv_iload_n hx hb dX12_every_152 rfl (lv_at hl 3 rfl) ?_
            obtain ⟨hi18, hs0⟩ := oif hs0
            refine g_iald hx hb hW (o := 87) (ltN hN 87 rfl) gk87 w_A87 (vin hi18) dX12_every_153 ?_
            obtain ⟨hi19, hs0⟩ := oif hs0
            refine g_iald hx hb hW (o := 94) (ltN hN 94 rfl) gk94 w_A94 (vin hi19) dX12_every_154 ?_
            refine g_SiR (n := 1) hx hb hml hown hG hW hS [.int (r7.2.2.2.2.2.2.2.2.2.2.1 (r7.2.2.2.1 t8_86.toNatClampNeg).toNatClampNeg)] (kX12_told hN (r7.2.2.2.2.2.2.2.2.2.2.1 (r7.2.2.2.1 t8_86.toNatClampNeg).toNatClampNeg)) rfl (gd_S gx824 gx825 gx5 gx826) rfl rfl (by decide) ⟨Nat.le_of_ble_eq_true rfl, Nat.le_of_ble_eq_true rfl⟩ rfl hl (Nat.le_of_ble_eq_true rfl) ⟨Nat.zero_le _, Nat.zero_le _⟩ dX12_every_155 (fun H locs hW hS => ?_)
            have hs0 := Option.some.inj hs0
            subst hs0
            exact W.zret hx hb hr rfl (fun t ht hw => ⟨⟨_, (m, a), rfl, ⟨rfl, w_x69_18, w_x69_19, w_x69_20, w_x69_21, w_x69_22, w_x69_27, w_x69_35, w_x69_43, w_x69_44, w_x69_45, w_x69_55, hoff, w_A76, w_A77, w_A78, w_A79, w_A80, w_A81, w_A82, w_A83, w_A84, w_A85, w_A86, w_A87, w_A88, w_A89, w_A90, w_A91, w_A92, w_A93, w_A94, w_A95, w_A96, w_A100, w_A101, w_A102, hoffa⟩, g_end hW ht hw⟩, hS.F ht⟩) hS.2.2 dX12_every_158 hlocks
          · rw [if_neg c17] at hs0
            by_cases c21 : p1 = 1
            · rw [if_pos c21] at hs0
              refine lv_tableIn (tgt := 206) hx hb dX12_every_94 (by rw [c21]; decide) (by rw [c21]; decide) (by rw [c21]; rfl) (by decide) ?_
              refine lv_iconst (v := 0) hx hb dX12_every_206 (by decide) ?_
              refine lv_istore (lv' := [(5, .int 0), (3, .long (r4.2.2.2.2.2.2.2.2.2.2.2.1 t8_86.toNatClampNeg)), (0, .ref (q 69)), (1, .int p1), (2, .int t8_86)]) hx hb dX12_every_207 hl (by decide) rfl (fun ls hl => ?_)
              refine lv_iconst (v := 0) hx hb dX12_every_209 (by decide) ?_
              refine lv_istore (lv' := [(6, .int 0), (5, .int 0), (3, .long (r4.2.2.2.2.2.2.2.2.2.2.2.1 t8_86.toNatClampNeg)), (0, .ref (q 69)), (1, .int p1), (2, .int t8_86)]) hx hb dX12_every_210 hl (by decide) rfl (fun ls hl => ?_)
              obtain ⟨r22, hg22, hs0⟩ := obind hs0
              have hE1_242 : ∀ (t22_242 : Int32) (hr22 : t22_242 = r22) (m : Nat → Value) (a : Nat → vp_A) (H : Heap) (locs : List Loc) (w_x69_18 : m 6918 = .int 0) (w_x69_19 : m 6919 = .long r4.2.1) (w_x69_20 : m 6920 = .int r4.2.2.1) (w_x69_21 : m 6921 = .int r4.2.2.2.1) (w_x69_22 : m 6922 = .int r4.2.2.2.2.1) (w_x69_27 : m 6927 = .int r4.2.2.2.2.2.1) (w_x69_35 : m 6935 = .int r4.2.2.2.2.2.2.1) (w_x69_43 : m 6943 = .int r7.1) (w_x69_44 : m 6944 = .int r7.2.1) (w_x69_45 : m 6945 = .int r7.2.2.1) (w_x69_55 : m 6955 = .int r4.2.2.2.2.2.2.2.1) (hoff : ∀ j, nel j [6918, 6919, 6920, 6921, 6922, 6927, 6935, 6943, 6944, 6945, 6955] = false → m j = m0 j) (hsh : SH q m) (w_A76 : a 76 = (40, .inl r4.2.2.2.2.2.2.2.2.1)) (w_A77 : a 77 = (40, .inl r4.2.2.2.2.2.2.2.2.2.1)) (w_A78 : a 78 = (40, .inl r4.2.2.2.2.2.2.2.2.2.2.1)) (w_A79 : a 79 = (6001, .inr (.inl r4.2.2.2.2.2.2.2.2.2.2.2.1))) (w_A80 : a 80 = (16384, .inl r4.2.2.2.2.2.2.2.2.2.2.2.2.1)) (w_A81 : a 81 = (6002, .inl r4.2.2.2.2.2.2.2.2.2.2.2.2.2.1)) (w_A82 : a 82 = (84000, .inl r4.2.2.2.2.2.2.2.2.2.2.2.2.2.2.1)) (w_A83 : a 83 = (84000, .inl r4.2.2.2.2.2.2.2.2.2.2.2.2.2.2.2.1)) (w_A84 : a 84 = (84000, .inl r4.2.2.2.2.2.2.2.2.2.2.2.2.2.2.2.2.1)) (w_A85 : a 85 = (84000, .inl r4.2.2.2.2.2.2.2.2.2.2.2.2.2.2.2.2.2.1)) (w_A86 : a 86 = (84000, .inl r4.2.2.2.2.2.2.2.2.2.2.2.2.2.2.2.2.2.2.1)) (w_A87 : a 87 = (6001, .inl r7.2.2.2.1)) (w_A88 : a 88 = (6001, .inl r7.2.2.2.2.1)) (w_A89 : a 89 = (6001, .inl r7.2.2.2.2.2.1)) (w_A90 : a 90 = (6001, .inl r7.2.2.2.2.2.2.1)) (w_A91 : a 91 = (6001, .inl r7.2.2.2.2.2.2.2.1)) (w_A92 : a 92 = (6001, .inl r7.2.2.2.2.2.2.2.2.1)) (w_A93 : a 93 = (6001, .inl r7.2.2.2.2.2.2.2.2.2.1)) (w_A94 : a 94 = (6001, .inl r7.2.2.2.2.2.2.2.2.2.2.1)) (w_A95 : a 95 = (6001, .inl r7.2.2.2.2.2.2.2.2.2.2.2.1)) (w_A96 : a 96 = (6002, .inl r7.2.2.2.2.2.2.2.2.2.2.2.2)) (w_A100 : a 100 = (25, .inl r4.2.2.2.2.2.2.2.2.2.2.2.2.2.2.2.2.2.2.2.1)) (w_A101 : a 101 = (25, .inl r4.2.2.2.2.2.2.2.2.2.2.2.2.2.2.2.2.2.2.2.2.1)) (w_A102 : a 102 = (25, .inl r4.2.2.2.2.2.2.2.2.2.2.2.2.2.2.2.2.2.2.2.2.2)) (hoffa : ∀ j, nel j [76, 77, 78, 79, 80, 81, 82, 83, 84, 85, 86, 87, 88, 89, 90, 91, 92, 93, 94, 95, 96, 100, 101, 102] = false → a j = a0 j) (ls : Array Slot) (hl : lv_has ls 7 [(5, .int t22_242)]) (hW : GW D cy (gA N q s.heap.size) N q m a s H) (hS : va_S (gA N q s.heap.size) s.heap H locs), W p l e ({ frames := 314, cells := 0, slots := 0, locals := 2647 } : Room) s M args below meth c H locs 0 0 (MQ below (va_Qi (fun (r : Int32) (u : (Nat → Value) × (Nat → vp_A)) => r = X0.1 ∧ u.1 6918 = .int X0.2.1 ∧ u.1 6919 = .long X0.2.2.1 ∧ u.1 6920 = .int X0.2.2.2.1 ∧ u.1 6921 = .int X0.2.2.2.2.1 ∧ u.1 6922 = .int X0.2.2.2.2.2.1 ∧ u.1 6927 = .int X0.2.2.2.2.2.2.1 ∧ u.1 6935 = .int X0.2.2.2.2.2.2.2.1 ∧ u.1 6943 = .int X0.2.2.2.2.2.2.2.2.1 ∧ u.1 6944 = .int X0.2.2.2.2.2.2.2.2.2.1 ∧ u.1 6945 = .int X0.2.2.2.2.2.2.2.2.2.2.1 ∧ u.1 6955 = .int X0.2.2.2.2.2.2.2.2.2.2.2.1 ∧ (∀ j, nel j [6918, 6919, 6920, 6921, 6922, 6927, 6935, 6943, 6944, 6945, 6955] = false → u.1 j = m0 j) ∧ u.2 76 = (40, .inl X0.2.2.2.2.2.2.2.2.2.2.2.2.1) ∧ u.2 77 = (40, .inl X0.2.2.2.2.2.2.2.2.2.2.2.2.2.1) ∧ u.2 78 = (40, .inl X0.2.2.2.2.2.2.2.2.2.2.2.2.2.2.1) ∧ u.2 79 = (6001, .inr (.inl X0.2.2.2.2.2.2.2.2.2.2.2.2.2.2.2.1)) ∧ u.2 80 = (16384, .inl X0.2.2.2.2.2.2.2.2.2.2.2.2.2.2.2.2.1) ∧ u.2 81 = (6002, .inl X0.2.2.2.2.2.2.2.2.2.2.2.2.2.2.2.2.2.1) ∧ u.2 82 = (84000, .inl X0.2.2.2.2.2.2.2.2.2.2.2.2.2.2.2.2.2.2.1) ∧ u.2 83 = (84000, .inl X0.2.2.2.2.2.2.2.2.2.2.2.2.2.2.2.2.2.2.2.1) ∧ u.2 84 = (84000, .inl X0.2.2.2.2.2.2.2.2.2.2.2.2.2.2.2.2.2.2.2.2.1) ∧ u.2 85 = (84000, .inl X0.2.2.2.2.2.2.2.2.2.2.2.2.2.2.2.2.2.2.2.2.2.1) ∧ u.2 86 = (84000, .inl X0.2.2.2.2.2.2.2.2.2.2.2.2.2.2.2.2.2.2.2.2.2.2.1) ∧ u.2 87 = (6001, .inl X0.2.2.2.2.2.2.2.2.2.2.2.2.2.2.2.2.2.2.2.2.2.2.2.1) ∧ u.2 88 = (6001, .inl X0.2.2.2.2.2.2.2.2.2.2.2.2.2.2.2.2.2.2.2.2.2.2.2.2.1) ∧ u.2 89 = (6001, .inl X0.2.2.2.2.2.2.2.2.2.2.2.2.2.2.2.2.2.2.2.2.2.2.2.2.2.1) ∧ u.2 90 = (6001, .inl X0.2.2.2.2.2.2.2.2.2.2.2.2.2.2.2.2.2.2.2.2.2.2.2.2.2.2.1) ∧ u.2 91 = (6001, .inl X0.2.2.2.2.2.2.2.2.2.2.2.2.2.2.2.2.2.2.2.2.2.2.2.2.2.2.2.1) ∧ u.2 92 = (6001, .inl X0.2.2.2.2.2.2.2.2.2.2.2.2.2.2.2.2.2.2.2.2.2.2.2.2.2.2.2.2.1) ∧ u.2 93 = (6001, .inl X0.2.2.2.2.2.2.2.2.2.2.2.2.2.2.2.2.2.2.2.2.2.2.2.2.2.2.2.2.2.1) ∧ u.2 94 = (6001, .inl X0.2.2.2.2.2.2.2.2.2.2.2.2.2.2.2.2.2.2.2.2.2.2.2.2.2.2.2.2.2.2.1) ∧ u.2 95 = (6001, .inl X0.2.2.2.2.2.2.2.2.2.2.2.2.2.2.2.2.2.2.2.2.2.2.2.2.2.2.2.2.2.2.2.1) ∧ u.2 96 = (6002, .inl X0.2.2.2.2.2.2.2.2.2.2.2.2.2.2.2.2.2.2.2.2.2.2.2.2.2.2.2.2.2.2.2.2.1) ∧ u.2 100 = (25, .inl X0.2.2.2.2.2.2.2.2.2.2.2.2.2.2.2.2.2.2.2.2.2.2.2.2.2.2.2.2.2.2.2.2.2.1) ∧ u.2 101 = (25, .inl X0.2.2.2.2.2.2.2.2.2.2.2.2.2.2.2.2.2.2.2.2.2.2.2.2.2.2.2.2.2.2.2.2.2.2.1) ∧ u.2 102 = (25, .inl X0.2.2.2.2.2.2.2.2.2.2.2.2.2.2.2.2.2.2.2.2.2.2.2.2.2.2.2.2.2.2.2.2.2.2.2) ∧ (∀ j, nel j [76, 77, 78, 79, 80, 81, 82, 83, 84, 85, 86, 87, 88, 89, 90, 91, 92, 93, 94, 95, 96, 100, 101, 102] = false → u.2 j = a0 j)) (gB D cy N q s.heap.size) (gA N q s.heap.size)) args s 0 0 (gA N q s.heap.size)) (F0 M 242 ls []) := by
                intro t22_242 hr22 m a H locs w_x69_18 w_x69_19 w_x69_20 w_x69_21 w_x69_22 w_x69_27 w_x69_35 w_x69_43 w_x69_44 w_x69_45 w_x69_55 hoff hsh w_A76 w_A77 w_A78 w_A79 w_A80 w_A81 w_A82 w_A83 w_A84 w_A85 w_A86 w_A87 w_A88 w_A89 w_A90 w_A91 w_A92 w_A93 w_A94 w_A95 w_A96 w_A100 w_A101 w_A102 hoffa ls hl hW hS
                subst hr22
                refine lv_iload hx hb dX12_every_242 (lv_at hl 0 rfl) ?_
                have hs0 := Option.some.inj hs0
                subst hs0
                exact W.zret hx hb hr rfl (fun t ht hw => ⟨⟨_, (m, a), rfl, ⟨rfl, w_x69_18, w_x69_19, w_x69_20, w_x69_21, w_x69_22, w_x69_27, w_x69_35, w_x69_43, w_x69_44, w_x69_45, w_x69_55, hoff, w_A76, w_A77, w_A78, w_A79, w_A80, w_A81, w_A82, w_A83, w_A84, w_A85, w_A86, w_A87, w_A88, w_A89, w_A90, w_A91, w_A92, w_A93, w_A94, w_A95, w_A96, w_A100, w_A101, w_A102, hoffa⟩, g_end hW ht hw⟩, hS.F ht⟩) hS.2.2 dX12_every_244 hlocks
              have hL1 : ∀ (n : Nat) (v5k22 : Int32) (v6k22 : Int32) (m : Nat → Value) (a : Nat → vp_A) (H : Heap) (locs : List Loc) (w_x69_18 : m 6918 = .int 0) (w_x69_19 : m 6919 = .long r4.2.1) (w_x69_20 : m 6920 = .int r4.2.2.1) (w_x69_21 : m 6921 = .int r4.2.2.2.1) (w_x69_22 : m 6922 = .int r4.2.2.2.2.1) (w_x69_27 : m 6927 = .int r4.2.2.2.2.2.1) (w_x69_35 : m 6935 = .int r4.2.2.2.2.2.2.1) (w_x69_43 : m 6943 = .int r7.1) (w_x69_44 : m 6944 = .int r7.2.1) (w_x69_45 : m 6945 = .int r7.2.2.1) (w_x69_55 : m 6955 = .int r4.2.2.2.2.2.2.2.1) (hoff : ∀ j, nel j [6918, 6919, 6920, 6921, 6922, 6927, 6935, 6943, 6944, 6945, 6955] = false → m j = m0 j) (hsh : SH q m) (w_A76 : a 76 = (40, .inl r4.2.2.2.2.2.2.2.2.1)) (w_A77 : a 77 = (40, .inl r4.2.2.2.2.2.2.2.2.2.1)) (w_A78 : a 78 = (40, .inl r4.2.2.2.2.2.2.2.2.2.2.1)) (w_A79 : a 79 = (6001, .inr (.inl r4.2.2.2.2.2.2.2.2.2.2.2.1))) (w_A80 : a 80 = (16384, .inl r4.2.2.2.2.2.2.2.2.2.2.2.2.1)) (w_A81 : a 81 = (6002, .inl r4.2.2.2.2.2.2.2.2.2.2.2.2.2.1)) (w_A82 : a 82 = (84000, .inl r4.2.2.2.2.2.2.2.2.2.2.2.2.2.2.1)) (w_A83 : a 83 = (84000, .inl r4.2.2.2.2.2.2.2.2.2.2.2.2.2.2.2.1)) (w_A84 : a 84 = (84000, .inl r4.2.2.2.2.2.2.2.2.2.2.2.2.2.2.2.2.1)) (w_A85 : a 85 = (84000, .inl r4.2.2.2.2.2.2.2.2.2.2.2.2.2.2.2.2.2.1)) (w_A86 : a 86 = (84000, .inl r4.2.2.2.2.2.2.2.2.2.2.2.2.2.2.2.2.2.2.1)) (w_A87 : a 87 = (6001, .inl r7.2.2.2.1)) (w_A88 : a 88 = (6001, .inl r7.2.2.2.2.1)) (w_A89 : a 89 = (6001, .inl r7.2.2.2.2.2.1)) (w_A90 : a 90 = (6001, .inl r7.2.2.2.2.2.2.1)) (w_A91 : a 91 = (6001, .inl r7.2.2.2.2.2.2.2.1)) (w_A92 : a 92 = (6001, .inl r7.2.2.2.2.2.2.2.2.1)) (w_A93 : a 93 = (6001, .inl r7.2.2.2.2.2.2.2.2.2.1)) (w_A94 : a 94 = (6001, .inl r7.2.2.2.2.2.2.2.2.2.2.1)) (w_A95 : a 95 = (6001, .inl r7.2.2.2.2.2.2.2.2.2.2.2.1)) (w_A96 : a 96 = (6002, .inl r7.2.2.2.2.2.2.2.2.2.2.2.2)) (w_A100 : a 100 = (25, .inl r4.2.2.2.2.2.2.2.2.2.2.2.2.2.2.2.2.2.2.2.1)) (w_A101 : a 101 = (25, .inl r4.2.2.2.2.2.2.2.2.2.2.2.2.2.2.2.2.2.2.2.2.1)) (w_A102 : a 102 = (25, .inl r4.2.2.2.2.2.2.2.2.2.2.2.2.2.2.2.2.2.2.2.2.2)) (hoffa : ∀ j, nel j [76, 77, 78, 79, 80, 81, 82, 83, 84, 85, 86, 87, 88, 89, 90, 91, 92, 93, 94, 95, 96, 100, 101, 102] = false → a j = a0 j) (ls : Array Slot) (hl : lv_has ls 7 [(3, .long (r4.2.2.2.2.2.2.2.2.2.2.2.1 t8_86.toNatClampNeg)), (5, .int v5k22), (6, .int v6k22)]) (hg22 : gloop (fun u22 : (Int32 × Int32) => fX12_every_S212 F x69_0 x69_1 x69_2 x69_3 (r4.2.2.2.2.2.2.2.2.2.2.2.1 t8_86.toNatClampNeg) 0 r4.2.1 r4.2.2.1 r4.2.2.2.1 r4.2.2.2.2.1 r4.2.2.2.2.2.1 r4.2.2.2.2.2.2.1 r7.1 r7.2.1 r7.2.2.1 r4.2.2.2.2.2.2.2.1 r4.2.2.2.2.2.2.2.2.1 r4.2.2.2.2.2.2.2.2.2.1 r4.2.2.2.2.2.2.2.2.2.2.1 r4.2.2.2.2.2.2.2.2.2.2.2.1 r4.2.2.2.2.2.2.2.2.2.2.2.2.1 r4.2.2.2.2.2.2.2.2.2.2.2.2.2.1 r4.2.2.2.2.2.2.2.2.2.2.2.2.2.2.1 r4.2.2.2.2.2.2.2.2.2.2.2.2.2.2.2.1 r4.2.2.2.2.2.2.2.2.2.2.2.2.2.2.2.2.1 r4.2.2.2.2.2.2.2.2.2.2.2.2.2.2.2.2.2.1 r4.2.2.2.2.2.2.2.2.2.2.2.2.2.2.2.2.2.2.1 r7.2.2.2.1 r7.2.2.2.2.1 r7.2.2.2.2.2.1 r7.2.2.2.2.2.2.1 r7.2.2.2.2.2.2.2.1 r7.2.2.2.2.2.2.2.2.1 r7.2.2.2.2.2.2.2.2.2.1 r7.2.2.2.2.2.2.2.2.2.2.1 r7.2.2.2.2.2.2.2.2.2.2.2.1 r7.2.2.2.2.2.2.2.2.2.2.2.2 r4.2.2.2.2.2.2.2.2.2.2.2.2.2.2.2.2.2.2.2.1 r4.2.2.2.2.2.2.2.2.2.2.2.2.2.2.2.2.2.2.2.2.1 r4.2.2.2.2.2.2.2.2.2.2.2.2.2.2.2.2.2.2.2.2.2 u22.1 u22.2) n (v5k22, v6k22) = some r22) (hW : GW D cy (gA N q s.heap.size) N q m a s H) (hS : va_S (gA N q s.heap.size) s.heap H locs), W p l e ({ frames := 314, cells := 0, slots := 0, locals := 2647 } : Room) s M args below meth c H locs 0 0 (MQ below (va_Qi (fun (r : Int32) (u : (Nat → Value) × (Nat → vp_A)) => r = X0.1 ∧ u.1 6918 = .int X0.2.1 ∧ u.1 6919 = .long X0.2.2.1 ∧ u.1 6920 = .int X0.2.2.2.1 ∧ u.1 6921 = .int X0.2.2.2.2.1 ∧ u.1 6922 = .int X0.2.2.2.2.2.1 ∧ u.1 6927 = .int X0.2.2.2.2.2.2.1 ∧ u.1 6935 = .int X0.2.2.2.2.2.2.2.1 ∧ u.1 6943 = .int X0.2.2.2.2.2.2.2.2.1 ∧ u.1 6944 = .int X0.2.2.2.2.2.2.2.2.2.1 ∧ u.1 6945 = .int X0.2.2.2.2.2.2.2.2.2.2.1 ∧ u.1 6955 = .int X0.2.2.2.2.2.2.2.2.2.2.2.1 ∧ (∀ j, nel j [6918, 6919, 6920, 6921, 6922, 6927, 6935, 6943, 6944, 6945, 6955] = false → u.1 j = m0 j) ∧ u.2 76 = (40, .inl X0.2.2.2.2.2.2.2.2.2.2.2.2.1) ∧ u.2 77 = (40, .inl X0.2.2.2.2.2.2.2.2.2.2.2.2.2.1) ∧ u.2 78 = (40, .inl X0.2.2.2.2.2.2.2.2.2.2.2.2.2.2.1) ∧ u.2 79 = (6001, .inr (.inl X0.2.2.2.2.2.2.2.2.2.2.2.2.2.2.2.1)) ∧ u.2 80 = (16384, .inl X0.2.2.2.2.2.2.2.2.2.2.2.2.2.2.2.2.1) ∧ u.2 81 = (6002, .inl X0.2.2.2.2.2.2.2.2.2.2.2.2.2.2.2.2.2.1) ∧ u.2 82 = (84000, .inl X0.2.2.2.2.2.2.2.2.2.2.2.2.2.2.2.2.2.2.1) ∧ u.2 83 = (84000, .inl X0.2.2.2.2.2.2.2.2.2.2.2.2.2.2.2.2.2.2.2.1) ∧ u.2 84 = (84000, .inl X0.2.2.2.2.2.2.2.2.2.2.2.2.2.2.2.2.2.2.2.2.1) ∧ u.2 85 = (84000, .inl X0.2.2.2.2.2.2.2.2.2.2.2.2.2.2.2.2.2.2.2.2.2.1) ∧ u.2 86 = (84000, .inl X0.2.2.2.2.2.2.2.2.2.2.2.2.2.2.2.2.2.2.2.2.2.2.1) ∧ u.2 87 = (6001, .inl X0.2.2.2.2.2.2.2.2.2.2.2.2.2.2.2.2.2.2.2.2.2.2.2.1) ∧ u.2 88 = (6001, .inl X0.2.2.2.2.2.2.2.2.2.2.2.2.2.2.2.2.2.2.2.2.2.2.2.2.1) ∧ u.2 89 = (6001, .inl X0.2.2.2.2.2.2.2.2.2.2.2.2.2.2.2.2.2.2.2.2.2.2.2.2.2.1) ∧ u.2 90 = (6001, .inl X0.2.2.2.2.2.2.2.2.2.2.2.2.2.2.2.2.2.2.2.2.2.2.2.2.2.2.1) ∧ u.2 91 = (6001, .inl X0.2.2.2.2.2.2.2.2.2.2.2.2.2.2.2.2.2.2.2.2.2.2.2.2.2.2.2.1) ∧ u.2 92 = (6001, .inl X0.2.2.2.2.2.2.2.2.2.2.2.2.2.2.2.2.2.2.2.2.2.2.2.2.2.2.2.2.1) ∧ u.2 93 = (6001, .inl X0.2.2.2.2.2.2.2.2.2.2.2.2.2.2.2.2.2.2.2.2.2.2.2.2.2.2.2.2.2.1) ∧ u.2 94 = (6001, .inl X0.2.2.2.2.2.2.2.2.2.2.2.2.2.2.2.2.2.2.2.2.2.2.2.2.2.2.2.2.2.2.1) ∧ u.2 95 = (6001, .inl X0.2.2.2.2.2.2.2.2.2.2.2.2.2.2.2.2.2.2.2.2.2.2.2.2.2.2.2.2.2.2.2.1) ∧ u.2 96 = (6002, .inl X0.2.2.2.2.2.2.2.2.2.2.2.2.2.2.2.2.2.2.2.2.2.2.2.2.2.2.2.2.2.2.2.2.1) ∧ u.2 100 = (25, .inl X0.2.2.2.2.2.2.2.2.2.2.2.2.2.2.2.2.2.2.2.2.2.2.2.2.2.2.2.2.2.2.2.2.2.1) ∧ u.2 101 = (25, .inl X0.2.2.2.2.2.2.2.2.2.2.2.2.2.2.2.2.2.2.2.2.2.2.2.2.2.2.2.2.2.2.2.2.2.2.1) ∧ u.2 102 = (25, .inl X0.2.2.2.2.2.2.2.2.2.2.2.2.2.2.2.2.2.2.2.2.2.2.2.2.2.2.2.2.2.2.2.2.2.2.2) ∧ (∀ j, nel j [76, 77, 78, 79, 80, 81, 82, 83, 84, 85, 86, 87, 88, 89, 90, 91, 92, 93, 94, 95, 96, 100, 101, 102] = false → u.2 j = a0 j)) (gB D cy N q s.heap.size) (gA N q s.heap.size)) args s 0 0 (gA N q s.heap.size)) (F0 M 212 ls []) := by
                intro n
                induction n with
                | zero => intro v5k22 v6k22 m a H locs w_x69_18 w_x69_19 w_x69_20 w_x69_21 w_x69_22 w_x69_27 w_x69_35 w_x69_43 w_x69_44 w_x69_45 w_x69_55 hoff hsh w_A76 w_A77 w_A78 w_A79 w_A80 w_A81 w_A82 w_A83 w_A84 w_A85 w_A86 w_A87 w_A88 w_A89 w_A90 w_A91 w_A92 w_A93 w_A94 w_A95 w_A96 w_A100 w_A101 w_A102 hoffa ls hl hg22 hW hS; exact (gl_zero hg22).elim
                | succ n ih1 =>
                  intro v5k22 v6k22 m a H locs w_x69_18 w_x69_19 w_x69_20 w_x69_21 w_x69_22 w_x69_27 w_x69_35 w_x69_43 w_x69_44 w_x69_45 w_x69_55 hoff hsh w_A76 w_A77 w_A78 w_A79 w_A80 w_A81 w_A82 w_A83 w_A84 w_A85 w_A86 w_A87 w_A88 w_A89 w_A90 w_A91 w_A92 w_A93 w_A94 w_A95 w_A96 w_A100 w_A101 w_A102 hoffa ls hl hg22 hW hS
                  obtain ⟨X1, hs1, hXl1, hXr1⟩ := gl_succ hg22
                  have hs1 : fX12_every_S212 F x69_0 x69_1 x69_2 x69_3 (r4.2.2.2.2.2.2.2.2.2.2.2.1 t8_86.toNatClampNeg) 0 r4.2.1 r4.2.2.1 r4.2.2.2.1 r4.2.2.2.2.1 r4.2.2.2.2.2.1 r4.2.2.2.2.2.2.1 r7.1 r7.2.1 r7.2.2.1 r4.2.2.2.2.2.2.2.1 r4.2.2.2.2.2.2.2.2.1 r4.2.2.2.2.2.2.2.2.2.1 r4.2.2.2.2.2.2.2.2.2.2.1 r4.2.2.2.2.2.2.2.2.2.2.2.1 r4.2.2.2.2.2.2.2.2.2.2.2.2.1 r4.2.2.2.2.2.2.2.2.2.2.2.2.2.1 r4.2.2.2.2.2.2.2.2.2.2.2.2.2.2.1 r4.2.2.2.2.2.2.2.2.2.2.2.2.2.2.2.1 r4.2.2.2.2.2.2.2.2.2.2.2.2.2.2.2.2.1 r4.2.2.2.2.2.2.2.2.2.2.2.2.2.2.2.2.2.1 r4.2.2.2.2.2.2.2.2.2.2.2.2.2.2.2.2.2.2.1 r7.2.2.2.1 r7.2.2.2.2.1 r7.2.2.2.2.2.1 r7.2.2.2.2.2.2.1 r7.2.2.2.2.2.2.2.1 r7.2.2.2.2.2.2.2.2.1 r7.2.2.2.2.2.2.2.2.2.1 r7.2.2.2.2.2.2.2.2.2.2.1 r7.2.2.2.2.2.2.2.2.2.2.2.1 r7.2.2.2.2.2.2.2.2.2.2.2.2 r4.2.2.2.2.2.2.2.2.2.2.2.2.2.2.2.2.2.2.2.1 r4.2.2.2.2.2.2.2.2.2.2.2.2.2.2.2.2.2.2.2.2.1 r4.2.2.2.2.2.2.2.2.2.2.2.2.2.2.2.2.2.2.2.2.2 v5k22 v6k22 = some X1 := hs1
                  unfold fX12_every_S212 at hs1
                  refine lv_iload hx hb dX12_every_212 (lv_at hl 2 rfl) ?_
                  refine lv_bipush (v := 8) hx hb dX12_every_214 (by decide) ?_
                  refine lv_icmp_ge (tgt := 242) hx hb dX12_every_216 (by decide) (fun c25 => ?_) (fun c25 => ?_)
                  · rw [if_pos c25] at hs1
                    exact hE1_242 v5k22 (hXl1 _ (Option.some.inj hs1).symm) m a _ _ w_x69_18 w_x69_19 w_x69_20 w_x69_21 w_x69_22 w_x69_27 w_x69_35 w_x69_43 w_x69_44 w_x69_45 w_x69_55 hoff hsh w_A76 w_A77 w_A78 w_A79 w_A80 w_A81 w_A82 w_A83 w_A84 w_A85 w_A86 w_A87 w_A88 w_A89 w_A90 w_A91 w_A92 w_A93 w_A94 w_A95 w_A96 w_A100 w_A101 w_A102 hoffa ls (lv_sub hl [1] rfl) hW hS
                  · rw [if_neg c25] at hs1
                    refine lv_iload hx hb dX12_every_219 (lv_at hl 1 rfl) ?_
                    refine lv_lload_n hx hb dX12_every_221 rfl (lv_at hl 0 rfl) ?_
                    refine lv_bipush (v := 9) hx hb dX12_every_222 (by decide) ?_
                    refine lv_iconst (v := 2) hx hb dX12_every_224 (by decide) ?_
                    refine lv_iload hx hb dX12_every_225 (lv_at hl 2 rfl) ?_
                    refine lv_imul hx hb dX12_every_227 ?_
                    refine lv_iadd hx hb dX12_every_228 ?_
                    refine lv_iconst (v := 2) hx hb dX12_every_229 (by decide) ?_
                    refine g_SiR (n := 3) hx hb hml hown hG hW hS [.long (r4.2.2.2.2.2.2.2.2.2.2.2.1 t8_86.toNatClampNeg), .int (9 + (2 * v6k22)), .int 2] (kX12_get hN (r4.2.2.2.2.2.2.2.2.2.2.2.1 t8_86.toNatClampNeg) (9 + (2 * v6k22)) 2) rfl (gd_S gx304 gx305 gx5 gx306) rfl rfl (by decide) ⟨Nat.le_of_ble_eq_true rfl, Nat.le_of_ble_eq_true rfl⟩ rfl hl (Nat.le_of_ble_eq_true rfl) ⟨Nat.zero_le _, Nat.zero_le _⟩ dX12_every_230 (fun H locs hW hS => ?_)
                    refine lv_iadd hx hb dX12_every_233 ?_
                    refine lv_istore (lv' := [(5, .int (v5k22 + (fX12_get (r4.2.2.2.2.2.2.2.2.2.2.2.1 t8_86.toNatClampNeg) (9 + (2 * v6k22)) 2))), (3, .long (r4.2.2.2.2.2.2.2.2.2.2.2.1 t8_86.toNatClampNeg)), (6, .int v6k22)]) hx hb dX12_every_234 hl (by decide) rfl (fun ls hl => ?_)
                    refine lv_iinc (v := v6k22 + 1) (lv' := [(6, .int (v6k22 + 1)), (5, .int (v5k22 + (fX12_get (r4.2.2.2.2.2.2.2.2.2.2.2.1 t8_86.toNatClampNeg) (9 + (2 * v6k22)) 2))), (3, .long (r4.2.2.2.2.2.2.2.2.2.2.2.1 t8_86.toNatClampNeg))]) hx hb dX12_every_236 hl (k := 2) rfl rfl (by decide) rfl (fun ls hl => ?_)
                    refine lv_goto (tgt := 212) hx hb dX12_every_239 (by decide) ?_
                    exact ih1 (v5k22 + (fX12_get (r4.2.2.2.2.2.2.2.2.2.2.2.1 t8_86.toNatClampNeg) (9 + (2 * v6k22)) 2)) (v6k22 + 1) m a _ _ w_x69_18 w_x69_19 w_x69_20 w_x69_21 w_x69_22 w_x69_27 w_x69_35 w_x69_43 w_x69_44 w_x69_45 w_x69_55 hoff hsh w_A76 w_A77 w_A78 w_A79 w_A80 w_A81 w_A82 w_A83 w_A84 w_A85 w_A86 w_A87 w_A88 w_A89 w_A90 w_A91 w_A92 w_A93 w_A94 w_A95 w_A96 w_A100 w_A101 w_A102 hoffa ls (lv_sub hl [2, 1, 0] rfl) (hXr1 _ (Option.some.inj hs1).symm) hW hS
              exact hL1 F 0 0 m a _ _ w_x69_18 w_x69_19 w_x69_20 w_x69_21 w_x69_22 w_x69_27 w_x69_35 w_x69_43 w_x69_44 w_x69_45 w_x69_55 hoff hsh w_A76 w_A77 w_A78 w_A79 w_A80 w_A81 w_A82 w_A83 w_A84 w_A85 w_A86 w_A87 w_A88 w_A89 w_A90 w_A91 w_A92 w_A93 w_A94 w_A95 w_A96 w_A100 w_A101 w_A102 hoffa ls (lv_sub hl [2, 1, 0] rfl) hg22 hW hS
            · rw [if_neg c21] at hs0
              by_cases c27 : p1 = 2
              · rw [if_pos c27] at hs0
                refine lv_tableIn (tgt := 159) hx hb dX12_every_94 (by rw [c27]; decide) (by rw [c27]; decide) (by rw [c27]; rfl) (by decide) ?_
                refine lv_lload_n hx hb dX12_every_159 rfl (lv_at hl 0 rfl) ?_
                refine lv_iconst (v := 0) hx hb dX12_every_160 (by decide) ?_
                refine lv_iconst (v := 2) hx hb dX12_every_161 (by decide) ?_
                refine g_SiR (n := 3) hx hb hml hown hG hW hS [.long (r4.2.2.2.2.2.2.2.2.2.2.2.1 t8_86.toNatClampNeg), .int 0, .int 2] (kX12_get hN (r4.2.2.2.2.2.2.2.2.2.2.2.1 t8_86.toNatClampNeg) 0 2) rfl (gd_S gx304 gx305 gx5 gx306) rfl rfl (by decide) ⟨Nat.le_of_ble_eq_true rfl, Nat.le_of_ble_eq_true rfl⟩ rfl hl (Nat.le_of_ble_eq_true rfl) ⟨Nat.zero_le _, Nat.zero_le _⟩ dX12_every_162 (fun H locs hW hS => ?_)
                have hs0 := Option.some.inj hs0
                subst hs0
                exact W.zret hx hb hr rfl (fun t ht hw => ⟨⟨_, (m, a), rfl, ⟨rfl, w_x69_18, w_x69_19, w_x69_20, w_x69_21, w_x69_22, w_x69_27, w_x69_35, w_x69_43, w_x69_44, w_x69_45, w_x69_55, hoff, w_A76, w_A77, w_A78, w_A79, w_A80, w_A81, w_A82, w_A83, w_A84, w_A85, w_A86, w_A87, w_A88, w_A89, w_A90, w_A91, w_A92, w_A93, w_A94, w_A95, w_A96, w_A100, w_A101, w_A102, hoffa⟩, g_end hW ht hw⟩, hS.F ht⟩) hS.2.2 dX12_every_165 hlocks
              · rw [if_neg c27] at hs0
                by_cases c29 : p1 = 3
                · rw [if_pos c29] at hs0
                  refine lv_tableIn (tgt := 166) hx hb dX12_every_94 (by rw [c29]; decide) (by rw [c29]; decide) (by rw [c29]; rfl) (by decide) ?_
                  refine lv_lload_n hx hb dX12_every_166 rfl (lv_at hl 0 rfl) ?_
                  refine lv_iconst (v := 2) hx hb dX12_every_167 (by decide) ?_
                  refine lv_iconst (v := 1) hx hb dX12_every_168 (by decide) ?_
                  refine g_SiR (n := 3) hx hb hml hown hG hW hS [.long (r4.2.2.2.2.2.2.2.2.2.2.2.1 t8_86.toNatClampNeg), .int 2, .int 1] (kX12_get hN (r4.2.2.2.2.2.2.2.2.2.2.2.1 t8_86.toNatClampNeg) 2 1) rfl (gd_S gx304 gx305 gx5 gx306) rfl rfl (by decide) ⟨Nat.le_of_ble_eq_true rfl, Nat.le_of_ble_eq_true rfl⟩ rfl hl (Nat.le_of_ble_eq_true rfl) ⟨Nat.zero_le _, Nat.zero_le _⟩ dX12_every_169 (fun H locs hW hS => ?_)
                  have hs0 := Option.some.inj hs0
                  subst hs0
                  exact W.zret hx hb hr rfl (fun t ht hw => ⟨⟨_, (m, a), rfl, ⟨rfl, w_x69_18, w_x69_19, w_x69_20, w_x69_21, w_x69_22, w_x69_27, w_x69_35, w_x69_43, w_x69_44, w_x69_45, w_x69_55, hoff, w_A76, w_A77, w_A78, w_A79, w_A80, w_A81, w_A82, w_A83, w_A84, w_A85, w_A86, w_A87, w_A88, w_A89, w_A90, w_A91, w_A92, w_A93, w_A94, w_A95, w_A96, w_A100, w_A101, w_A102, hoffa⟩, g_end hW ht hw⟩, hS.F ht⟩) hS.2.2 dX12_every_172 hlocks
                · rw [if_neg c29] at hs0
                  by_cases c31 : p1 = 4
                  · rw [if_pos c31] at hs0
                    refine lv_tableIn (tgt := 173) hx hb dX12_every_94 (by rw [c31]; decide) (by rw [c31]; decide) (by rw [c31]; rfl) (by decide) ?_
                    refine lv_lload_n hx hb dX12_every_173 rfl (lv_at hl 0 rfl) ?_
                    refine lv_iconst (v := 3) hx hb dX12_every_174 (by decide) ?_
                    refine lv_iconst (v := 3) hx hb dX12_every_175 (by decide) ?_
                    refine g_SiR (n := 3) hx hb hml hown hG hW hS [.long (r4.2.2.2.2.2.2.2.2.2.2.2.1 t8_86.toNatClampNeg), .int 3, .int 3] (kX12_get hN (r4.2.2.2.2.2.2.2.2.2.2.2.1 t8_86.toNatClampNeg) 3 3) rfl (gd_S gx304 gx305 gx5 gx306) rfl rfl (by decide) ⟨Nat.le_of_ble_eq_true rfl, Nat.le_of_ble_eq_true rfl⟩ rfl hl (Nat.le_of_ble_eq_true rfl) ⟨Nat.zero_le _, Nat.zero_le _⟩ dX12_every_176 (fun H locs hW hS => ?_)
                    have hs0 := Option.some.inj hs0
                    subst hs0
                    exact W.zret hx hb hr rfl (fun t ht hw => ⟨⟨_, (m, a), rfl, ⟨rfl, w_x69_18, w_x69_19, w_x69_20, w_x69_21, w_x69_22, w_x69_27, w_x69_35, w_x69_43, w_x69_44, w_x69_45, w_x69_55, hoff, w_A76, w_A77, w_A78, w_A79, w_A80, w_A81, w_A82, w_A83, w_A84, w_A85, w_A86, w_A87, w_A88, w_A89, w_A90, w_A91, w_A92, w_A93, w_A94, w_A95, w_A96, w_A100, w_A101, w_A102, hoffa⟩, g_end hW ht hw⟩, hS.F ht⟩) hS.2.2 dX12_every_179 hlocks
                  · rw [if_neg c31] at hs0
                    by_cases c33 : p1 = 5
                    · rw [if_pos c33] at hs0
                      refine lv_tableIn (tgt := 180) hx hb dX12_every_94 (by rw [c33]; decide) (by rw [c33]; decide) (by rw [c33]; rfl) (by decide) ?_
                      refine lv_lload_n hx hb dX12_every_180 rfl (lv_at hl 0 rfl) ?_
                      refine lv_bipush (v := 6) hx hb dX12_every_181 (by decide) ?_
                      refine lv_iconst (v := 1) hx hb dX12_every_183 (by decide) ?_
                      refine g_SiR (n := 3) hx hb hml hown hG hW hS [.long (r4.2.2.2.2.2.2.2.2.2.2.2.1 t8_86.toNatClampNeg), .int 6, .int 1] (kX12_get hN (r4.2.2.2.2.2.2.2.2.2.2.2.1 t8_86.toNatClampNeg) 6 1) rfl (gd_S gx304 gx305 gx5 gx306) rfl rfl (by decide) ⟨Nat.le_of_ble_eq_true rfl, Nat.le_of_ble_eq_true rfl⟩ rfl hl (Nat.le_of_ble_eq_true rfl) ⟨Nat.zero_le _, Nat.zero_le _⟩ dX12_every_184 (fun H locs hW hS => ?_)
                      have hs0 := Option.some.inj hs0
                      subst hs0
                      exact W.zret hx hb hr rfl (fun t ht hw => ⟨⟨_, (m, a), rfl, ⟨rfl, w_x69_18, w_x69_19, w_x69_20, w_x69_21, w_x69_22, w_x69_27, w_x69_35, w_x69_43, w_x69_44, w_x69_45, w_x69_55, hoff, w_A76, w_A77, w_A78, w_A79, w_A80, w_A81, w_A82, w_A83, w_A84, w_A85, w_A86, w_A87, w_A88, w_A89, w_A90, w_A91, w_A92, w_A93, w_A94, w_A95, w_A96, w_A100, w_A101, w_A102, hoffa⟩, g_end hW ht hw⟩, hS.F ht⟩) hS.2.2 dX12_every_187 hlocks
                    · rw [if_neg c33] at hs0
                      by_cases c35 : p1 = 6
                      · rw [if_pos c35] at hs0
                        refine lv_tableIn (tgt := 188) hx hb dX12_every_94 (by rw [c35]; decide) (by rw [c35]; decide) (by rw [c35]; rfl) (by decide) ?_
                        refine lv_lload_n hx hb dX12_every_188 rfl (lv_at hl 0 rfl) ?_
                        refine lv_bipush (v := 7) hx hb dX12_every_189 (by decide) ?_
                        refine lv_iconst (v := 2) hx hb dX12_every_191 (by decide) ?_
                        refine g_SiR (n := 3) hx hb hml hown hG hW hS [.long (r4.2.2.2.2.2.2.2.2.2.2.2.1 t8_86.toNatClampNeg), .int 7, .int 2] (kX12_get hN (r4.2.2.2.2.2.2.2.2.2.2.2.1 t8_86.toNatClampNeg) 7 2) rfl (gd_S gx304 gx305 gx5 gx306) rfl rfl (by decide) ⟨Nat.le_of_ble_eq_true rfl, Nat.le_of_ble_eq_true rfl⟩ rfl hl (Nat.le_of_ble_eq_true rfl) ⟨Nat.zero_le _, Nat.zero_le _⟩ dX12_every_192 (fun H locs hW hS => ?_)
                        have hs0 := Option.some.inj hs0
                        subst hs0
                        exact W.zret hx hb hr rfl (fun t ht hw => ⟨⟨_, (m, a), rfl, ⟨rfl, w_x69_18, w_x69_19, w_x69_20, w_x69_21, w_x69_22, w_x69_27, w_x69_35, w_x69_43, w_x69_44, w_x69_45, w_x69_55, hoff, w_A76, w_A77, w_A78, w_A79, w_A80, w_A81, w_A82, w_A83, w_A84, w_A85, w_A86, w_A87, w_A88, w_A89, w_A90, w_A91, w_A92, w_A93, w_A94, w_A95, w_A96, w_A100, w_A101, w_A102, hoffa⟩, g_end hW ht hw⟩, hS.F ht⟩) hS.2.2 dX12_every_195 hlocks
                      · rw [if_neg c35] at hs0
                        by_cases c37 : p1 = 7
                        · rw [if_pos c37] at hs0
                          refine lv_tableIn (tgt := 196) hx hb dX12_every_94 (by rw [c37]; decide) (by rw [c37]; decide) (by rw [c37]; rfl) (by decide) ?_
                          refine lv_lload_n hx hb dX12_every_196 rfl (lv_at hl 0 rfl) ?_
                          obtain ⟨r38, hf38, hs0⟩ := obind hs0
                          refine g_SiR (n := 1) hx hb hml hown hG hW hS [.long (r4.2.2.2.2.2.2.2.2.2.2.2.1 t8_86.toNatClampNeg)] (kX12_packetsOf hN F (r4.2.2.2.2.2.2.2.2.2.2.2.1 t8_86.toNatClampNeg) hf38) rfl (gd_S gx361 gx362 gx5 gx363) rfl rfl (by decide) ⟨Nat.le_of_ble_eq_true rfl, Nat.le_of_ble_eq_true rfl⟩ rfl hl (Nat.le_of_ble_eq_true rfl) ⟨Nat.zero_le _, Nat.zero_le _⟩ dX12_every_197 (fun H locs hW hS => ?_)
                          have hs0 := Option.some.inj hs0
                          subst hs0
                          exact W.zret hx hb hr rfl (fun t ht hw => ⟨⟨_, (m, a), rfl, ⟨rfl, w_x69_18, w_x69_19, w_x69_20, w_x69_21, w_x69_22, w_x69_27, w_x69_35, w_x69_43, w_x69_44, w_x69_45, w_x69_55, hoff, w_A76, w_A77, w_A78, w_A79, w_A80, w_A81, w_A82, w_A83, w_A84, w_A85, w_A86, w_A87, w_A88, w_A89, w_A90, w_A91, w_A92, w_A93, w_A94, w_A95, w_A96, w_A100, w_A101, w_A102, hoffa⟩, g_end hW ht hw⟩, hS.F ht⟩) hS.2.2 dX12_every_200 hlocks
                        · rw [if_neg c37] at hs0
                          by_cases c39 : p1 = 8
                          · rw [if_pos c39] at hs0
                            refine lv_tableIn (tgt := 201) hx hb dX12_every_94 (by rw [c39]; decide) (by rw [c39]; decide) (by rw [c39]; rfl) (by decide) ?_
                            refine lv_lload_n hx hb dX12_every_201 rfl (lv_at hl 0 rfl) ?_
                            obtain ⟨r40, hf40, hs0⟩ := obind hs0
                            refine g_SiR (n := 1) hx hb hml hown hG hW hS [.long (r4.2.2.2.2.2.2.2.2.2.2.2.1 t8_86.toNatClampNeg)] (kX12_lettersOf hN F (r4.2.2.2.2.2.2.2.2.2.2.2.1 t8_86.toNatClampNeg) hf40) rfl (gd_S gx383 gx384 gx5 gx385) rfl rfl (by decide) ⟨Nat.le_of_ble_eq_true rfl, Nat.le_of_ble_eq_true rfl⟩ rfl hl (Nat.le_of_ble_eq_true rfl) ⟨Nat.zero_le _, Nat.zero_le _⟩ dX12_every_202 (fun H locs hW hS => ?_)
                            have hs0 := Option.some.inj hs0
                            subst hs0
                            exact W.zret hx hb hr rfl (fun t ht hw => ⟨⟨_, (m, a), rfl, ⟨rfl, w_x69_18, w_x69_19, w_x69_20, w_x69_21, w_x69_22, w_x69_27, w_x69_35, w_x69_43, w_x69_44, w_x69_45, w_x69_55, hoff, w_A76, w_A77, w_A78, w_A79, w_A80, w_A81, w_A82, w_A83, w_A84, w_A85, w_A86, w_A87, w_A88, w_A89, w_A90, w_A91, w_A92, w_A93, w_A94, w_A95, w_A96, w_A100, w_A101, w_A102, hoffa⟩, g_end hW ht hw⟩, hS.F ht⟩) hS.2.2 dX12_every_205 hlocks
                          · rw [if_neg c39] at hs0
                            have n17 := ti_ne (n := 0) c17 (by decide)
                            have n21 := ti_ne (n := 1) c21 (by decide)
                            have n27 := ti_ne (n := 2) c27 (by decide)
                            have n29 := ti_ne (n := 3) c29 (by decide)
                            have n31 := ti_ne (n := 4) c31 (by decide)
                            have n33 := ti_ne (n := 5) c33 (by decide)
                            have n35 := ti_ne (n := 6) c35 (by decide)
                            have n37 := ti_ne (n := 7) c37 (by decide)
                            have n39 := ti_ne (n := 8) c39 (by decide)
                            refine lv_tableOut (tgt := 206) hx hb dX12_every_94 (by omega) (by decide) ?_
                            refine lv_iconst (v := 0) hx hb dX12_every_206 (by decide) ?_
                            refine lv_istore (lv' := [(5, .int 0), (3, .long (r4.2.2.2.2.2.2.2.2.2.2.2.1 t8_86.toNatClampNeg)), (0, .ref (q 69)), (1, .int p1), (2, .int t8_86)]) hx hb dX12_every_207 hl (by decide) rfl (fun ls hl => ?_)
                            refine lv_iconst (v := 0) hx hb dX12_every_209 (by decide) ?_
                            refine lv_istore (lv' := [(6, .int 0), (5, .int 0), (3, .long (r4.2.2.2.2.2.2.2.2.2.2.2.1 t8_86.toNatClampNeg)), (0, .ref (q 69)), (1, .int p1), (2, .int t8_86)]) hx hb dX12_every_210 hl (by decide) rfl (fun ls hl => ?_)
                            obtain ⟨r41, hg41, hs0⟩ := obind hs0
                            have hE1_242 : ∀ (t41_242 : Int32) (hr41 : t41_242 = r41) (m : Nat → Value) (a : Nat → vp_A) (H : Heap) (locs : List Loc) (w_x69_18 : m 6918 = .int 0) (w_x69_19 : m 6919 = .long r4.2.1) (w_x69_20 : m 6920 = .int r4.2.2.1) (w_x69_21 : m 6921 = .int r4.2.2.2.1) (w_x69_22 : m 6922 = .int r4.2.2.2.2.1) (w_x69_27 : m 6927 = .int r4.2.2.2.2.2.1) (w_x69_35 : m 6935 = .int r4.2.2.2.2.2.2.1) (w_x69_43 : m 6943 = .int r7.1) (w_x69_44 : m 6944 = .int r7.2.1) (w_x69_45 : m 6945 = .int r7.2.2.1) (w_x69_55 : m 6955 = .int r4.2.2.2.2.2.2.2.1) (hoff : ∀ j, nel j [6918, 6919, 6920, 6921, 6922, 6927, 6935, 6943, 6944, 6945, 6955] = false → m j = m0 j) (hsh : SH q m) (w_A76 : a 76 = (40, .inl r4.2.2.2.2.2.2.2.2.1)) (w_A77 : a 77 = (40, .inl r4.2.2.2.2.2.2.2.2.2.1)) (w_A78 : a 78 = (40, .inl r4.2.2.2.2.2.2.2.2.2.2.1)) (w_A79 : a 79 = (6001, .inr (.inl r4.2.2.2.2.2.2.2.2.2.2.2.1))) (w_A80 : a 80 = (16384, .inl r4.2.2.2.2.2.2.2.2.2.2.2.2.1)) (w_A81 : a 81 = (6002, .inl r4.2.2.2.2.2.2.2.2.2.2.2.2.2.1)) (w_A82 : a 82 = (84000, .inl r4.2.2.2.2.2.2.2.2.2.2.2.2.2.2.1)) (w_A83 : a 83 = (84000, .inl r4.2.2.2.2.2.2.2.2.2.2.2.2.2.2.2.1)) (w_A84 : a 84 = (84000, .inl r4.2.2.2.2.2.2.2.2.2.2.2.2.2.2.2.2.1)) (w_A85 : a 85 = (84000, .inl r4.2.2.2.2.2.2.2.2.2.2.2.2.2.2.2.2.2.1)) (w_A86 : a 86 = (84000, .inl r4.2.2.2.2.2.2.2.2.2.2.2.2.2.2.2.2.2.2.1)) (w_A87 : a 87 = (6001, .inl r7.2.2.2.1)) (w_A88 : a 88 = (6001, .inl r7.2.2.2.2.1)) (w_A89 : a 89 = (6001, .inl r7.2.2.2.2.2.1)) (w_A90 : a 90 = (6001, .inl r7.2.2.2.2.2.2.1)) (w_A91 : a 91 = (6001, .inl r7.2.2.2.2.2.2.2.1)) (w_A92 : a 92 = (6001, .inl r7.2.2.2.2.2.2.2.2.1)) (w_A93 : a 93 = (6001, .inl r7.2.2.2.2.2.2.2.2.2.1)) (w_A94 : a 94 = (6001, .inl r7.2.2.2.2.2.2.2.2.2.2.1)) (w_A95 : a 95 = (6001, .inl r7.2.2.2.2.2.2.2.2.2.2.2.1)) (w_A96 : a 96 = (6002, .inl r7.2.2.2.2.2.2.2.2.2.2.2.2)) (w_A100 : a 100 = (25, .inl r4.2.2.2.2.2.2.2.2.2.2.2.2.2.2.2.2.2.2.2.1)) (w_A101 : a 101 = (25, .inl r4.2.2.2.2.2.2.2.2.2.2.2.2.2.2.2.2.2.2.2.2.1)) (w_A102 : a 102 = (25, .inl r4.2.2.2.2.2.2.2.2.2.2.2.2.2.2.2.2.2.2.2.2.2)) (hoffa : ∀ j, nel j [76, 77, 78, 79, 80, 81, 82, 83, 84, 85, 86, 87, 88, 89, 90, 91, 92, 93, 94, 95, 96, 100, 101, 102] = false → a j = a0 j) (ls : Array Slot) (hl : lv_has ls 7 [(5, .int t41_242)]) (hW : GW D cy (gA N q s.heap.size) N q m a s H) (hS : va_S (gA N q s.heap.size) s.heap H locs), W p l e ({ frames := 314, cells := 0, slots := 0, locals := 2647 } : Room) s M args below meth c H locs 0 0 (MQ below (va_Qi (fun (r : Int32) (u : (Nat → Value) × (Nat → vp_A)) => r = X0.1 ∧ u.1 6918 = .int X0.2.1 ∧ u.1 6919 = .long X0.2.2.1 ∧ u.1 6920 = .int X0.2.2.2.1 ∧ u.1 6921 = .int X0.2.2.2.2.1 ∧ u.1 6922 = .int X0.2.2.2.2.2.1 ∧ u.1 6927 = .int X0.2.2.2.2.2.2.1 ∧ u.1 6935 = .int X0.2.2.2.2.2.2.2.1 ∧ u.1 6943 = .int X0.2.2.2.2.2.2.2.2.1 ∧ u.1 6944 = .int X0.2.2.2.2.2.2.2.2.2.1 ∧ u.1 6945 = .int X0.2.2.2.2.2.2.2.2.2.2.1 ∧ u.1 6955 = .int X0.2.2.2.2.2.2.2.2.2.2.2.1 ∧ (∀ j, nel j [6918, 6919, 6920, 6921, 6922, 6927, 6935, 6943, 6944, 6945, 6955] = false → u.1 j = m0 j) ∧ u.2 76 = (40, .inl X0.2.2.2.2.2.2.2.2.2.2.2.2.1) ∧ u.2 77 = (40, .inl X0.2.2.2.2.2.2.2.2.2.2.2.2.2.1) ∧ u.2 78 = (40, .inl X0.2.2.2.2.2.2.2.2.2.2.2.2.2.2.1) ∧ u.2 79 = (6001, .inr (.inl X0.2.2.2.2.2.2.2.2.2.2.2.2.2.2.2.1)) ∧ u.2 80 = (16384, .inl X0.2.2.2.2.2.2.2.2.2.2.2.2.2.2.2.2.1) ∧ u.2 81 = (6002, .inl X0.2.2.2.2.2.2.2.2.2.2.2.2.2.2.2.2.2.1) ∧ u.2 82 = (84000, .inl X0.2.2.2.2.2.2.2.2.2.2.2.2.2.2.2.2.2.2.1) ∧ u.2 83 = (84000, .inl X0.2.2.2.2.2.2.2.2.2.2.2.2.2.2.2.2.2.2.2.1) ∧ u.2 84 = (84000, .inl X0.2.2.2.2.2.2.2.2.2.2.2.2.2.2.2.2.2.2.2.2.1) ∧ u.2 85 = (84000, .inl X0.2.2.2.2.2.2.2.2.2.2.2.2.2.2.2.2.2.2.2.2.2.1) ∧ u.2 86 = (84000, .inl X0.2.2.2.2.2.2.2.2.2.2.2.2.2.2.2.2.2.2.2.2.2.2.1) ∧ u.2 87 = (6001, .inl X0.2.2.2.2.2.2.2.2.2.2.2.2.2.2.2.2.2.2.2.2.2.2.2.1) ∧ u.2 88 = (6001, .inl X0.2.2.2.2.2.2.2.2.2.2.2.2.2.2.2.2.2.2.2.2.2.2.2.2.1) ∧ u.2 89 = (6001, .inl X0.2.2.2.2.2.2.2.2.2.2.2.2.2.2.2.2.2.2.2.2.2.2.2.2.2.1) ∧ u.2 90 = (6001, .inl X0.2.2.2.2.2.2.2.2.2.2.2.2.2.2.2.2.2.2.2.2.2.2.2.2.2.2.1) ∧ u.2 91 = (6001, .inl X0.2.2.2.2.2.2.2.2.2.2.2.2.2.2.2.2.2.2.2.2.2.2.2.2.2.2.2.1) ∧ u.2 92 = (6001, .inl X0.2.2.2.2.2.2.2.2.2.2.2.2.2.2.2.2.2.2.2.2.2.2.2.2.2.2.2.2.1) ∧ u.2 93 = (6001, .inl X0.2.2.2.2.2.2.2.2.2.2.2.2.2.2.2.2.2.2.2.2.2.2.2.2.2.2.2.2.2.1) ∧ u.2 94 = (6001, .inl X0.2.2.2.2.2.2.2.2.2.2.2.2.2.2.2.2.2.2.2.2.2.2.2.2.2.2.2.2.2.2.1) ∧ u.2 95 = (6001, .inl X0.2.2.2.2.2.2.2.2.2.2.2.2.2.2.2.2.2.2.2.2.2.2.2.2.2.2.2.2.2.2.2.1) ∧ u.2 96 = (6002, .inl X0.2.2.2.2.2.2.2.2.2.2.2.2.2.2.2.2.2.2.2.2.2.2.2.2.2.2.2.2.2.2.2.2.1) ∧ u.2 100 = (25, .inl X0.2.2.2.2.2.2.2.2.2.2.2.2.2.2.2.2.2.2.2.2.2.2.2.2.2.2.2.2.2.2.2.2.2.1) ∧ u.2 101 = (25, .inl X0.2.2.2.2.2.2.2.2.2.2.2.2.2.2.2.2.2.2.2.2.2.2.2.2.2.2.2.2.2.2.2.2.2.2.1) ∧ u.2 102 = (25, .inl X0.2.2.2.2.2.2.2.2.2.2.2.2.2.2.2.2.2.2.2.2.2.2.2.2.2.2.2.2.2.2.2.2.2.2.2) ∧ (∀ j, nel j [76, 77, 78, 79, 80, 81, 82, 83, 84, 85, 86, 87, 88, 89, 90, 91, 92, 93, 94, 95, 96, 100, 101, 102] = false → u.2 j = a0 j)) (gB D cy N q s.heap.size) (gA N q s.heap.size)) args s 0 0 (gA N q s.heap.size)) (F0 M 242 ls []) := by
                              intro t41_242 hr41 m a H locs w_x69_18 w_x69_19 w_x69_20 w_x69_21 w_x69_22 w_x69_27 w_x69_35 w_x69_43 w_x69_44 w_x69_45 w_x69_55 hoff hsh w_A76 w_A77 w_A78 w_A79 w_A80 w_A81 w_A82 w_A83 w_A84 w_A85 w_A86 w_A87 w_A88 w_A89 w_A90 w_A91 w_A92 w_A93 w_A94 w_A95 w_A96 w_A100 w_A101 w_A102 hoffa ls hl hW hS
                              subst hr41
                              refine lv_iload hx hb dX12_every_242 (lv_at hl 0 rfl) ?_
                              have hs0 := Option.some.inj hs0
                              subst hs0
                              exact W.zret hx hb hr rfl (fun t ht hw => ⟨⟨_, (m, a), rfl, ⟨rfl, w_x69_18, w_x69_19, w_x69_20, w_x69_21, w_x69_22, w_x69_27, w_x69_35, w_x69_43, w_x69_44, w_x69_45, w_x69_55, hoff, w_A76, w_A77, w_A78, w_A79, w_A80, w_A81, w_A82, w_A83, w_A84, w_A85, w_A86, w_A87, w_A88, w_A89, w_A90, w_A91, w_A92, w_A93, w_A94, w_A95, w_A96, w_A100, w_A101, w_A102, hoffa⟩, g_end hW ht hw⟩, hS.F ht⟩) hS.2.2 dX12_every_244 hlocks
                            have hL1 : ∀ (n : Nat) (v5k41 : Int32) (v6k41 : Int32) (m : Nat → Value) (a : Nat → vp_A) (H : Heap) (locs : List Loc) (w_x69_18 : m 6918 = .int 0) (w_x69_19 : m 6919 = .long r4.2.1) (w_x69_20 : m 6920 = .int r4.2.2.1) (w_x69_21 : m 6921 = .int r4.2.2.2.1) (w_x69_22 : m 6922 = .int r4.2.2.2.2.1) (w_x69_27 : m 6927 = .int r4.2.2.2.2.2.1) (w_x69_35 : m 6935 = .int r4.2.2.2.2.2.2.1) (w_x69_43 : m 6943 = .int r7.1) (w_x69_44 : m 6944 = .int r7.2.1) (w_x69_45 : m 6945 = .int r7.2.2.1) (w_x69_55 : m 6955 = .int r4.2.2.2.2.2.2.2.1) (hoff : ∀ j, nel j [6918, 6919, 6920, 6921, 6922, 6927, 6935, 6943, 6944, 6945, 6955] = false → m j = m0 j) (hsh : SH q m) (w_A76 : a 76 = (40, .inl r4.2.2.2.2.2.2.2.2.1)) (w_A77 : a 77 = (40, .inl r4.2.2.2.2.2.2.2.2.2.1)) (w_A78 : a 78 = (40, .inl r4.2.2.2.2.2.2.2.2.2.2.1)) (w_A79 : a 79 = (6001, .inr (.inl r4.2.2.2.2.2.2.2.2.2.2.2.1))) (w_A80 : a 80 = (16384, .inl r4.2.2.2.2.2.2.2.2.2.2.2.2.1)) (w_A81 : a 81 = (6002, .inl r4.2.2.2.2.2.2.2.2.2.2.2.2.2.1)) (w_A82 : a 82 = (84000, .inl r4.2.2.2.2.2.2.2.2.2.2.2.2.2.2.1)) (w_A83 : a 83 = (84000, .inl r4.2.2.2.2.2.2.2.2.2.2.2.2.2.2.2.1)) (w_A84 : a 84 = (84000, .inl r4.2.2.2.2.2.2.2.2.2.2.2.2.2.2.2.2.1)) (w_A85 : a 85 = (84000, .inl r4.2.2.2.2.2.2.2.2.2.2.2.2.2.2.2.2.2.1)) (w_A86 : a 86 = (84000, .inl r4.2.2.2.2.2.2.2.2.2.2.2.2.2.2.2.2.2.2.1)) (w_A87 : a 87 = (6001, .inl r7.2.2.2.1)) (w_A88 : a 88 = (6001, .inl r7.2.2.2.2.1)) (w_A89 : a 89 = (6001, .inl r7.2.2.2.2.2.1)) (w_A90 : a 90 = (6001, .inl r7.2.2.2.2.2.2.1)) (w_A91 : a 91 = (6001, .inl r7.2.2.2.2.2.2.2.1)) (w_A92 : a 92 = (6001, .inl r7.2.2.2.2.2.2.2.2.1)) (w_A93 : a 93 = (6001, .inl r7.2.2.2.2.2.2.2.2.2.1)) (w_A94 : a 94 = (6001, .inl r7.2.2.2.2.2.2.2.2.2.2.1)) (w_A95 : a 95 = (6001, .inl r7.2.2.2.2.2.2.2.2.2.2.2.1)) (w_A96 : a 96 = (6002, .inl r7.2.2.2.2.2.2.2.2.2.2.2.2)) (w_A100 : a 100 = (25, .inl r4.2.2.2.2.2.2.2.2.2.2.2.2.2.2.2.2.2.2.2.1)) (w_A101 : a 101 = (25, .inl r4.2.2.2.2.2.2.2.2.2.2.2.2.2.2.2.2.2.2.2.2.1)) (w_A102 : a 102 = (25, .inl r4.2.2.2.2.2.2.2.2.2.2.2.2.2.2.2.2.2.2.2.2.2)) (hoffa : ∀ j, nel j [76, 77, 78, 79, 80, 81, 82, 83, 84, 85, 86, 87, 88, 89, 90, 91, 92, 93, 94, 95, 96, 100, 101, 102] = false → a j = a0 j) (ls : Array Slot) (hl : lv_has ls 7 [(3, .long (r4.2.2.2.2.2.2.2.2.2.2.2.1 t8_86.toNatClampNeg)), (5, .int v5k41), (6, .int v6k41)]) (hg41 : gloop (fun u41 : (Int32 × Int32) => fX12_every_S212 F x69_0 x69_1 x69_2 x69_3 (r4.2.2.2.2.2.2.2.2.2.2.2.1 t8_86.toNatClampNeg) 0 r4.2.1 r4.2.2.1 r4.2.2.2.1 r4.2.2.2.2.1 r4.2.2.2.2.2.1 r4.2.2.2.2.2.2.1 r7.1 r7.2.1 r7.2.2.1 r4.2.2.2.2.2.2.2.1 r4.2.2.2.2.2.2.2.2.1 r4.2.2.2.2.2.2.2.2.2.1 r4.2.2.2.2.2.2.2.2.2.2.1 r4.2.2.2.2.2.2.2.2.2.2.2.1 r4.2.2.2.2.2.2.2.2.2.2.2.2.1 r4.2.2.2.2.2.2.2.2.2.2.2.2.2.1 r4.2.2.2.2.2.2.2.2.2.2.2.2.2.2.1 r4.2.2.2.2.2.2.2.2.2.2.2.2.2.2.2.1 r4.2.2.2.2.2.2.2.2.2.2.2.2.2.2.2.2.1 r4.2.2.2.2.2.2.2.2.2.2.2.2.2.2.2.2.2.1 r4.2.2.2.2.2.2.2.2.2.2.2.2.2.2.2.2.2.2.1 r7.2.2.2.1 r7.2.2.2.2.1 r7.2.2.2.2.2.1 r7.2.2.2.2.2.2.1 r7.2.2.2.2.2.2.2.1 r7.2.2.2.2.2.2.2.2.1 r7.2.2.2.2.2.2.2.2.2.1 r7.2.2.2.2.2.2.2.2.2.2.1 r7.2.2.2.2.2.2.2.2.2.2.2.1 r7.2.2.2.2.2.2.2.2.2.2.2.2 r4.2.2.2.2.2.2.2.2.2.2.2.2.2.2.2.2.2.2.2.1 r4.2.2.2.2.2.2.2.2.2.2.2.2.2.2.2.2.2.2.2.2.1 r4.2.2.2.2.2.2.2.2.2.2.2.2.2.2.2.2.2.2.2.2.2 u41.1 u41.2) n (v5k41, v6k41) = some r41) (hW : GW D cy (gA N q s.heap.size) N q m a s H) (hS : va_S (gA N q s.heap.size) s.heap H locs), W p l e ({ frames := 314, cells := 0, slots := 0, locals := 2647 } : Room) s M args below meth c H locs 0 0 (MQ below (va_Qi (fun (r : Int32) (u : (Nat → Value) × (Nat → vp_A)) => r = X0.1 ∧ u.1 6918 = .int X0.2.1 ∧ u.1 6919 = .long X0.2.2.1 ∧ u.1 6920 = .int X0.2.2.2.1 ∧ u.1 6921 = .int X0.2.2.2.2.1 ∧ u.1 6922 = .int X0.2.2.2.2.2.1 ∧ u.1 6927 = .int X0.2.2.2.2.2.2.1 ∧ u.1 6935 = .int X0.2.2.2.2.2.2.2.1 ∧ u.1 6943 = .int X0.2.2.2.2.2.2.2.2.1 ∧ u.1 6944 = .int X0.2.2.2.2.2.2.2.2.2.1 ∧ u.1 6945 = .int X0.2.2.2.2.2.2.2.2.2.2.1 ∧ u.1 6955 = .int X0.2.2.2.2.2.2.2.2.2.2.2.1 ∧ (∀ j, nel j [6918, 6919, 6920, 6921, 6922, 6927, 6935, 6943, 6944, 6945, 6955] = false → u.1 j = m0 j) ∧ u.2 76 = (40, .inl X0.2.2.2.2.2.2.2.2.2.2.2.2.1) ∧ u.2 77 = (40, .inl X0.2.2.2.2.2.2.2.2.2.2.2.2.2.1) ∧ u.2 78 = (40, .inl X0.2.2.2.2.2.2.2.2.2.2.2.2.2.2.1) ∧ u.2 79 = (6001, .inr (.inl X0.2.2.2.2.2.2.2.2.2.2.2.2.2.2.2.1)) ∧ u.2 80 = (16384, .inl X0.2.2.2.2.2.2.2.2.2.2.2.2.2.2.2.2.1) ∧ u.2 81 = (6002, .inl X0.2.2.2.2.2.2.2.2.2.2.2.2.2.2.2.2.2.1) ∧ u.2 82 = (84000, .inl X0.2.2.2.2.2.2.2.2.2.2.2.2.2.2.2.2.2.2.1) ∧ u.2 83 = (84000, .inl X0.2.2.2.2.2.2.2.2.2.2.2.2.2.2.2.2.2.2.2.1) ∧ u.2 84 = (84000, .inl X0.2.2.2.2.2.2.2.2.2.2.2.2.2.2.2.2.2.2.2.2.1) ∧ u.2 85 = (84000, .inl X0.2.2.2.2.2.2.2.2.2.2.2.2.2.2.2.2.2.2.2.2.2.1) ∧ u.2 86 = (84000, .inl X0.2.2.2.2.2.2.2.2.2.2.2.2.2.2.2.2.2.2.2.2.2.2.1) ∧ u.2 87 = (6001, .inl X0.2.2.2.2.2.2.2.2.2.2.2.2.2.2.2.2.2.2.2.2.2.2.2.1) ∧ u.2 88 = (6001, .inl X0.2.2.2.2.2.2.2.2.2.2.2.2.2.2.2.2.2.2.2.2.2.2.2.2.1) ∧ u.2 89 = (6001, .inl X0.2.2.2.2.2.2.2.2.2.2.2.2.2.2.2.2.2.2.2.2.2.2.2.2.2.1) ∧ u.2 90 = (6001, .inl X0.2.2.2.2.2.2.2.2.2.2.2.2.2.2.2.2.2.2.2.2.2.2.2.2.2.2.1) ∧ u.2 91 = (6001, .inl X0.2.2.2.2.2.2.2.2.2.2.2.2.2.2.2.2.2.2.2.2.2.2.2.2.2.2.2.1) ∧ u.2 92 = (6001, .inl X0.2.2.2.2.2.2.2.2.2.2.2.2.2.2.2.2.2.2.2.2.2.2.2.2.2.2.2.2.1) ∧ u.2 93 = (6001, .inl X0.2.2.2.2.2.2.2.2.2.2.2.2.2.2.2.2.2.2.2.2.2.2.2.2.2.2.2.2.2.1) ∧ u.2 94 = (6001, .inl X0.2.2.2.2.2.2.2.2.2.2.2.2.2.2.2.2.2.2.2.2.2.2.2.2.2.2.2.2.2.2.1) ∧ u.2 95 = (6001, .inl X0.2.2.2.2.2.2.2.2.2.2.2.2.2.2.2.2.2.2.2.2.2.2.2.2.2.2.2.2.2.2.2.1) ∧ u.2 96 = (6002, .inl X0.2.2.2.2.2.2.2.2.2.2.2.2.2.2.2.2.2.2.2.2.2.2.2.2.2.2.2.2.2.2.2.2.1) ∧ u.2 100 = (25, .inl X0.2.2.2.2.2.2.2.2.2.2.2.2.2.2.2.2.2.2.2.2.2.2.2.2.2.2.2.2.2.2.2.2.2.1) ∧ u.2 101 = (25, .inl X0.2.2.2.2.2.2.2.2.2.2.2.2.2.2.2.2.2.2.2.2.2.2.2.2.2.2.2.2.2.2.2.2.2.2.1) ∧ u.2 102 = (25, .inl X0.2.2.2.2.2.2.2.2.2.2.2.2.2.2.2.2.2.2.2.2.2.2.2.2.2.2.2.2.2.2.2.2.2.2.2) ∧ (∀ j, nel j [76, 77, 78, 79, 80, 81, 82, 83, 84, 85, 86, 87, 88, 89, 90, 91, 92, 93, 94, 95, 96, 100, 101, 102] = false → u.2 j = a0 j)) (gB D cy N q s.heap.size) (gA N q s.heap.size)) args s 0 0 (gA N q s.heap.size)) (F0 M 212 ls []) := by
                              intro n
                              induction n with
                              | zero => intro v5k41 v6k41 m a H locs w_x69_18 w_x69_19 w_x69_20 w_x69_21 w_x69_22 w_x69_27 w_x69_35 w_x69_43 w_x69_44 w_x69_45 w_x69_55 hoff hsh w_A76 w_A77 w_A78 w_A79 w_A80 w_A81 w_A82 w_A83 w_A84 w_A85 w_A86 w_A87 w_A88 w_A89 w_A90 w_A91 w_A92 w_A93 w_A94 w_A95 w_A96 w_A100 w_A101 w_A102 hoffa ls hl hg41 hW hS; exact (gl_zero hg41).elim
                              | succ n ih1 =>
                                intro v5k41 v6k41 m a H locs w_x69_18 w_x69_19 w_x69_20 w_x69_21 w_x69_22 w_x69_27 w_x69_35 w_x69_43 w_x69_44 w_x69_45 w_x69_55 hoff hsh w_A76 w_A77 w_A78 w_A79 w_A80 w_A81 w_A82 w_A83 w_A84 w_A85 w_A86 w_A87 w_A88 w_A89 w_A90 w_A91 w_A92 w_A93 w_A94 w_A95 w_A96 w_A100 w_A101 w_A102 hoffa ls hl hg41 hW hS
                                obtain ⟨X1, hs1, hXl1, hXr1⟩ := gl_succ hg41
                                have hs1 : fX12_every_S212 F x69_0 x69_1 x69_2 x69_3 (r4.2.2.2.2.2.2.2.2.2.2.2.1 t8_86.toNatClampNeg) 0 r4.2.1 r4.2.2.1 r4.2.2.2.1 r4.2.2.2.2.1 r4.2.2.2.2.2.1 r4.2.2.2.2.2.2.1 r7.1 r7.2.1 r7.2.2.1 r4.2.2.2.2.2.2.2.1 r4.2.2.2.2.2.2.2.2.1 r4.2.2.2.2.2.2.2.2.2.1 r4.2.2.2.2.2.2.2.2.2.2.1 r4.2.2.2.2.2.2.2.2.2.2.2.1 r4.2.2.2.2.2.2.2.2.2.2.2.2.1 r4.2.2.2.2.2.2.2.2.2.2.2.2.2.1 r4.2.2.2.2.2.2.2.2.2.2.2.2.2.2.1 r4.2.2.2.2.2.2.2.2.2.2.2.2.2.2.2.1 r4.2.2.2.2.2.2.2.2.2.2.2.2.2.2.2.2.1 r4.2.2.2.2.2.2.2.2.2.2.2.2.2.2.2.2.2.1 r4.2.2.2.2.2.2.2.2.2.2.2.2.2.2.2.2.2.2.1 r7.2.2.2.1 r7.2.2.2.2.1 r7.2.2.2.2.2.1 r7.2.2.2.2.2.2.1 r7.2.2.2.2.2.2.2.1 r7.2.2.2.2.2.2.2.2.1 r7.2.2.2.2.2.2.2.2.2.1 r7.2.2.2.2.2.2.2.2.2.2.1 r7.2.2.2.2.2.2.2.2.2.2.2.1 r7.2.2.2.2.2.2.2.2.2.2.2.2 r4.2.2.2.2.2.2.2.2.2.2.2.2.2.2.2.2.2.2.2.1 r4.2.2.2.2.2.2.2.2.2.2.2.2.2.2.2.2.2.2.2.2.1 r4.2.2.2.2.2.2.2.2.2.2.2.2.2.2.2.2.2.2.2.2.2 v5k41 v6k41 = some X1 := hs1
                                unfold fX12_every_S212 at hs1
                                refine lv_iload hx hb dX12_every_212 (lv_at hl 2 rfl) ?_
                                refine lv_bipush (v := 8) hx hb dX12_every_214 (by decide) ?_
                                refine lv_icmp_ge (tgt := 242) hx hb dX12_every_216 (by decide) (fun c44 => ?_) (fun c44 => ?_)
                                · rw [if_pos c44] at hs1
                                  exact hE1_242 v5k41 (hXl1 _ (Option.some.inj hs1).symm) m a _ _ w_x69_18 w_x69_19 w_x69_20 w_x69_21 w_x69_22 w_x69_27 w_x69_35 w_x69_43 w_x69_44 w_x69_45 w_x69_55 hoff hsh w_A76 w_A77 w_A78 w_A79 w_A80 w_A81 w_A82 w_A83 w_A84 w_A85 w_A86 w_A87 w_A88 w_A89 w_A90 w_A91 w_A92 w_A93 w_A94 w_A95 w_A96 w_A100 w_A101 w_A102 hoffa ls (lv_sub hl [1] rfl) hW hS
                                · rw [if_neg c44] at hs1
                                  refine lv_iload hx hb dX12_every_219 (lv_at hl 1 rfl) ?_
                                  refine lv_lload_n hx hb dX12_every_221 rfl (lv_at hl 0 rfl) ?_
                                  refine lv_bipush (v := 9) hx hb dX12_every_222 (by decide) ?_
                                  refine lv_iconst (v := 2) hx hb dX12_every_224 (by decide) ?_
                                  refine lv_iload hx hb dX12_every_225 (lv_at hl 2 rfl) ?_
                                  refine lv_imul hx hb dX12_every_227 ?_
                                  refine lv_iadd hx hb dX12_every_228 ?_
                                  refine lv_iconst (v := 2) hx hb dX12_every_229 (by decide) ?_
                                  refine g_SiR (n := 3) hx hb hml hown hG hW hS [.long (r4.2.2.2.2.2.2.2.2.2.2.2.1 t8_86.toNatClampNeg), .int (9 + (2 * v6k41)), .int 2] (kX12_get hN (r4.2.2.2.2.2.2.2.2.2.2.2.1 t8_86.toNatClampNeg) (9 + (2 * v6k41)) 2) rfl (gd_S gx304 gx305 gx5 gx306) rfl rfl (by decide) ⟨Nat.le_of_ble_eq_true rfl, Nat.le_of_ble_eq_true rfl⟩ rfl hl (Nat.le_of_ble_eq_true rfl) ⟨Nat.zero_le _, Nat.zero_le _⟩ dX12_every_230 (fun H locs hW hS => ?_)
                                  refine lv_iadd hx hb dX12_every_233 ?_
                                  refine lv_istore (lv' := [(5, .int (v5k41 + (fX12_get (r4.2.2.2.2.2.2.2.2.2.2.2.1 t8_86.toNatClampNeg) (9 + (2 * v6k41)) 2))), (3, .long (r4.2.2.2.2.2.2.2.2.2.2.2.1 t8_86.toNatClampNeg)), (6, .int v6k41)]) hx hb dX12_every_234 hl (by decide) rfl (fun ls hl => ?_)
                                  refine lv_iinc (v := v6k41 + 1) (lv' := [(6, .int (v6k41 + 1)), (5, .int (v5k41 + (fX12_get (r4.2.2.2.2.2.2.2.2.2.2.2.1 t8_86.toNatClampNeg) (9 + (2 * v6k41)) 2))), (3, .long (r4.2.2.2.2.2.2.2.2.2.2.2.1 t8_86.toNatClampNeg))]) hx hb dX12_every_236 hl (k := 2) rfl rfl (by decide) rfl (fun ls hl => ?_)
                                  refine lv_goto (tgt := 212) hx hb dX12_every_239 (by decide) ?_
                                  exact ih1 (v5k41 + (fX12_get (r4.2.2.2.2.2.2.2.2.2.2.2.1 t8_86.toNatClampNeg) (9 + (2 * v6k41)) 2)) (v6k41 + 1) m a _ _ w_x69_18 w_x69_19 w_x69_20 w_x69_21 w_x69_22 w_x69_27 w_x69_35 w_x69_43 w_x69_44 w_x69_45 w_x69_55 hoff hsh w_A76 w_A77 w_A78 w_A79 w_A80 w_A81 w_A82 w_A83 w_A84 w_A85 w_A86 w_A87 w_A88 w_A89 w_A90 w_A91 w_A92 w_A93 w_A94 w_A95 w_A96 w_A100 w_A101 w_A102 hoffa ls (lv_sub hl [2, 1, 0] rfl) (hXr1 _ (Option.some.inj hs1).symm) hW hS
                            exact hL1 F 0 0 m a _ _ w_x69_18 w_x69_19 w_x69_20 w_x69_21 w_x69_22 w_x69_27 w_x69_35 w_x69_43 w_x69_44 w_x69_45 w_x69_55 hoff hsh w_A76 w_A77 w_A78 w_A79 w_A80 w_A81 w_A82 w_A83 w_A84 w_A85 w_A86 w_A87 w_A88 w_A89 w_A90 w_A91 w_A92 w_A93 w_A94 w_A95 w_A96 w_A100 w_A101 w_A102 hoffa ls (lv_sub hl [2, 1, 0] rfl) hg41 hW hS
        have hL1 : ∀ (n : Nat) (v2k8 : Int32) (v3k8 : Int32) (m : Nat → Value) (a : Nat → vp_A) (H : Heap) (locs : List Loc) (w_x69_18 : m 6918 = .int 0) (w_x69_19 : m 6919 = .long r4.2.1) (w_x69_20 : m 6920 = .int r4.2.2.1) (w_x69_21 : m 6921 = .int r4.2.2.2.1) (w_x69_22 : m 6922 = .int r4.2.2.2.2.1) (w_x69_27 : m 6927 = .int r4.2.2.2.2.2.1) (w_x69_35 : m 6935 = .int r4.2.2.2.2.2.2.1) (w_x69_43 : m 6943 = .int r7.1) (w_x69_44 : m 6944 = .int r7.2.1) (w_x69_45 : m 6945 = .int r7.2.2.1) (w_x69_55 : m 6955 = .int r4.2.2.2.2.2.2.2.1) (hoff : ∀ j, nel j [6918, 6919, 6920, 6921, 6922, 6927, 6935, 6943, 6944, 6945, 6955] = false → m j = m0 j) (hsh : SH q m) (w_A76 : a 76 = (40, .inl r4.2.2.2.2.2.2.2.2.1)) (w_A77 : a 77 = (40, .inl r4.2.2.2.2.2.2.2.2.2.1)) (w_A78 : a 78 = (40, .inl r4.2.2.2.2.2.2.2.2.2.2.1)) (w_A79 : a 79 = (6001, .inr (.inl r4.2.2.2.2.2.2.2.2.2.2.2.1))) (w_A80 : a 80 = (16384, .inl r4.2.2.2.2.2.2.2.2.2.2.2.2.1)) (w_A81 : a 81 = (6002, .inl r4.2.2.2.2.2.2.2.2.2.2.2.2.2.1)) (w_A82 : a 82 = (84000, .inl r4.2.2.2.2.2.2.2.2.2.2.2.2.2.2.1)) (w_A83 : a 83 = (84000, .inl r4.2.2.2.2.2.2.2.2.2.2.2.2.2.2.2.1)) (w_A84 : a 84 = (84000, .inl r4.2.2.2.2.2.2.2.2.2.2.2.2.2.2.2.2.1)) (w_A85 : a 85 = (84000, .inl r4.2.2.2.2.2.2.2.2.2.2.2.2.2.2.2.2.2.1)) (w_A86 : a 86 = (84000, .inl r4.2.2.2.2.2.2.2.2.2.2.2.2.2.2.2.2.2.2.1)) (w_A87 : a 87 = (6001, .inl r7.2.2.2.1)) (w_A88 : a 88 = (6001, .inl r7.2.2.2.2.1)) (w_A89 : a 89 = (6001, .inl r7.2.2.2.2.2.1)) (w_A90 : a 90 = (6001, .inl r7.2.2.2.2.2.2.1)) (w_A91 : a 91 = (6001, .inl r7.2.2.2.2.2.2.2.1)) (w_A92 : a 92 = (6001, .inl r7.2.2.2.2.2.2.2.2.1)) (w_A93 : a 93 = (6001, .inl r7.2.2.2.2.2.2.2.2.2.1)) (w_A94 : a 94 = (6001, .inl r7.2.2.2.2.2.2.2.2.2.2.1)) (w_A95 : a 95 = (6001, .inl r7.2.2.2.2.2.2.2.2.2.2.2.1)) (w_A96 : a 96 = (6002, .inl r7.2.2.2.2.2.2.2.2.2.2.2.2)) (w_A100 : a 100 = (25, .inl r4.2.2.2.2.2.2.2.2.2.2.2.2.2.2.2.2.2.2.2.1)) (w_A101 : a 101 = (25, .inl r4.2.2.2.2.2.2.2.2.2.2.2.2.2.2.2.2.2.2.2.2.1)) (w_A102 : a 102 = (25, .inl r4.2.2.2.2.2.2.2.2.2.2.2.2.2.2.2.2.2.2.2.2.2)) (hoffa : ∀ j, nel j [76, 77, 78, 79, 80, 81, 82, 83, 84, 85, 86, 87, 88, 89, 90, 91, 92, 93, 94, 95, 96, 100, 101, 102] = false → a j = a0 j) (ls : Array Slot) (hl : lv_has ls 7 [(0, .ref (q 69)), (1, .int p1), (2, .int v2k8), (3, .int v3k8)]) (hg8 : gloop (fun u8 : (Int32 × Int32) => fX12_every_S45 F x69_0 x69_1 x69_2 x69_3 p1 0 r4.2.1 r4.2.2.1 r4.2.2.2.1 r4.2.2.2.2.1 r4.2.2.2.2.2.1 r4.2.2.2.2.2.2.1 r7.1 r7.2.1 r7.2.2.1 r4.2.2.2.2.2.2.2.1 r4.2.2.2.2.2.2.2.2.1 r4.2.2.2.2.2.2.2.2.2.1 r4.2.2.2.2.2.2.2.2.2.2.1 r4.2.2.2.2.2.2.2.2.2.2.2.1 r4.2.2.2.2.2.2.2.2.2.2.2.2.1 r4.2.2.2.2.2.2.2.2.2.2.2.2.2.1 r4.2.2.2.2.2.2.2.2.2.2.2.2.2.2.1 r4.2.2.2.2.2.2.2.2.2.2.2.2.2.2.2.1 r4.2.2.2.2.2.2.2.2.2.2.2.2.2.2.2.2.1 r4.2.2.2.2.2.2.2.2.2.2.2.2.2.2.2.2.2.1 r4.2.2.2.2.2.2.2.2.2.2.2.2.2.2.2.2.2.2.1 r7.2.2.2.1 r7.2.2.2.2.1 r7.2.2.2.2.2.1 r7.2.2.2.2.2.2.1 r7.2.2.2.2.2.2.2.1 r7.2.2.2.2.2.2.2.2.1 r7.2.2.2.2.2.2.2.2.2.1 r7.2.2.2.2.2.2.2.2.2.2.1 r7.2.2.2.2.2.2.2.2.2.2.2.1 r7.2.2.2.2.2.2.2.2.2.2.2.2 r4.2.2.2.2.2.2.2.2.2.2.2.2.2.2.2.2.2.2.2.1 r4.2.2.2.2.2.2.2.2.2.2.2.2.2.2.2.2.2.2.2.2.1 r4.2.2.2.2.2.2.2.2.2.2.2.2.2.2.2.2.2.2.2.2.2 u8.1 u8.2) n (v2k8, v3k8) = some r8) (hW : GW D cy (gA N q s.heap.size) N q m a s H) (hS : va_S (gA N q s.heap.size) s.heap H locs), W p l e ({ frames := 314, cells := 0, slots := 0, locals := 2647 } : Room) s M args below meth c H locs 0 0 (MQ below (va_Qi (fun (r : Int32) (u : (Nat → Value) × (Nat → vp_A)) => r = X0.1 ∧ u.1 6918 = .int X0.2.1 ∧ u.1 6919 = .long X0.2.2.1 ∧ u.1 6920 = .int X0.2.2.2.1 ∧ u.1 6921 = .int X0.2.2.2.2.1 ∧ u.1 6922 = .int X0.2.2.2.2.2.1 ∧ u.1 6927 = .int X0.2.2.2.2.2.2.1 ∧ u.1 6935 = .int X0.2.2.2.2.2.2.2.1 ∧ u.1 6943 = .int X0.2.2.2.2.2.2.2.2.1 ∧ u.1 6944 = .int X0.2.2.2.2.2.2.2.2.2.1 ∧ u.1 6945 = .int X0.2.2.2.2.2.2.2.2.2.2.1 ∧ u.1 6955 = .int X0.2.2.2.2.2.2.2.2.2.2.2.1 ∧ (∀ j, nel j [6918, 6919, 6920, 6921, 6922, 6927, 6935, 6943, 6944, 6945, 6955] = false → u.1 j = m0 j) ∧ u.2 76 = (40, .inl X0.2.2.2.2.2.2.2.2.2.2.2.2.1) ∧ u.2 77 = (40, .inl X0.2.2.2.2.2.2.2.2.2.2.2.2.2.1) ∧ u.2 78 = (40, .inl X0.2.2.2.2.2.2.2.2.2.2.2.2.2.2.1) ∧ u.2 79 = (6001, .inr (.inl X0.2.2.2.2.2.2.2.2.2.2.2.2.2.2.2.1)) ∧ u.2 80 = (16384, .inl X0.2.2.2.2.2.2.2.2.2.2.2.2.2.2.2.2.1) ∧ u.2 81 = (6002, .inl X0.2.2.2.2.2.2.2.2.2.2.2.2.2.2.2.2.2.1) ∧ u.2 82 = (84000, .inl X0.2.2.2.2.2.2.2.2.2.2.2.2.2.2.2.2.2.2.1) ∧ u.2 83 = (84000, .inl X0.2.2.2.2.2.2.2.2.2.2.2.2.2.2.2.2.2.2.2.1) ∧ u.2 84 = (84000, .inl X0.2.2.2.2.2.2.2.2.2.2.2.2.2.2.2.2.2.2.2.2.1) ∧ u.2 85 = (84000, .inl X0.2.2.2.2.2.2.2.2.2.2.2.2.2.2.2.2.2.2.2.2.2.1) ∧ u.2 86 = (84000, .inl X0.2.2.2.2.2.2.2.2.2.2.2.2.2.2.2.2.2.2.2.2.2.2.1) ∧ u.2 87 = (6001, .inl X0.2.2.2.2.2.2.2.2.2.2.2.2.2.2.2.2.2.2.2.2.2.2.2.1) ∧ u.2 88 = (6001, .inl X0.2.2.2.2.2.2.2.2.2.2.2.2.2.2.2.2.2.2.2.2.2.2.2.2.1) ∧ u.2 89 = (6001, .inl X0.2.2.2.2.2.2.2.2.2.2.2.2.2.2.2.2.2.2.2.2.2.2.2.2.2.1) ∧ u.2 90 = (6001, .inl X0.2.2.2.2.2.2.2.2.2.2.2.2.2.2.2.2.2.2.2.2.2.2.2.2.2.2.1) ∧ u.2 91 = (6001, .inl X0.2.2.2.2.2.2.2.2.2.2.2.2.2.2.2.2.2.2.2.2.2.2.2.2.2.2.2.1) ∧ u.2 92 = (6001, .inl X0.2.2.2.2.2.2.2.2.2.2.2.2.2.2.2.2.2.2.2.2.2.2.2.2.2.2.2.2.1) ∧ u.2 93 = (6001, .inl X0.2.2.2.2.2.2.2.2.2.2.2.2.2.2.2.2.2.2.2.2.2.2.2.2.2.2.2.2.2.1) ∧ u.2 94 = (6001, .inl X0.2.2.2.2.2.2.2.2.2.2.2.2.2.2.2.2.2.2.2.2.2.2.2.2.2.2.2.2.2.2.1) ∧ u.2 95 = (6001, .inl X0.2.2.2.2.2.2.2.2.2.2.2.2.2.2.2.2.2.2.2.2.2.2.2.2.2.2.2.2.2.2.2.1) ∧ u.2 96 = (6002, .inl X0.2.2.2.2.2.2.2.2.2.2.2.2.2.2.2.2.2.2.2.2.2.2.2.2.2.2.2.2.2.2.2.2.1) ∧ u.2 100 = (25, .inl X0.2.2.2.2.2.2.2.2.2.2.2.2.2.2.2.2.2.2.2.2.2.2.2.2.2.2.2.2.2.2.2.2.2.1) ∧ u.2 101 = (25, .inl X0.2.2.2.2.2.2.2.2.2.2.2.2.2.2.2.2.2.2.2.2.2.2.2.2.2.2.2.2.2.2.2.2.2.2.1) ∧ u.2 102 = (25, .inl X0.2.2.2.2.2.2.2.2.2.2.2.2.2.2.2.2.2.2.2.2.2.2.2.2.2.2.2.2.2.2.2.2.2.2.2) ∧ (∀ j, nel j [76, 77, 78, 79, 80, 81, 82, 83, 84, 85, 86, 87, 88, 89, 90, 91, 92, 93, 94, 95, 96, 100, 101, 102] = false → u.2 j = a0 j)) (gB D cy N q s.heap.size) (gA N q s.heap.size)) args s 0 0 (gA N q s.heap.size)) (F0 M 45 ls []) := by
          intro n
          induction n with
          | zero => intro v2k8 v3k8 m a H locs w_x69_18 w_x69_19 w_x69_20 w_x69_21 w_x69_22 w_x69_27 w_x69_35 w_x69_43 w_x69_44 w_x69_45 w_x69_55 hoff hsh w_A76 w_A77 w_A78 w_A79 w_A80 w_A81 w_A82 w_A83 w_A84 w_A85 w_A86 w_A87 w_A88 w_A89 w_A90 w_A91 w_A92 w_A93 w_A94 w_A95 w_A96 w_A100 w_A101 w_A102 hoffa ls hl hg8 hW hS; exact (gl_zero hg8).elim
          | succ n ih1 =>
            intro v2k8 v3k8 m a H locs w_x69_18 w_x69_19 w_x69_20 w_x69_21 w_x69_22 w_x69_27 w_x69_35 w_x69_43 w_x69_44 w_x69_45 w_x69_55 hoff hsh w_A76 w_A77 w_A78 w_A79 w_A80 w_A81 w_A82 w_A83 w_A84 w_A85 w_A86 w_A87 w_A88 w_A89 w_A90 w_A91 w_A92 w_A93 w_A94 w_A95 w_A96 w_A100 w_A101 w_A102 hoffa ls hl hg8 hW hS
            obtain ⟨X1, hs1, hXl1, hXr1⟩ := gl_succ hg8
            have hs1 : fX12_every_S45 F x69_0 x69_1 x69_2 x69_3 p1 0 r4.2.1 r4.2.2.1 r4.2.2.2.1 r4.2.2.2.2.1 r4.2.2.2.2.2.1 r4.2.2.2.2.2.2.1 r7.1 r7.2.1 r7.2.2.1 r4.2.2.2.2.2.2.2.1 r4.2.2.2.2.2.2.2.2.1 r4.2.2.2.2.2.2.2.2.2.1 r4.2.2.2.2.2.2.2.2.2.2.1 r4.2.2.2.2.2.2.2.2.2.2.2.1 r4.2.2.2.2.2.2.2.2.2.2.2.2.1 r4.2.2.2.2.2.2.2.2.2.2.2.2.2.1 r4.2.2.2.2.2.2.2.2.2.2.2.2.2.2.1 r4.2.2.2.2.2.2.2.2.2.2.2.2.2.2.2.1 r4.2.2.2.2.2.2.2.2.2.2.2.2.2.2.2.2.1 r4.2.2.2.2.2.2.2.2.2.2.2.2.2.2.2.2.2.1 r4.2.2.2.2.2.2.2.2.2.2.2.2.2.2.2.2.2.2.1 r7.2.2.2.1 r7.2.2.2.2.1 r7.2.2.2.2.2.1 r7.2.2.2.2.2.2.1 r7.2.2.2.2.2.2.2.1 r7.2.2.2.2.2.2.2.2.1 r7.2.2.2.2.2.2.2.2.2.1 r7.2.2.2.2.2.2.2.2.2.2.1 r7.2.2.2.2.2.2.2.2.2.2.2.1 r7.2.2.2.2.2.2.2.2.2.2.2.2 r4.2.2.2.2.2.2.2.2.2.2.2.2.2.2.2.2.2.2.2.1 r4.2.2.2.2.2.2.2.2.2.2.2.2.2.2.2.2.2.2.2.2.1 r4.2.2.2.2.2.2.2.2.2.2.2.2.2.2.2.2.2.2.2.2.2 v2k8 v3k8 = some X1 := hs1
            unfold fX12_every_S45 at hs1
            have hJ80_1 : ∀ (v2j52 : Int32) (v3j52 : Int32) (m : Nat → Value) (a : Nat → vp_A) (H : Heap) (locs : List Loc) (w_x69_18 : m 6918 = .int 0) (w_x69_19 : m 6919 = .long r4.2.1) (w_x69_20 : m 6920 = .int r4.2.2.1) (w_x69_21 : m 6921 = .int r4.2.2.2.1) (w_x69_22 : m 6922 = .int r4.2.2.2.2.1) (w_x69_27 : m 6927 = .int r4.2.2.2.2.2.1) (w_x69_35 : m 6935 = .int r4.2.2.2.2.2.2.1) (w_x69_43 : m 6943 = .int r7.1) (w_x69_44 : m 6944 = .int r7.2.1) (w_x69_45 : m 6945 = .int r7.2.2.1) (w_x69_55 : m 6955 = .int r4.2.2.2.2.2.2.2.1) (hoff : ∀ j, nel j [6918, 6919, 6920, 6921, 6922, 6927, 6935, 6943, 6944, 6945, 6955] = false → m j = m0 j) (hsh : SH q m) (w_A76 : a 76 = (40, .inl r4.2.2.2.2.2.2.2.2.1)) (w_A77 : a 77 = (40, .inl r4.2.2.2.2.2.2.2.2.2.1)) (w_A78 : a 78 = (40, .inl r4.2.2.2.2.2.2.2.2.2.2.1)) (w_A79 : a 79 = (6001, .inr (.inl r4.2.2.2.2.2.2.2.2.2.2.2.1))) (w_A80 : a 80 = (16384, .inl r4.2.2.2.2.2.2.2.2.2.2.2.2.1)) (w_A81 : a 81 = (6002, .inl r4.2.2.2.2.2.2.2.2.2.2.2.2.2.1)) (w_A82 : a 82 = (84000, .inl r4.2.2.2.2.2.2.2.2.2.2.2.2.2.2.1)) (w_A83 : a 83 = (84000, .inl r4.2.2.2.2.2.2.2.2.2.2.2.2.2.2.2.1)) (w_A84 : a 84 = (84000, .inl r4.2.2.2.2.2.2.2.2.2.2.2.2.2.2.2.2.1)) (w_A85 : a 85 = (84000, .inl r4.2.2.2.2.2.2.2.2.2.2.2.2.2.2.2.2.2.1)) (w_A86 : a 86 = (84000, .inl r4.2.2.2.2.2.2.2.2.2.2.2.2.2.2.2.2.2.2.1)) (w_A87 : a 87 = (6001, .inl r7.2.2.2.1)) (w_A88 : a 88 = (6001, .inl r7.2.2.2.2.1)) (w_A89 : a 89 = (6001, .inl r7.2.2.2.2.2.1)) (w_A90 : a 90 = (6001, .inl r7.2.2.2.2.2.2.1)) (w_A91 : a 91 = (6001, .inl r7.2.2.2.2.2.2.2.1)) (w_A92 : a 92 = (6001, .inl r7.2.2.2.2.2.2.2.2.1)) (w_A93 : a 93 = (6001, .inl r7.2.2.2.2.2.2.2.2.2.1)) (w_A94 : a 94 = (6001, .inl r7.2.2.2.2.2.2.2.2.2.2.1)) (w_A95 : a 95 = (6001, .inl r7.2.2.2.2.2.2.2.2.2.2.2.1)) (w_A96 : a 96 = (6002, .inl r7.2.2.2.2.2.2.2.2.2.2.2.2)) (w_A100 : a 100 = (25, .inl r4.2.2.2.2.2.2.2.2.2.2.2.2.2.2.2.2.2.2.2.1)) (w_A101 : a 101 = (25, .inl r4.2.2.2.2.2.2.2.2.2.2.2.2.2.2.2.2.2.2.2.2.1)) (w_A102 : a 102 = (25, .inl r4.2.2.2.2.2.2.2.2.2.2.2.2.2.2.2.2.2.2.2.2.2)) (hoffa : ∀ j, nel j [76, 77, 78, 79, 80, 81, 82, 83, 84, 85, 86, 87, 88, 89, 90, 91, 92, 93, 94, 95, 96, 100, 101, 102] = false → a j = a0 j) (ls : Array Slot) (hl : lv_has ls 7 [(0, .ref (q 69)), (1, .int p1), (2, .int v2j52), (3, .int v3j52)]) (hs1 : fX12_every_J80 F x69_0 x69_1 x69_2 x69_3 p1 v2j52 v3j52 0 r4.2.1 r4.2.2.1 r4.2.2.2.1 r4.2.2.2.2.1 r4.2.2.2.2.2.1 r4.2.2.2.2.2.2.1 r7.1 r7.2.1 r7.2.2.1 r4.2.2.2.2.2.2.2.1 r4.2.2.2.2.2.2.2.2.1 r4.2.2.2.2.2.2.2.2.2.1 r4.2.2.2.2.2.2.2.2.2.2.1 r4.2.2.2.2.2.2.2.2.2.2.2.1 r4.2.2.2.2.2.2.2.2.2.2.2.2.1 r4.2.2.2.2.2.2.2.2.2.2.2.2.2.1 r4.2.2.2.2.2.2.2.2.2.2.2.2.2.2.1 r4.2.2.2.2.2.2.2.2.2.2.2.2.2.2.2.1 r4.2.2.2.2.2.2.2.2.2.2.2.2.2.2.2.2.1 r4.2.2.2.2.2.2.2.2.2.2.2.2.2.2.2.2.2.1 r4.2.2.2.2.2.2.2.2.2.2.2.2.2.2.2.2.2.2.1 r7.2.2.2.1 r7.2.2.2.2.1 r7.2.2.2.2.2.1 r7.2.2.2.2.2.2.1 r7.2.2.2.2.2.2.2.1 r7.2.2.2.2.2.2.2.2.1 r7.2.2.2.2.2.2.2.2.2.1 r7.2.2.2.2.2.2.2.2.2.2.1 r7.2.2.2.2.2.2.2.2.2.2.2.1 r7.2.2.2.2.2.2.2.2.2.2.2.2 r4.2.2.2.2.2.2.2.2.2.2.2.2.2.2.2.2.2.2.2.1 r4.2.2.2.2.2.2.2.2.2.2.2.2.2.2.2.2.2.2.2.2.1 r4.2.2.2.2.2.2.2.2.2.2.2.2.2.2.2.2.2.2.2.2.2 = some X1) (hW : GW D cy (gA N q s.heap.size) N q m a s H) (hS : va_S (gA N q s.heap.size) s.heap H locs), W p l e ({ frames := 314, cells := 0, slots := 0, locals := 2647 } : Room) s M args below meth c H locs 0 0 (MQ below (va_Qi (fun (r : Int32) (u : (Nat → Value) × (Nat → vp_A)) => r = X0.1 ∧ u.1 6918 = .int X0.2.1 ∧ u.1 6919 = .long X0.2.2.1 ∧ u.1 6920 = .int X0.2.2.2.1 ∧ u.1 6921 = .int X0.2.2.2.2.1 ∧ u.1 6922 = .int X0.2.2.2.2.2.1 ∧ u.1 6927 = .int X0.2.2.2.2.2.2.1 ∧ u.1 6935 = .int X0.2.2.2.2.2.2.2.1 ∧ u.1 6943 = .int X0.2.2.2.2.2.2.2.2.1 ∧ u.1 6944 = .int X0.2.2.2.2.2.2.2.2.2.1 ∧ u.1 6945 = .int X0.2.2.2.2.2.2.2.2.2.2.1 ∧ u.1 6955 = .int X0.2.2.2.2.2.2.2.2.2.2.2.1 ∧ (∀ j, nel j [6918, 6919, 6920, 6921, 6922, 6927, 6935, 6943, 6944, 6945, 6955] = false → u.1 j = m0 j) ∧ u.2 76 = (40, .inl X0.2.2.2.2.2.2.2.2.2.2.2.2.1) ∧ u.2 77 = (40, .inl X0.2.2.2.2.2.2.2.2.2.2.2.2.2.1) ∧ u.2 78 = (40, .inl X0.2.2.2.2.2.2.2.2.2.2.2.2.2.2.1) ∧ u.2 79 = (6001, .inr (.inl X0.2.2.2.2.2.2.2.2.2.2.2.2.2.2.2.1)) ∧ u.2 80 = (16384, .inl X0.2.2.2.2.2.2.2.2.2.2.2.2.2.2.2.2.1) ∧ u.2 81 = (6002, .inl X0.2.2.2.2.2.2.2.2.2.2.2.2.2.2.2.2.2.1) ∧ u.2 82 = (84000, .inl X0.2.2.2.2.2.2.2.2.2.2.2.2.2.2.2.2.2.2.1) ∧ u.2 83 = (84000, .inl X0.2.2.2.2.2.2.2.2.2.2.2.2.2.2.2.2.2.2.2.1) ∧ u.2 84 = (84000, .inl X0.2.2.2.2.2.2.2.2.2.2.2.2.2.2.2.2.2.2.2.2.1) ∧ u.2 85 = (84000, .inl X0.2.2.2.2.2.2.2.2.2.2.2.2.2.2.2.2.2.2.2.2.2.1) ∧ u.2 86 = (84000, .inl X0.2.2.2.2.2.2.2.2.2.2.2.2.2.2.2.2.2.2.2.2.2.2.1) ∧ u.2 87 = (6001, .inl X0.2.2.2.2.2.2.2.2.2.2.2.2.2.2.2.2.2.2.2.2.2.2.2.1) ∧ u.2 88 = (6001, .inl X0.2.2.2.2.2.2.2.2.2.2.2.2.2.2.2.2.2.2.2.2.2.2.2.2.1) ∧ u.2 89 = (6001, .inl X0.2.2.2.2.2.2.2.2.2.2.2.2.2.2.2.2.2.2.2.2.2.2.2.2.2.1) ∧ u.2 90 = (6001, .inl X0.2.2.2.2.2.2.2.2.2.2.2.2.2.2.2.2.2.2.2.2.2.2.2.2.2.2.1) ∧ u.2 91 = (6001, .inl X0.2.2.2.2.2.2.2.2.2.2.2.2.2.2.2.2.2.2.2.2.2.2.2.2.2.2.2.1) ∧ u.2 92 = (6001, .inl X0.2.2.2.2.2.2.2.2.2.2.2.2.2.2.2.2.2.2.2.2.2.2.2.2.2.2.2.2.1) ∧ u.2 93 = (6001, .inl X0.2.2.2.2.2.2.2.2.2.2.2.2.2.2.2.2.2.2.2.2.2.2.2.2.2.2.2.2.2.1) ∧ u.2 94 = (6001, .inl X0.2.2.2.2.2.2.2.2.2.2.2.2.2.2.2.2.2.2.2.2.2.2.2.2.2.2.2.2.2.2.1) ∧ u.2 95 = (6001, .inl X0.2.2.2.2.2.2.2.2.2.2.2.2.2.2.2.2.2.2.2.2.2.2.2.2.2.2.2.2.2.2.2.1) ∧ u.2 96 = (6002, .inl X0.2.2.2.2.2.2.2.2.2.2.2.2.2.2.2.2.2.2.2.2.2.2.2.2.2.2.2.2.2.2.2.2.1) ∧ u.2 100 = (25, .inl X0.2.2.2.2.2.2.2.2.2.2.2.2.2.2.2.2.2.2.2.2.2.2.2.2.2.2.2.2.2.2.2.2.2.1) ∧ u.2 101 = (25, .inl X0.2.2.2.2.2.2.2.2.2.2.2.2.2.2.2.2.2.2.2.2.2.2.2.2.2.2.2.2.2.2.2.2.2.2.1) ∧ u.2 102 = (25, .inl X0.2.2.2.2.2.2.2.2.2.2.2.2.2.2.2.2.2.2.2.2.2.2.2.2.2.2.2.2.2.2.2.2.2.2.2) ∧ (∀ j, nel j [76, 77, 78, 79, 80, 81, 82, 83, 84, 85, 86, 87, 88, 89, 90, 91, 92, 93, 94, 95, 96, 100, 101, 102] = false → u.2 j = a0 j)) (gB D cy N q s.heap.size) (gA N q s.heap.size)) args s 0 0 (gA N q s.heap.size)) (F0 M 80 ls []) := by
              intro v2j52 v3j52 m a H locs w_x69_18 w_x69_19 w_x69_20 w_x69_21 w_x69_22 w_x69_27 w_x69_35 w_x69_43 w_x69_44 w_x69_45 w_x69_55 hoff hsh w_A76 w_A77 w_A78 w_A79 w_A80 w_A81 w_A82 w_A83 w_A84 w_A85 w_A86 w_A87 w_A88 w_A89 w_A90 w_A91 w_A92 w_A93 w_A94 w_A95 w_A96 w_A100 w_A101 w_A102 hoffa ls hl hs1 hW hS
              unfold fX12_every_J80 at hs1
              refine lv_iinc (v := v3j52 + 1) (lv' := [(3, .int (v3j52 + 1)), (0, .ref (q 69)), (1, .int p1), (2, .int v2j52)]) hx hb dX12_every_80 hl (k := 3) rfl rfl (by decide) rfl (fun ls hl => ?_)
              refine lv_goto (tgt := 45) hx hb dX12_every_83 (by decide) ?_
              exact ih1 v2j52 (v3j52 + 1) m a _ _ w_x69_18 w_x69_19 w_x69_20 w_x69_21 w_x69_22 w_x69_27 w_x69_35 w_x69_43 w_x69_44 w_x69_45 w_x69_55 hoff hsh w_A76 w_A77 w_A78 w_A79 w_A80 w_A81 w_A82 w_A83 w_A84 w_A85 w_A86 w_A87 w_A88 w_A89 w_A90 w_A91 w_A92 w_A93 w_A94 w_A95 w_A96 w_A100 w_A101 w_A102 hoffa ls (lv_sub hl [1, 2, 3, 0] rfl) (hXr1 _ (Option.some.inj hs1).symm) hW hS
            refine lv_iload_n hx hb dX12_every_45 rfl (lv_at hl 3 rfl) ?_
            refine lv_aload_n hx hb dX12_every_46 rfl (lv_at hl 0 rfl) ?_
            refine gf12_27 hx hb hG hown hW (o := 69) (ltN hN 69 rfl) gk69 (v := .int r4.2.2.2.2.2.1) w_x69_27 gx713 dX12_every_47 ?_
            refine lv_icmp_ge (tgt := 86) hx hb dX12_every_50 (by decide) (fun c46 => ?_) (fun c46 => ?_)
            · rw [if_pos c46] at hs1
              exact hE1_86 v2k8 (hXl1 _ (Option.some.inj hs1).symm) m a _ _ w_x69_18 w_x69_19 w_x69_20 w_x69_21 w_x69_22 w_x69_27 w_x69_35 w_x69_43 w_x69_44 w_x69_45 w_x69_55 hoff hsh w_A76 w_A77 w_A78 w_A79 w_A80 w_A81 w_A82 w_A83 w_A84 w_A85 w_A86 w_A87 w_A88 w_A89 w_A90 w_A91 w_A92 w_A93 w_A94 w_A95 w_A96 w_A100 w_A101 w_A102 hoffa ls (lv_sub hl [0, 1, 2] rfl) hW hS
            · rw [if_neg c46] at hs1
              refine lv_aload_n hx hb dX12_every_53 rfl (lv_at hl 0 rfl) ?_
              refine gf12_46 hx hb hG hown hW (o := 69) (ltN hN 69 rfl) gk69 (v := .ref (q 94)) (sh69_46 hsh) gx192 dX12_every_54 ?_
              refine lv_aload_n hx hb dX12_every_57 rfl (lv_at hl 0 rfl) ?_
              refine gf12_36 hx hb hG hown hW (o := 69) (ltN hN 69 rfl) gk69 (v := .ref (q 87)) (sh69_36 hsh) gx184 dX12_every_58 ?_
              refine lv_iload_n hx hb dX12_every_61 rfl (lv_at hl 3 rfl) ?_
              obtain ⟨hi47, hs1⟩ := oif hs1
              refine g_iald hx hb hW (o := 87) (ltN hN 87 rfl) gk87 w_A87 (vin hi47) dX12_every_62 ?_
              obtain ⟨hi48, hs1⟩ := oif hs1
              refine g_iald hx hb hW (o := 94) (ltN hN 94 rfl) gk94 w_A94 (vin hi48) dX12_every_63 ?_
              refine lv_aload_n hx hb dX12_every_64 rfl (lv_at hl 0 rfl) ?_
              refine gf12_46 hx hb hG hown hW (o := 69) (ltN hN 69 rfl) gk69 (v := .ref (q 94)) (sh69_46 hsh) gx192 dX12_every_65 ?_
              refine lv_aload_n hx hb dX12_every_68 rfl (lv_at hl 0 rfl) ?_
              refine gf12_36 hx hb hG hown hW (o := 69) (ltN hN 69 rfl) gk69 (v := .ref (q 87)) (sh69_36 hsh) gx184 dX12_every_69 ?_
              refine lv_iload_n hx hb dX12_every_72 rfl (lv_at hl 2 rfl) ?_
              obtain ⟨hi49, hs1⟩ := oif hs1
              refine g_iald hx hb hW (o := 87) (ltN hN 87 rfl) gk87 w_A87 (vin hi49) dX12_every_73 ?_
              obtain ⟨hi50, hs1⟩ := oif hs1
              refine g_iald hx hb hW (o := 94) (ltN hN 94 rfl) gk94 w_A94 (vin hi50) dX12_every_74 ?_
              refine lv_icmp_le (tgt := 80) hx hb dX12_every_75 (by decide) (fun c51 => ?_) (fun c51 => ?_)
              · rw [if_pos c51] at hs1
                exact hJ80_1 v2k8 v3k8 m a _ _ w_x69_18 w_x69_19 w_x69_20 w_x69_21 w_x69_22 w_x69_27 w_x69_35 w_x69_43 w_x69_44 w_x69_45 w_x69_55 hoff hsh w_A76 w_A77 w_A78 w_A79 w_A80 w_A81 w_A82 w_A83 w_A84 w_A85 w_A86 w_A87 w_A88 w_A89 w_A90 w_A91 w_A92 w_A93 w_A94 w_A95 w_A96 w_A100 w_A101 w_A102 hoffa ls (lv_sub hl [0, 1, 2, 3] rfl) hs1 hW hS
              · rw [if_neg c51] at hs1
                refine lv_iload_n hx hb dX12_every_78 rfl (lv_at hl 3 rfl) ?_
                refine lv_istore_n (lv' := [(2, .int v3k8), (0, .ref (q 69)), (1, .int p1), (3, .int v3k8)]) hx hb dX12_every_79 rfl hl (by decide) rfl (fun ls hl => ?_)
                exact hJ80_1 v3k8 v3k8 m a _ _ w_x69_18 w_x69_19 w_x69_20 w_x69_21 w_x69_22 w_x69_27 w_x69_35 w_x69_43 w_x69_44 w_x69_45 w_x69_55 hoff hsh w_A76 w_A77 w_A78 w_A79 w_A80 w_A81 w_A82 w_A83 w_A84 w_A85 w_A86 w_A87 w_A88 w_A89 w_A90 w_A91 w_A92 w_A93 w_A94 w_A95 w_A96 w_A100 w_A101 w_A102 hoffa ls (lv_sub hl [1, 2, 0, 3] rfl) hs1 hW hS
        exact hL1 F 0 1 m7 a7 _ _ w_x69_18 w_x69_19 w_x69_20 w_x69_21 w_x69_22 w_x69_27 w_x69_35 w_x69_43 w_x69_44 w_x69_45 w_x69_55 hoff hsh w_A76 w_A77 w_A78 w_A79 w_A80 w_A81 w_A82 w_A83 w_A84 w_A85 w_A86 w_A87 w_A88 w_A89 w_A90 w_A91 w_A92 w_A93 w_A94 w_A95 w_A96 w_A100 w_A101 w_A102 hoffa ls (lv_sub hl [2, 3, 1, 0] rfl) hg8 hW hS
      · rw [if_pos c6] at hs0
        refine lv_aload_n hx hb dX12_every_32 rfl (lv_at hl 0 rfl) ?_
        refine gf12_27 hx hb hG hown hW (o := 69) (ltN hN 69 rfl) gk69 (v := .int r4.2.2.2.2.2.1) w_x69_27 gx713 dX12_every_33 ?_
        have hs0 := Option.some.inj hs0
        subst hs0
        exact W.zret hx hb hr rfl (fun t ht hw => ⟨⟨_, (m4, a4), rfl, ⟨rfl, w_x69_18, w_x69_19, w_x69_20, w_x69_21, w_x69_22, w_x69_27, w_x69_35, w_x69_43, w_x69_44, w_x69_45, w_x69_55, hoff, w_A76, w_A77, w_A78, w_A79, w_A80, w_A81, w_A82, w_A83, w_A84, w_A85, w_A86, w_A87, w_A88, w_A89, w_A90, w_A91, w_A92, w_A93, w_A94, w_A95, w_A96, w_A100, w_A101, w_A102, hoffa⟩, g_end hW ht hw⟩, hS.F ht⟩) hS.2.2 dX12_every_36 hlocks
    · rw [if_pos c5] at hs0
      refine lv_bipush (v := (-3)) hx hb dX12_every_24 (by decide) ?_
      have hs0 := Option.some.inj hs0
      subst hs0
      exact W.zret hx hb hr rfl (fun t ht hw => ⟨⟨_, (m4, a4), rfl, ⟨rfl, w_x69_18, w_x69_19, w_x69_20, w_x69_21, w_x69_22, w_x69_27, w_x69_35, w_x69_43, w_x69_44, w_x69_45, w_x69_55, hoff, w_A76, w_A77, w_A78, w_A79, w_A80, w_A81, w_A82, w_A83, w_A84, w_A85, w_A86, w_A87, w_A88, w_A89, w_A90, w_A91, w_A92, w_A93, w_A94, w_A95, w_A96, w_A100, w_A101, w_A102, hoffa⟩, g_end hW ht hw⟩, hS.F ht⟩) hS.2.2 dX12_every_26 hlocks
  · rw [if_pos c3] at hs0
    refine lv_iconst (v := (-1)) hx hb dX12_every_15 (by decide) ?_
    have hs0 := Option.some.inj hs0
    subst hs0
    exact W.zret hx hb hr rfl (fun t ht hw => ⟨⟨_, (m1, a0), rfl, ⟨rfl, w_x69_18, w_x69_19, w_x69_20, w_x69_21, w_x69_22, w_x69_27, w_x69_35, w_x69_43, w_x69_44, w_x69_45, w_x69_55, hoff, h_A76, h_A77, h_A78, h_A79, h_A80, h_A81, h_A82, h_A83, h_A84, h_A85, h_A86, h_A87, h_A88, h_A89, h_A90, h_A91, h_A92, h_A93, h_A94, h_A95, h_A96, h_A100, h_A101, h_A102, hoffa⟩, g_end hW ht hw⟩, hS.F ht⟩) hS.2.2 dX12_every_16 hlocks
