/-! 39.enough (by program): the pure function of each method, its rows, its contract -/
-- HealLink$Survey.leastAcks (LHealLink$Rules;J)I
def fX9_leastAcks_J140 (F : Nat) (xkr_0 : Int32) (xkr_1 : Int32) (xkr_2 : Int32) (xkr_3 : Int32) (v2 : Int64) (v4 : Int32) (x27_6 : Int64) (x27_9 : Int64) (x27_10j19 : Int32) (x28_2j19 : Int32) (x28_3j19 : Int32) (x31_1j19 : Int32) (x31_2j19 : Int32) (x42_6j19 : Int32) (x42_7j19 : Int32) (A30j19 : Nat → Int32) (A33j19 : Nat → Int32) (A35j19 : Nat → Int32) (A37j19 : Nat → Int32) (A38j19 : Nat → Int64) (A44j19 : Nat → Int32) (A46j19 : Nat → Int32) (A48j19 : Nat → Int32) (A50j19 : Nat → Int32) (A52j19 : Nat → Int32) (A54j19 : Nat → Int32) : Option ((Int32 × Int32 × Int32 × Int32 × Int32 × Int32 × Int32 × (Nat → Int32) × (Nat → Int32) × (Nat → Int32) × (Nat → Int32) × (Nat → Int64) × (Nat → Int32) × (Nat → Int32) × (Nat → Int32) × (Nat → Int32) × (Nat → Int32) × (Nat → Int32)) ⊕ (Int32 × Int32 × Int32 × Int32 × Int32 × Int32 × Int32 × Int32 × (Nat → Int32) × (Nat → Int32) × (Nat → Int32) × (Nat → Int32) × (Nat → Int64) × (Nat → Int32) × (Nat → Int32) × (Nat → Int32) × (Nat → Int32) × (Nat → Int32) × (Nat → Int32))) := some (Sum.inr (v4 + 1, x27_10j19, x28_2j19, x28_3j19, x31_1j19, x31_2j19, x42_6j19, x42_7j19, A30j19, A33j19, A35j19, A37j19, A38j19, A44j19, A46j19, A48j19, A50j19, A52j19, A54j19))
def fX9_leastAcks_J137 (F : Nat) (xkr_0 : Int32) (xkr_1 : Int32) (xkr_2 : Int32) (xkr_3 : Int32) (v2 : Int64) (v4 : Int32) (s0j17 : Int32) (x27_6 : Int64) (x27_9 : Int64) (x27_10j17 : Int32) (x28_2j17 : Int32) (x28_3j17 : Int32) (x31_1j17 : Int32) (x31_2j17 : Int32) (x42_6j17 : Int32) (x42_7j17 : Int32) (A30j17 : Nat → Int32) (A33j17 : Nat → Int32) (A35j17 : Nat → Int32) (A37j17 : Nat → Int32) (A38j17 : Nat → Int64) (A44j17 : Nat → Int32) (A46j17 : Nat → Int32) (A48j17 : Nat → Int32) (A50j17 : Nat → Int32) (A52j17 : Nat → Int32) (A54j17 : Nat → Int32) : Option ((Int32 × Int32 × Int32 × Int32 × Int32 × Int32 × Int32 × (Nat → Int32) × (Nat → Int32) × (Nat → Int32) × (Nat → Int32) × (Nat → Int64) × (Nat → Int32) × (Nat → Int32) × (Nat → Int32) × (Nat → Int32) × (Nat → Int32) × (Nat → Int32)) ⊕ (Int32 × Int32 × Int32 × Int32 × Int32 × Int32 × Int32 × Int32 × (Nat → Int32) × (Nat → Int32) × (Nat → Int32) × (Nat → Int32) × (Nat → Int64) × (Nat → Int32) × (Nat → Int32) × (Nat → Int32) × (Nat → Int32) × (Nat → Int32) × (Nat → Int32))) := fX9_leastAcks_J140 F xkr_0 xkr_1 xkr_2 xkr_3 v2 v4 x27_6 x27_9 s0j17 x28_2j17 x28_3j17 x31_1j17 x31_2j17 x42_6j17 x42_7j17 A30j17 A33j17 A35j17 A37j17 A38j17 A44j17 A46j17 A48j17 A50j17 A52j17 A54j17
def fX9_leastAcks_J66 (F : Nat) (xkr_0 : Int32) (xkr_1 : Int32) (xkr_2 : Int32) (xkr_3 : Int32) (v2 : Int64) (v4 : Int32) (s0j11 : Int64) (x27_6 : Int64) (x27_9 : Int64) (x27_10j11 : Int32) (x28_2j11 : Int32) (x28_3j11 : Int32) (x31_1j11 : Int32) (x31_2j11 : Int32) (x42_6j11 : Int32) (x42_7j11 : Int32) (A30j11 : Nat → Int32) (A33j11 : Nat → Int32) (A35j11 : Nat → Int32) (A37j11 : Nat → Int32) (A38j11 : Nat → Int64) (A44j11 : Nat → Int32) (A46j11 : Nat → Int32) (A48j11 : Nat → Int32) (A50j11 : Nat → Int32) (A52j11 : Nat → Int32) (A54j11 : Nat → Int32) : Option ((Int32 × Int32 × Int32 × Int32 × Int32 × Int32 × Int32 × (Nat → Int32) × (Nat → Int32) × (Nat → Int32) × (Nat → Int32) × (Nat → Int64) × (Nat → Int32) × (Nat → Int32) × (Nat → Int32) × (Nat → Int32) × (Nat → Int32) × (Nat → Int32)) ⊕ (Int32 × Int32 × Int32 × Int32 × Int32 × Int32 × Int32 × Int32 × (Nat → Int32) × (Nat → Int32) × (Nat → Int32) × (Nat → Int32) × (Nat → Int64) × (Nat → Int32) × (Nat → Int32) × (Nat → Int32) × (Nat → Int32) × (Nat → Int32) × (Nat → Int32))) := ((fX1_chart F xkr_0 xkr_1 v4 xkr_3 x28_2j11 x28_3j11 x31_1j11 x31_2j11 A30j11 A33j11 A35j11 A37j11 A38j11 s0j11).bind (fun r12 => (if r12.2.1 = 0 then fX9_leastAcks_J140 F xkr_0 xkr_1 xkr_2 xkr_3 v2 v4 x27_6 x27_9 (-3) r12.1 r12.2.1 r12.2.2.1 r12.2.2.2.1 x42_6j11 x42_7j11 r12.2.2.2.2.1 r12.2.2.2.2.2.1 r12.2.2.2.2.2.2.1 r12.2.2.2.2.2.2.2.1 r12.2.2.2.2.2.2.2.2 A44j11 A46j11 A48j11 A50j11 A52j11 A54j11 else ((fX4_measure F r12.1 r12.2.2.2.2.1 r12.2.2.2.2.2.2.1 x42_6j11 x42_7j11 A44j11 A46j11 A48j11 A50j11 A52j11 A54j11).bind (fun r14 => (if (cAt 6000 r14.2.2.1 0) = (-2) then fX9_leastAcks_J137 F xkr_0 xkr_1 xkr_2 xkr_3 v2 v4 (-1) x27_6 x27_9 x27_10j11 r12.1 r12.2.1 r12.2.2.1 r12.2.2.2.1 r14.1 r14.2.1 r12.2.2.2.2.1 r12.2.2.2.2.2.1 r12.2.2.2.2.2.2.1 r12.2.2.2.2.2.2.2.1 r12.2.2.2.2.2.2.2.2 r14.2.2.1 r14.2.2.2.1 r14.2.2.2.2.1 r14.2.2.2.2.2.1 r14.2.2.2.2.2.2.1 r14.2.2.2.2.2.2.2 else fX9_leastAcks_J137 F xkr_0 xkr_1 xkr_2 xkr_3 v2 v4 v4 x27_6 x27_9 x27_10j11 r12.1 r12.2.1 r12.2.2.1 r12.2.2.2.1 r14.1 r14.2.1 r12.2.2.2.2.1 r12.2.2.2.2.2.1 r12.2.2.2.2.2.2.1 r12.2.2.2.2.2.2.2.1 r12.2.2.2.2.2.2.2.2 r14.2.2.1 r14.2.2.2.1 r14.2.2.2.2.1 r14.2.2.2.2.2.1 r14.2.2.2.2.2.2.1 r14.2.2.2.2.2.2.2))))))
def fX9_leastAcks_S34 (F : Nat) (xkr_0 : Int32) (xkr_1 : Int32) (xkr_2 : Int32) (xkr_3 : Int32) (v2 : Int64) (x27_6 : Int64) (x27_9 : Int64) (v4 : Int32) (x27_10 : Int32) (x28_2 : Int32) (x28_3 : Int32) (x31_1 : Int32) (x31_2 : Int32) (x42_6 : Int32) (x42_7 : Int32) (A30 : Nat → Int32) (A33 : Nat → Int32) (A35 : Nat → Int32) (A37 : Nat → Int32) (A38 : Nat → Int64) (A44 : Nat → Int32) (A46 : Nat → Int32) (A48 : Nat → Int32) (A50 : Nat → Int32) (A52 : Nat → Int32) (A54 : Nat → Int32) : Option ((Int32 × Int32 × Int32 × Int32 × Int32 × Int32 × Int32 × (Nat → Int32) × (Nat → Int32) × (Nat → Int32) × (Nat → Int32) × (Nat → Int64) × (Nat → Int32) × (Nat → Int32) × (Nat → Int32) × (Nat → Int32) × (Nat → Int32) × (Nat → Int32)) ⊕ (Int32 × Int32 × Int32 × Int32 × Int32 × Int32 × Int32 × Int32 × (Nat → Int32) × (Nat → Int32) × (Nat → Int32) × (Nat → Int32) × (Nat → Int64) × (Nat → Int32) × (Nat → Int32) × (Nat → Int32) × (Nat → Int32) × (Nat → Int32) × (Nat → Int32))) := (if 7 < v4 then some (Sum.inl (x27_10, x28_2, x28_3, x31_1, x31_2, x42_6, x42_7, A30, A33, A35, A37, A38, A44, A46, A48, A50, A52, A54)) else (if x27_10 = (-1) then (if v4 ≤ (fX7_acksOf v2) then fX9_leastAcks_J66 F xkr_0 xkr_1 xkr_2 xkr_3 v2 v4 (fX7_withoutAcks v2) x27_6 x27_9 x27_10 x28_2 x28_3 x31_1 x31_2 x42_6 x42_7 A30 A33 A35 A37 A38 A44 A46 A48 A50 A52 A54 else fX9_leastAcks_J66 F xkr_0 xkr_1 xkr_2 xkr_3 v2 v4 v2 x27_6 x27_9 x27_10 x28_2 x28_3 x31_1 x31_2 x42_6 x42_7 A30 A33 A35 A37 A38 A44 A46 A48 A50 A52 A54) else some (Sum.inl (x27_10, x28_2, x28_3, x31_1, x31_2, x42_6, x42_7, A30, A33, A35, A37, A38, A44, A46, A48, A50, A52, A54))))
def fX9_leastAcks (F : Nat) (xkr_0 : Int32) (xkr_1 : Int32) (xkr_2 : Int32) (xkr_3 : Int32) (x27_6 : Int64) (x27_9 : Int64) (x27_10 : Int32) (x28_2 : Int32) (x28_3 : Int32) (x31_1 : Int32) (x31_2 : Int32) (x42_6 : Int32) (x42_7 : Int32) (A30 : Nat → Int32) (A33 : Nat → Int32) (A35 : Nat → Int32) (A37 : Nat → Int32) (A38 : Nat → Int64) (A44 : Nat → Int32) (A46 : Nat → Int32) (A48 : Nat → Int32) (A50 : Nat → Int32) (A52 : Nat → Int32) (A54 : Nat → Int32) (p2 : Int64) : Option (Int32 × Int64 × Int64 × Int32 × Int32 × Int32 × Int32 × Int32 × Int32 × Int32 × (Nat → Int32) × (Nat → Int32) × (Nat → Int32) × (Nat → Int32) × (Nat → Int64) × (Nat → Int32) × (Nat → Int32) × (Nat → Int32) × (Nat → Int32) × (Nat → Int32) × (Nat → Int32)) := (if (lg_cmp x27_9 p2) = 0 then some (x27_10, x27_6, x27_9, x27_10, x28_2, x28_3, x31_1, x31_2, x42_6, x42_7, A30, A33, A35, A37, A38, A44, A46, A48, A50, A52, A54) else (gloop (fun u5 : (Int32 × Int32 × Int32 × Int32 × Int32 × Int32 × Int32 × Int32 × (Nat → Int32) × (Nat → Int32) × (Nat → Int32) × (Nat → Int32) × (Nat → Int64) × (Nat → Int32) × (Nat → Int32) × (Nat → Int32) × (Nat → Int32) × (Nat → Int32) × (Nat → Int32)) => fX9_leastAcks_S34 F xkr_0 xkr_1 xkr_2 xkr_3 p2 (-1) p2 u5.1 u5.2.1 u5.2.2.1 u5.2.2.2.1 u5.2.2.2.2.1 u5.2.2.2.2.2.1 u5.2.2.2.2.2.2.1 u5.2.2.2.2.2.2.2.1 u5.2.2.2.2.2.2.2.2.1 u5.2.2.2.2.2.2.2.2.2.1 u5.2.2.2.2.2.2.2.2.2.2.1 u5.2.2.2.2.2.2.2.2.2.2.2.1 u5.2.2.2.2.2.2.2.2.2.2.2.2.1 u5.2.2.2.2.2.2.2.2.2.2.2.2.2.1 u5.2.2.2.2.2.2.2.2.2.2.2.2.2.2.1 u5.2.2.2.2.2.2.2.2.2.2.2.2.2.2.2.1 u5.2.2.2.2.2.2.2.2.2.2.2.2.2.2.2.2.1 u5.2.2.2.2.2.2.2.2.2.2.2.2.2.2.2.2.2.1 u5.2.2.2.2.2.2.2.2.2.2.2.2.2.2.2.2.2.2) F (1, (-1), x28_2, x28_3, x31_1, x31_2, x42_6, x42_7, A30, A33, A35, A37, A38, A44, A46, A48, A50, A52, A54)).bind (fun t5_146 => some (t5_146.1, (-1), p2, t5_146.1, t5_146.2.1, t5_146.2.2.1, t5_146.2.2.2.1, t5_146.2.2.2.2.1, t5_146.2.2.2.2.2.1, t5_146.2.2.2.2.2.2.1, t5_146.2.2.2.2.2.2.2.1, t5_146.2.2.2.2.2.2.2.2.1, t5_146.2.2.2.2.2.2.2.2.2.1, t5_146.2.2.2.2.2.2.2.2.2.2.1, t5_146.2.2.2.2.2.2.2.2.2.2.2.1, t5_146.2.2.2.2.2.2.2.2.2.2.2.2.1, t5_146.2.2.2.2.2.2.2.2.2.2.2.2.2.1, t5_146.2.2.2.2.2.2.2.2.2.2.2.2.2.2.1, t5_146.2.2.2.2.2.2.2.2.2.2.2.2.2.2.2.1, t5_146.2.2.2.2.2.2.2.2.2.2.2.2.2.2.2.2.1, t5_146.2.2.2.2.2.2.2.2.2.2.2.2.2.2.2.2.2)))
theorem dX9_leastAcks_0 : decode cX9_leastAcks 0 = .ok (.aload_n 0, 1) := by decide +kernel
theorem dX9_leastAcks_1 : decode cX9_leastAcks 1 = .ok (.getfield 54, 3) := by decide +kernel
theorem dX9_leastAcks_4 : decode cX9_leastAcks 4 = .ok (.lload_n 2, 1) := by decide +kernel
theorem dX9_leastAcks_5 : decode cX9_leastAcks 5 = .ok (.lcmp, 1) := by decide +kernel
theorem dX9_leastAcks_6 : decode cX9_leastAcks 6 = .ok (.ifCond .ne 8, 3) := by decide +kernel
theorem dX9_leastAcks_9 : decode cX9_leastAcks 9 = .ok (.aload_n 0, 1) := by decide +kernel
theorem dX9_leastAcks_10 : decode cX9_leastAcks 10 = .ok (.getfield 133, 3) := by decide +kernel
theorem dX9_leastAcks_13 : decode cX9_leastAcks 13 = .ok (.ireturn, 1) := by decide +kernel
theorem dX9_leastAcks_14 : decode cX9_leastAcks 14 = .ok (.aload_n 0, 1) := by decide +kernel
theorem dX9_leastAcks_15 : decode cX9_leastAcks 15 = .ok (.lload_n 2, 1) := by decide +kernel
theorem dX9_leastAcks_16 : decode cX9_leastAcks 16 = .ok (.putfield 54, 3) := by decide +kernel
theorem dX9_leastAcks_19 : decode cX9_leastAcks 19 = .ok (.aload_n 0, 1) := by decide +kernel
theorem dX9_leastAcks_20 : decode cX9_leastAcks 20 = .ok (.ldc2_w 48, 3) := by decide +kernel
theorem dX9_leastAcks_23 : decode cX9_leastAcks 23 = .ok (.putfield 50, 3) := by decide +kernel
theorem dX9_leastAcks_26 : decode cX9_leastAcks 26 = .ok (.aload_n 0, 1) := by decide +kernel
theorem dX9_leastAcks_27 : decode cX9_leastAcks 27 = .ok (.iconst (-1), 1) := by decide +kernel
theorem dX9_leastAcks_28 : decode cX9_leastAcks 28 = .ok (.putfield 133, 3) := by decide +kernel
theorem dX9_leastAcks_31 : decode cX9_leastAcks 31 = .ok (.iconst 1, 1) := by decide +kernel
theorem dX9_leastAcks_32 : decode cX9_leastAcks 32 = .ok (.istore 4, 2) := by decide +kernel
theorem dX9_leastAcks_34 : decode cX9_leastAcks 34 = .ok (.iload 4, 2) := by decide +kernel
theorem dX9_leastAcks_36 : decode cX9_leastAcks 36 = .ok (.bipush 7, 2) := by decide +kernel
theorem dX9_leastAcks_38 : decode cX9_leastAcks 38 = .ok (.if_icmp .gt 108, 3) := by decide +kernel
theorem dX9_leastAcks_41 : decode cX9_leastAcks 41 = .ok (.aload_n 0, 1) := by decide +kernel
theorem dX9_leastAcks_42 : decode cX9_leastAcks 42 = .ok (.getfield 133, 3) := by decide +kernel
theorem dX9_leastAcks_45 : decode cX9_leastAcks 45 = .ok (.iconst (-1), 1) := by decide +kernel
theorem dX9_leastAcks_46 : decode cX9_leastAcks 46 = .ok (.if_icmp .ne 100, 3) := by decide +kernel
theorem dX9_leastAcks_49 : decode cX9_leastAcks 49 = .ok (.lload_n 2, 1) := by decide +kernel
theorem dX9_leastAcks_50 : decode cX9_leastAcks 50 = .ok (.invokestatic 136, 3) := by decide +kernel
theorem dX9_leastAcks_53 : decode cX9_leastAcks 53 = .ok (.iload 4, 2) := by decide +kernel
theorem dX9_leastAcks_55 : decode cX9_leastAcks 55 = .ok (.if_icmp .ge 7, 3) := by decide +kernel
theorem dX9_leastAcks_58 : decode cX9_leastAcks 58 = .ok (.lload_n 2, 1) := by decide +kernel
theorem dX9_leastAcks_59 : decode cX9_leastAcks 59 = .ok (.goto 7, 3) := by decide +kernel
theorem dX9_leastAcks_62 : decode cX9_leastAcks 62 = .ok (.lload_n 2, 1) := by decide +kernel
theorem dX9_leastAcks_63 : decode cX9_leastAcks 63 = .ok (.invokestatic 142, 3) := by decide +kernel
theorem dX9_leastAcks_66 : decode cX9_leastAcks 66 = .ok (.lstore 5, 2) := by decide +kernel
theorem dX9_leastAcks_68 : decode cX9_leastAcks 68 = .ok (.aload_n 0, 1) := by decide +kernel
theorem dX9_leastAcks_69 : decode cX9_leastAcks 69 = .ok (.getfield 12, 3) := by decide +kernel
theorem dX9_leastAcks_72 : decode cX9_leastAcks 72 = .ok (.aload_n 1, 1) := by decide +kernel
theorem dX9_leastAcks_73 : decode cX9_leastAcks 73 = .ok (.iconst 2, 1) := by decide +kernel
theorem dX9_leastAcks_74 : decode cX9_leastAcks 74 = .ok (.iload 4, 2) := by decide +kernel
theorem dX9_leastAcks_76 : decode cX9_leastAcks 76 = .ok (.invokevirtual 146, 3) := by decide +kernel
theorem dX9_leastAcks_79 : decode cX9_leastAcks 79 = .ok (.lload 5, 2) := by decide +kernel
theorem dX9_leastAcks_81 : decode cX9_leastAcks 81 = .ok (.invokevirtual 61, 3) := by decide +kernel
theorem dX9_leastAcks_84 : decode cX9_leastAcks 84 = .ok (.aload_n 0, 1) := by decide +kernel
theorem dX9_leastAcks_85 : decode cX9_leastAcks 85 = .ok (.getfield 12, 3) := by decide +kernel
theorem dX9_leastAcks_88 : decode cX9_leastAcks 88 = .ok (.getfield 71, 3) := by decide +kernel
theorem dX9_leastAcks_91 : decode cX9_leastAcks 91 = .ok (.ifCond .ne 12, 3) := by decide +kernel
theorem dX9_leastAcks_94 : decode cX9_leastAcks 94 = .ok (.aload_n 0, 1) := by decide +kernel
theorem dX9_leastAcks_95 : decode cX9_leastAcks 95 = .ok (.bipush (-3), 2) := by decide +kernel
theorem dX9_leastAcks_97 : decode cX9_leastAcks 97 = .ok (.putfield 133, 3) := by decide +kernel
theorem dX9_leastAcks_100 : decode cX9_leastAcks 100 = .ok (.goto 40, 3) := by decide +kernel
theorem dX9_leastAcks_103 : decode cX9_leastAcks 103 = .ok (.aload_n 0, 1) := by decide +kernel
theorem dX9_leastAcks_104 : decode cX9_leastAcks 104 = .ok (.getfield 28, 3) := by decide +kernel
theorem dX9_leastAcks_107 : decode cX9_leastAcks 107 = .ok (.aload_n 0, 1) := by decide +kernel
theorem dX9_leastAcks_108 : decode cX9_leastAcks 108 = .ok (.getfield 12, 3) := by decide +kernel
theorem dX9_leastAcks_111 : decode cX9_leastAcks 111 = .ok (.invokevirtual 74, 3) := by decide +kernel
theorem dX9_leastAcks_114 : decode cX9_leastAcks 114 = .ok (.aload_n 0, 1) := by decide +kernel
theorem dX9_leastAcks_115 : decode cX9_leastAcks 115 = .ok (.aload_n 0, 1) := by decide +kernel
theorem dX9_leastAcks_116 : decode cX9_leastAcks 116 = .ok (.getfield 28, 3) := by decide +kernel
theorem dX9_leastAcks_119 : decode cX9_leastAcks 119 = .ok (.getfield 78, 3) := by decide +kernel
theorem dX9_leastAcks_122 : decode cX9_leastAcks 122 = .ok (.iconst 0, 1) := by decide +kernel
theorem dX9_leastAcks_123 : decode cX9_leastAcks 123 = .ok (.invokevirtual 81, 3) := by decide +kernel
theorem dX9_leastAcks_126 : decode cX9_leastAcks 126 = .ok (.bipush (-2), 2) := by decide +kernel
theorem dX9_leastAcks_128 : decode cX9_leastAcks 128 = .ok (.if_icmp .ne 7, 3) := by decide +kernel
theorem dX9_leastAcks_131 : decode cX9_leastAcks 131 = .ok (.iconst (-1), 1) := by decide +kernel
theorem dX9_leastAcks_132 : decode cX9_leastAcks 132 = .ok (.goto 5, 3) := by decide +kernel
theorem dX9_leastAcks_135 : decode cX9_leastAcks 135 = .ok (.iload 4, 2) := by decide +kernel
theorem dX9_leastAcks_137 : decode cX9_leastAcks 137 = .ok (.putfield 133, 3) := by decide +kernel
theorem dX9_leastAcks_140 : decode cX9_leastAcks 140 = .ok (.iinc 4 1, 3) := by decide +kernel
theorem dX9_leastAcks_143 : decode cX9_leastAcks 143 = .ok (.goto (-109), 3) := by decide +kernel
theorem dX9_leastAcks_146 : decode cX9_leastAcks 146 = .ok (.aload_n 0, 1) := by decide +kernel
theorem dX9_leastAcks_147 : decode cX9_leastAcks 147 = .ok (.getfield 133, 3) := by decide +kernel
theorem dX9_leastAcks_150 : decode cX9_leastAcks 150 = .ok (.ireturn, 1) := by decide +kernel
set_option maxHeartbeats 4000000 in
set_option maxRecDepth 100000 in
theorem kX9_leastAcks {l : Launch} {D : va_G} {cy : Nat → ClassId} {N : Nat} {q : Nat → Nat} {m0 : Nat → Value} {a0 : Nat → vp_A} {sz : Nat} (hN : 105 ≤ N) (hsh : SH q m0) {kr : Nat} (hkr : kr < N) (hgk : gk kr = 7) {xkr_0 : Int32} (h_xkr_0 : m0 (100 * kr + 0) = .int xkr_0) {xkr_1 : Int32} (h_xkr_1 : m0 (100 * kr + 1) = .int xkr_1) {xkr_2 : Int32} (h_xkr_2 : m0 (100 * kr + 2) = .int xkr_2) {xkr_3 : Int32} (h_xkr_3 : m0 (100 * kr + 3) = .int xkr_3) {x27_6 : Int64} (h_x27_6 : m0 2706 = .long x27_6) {x27_9 : Int64} (h_x27_9 : m0 2709 = .long x27_9) {x27_10 : Int32} (h_x27_10 : m0 2710 = .int x27_10) {x28_2 : Int32} (h_x28_2 : m0 2802 = .int x28_2) {x28_3 : Int32} (h_x28_3 : m0 2803 = .int x28_3) {x31_1 : Int32} (h_x31_1 : m0 3101 = .int x31_1) {x31_2 : Int32} (h_x31_2 : m0 3102 = .int x31_2) {x42_6 : Int32} (h_x42_6 : m0 4206 = .int x42_6) {x42_7 : Int32} (h_x42_7 : m0 4207 = .int x42_7) {A30 : Nat → Int32} (h_A30 : a0 30 = (6001, .inl A30)) {A33 : Nat → Int32} (h_A33 : a0 33 = (10, .inl A33)) {A35 : Nat → Int32} (h_A35 : a0 35 = (60000, .inl A35)) {A37 : Nat → Int32} (h_A37 : a0 37 = (16384, .inl A37)) {A38 : Nat → Int64} (h_A38 : a0 38 = (6000, .inr (.inl A38))) {A44 : Nat → Int32} (h_A44 : a0 44 = (6000, .inl A44)) {A46 : Nat → Int32} (h_A46 : a0 46 = (6000, .inl A46)) {A48 : Nat → Int32} (h_A48 : a0 48 = (6000, .inl A48)) {A50 : Nat → Int32} (h_A50 : a0 50 = (6000, .inl A50)) {A52 : Nat → Int32} (h_A52 : a0 52 = (6000, .inl A52)) {A54 : Nat → Int32} (h_A54 : a0 54 = (6000, .inl A54)) (F : Nat) (p2 : Int64) {X0 : Int32 × Int64 × Int64 × Int32 × Int32 × Int32 × Int32 × Int32 × Int32 × Int32 × (Nat → Int32) × (Nat → Int32) × (Nat → Int32) × (Nat → Int32) × (Nat → Int64) × (Nat → Int32) × (Nat → Int32) × (Nat → Int32) × (Nat → Int32) × (Nat → Int32) × (Nat → Int32)} (hs0 : fX9_leastAcks F xkr_0 xkr_1 xkr_2 xkr_3 x27_6 x27_9 x27_10 x28_2 x28_3 x31_1 x31_2 x42_6 x42_7 A30 A33 A35 A37 A38 A44 A46 A48 A50 A52 A54 p2 = some X0) : gMia l yX9_leastAcks cX9_leastAcks 7 (some .int) ({ frames := 6, cells := 7, slots := 28, locals := 147 } : Room) D cy N q m0 a0 sz [.ref (q 27), .ref (q kr), .long p2] 7 28 (fun r m' a' => r = X0.1 ∧ m' 2706 = .long X0.2.1 ∧ m' 2709 = .long X0.2.2.1 ∧ m' 2710 = .int X0.2.2.2.1 ∧ m' 2802 = .int X0.2.2.2.2.1 ∧ m' 2803 = .int X0.2.2.2.2.2.1 ∧ m' 3101 = .int X0.2.2.2.2.2.2.1 ∧ m' 3102 = .int X0.2.2.2.2.2.2.2.1 ∧ m' 4206 = .int X0.2.2.2.2.2.2.2.2.1 ∧ m' 4207 = .int X0.2.2.2.2.2.2.2.2.2.1 ∧ (∀ j, nel j [2706, 2709, 2710, 2802, 2803, 3101, 3102, 4206, 4207] = false → m' j = m0 j) ∧ a' 30 = (6001, .inl X0.2.2.2.2.2.2.2.2.2.2.1) ∧ a' 33 = (10, .inl X0.2.2.2.2.2.2.2.2.2.2.2.1) ∧ a' 35 = (60000, .inl X0.2.2.2.2.2.2.2.2.2.2.2.2.1) ∧ a' 37 = (16384, .inl X0.2.2.2.2.2.2.2.2.2.2.2.2.2.1) ∧ a' 38 = (6000, .inr (.inl X0.2.2.2.2.2.2.2.2.2.2.2.2.2.2.1)) ∧ a' 44 = (6000, .inl X0.2.2.2.2.2.2.2.2.2.2.2.2.2.2.2.1) ∧ a' 46 = (6000, .inl X0.2.2.2.2.2.2.2.2.2.2.2.2.2.2.2.2.1) ∧ a' 48 = (6000, .inl X0.2.2.2.2.2.2.2.2.2.2.2.2.2.2.2.2.2.1) ∧ a' 50 = (6000, .inl X0.2.2.2.2.2.2.2.2.2.2.2.2.2.2.2.2.2.2.1) ∧ a' 52 = (6000, .inl X0.2.2.2.2.2.2.2.2.2.2.2.2.2.2.2.2.2.2.2.1) ∧ a' 54 = (6000, .inl X0.2.2.2.2.2.2.2.2.2.2.2.2.2.2.2.2.2.2.2.2) ∧ (∀ j, nel j [30, 33, 35, 37, 38, 44, 46, 48, 50, 52, 54] = false → a' j = a0 j)) := by
  refine g_ofia (by decide) (Nat.le_of_ble_eq_true rfl) ?_
  intro p e s M args below meth c hx hb hr hG hown hin hlocks hml hW hS ls hl
  unfold fX9_leastAcks at hs0
  have hoff : ∀ j, nel j [2706, 2709, 2710, 2802, 2803, 3101, 3102, 4206, 4207] = false → m0 j = m0 j := off0
  have hoffa : ∀ j, nel j [30, 33, 35, 37, 38, 44, 46, 48, 50, 52, 54] = false → a0 j = a0 j := off0
  refine lv_aload_n hx hb dX9_leastAcks_0 rfl (lv_at hl 0 rfl) ?_
  refine gf9_9 hx hb hG hown hW (o := 27) (ltN hN 27 rfl) gk27 (v := .long x27_9) h_x27_9 gx104 dX9_leastAcks_1 ?_
  refine lv_lload_n hx hb dX9_leastAcks_4 rfl (lv_at hl 2 rfl) ?_
  refine W.lcmp hx hb dX9_leastAcks_5 ?_
  refine lv_if_ne (tgt := 14) hx hb dX9_leastAcks_6 (by decide) (fun c1 => ?_) (fun c1 => ?_)
  · rw [if_neg c1] at hs0
    refine lv_aload_n hx hb dX9_leastAcks_14 rfl (lv_at hl 0 rfl) ?_
    refine lv_lload_n hx hb dX9_leastAcks_15 rfl (lv_at hl 2 rfl) ?_
    refine gp9_9 hx hb hG hown hW hS (o := 27) (ltN hN 27 rfl) gk27 (v := p2) gx104 dX9_leastAcks_16 (fun m2 H locs hm2 ho2 hW hS => ?_)
    have ho2 := off1 ho2
    have w_x27_6 : m2 2706 = .long x27_6 := (ho2 2706 rfl).trans h_x27_6
    have w_x27_9 : m2 2709 = .long p2 := hm2
    have w_x27_10 : m2 2710 = .int x27_10 := (ho2 2710 rfl).trans h_x27_10
    have w_x28_2 : m2 2802 = .int x28_2 := (ho2 2802 rfl).trans h_x28_2
    have w_x28_3 : m2 2803 = .int x28_3 := (ho2 2803 rfl).trans h_x28_3
    have w_x31_1 : m2 3101 = .int x31_1 := (ho2 3101 rfl).trans h_x31_1
    have w_x31_2 : m2 3102 = .int x31_2 := (ho2 3102 rfl).trans h_x31_2
    have w_x42_6 : m2 4206 = .int x42_6 := (ho2 4206 rfl).trans h_x42_6
    have w_x42_7 : m2 4207 = .int x42_7 := (ho2 4207 rfl).trans h_x42_7
    have hoff := offm hoff ho2 (by decide +kernel)
    have hsh := SH.off hsh ho2 (by decide +kernel)
    refine lv_aload_n hx hb dX9_leastAcks_19 rfl (lv_at hl 0 rfl) ?_
    refine lv_ldc2 (v := (-1)) hx hb hown (hG _ gx102) dX9_leastAcks_20 ?_
    refine gp9_6 hx hb hG hown hW hS (o := 27) (ltN hN 27 rfl) gk27 (v := (-1)) gx103 dX9_leastAcks_23 (fun m3 H locs hm3 ho3 hW hS => ?_)
    have ho3 := off1 ho3
    have w_x27_6 : m3 2706 = .long (-1) := hm3
    have w_x27_9 : m3 2709 = .long p2 := (ho3 2709 rfl).trans w_x27_9
    have w_x27_10 : m3 2710 = .int x27_10 := (ho3 2710 rfl).trans w_x27_10
    have w_x28_2 : m3 2802 = .int x28_2 := (ho3 2802 rfl).trans w_x28_2
    have w_x28_3 : m3 2803 = .int x28_3 := (ho3 2803 rfl).trans w_x28_3
    have w_x31_1 : m3 3101 = .int x31_1 := (ho3 3101 rfl).trans w_x31_1
    have w_x31_2 : m3 3102 = .int x31_2 := (ho3 3102 rfl).trans w_x31_2
    have w_x42_6 : m3 4206 = .int x42_6 := (ho3 4206 rfl).trans w_x42_6
    have w_x42_7 : m3 4207 = .int x42_7 := (ho3 4207 rfl).trans w_x42_7
    have hoff := offm hoff ho3 (by decide +kernel)
    have hsh := SH.off hsh ho3 (by decide +kernel)
    refine lv_aload_n hx hb dX9_leastAcks_26 rfl (lv_at hl 0 rfl) ?_
    refine lv_iconst (v := (-1)) hx hb dX9_leastAcks_27 (by decide) ?_
    refine gp9_10 hx hb hG hown hW hS (o := 27) (ltN hN 27 rfl) gk27 (v := (-1)) gx990 dX9_leastAcks_28 (fun m4 H locs hm4 ho4 hW hS => ?_)
    have ho4 := off1 ho4
    have w_x27_6 : m4 2706 = .long (-1) := (ho4 2706 rfl).trans w_x27_6
    have w_x27_9 : m4 2709 = .long p2 := (ho4 2709 rfl).trans w_x27_9
    have w_x27_10 : m4 2710 = .int (-1) := hm4
    have w_x28_2 : m4 2802 = .int x28_2 := (ho4 2802 rfl).trans w_x28_2
    have w_x28_3 : m4 2803 = .int x28_3 := (ho4 2803 rfl).trans w_x28_3
    have w_x31_1 : m4 3101 = .int x31_1 := (ho4 3101 rfl).trans w_x31_1
    have w_x31_2 : m4 3102 = .int x31_2 := (ho4 3102 rfl).trans w_x31_2
    have w_x42_6 : m4 4206 = .int x42_6 := (ho4 4206 rfl).trans w_x42_6
    have w_x42_7 : m4 4207 = .int x42_7 := (ho4 4207 rfl).trans w_x42_7
    have hoff := offm hoff ho4 (by decide +kernel)
    have hsh := SH.off hsh ho4 (by decide +kernel)
    refine lv_iconst (v := 1) hx hb dX9_leastAcks_31 (by decide) ?_
    refine lv_istore (lv' := [(4, .int 1), (0, .ref (q 27)), (1, .ref (q kr)), (2, .long p2)]) hx hb dX9_leastAcks_32 hl (by decide) rfl (fun ls hl => ?_)
    obtain ⟨r5, hg5, hs0⟩ := obind hs0
    have hE1_146 : ∀ (t5_146 : Int32 × Int32 × Int32 × Int32 × Int32 × Int32 × Int32 × (Nat → Int32) × (Nat → Int32) × (Nat → Int32) × (Nat → Int32) × (Nat → Int64) × (Nat → Int32) × (Nat → Int32) × (Nat → Int32) × (Nat → Int32) × (Nat → Int32) × (Nat → Int32)) (hr5 : t5_146 = r5) (m : Nat → Value) (a : Nat → vp_A) (H : Heap) (locs : List Loc) (w_x27_6 : m 2706 = .long (-1)) (w_x27_9 : m 2709 = .long p2) (w_x27_10 : m 2710 = .int t5_146.1) (w_x28_2 : m 2802 = .int t5_146.2.1) (w_x28_3 : m 2803 = .int t5_146.2.2.1) (w_x31_1 : m 3101 = .int t5_146.2.2.2.1) (w_x31_2 : m 3102 = .int t5_146.2.2.2.2.1) (w_x42_6 : m 4206 = .int t5_146.2.2.2.2.2.1) (w_x42_7 : m 4207 = .int t5_146.2.2.2.2.2.2.1) (hoff : ∀ j, nel j [2706, 2709, 2710, 2802, 2803, 3101, 3102, 4206, 4207] = false → m j = m0 j) (hsh : SH q m) (w_A30 : a 30 = (6001, .inl t5_146.2.2.2.2.2.2.2.1)) (w_A33 : a 33 = (10, .inl t5_146.2.2.2.2.2.2.2.2.1)) (w_A35 : a 35 = (60000, .inl t5_146.2.2.2.2.2.2.2.2.2.1)) (w_A37 : a 37 = (16384, .inl t5_146.2.2.2.2.2.2.2.2.2.2.1)) (w_A38 : a 38 = (6000, .inr (.inl t5_146.2.2.2.2.2.2.2.2.2.2.2.1))) (w_A44 : a 44 = (6000, .inl t5_146.2.2.2.2.2.2.2.2.2.2.2.2.1)) (w_A46 : a 46 = (6000, .inl t5_146.2.2.2.2.2.2.2.2.2.2.2.2.2.1)) (w_A48 : a 48 = (6000, .inl t5_146.2.2.2.2.2.2.2.2.2.2.2.2.2.2.1)) (w_A50 : a 50 = (6000, .inl t5_146.2.2.2.2.2.2.2.2.2.2.2.2.2.2.2.1)) (w_A52 : a 52 = (6000, .inl t5_146.2.2.2.2.2.2.2.2.2.2.2.2.2.2.2.2.1)) (w_A54 : a 54 = (6000, .inl t5_146.2.2.2.2.2.2.2.2.2.2.2.2.2.2.2.2.2)) (hoffa : ∀ j, nel j [30, 33, 35, 37, 38, 44, 46, 48, 50, 52, 54] = false → a j = a0 j) (ls : Array Slot) (hl : lv_has ls 7 [(0, .ref (q 27))]) (hW : GW D cy (gA N q s.heap.size) N q m a s H) (hS : va_S (gA N q s.heap.size) s.heap H locs), W p l e ({ frames := 6, cells := 7, slots := 28, locals := 147 } : Room) s M args below meth c H locs 7 28 (MQ below (va_Qi (fun (r : Int32) (u : (Nat → Value) × (Nat → vp_A)) => r = X0.1 ∧ u.1 2706 = .long X0.2.1 ∧ u.1 2709 = .long X0.2.2.1 ∧ u.1 2710 = .int X0.2.2.2.1 ∧ u.1 2802 = .int X0.2.2.2.2.1 ∧ u.1 2803 = .int X0.2.2.2.2.2.1 ∧ u.1 3101 = .int X0.2.2.2.2.2.2.1 ∧ u.1 3102 = .int X0.2.2.2.2.2.2.2.1 ∧ u.1 4206 = .int X0.2.2.2.2.2.2.2.2.1 ∧ u.1 4207 = .int X0.2.2.2.2.2.2.2.2.2.1 ∧ (∀ j, nel j [2706, 2709, 2710, 2802, 2803, 3101, 3102, 4206, 4207] = false → u.1 j = m0 j) ∧ u.2 30 = (6001, .inl X0.2.2.2.2.2.2.2.2.2.2.1) ∧ u.2 33 = (10, .inl X0.2.2.2.2.2.2.2.2.2.2.2.1) ∧ u.2 35 = (60000, .inl X0.2.2.2.2.2.2.2.2.2.2.2.2.1) ∧ u.2 37 = (16384, .inl X0.2.2.2.2.2.2.2.2.2.2.2.2.2.1) ∧ u.2 38 = (6000, .inr (.inl X0.2.2.2.2.2.2.2.2.2.2.2.2.2.2.1)) ∧ u.2 44 = (6000, .inl X0.2.2.2.2.2.2.2.2.2.2.2.2.2.2.2.1) ∧ u.2 46 = (6000, .inl X0.2.2.2.2.2.2.2.2.2.2.2.2.2.2.2.2.1) ∧ u.2 48 = (6000, .inl X0.2.2.2.2.2.2.2.2.2.2.2.2.2.2.2.2.2.1) ∧ u.2 50 = (6000, .inl X0.2.2.2.2.2.2.2.2.2.2.2.2.2.2.2.2.2.2.1) ∧ u.2 52 = (6000, .inl X0.2.2.2.2.2.2.2.2.2.2.2.2.2.2.2.2.2.2.2.1) ∧ u.2 54 = (6000, .inl X0.2.2.2.2.2.2.2.2.2.2.2.2.2.2.2.2.2.2.2.2) ∧ (∀ j, nel j [30, 33, 35, 37, 38, 44, 46, 48, 50, 52, 54] = false → u.2 j = a0 j)) (gB D cy N q s.heap.size) (gA N q s.heap.size)) args s 7 28 (gA N q s.heap.size)) (F0 M 146 ls []) := by
      intro t5_146 hr5 m a H locs w_x27_6 w_x27_9 w_x27_10 w_x28_2 w_x28_3 w_x31_1 w_x31_2 w_x42_6 w_x42_7 hoff hsh w_A30 w_A33 w_A35 w_A37 w_A38 w_A44 w_A46 w_A48 w_A50 w_A52 w_A54 hoffa ls hl hW hS
      subst hr5
      refine lv_aload_n hx hb dX9_leastAcks_146 rfl (lv_at hl 0 rfl) ?_
      refine gf9_10 hx hb hG hown hW (o := 27) (ltN hN 27 rfl) gk27 (v := .int t5_146.1) w_x27_10 gx990 dX9_leastAcks_147 ?_
      have hs0 := Option.some.inj hs0
      subst hs0
      refine W.widen (k := 7) (n := 28) (Nat.le_of_ble_eq_true rfl) (Nat.le_of_ble_eq_true rfl) ?_
      exact W.zret hx hb hr rfl (fun t ht hw => ⟨⟨_, (m, a), rfl, ⟨rfl, w_x27_6, w_x27_9, w_x27_10, w_x28_2, w_x28_3, w_x31_1, w_x31_2, w_x42_6, w_x42_7, hoff, w_A30, w_A33, w_A35, w_A37, w_A38, w_A44, w_A46, w_A48, w_A50, w_A52, w_A54, hoffa⟩, g_end hW ht hw⟩, hS.F ht⟩) hS.2.2 dX9_leastAcks_150 hlocks
    have hL1 : ∀ (n : Nat) (v4k5 : Int32) (x27_10k5 : Int32) (x28_2k5 : Int32) (x28_3k5 : Int32) (x31_1k5 : Int32) (x31_2k5 : Int32) (x42_6k5 : Int32) (x42_7k5 : Int32) (A30k5 : Nat → Int32) (A33k5 : Nat → Int32) (A35k5 : Nat → Int32) (A37k5 : Nat → Int32) (A38k5 : Nat → Int64) (A44k5 : Nat → Int32) (A46k5 : Nat → Int32) (A48k5 : Nat → Int32) (A50k5 : Nat → Int32) (A52k5 : Nat → Int32) (A54k5 : Nat → Int32) (kc : Nat) (hkc : v4k5 = nI (kc + 1)) (hk7 : kc ≤ 7) (m : Nat → Value) (a : Nat → vp_A) (H : Heap) (locs : List Loc) (w_x27_6 : m 2706 = .long (-1)) (w_x27_9 : m 2709 = .long p2) (w_x27_10 : m 2710 = .int x27_10k5) (w_x28_2 : m 2802 = .int x28_2k5) (w_x28_3 : m 2803 = .int x28_3k5) (w_x31_1 : m 3101 = .int x31_1k5) (w_x31_2 : m 3102 = .int x31_2k5) (w_x42_6 : m 4206 = .int x42_6k5) (w_x42_7 : m 4207 = .int x42_7k5) (hoff : ∀ j, nel j [2706, 2709, 2710, 2802, 2803, 3101, 3102, 4206, 4207] = false → m j = m0 j) (hsh : SH q m) (w_A30 : a 30 = (6001, .inl A30k5)) (w_A33 : a 33 = (10, .inl A33k5)) (w_A35 : a 35 = (60000, .inl A35k5)) (w_A37 : a 37 = (16384, .inl A37k5)) (w_A38 : a 38 = (6000, .inr (.inl A38k5))) (w_A44 : a 44 = (6000, .inl A44k5)) (w_A46 : a 46 = (6000, .inl A46k5)) (w_A48 : a 48 = (6000, .inl A48k5)) (w_A50 : a 50 = (6000, .inl A50k5)) (w_A52 : a 52 = (6000, .inl A52k5)) (w_A54 : a 54 = (6000, .inl A54k5)) (hoffa : ∀ j, nel j [30, 33, 35, 37, 38, 44, 46, 48, 50, 52, 54] = false → a j = a0 j) (ls : Array Slot) (hl : lv_has ls 7 [(0, .ref (q 27)), (1, .ref (q kr)), (2, .long p2), (4, .int v4k5)]) (hg5 : gloop (fun u5 : (Int32 × Int32 × Int32 × Int32 × Int32 × Int32 × Int32 × Int32 × (Nat → Int32) × (Nat → Int32) × (Nat → Int32) × (Nat → Int32) × (Nat → Int64) × (Nat → Int32) × (Nat → Int32) × (Nat → Int32) × (Nat → Int32) × (Nat → Int32) × (Nat → Int32)) => fX9_leastAcks_S34 F xkr_0 xkr_1 xkr_2 xkr_3 p2 (-1) p2 u5.1 u5.2.1 u5.2.2.1 u5.2.2.2.1 u5.2.2.2.2.1 u5.2.2.2.2.2.1 u5.2.2.2.2.2.2.1 u5.2.2.2.2.2.2.2.1 u5.2.2.2.2.2.2.2.2.1 u5.2.2.2.2.2.2.2.2.2.1 u5.2.2.2.2.2.2.2.2.2.2.1 u5.2.2.2.2.2.2.2.2.2.2.2.1 u5.2.2.2.2.2.2.2.2.2.2.2.2.1 u5.2.2.2.2.2.2.2.2.2.2.2.2.2.1 u5.2.2.2.2.2.2.2.2.2.2.2.2.2.2.1 u5.2.2.2.2.2.2.2.2.2.2.2.2.2.2.2.1 u5.2.2.2.2.2.2.2.2.2.2.2.2.2.2.2.2.1 u5.2.2.2.2.2.2.2.2.2.2.2.2.2.2.2.2.2.1 u5.2.2.2.2.2.2.2.2.2.2.2.2.2.2.2.2.2.2) n (v4k5, x27_10k5, x28_2k5, x28_3k5, x31_1k5, x31_2k5, x42_6k5, x42_7k5, A30k5, A33k5, A35k5, A37k5, A38k5, A44k5, A46k5, A48k5, A50k5, A52k5, A54k5) = some r5) (hW : GW D cy (gA N q s.heap.size) N q m a s H) (hS : va_S (gA N q s.heap.size) s.heap H locs), W p l e ({ frames := 6, cells := 7, slots := 28, locals := 147 } : Room) s M args below meth c H locs kc (4 * kc) (MQ below (va_Qi (fun (r : Int32) (u : (Nat → Value) × (Nat → vp_A)) => r = X0.1 ∧ u.1 2706 = .long X0.2.1 ∧ u.1 2709 = .long X0.2.2.1 ∧ u.1 2710 = .int X0.2.2.2.1 ∧ u.1 2802 = .int X0.2.2.2.2.1 ∧ u.1 2803 = .int X0.2.2.2.2.2.1 ∧ u.1 3101 = .int X0.2.2.2.2.2.2.1 ∧ u.1 3102 = .int X0.2.2.2.2.2.2.2.1 ∧ u.1 4206 = .int X0.2.2.2.2.2.2.2.2.1 ∧ u.1 4207 = .int X0.2.2.2.2.2.2.2.2.2.1 ∧ (∀ j, nel j [2706, 2709, 2710, 2802, 2803, 3101, 3102, 4206, 4207] = false → u.1 j = m0 j) ∧ u.2 30 = (6001, .inl X0.2.2.2.2.2.2.2.2.2.2.1) ∧ u.2 33 = (10, .inl X0.2.2.2.2.2.2.2.2.2.2.2.1) ∧ u.2 35 = (60000, .inl X0.2.2.2.2.2.2.2.2.2.2.2.2.1) ∧ u.2 37 = (16384, .inl X0.2.2.2.2.2.2.2.2.2.2.2.2.2.1) ∧ u.2 38 = (6000, .inr (.inl X0.2.2.2.2.2.2.2.2.2.2.2.2.2.2.1)) ∧ u.2 44 = (6000, .inl X0.2.2.2.2.2.2.2.2.2.2.2.2.2.2.2.1) ∧ u.2 46 = (6000, .inl X0.2.2.2.2.2.2.2.2.2.2.2.2.2.2.2.2.1) ∧ u.2 48 = (6000, .inl X0.2.2.2.2.2.2.2.2.2.2.2.2.2.2.2.2.2.1) ∧ u.2 50 = (6000, .inl X0.2.2.2.2.2.2.2.2.2.2.2.2.2.2.2.2.2.2.1) ∧ u.2 52 = (6000, .inl X0.2.2.2.2.2.2.2.2.2.2.2.2.2.2.2.2.2.2.2.1) ∧ u.2 54 = (6000, .inl X0.2.2.2.2.2.2.2.2.2.2.2.2.2.2.2.2.2.2.2.2) ∧ (∀ j, nel j [30, 33, 35, 37, 38, 44, 46, 48, 50, 52, 54] = false → u.2 j = a0 j)) (gB D cy N q s.heap.size) (gA N q s.heap.size)) args s 7 28 (gA N q s.heap.size)) (F0 M 34 ls []) := by
      intro n
      induction n with
      | zero => intro v4k5 x27_10k5 x28_2k5 x28_3k5 x31_1k5 x31_2k5 x42_6k5 x42_7k5 A30k5 A33k5 A35k5 A37k5 A38k5 A44k5 A46k5 A48k5 A50k5 A52k5 A54k5 kc hkc hk7 m a H locs w_x27_6 w_x27_9 w_x27_10 w_x28_2 w_x28_3 w_x31_1 w_x31_2 w_x42_6 w_x42_7 hoff hsh w_A30 w_A33 w_A35 w_A37 w_A38 w_A44 w_A46 w_A48 w_A50 w_A52 w_A54 hoffa ls hl hg5 hW hS; exact (gl_zero hg5).elim
      | succ n ih1 =>
        intro v4k5 x27_10k5 x28_2k5 x28_3k5 x31_1k5 x31_2k5 x42_6k5 x42_7k5 A30k5 A33k5 A35k5 A37k5 A38k5 A44k5 A46k5 A48k5 A50k5 A52k5 A54k5 kc hkc hk7 m a H locs w_x27_6 w_x27_9 w_x27_10 w_x28_2 w_x28_3 w_x31_1 w_x31_2 w_x42_6 w_x42_7 hoff hsh w_A30 w_A33 w_A35 w_A37 w_A38 w_A44 w_A46 w_A48 w_A50 w_A52 w_A54 hoffa ls hl hg5 hW hS
        obtain ⟨X1, hs1, hXl1, hXr1⟩ := gl_succ hg5
        have hs1 : fX9_leastAcks_S34 F xkr_0 xkr_1 xkr_2 xkr_3 p2 (-1) p2 v4k5 x27_10k5 x28_2k5 x28_3k5 x31_1k5 x31_2k5 x42_6k5 x42_7k5 A30k5 A33k5 A35k5 A37k5 A38k5 A44k5 A46k5 A48k5 A50k5 A52k5 A54k5 = some X1 := hs1
        unfold fX9_leastAcks_S34 at hs1
        have hJ140_1 : ∀ (x27_10j34 : Int32) (x28_2j34 : Int32) (x28_3j34 : Int32) (x31_1j34 : Int32) (x31_2j34 : Int32) (x42_6j34 : Int32) (x42_7j34 : Int32) (A30j34 : Nat → Int32) (A33j34 : Nat → Int32) (A35j34 : Nat → Int32) (A37j34 : Nat → Int32) (A38j34 : Nat → Int64) (A44j34 : Nat → Int32) (A46j34 : Nat → Int32) (A48j34 : Nat → Int32) (A50j34 : Nat → Int32) (A52j34 : Nat → Int32) (A54j34 : Nat → Int32) (hk71 : kc + 1 ≤ 7) (m : Nat → Value) (a : Nat → vp_A) (H : Heap) (locs : List Loc) (w_x27_6 : m 2706 = .long (-1)) (w_x27_9 : m 2709 = .long p2) (w_x27_10 : m 2710 = .int x27_10j34) (w_x28_2 : m 2802 = .int x28_2j34) (w_x28_3 : m 2803 = .int x28_3j34) (w_x31_1 : m 3101 = .int x31_1j34) (w_x31_2 : m 3102 = .int x31_2j34) (w_x42_6 : m 4206 = .int x42_6j34) (w_x42_7 : m 4207 = .int x42_7j34) (hoff : ∀ j, nel j [2706, 2709, 2710, 2802, 2803, 3101, 3102, 4206, 4207] = false → m j = m0 j) (hsh : SH q m) (w_A30 : a 30 = (6001, .inl A30j34)) (w_A33 : a 33 = (10, .inl A33j34)) (w_A35 : a 35 = (60000, .inl A35j34)) (w_A37 : a 37 = (16384, .inl A37j34)) (w_A38 : a 38 = (6000, .inr (.inl A38j34))) (w_A44 : a 44 = (6000, .inl A44j34)) (w_A46 : a 46 = (6000, .inl A46j34)) (w_A48 : a 48 = (6000, .inl A48j34)) (w_A50 : a 50 = (6000, .inl A50j34)) (w_A52 : a 52 = (6000, .inl A52j34)) (w_A54 : a 54 = (6000, .inl A54j34)) (hoffa : ∀ j, nel j [30, 33, 35, 37, 38, 44, 46, 48, 50, 52, 54] = false → a j = a0 j) (ls : Array Slot) (hl : lv_has ls 7 [(0, .ref (q 27)), (1, .ref (q kr)), (2, .long p2), (4, .int v4k5)]) (hs1 : fX9_leastAcks_J140 F xkr_0 xkr_1 xkr_2 xkr_3 p2 v4k5 (-1) p2 x27_10j34 x28_2j34 x28_3j34 x31_1j34 x31_2j34 x42_6j34 x42_7j34 A30j34 A33j34 A35j34 A37j34 A38j34 A44j34 A46j34 A48j34 A50j34 A52j34 A54j34 = some X1) (hW : GW D cy (gA N q s.heap.size) N q m a s H) (hS : va_S (gA N q s.heap.size) s.heap H locs), W p l e ({ frames := 6, cells := 7, slots := 28, locals := 147 } : Room) s M args below meth c H locs (kc + 1) (4 * kc + 4) (MQ below (va_Qi (fun (r : Int32) (u : (Nat → Value) × (Nat → vp_A)) => r = X0.1 ∧ u.1 2706 = .long X0.2.1 ∧ u.1 2709 = .long X0.2.2.1 ∧ u.1 2710 = .int X0.2.2.2.1 ∧ u.1 2802 = .int X0.2.2.2.2.1 ∧ u.1 2803 = .int X0.2.2.2.2.2.1 ∧ u.1 3101 = .int X0.2.2.2.2.2.2.1 ∧ u.1 3102 = .int X0.2.2.2.2.2.2.2.1 ∧ u.1 4206 = .int X0.2.2.2.2.2.2.2.2.1 ∧ u.1 4207 = .int X0.2.2.2.2.2.2.2.2.2.1 ∧ (∀ j, nel j [2706, 2709, 2710, 2802, 2803, 3101, 3102, 4206, 4207] = false → u.1 j = m0 j) ∧ u.2 30 = (6001, .inl X0.2.2.2.2.2.2.2.2.2.2.1) ∧ u.2 33 = (10, .inl X0.2.2.2.2.2.2.2.2.2.2.2.1) ∧ u.2 35 = (60000, .inl X0.2.2.2.2.2.2.2.2.2.2.2.2.1) ∧ u.2 37 = (16384, .inl X0.2.2.2.2.2.2.2.2.2.2.2.2.2.1) ∧ u.2 38 = (6000, .inr (.inl X0.2.2.2.2.2.2.2.2.2.2.2.2.2.2.1)) ∧ u.2 44 = (6000, .inl X0.2.2.2.2.2.2.2.2.2.2.2.2.2.2.2.1) ∧ u.2 46 = (6000, .inl X0.2.2.2.2.2.2.2.2.2.2.2.2.2.2.2.2.1) ∧ u.2 48 = (6000, .inl X0.2.2.2.2.2.2.2.2.2.2.2.2.2.2.2.2.2.1) ∧ u.2 50 = (6000, .inl X0.2.2.2.2.2.2.2.2.2.2.2.2.2.2.2.2.2.2.1) ∧ u.2 52 = (6000, .inl X0.2.2.2.2.2.2.2.2.2.2.2.2.2.2.2.2.2.2.2.1) ∧ u.2 54 = (6000, .inl X0.2.2.2.2.2.2.2.2.2.2.2.2.2.2.2.2.2.2.2.2) ∧ (∀ j, nel j [30, 33, 35, 37, 38, 44, 46, 48, 50, 52, 54] = false → u.2 j = a0 j)) (gB D cy N q s.heap.size) (gA N q s.heap.size)) args s 7 28 (gA N q s.heap.size)) (F0 M 140 ls []) := by
          intro x27_10j34 x28_2j34 x28_3j34 x31_1j34 x31_2j34 x42_6j34 x42_7j34 A30j34 A33j34 A35j34 A37j34 A38j34 A44j34 A46j34 A48j34 A50j34 A52j34 A54j34 hk71 m a H locs w_x27_6 w_x27_9 w_x27_10 w_x28_2 w_x28_3 w_x31_1 w_x31_2 w_x42_6 w_x42_7 hoff hsh w_A30 w_A33 w_A35 w_A37 w_A38 w_A44 w_A46 w_A48 w_A50 w_A52 w_A54 hoffa ls hl hs1 hW hS
          unfold fX9_leastAcks_J140 at hs1
          refine lv_iinc (v := v4k5 + 1) (lv' := [(4, .int (v4k5 + 1)), (0, .ref (q 27)), (1, .ref (q kr)), (2, .long p2)]) hx hb dX9_leastAcks_140 hl (k := 3) rfl rfl (by decide) rfl (fun ls hl => ?_)
          refine lv_goto (tgt := 34) hx hb dX9_leastAcks_143 (by decide) ?_
          refine W.widen (k := kc + 1) (n := 4 * (kc + 1)) (by omega) (by omega) ?_
          exact ih1 (v4k5 + 1) x27_10j34 x28_2j34 x28_3j34 x31_1j34 x31_2j34 x42_6j34 x42_7j34 A30j34 A33j34 A35j34 A37j34 A38j34 A44j34 A46j34 A48j34 A50j34 A52j34 A54j34 (kc + 1) (by rw [hkc]; exact nI_1 _) hk71 m a _ _ w_x27_6 w_x27_9 w_x27_10 w_x28_2 w_x28_3 w_x31_1 w_x31_2 w_x42_6 w_x42_7 hoff hsh w_A30 w_A33 w_A35 w_A37 w_A38 w_A44 w_A46 w_A48 w_A50 w_A52 w_A54 hoffa ls (lv_sub hl [1, 2, 3, 0] rfl) (hXr1 _ (Option.some.inj hs1).symm) hW hS
        have hJ137_1 : ∀ (s0j32 : Int32) (x27_10j32 : Int32) (x28_2j32 : Int32) (x28_3j32 : Int32) (x31_1j32 : Int32) (x31_2j32 : Int32) (x42_6j32 : Int32) (x42_7j32 : Int32) (A30j32 : Nat → Int32) (A33j32 : Nat → Int32) (A35j32 : Nat → Int32) (A37j32 : Nat → Int32) (A38j32 : Nat → Int64) (A44j32 : Nat → Int32) (A46j32 : Nat → Int32) (A48j32 : Nat → Int32) (A50j32 : Nat → Int32) (A52j32 : Nat → Int32) (A54j32 : Nat → Int32) (hk71 : kc + 1 ≤ 7) (m : Nat → Value) (a : Nat → vp_A) (H : Heap) (locs : List Loc) (w_x27_6 : m 2706 = .long (-1)) (w_x27_9 : m 2709 = .long p2) (w_x27_10 : m 2710 = .int x27_10j32) (w_x28_2 : m 2802 = .int x28_2j32) (w_x28_3 : m 2803 = .int x28_3j32) (w_x31_1 : m 3101 = .int x31_1j32) (w_x31_2 : m 3102 = .int x31_2j32) (w_x42_6 : m 4206 = .int x42_6j32) (w_x42_7 : m 4207 = .int x42_7j32) (hoff : ∀ j, nel j [2706, 2709, 2710, 2802, 2803, 3101, 3102, 4206, 4207] = false → m j = m0 j) (hsh : SH q m) (w_A30 : a 30 = (6001, .inl A30j32)) (w_A33 : a 33 = (10, .inl A33j32)) (w_A35 : a 35 = (60000, .inl A35j32)) (w_A37 : a 37 = (16384, .inl A37j32)) (w_A38 : a 38 = (6000, .inr (.inl A38j32))) (w_A44 : a 44 = (6000, .inl A44j32)) (w_A46 : a 46 = (6000, .inl A46j32)) (w_A48 : a 48 = (6000, .inl A48j32)) (w_A50 : a 50 = (6000, .inl A50j32)) (w_A52 : a 52 = (6000, .inl A52j32)) (w_A54 : a 54 = (6000, .inl A54j32)) (hoffa : ∀ j, nel j [30, 33, 35, 37, 38, 44, 46, 48, 50, 52, 54] = false → a j = a0 j) (ls : Array Slot) (hl : lv_has ls 7 [(0, .ref (q 27)), (1, .ref (q kr)), (2, .long p2), (4, .int v4k5)]) (hs1 : fX9_leastAcks_J137 F xkr_0 xkr_1 xkr_2 xkr_3 p2 v4k5 s0j32 (-1) p2 x27_10j32 x28_2j32 x28_3j32 x31_1j32 x31_2j32 x42_6j32 x42_7j32 A30j32 A33j32 A35j32 A37j32 A38j32 A44j32 A46j32 A48j32 A50j32 A52j32 A54j32 = some X1) (hW : GW D cy (gA N q s.heap.size) N q m a s H) (hS : va_S (gA N q s.heap.size) s.heap H locs), W p l e ({ frames := 6, cells := 7, slots := 28, locals := 147 } : Room) s M args below meth c H locs (kc + 1) (4 * kc + 4) (MQ below (va_Qi (fun (r : Int32) (u : (Nat → Value) × (Nat → vp_A)) => r = X0.1 ∧ u.1 2706 = .long X0.2.1 ∧ u.1 2709 = .long X0.2.2.1 ∧ u.1 2710 = .int X0.2.2.2.1 ∧ u.1 2802 = .int X0.2.2.2.2.1 ∧ u.1 2803 = .int X0.2.2.2.2.2.1 ∧ u.1 3101 = .int X0.2.2.2.2.2.2.1 ∧ u.1 3102 = .int X0.2.2.2.2.2.2.2.1 ∧ u.1 4206 = .int X0.2.2.2.2.2.2.2.2.1 ∧ u.1 4207 = .int X0.2.2.2.2.2.2.2.2.2.1 ∧ (∀ j, nel j [2706, 2709, 2710, 2802, 2803, 3101, 3102, 4206, 4207] = false → u.1 j = m0 j) ∧ u.2 30 = (6001, .inl X0.2.2.2.2.2.2.2.2.2.2.1) ∧ u.2 33 = (10, .inl X0.2.2.2.2.2.2.2.2.2.2.2.1) ∧ u.2 35 = (60000, .inl X0.2.2.2.2.2.2.2.2.2.2.2.2.1) ∧ u.2 37 = (16384, .inl X0.2.2.2.2.2.2.2.2.2.2.2.2.2.1) ∧ u.2 38 = (6000, .inr (.inl X0.2.2.2.2.2.2.2.2.2.2.2.2.2.2.1)) ∧ u.2 44 = (6000, .inl X0.2.2.2.2.2.2.2.2.2.2.2.2.2.2.2.1) ∧ u.2 46 = (6000, .inl X0.2.2.2.2.2.2.2.2.2.2.2.2.2.2.2.2.1) ∧ u.2 48 = (6000, .inl X0.2.2.2.2.2.2.2.2.2.2.2.2.2.2.2.2.2.1) ∧ u.2 50 = (6000, .inl X0.2.2.2.2.2.2.2.2.2.2.2.2.2.2.2.2.2.2.1) ∧ u.2 52 = (6000, .inl X0.2.2.2.2.2.2.2.2.2.2.2.2.2.2.2.2.2.2.2.1) ∧ u.2 54 = (6000, .inl X0.2.2.2.2.2.2.2.2.2.2.2.2.2.2.2.2.2.2.2.2) ∧ (∀ j, nel j [30, 33, 35, 37, 38, 44, 46, 48, 50, 52, 54] = false → u.2 j = a0 j)) (gB D cy N q s.heap.size) (gA N q s.heap.size)) args s 7 28 (gA N q s.heap.size)) (F0 M 137 ls [.int s0j32, .ref (q 27)]) := by
          intro s0j32 x27_10j32 x28_2j32 x28_3j32 x31_1j32 x31_2j32 x42_6j32 x42_7j32 A30j32 A33j32 A35j32 A37j32 A38j32 A44j32 A46j32 A48j32 A50j32 A52j32 A54j32 hk71 m a H locs w_x27_6 w_x27_9 w_x27_10 w_x28_2 w_x28_3 w_x31_1 w_x31_2 w_x42_6 w_x42_7 hoff hsh w_A30 w_A33 w_A35 w_A37 w_A38 w_A44 w_A46 w_A48 w_A50 w_A52 w_A54 hoffa ls hl hs1 hW hS
          unfold fX9_leastAcks_J137 at hs1
          refine gp9_10 hx hb hG hown hW hS (o := 27) (ltN hN 27 rfl) gk27 (v := s0j32) gx990 dX9_leastAcks_137 (fun m35 H locs hm35 ho35 hW hS => ?_)
          have ho35 := off1 ho35
          have w_x27_6 : m35 2706 = .long (-1) := (ho35 2706 rfl).trans w_x27_6
          have w_x27_9 : m35 2709 = .long p2 := (ho35 2709 rfl).trans w_x27_9
          have w_x27_10 : m35 2710 = .int s0j32 := hm35
          have w_x28_2 : m35 2802 = .int x28_2j32 := (ho35 2802 rfl).trans w_x28_2
          have w_x28_3 : m35 2803 = .int x28_3j32 := (ho35 2803 rfl).trans w_x28_3
          have w_x31_1 : m35 3101 = .int x31_1j32 := (ho35 3101 rfl).trans w_x31_1
          have w_x31_2 : m35 3102 = .int x31_2j32 := (ho35 3102 rfl).trans w_x31_2
          have w_x42_6 : m35 4206 = .int x42_6j32 := (ho35 4206 rfl).trans w_x42_6
          have w_x42_7 : m35 4207 = .int x42_7j32 := (ho35 4207 rfl).trans w_x42_7
          have hoff := offm hoff ho35 (by decide +kernel)
          have hsh := SH.off hsh ho35 (by decide +kernel)
          exact hJ140_1 s0j32 x28_2j32 x28_3j32 x31_1j32 x31_2j32 x42_6j32 x42_7j32 A30j32 A33j32 A35j32 A37j32 A38j32 A44j32 A46j32 A48j32 A50j32 A52j32 A54j32 hk71 m35 a _ _ w_x27_6 w_x27_9 w_x27_10 w_x28_2 w_x28_3 w_x31_1 w_x31_2 w_x42_6 w_x42_7 hoff hsh w_A30 w_A33 w_A35 w_A37 w_A38 w_A44 w_A46 w_A48 w_A50 w_A52 w_A54 hoffa ls (lv_sub hl [0, 1, 2, 3] rfl) hs1 hW hS
        have hJ66_1 : ∀ (s0j26 : Int64) (x27_10j26 : Int32) (x28_2j26 : Int32) (x28_3j26 : Int32) (x31_1j26 : Int32) (x31_2j26 : Int32) (x42_6j26 : Int32) (x42_7j26 : Int32) (A30j26 : Nat → Int32) (A33j26 : Nat → Int32) (A35j26 : Nat → Int32) (A37j26 : Nat → Int32) (A38j26 : Nat → Int64) (A44j26 : Nat → Int32) (A46j26 : Nat → Int32) (A48j26 : Nat → Int32) (A50j26 : Nat → Int32) (A52j26 : Nat → Int32) (A54j26 : Nat → Int32) (hk71 : kc + 1 ≤ 7) (m : Nat → Value) (a : Nat → vp_A) (H : Heap) (locs : List Loc) (w_x27_6 : m 2706 = .long (-1)) (w_x27_9 : m 2709 = .long p2) (w_x27_10 : m 2710 = .int x27_10j26) (w_x28_2 : m 2802 = .int x28_2j26) (w_x28_3 : m 2803 = .int x28_3j26) (w_x31_1 : m 3101 = .int x31_1j26) (w_x31_2 : m 3102 = .int x31_2j26) (w_x42_6 : m 4206 = .int x42_6j26) (w_x42_7 : m 4207 = .int x42_7j26) (hoff : ∀ j, nel j [2706, 2709, 2710, 2802, 2803, 3101, 3102, 4206, 4207] = false → m j = m0 j) (hsh : SH q m) (w_A30 : a 30 = (6001, .inl A30j26)) (w_A33 : a 33 = (10, .inl A33j26)) (w_A35 : a 35 = (60000, .inl A35j26)) (w_A37 : a 37 = (16384, .inl A37j26)) (w_A38 : a 38 = (6000, .inr (.inl A38j26))) (w_A44 : a 44 = (6000, .inl A44j26)) (w_A46 : a 46 = (6000, .inl A46j26)) (w_A48 : a 48 = (6000, .inl A48j26)) (w_A50 : a 50 = (6000, .inl A50j26)) (w_A52 : a 52 = (6000, .inl A52j26)) (w_A54 : a 54 = (6000, .inl A54j26)) (hoffa : ∀ j, nel j [30, 33, 35, 37, 38, 44, 46, 48, 50, 52, 54] = false → a j = a0 j) (ls : Array Slot) (hl : lv_has ls 7 [(0, .ref (q 27)), (1, .ref (q kr)), (2, .long p2), (4, .int v4k5)]) (hs1 : fX9_leastAcks_J66 F xkr_0 xkr_1 xkr_2 xkr_3 p2 v4k5 s0j26 (-1) p2 x27_10j26 x28_2j26 x28_3j26 x31_1j26 x31_2j26 x42_6j26 x42_7j26 A30j26 A33j26 A35j26 A37j26 A38j26 A44j26 A46j26 A48j26 A50j26 A52j26 A54j26 = some X1) (hW : GW D cy (gA N q s.heap.size) N q m a s H) (hS : va_S (gA N q s.heap.size) s.heap H locs), W p l e ({ frames := 6, cells := 7, slots := 28, locals := 147 } : Room) s M args below meth c H locs kc (4 * kc) (MQ below (va_Qi (fun (r : Int32) (u : (Nat → Value) × (Nat → vp_A)) => r = X0.1 ∧ u.1 2706 = .long X0.2.1 ∧ u.1 2709 = .long X0.2.2.1 ∧ u.1 2710 = .int X0.2.2.2.1 ∧ u.1 2802 = .int X0.2.2.2.2.1 ∧ u.1 2803 = .int X0.2.2.2.2.2.1 ∧ u.1 3101 = .int X0.2.2.2.2.2.2.1 ∧ u.1 3102 = .int X0.2.2.2.2.2.2.2.1 ∧ u.1 4206 = .int X0.2.2.2.2.2.2.2.2.1 ∧ u.1 4207 = .int X0.2.2.2.2.2.2.2.2.2.1 ∧ (∀ j, nel j [2706, 2709, 2710, 2802, 2803, 3101, 3102, 4206, 4207] = false → u.1 j = m0 j) ∧ u.2 30 = (6001, .inl X0.2.2.2.2.2.2.2.2.2.2.1) ∧ u.2 33 = (10, .inl X0.2.2.2.2.2.2.2.2.2.2.2.1) ∧ u.2 35 = (60000, .inl X0.2.2.2.2.2.2.2.2.2.2.2.2.1) ∧ u.2 37 = (16384, .inl X0.2.2.2.2.2.2.2.2.2.2.2.2.2.1) ∧ u.2 38 = (6000, .inr (.inl X0.2.2.2.2.2.2.2.2.2.2.2.2.2.2.1)) ∧ u.2 44 = (6000, .inl X0.2.2.2.2.2.2.2.2.2.2.2.2.2.2.2.1) ∧ u.2 46 = (6000, .inl X0.2.2.2.2.2.2.2.2.2.2.2.2.2.2.2.2.1) ∧ u.2 48 = (6000, .inl X0.2.2.2.2.2.2.2.2.2.2.2.2.2.2.2.2.2.1) ∧ u.2 50 = (6000, .inl X0.2.2.2.2.2.2.2.2.2.2.2.2.2.2.2.2.2.2.1) ∧ u.2 52 = (6000, .inl X0.2.2.2.2.2.2.2.2.2.2.2.2.2.2.2.2.2.2.2.1) ∧ u.2 54 = (6000, .inl X0.2.2.2.2.2.2.2.2.2.2.2.2.2.2.2.2.2.2.2.2) ∧ (∀ j, nel j [30, 33, 35, 37, 38, 44, 46, 48, 50, 52, 54] = false → u.2 j = a0 j)) (gB D cy N q s.heap.size) (gA N q s.heap.size)) args s 7 28 (gA N q s.heap.size)) (F0 M 66 ls [.long s0j26]) := by
          intro s0j26 x27_10j26 x28_2j26 x28_3j26 x31_1j26 x31_2j26 x42_6j26 x42_7j26 A30j26 A33j26 A35j26 A37j26 A38j26 A44j26 A46j26 A48j26 A50j26 A52j26 A54j26 hk71 m a H locs w_x27_6 w_x27_9 w_x27_10 w_x28_2 w_x28_3 w_x31_1 w_x31_2 w_x42_6 w_x42_7 hoff hsh w_A30 w_A33 w_A35 w_A37 w_A38 w_A44 w_A46 w_A48 w_A50 w_A52 w_A54 hoffa ls hl hs1 hW hS
          unfold fX9_leastAcks_J66 at hs1
          refine lv_lstore (lv' := [(5, .long s0j26), (0, .ref (q 27)), (1, .ref (q kr)), (2, .long p2), (4, .int v4k5)]) hx hb dX9_leastAcks_66 hl (by decide) rfl (fun ls hl => ?_)
          refine lv_aload_n hx hb dX9_leastAcks_68 rfl (lv_at hl 1 rfl) ?_
          refine gf9_0 hx hb hG hown hW (o := 27) (ltN hN 27 rfl) gk27 (v := .ref (q 28)) (sh27_0 hsh) gx87 dX9_leastAcks_69 ?_
          refine lv_aload_n hx hb dX9_leastAcks_72 rfl (lv_at hl 2 rfl) ?_
          refine lv_iconst (v := 2) hx hb dX9_leastAcks_73 (by decide) ?_
          refine lv_iload hx hb dX9_leastAcks_74 (lv_at hl 4 rfl) ?_
          obtain ⟨r27, hf27, hs1⟩ := obind hs1
          refine g_WC (P := fun mw m' a' => m' 2802 = .int r27.1 ∧ m' 2803 = .int r27.2.1 ∧ m' 3101 = .int r27.2.2.1 ∧ m' 3102 = .int r27.2.2.2.1 ∧ (∀ j, nel j [2802, 2803, 3101, 3102] = false → m' j = mw j) ∧ a' 30 = (6001, .inl r27.2.2.2.2.1) ∧ a' 33 = (10, .inl r27.2.2.2.2.2.1) ∧ a' 35 = (60000, .inl r27.2.2.2.2.2.2.1) ∧ a' 37 = (16384, .inl r27.2.2.2.2.2.2.2.1) ∧ a' 38 = (6000, .inr (.inl r27.2.2.2.2.2.2.2.2)) ∧ (∀ j, nel j [30, 33, 35, 37, 38] = false → a' j = a j)) hx hb hml hown hG hW hS hN hkr hgk ((off_kr hoff hgk 0 rfl (by decide)).trans h_xkr_0) ((off_kr hoff hgk 1 rfl (by decide)).trans h_xkr_1) ((off_kr hoff hgk 2 rfl (by decide)).trans h_xkr_2) ((off_kr hoff hgk 3 rfl (by decide)).trans h_xkr_3) v4k5 s0j26 hl (lv_at hl 0 rfl) (fun qw mw sz hqw hmw n0 n1 n2 n3 => kX1_chart (Nat.le_succ_of_le hN) (hsh.grow hN hqw hmw) (Nat.lt_succ_self N) (gk_hi hN) n0 n1 n2 n3 ((hmw 2802 (by omega)).trans w_x28_2) ((hmw 2803 (by omega)).trans w_x28_3) ((hmw 3101 (by omega)).trans w_x31_1) ((hmw 3102 (by omega)).trans w_x31_2) w_A30 w_A33 w_A35 w_A37 w_A38 F s0j26 hf27) (fun mw m' m2 a' hmw hm2 hm3 hp => by obtain ⟨z0, z1, z2, z3, zo, z4, z5, z6, z7, z8, zoa⟩ := hp; exact ⟨((hm2 2802 (by omega)).trans z0), ((hm2 2803 (by omega)).trans z1), ((hm2 3101 (by omega)).trans z2), ((hm2 3102 (by omega)).trans z3), (fun j hj => (Nat.lt_or_ge j (100 * N)).elim (fun hlt => by rw [hm2 j hlt, zo j hj, hmw j hlt]) (fun hge => hm3 j hge)), z4, z5, z6, z7, z8, zoa⟩) (by decide) (by decide) (show kc + 1 ≤ 7 by omega) (show 4 * kc + 4 ≤ 28 by omega) (fun m27 a27 H locs hp27 hW hS => ?_)
          obtain ⟨hp27_x28_2, hp27_x28_3, hp27_x31_1, hp27_x31_2, ho27, hp27_A30, hp27_A33, hp27_A35, hp27_A37, hp27_A38, hoa27⟩ := hp27
          have w_x27_6 : m27 2706 = .long (-1) := (ho27 2706 rfl).trans w_x27_6
          have w_x27_9 : m27 2709 = .long p2 := (ho27 2709 rfl).trans w_x27_9
          have w_x27_10 : m27 2710 = .int x27_10j26 := (ho27 2710 rfl).trans w_x27_10
          have w_x28_2 : m27 2802 = .int r27.1 := hp27_x28_2
          have w_x28_3 : m27 2803 = .int r27.2.1 := hp27_x28_3
          have w_x31_1 : m27 3101 = .int r27.2.2.1 := hp27_x31_1
          have w_x31_2 : m27 3102 = .int r27.2.2.2.1 := hp27_x31_2
          have w_x42_6 : m27 4206 = .int x42_6j26 := (ho27 4206 rfl).trans w_x42_6
          have w_x42_7 : m27 4207 = .int x42_7j26 := (ho27 4207 rfl).trans w_x42_7
          have hoff := offm hoff ho27 (by decide +kernel)
          have hsh := SH.off hsh ho27 (by decide +kernel)
          have w_A30 : a27 30 = (6001, .inl r27.2.2.2.2.1) := hp27_A30
          have w_A33 : a27 33 = (10, .inl r27.2.2.2.2.2.1) := hp27_A33
          have w_A35 : a27 35 = (60000, .inl r27.2.2.2.2.2.2.1) := hp27_A35
          have w_A37 : a27 37 = (16384, .inl r27.2.2.2.2.2.2.2.1) := hp27_A37
          have w_A38 : a27 38 = (6000, .inr (.inl r27.2.2.2.2.2.2.2.2)) := hp27_A38
          have w_A44 : a27 44 = (6000, .inl A44j26) := (hoa27 44 rfl).trans w_A44
          have w_A46 : a27 46 = (6000, .inl A46j26) := (hoa27 46 rfl).trans w_A46
          have w_A48 : a27 48 = (6000, .inl A48j26) := (hoa27 48 rfl).trans w_A48
          have w_A50 : a27 50 = (6000, .inl A50j26) := (hoa27 50 rfl).trans w_A50
          have w_A52 : a27 52 = (6000, .inl A52j26) := (hoa27 52 rfl).trans w_A52
          have w_A54 : a27 54 = (6000, .inl A54j26) := (hoa27 54 rfl).trans w_A54
          have hoffa := offm hoffa hoa27 (by decide +kernel)
          refine lv_aload_n hx hb dX9_leastAcks_84 rfl (lv_at hl 1 rfl) ?_
          refine gf9_0 hx hb hG hown hW (o := 27) (ltN hN 27 rfl) gk27 (v := .ref (q 28)) (sh27_0 hsh) gx87 dX9_leastAcks_85 ?_
          refine gf1_3 hx hb hG hown hW (o := 28) (ltN hN 28 rfl) gk28 (v := .int r27.2.1) w_x28_3 gx665 dX9_leastAcks_88 ?_
          refine lv_if_ne (tgt := 103) hx hb dX9_leastAcks_91 (by decide) (fun c28 => ?_) (fun c28 => ?_)
          · rw [if_neg c28] at hs1
            refine lv_aload_n hx hb dX9_leastAcks_103 rfl (lv_at hl 1 rfl) ?_
            refine gf9_2 hx hb hG hown hW (o := 27) (ltN hN 27 rfl) gk27 (v := .ref (q 42)) (sh27_2 hsh) gx95 dX9_leastAcks_104 ?_
            refine lv_aload_n hx hb dX9_leastAcks_107 rfl (lv_at hl 1 rfl) ?_
            refine gf9_0 hx hb hG hown hW (o := 27) (ltN hN 27 rfl) gk27 (v := .ref (q 28)) (sh27_0 hsh) gx87 dX9_leastAcks_108 ?_
            obtain ⟨r29, hf29, hs1⟩ := obind hs1
            refine g_Vv (n := 1) hx hb hml hown hG hW hS [.ref (q 28)] (kX4_measure hN hsh w_x28_2 w_A30 w_A35 w_x42_6 w_x42_7 w_A44 w_A46 w_A48 w_A50 w_A52 w_A54 F hf29) (ltN hN 42 rfl) gk42 (by decide) rfl rfl (gd_V gx752 gx753 gx754 gx94 gx755) rfl rfl (by decide) ⟨Nat.le_of_ble_eq_true rfl, Nat.le_of_ble_eq_true rfl⟩ rfl hl (Nat.le_of_ble_eq_true rfl) ⟨(show kc + 1 ≤ 7 by omega), (show 4 * kc + 4 ≤ 28 by omega)⟩ dX9_leastAcks_111 (fun m29 a29 H locs hp29 hW hS => ?_)
            obtain ⟨hp29_x42_6, hp29_x42_7, ho29, hp29_A44, hp29_A46, hp29_A48, hp29_A50, hp29_A52, hp29_A54, hoa29⟩ := hp29
            have w_x27_6 : m29 2706 = .long (-1) := (ho29 2706 rfl).trans w_x27_6
            have w_x27_9 : m29 2709 = .long p2 := (ho29 2709 rfl).trans w_x27_9
            have w_x27_10 : m29 2710 = .int x27_10j26 := (ho29 2710 rfl).trans w_x27_10
            have w_x28_2 : m29 2802 = .int r27.1 := (ho29 2802 rfl).trans w_x28_2
            have w_x28_3 : m29 2803 = .int r27.2.1 := (ho29 2803 rfl).trans w_x28_3
            have w_x31_1 : m29 3101 = .int r27.2.2.1 := (ho29 3101 rfl).trans w_x31_1
            have w_x31_2 : m29 3102 = .int r27.2.2.2.1 := (ho29 3102 rfl).trans w_x31_2
            have w_x42_6 : m29 4206 = .int r29.1 := hp29_x42_6
            have w_x42_7 : m29 4207 = .int r29.2.1 := hp29_x42_7
            have hoff := offm hoff ho29 (by decide +kernel)
            have hsh := SH.off hsh ho29 (by decide +kernel)
            have w_A30 : a29 30 = (6001, .inl r27.2.2.2.2.1) := (hoa29 30 rfl).trans w_A30
            have w_A33 : a29 33 = (10, .inl r27.2.2.2.2.2.1) := (hoa29 33 rfl).trans w_A33
            have w_A35 : a29 35 = (60000, .inl r27.2.2.2.2.2.2.1) := (hoa29 35 rfl).trans w_A35
            have w_A37 : a29 37 = (16384, .inl r27.2.2.2.2.2.2.2.1) := (hoa29 37 rfl).trans w_A37
            have w_A38 : a29 38 = (6000, .inr (.inl r27.2.2.2.2.2.2.2.2)) := (hoa29 38 rfl).trans w_A38
            have w_A44 : a29 44 = (6000, .inl r29.2.2.1) := hp29_A44
            have w_A46 : a29 46 = (6000, .inl r29.2.2.2.1) := hp29_A46
            have w_A48 : a29 48 = (6000, .inl r29.2.2.2.2.1) := hp29_A48
            have w_A50 : a29 50 = (6000, .inl r29.2.2.2.2.2.1) := hp29_A50
            have w_A52 : a29 52 = (6000, .inl r29.2.2.2.2.2.2.1) := hp29_A52
            have w_A54 : a29 54 = (6000, .inl r29.2.2.2.2.2.2.2) := hp29_A54
            have hoffa := offm hoffa hoa29 (by decide +kernel)
            refine lv_aload_n hx hb dX9_leastAcks_114 rfl (lv_at hl 1 rfl) ?_
            refine lv_aload_n hx hb dX9_leastAcks_115 rfl (lv_at hl 1 rfl) ?_
            refine gf9_2 hx hb hG hown hW (o := 27) (ltN hN 27 rfl) gk27 (v := .ref (q 42)) (sh27_2 hsh) gx95 dX9_leastAcks_116 ?_
            refine gf4_0 hx hb hG hown hW (o := 42) (ltN hN 42 rfl) gk42 (v := .ref (q 43)) (sh42_0 hsh) gx751 dX9_leastAcks_119 ?_
            refine lv_iconst (v := 0) hx hb dX9_leastAcks_122 (by decide) ?_
            refine g_ViR (n := 1) hx hb hml hown hG hW hS [.int 0] (kX2_at (ltN hN 43 rfl) gk43 (ltN hN 44 rfl) gk44 (sh43_0 hsh) (by decide) w_A44 0) (ltN hN 43 rfl) gk43 (by decide) rfl rfl (gd_V gx795 gx564 gx565 gx47 gx566) rfl rfl (by decide) ⟨Nat.le_of_ble_eq_true rfl, Nat.le_of_ble_eq_true rfl⟩ rfl hl (Nat.le_of_ble_eq_true rfl) ⟨(show kc + 1 ≤ 7 by omega), (show 4 * kc + 4 ≤ 28 by omega)⟩ dX9_leastAcks_123 (fun H locs hW hS => ?_)
            refine lv_bipush (v := (-2)) hx hb dX9_leastAcks_126 (by decide) ?_
            refine lv_icmp_ne (tgt := 135) hx hb dX9_leastAcks_128 (by decide) (fun c31 => ?_) (fun c31 => ?_)
            · rw [if_neg c31] at hs1
              refine lv_iload hx hb dX9_leastAcks_135 (lv_at hl 4 rfl) ?_
              exact hJ137_1 v4k5 x27_10j26 r27.1 r27.2.1 r27.2.2.1 r27.2.2.2.1 r29.1 r29.2.1 r27.2.2.2.2.1 r27.2.2.2.2.2.1 r27.2.2.2.2.2.2.1 r27.2.2.2.2.2.2.2.1 r27.2.2.2.2.2.2.2.2 r29.2.2.1 r29.2.2.2.1 r29.2.2.2.2.1 r29.2.2.2.2.2.1 r29.2.2.2.2.2.2.1 r29.2.2.2.2.2.2.2 hk71 m29 a29 _ _ w_x27_6 w_x27_9 w_x27_10 w_x28_2 w_x28_3 w_x31_1 w_x31_2 w_x42_6 w_x42_7 hoff hsh w_A30 w_A33 w_A35 w_A37 w_A38 w_A44 w_A46 w_A48 w_A50 w_A52 w_A54 hoffa ls (lv_sub hl [1, 2, 3, 4] rfl) hs1 hW hS
            · rw [if_pos c31] at hs1
              refine lv_iconst (v := (-1)) hx hb dX9_leastAcks_131 (by decide) ?_
              refine lv_goto (tgt := 137) hx hb dX9_leastAcks_132 (by decide) ?_
              exact hJ137_1 (-1) x27_10j26 r27.1 r27.2.1 r27.2.2.1 r27.2.2.2.1 r29.1 r29.2.1 r27.2.2.2.2.1 r27.2.2.2.2.2.1 r27.2.2.2.2.2.2.1 r27.2.2.2.2.2.2.2.1 r27.2.2.2.2.2.2.2.2 r29.2.2.1 r29.2.2.2.1 r29.2.2.2.2.1 r29.2.2.2.2.2.1 r29.2.2.2.2.2.2.1 r29.2.2.2.2.2.2.2 hk71 m29 a29 _ _ w_x27_6 w_x27_9 w_x27_10 w_x28_2 w_x28_3 w_x31_1 w_x31_2 w_x42_6 w_x42_7 hoff hsh w_A30 w_A33 w_A35 w_A37 w_A38 w_A44 w_A46 w_A48 w_A50 w_A52 w_A54 hoffa ls (lv_sub hl [1, 2, 3, 4] rfl) hs1 hW hS
          · rw [if_pos c28] at hs1
            refine lv_aload_n hx hb dX9_leastAcks_94 rfl (lv_at hl 1 rfl) ?_
            refine lv_bipush (v := (-3)) hx hb dX9_leastAcks_95 (by decide) ?_
            refine gp9_10 hx hb hG hown hW hS (o := 27) (ltN hN 27 rfl) gk27 (v := (-3)) gx990 dX9_leastAcks_97 (fun m33 H locs hm33 ho33 hW hS => ?_)
            have ho33 := off1 ho33
            have w_x27_6 : m33 2706 = .long (-1) := (ho33 2706 rfl).trans w_x27_6
            have w_x27_9 : m33 2709 = .long p2 := (ho33 2709 rfl).trans w_x27_9
            have w_x27_10 : m33 2710 = .int (-3) := hm33
            have w_x28_2 : m33 2802 = .int r27.1 := (ho33 2802 rfl).trans w_x28_2
            have w_x28_3 : m33 2803 = .int r27.2.1 := (ho33 2803 rfl).trans w_x28_3
            have w_x31_1 : m33 3101 = .int r27.2.2.1 := (ho33 3101 rfl).trans w_x31_1
            have w_x31_2 : m33 3102 = .int r27.2.2.2.1 := (ho33 3102 rfl).trans w_x31_2
            have w_x42_6 : m33 4206 = .int x42_6j26 := (ho33 4206 rfl).trans w_x42_6
            have w_x42_7 : m33 4207 = .int x42_7j26 := (ho33 4207 rfl).trans w_x42_7
            have hoff := offm hoff ho33 (by decide +kernel)
            have hsh := SH.off hsh ho33 (by decide +kernel)
            refine lv_goto (tgt := 140) hx hb dX9_leastAcks_100 (by decide) ?_
            exact hJ140_1 (-3) r27.1 r27.2.1 r27.2.2.1 r27.2.2.2.1 x42_6j26 x42_7j26 r27.2.2.2.2.1 r27.2.2.2.2.2.1 r27.2.2.2.2.2.2.1 r27.2.2.2.2.2.2.2.1 r27.2.2.2.2.2.2.2.2 A44j26 A46j26 A48j26 A50j26 A52j26 A54j26 hk71 m33 a27 _ _ w_x27_6 w_x27_9 w_x27_10 w_x28_2 w_x28_3 w_x31_1 w_x31_2 w_x42_6 w_x42_7 hoff hsh w_A30 w_A33 w_A35 w_A37 w_A38 w_A44 w_A46 w_A48 w_A50 w_A52 w_A54 hoffa ls (lv_sub hl [1, 2, 3, 4] rfl) hs1 hW hS
        refine lv_iload hx hb dX9_leastAcks_34 (lv_at hl 3 rfl) ?_
        refine lv_bipush (v := 7) hx hb dX9_leastAcks_36 (by decide) ?_
        refine lv_icmp_gt (tgt := 146) hx hb dX9_leastAcks_38 (by decide) (fun c21 => ?_) (fun c21 => ?_)
        · rw [if_pos c21] at hs1
          refine W.widen (k := 7) (n := 28) (by omega) (by omega) ?_
          exact hE1_146 (x27_10k5, x28_2k5, x28_3k5, x31_1k5, x31_2k5, x42_6k5, x42_7k5, A30k5, A33k5, A35k5, A37k5, A38k5, A44k5, A46k5, A48k5, A50k5, A52k5, A54k5) (hXl1 _ (Option.some.inj hs1).symm) m a _ _ w_x27_6 w_x27_9 w_x27_10 w_x28_2 w_x28_3 w_x31_1 w_x31_2 w_x42_6 w_x42_7 hoff hsh w_A30 w_A33 w_A35 w_A37 w_A38 w_A44 w_A46 w_A48 w_A50 w_A52 w_A54 hoffa ls (lv_sub hl [0] rfl) hW hS
        · rw [if_neg c21] at hs1
          have hk71 : kc + 1 ≤ 7 := lk7 hkc hk7 c21
          refine lv_aload_n hx hb dX9_leastAcks_41 rfl (lv_at hl 0 rfl) ?_
          refine gf9_10 hx hb hG hown hW (o := 27) (ltN hN 27 rfl) gk27 (v := .int x27_10k5) w_x27_10 gx990 dX9_leastAcks_42 ?_
          refine lv_iconst (v := (-1)) hx hb dX9_leastAcks_45 (by decide) ?_
          refine lv_icmp_ne (tgt := 146) hx hb dX9_leastAcks_46 (by decide) (fun c22 => ?_) (fun c22 => ?_)
          · rw [if_neg c22] at hs1
            refine W.widen (k := 7) (n := 28) (by omega) (by omega) ?_
            exact hE1_146 (x27_10k5, x28_2k5, x28_3k5, x31_1k5, x31_2k5, x42_6k5, x42_7k5, A30k5, A33k5, A35k5, A37k5, A38k5, A44k5, A46k5, A48k5, A50k5, A52k5, A54k5) (hXl1 _ (Option.some.inj hs1).symm) m a _ _ w_x27_6 w_x27_9 w_x27_10 w_x28_2 w_x28_3 w_x31_1 w_x31_2 w_x42_6 w_x42_7 hoff hsh w_A30 w_A33 w_A35 w_A37 w_A38 w_A44 w_A46 w_A48 w_A50 w_A52 w_A54 hoffa ls (lv_sub hl [0] rfl) hW hS
          · rw [if_pos c22] at hs1
            refine lv_lload_n hx hb dX9_leastAcks_49 rfl (lv_at hl 2 rfl) ?_
            refine g_SiR (n := 1) hx hb hml hown hG hW hS [.long p2] (kX7_acksOf hN p2) rfl (gd_S gx991 gx475 gx39 gx476) rfl rfl (by decide) ⟨Nat.le_of_ble_eq_true rfl, Nat.le_of_ble_eq_true rfl⟩ rfl hl (Nat.le_of_ble_eq_true rfl) ⟨(show kc ≤ 7 by omega), (show 4 * kc ≤ 28 by omega)⟩ dX9_leastAcks_50 (fun H locs hW hS => ?_)
            refine lv_iload hx hb dX9_leastAcks_53 (lv_at hl 3 rfl) ?_
            refine lv_icmp_ge (tgt := 62) hx hb dX9_leastAcks_55 (by decide) (fun c24 => ?_) (fun c24 => ?_)
            · rw [if_pos c24] at hs1
              refine lv_lload_n hx hb dX9_leastAcks_62 rfl (lv_at hl 2 rfl) ?_
              refine g_SlR (n := 1) hx hb hml hown hG hW hS [.long p2] (kX7_withoutAcks hN p2) rfl (gd_S gx992 gx993 gx39 gx994) rfl rfl (by decide) ⟨Nat.le_of_ble_eq_true rfl, Nat.le_of_ble_eq_true rfl⟩ rfl hl (Nat.le_of_ble_eq_true rfl) ⟨(show kc ≤ 7 by omega), (show 4 * kc ≤ 28 by omega)⟩ dX9_leastAcks_63 (fun H locs hW hS => ?_)
              exact hJ66_1 (fX7_withoutAcks p2) x27_10k5 x28_2k5 x28_3k5 x31_1k5 x31_2k5 x42_6k5 x42_7k5 A30k5 A33k5 A35k5 A37k5 A38k5 A44k5 A46k5 A48k5 A50k5 A52k5 A54k5 hk71 m a _ _ w_x27_6 w_x27_9 w_x27_10 w_x28_2 w_x28_3 w_x31_1 w_x31_2 w_x42_6 w_x42_7 hoff hsh w_A30 w_A33 w_A35 w_A37 w_A38 w_A44 w_A46 w_A48 w_A50 w_A52 w_A54 hoffa ls (lv_sub hl [0, 1, 2, 3] rfl) hs1 hW hS
            · rw [if_neg c24] at hs1
              refine lv_lload_n hx hb dX9_leastAcks_58 rfl (lv_at hl 2 rfl) ?_
              refine lv_goto (tgt := 66) hx hb dX9_leastAcks_59 (by decide) ?_
              exact hJ66_1 p2 x27_10k5 x28_2k5 x28_3k5 x31_1k5 x31_2k5 x42_6k5 x42_7k5 A30k5 A33k5 A35k5 A37k5 A38k5 A44k5 A46k5 A48k5 A50k5 A52k5 A54k5 hk71 m a _ _ w_x27_6 w_x27_9 w_x27_10 w_x28_2 w_x28_3 w_x31_1 w_x31_2 w_x42_6 w_x42_7 hoff hsh w_A30 w_A33 w_A35 w_A37 w_A38 w_A44 w_A46 w_A48 w_A50 w_A52 w_A54 hoffa ls (lv_sub hl [0, 1, 2, 3] rfl) hs1 hW hS
    exact hL1 F 1 (-1) x28_2 x28_3 x31_1 x31_2 x42_6 x42_7 A30 A33 A35 A37 A38 A44 A46 A48 A50 A52 A54 0 (show (1 : Int32) = nI (0 + 1) from rfl) (Nat.zero_le 7) m4 a0 _ _ w_x27_6 w_x27_9 w_x27_10 w_x28_2 w_x28_3 w_x31_1 w_x31_2 w_x42_6 w_x42_7 hoff hsh h_A30 h_A33 h_A35 h_A37 h_A38 h_A44 h_A46 h_A48 h_A50 h_A52 h_A54 hoffa ls (lv_sub hl [1, 2, 3, 0] rfl) hg5 hW hS
  · rw [if_pos c1] at hs0
    refine lv_aload_n hx hb dX9_leastAcks_9 rfl (lv_at hl 0 rfl) ?_
    refine gf9_10 hx hb hG hown hW (o := 27) (ltN hN 27 rfl) gk27 (v := .int x27_10) h_x27_10 gx990 dX9_leastAcks_10 ?_
    have hs0 := Option.some.inj hs0
    subst hs0
    refine W.widen (k := 7) (n := 28) (Nat.le_of_ble_eq_true rfl) (Nat.le_of_ble_eq_true rfl) ?_
    exact W.zret hx hb hr rfl (fun t ht hw => ⟨⟨_, (m0, a0), rfl, ⟨rfl, h_x27_6, h_x27_9, h_x27_10, h_x28_2, h_x28_3, h_x31_1, h_x31_2, h_x42_6, h_x42_7, hoff, h_A30, h_A33, h_A35, h_A37, h_A38, h_A44, h_A46, h_A48, h_A50, h_A52, h_A54, hoffa⟩, g_end hW ht hw⟩, hS.F ht⟩) hS.2.2 dX9_leastAcks_13 hlocks
-- HealLink.enough ()I
def fX11_enough (F : Nat) (x0_8 : Int64) (xkr_0 : Int32) (xkr_1 : Int32) (xkr_2 : Int32) (xkr_3 : Int32) (x27_6 : Int64) (x27_9 : Int64) (x27_10 : Int32) (x28_2 : Int32) (x28_3 : Int32) (x31_1 : Int32) (x31_2 : Int32) (x42_6 : Int32) (x42_7 : Int32) (A30 : Nat → Int32) (A33 : Nat → Int32) (A35 : Nat → Int32) (A37 : Nat → Int32) (A38 : Nat → Int64) (A44 : Nat → Int32) (A46 : Nat → Int32) (A48 : Nat → Int32) (A50 : Nat → Int32) (A52 : Nat → Int32) (A54 : Nat → Int32) : Option (Int32 × Int64 × Int64 × Int32 × Int32 × Int32 × Int32 × Int32 × Int32 × Int32 × (Nat → Int32) × (Nat → Int32) × (Nat → Int32) × (Nat → Int32) × (Nat → Int64) × (Nat → Int32) × (Nat → Int32) × (Nat → Int32) × (Nat → Int32) × (Nat → Int32) × (Nat → Int32)) := ((fX9_leastAcks F xkr_0 xkr_1 xkr_2 xkr_3 x27_6 x27_9 x27_10 x28_2 x28_3 x31_1 x31_2 x42_6 x42_7 A30 A33 A35 A37 A38 A44 A46 A48 A50 A52 A54 x0_8).bind (fun r1 => some (r1.1, r1.2.1, r1.2.2.1, r1.2.2.2.1, r1.2.2.2.2.1, r1.2.2.2.2.2.1, r1.2.2.2.2.2.2.1, r1.2.2.2.2.2.2.2.1, r1.2.2.2.2.2.2.2.2.1, r1.2.2.2.2.2.2.2.2.2.1, r1.2.2.2.2.2.2.2.2.2.2.1, r1.2.2.2.2.2.2.2.2.2.2.2.1, r1.2.2.2.2.2.2.2.2.2.2.2.2.1, r1.2.2.2.2.2.2.2.2.2.2.2.2.2.1, r1.2.2.2.2.2.2.2.2.2.2.2.2.2.2.1, r1.2.2.2.2.2.2.2.2.2.2.2.2.2.2.2.1, r1.2.2.2.2.2.2.2.2.2.2.2.2.2.2.2.2.1, r1.2.2.2.2.2.2.2.2.2.2.2.2.2.2.2.2.2.1, r1.2.2.2.2.2.2.2.2.2.2.2.2.2.2.2.2.2.2.1, r1.2.2.2.2.2.2.2.2.2.2.2.2.2.2.2.2.2.2.2.1, r1.2.2.2.2.2.2.2.2.2.2.2.2.2.2.2.2.2.2.2.2)))
theorem dX11_enough_0 : decode cX11_enough 0 = .ok (.aload_n 0, 1) := by decide +kernel
theorem dX11_enough_1 : decode cX11_enough 1 = .ok (.getfield 47, 3) := by decide +kernel
theorem dX11_enough_4 : decode cX11_enough 4 = .ok (.aload_n 0, 1) := by decide +kernel
theorem dX11_enough_5 : decode cX11_enough 5 = .ok (.getfield 56, 3) := by decide +kernel
theorem dX11_enough_8 : decode cX11_enough 8 = .ok (.aload_n 0, 1) := by decide +kernel
theorem dX11_enough_9 : decode cX11_enough 9 = .ok (.getfield 64, 3) := by decide +kernel
theorem dX11_enough_12 : decode cX11_enough 12 = .ok (.invokevirtual 255, 3) := by decide +kernel
theorem dX11_enough_15 : decode cX11_enough 15 = .ok (.ireturn, 1) := by decide +kernel
set_option maxHeartbeats 4000000 in
set_option maxRecDepth 100000 in
theorem kX11_enough {l : Launch} {D : va_G} {cy : Nat → ClassId} {N : Nat} {q : Nat → Nat} {m0 : Nat → Value} {a0 : Nat → vp_A} {sz : Nat} (hN : 105 ≤ N) (hsh : SH q m0) {kr : Nat} (hkr : kr < N) (hgk : gk kr = 7) (hrf : m0 7 = .ref (q kr)) {x0_8 : Int64} (h_x0_8 : m0 8 = .long x0_8) {xkr_0 : Int32} (h_xkr_0 : m0 (100 * kr + 0) = .int xkr_0) {xkr_1 : Int32} (h_xkr_1 : m0 (100 * kr + 1) = .int xkr_1) {xkr_2 : Int32} (h_xkr_2 : m0 (100 * kr + 2) = .int xkr_2) {xkr_3 : Int32} (h_xkr_3 : m0 (100 * kr + 3) = .int xkr_3) {x27_6 : Int64} (h_x27_6 : m0 2706 = .long x27_6) {x27_9 : Int64} (h_x27_9 : m0 2709 = .long x27_9) {x27_10 : Int32} (h_x27_10 : m0 2710 = .int x27_10) {x28_2 : Int32} (h_x28_2 : m0 2802 = .int x28_2) {x28_3 : Int32} (h_x28_3 : m0 2803 = .int x28_3) {x31_1 : Int32} (h_x31_1 : m0 3101 = .int x31_1) {x31_2 : Int32} (h_x31_2 : m0 3102 = .int x31_2) {x42_6 : Int32} (h_x42_6 : m0 4206 = .int x42_6) {x42_7 : Int32} (h_x42_7 : m0 4207 = .int x42_7) {A30 : Nat → Int32} (h_A30 : a0 30 = (6001, .inl A30)) {A33 : Nat → Int32} (h_A33 : a0 33 = (10, .inl A33)) {A35 : Nat → Int32} (h_A35 : a0 35 = (60000, .inl A35)) {A37 : Nat → Int32} (h_A37 : a0 37 = (16384, .inl A37)) {A38 : Nat → Int64} (h_A38 : a0 38 = (6000, .inr (.inl A38))) {A44 : Nat → Int32} (h_A44 : a0 44 = (6000, .inl A44)) {A46 : Nat → Int32} (h_A46 : a0 46 = (6000, .inl A46)) {A48 : Nat → Int32} (h_A48 : a0 48 = (6000, .inl A48)) {A50 : Nat → Int32} (h_A50 : a0 50 = (6000, .inl A50)) {A52 : Nat → Int32} (h_A52 : a0 52 = (6000, .inl A52)) {A54 : Nat → Int32} (h_A54 : a0 54 = (6000, .inl A54)) (F : Nat) {X0 : Int32 × Int64 × Int64 × Int32 × Int32 × Int32 × Int32 × Int32 × Int32 × Int32 × (Nat → Int32) × (Nat → Int32) × (Nat → Int32) × (Nat → Int32) × (Nat → Int64) × (Nat → Int32) × (Nat → Int32) × (Nat → Int32) × (Nat → Int32) × (Nat → Int32) × (Nat → Int32)} (hs0 : fX11_enough F x0_8 xkr_0 xkr_1 xkr_2 xkr_3 x27_6 x27_9 x27_10 x28_2 x28_3 x31_1 x31_2 x42_6 x42_7 A30 A33 A35 A37 A38 A44 A46 A48 A50 A52 A54 = some X0) : gMia l yX11_enough cX11_enough 1 (some .int) ({ frames := 7, cells := 7, slots := 28, locals := 173 } : Room) D cy N q m0 a0 sz [.ref (q 0)] 7 28 (fun r m' a' => r = X0.1 ∧ m' 2706 = .long X0.2.1 ∧ m' 2709 = .long X0.2.2.1 ∧ m' 2710 = .int X0.2.2.2.1 ∧ m' 2802 = .int X0.2.2.2.2.1 ∧ m' 2803 = .int X0.2.2.2.2.2.1 ∧ m' 3101 = .int X0.2.2.2.2.2.2.1 ∧ m' 3102 = .int X0.2.2.2.2.2.2.2.1 ∧ m' 4206 = .int X0.2.2.2.2.2.2.2.2.1 ∧ m' 4207 = .int X0.2.2.2.2.2.2.2.2.2.1 ∧ (∀ j, nel j [2706, 2709, 2710, 2802, 2803, 3101, 3102, 4206, 4207] = false → m' j = m0 j) ∧ a' 30 = (6001, .inl X0.2.2.2.2.2.2.2.2.2.2.1) ∧ a' 33 = (10, .inl X0.2.2.2.2.2.2.2.2.2.2.2.1) ∧ a' 35 = (60000, .inl X0.2.2.2.2.2.2.2.2.2.2.2.2.1) ∧ a' 37 = (16384, .inl X0.2.2.2.2.2.2.2.2.2.2.2.2.2.1) ∧ a' 38 = (6000, .inr (.inl X0.2.2.2.2.2.2.2.2.2.2.2.2.2.2.1)) ∧ a' 44 = (6000, .inl X0.2.2.2.2.2.2.2.2.2.2.2.2.2.2.2.1) ∧ a' 46 = (6000, .inl X0.2.2.2.2.2.2.2.2.2.2.2.2.2.2.2.2.1) ∧ a' 48 = (6000, .inl X0.2.2.2.2.2.2.2.2.2.2.2.2.2.2.2.2.2.1) ∧ a' 50 = (6000, .inl X0.2.2.2.2.2.2.2.2.2.2.2.2.2.2.2.2.2.2.1) ∧ a' 52 = (6000, .inl X0.2.2.2.2.2.2.2.2.2.2.2.2.2.2.2.2.2.2.2.1) ∧ a' 54 = (6000, .inl X0.2.2.2.2.2.2.2.2.2.2.2.2.2.2.2.2.2.2.2.2) ∧ (∀ j, nel j [30, 33, 35, 37, 38, 44, 46, 48, 50, 52, 54] = false → a' j = a0 j)) := by
  refine g_ofia (by decide) (Nat.le_of_ble_eq_true rfl) ?_
  intro p e s M args below meth c hx hb hr hG hown hin hlocks hml hW hS ls hl
  unfold fX11_enough at hs0
  have hoff : ∀ j, nel j [2706, 2709, 2710, 2802, 2803, 3101, 3102, 4206, 4207] = false → m0 j = m0 j := off0
  have hoffa : ∀ j, nel j [30, 33, 35, 37, 38, 44, 46, 48, 50, 52, 54] = false → a0 j = a0 j := off0
  refine lv_aload_n hx hb dX11_enough_0 rfl (lv_at hl 0 rfl) ?_
  refine gf11_6 hx hb hG hown hW (o := 0) (ltN hN 0 rfl) gk0 (v := .ref (q 27)) (sh0_6 hsh) gx36 dX11_enough_1 ?_
  refine lv_aload_n hx hb dX11_enough_4 rfl (lv_at hl 0 rfl) ?_
  refine gf11_7 hx hb hG hown hW (o := 0) (ltN hN 0 rfl) gk0 (v := .ref (q kr)) ((hoff 7 rfl).trans hrf) gx40 dX11_enough_5 ?_
  refine lv_aload_n hx hb dX11_enough_8 rfl (lv_at hl 0 rfl) ?_
  refine gf11_8 hx hb hG hown hW (o := 0) (ltN hN 0 rfl) gk0 (v := .long x0_8) ((hoff 8 rfl).trans h_x0_8) gx41 dX11_enough_9 ?_
  obtain ⟨r1, hf1, hs0⟩ := obind hs0
  refine g_Via (n := 2) hx hb hml hown hG hW hS [.ref (q kr), .long x0_8] (kX9_leastAcks hN hsh hkr hgk ((off_kr hoff hgk 0 rfl (by decide)).trans h_xkr_0) ((off_kr hoff hgk 1 rfl (by decide)).trans h_xkr_1) ((off_kr hoff hgk 2 rfl (by decide)).trans h_xkr_2) ((off_kr hoff hgk 3 rfl (by decide)).trans h_xkr_3) h_x27_6 h_x27_9 h_x27_10 h_x28_2 h_x28_3 h_x31_1 h_x31_2 h_x42_6 h_x42_7 h_A30 h_A33 h_A35 h_A37 h_A38 h_A44 h_A46 h_A48 h_A50 h_A52 h_A54 F x0_8 hf1) (ltN hN 27 rfl) gk27 (by decide) rfl rfl (gd_V gx986 gx987 gx988 gx35 gx989) rfl rfl (by decide) ⟨Nat.le_of_ble_eq_true rfl, Nat.le_of_ble_eq_true rfl⟩ rfl hl (Nat.le_of_ble_eq_true rfl) ⟨Nat.le_of_ble_eq_true rfl, Nat.le_of_ble_eq_true rfl⟩ dX11_enough_12 (fun x1 m1 a1 H locs hp1 hW hS => ?_)
  obtain ⟨hx1, hp1_x27_6, hp1_x27_9, hp1_x27_10, hp1_x28_2, hp1_x28_3, hp1_x31_1, hp1_x31_2, hp1_x42_6, hp1_x42_7, ho1, hp1_A30, hp1_A33, hp1_A35, hp1_A37, hp1_A38, hp1_A44, hp1_A46, hp1_A48, hp1_A50, hp1_A52, hp1_A54, hoa1⟩ := hp1
  subst hx1
  have w_x27_6 : m1 2706 = .long r1.2.1 := hp1_x27_6
  have w_x27_9 : m1 2709 = .long r1.2.2.1 := hp1_x27_9
  have w_x27_10 : m1 2710 = .int r1.2.2.2.1 := hp1_x27_10
  have w_x28_2 : m1 2802 = .int r1.2.2.2.2.1 := hp1_x28_2
  have w_x28_3 : m1 2803 = .int r1.2.2.2.2.2.1 := hp1_x28_3
  have w_x31_1 : m1 3101 = .int r1.2.2.2.2.2.2.1 := hp1_x31_1
  have w_x31_2 : m1 3102 = .int r1.2.2.2.2.2.2.2.1 := hp1_x31_2
  have w_x42_6 : m1 4206 = .int r1.2.2.2.2.2.2.2.2.1 := hp1_x42_6
  have w_x42_7 : m1 4207 = .int r1.2.2.2.2.2.2.2.2.2.1 := hp1_x42_7
  have hoff := offm hoff ho1 (by decide +kernel)
  have hsh := SH.off hsh ho1 (by decide +kernel)
  have w_A30 : a1 30 = (6001, .inl r1.2.2.2.2.2.2.2.2.2.2.1) := hp1_A30
  have w_A33 : a1 33 = (10, .inl r1.2.2.2.2.2.2.2.2.2.2.2.1) := hp1_A33
  have w_A35 : a1 35 = (60000, .inl r1.2.2.2.2.2.2.2.2.2.2.2.2.1) := hp1_A35
  have w_A37 : a1 37 = (16384, .inl r1.2.2.2.2.2.2.2.2.2.2.2.2.2.1) := hp1_A37
  have w_A38 : a1 38 = (6000, .inr (.inl r1.2.2.2.2.2.2.2.2.2.2.2.2.2.2.1)) := hp1_A38
  have w_A44 : a1 44 = (6000, .inl r1.2.2.2.2.2.2.2.2.2.2.2.2.2.2.2.1) := hp1_A44
  have w_A46 : a1 46 = (6000, .inl r1.2.2.2.2.2.2.2.2.2.2.2.2.2.2.2.2.1) := hp1_A46
  have w_A48 : a1 48 = (6000, .inl r1.2.2.2.2.2.2.2.2.2.2.2.2.2.2.2.2.2.1) := hp1_A48
  have w_A50 : a1 50 = (6000, .inl r1.2.2.2.2.2.2.2.2.2.2.2.2.2.2.2.2.2.2.1) := hp1_A50
  have w_A52 : a1 52 = (6000, .inl r1.2.2.2.2.2.2.2.2.2.2.2.2.2.2.2.2.2.2.2.1) := hp1_A52
  have w_A54 : a1 54 = (6000, .inl r1.2.2.2.2.2.2.2.2.2.2.2.2.2.2.2.2.2.2.2.2) := hp1_A54
  have hoffa := offm hoffa hoa1 (by decide +kernel)
  have hs0 := Option.some.inj hs0
  subst hs0
  refine W.widen (k := 7) (n := 28) (Nat.le_of_ble_eq_true rfl) (Nat.le_of_ble_eq_true rfl) ?_
  exact W.zret hx hb hr rfl (fun t ht hw => ⟨⟨_, (m1, a1), rfl, ⟨rfl, w_x27_6, w_x27_9, w_x27_10, w_x28_2, w_x28_3, w_x31_1, w_x31_2, w_x42_6, w_x42_7, hoff, w_A30, w_A33, w_A35, w_A37, w_A38, w_A44, w_A46, w_A48, w_A50, w_A52, w_A54, hoffa⟩, g_end hW ht hw⟩, hS.F ht⟩) hS.2.2 dX11_enough_15 hlocks
