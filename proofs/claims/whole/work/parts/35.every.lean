/-! 35.every (by program): the pure function of each method, its rows, its contract -/
-- HealLink$Survey.censusOf (LHealLink$Rules;)LHealLink$Cells;
def fX9_censusOf_J154 (F : Nat) (xkr_0 : Int32) (xkr_1 : Int32) (xkr_2 : Int32) (xkr_3 : Int32) (v3j19 : Int64) (s0j19 : Int32) (s1j19 : Int32) (x27_5j19 : Int32) (x27_6j19 : Int64) (x28_2j19 : Int32) (x28_3j19 : Int32) (x31_1j19 : Int32) (x31_2j19 : Int32) (x42_6j19 : Int32) (x42_7j19 : Int32) (A30j19 : Nat → Int32) (A33j19 : Nat → Int32) (A35j19 : Nat → Int32) (A37j19 : Nat → Int32) (A38j19 : Nat → Int64) (A44j19 : Nat → Int32) (A46j19 : Nat → Int32) (A48j19 : Nat → Int32) (A50j19 : Nat → Int32) (A52j19 : Nat → Int32) (A54j19 : Nat → Int32) (A67j19 : Nat → Int32) : Option (Int32 × Int64 × Int32 × Int32 × Int32 × Int32 × Int32 × Int32 × (Nat → Int32) × (Nat → Int32) × (Nat → Int32) × (Nat → Int32) × (Nat → Int64) × (Nat → Int32) × (Nat → Int32) × (Nat → Int32) × (Nat → Int32) × (Nat → Int32) × (Nat → Int32) × (Nat → Int32)) := some (x27_5j19, x27_6j19, x28_2j19, x28_3j19, x31_1j19, x31_2j19, x42_6j19, x42_7j19, A30j19, A33j19, A35j19, A37j19, A38j19, A44j19, A46j19, A48j19, A50j19, A52j19, A54j19, (cPut 10 (cPut 10 (cPut 10 (cPut 10 (cPut 10 A67j19 s1j19 s0j19) 6 (fX7_lastOf v3j19)) 7 (fX7_packetsIn v3j19)) 8 (fX7_lettersIn v3j19)) 9 (fX7_seenIn v3j19)))
def fX9_censusOf (F : Nat) (xkr_0 : Int32) (xkr_1 : Int32) (xkr_2 : Int32) (xkr_3 : Int32) (x27_5 : Int32) (x27_6 : Int64) (x28_2 : Int32) (x28_3 : Int32) (x31_1 : Int32) (x31_2 : Int32) (x42_6 : Int32) (x42_7 : Int32) (A30 : Nat → Int32) (A33 : Nat → Int32) (A35 : Nat → Int32) (A37 : Nat → Int32) (A38 : Nat → Int64) (A44 : Nat → Int32) (A46 : Nat → Int32) (A48 : Nat → Int32) (A50 : Nat → Int32) (A52 : Nat → Int32) (A54 : Nat → Int32) (A67 : Nat → Int32) : Option (Int32 × Int64 × Int32 × Int32 × Int32 × Int32 × Int32 × Int32 × (Nat → Int32) × (Nat → Int32) × (Nat → Int32) × (Nat → Int32) × (Nat → Int64) × (Nat → Int32) × (Nat → Int32) × (Nat → Int32) × (Nat → Int32) × (Nat → Int32) × (Nat → Int32) × (Nat → Int32)) := (if x27_5 = 0 then ((fX1_chartAll F xkr_0 xkr_1 xkr_2 xkr_3 x28_2 x28_3 x31_1 x31_2 A30 A33 A35 A37 A38).bind (fun r4 => ((fX4_measure F r4.1 r4.2.2.2.2.1 r4.2.2.2.2.2.2.1 x42_6 x42_7 A44 A46 A48 A50 A52 A54).bind (fun r5 => ((fX4_hardest F r5.2.2.1 r4.1).bind (fun r6 => ((fX1_stateAt r4.2.2.2.2.2.2.2.2 r6).bind (fun r7 => (if (fX7_takenOf r7) = 0 then fX9_censusOf_J154 F xkr_0 xkr_1 xkr_2 xkr_3 r7 0 5 1 (-1) r4.1 r4.2.1 r4.2.2.1 r4.2.2.2.1 r5.1 r5.2.1 r4.2.2.2.2.1 r4.2.2.2.2.2.1 r4.2.2.2.2.2.2.1 r4.2.2.2.2.2.2.2.1 r4.2.2.2.2.2.2.2.2 r5.2.2.1 r5.2.2.2.1 r5.2.2.2.2.1 r5.2.2.2.2.2.1 r5.2.2.2.2.2.2.1 r5.2.2.2.2.2.2.2 (cPut 10 (cPut 10 (cPut 10 (cPut 10 (cPut 10 A67 0 (cAt 6000 r5.2.2.1 r6)) 1 r4.1) 2 (fX7_labelOf r7)) 3 (fX7_valueOf r7)) 4 (fX7_acksOf r7)) else fX9_censusOf_J154 F xkr_0 xkr_1 xkr_2 xkr_3 r7 1 5 1 (-1) r4.1 r4.2.1 r4.2.2.1 r4.2.2.2.1 r5.1 r5.2.1 r4.2.2.2.2.1 r4.2.2.2.2.2.1 r4.2.2.2.2.2.2.1 r4.2.2.2.2.2.2.2.1 r4.2.2.2.2.2.2.2.2 r5.2.2.1 r5.2.2.2.1 r5.2.2.2.2.1 r5.2.2.2.2.2.1 r5.2.2.2.2.2.2.1 r5.2.2.2.2.2.2.2 (cPut 10 (cPut 10 (cPut 10 (cPut 10 (cPut 10 A67 0 (cAt 6000 r5.2.2.1 r6)) 1 r4.1) 2 (fX7_labelOf r7)) 3 (fX7_valueOf r7)) 4 (fX7_acksOf r7))))))))))) else some (x27_5, x27_6, x28_2, x28_3, x31_1, x31_2, x42_6, x42_7, A30, A33, A35, A37, A38, A44, A46, A48, A50, A52, A54, A67))
theorem dX9_censusOf_0 : decode cX9_censusOf 0 = .ok (.aload_n 0, 1) := by decide +kernel
theorem dX9_censusOf_1 : decode cX9_censusOf 1 = .ok (.getfield 57, 3) := by decide +kernel
theorem dX9_censusOf_4 : decode cX9_censusOf 4 = .ok (.ifCond .eq 8, 3) := by decide +kernel
theorem dX9_censusOf_7 : decode cX9_censusOf 7 = .ok (.aload_n 0, 1) := by decide +kernel
theorem dX9_censusOf_8 : decode cX9_censusOf 8 = .ok (.getfield 44, 3) := by decide +kernel
theorem dX9_censusOf_11 : decode cX9_censusOf 11 = .ok (.areturn, 1) := by decide +kernel
theorem dX9_censusOf_12 : decode cX9_censusOf 12 = .ok (.aload_n 0, 1) := by decide +kernel
theorem dX9_censusOf_13 : decode cX9_censusOf 13 = .ok (.iconst 1, 1) := by decide +kernel
theorem dX9_censusOf_14 : decode cX9_censusOf 14 = .ok (.putfield 57, 3) := by decide +kernel
theorem dX9_censusOf_17 : decode cX9_censusOf 17 = .ok (.aload_n 0, 1) := by decide +kernel
theorem dX9_censusOf_18 : decode cX9_censusOf 18 = .ok (.ldc2_w 48, 3) := by decide +kernel
theorem dX9_censusOf_21 : decode cX9_censusOf 21 = .ok (.putfield 50, 3) := by decide +kernel
theorem dX9_censusOf_24 : decode cX9_censusOf 24 = .ok (.aload_n 0, 1) := by decide +kernel
theorem dX9_censusOf_25 : decode cX9_censusOf 25 = .ok (.getfield 12, 3) := by decide +kernel
theorem dX9_censusOf_28 : decode cX9_censusOf 28 = .ok (.aload_n 1, 1) := by decide +kernel
theorem dX9_censusOf_29 : decode cX9_censusOf 29 = .ok (.invokevirtual 150, 3) := by decide +kernel
theorem dX9_censusOf_32 : decode cX9_censusOf 32 = .ok (.aload_n 0, 1) := by decide +kernel
theorem dX9_censusOf_33 : decode cX9_censusOf 33 = .ok (.getfield 28, 3) := by decide +kernel
theorem dX9_censusOf_36 : decode cX9_censusOf 36 = .ok (.aload_n 0, 1) := by decide +kernel
theorem dX9_censusOf_37 : decode cX9_censusOf 37 = .ok (.getfield 12, 3) := by decide +kernel
theorem dX9_censusOf_40 : decode cX9_censusOf 40 = .ok (.invokevirtual 74, 3) := by decide +kernel
theorem dX9_censusOf_43 : decode cX9_censusOf 43 = .ok (.aload_n 0, 1) := by decide +kernel
theorem dX9_censusOf_44 : decode cX9_censusOf 44 = .ok (.getfield 28, 3) := by decide +kernel
theorem dX9_censusOf_47 : decode cX9_censusOf 47 = .ok (.aload_n 0, 1) := by decide +kernel
theorem dX9_censusOf_48 : decode cX9_censusOf 48 = .ok (.getfield 12, 3) := by decide +kernel
theorem dX9_censusOf_51 : decode cX9_censusOf 51 = .ok (.getfield 95, 3) := by decide +kernel
theorem dX9_censusOf_54 : decode cX9_censusOf 54 = .ok (.invokevirtual 154, 3) := by decide +kernel
theorem dX9_censusOf_57 : decode cX9_censusOf 57 = .ok (.istore_n 2, 1) := by decide +kernel
theorem dX9_censusOf_58 : decode cX9_censusOf 58 = .ok (.aload_n 0, 1) := by decide +kernel
theorem dX9_censusOf_59 : decode cX9_censusOf 59 = .ok (.getfield 12, 3) := by decide +kernel
theorem dX9_censusOf_62 : decode cX9_censusOf 62 = .ok (.iload_n 2, 1) := by decide +kernel
theorem dX9_censusOf_63 : decode cX9_censusOf 63 = .ok (.invokevirtual 113, 3) := by decide +kernel
theorem dX9_censusOf_66 : decode cX9_censusOf 66 = .ok (.lstore_n 3, 1) := by decide +kernel
theorem dX9_censusOf_67 : decode cX9_censusOf 67 = .ok (.aload_n 0, 1) := by decide +kernel
theorem dX9_censusOf_68 : decode cX9_censusOf 68 = .ok (.getfield 44, 3) := by decide +kernel
theorem dX9_censusOf_71 : decode cX9_censusOf 71 = .ok (.iconst 0, 1) := by decide +kernel
theorem dX9_censusOf_72 : decode cX9_censusOf 72 = .ok (.aload_n 0, 1) := by decide +kernel
theorem dX9_censusOf_73 : decode cX9_censusOf 73 = .ok (.getfield 28, 3) := by decide +kernel
theorem dX9_censusOf_76 : decode cX9_censusOf 76 = .ok (.getfield 78, 3) := by decide +kernel
theorem dX9_censusOf_79 : decode cX9_censusOf 79 = .ok (.iload_n 2, 1) := by decide +kernel
theorem dX9_censusOf_80 : decode cX9_censusOf 80 = .ok (.invokevirtual 81, 3) := by decide +kernel
theorem dX9_censusOf_83 : decode cX9_censusOf 83 = .ok (.invokevirtual 157, 3) := by decide +kernel
theorem dX9_censusOf_86 : decode cX9_censusOf 86 = .ok (.aload_n 0, 1) := by decide +kernel
theorem dX9_censusOf_87 : decode cX9_censusOf 87 = .ok (.getfield 44, 3) := by decide +kernel
theorem dX9_censusOf_90 : decode cX9_censusOf 90 = .ok (.iconst 1, 1) := by decide +kernel
theorem dX9_censusOf_91 : decode cX9_censusOf 91 = .ok (.aload_n 0, 1) := by decide +kernel
theorem dX9_censusOf_92 : decode cX9_censusOf 92 = .ok (.getfield 12, 3) := by decide +kernel
theorem dX9_censusOf_95 : decode cX9_censusOf 95 = .ok (.getfield 95, 3) := by decide +kernel
theorem dX9_censusOf_98 : decode cX9_censusOf 98 = .ok (.invokevirtual 157, 3) := by decide +kernel
theorem dX9_censusOf_101 : decode cX9_censusOf 101 = .ok (.aload_n 0, 1) := by decide +kernel
theorem dX9_censusOf_102 : decode cX9_censusOf 102 = .ok (.getfield 44, 3) := by decide +kernel
theorem dX9_censusOf_105 : decode cX9_censusOf 105 = .ok (.iconst 2, 1) := by decide +kernel
theorem dX9_censusOf_106 : decode cX9_censusOf 106 = .ok (.lload_n 3, 1) := by decide +kernel
theorem dX9_censusOf_107 : decode cX9_censusOf 107 = .ok (.invokestatic 161, 3) := by decide +kernel
theorem dX9_censusOf_110 : decode cX9_censusOf 110 = .ok (.invokevirtual 157, 3) := by decide +kernel
theorem dX9_censusOf_113 : decode cX9_censusOf 113 = .ok (.aload_n 0, 1) := by decide +kernel
theorem dX9_censusOf_114 : decode cX9_censusOf 114 = .ok (.getfield 44, 3) := by decide +kernel
theorem dX9_censusOf_117 : decode cX9_censusOf 117 = .ok (.iconst 3, 1) := by decide +kernel
theorem dX9_censusOf_118 : decode cX9_censusOf 118 = .ok (.lload_n 3, 1) := by decide +kernel
theorem dX9_censusOf_119 : decode cX9_censusOf 119 = .ok (.invokestatic 164, 3) := by decide +kernel
theorem dX9_censusOf_122 : decode cX9_censusOf 122 = .ok (.invokevirtual 157, 3) := by decide +kernel
theorem dX9_censusOf_125 : decode cX9_censusOf 125 = .ok (.aload_n 0, 1) := by decide +kernel
theorem dX9_censusOf_126 : decode cX9_censusOf 126 = .ok (.getfield 44, 3) := by decide +kernel
theorem dX9_censusOf_129 : decode cX9_censusOf 129 = .ok (.iconst 4, 1) := by decide +kernel
theorem dX9_censusOf_130 : decode cX9_censusOf 130 = .ok (.lload_n 3, 1) := by decide +kernel
theorem dX9_censusOf_131 : decode cX9_censusOf 131 = .ok (.invokestatic 136, 3) := by decide +kernel
theorem dX9_censusOf_134 : decode cX9_censusOf 134 = .ok (.invokevirtual 157, 3) := by decide +kernel
theorem dX9_censusOf_137 : decode cX9_censusOf 137 = .ok (.aload_n 0, 1) := by decide +kernel
theorem dX9_censusOf_138 : decode cX9_censusOf 138 = .ok (.getfield 44, 3) := by decide +kernel
theorem dX9_censusOf_141 : decode cX9_censusOf 141 = .ok (.iconst 5, 1) := by decide +kernel
theorem dX9_censusOf_142 : decode cX9_censusOf 142 = .ok (.lload_n 3, 1) := by decide +kernel
theorem dX9_censusOf_143 : decode cX9_censusOf 143 = .ok (.invokestatic 167, 3) := by decide +kernel
theorem dX9_censusOf_146 : decode cX9_censusOf 146 = .ok (.ifCond .eq 7, 3) := by decide +kernel
theorem dX9_censusOf_149 : decode cX9_censusOf 149 = .ok (.iconst 1, 1) := by decide +kernel
theorem dX9_censusOf_150 : decode cX9_censusOf 150 = .ok (.goto 4, 3) := by decide +kernel
theorem dX9_censusOf_153 : decode cX9_censusOf 153 = .ok (.iconst 0, 1) := by decide +kernel
theorem dX9_censusOf_154 : decode cX9_censusOf 154 = .ok (.invokevirtual 157, 3) := by decide +kernel
theorem dX9_censusOf_157 : decode cX9_censusOf 157 = .ok (.aload_n 0, 1) := by decide +kernel
theorem dX9_censusOf_158 : decode cX9_censusOf 158 = .ok (.getfield 44, 3) := by decide +kernel
theorem dX9_censusOf_161 : decode cX9_censusOf 161 = .ok (.bipush 6, 2) := by decide +kernel
theorem dX9_censusOf_163 : decode cX9_censusOf 163 = .ok (.lload_n 3, 1) := by decide +kernel
theorem dX9_censusOf_164 : decode cX9_censusOf 164 = .ok (.invokestatic 171, 3) := by decide +kernel
theorem dX9_censusOf_167 : decode cX9_censusOf 167 = .ok (.invokevirtual 157, 3) := by decide +kernel
theorem dX9_censusOf_170 : decode cX9_censusOf 170 = .ok (.aload_n 0, 1) := by decide +kernel
theorem dX9_censusOf_171 : decode cX9_censusOf 171 = .ok (.getfield 44, 3) := by decide +kernel
theorem dX9_censusOf_174 : decode cX9_censusOf 174 = .ok (.bipush 7, 2) := by decide +kernel
theorem dX9_censusOf_176 : decode cX9_censusOf 176 = .ok (.lload_n 3, 1) := by decide +kernel
theorem dX9_censusOf_177 : decode cX9_censusOf 177 = .ok (.invokestatic 174, 3) := by decide +kernel
theorem dX9_censusOf_180 : decode cX9_censusOf 180 = .ok (.invokevirtual 157, 3) := by decide +kernel
theorem dX9_censusOf_183 : decode cX9_censusOf 183 = .ok (.aload_n 0, 1) := by decide +kernel
theorem dX9_censusOf_184 : decode cX9_censusOf 184 = .ok (.getfield 44, 3) := by decide +kernel
theorem dX9_censusOf_187 : decode cX9_censusOf 187 = .ok (.bipush 8, 2) := by decide +kernel
theorem dX9_censusOf_189 : decode cX9_censusOf 189 = .ok (.lload_n 3, 1) := by decide +kernel
theorem dX9_censusOf_190 : decode cX9_censusOf 190 = .ok (.invokestatic 177, 3) := by decide +kernel
theorem dX9_censusOf_193 : decode cX9_censusOf 193 = .ok (.invokevirtual 157, 3) := by decide +kernel
theorem dX9_censusOf_196 : decode cX9_censusOf 196 = .ok (.aload_n 0, 1) := by decide +kernel
theorem dX9_censusOf_197 : decode cX9_censusOf 197 = .ok (.getfield 44, 3) := by decide +kernel
theorem dX9_censusOf_200 : decode cX9_censusOf 200 = .ok (.bipush 9, 2) := by decide +kernel
theorem dX9_censusOf_202 : decode cX9_censusOf 202 = .ok (.lload_n 3, 1) := by decide +kernel
theorem dX9_censusOf_203 : decode cX9_censusOf 203 = .ok (.invokestatic 180, 3) := by decide +kernel
theorem dX9_censusOf_206 : decode cX9_censusOf 206 = .ok (.invokevirtual 157, 3) := by decide +kernel
theorem dX9_censusOf_209 : decode cX9_censusOf 209 = .ok (.aload_n 0, 1) := by decide +kernel
theorem dX9_censusOf_210 : decode cX9_censusOf 210 = .ok (.getfield 44, 3) := by decide +kernel
theorem dX9_censusOf_213 : decode cX9_censusOf 213 = .ok (.areturn, 1) := by decide +kernel
set_option maxHeartbeats 4000000 in
set_option maxRecDepth 100000 in
theorem kX9_censusOf {l : Launch} {D : va_G} {cy : Nat → ClassId} {N : Nat} {q : Nat → Nat} {m0 : Nat → Value} {a0 : Nat → vp_A} {sz : Nat} (hN : 105 ≤ N) (hsh : SH q m0) {kr : Nat} (hkr : kr < N) (hgk : gk kr = 7) {xkr_0 : Int32} (h_xkr_0 : m0 (100 * kr + 0) = .int xkr_0) {xkr_1 : Int32} (h_xkr_1 : m0 (100 * kr + 1) = .int xkr_1) {xkr_2 : Int32} (h_xkr_2 : m0 (100 * kr + 2) = .int xkr_2) {xkr_3 : Int32} (h_xkr_3 : m0 (100 * kr + 3) = .int xkr_3) {x27_5 : Int32} (h_x27_5 : m0 2705 = .int x27_5) {x27_6 : Int64} (h_x27_6 : m0 2706 = .long x27_6) {x28_2 : Int32} (h_x28_2 : m0 2802 = .int x28_2) {x28_3 : Int32} (h_x28_3 : m0 2803 = .int x28_3) {x31_1 : Int32} (h_x31_1 : m0 3101 = .int x31_1) {x31_2 : Int32} (h_x31_2 : m0 3102 = .int x31_2) {x42_6 : Int32} (h_x42_6 : m0 4206 = .int x42_6) {x42_7 : Int32} (h_x42_7 : m0 4207 = .int x42_7) {A30 : Nat → Int32} (h_A30 : a0 30 = (6001, .inl A30)) {A33 : Nat → Int32} (h_A33 : a0 33 = (10, .inl A33)) {A35 : Nat → Int32} (h_A35 : a0 35 = (60000, .inl A35)) {A37 : Nat → Int32} (h_A37 : a0 37 = (16384, .inl A37)) {A38 : Nat → Int64} (h_A38 : a0 38 = (6000, .inr (.inl A38))) {A44 : Nat → Int32} (h_A44 : a0 44 = (6000, .inl A44)) {A46 : Nat → Int32} (h_A46 : a0 46 = (6000, .inl A46)) {A48 : Nat → Int32} (h_A48 : a0 48 = (6000, .inl A48)) {A50 : Nat → Int32} (h_A50 : a0 50 = (6000, .inl A50)) {A52 : Nat → Int32} (h_A52 : a0 52 = (6000, .inl A52)) {A54 : Nat → Int32} (h_A54 : a0 54 = (6000, .inl A54)) {A67 : Nat → Int32} (h_A67 : a0 67 = (10, .inl A67)) (F : Nat) {X0 : Int32 × Int64 × Int32 × Int32 × Int32 × Int32 × Int32 × Int32 × (Nat → Int32) × (Nat → Int32) × (Nat → Int32) × (Nat → Int32) × (Nat → Int64) × (Nat → Int32) × (Nat → Int32) × (Nat → Int32) × (Nat → Int32) × (Nat → Int32) × (Nat → Int32) × (Nat → Int32)} (hs0 : fX9_censusOf F xkr_0 xkr_1 xkr_2 xkr_3 x27_5 x27_6 x28_2 x28_3 x31_1 x31_2 x42_6 x42_7 A30 A33 A35 A37 A38 A44 A46 A48 A50 A52 A54 A67 = some X0) : gMr l yX9_censusOf cX9_censusOf 5 (some (.object "HealLink$Cells")) ({ frames := 6, cells := 0, slots := 0, locals := 148 } : Room) D cy N q m0 a0 sz [.ref (q 27), .ref (q kr)] 66 (fun m' a' => m' 2705 = .int X0.1 ∧ m' 2706 = .long X0.2.1 ∧ m' 2802 = .int X0.2.2.1 ∧ m' 2803 = .int X0.2.2.2.1 ∧ m' 3101 = .int X0.2.2.2.2.1 ∧ m' 3102 = .int X0.2.2.2.2.2.1 ∧ m' 4206 = .int X0.2.2.2.2.2.2.1 ∧ m' 4207 = .int X0.2.2.2.2.2.2.2.1 ∧ (∀ j, nel j [2705, 2706, 2802, 2803, 3101, 3102, 4206, 4207] = false → m' j = m0 j) ∧ a' 30 = (6001, .inl X0.2.2.2.2.2.2.2.2.1) ∧ a' 33 = (10, .inl X0.2.2.2.2.2.2.2.2.2.1) ∧ a' 35 = (60000, .inl X0.2.2.2.2.2.2.2.2.2.2.1) ∧ a' 37 = (16384, .inl X0.2.2.2.2.2.2.2.2.2.2.2.1) ∧ a' 38 = (6000, .inr (.inl X0.2.2.2.2.2.2.2.2.2.2.2.2.1)) ∧ a' 44 = (6000, .inl X0.2.2.2.2.2.2.2.2.2.2.2.2.2.1) ∧ a' 46 = (6000, .inl X0.2.2.2.2.2.2.2.2.2.2.2.2.2.2.1) ∧ a' 48 = (6000, .inl X0.2.2.2.2.2.2.2.2.2.2.2.2.2.2.2.1) ∧ a' 50 = (6000, .inl X0.2.2.2.2.2.2.2.2.2.2.2.2.2.2.2.2.1) ∧ a' 52 = (6000, .inl X0.2.2.2.2.2.2.2.2.2.2.2.2.2.2.2.2.2.1) ∧ a' 54 = (6000, .inl X0.2.2.2.2.2.2.2.2.2.2.2.2.2.2.2.2.2.2.1) ∧ a' 67 = (10, .inl X0.2.2.2.2.2.2.2.2.2.2.2.2.2.2.2.2.2.2.2) ∧ (∀ j, nel j [30, 33, 35, 37, 38, 44, 46, 48, 50, 52, 54, 67] = false → a' j = a0 j)) := by
  refine g_ofr (by decide) (Nat.le_of_ble_eq_true rfl) ?_
  intro p e s M args below meth c hx hb hr hG hown hin hlocks hml hW hS ls hl
  unfold fX9_censusOf at hs0
  have hoff : ∀ j, nel j [2705, 2706, 2802, 2803, 3101, 3102, 4206, 4207] = false → m0 j = m0 j := off0
  have hoffa : ∀ j, nel j [30, 33, 35, 37, 38, 44, 46, 48, 50, 52, 54, 67] = false → a0 j = a0 j := off0
  have hJ154_0 : ∀ (v3j19 : Int64) (s0j19 : Int32) (s1j19 : Int32) (x27_5j19 : Int32) (x27_6j19 : Int64) (x28_2j19 : Int32) (x28_3j19 : Int32) (x31_1j19 : Int32) (x31_2j19 : Int32) (x42_6j19 : Int32) (x42_7j19 : Int32) (A30j19 : Nat → Int32) (A33j19 : Nat → Int32) (A35j19 : Nat → Int32) (A37j19 : Nat → Int32) (A38j19 : Nat → Int64) (A44j19 : Nat → Int32) (A46j19 : Nat → Int32) (A48j19 : Nat → Int32) (A50j19 : Nat → Int32) (A52j19 : Nat → Int32) (A54j19 : Nat → Int32) (A67j19 : Nat → Int32) (m : Nat → Value) (a : Nat → vp_A) (H : Heap) (locs : List Loc) (w_x27_5 : m 2705 = .int x27_5j19) (w_x27_6 : m 2706 = .long x27_6j19) (w_x28_2 : m 2802 = .int x28_2j19) (w_x28_3 : m 2803 = .int x28_3j19) (w_x31_1 : m 3101 = .int x31_1j19) (w_x31_2 : m 3102 = .int x31_2j19) (w_x42_6 : m 4206 = .int x42_6j19) (w_x42_7 : m 4207 = .int x42_7j19) (hoff : ∀ j, nel j [2705, 2706, 2802, 2803, 3101, 3102, 4206, 4207] = false → m j = m0 j) (hsh : SH q m) (w_A30 : a 30 = (6001, .inl A30j19)) (w_A33 : a 33 = (10, .inl A33j19)) (w_A35 : a 35 = (60000, .inl A35j19)) (w_A37 : a 37 = (16384, .inl A37j19)) (w_A38 : a 38 = (6000, .inr (.inl A38j19))) (w_A44 : a 44 = (6000, .inl A44j19)) (w_A46 : a 46 = (6000, .inl A46j19)) (w_A48 : a 48 = (6000, .inl A48j19)) (w_A50 : a 50 = (6000, .inl A50j19)) (w_A52 : a 52 = (6000, .inl A52j19)) (w_A54 : a 54 = (6000, .inl A54j19)) (w_A67 : a 67 = (10, .inl A67j19)) (hoffa : ∀ j, nel j [30, 33, 35, 37, 38, 44, 46, 48, 50, 52, 54, 67] = false → a j = a0 j) (ls : Array Slot) (hl : lv_has ls 5 [(0, .ref (q 27)), (3, .long v3j19)]) (hs0 : fX9_censusOf_J154 F xkr_0 xkr_1 xkr_2 xkr_3 v3j19 s0j19 s1j19 x27_5j19 x27_6j19 x28_2j19 x28_3j19 x31_1j19 x31_2j19 x42_6j19 x42_7j19 A30j19 A33j19 A35j19 A37j19 A38j19 A44j19 A46j19 A48j19 A50j19 A52j19 A54j19 A67j19 = some X0) (hW : GW D cy (gA N q s.heap.size) N q m a s H) (hS : va_S (gA N q s.heap.size) s.heap H locs), W p l e ({ frames := 6, cells := 0, slots := 0, locals := 148 } : Room) s M args below meth c H locs 0 0 (MQ below (va_Qr (fun (u : (Nat → Value) × (Nat → vp_A)) => u.1 2705 = .int X0.1 ∧ u.1 2706 = .long X0.2.1 ∧ u.1 2802 = .int X0.2.2.1 ∧ u.1 2803 = .int X0.2.2.2.1 ∧ u.1 3101 = .int X0.2.2.2.2.1 ∧ u.1 3102 = .int X0.2.2.2.2.2.1 ∧ u.1 4206 = .int X0.2.2.2.2.2.2.1 ∧ u.1 4207 = .int X0.2.2.2.2.2.2.2.1 ∧ (∀ j, nel j [2705, 2706, 2802, 2803, 3101, 3102, 4206, 4207] = false → u.1 j = m0 j) ∧ u.2 30 = (6001, .inl X0.2.2.2.2.2.2.2.2.1) ∧ u.2 33 = (10, .inl X0.2.2.2.2.2.2.2.2.2.1) ∧ u.2 35 = (60000, .inl X0.2.2.2.2.2.2.2.2.2.2.1) ∧ u.2 37 = (16384, .inl X0.2.2.2.2.2.2.2.2.2.2.2.1) ∧ u.2 38 = (6000, .inr (.inl X0.2.2.2.2.2.2.2.2.2.2.2.2.1)) ∧ u.2 44 = (6000, .inl X0.2.2.2.2.2.2.2.2.2.2.2.2.2.1) ∧ u.2 46 = (6000, .inl X0.2.2.2.2.2.2.2.2.2.2.2.2.2.2.1) ∧ u.2 48 = (6000, .inl X0.2.2.2.2.2.2.2.2.2.2.2.2.2.2.2.1) ∧ u.2 50 = (6000, .inl X0.2.2.2.2.2.2.2.2.2.2.2.2.2.2.2.2.1) ∧ u.2 52 = (6000, .inl X0.2.2.2.2.2.2.2.2.2.2.2.2.2.2.2.2.2.1) ∧ u.2 54 = (6000, .inl X0.2.2.2.2.2.2.2.2.2.2.2.2.2.2.2.2.2.2.1) ∧ u.2 67 = (10, .inl X0.2.2.2.2.2.2.2.2.2.2.2.2.2.2.2.2.2.2.2) ∧ (∀ j, nel j [30, 33, 35, 37, 38, 44, 46, 48, 50, 52, 54, 67] = false → u.2 j = a0 j)) (fun u x t => x = q 66 ∧ gB D cy N q s.heap.size u t) (gA N q s.heap.size)) args s 0 0 (gA N q s.heap.size)) (F0 M 154 ls [.int s0j19, .int s1j19, .ref (q 66)]) := by
    intro v3j19 s0j19 s1j19 x27_5j19 x27_6j19 x28_2j19 x28_3j19 x31_1j19 x31_2j19 x42_6j19 x42_7j19 A30j19 A33j19 A35j19 A37j19 A38j19 A44j19 A46j19 A48j19 A50j19 A52j19 A54j19 A67j19 m a H locs w_x27_5 w_x27_6 w_x28_2 w_x28_3 w_x31_1 w_x31_2 w_x42_6 w_x42_7 hoff hsh w_A30 w_A33 w_A35 w_A37 w_A38 w_A44 w_A46 w_A48 w_A50 w_A52 w_A54 w_A67 hoffa ls hl hs0 hW hS
    unfold fX9_censusOf_J154 at hs0
    refine g_Vv (n := 2) hx hb hml hown hG hW hS [.int s1j19, .int s0j19] (kX2_put (ltN hN 66 rfl) gk66 (ltN hN 67 rfl) gk67 (sh66_0 hsh) (by decide) w_A67 s1j19 s0j19) (ltN hN 66 rfl) gk66 (by decide) rfl rfl (gd_V gx1041 gx551 gx552 gx47 gx553) rfl rfl (by decide) ⟨Nat.le_of_ble_eq_true rfl, Nat.le_of_ble_eq_true rfl⟩ rfl hl (Nat.le_of_ble_eq_true rfl) ⟨Nat.zero_le _, Nat.zero_le _⟩ dX9_censusOf_154 (fun m20 a20 H locs hp20 hW hS => ?_)
    obtain ⟨hm20, hp20_A67, hoa20⟩ := hp20
    rw [hm20] at hW
    have w_A30 : a20 30 = (6001, .inl A30j19) := (hoa20 30 rfl).trans w_A30
    have w_A33 : a20 33 = (10, .inl A33j19) := (hoa20 33 rfl).trans w_A33
    have w_A35 : a20 35 = (60000, .inl A35j19) := (hoa20 35 rfl).trans w_A35
    have w_A37 : a20 37 = (16384, .inl A37j19) := (hoa20 37 rfl).trans w_A37
    have w_A38 : a20 38 = (6000, .inr (.inl A38j19)) := (hoa20 38 rfl).trans w_A38
    have w_A44 : a20 44 = (6000, .inl A44j19) := (hoa20 44 rfl).trans w_A44
    have w_A46 : a20 46 = (6000, .inl A46j19) := (hoa20 46 rfl).trans w_A46
    have w_A48 : a20 48 = (6000, .inl A48j19) := (hoa20 48 rfl).trans w_A48
    have w_A50 : a20 50 = (6000, .inl A50j19) := (hoa20 50 rfl).trans w_A50
    have w_A52 : a20 52 = (6000, .inl A52j19) := (hoa20 52 rfl).trans w_A52
    have w_A54 : a20 54 = (6000, .inl A54j19) := (hoa20 54 rfl).trans w_A54
    have w_A67 : a20 67 = (10, .inl (cPut 10 A67j19 s1j19 s0j19)) := hp20_A67
    have hoffa := offm hoffa hoa20 (by decide +kernel)
    refine lv_aload_n hx hb dX9_censusOf_157 rfl (lv_at hl 0 rfl) ?_
    refine gf9_4 hx hb hG hown hW (o := 27) (ltN hN 27 rfl) gk27 (v := .ref (q 66)) (sh27_4 hsh) gx101 dX9_censusOf_158 ?_
    refine lv_bipush (v := 6) hx hb dX9_censusOf_161 (by decide) ?_
    refine lv_lload_n hx hb dX9_censusOf_163 rfl (lv_at hl 1 rfl) ?_
    refine g_SiR (n := 1) hx hb hml hown hG hW hS [.long v3j19] (kX7_lastOf hN v3j19) rfl (gd_S gx1045 gx294 gx39 gx295) rfl rfl (by decide) ⟨Nat.le_of_ble_eq_true rfl, Nat.le_of_ble_eq_true rfl⟩ rfl hl (Nat.le_of_ble_eq_true rfl) ⟨Nat.zero_le _, Nat.zero_le _⟩ dX9_censusOf_164 (fun H locs hW hS => ?_)
    refine g_Vv (n := 2) hx hb hml hown hG hW hS [.int 6, .int (fX7_lastOf v3j19)] (kX2_put (ltN hN 66 rfl) gk66 (ltN hN 67 rfl) gk67 (sh66_0 hsh) (by decide) w_A67 6 (fX7_lastOf v3j19)) (ltN hN 66 rfl) gk66 (by decide) rfl rfl (gd_V gx1041 gx551 gx552 gx47 gx553) rfl rfl (by decide) ⟨Nat.le_of_ble_eq_true rfl, Nat.le_of_ble_eq_true rfl⟩ rfl hl (Nat.le_of_ble_eq_true rfl) ⟨Nat.zero_le _, Nat.zero_le _⟩ dX9_censusOf_167 (fun m22 a22 H locs hp22 hW hS => ?_)
    obtain ⟨hm22, hp22_A67, hoa22⟩ := hp22
    rw [hm22] at hW
    have w_A30 : a22 30 = (6001, .inl A30j19) := (hoa22 30 rfl).trans w_A30
    have w_A33 : a22 33 = (10, .inl A33j19) := (hoa22 33 rfl).trans w_A33
    have w_A35 : a22 35 = (60000, .inl A35j19) := (hoa22 35 rfl).trans w_A35
    have w_A37 : a22 37 = (16384, .inl A37j19) := (hoa22 37 rfl).trans w_A37
    have w_A38 : a22 38 = (6000, .inr (.inl A38j19)) := (hoa22 38 rfl).trans w_A38
    have w_A44 : a22 44 = (6000, .inl A44j19) := (hoa22 44 rfl).trans w_A44
    have w_A46 : a22 46 = (6000, .inl A46j19) := (hoa22 46 rfl).trans w_A46
    have w_A48 : a22 48 = (6000, .inl A48j19) := (hoa22 48 rfl).trans w_A48
    have w_A50 : a22 50 = (6000, .inl A50j19) := (hoa22 50 rfl).trans w_A50
    have w_A52 : a22 52 = (6000, .inl A52j19) := (hoa22 52 rfl).trans w_A52
    have w_A54 : a22 54 = (6000, .inl A54j19) := (hoa22 54 rfl).trans w_A54
    have w_A67 : a22 67 = (10, .inl (cPut 10 (cPut 10 A67j19 s1j19 s0j19) 6 (fX7_lastOf v3j19))) := hp22_A67
    have hoffa := offm hoffa hoa22 (by decide +kernel)
    refine lv_aload_n hx hb dX9_censusOf_170 rfl (lv_at hl 0 rfl) ?_
    refine gf9_4 hx hb hG hown hW (o := 27) (ltN hN 27 rfl) gk27 (v := .ref (q 66)) (sh27_4 hsh) gx101 dX9_censusOf_171 ?_
    refine lv_bipush (v := 7) hx hb dX9_censusOf_174 (by decide) ?_
    refine lv_lload_n hx hb dX9_censusOf_176 rfl (lv_at hl 1 rfl) ?_
    refine g_SiR (n := 1) hx hb hml hown hG hW hS [.long v3j19] (kX7_packetsIn hN v3j19) rfl (gd_S gx1046 gx343 gx39 gx344) rfl rfl (by decide) ⟨Nat.le_of_ble_eq_true rfl, Nat.le_of_ble_eq_true rfl⟩ rfl hl (Nat.le_of_ble_eq_true rfl) ⟨Nat.zero_le _, Nat.zero_le _⟩ dX9_censusOf_177 (fun H locs hW hS => ?_)
    refine g_Vv (n := 2) hx hb hml hown hG hW hS [.int 7, .int (fX7_packetsIn v3j19)] (kX2_put (ltN hN 66 rfl) gk66 (ltN hN 67 rfl) gk67 (sh66_0 hsh) (by decide) w_A67 7 (fX7_packetsIn v3j19)) (ltN hN 66 rfl) gk66 (by decide) rfl rfl (gd_V gx1041 gx551 gx552 gx47 gx553) rfl rfl (by decide) ⟨Nat.le_of_ble_eq_true rfl, Nat.le_of_ble_eq_true rfl⟩ rfl hl (Nat.le_of_ble_eq_true rfl) ⟨Nat.zero_le _, Nat.zero_le _⟩ dX9_censusOf_180 (fun m24 a24 H locs hp24 hW hS => ?_)
    obtain ⟨hm24, hp24_A67, hoa24⟩ := hp24
    rw [hm24] at hW
    have w_A30 : a24 30 = (6001, .inl A30j19) := (hoa24 30 rfl).trans w_A30
    have w_A33 : a24 33 = (10, .inl A33j19) := (hoa24 33 rfl).trans w_A33
    have w_A35 : a24 35 = (60000, .inl A35j19) := (hoa24 35 rfl).trans w_A35
    have w_A37 : a24 37 = (16384, .inl A37j19) := (hoa24 37 rfl).trans w_A37
    have w_A38 : a24 38 = (6000, .inr (.inl A38j19)) := (hoa24 38 rfl).trans w_A38
    have w_A44 : a24 44 = (6000, .inl A44j19) := (hoa24 44 rfl).trans w_A44
    have w_A46 : a24 46 = (6000, .inl A46j19) := (hoa24 46 rfl).trans w_A46
    have w_A48 : a24 48 = (6000, .inl A48j19) := (hoa24 48 rfl).trans w_A48
    have w_A50 : a24 50 = (6000, .inl A50j19) := (hoa24 50 rfl).trans w_A50
    have w_A52 : a24 52 = (6000, .inl A52j19) := (hoa24 52 rfl).trans w_A52
    have w_A54 : a24 54 = (6000, .inl A54j19) := (hoa24 54 rfl).trans w_A54
    have w_A67 : a24 67 = (10, .inl (cPut 10 (cPut 10 (cPut 10 A67j19 s1j19 s0j19) 6 (fX7_lastOf v3j19)) 7 (fX7_packetsIn v3j19))) := hp24_A67
    have hoffa := offm hoffa hoa24 (by decide +kernel)
    refine lv_aload_n hx hb dX9_censusOf_183 rfl (lv_at hl 0 rfl) ?_
    refine gf9_4 hx hb hG hown hW (o := 27) (ltN hN 27 rfl) gk27 (v := .ref (q 66)) (sh27_4 hsh) gx101 dX9_censusOf_184 ?_
    refine lv_bipush (v := 8) hx hb dX9_censusOf_187 (by decide) ?_
    refine lv_lload_n hx hb dX9_censusOf_189 rfl (lv_at hl 1 rfl) ?_
    refine g_SiR (n := 1) hx hb hml hown hG hW hS [.long v3j19] (kX7_lettersIn hN v3j19) rfl (gd_S gx1047 gx372 gx39 gx373) rfl rfl (by decide) ⟨Nat.le_of_ble_eq_true rfl, Nat.le_of_ble_eq_true rfl⟩ rfl hl (Nat.le_of_ble_eq_true rfl) ⟨Nat.zero_le _, Nat.zero_le _⟩ dX9_censusOf_190 (fun H locs hW hS => ?_)
    refine g_Vv (n := 2) hx hb hml hown hG hW hS [.int 8, .int (fX7_lettersIn v3j19)] (kX2_put (ltN hN 66 rfl) gk66 (ltN hN 67 rfl) gk67 (sh66_0 hsh) (by decide) w_A67 8 (fX7_lettersIn v3j19)) (ltN hN 66 rfl) gk66 (by decide) rfl rfl (gd_V gx1041 gx551 gx552 gx47 gx553) rfl rfl (by decide) ⟨Nat.le_of_ble_eq_true rfl, Nat.le_of_ble_eq_true rfl⟩ rfl hl (Nat.le_of_ble_eq_true rfl) ⟨Nat.zero_le _, Nat.zero_le _⟩ dX9_censusOf_193 (fun m26 a26 H locs hp26 hW hS => ?_)
    obtain ⟨hm26, hp26_A67, hoa26⟩ := hp26
    rw [hm26] at hW
    have w_A30 : a26 30 = (6001, .inl A30j19) := (hoa26 30 rfl).trans w_A30
    have w_A33 : a26 33 = (10, .inl A33j19) := (hoa26 33 rfl).trans w_A33
    have w_A35 : a26 35 = (60000, .inl A35j19) := (hoa26 35 rfl).trans w_A35
    have w_A37 : a26 37 = (16384, .inl A37j19) := (hoa26 37 rfl).trans w_A37
    have w_A38 : a26 38 = (6000, .inr (.inl A38j19)) := (hoa26 38 rfl).trans w_A38
    have w_A44 : a26 44 = (6000, .inl A44j19) := (hoa26 44 rfl).trans w_A44
    have w_A46 : a26 46 = (6000, .inl A46j19) := (hoa26 46 rfl).trans w_A46
    have w_A48 : a26 48 = (6000, .inl A48j19) := (hoa26 48 rfl).trans w_A48
    have w_A50 : a26 50 = (6000, .inl A50j19) := (hoa26 50 rfl).trans w_A50
    have w_A52 : a26 52 = (6000, .inl A52j19) := (hoa26 52 rfl).trans w_A52
    have w_A54 : a26 54 = (6000, .inl A54j19) := (hoa26 54 rfl).trans w_A54
    have w_A67 : a26 67 = (10, .inl (cPut 10 (cPut 10 (cPut 10 (cPut 10 A67j19 s1j19 s0j19) 6 (fX7_lastOf v3j19)) 7 (fX7_packetsIn v3j19)) 8 (fX7_lettersIn v3j19))) := hp26_A67
    have hoffa := offm hoffa hoa26 (by decide +kernel)
    refine lv_aload_n hx hb dX9_censusOf_196 rfl (lv_at hl 0 rfl) ?_
    refine gf9_4 hx hb hG hown hW (o := 27) (ltN hN 27 rfl) gk27 (v := .ref (q 66)) (sh27_4 hsh) gx101 dX9_censusOf_197 ?_
    refine lv_bipush (v := 9) hx hb dX9_censusOf_200 (by decide) ?_
    refine lv_lload_n hx hb dX9_censusOf_202 rfl (lv_at hl 1 rfl) ?_
    refine g_SiR (n := 1) hx hb hml hown hG hW hS [.long v3j19] (kX7_seenIn hN v3j19) rfl (gd_S gx1048 gx1049 gx39 gx1050) rfl rfl (by decide) ⟨Nat.le_of_ble_eq_true rfl, Nat.le_of_ble_eq_true rfl⟩ rfl hl (Nat.le_of_ble_eq_true rfl) ⟨Nat.zero_le _, Nat.zero_le _⟩ dX9_censusOf_203 (fun H locs hW hS => ?_)
    refine g_Vv (n := 2) hx hb hml hown hG hW hS [.int 9, .int (fX7_seenIn v3j19)] (kX2_put (ltN hN 66 rfl) gk66 (ltN hN 67 rfl) gk67 (sh66_0 hsh) (by decide) w_A67 9 (fX7_seenIn v3j19)) (ltN hN 66 rfl) gk66 (by decide) rfl rfl (gd_V gx1041 gx551 gx552 gx47 gx553) rfl rfl (by decide) ⟨Nat.le_of_ble_eq_true rfl, Nat.le_of_ble_eq_true rfl⟩ rfl hl (Nat.le_of_ble_eq_true rfl) ⟨Nat.zero_le _, Nat.zero_le _⟩ dX9_censusOf_206 (fun m28 a28 H locs hp28 hW hS => ?_)
    obtain ⟨hm28, hp28_A67, hoa28⟩ := hp28
    rw [hm28] at hW
    have w_A30 : a28 30 = (6001, .inl A30j19) := (hoa28 30 rfl).trans w_A30
    have w_A33 : a28 33 = (10, .inl A33j19) := (hoa28 33 rfl).trans w_A33
    have w_A35 : a28 35 = (60000, .inl A35j19) := (hoa28 35 rfl).trans w_A35
    have w_A37 : a28 37 = (16384, .inl A37j19) := (hoa28 37 rfl).trans w_A37
    have w_A38 : a28 38 = (6000, .inr (.inl A38j19)) := (hoa28 38 rfl).trans w_A38
    have w_A44 : a28 44 = (6000, .inl A44j19) := (hoa28 44 rfl).trans w_A44
    have w_A46 : a28 46 = (6000, .inl A46j19) := (hoa28 46 rfl).trans w_A46
    have w_A48 : a28 48 = (6000, .inl A48j19) := (hoa28 48 rfl).trans w_A48
    have w_A50 : a28 50 = (6000, .inl A50j19) := (hoa28 50 rfl).trans w_A50
    have w_A52 : a28 52 = (6000, .inl A52j19) := (hoa28 52 rfl).trans w_A52
    have w_A54 : a28 54 = (6000, .inl A54j19) := (hoa28 54 rfl).trans w_A54
    have w_A67 : a28 67 = (10, .inl (cPut 10 (cPut 10 (cPut 10 (cPut 10 (cPut 10 A67j19 s1j19 s0j19) 6 (fX7_lastOf v3j19)) 7 (fX7_packetsIn v3j19)) 8 (fX7_lettersIn v3j19)) 9 (fX7_seenIn v3j19))) := hp28_A67
    have hoffa := offm hoffa hoa28 (by decide +kernel)
    refine lv_aload_n hx hb dX9_censusOf_209 rfl (lv_at hl 0 rfl) ?_
    refine gf9_4 hx hb hG hown hW (o := 27) (ltN hN 27 rfl) gk27 (v := .ref (q 66)) (sh27_4 hsh) gx101 dX9_censusOf_210 ?_
    have hs0 := Option.some.inj hs0
    subst hs0
    exact W.aret (v := .ref (q 66)) hx hb hr (Or.inl ⟨_, rfl⟩) (Or.inr ⟨_, rfl⟩) (fun t ht hw => ⟨⟨(m, a28), q 66, rfl, ⟨w_x27_5, w_x27_6, w_x28_2, w_x28_3, w_x31_1, w_x31_2, w_x42_6, w_x42_7, hoff, w_A30, w_A33, w_A35, w_A37, w_A38, w_A44, w_A46, w_A48, w_A50, w_A52, w_A54, w_A67, hoffa⟩, rfl, g_end hW ht hw⟩, hS.F ht⟩) hS.2.2 dX9_censusOf_213 hlocks
  refine lv_aload_n hx hb dX9_censusOf_0 rfl (lv_at hl 0 rfl) ?_
  refine gf9_5 hx hb hG hown hW (o := 27) (ltN hN 27 rfl) gk27 (v := .int x27_5) h_x27_5 gx241 dX9_censusOf_1 ?_
  refine lv_if_eq (tgt := 12) hx hb dX9_censusOf_4 (by decide) (fun c1 => ?_) (fun c1 => ?_)
  · rw [if_pos c1] at hs0
    refine lv_aload_n hx hb dX9_censusOf_12 rfl (lv_at hl 0 rfl) ?_
    refine lv_iconst (v := 1) hx hb dX9_censusOf_13 (by decide) ?_
    refine gp9_5 hx hb hG hown hW hS (o := 27) (ltN hN 27 rfl) gk27 (v := 1) (by decide) gx241 dX9_censusOf_14 (fun m2 H locs hm2 ho2 hW hS => ?_)
    have ho2 := off1 ho2
    have w_x27_5 : m2 2705 = .int 1 := hm2
    have w_x27_6 : m2 2706 = .long x27_6 := (ho2 2706 rfl).trans h_x27_6
    have w_x28_2 : m2 2802 = .int x28_2 := (ho2 2802 rfl).trans h_x28_2
    have w_x28_3 : m2 2803 = .int x28_3 := (ho2 2803 rfl).trans h_x28_3
    have w_x31_1 : m2 3101 = .int x31_1 := (ho2 3101 rfl).trans h_x31_1
    have w_x31_2 : m2 3102 = .int x31_2 := (ho2 3102 rfl).trans h_x31_2
    have w_x42_6 : m2 4206 = .int x42_6 := (ho2 4206 rfl).trans h_x42_6
    have w_x42_7 : m2 4207 = .int x42_7 := (ho2 4207 rfl).trans h_x42_7
    have hoff := offm hoff ho2 (by decide +kernel)
    have hsh := SH.off hsh ho2 (by decide +kernel)
    refine lv_aload_n hx hb dX9_censusOf_17 rfl (lv_at hl 0 rfl) ?_
    refine lv_ldc2 (v := (-1)) hx hb hown (hG _ gx102) dX9_censusOf_18 ?_
    refine gp9_6 hx hb hG hown hW hS (o := 27) (ltN hN 27 rfl) gk27 (v := (-1)) gx103 dX9_censusOf_21 (fun m3 H locs hm3 ho3 hW hS => ?_)
    have ho3 := off1 ho3
    have w_x27_5 : m3 2705 = .int 1 := (ho3 2705 rfl).trans w_x27_5
    have w_x27_6 : m3 2706 = .long (-1) := hm3
    have w_x28_2 : m3 2802 = .int x28_2 := (ho3 2802 rfl).trans w_x28_2
    have w_x28_3 : m3 2803 = .int x28_3 := (ho3 2803 rfl).trans w_x28_3
    have w_x31_1 : m3 3101 = .int x31_1 := (ho3 3101 rfl).trans w_x31_1
    have w_x31_2 : m3 3102 = .int x31_2 := (ho3 3102 rfl).trans w_x31_2
    have w_x42_6 : m3 4206 = .int x42_6 := (ho3 4206 rfl).trans w_x42_6
    have w_x42_7 : m3 4207 = .int x42_7 := (ho3 4207 rfl).trans w_x42_7
    have hoff := offm hoff ho3 (by decide +kernel)
    have hsh := SH.off hsh ho3 (by decide +kernel)
    refine lv_aload_n hx hb dX9_censusOf_24 rfl (lv_at hl 0 rfl) ?_
    refine gf9_0 hx hb hG hown hW (o := 27) (ltN hN 27 rfl) gk27 (v := .ref (q 28)) (sh27_0 hsh) gx87 dX9_censusOf_25 ?_
    refine lv_aload_n hx hb dX9_censusOf_28 rfl (lv_at hl 1 rfl) ?_
    obtain ⟨r4, hf4, hs0⟩ := obind hs0
    refine g_Vv (n := 1) hx hb hml hown hG hW hS [.ref (q kr)] (kX1_chartAll hN hsh hkr hgk ((off_kr hoff hgk 0 rfl (by decide)).trans h_xkr_0) ((off_kr hoff hgk 1 rfl (by decide)).trans h_xkr_1) ((off_kr hoff hgk 2 rfl (by decide)).trans h_xkr_2) ((off_kr hoff hgk 3 rfl (by decide)).trans h_xkr_3) w_x28_2 w_x28_3 w_x31_1 w_x31_2 h_A30 h_A33 h_A35 h_A37 h_A38 F hf4) (ltN hN 28 rfl) gk28 (by decide) rfl rfl (gd_V gx1018 gx1019 gx1020 gx86 gx1021) rfl rfl (by decide) ⟨Nat.le_of_ble_eq_true rfl, Nat.le_of_ble_eq_true rfl⟩ rfl hl (Nat.le_of_ble_eq_true rfl) ⟨Nat.zero_le _, Nat.zero_le _⟩ dX9_censusOf_29 (fun m4 a4 H locs hp4 hW hS => ?_)
    obtain ⟨hp4_x28_2, hp4_x28_3, hp4_x31_1, hp4_x31_2, ho4, hp4_A30, hp4_A33, hp4_A35, hp4_A37, hp4_A38, hoa4⟩ := hp4
    have w_x27_5 : m4 2705 = .int 1 := (ho4 2705 rfl).trans w_x27_5
    have w_x27_6 : m4 2706 = .long (-1) := (ho4 2706 rfl).trans w_x27_6
    have w_x28_2 : m4 2802 = .int r4.1 := hp4_x28_2
    have w_x28_3 : m4 2803 = .int r4.2.1 := hp4_x28_3
    have w_x31_1 : m4 3101 = .int r4.2.2.1 := hp4_x31_1
    have w_x31_2 : m4 3102 = .int r4.2.2.2.1 := hp4_x31_2
    have w_x42_6 : m4 4206 = .int x42_6 := (ho4 4206 rfl).trans w_x42_6
    have w_x42_7 : m4 4207 = .int x42_7 := (ho4 4207 rfl).trans w_x42_7
    have hoff := offm hoff ho4 (by decide +kernel)
    have hsh := SH.off hsh ho4 (by decide +kernel)
    have w_A30 : a4 30 = (6001, .inl r4.2.2.2.2.1) := hp4_A30
    have w_A33 : a4 33 = (10, .inl r4.2.2.2.2.2.1) := hp4_A33
    have w_A35 : a4 35 = (60000, .inl r4.2.2.2.2.2.2.1) := hp4_A35
    have w_A37 : a4 37 = (16384, .inl r4.2.2.2.2.2.2.2.1) := hp4_A37
    have w_A38 : a4 38 = (6000, .inr (.inl r4.2.2.2.2.2.2.2.2)) := hp4_A38
    have w_A44 : a4 44 = (6000, .inl A44) := (hoa4 44 rfl).trans h_A44
    have w_A46 : a4 46 = (6000, .inl A46) := (hoa4 46 rfl).trans h_A46
    have w_A48 : a4 48 = (6000, .inl A48) := (hoa4 48 rfl).trans h_A48
    have w_A50 : a4 50 = (6000, .inl A50) := (hoa4 50 rfl).trans h_A50
    have w_A52 : a4 52 = (6000, .inl A52) := (hoa4 52 rfl).trans h_A52
    have w_A54 : a4 54 = (6000, .inl A54) := (hoa4 54 rfl).trans h_A54
    have w_A67 : a4 67 = (10, .inl A67) := (hoa4 67 rfl).trans h_A67
    have hoffa := offm hoffa hoa4 (by decide +kernel)
    refine lv_aload_n hx hb dX9_censusOf_32 rfl (lv_at hl 0 rfl) ?_
    refine gf9_2 hx hb hG hown hW (o := 27) (ltN hN 27 rfl) gk27 (v := .ref (q 42)) (sh27_2 hsh) gx95 dX9_censusOf_33 ?_
    refine lv_aload_n hx hb dX9_censusOf_36 rfl (lv_at hl 0 rfl) ?_
    refine gf9_0 hx hb hG hown hW (o := 27) (ltN hN 27 rfl) gk27 (v := .ref (q 28)) (sh27_0 hsh) gx87 dX9_censusOf_37 ?_
    obtain ⟨r5, hf5, hs0⟩ := obind hs0
    refine g_Vv (n := 1) hx hb hml hown hG hW hS [.ref (q 28)] (kX4_measure hN hsh w_x28_2 w_A30 w_A35 w_x42_6 w_x42_7 w_A44 w_A46 w_A48 w_A50 w_A52 w_A54 F hf5) (ltN hN 42 rfl) gk42 (by decide) rfl rfl (gd_V gx752 gx753 gx754 gx94 gx755) rfl rfl (by decide) ⟨Nat.le_of_ble_eq_true rfl, Nat.le_of_ble_eq_true rfl⟩ rfl hl (Nat.le_of_ble_eq_true rfl) ⟨Nat.zero_le _, Nat.zero_le _⟩ dX9_censusOf_40 (fun m5 a5 H locs hp5 hW hS => ?_)
    obtain ⟨hp5_x42_6, hp5_x42_7, ho5, hp5_A44, hp5_A46, hp5_A48, hp5_A50, hp5_A52, hp5_A54, hoa5⟩ := hp5
    have w_x27_5 : m5 2705 = .int 1 := (ho5 2705 rfl).trans w_x27_5
    have w_x27_6 : m5 2706 = .long (-1) := (ho5 2706 rfl).trans w_x27_6
    have w_x28_2 : m5 2802 = .int r4.1 := (ho5 2802 rfl).trans w_x28_2
    have w_x28_3 : m5 2803 = .int r4.2.1 := (ho5 2803 rfl).trans w_x28_3
    have w_x31_1 : m5 3101 = .int r4.2.2.1 := (ho5 3101 rfl).trans w_x31_1
    have w_x31_2 : m5 3102 = .int r4.2.2.2.1 := (ho5 3102 rfl).trans w_x31_2
    have w_x42_6 : m5 4206 = .int r5.1 := hp5_x42_6
    have w_x42_7 : m5 4207 = .int r5.2.1 := hp5_x42_7
    have hoff := offm hoff ho5 (by decide +kernel)
    have hsh := SH.off hsh ho5 (by decide +kernel)
    have w_A30 : a5 30 = (6001, .inl r4.2.2.2.2.1) := (hoa5 30 rfl).trans w_A30
    have w_A33 : a5 33 = (10, .inl r4.2.2.2.2.2.1) := (hoa5 33 rfl).trans w_A33
    have w_A35 : a5 35 = (60000, .inl r4.2.2.2.2.2.2.1) := (hoa5 35 rfl).trans w_A35
    have w_A37 : a5 37 = (16384, .inl r4.2.2.2.2.2.2.2.1) := (hoa5 37 rfl).trans w_A37
    have w_A38 : a5 38 = (6000, .inr (.inl r4.2.2.2.2.2.2.2.2)) := (hoa5 38 rfl).trans w_A38
    have w_A44 : a5 44 = (6000, .inl r5.2.2.1) := hp5_A44
    have w_A46 : a5 46 = (6000, .inl r5.2.2.2.1) := hp5_A46
    have w_A48 : a5 48 = (6000, .inl r5.2.2.2.2.1) := hp5_A48
    have w_A50 : a5 50 = (6000, .inl r5.2.2.2.2.2.1) := hp5_A50
    have w_A52 : a5 52 = (6000, .inl r5.2.2.2.2.2.2.1) := hp5_A52
    have w_A54 : a5 54 = (6000, .inl r5.2.2.2.2.2.2.2) := hp5_A54
    have w_A67 : a5 67 = (10, .inl A67) := (hoa5 67 rfl).trans w_A67
    have hoffa := offm hoffa hoa5 (by decide +kernel)
    refine lv_aload_n hx hb dX9_censusOf_43 rfl (lv_at hl 0 rfl) ?_
    refine gf9_2 hx hb hG hown hW (o := 27) (ltN hN 27 rfl) gk27 (v := .ref (q 42)) (sh27_2 hsh) gx95 dX9_censusOf_44 ?_
    refine lv_aload_n hx hb dX9_censusOf_47 rfl (lv_at hl 0 rfl) ?_
    refine gf9_0 hx hb hG hown hW (o := 27) (ltN hN 27 rfl) gk27 (v := .ref (q 28)) (sh27_0 hsh) gx87 dX9_censusOf_48 ?_
    refine gf1_2 hx hb hG hown hW (o := 28) (ltN hN 28 rfl) gk28 (v := .int r4.1) w_x28_2 gx908 dX9_censusOf_51 ?_
    obtain ⟨r6, hf6, hs0⟩ := obind hs0
    refine g_ViR (n := 1) hx hb hml hown hG hW hS [.int r4.1] (kX4_hardest hN hsh w_A44 F r4.1 hf6) (ltN hN 42 rfl) gk42 (by decide) rfl rfl (gd_V gx1037 gx1038 gx1039 gx94 gx1040) rfl rfl (by decide) ⟨Nat.le_of_ble_eq_true rfl, Nat.le_of_ble_eq_true rfl⟩ rfl hl (Nat.le_of_ble_eq_true rfl) ⟨Nat.zero_le _, Nat.zero_le _⟩ dX9_censusOf_54 (fun H locs hW hS => ?_)
    refine lv_istore_n (lv' := [(2, .int r6), (0, .ref (q 27)), (1, .ref (q kr))]) hx hb dX9_censusOf_57 rfl hl (by decide) rfl (fun ls hl => ?_)
    refine lv_aload_n hx hb dX9_censusOf_58 rfl (lv_at hl 1 rfl) ?_
    refine gf9_0 hx hb hG hown hW (o := 27) (ltN hN 27 rfl) gk27 (v := .ref (q 28)) (sh27_0 hsh) gx87 dX9_censusOf_59 ?_
    refine lv_iload_n hx hb dX9_censusOf_62 rfl (lv_at hl 0 rfl) ?_
    obtain ⟨r7, hf7, hs0⟩ := obind hs0
    refine g_VlR (n := 1) hx hb hml hown hG hW hS [.int r6] (kX1_stateAt hN hsh w_A38 r6 hf7) (ltN hN 28 rfl) gk28 (by decide) rfl rfl (gd_V gx894 gx693 gx694 gx86 gx695) rfl rfl (by decide) ⟨Nat.le_of_ble_eq_true rfl, Nat.le_of_ble_eq_true rfl⟩ rfl hl (Nat.le_of_ble_eq_true rfl) ⟨Nat.zero_le _, Nat.zero_le _⟩ dX9_censusOf_63 (fun H locs hW hS => ?_)
    refine lv_lstore_n (lv' := [(3, .long r7), (2, .int r6), (0, .ref (q 27)), (1, .ref (q kr))]) hx hb dX9_censusOf_66 rfl hl (by decide) rfl (fun ls hl => ?_)
    refine lv_aload_n hx hb dX9_censusOf_67 rfl (lv_at hl 2 rfl) ?_
    refine gf9_4 hx hb hG hown hW (o := 27) (ltN hN 27 rfl) gk27 (v := .ref (q 66)) (sh27_4 hsh) gx101 dX9_censusOf_68 ?_
    refine lv_iconst (v := 0) hx hb dX9_censusOf_71 (by decide) ?_
    refine lv_aload_n hx hb dX9_censusOf_72 rfl (lv_at hl 2 rfl) ?_
    refine gf9_2 hx hb hG hown hW (o := 27) (ltN hN 27 rfl) gk27 (v := .ref (q 42)) (sh27_2 hsh) gx95 dX9_censusOf_73 ?_
    refine gf4_0 hx hb hG hown hW (o := 42) (ltN hN 42 rfl) gk42 (v := .ref (q 43)) (sh42_0 hsh) gx751 dX9_censusOf_76 ?_
    refine lv_iload_n hx hb dX9_censusOf_79 rfl (lv_at hl 1 rfl) ?_
    refine g_ViR (n := 1) hx hb hml hown hG hW hS [.int r6] (kX2_at (ltN hN 43 rfl) gk43 (ltN hN 44 rfl) gk44 (sh43_0 hsh) (by decide) w_A44 r6) (ltN hN 43 rfl) gk43 (by decide) rfl rfl (gd_V gx795 gx564 gx565 gx47 gx566) rfl rfl (by decide) ⟨Nat.le_of_ble_eq_true rfl, Nat.le_of_ble_eq_true rfl⟩ rfl hl (Nat.le_of_ble_eq_true rfl) ⟨Nat.zero_le _, Nat.zero_le _⟩ dX9_censusOf_80 (fun H locs hW hS => ?_)
    refine g_Vv (n := 2) hx hb hml hown hG hW hS [.int 0, .int (cAt 6000 r5.2.2.1 r6)] (kX2_put (ltN hN 66 rfl) gk66 (ltN hN 67 rfl) gk67 (sh66_0 hsh) (by decide) w_A67 0 (cAt 6000 r5.2.2.1 r6)) (ltN hN 66 rfl) gk66 (by decide) rfl rfl (gd_V gx1041 gx551 gx552 gx47 gx553) rfl rfl (by decide) ⟨Nat.le_of_ble_eq_true rfl, Nat.le_of_ble_eq_true rfl⟩ rfl hl (Nat.le_of_ble_eq_true rfl) ⟨Nat.zero_le _, Nat.zero_le _⟩ dX9_censusOf_83 (fun m9 a9 H locs hp9 hW hS => ?_)
    obtain ⟨hm9, hp9_A67, hoa9⟩ := hp9
    rw [hm9] at hW
    have w_A30 : a9 30 = (6001, .inl r4.2.2.2.2.1) := (hoa9 30 rfl).trans w_A30
    have w_A33 : a9 33 = (10, .inl r4.2.2.2.2.2.1) := (hoa9 33 rfl).trans w_A33
    have w_A35 : a9 35 = (60000, .inl r4.2.2.2.2.2.2.1) := (hoa9 35 rfl).trans w_A35
    have w_A37 : a9 37 = (16384, .inl r4.2.2.2.2.2.2.2.1) := (hoa9 37 rfl).trans w_A37
    have w_A38 : a9 38 = (6000, .inr (.inl r4.2.2.2.2.2.2.2.2)) := (hoa9 38 rfl).trans w_A38
    have w_A44 : a9 44 = (6000, .inl r5.2.2.1) := (hoa9 44 rfl).trans w_A44
    have w_A46 : a9 46 = (6000, .inl r5.2.2.2.1) := (hoa9 46 rfl).trans w_A46
    have w_A48 : a9 48 = (6000, .inl r5.2.2.2.2.1) := (hoa9 48 rfl).trans w_A48
    have w_A50 : a9 50 = (6000, .inl r5.2.2.2.2.2.1) := (hoa9 50 rfl).trans w_A50
    have w_A52 : a9 52 = (6000, .inl r5.2.2.2.2.2.2.1) := (hoa9 52 rfl).trans w_A52
    have w_A54 : a9 54 = (6000, .inl r5.2.2.2.2.2.2.2) := (hoa9 54 rfl).trans w_A54
    have w_A67 : a9 67 = (10, .inl (cPut 10 A67 0 (cAt 6000 r5.2.2.1 r6))) := hp9_A67
    have hoffa := offm hoffa hoa9 (by decide +kernel)
    refine lv_aload_n hx hb dX9_censusOf_86 rfl (lv_at hl 2 rfl) ?_
    refine gf9_4 hx hb hG hown hW (o := 27) (ltN hN 27 rfl) gk27 (v := .ref (q 66)) (sh27_4 hsh) gx101 dX9_censusOf_87 ?_
    refine lv_iconst (v := 1) hx hb dX9_censusOf_90 (by decide) ?_
    refine lv_aload_n hx hb dX9_censusOf_91 rfl (lv_at hl 2 rfl) ?_
    refine gf9_0 hx hb hG hown hW (o := 27) (ltN hN 27 rfl) gk27 (v := .ref (q 28)) (sh27_0 hsh) gx87 dX9_censusOf_92 ?_
    refine gf1_2 hx hb hG hown hW (o := 28) (ltN hN 28 rfl) gk28 (v := .int r4.1) w_x28_2 gx908 dX9_censusOf_95 ?_
    refine g_Vv (n := 2) hx hb hml hown hG hW hS [.int 1, .int r4.1] (kX2_put (ltN hN 66 rfl) gk66 (ltN hN 67 rfl) gk67 (sh66_0 hsh) (by decide) w_A67 1 r4.1) (ltN hN 66 rfl) gk66 (by decide) rfl rfl (gd_V gx1041 gx551 gx552 gx47 gx553) rfl rfl (by decide) ⟨Nat.le_of_ble_eq_true rfl, Nat.le_of_ble_eq_true rfl⟩ rfl hl (Nat.le_of_ble_eq_true rfl) ⟨Nat.zero_le _, Nat.zero_le _⟩ dX9_censusOf_98 (fun m10 a10 H locs hp10 hW hS => ?_)
    obtain ⟨hm10, hp10_A67, hoa10⟩ := hp10
    rw [hm10] at hW
    have w_A30 : a10 30 = (6001, .inl r4.2.2.2.2.1) := (hoa10 30 rfl).trans w_A30
    have w_A33 : a10 33 = (10, .inl r4.2.2.2.2.2.1) := (hoa10 33 rfl).trans w_A33
    have w_A35 : a10 35 = (60000, .inl r4.2.2.2.2.2.2.1) := (hoa10 35 rfl).trans w_A35
    have w_A37 : a10 37 = (16384, .inl r4.2.2.2.2.2.2.2.1) := (hoa10 37 rfl).trans w_A37
    have w_A38 : a10 38 = (6000, .inr (.inl r4.2.2.2.2.2.2.2.2)) := (hoa10 38 rfl).trans w_A38
    have w_A44 : a10 44 = (6000, .inl r5.2.2.1) := (hoa10 44 rfl).trans w_A44
    have w_A46 : a10 46 = (6000, .inl r5.2.2.2.1) := (hoa10 46 rfl).trans w_A46
    have w_A48 : a10 48 = (6000, .inl r5.2.2.2.2.1) := (hoa10 48 rfl).trans w_A48
    have w_A50 : a10 50 = (6000, .inl r5.2.2.2.2.2.1) := (hoa10 50 rfl).trans w_A50
    have w_A52 : a10 52 = (6000, .inl r5.2.2.2.2.2.2.1) := (hoa10 52 rfl).trans w_A52
    have w_A54 : a10 54 = (6000, .inl r5.2.2.2.2.2.2.2) := (hoa10 54 rfl).trans w_A54
    have w_A67 : a10 67 = (10, .inl (cPut 10 (cPut 10 A67 0 (cAt 6000 r5.2.2.1 r6)) 1 r4.1)) := hp10_A67
    have hoffa := offm hoffa hoa10 (by decide +kernel)
    refine lv_aload_n hx hb dX9_censusOf_101 rfl (lv_at hl 2 rfl) ?_
    refine gf9_4 hx hb hG hown hW (o := 27) (ltN hN 27 rfl) gk27 (v := .ref (q 66)) (sh27_4 hsh) gx101 dX9_censusOf_102 ?_
    refine lv_iconst (v := 2) hx hb dX9_censusOf_105 (by decide) ?_
    refine lv_lload_n hx hb dX9_censusOf_106 rfl (lv_at hl 0 rfl) ?_
    refine g_SiR (n := 1) hx hb hml hown hG hW hS [.long r7] (kX7_labelOf hN r7) rfl (gd_S gx1042 gx468 gx39 gx469) rfl rfl (by decide) ⟨Nat.le_of_ble_eq_true rfl, Nat.le_of_ble_eq_true rfl⟩ rfl hl (Nat.le_of_ble_eq_true rfl) ⟨Nat.zero_le _, Nat.zero_le _⟩ dX9_censusOf_107 (fun H locs hW hS => ?_)
    refine g_Vv (n := 2) hx hb hml hown hG hW hS [.int 2, .int (fX7_labelOf r7)] (kX2_put (ltN hN 66 rfl) gk66 (ltN hN 67 rfl) gk67 (sh66_0 hsh) (by decide) w_A67 2 (fX7_labelOf r7)) (ltN hN 66 rfl) gk66 (by decide) rfl rfl (gd_V gx1041 gx551 gx552 gx47 gx553) rfl rfl (by decide) ⟨Nat.le_of_ble_eq_true rfl, Nat.le_of_ble_eq_true rfl⟩ rfl hl (Nat.le_of_ble_eq_true rfl) ⟨Nat.zero_le _, Nat.zero_le _⟩ dX9_censusOf_110 (fun m12 a12 H locs hp12 hW hS => ?_)
    obtain ⟨hm12, hp12_A67, hoa12⟩ := hp12
    rw [hm12] at hW
    have w_A30 : a12 30 = (6001, .inl r4.2.2.2.2.1) := (hoa12 30 rfl).trans w_A30
    have w_A33 : a12 33 = (10, .inl r4.2.2.2.2.2.1) := (hoa12 33 rfl).trans w_A33
    have w_A35 : a12 35 = (60000, .inl r4.2.2.2.2.2.2.1) := (hoa12 35 rfl).trans w_A35
    have w_A37 : a12 37 = (16384, .inl r4.2.2.2.2.2.2.2.1) := (hoa12 37 rfl).trans w_A37
    have w_A38 : a12 38 = (6000, .inr (.inl r4.2.2.2.2.2.2.2.2)) := (hoa12 38 rfl).trans w_A38
    have w_A44 : a12 44 = (6000, .inl r5.2.2.1) := (hoa12 44 rfl).trans w_A44
    have w_A46 : a12 46 = (6000, .inl r5.2.2.2.1) := (hoa12 46 rfl).trans w_A46
    have w_A48 : a12 48 = (6000, .inl r5.2.2.2.2.1) := (hoa12 48 rfl).trans w_A48
    have w_A50 : a12 50 = (6000, .inl r5.2.2.2.2.2.1) := (hoa12 50 rfl).trans w_A50
    have w_A52 : a12 52 = (6000, .inl r5.2.2.2.2.2.2.1) := (hoa12 52 rfl).trans w_A52
    have w_A54 : a12 54 = (6000, .inl r5.2.2.2.2.2.2.2) := (hoa12 54 rfl).trans w_A54
    have w_A67 : a12 67 = (10, .inl (cPut 10 (cPut 10 (cPut 10 A67 0 (cAt 6000 r5.2.2.1 r6)) 1 r4.1) 2 (fX7_labelOf r7))) := hp12_A67
    have hoffa := offm hoffa hoa12 (by decide +kernel)
    refine lv_aload_n hx hb dX9_censusOf_113 rfl (lv_at hl 2 rfl) ?_
    refine gf9_4 hx hb hG hown hW (o := 27) (ltN hN 27 rfl) gk27 (v := .ref (q 66)) (sh27_4 hsh) gx101 dX9_censusOf_114 ?_
    refine lv_iconst (v := 3) hx hb dX9_censusOf_117 (by decide) ?_
    refine lv_lload_n hx hb dX9_censusOf_118 rfl (lv_at hl 0 rfl) ?_
    refine g_SiR (n := 1) hx hb hml hown hG hW hS [.long r7] (kX7_valueOf hN r7) rfl (gd_S gx1043 gx417 gx39 gx418) rfl rfl (by decide) ⟨Nat.le_of_ble_eq_true rfl, Nat.le_of_ble_eq_true rfl⟩ rfl hl (Nat.le_of_ble_eq_true rfl) ⟨Nat.zero_le _, Nat.zero_le _⟩ dX9_censusOf_119 (fun H locs hW hS => ?_)
    refine g_Vv (n := 2) hx hb hml hown hG hW hS [.int 3, .int (fX7_valueOf r7)] (kX2_put (ltN hN 66 rfl) gk66 (ltN hN 67 rfl) gk67 (sh66_0 hsh) (by decide) w_A67 3 (fX7_valueOf r7)) (ltN hN 66 rfl) gk66 (by decide) rfl rfl (gd_V gx1041 gx551 gx552 gx47 gx553) rfl rfl (by decide) ⟨Nat.le_of_ble_eq_true rfl, Nat.le_of_ble_eq_true rfl⟩ rfl hl (Nat.le_of_ble_eq_true rfl) ⟨Nat.zero_le _, Nat.zero_le _⟩ dX9_censusOf_122 (fun m14 a14 H locs hp14 hW hS => ?_)
    obtain ⟨hm14, hp14_A67, hoa14⟩ := hp14
    rw [hm14] at hW
    have w_A30 : a14 30 = (6001, .inl r4.2.2.2.2.1) := (hoa14 30 rfl).trans w_A30
    have w_A33 : a14 33 = (10, .inl r4.2.2.2.2.2.1) := (hoa14 33 rfl).trans w_A33
    have w_A35 : a14 35 = (60000, .inl r4.2.2.2.2.2.2.1) := (hoa14 35 rfl).trans w_A35
    have w_A37 : a14 37 = (16384, .inl r4.2.2.2.2.2.2.2.1) := (hoa14 37 rfl).trans w_A37
    have w_A38 : a14 38 = (6000, .inr (.inl r4.2.2.2.2.2.2.2.2)) := (hoa14 38 rfl).trans w_A38
    have w_A44 : a14 44 = (6000, .inl r5.2.2.1) := (hoa14 44 rfl).trans w_A44
    have w_A46 : a14 46 = (6000, .inl r5.2.2.2.1) := (hoa14 46 rfl).trans w_A46
    have w_A48 : a14 48 = (6000, .inl r5.2.2.2.2.1) := (hoa14 48 rfl).trans w_A48
    have w_A50 : a14 50 = (6000, .inl r5.2.2.2.2.2.1) := (hoa14 50 rfl).trans w_A50
    have w_A52 : a14 52 = (6000, .inl r5.2.2.2.2.2.2.1) := (hoa14 52 rfl).trans w_A52
    have w_A54 : a14 54 = (6000, .inl r5.2.2.2.2.2.2.2) := (hoa14 54 rfl).trans w_A54
    have w_A67 : a14 67 = (10, .inl (cPut 10 (cPut 10 (cPut 10 (cPut 10 A67 0 (cAt 6000 r5.2.2.1 r6)) 1 r4.1) 2 (fX7_labelOf r7)) 3 (fX7_valueOf r7))) := hp14_A67
    have hoffa := offm hoffa hoa14 (by decide +kernel)
    refine lv_aload_n hx hb dX9_censusOf_125 rfl (lv_at hl 2 rfl) ?_
    refine gf9_4 hx hb hG hown hW (o := 27) (ltN hN 27 rfl) gk27 (v := .ref (q 66)) (sh27_4 hsh) gx101 dX9_censusOf_126 ?_
    refine lv_iconst (v := 4) hx hb dX9_censusOf_129 (by decide) ?_
    refine lv_lload_n hx hb dX9_censusOf_130 rfl (lv_at hl 0 rfl) ?_
    refine g_SiR (n := 1) hx hb hml hown hG hW hS [.long r7] (kX7_acksOf hN r7) rfl (gd_S gx991 gx475 gx39 gx476) rfl rfl (by decide) ⟨Nat.le_of_ble_eq_true rfl, Nat.le_of_ble_eq_true rfl⟩ rfl hl (Nat.le_of_ble_eq_true rfl) ⟨Nat.zero_le _, Nat.zero_le _⟩ dX9_censusOf_131 (fun H locs hW hS => ?_)
    refine g_Vv (n := 2) hx hb hml hown hG hW hS [.int 4, .int (fX7_acksOf r7)] (kX2_put (ltN hN 66 rfl) gk66 (ltN hN 67 rfl) gk67 (sh66_0 hsh) (by decide) w_A67 4 (fX7_acksOf r7)) (ltN hN 66 rfl) gk66 (by decide) rfl rfl (gd_V gx1041 gx551 gx552 gx47 gx553) rfl rfl (by decide) ⟨Nat.le_of_ble_eq_true rfl, Nat.le_of_ble_eq_true rfl⟩ rfl hl (Nat.le_of_ble_eq_true rfl) ⟨Nat.zero_le _, Nat.zero_le _⟩ dX9_censusOf_134 (fun m16 a16 H locs hp16 hW hS => ?_)
    obtain ⟨hm16, hp16_A67, hoa16⟩ := hp16
    rw [hm16] at hW
    have w_A30 : a16 30 = (6001, .inl r4.2.2.2.2.1) := (hoa16 30 rfl).trans w_A30
    have w_A33 : a16 33 = (10, .inl r4.2.2.2.2.2.1) := (hoa16 33 rfl).trans w_A33
    have w_A35 : a16 35 = (60000, .inl r4.2.2.2.2.2.2.1) := (hoa16 35 rfl).trans w_A35
    have w_A37 : a16 37 = (16384, .inl r4.2.2.2.2.2.2.2.1) := (hoa16 37 rfl).trans w_A37
    have w_A38 : a16 38 = (6000, .inr (.inl r4.2.2.2.2.2.2.2.2)) := (hoa16 38 rfl).trans w_A38
    have w_A44 : a16 44 = (6000, .inl r5.2.2.1) := (hoa16 44 rfl).trans w_A44
    have w_A46 : a16 46 = (6000, .inl r5.2.2.2.1) := (hoa16 46 rfl).trans w_A46
    have w_A48 : a16 48 = (6000, .inl r5.2.2.2.2.1) := (hoa16 48 rfl).trans w_A48
    have w_A50 : a16 50 = (6000, .inl r5.2.2.2.2.2.1) := (hoa16 50 rfl).trans w_A50
    have w_A52 : a16 52 = (6000, .inl r5.2.2.2.2.2.2.1) := (hoa16 52 rfl).trans w_A52
    have w_A54 : a16 54 = (6000, .inl r5.2.2.2.2.2.2.2) := (hoa16 54 rfl).trans w_A54
    have w_A67 : a16 67 = (10, .inl (cPut 10 (cPut 10 (cPut 10 (cPut 10 (cPut 10 A67 0 (cAt 6000 r5.2.2.1 r6)) 1 r4.1) 2 (fX7_labelOf r7)) 3 (fX7_valueOf r7)) 4 (fX7_acksOf r7))) := hp16_A67
    have hoffa := offm hoffa hoa16 (by decide +kernel)
    refine lv_aload_n hx hb dX9_censusOf_137 rfl (lv_at hl 2 rfl) ?_
    refine gf9_4 hx hb hG hown hW (o := 27) (ltN hN 27 rfl) gk27 (v := .ref (q 66)) (sh27_4 hsh) gx101 dX9_censusOf_138 ?_
    refine lv_iconst (v := 5) hx hb dX9_censusOf_141 (by decide) ?_
    refine lv_lload_n hx hb dX9_censusOf_142 rfl (lv_at hl 0 rfl) ?_
    refine g_SiR (n := 1) hx hb hml hown hG hW hS [.long r7] (kX7_takenOf hN r7) rfl (gd_S gx1044 gx454 gx39 gx455) rfl rfl (by decide) ⟨Nat.le_of_ble_eq_true rfl, Nat.le_of_ble_eq_true rfl⟩ rfl hl (Nat.le_of_ble_eq_true rfl) ⟨Nat.zero_le _, Nat.zero_le _⟩ dX9_censusOf_143 (fun H locs hW hS => ?_)
    refine lv_if_eq (tgt := 153) hx hb dX9_censusOf_146 (by decide) (fun c18 => ?_) (fun c18 => ?_)
    · rw [if_pos c18] at hs0
      refine lv_iconst (v := 0) hx hb dX9_censusOf_153 (by decide) ?_
      exact hJ154_0 r7 0 5 1 (-1) r4.1 r4.2.1 r4.2.2.1 r4.2.2.2.1 r5.1 r5.2.1 r4.2.2.2.2.1 r4.2.2.2.2.2.1 r4.2.2.2.2.2.2.1 r4.2.2.2.2.2.2.2.1 r4.2.2.2.2.2.2.2.2 r5.2.2.1 r5.2.2.2.1 r5.2.2.2.2.1 r5.2.2.2.2.2.1 r5.2.2.2.2.2.2.1 r5.2.2.2.2.2.2.2 (cPut 10 (cPut 10 (cPut 10 (cPut 10 (cPut 10 A67 0 (cAt 6000 r5.2.2.1 r6)) 1 r4.1) 2 (fX7_labelOf r7)) 3 (fX7_valueOf r7)) 4 (fX7_acksOf r7)) m5 a16 _ _ w_x27_5 w_x27_6 w_x28_2 w_x28_3 w_x31_1 w_x31_2 w_x42_6 w_x42_7 hoff hsh w_A30 w_A33 w_A35 w_A37 w_A38 w_A44 w_A46 w_A48 w_A50 w_A52 w_A54 w_A67 hoffa ls (lv_sub hl [2, 0] rfl) hs0 hW hS
    · rw [if_neg c18] at hs0
      refine lv_iconst (v := 1) hx hb dX9_censusOf_149 (by decide) ?_
      refine lv_goto (tgt := 154) hx hb dX9_censusOf_150 (by decide) ?_
      exact hJ154_0 r7 1 5 1 (-1) r4.1 r4.2.1 r4.2.2.1 r4.2.2.2.1 r5.1 r5.2.1 r4.2.2.2.2.1 r4.2.2.2.2.2.1 r4.2.2.2.2.2.2.1 r4.2.2.2.2.2.2.2.1 r4.2.2.2.2.2.2.2.2 r5.2.2.1 r5.2.2.2.1 r5.2.2.2.2.1 r5.2.2.2.2.2.1 r5.2.2.2.2.2.2.1 r5.2.2.2.2.2.2.2 (cPut 10 (cPut 10 (cPut 10 (cPut 10 (cPut 10 A67 0 (cAt 6000 r5.2.2.1 r6)) 1 r4.1) 2 (fX7_labelOf r7)) 3 (fX7_valueOf r7)) 4 (fX7_acksOf r7)) m5 a16 _ _ w_x27_5 w_x27_6 w_x28_2 w_x28_3 w_x31_1 w_x31_2 w_x42_6 w_x42_7 hoff hsh w_A30 w_A33 w_A35 w_A37 w_A38 w_A44 w_A46 w_A48 w_A50 w_A52 w_A54 w_A67 hoffa ls (lv_sub hl [2, 0] rfl) hs0 hW hS
  · rw [if_neg c1] at hs0
    refine lv_aload_n hx hb dX9_censusOf_7 rfl (lv_at hl 0 rfl) ?_
    refine gf9_4 hx hb hG hown hW (o := 27) (ltN hN 27 rfl) gk27 (v := .ref (q 66)) (sh27_4 hsh) gx101 dX9_censusOf_8 ?_
    have hs0 := Option.some.inj hs0
    subst hs0
    exact W.aret (v := .ref (q 66)) hx hb hr (Or.inl ⟨_, rfl⟩) (Or.inr ⟨_, rfl⟩) (fun t ht hw => ⟨⟨(m0, a0), q 66, rfl, ⟨h_x27_5, h_x27_6, h_x28_2, h_x28_3, h_x31_1, h_x31_2, h_x42_6, h_x42_7, hoff, h_A30, h_A33, h_A35, h_A37, h_A38, h_A44, h_A46, h_A48, h_A50, h_A52, h_A54, h_A67, hoffa⟩, rfl, g_end hW ht hw⟩, hS.F ht⟩) hS.2.2 dX9_censusOf_11 hlocks
-- HealLink.every (I)I
def fX11_every (F : Nat) (xkr_0 : Int32) (xkr_1 : Int32) (xkr_2 : Int32) (xkr_3 : Int32) (x27_5 : Int32) (x27_6 : Int64) (x28_2 : Int32) (x28_3 : Int32) (x31_1 : Int32) (x31_2 : Int32) (x42_6 : Int32) (x42_7 : Int32) (A30 : Nat → Int32) (A33 : Nat → Int32) (A35 : Nat → Int32) (A37 : Nat → Int32) (A38 : Nat → Int64) (A44 : Nat → Int32) (A46 : Nat → Int32) (A48 : Nat → Int32) (A50 : Nat → Int32) (A52 : Nat → Int32) (A54 : Nat → Int32) (A67 : Nat → Int32) (p1 : Int32) : Option (Int32 × Int32 × Int64 × Int32 × Int32 × Int32 × Int32 × Int32 × Int32 × (Nat → Int32) × (Nat → Int32) × (Nat → Int32) × (Nat → Int32) × (Nat → Int64) × (Nat → Int32) × (Nat → Int32) × (Nat → Int32) × (Nat → Int32) × (Nat → Int32) × (Nat → Int32) × (Nat → Int32)) := (if p1 < 0 then some ((-1), x27_5, x27_6, x28_2, x28_3, x31_1, x31_2, x42_6, x42_7, A30, A33, A35, A37, A38, A44, A46, A48, A50, A52, A54, A67) else (if p1 ≤ 9 then ((fX7_allStates F xkr_0 xkr_1 xkr_2 xkr_3).bind (fun r3 => (if (lg_cmp r3 6000) ≤ 0 then ((fX9_censusOf F xkr_0 xkr_1 xkr_2 xkr_3 x27_5 x27_6 x28_2 x28_3 x31_1 x31_2 x42_6 x42_7 A30 A33 A35 A37 A38 A44 A46 A48 A50 A52 A54 A67).bind (fun r5 => some ((cAt 10 r5.2.2.2.2.2.2.2.2.2.2.2.2.2.2.2.2.2.2.2 p1), r5.1, r5.2.1, r5.2.2.1, r5.2.2.2.1, r5.2.2.2.2.1, r5.2.2.2.2.2.1, r5.2.2.2.2.2.2.1, r5.2.2.2.2.2.2.2.1, r5.2.2.2.2.2.2.2.2.1, r5.2.2.2.2.2.2.2.2.2.1, r5.2.2.2.2.2.2.2.2.2.2.1, r5.2.2.2.2.2.2.2.2.2.2.2.1, r5.2.2.2.2.2.2.2.2.2.2.2.2.1, r5.2.2.2.2.2.2.2.2.2.2.2.2.2.1, r5.2.2.2.2.2.2.2.2.2.2.2.2.2.2.1, r5.2.2.2.2.2.2.2.2.2.2.2.2.2.2.2.1, r5.2.2.2.2.2.2.2.2.2.2.2.2.2.2.2.2.1, r5.2.2.2.2.2.2.2.2.2.2.2.2.2.2.2.2.2.1, r5.2.2.2.2.2.2.2.2.2.2.2.2.2.2.2.2.2.2.1, r5.2.2.2.2.2.2.2.2.2.2.2.2.2.2.2.2.2.2.2))) else some ((-3), x27_5, x27_6, x28_2, x28_3, x31_1, x31_2, x42_6, x42_7, A30, A33, A35, A37, A38, A44, A46, A48, A50, A52, A54, A67)))) else some ((-1), x27_5, x27_6, x28_2, x28_3, x31_1, x31_2, x42_6, x42_7, A30, A33, A35, A37, A38, A44, A46, A48, A50, A52, A54, A67)))
theorem dX11_every_0 : decode cX11_every 0 = .ok (.iload_n 1, 1) := by decide +kernel
theorem dX11_every_1 : decode cX11_every 1 = .ok (.ifCond .lt 9, 3) := by decide +kernel
theorem dX11_every_4 : decode cX11_every 4 = .ok (.iload_n 1, 1) := by decide +kernel
theorem dX11_every_5 : decode cX11_every 5 = .ok (.bipush 9, 2) := by decide +kernel
theorem dX11_every_7 : decode cX11_every 7 = .ok (.if_icmp .le 5, 3) := by decide +kernel
theorem dX11_every_10 : decode cX11_every 10 = .ok (.iconst (-1), 1) := by decide +kernel
theorem dX11_every_11 : decode cX11_every 11 = .ok (.ireturn, 1) := by decide +kernel
theorem dX11_every_12 : decode cX11_every 12 = .ok (.aload_n 0, 1) := by decide +kernel
theorem dX11_every_13 : decode cX11_every 13 = .ok (.getfield 56, 3) := by decide +kernel
theorem dX11_every_16 : decode cX11_every 16 = .ok (.invokevirtual 259, 3) := by decide +kernel
theorem dX11_every_19 : decode cX11_every 19 = .ok (.ldc2_w 262, 3) := by decide +kernel
theorem dX11_every_22 : decode cX11_every 22 = .ok (.lcmp, 1) := by decide +kernel
theorem dX11_every_23 : decode cX11_every 23 = .ok (.ifCond .le 8, 3) := by decide +kernel
theorem dX11_every_26 : decode cX11_every 26 = .ok (.bipush (-3), 2) := by decide +kernel
theorem dX11_every_28 : decode cX11_every 28 = .ok (.goto 18, 3) := by decide +kernel
theorem dX11_every_31 : decode cX11_every 31 = .ok (.aload_n 0, 1) := by decide +kernel
theorem dX11_every_32 : decode cX11_every 32 = .ok (.getfield 47, 3) := by decide +kernel
theorem dX11_every_35 : decode cX11_every 35 = .ok (.aload_n 0, 1) := by decide +kernel
theorem dX11_every_36 : decode cX11_every 36 = .ok (.getfield 56, 3) := by decide +kernel
theorem dX11_every_39 : decode cX11_every 39 = .ok (.invokevirtual 264, 3) := by decide +kernel
theorem dX11_every_42 : decode cX11_every 42 = .ok (.iload_n 1, 1) := by decide +kernel
theorem dX11_every_43 : decode cX11_every 43 = .ok (.invokevirtual 184, 3) := by decide +kernel
theorem dX11_every_46 : decode cX11_every 46 = .ok (.ireturn, 1) := by decide +kernel
set_option maxHeartbeats 4000000 in
set_option maxRecDepth 100000 in
theorem kX11_every {l : Launch} {D : va_G} {cy : Nat → ClassId} {N : Nat} {q : Nat → Nat} {m0 : Nat → Value} {a0 : Nat → vp_A} {sz : Nat} (hN : 105 ≤ N) (hsh : SH q m0) {kr : Nat} (hkr : kr < N) (hgk : gk kr = 7) (hrf : m0 7 = .ref (q kr)) {xkr_0 : Int32} (h_xkr_0 : m0 (100 * kr + 0) = .int xkr_0) {xkr_1 : Int32} (h_xkr_1 : m0 (100 * kr + 1) = .int xkr_1) {xkr_2 : Int32} (h_xkr_2 : m0 (100 * kr + 2) = .int xkr_2) {xkr_3 : Int32} (h_xkr_3 : m0 (100 * kr + 3) = .int xkr_3) {x27_5 : Int32} (h_x27_5 : m0 2705 = .int x27_5) {x27_6 : Int64} (h_x27_6 : m0 2706 = .long x27_6) {x28_2 : Int32} (h_x28_2 : m0 2802 = .int x28_2) {x28_3 : Int32} (h_x28_3 : m0 2803 = .int x28_3) {x31_1 : Int32} (h_x31_1 : m0 3101 = .int x31_1) {x31_2 : Int32} (h_x31_2 : m0 3102 = .int x31_2) {x42_6 : Int32} (h_x42_6 : m0 4206 = .int x42_6) {x42_7 : Int32} (h_x42_7 : m0 4207 = .int x42_7) {A30 : Nat → Int32} (h_A30 : a0 30 = (6001, .inl A30)) {A33 : Nat → Int32} (h_A33 : a0 33 = (10, .inl A33)) {A35 : Nat → Int32} (h_A35 : a0 35 = (60000, .inl A35)) {A37 : Nat → Int32} (h_A37 : a0 37 = (16384, .inl A37)) {A38 : Nat → Int64} (h_A38 : a0 38 = (6000, .inr (.inl A38))) {A44 : Nat → Int32} (h_A44 : a0 44 = (6000, .inl A44)) {A46 : Nat → Int32} (h_A46 : a0 46 = (6000, .inl A46)) {A48 : Nat → Int32} (h_A48 : a0 48 = (6000, .inl A48)) {A50 : Nat → Int32} (h_A50 : a0 50 = (6000, .inl A50)) {A52 : Nat → Int32} (h_A52 : a0 52 = (6000, .inl A52)) {A54 : Nat → Int32} (h_A54 : a0 54 = (6000, .inl A54)) {A67 : Nat → Int32} (h_A67 : a0 67 = (10, .inl A67)) (F : Nat) (p1 : Int32) {X0 : Int32 × Int32 × Int64 × Int32 × Int32 × Int32 × Int32 × Int32 × Int32 × (Nat → Int32) × (Nat → Int32) × (Nat → Int32) × (Nat → Int32) × (Nat → Int64) × (Nat → Int32) × (Nat → Int32) × (Nat → Int32) × (Nat → Int32) × (Nat → Int32) × (Nat → Int32) × (Nat → Int32)} (hs0 : fX11_every F xkr_0 xkr_1 xkr_2 xkr_3 x27_5 x27_6 x28_2 x28_3 x31_1 x31_2 x42_6 x42_7 A30 A33 A35 A37 A38 A44 A46 A48 A50 A52 A54 A67 p1 = some X0) : gMi l yX11_every cX11_every 2 (some .int) ({ frames := 7, cells := 0, slots := 0, locals := 172 } : Room) D cy N q m0 a0 sz [.ref (q 0), .int p1] (fun r m' a' => r = X0.1 ∧ m' 2705 = .int X0.2.1 ∧ m' 2706 = .long X0.2.2.1 ∧ m' 2802 = .int X0.2.2.2.1 ∧ m' 2803 = .int X0.2.2.2.2.1 ∧ m' 3101 = .int X0.2.2.2.2.2.1 ∧ m' 3102 = .int X0.2.2.2.2.2.2.1 ∧ m' 4206 = .int X0.2.2.2.2.2.2.2.1 ∧ m' 4207 = .int X0.2.2.2.2.2.2.2.2.1 ∧ (∀ j, nel j [2705, 2706, 2802, 2803, 3101, 3102, 4206, 4207] = false → m' j = m0 j) ∧ a' 30 = (6001, .inl X0.2.2.2.2.2.2.2.2.2.1) ∧ a' 33 = (10, .inl X0.2.2.2.2.2.2.2.2.2.2.1) ∧ a' 35 = (60000, .inl X0.2.2.2.2.2.2.2.2.2.2.2.1) ∧ a' 37 = (16384, .inl X0.2.2.2.2.2.2.2.2.2.2.2.2.1) ∧ a' 38 = (6000, .inr (.inl X0.2.2.2.2.2.2.2.2.2.2.2.2.2.1)) ∧ a' 44 = (6000, .inl X0.2.2.2.2.2.2.2.2.2.2.2.2.2.2.1) ∧ a' 46 = (6000, .inl X0.2.2.2.2.2.2.2.2.2.2.2.2.2.2.2.1) ∧ a' 48 = (6000, .inl X0.2.2.2.2.2.2.2.2.2.2.2.2.2.2.2.2.1) ∧ a' 50 = (6000, .inl X0.2.2.2.2.2.2.2.2.2.2.2.2.2.2.2.2.2.1) ∧ a' 52 = (6000, .inl X0.2.2.2.2.2.2.2.2.2.2.2.2.2.2.2.2.2.2.1) ∧ a' 54 = (6000, .inl X0.2.2.2.2.2.2.2.2.2.2.2.2.2.2.2.2.2.2.2.1) ∧ a' 67 = (10, .inl X0.2.2.2.2.2.2.2.2.2.2.2.2.2.2.2.2.2.2.2.2) ∧ (∀ j, nel j [30, 33, 35, 37, 38, 44, 46, 48, 50, 52, 54, 67] = false → a' j = a0 j)) := by
  refine g_ofi (by decide) (Nat.le_of_ble_eq_true rfl) ?_
  intro p e s M args below meth c hx hb hr hG hown hin hlocks hml hW hS ls hl
  unfold fX11_every at hs0
  have hoff : ∀ j, nel j [2705, 2706, 2802, 2803, 3101, 3102, 4206, 4207] = false → m0 j = m0 j := off0
  have hoffa : ∀ j, nel j [30, 33, 35, 37, 38, 44, 46, 48, 50, 52, 54, 67] = false → a0 j = a0 j := off0
  refine lv_iload_n hx hb dX11_every_0 rfl (lv_at hl 1 rfl) ?_
  refine lv_if_lt (tgt := 10) hx hb dX11_every_1 (by decide) (fun c1 => ?_) (fun c1 => ?_)
  · rw [if_pos c1] at hs0
    refine lv_iconst (v := (-1)) hx hb dX11_every_10 (by decide) ?_
    have hs0 := Option.some.inj hs0
    subst hs0
    exact W.zret hx hb hr rfl (fun t ht hw => ⟨⟨_, (m0, a0), rfl, ⟨rfl, h_x27_5, h_x27_6, h_x28_2, h_x28_3, h_x31_1, h_x31_2, h_x42_6, h_x42_7, hoff, h_A30, h_A33, h_A35, h_A37, h_A38, h_A44, h_A46, h_A48, h_A50, h_A52, h_A54, h_A67, hoffa⟩, g_end hW ht hw⟩, hS.F ht⟩) hS.2.2 dX11_every_11 hlocks
  · rw [if_neg c1] at hs0
    refine lv_iload_n hx hb dX11_every_4 rfl (lv_at hl 1 rfl) ?_
    refine lv_bipush (v := 9) hx hb dX11_every_5 (by decide) ?_
    refine lv_icmp_le (tgt := 12) hx hb dX11_every_7 (by decide) (fun c2 => ?_) (fun c2 => ?_)
    · rw [if_pos c2] at hs0
      refine lv_aload_n hx hb dX11_every_12 rfl (lv_at hl 0 rfl) ?_
      refine gf11_7 hx hb hG hown hW (o := 0) (ltN hN 0 rfl) gk0 (v := .ref (q kr)) ((hoff 7 rfl).trans hrf) gx40 dX11_every_13 ?_
      obtain ⟨r3, hf3, hs0⟩ := obind hs0
      refine g_VlR (n := 0) hx hb hml hown hG hW hS [] (kX7_allStates hN hkr hgk ((off_kr hoff hgk 0 rfl (by decide)).trans h_xkr_0) ((off_kr hoff hgk 1 rfl (by decide)).trans h_xkr_1) ((off_kr hoff hgk 2 rfl (by decide)).trans h_xkr_2) ((off_kr hoff hgk 3 rfl (by decide)).trans h_xkr_3) F hf3) hkr hgk (by decide) rfl rfl (gd_V gx1006 gx1007 gx1008 gx39 gx1009) rfl rfl (by decide) ⟨Nat.le_of_ble_eq_true rfl, Nat.le_of_ble_eq_true rfl⟩ rfl hl (Nat.le_of_ble_eq_true rfl) ⟨Nat.zero_le _, Nat.zero_le _⟩ dX11_every_16 (fun H locs hW hS => ?_)
      refine lv_ldc2 (v := 6000) hx hb hown (hG _ gx1005) dX11_every_19 ?_
      refine W.lcmp hx hb dX11_every_22 ?_
      refine lv_if_le (tgt := 31) hx hb dX11_every_23 (by decide) (fun c4 => ?_) (fun c4 => ?_)
      · rw [if_pos c4] at hs0
        refine lv_aload_n hx hb dX11_every_31 rfl (lv_at hl 0 rfl) ?_
        refine gf11_6 hx hb hG hown hW (o := 0) (ltN hN 0 rfl) gk0 (v := .ref (q 27)) (sh0_6 hsh) gx36 dX11_every_32 ?_
        refine lv_aload_n hx hb dX11_every_35 rfl (lv_at hl 0 rfl) ?_
        refine gf11_7 hx hb hG hown hW (o := 0) (ltN hN 0 rfl) gk0 (v := .ref (q kr)) ((hoff 7 rfl).trans hrf) gx40 dX11_every_36 ?_
        obtain ⟨r5, hf5, hs0⟩ := obind hs0
        refine g_Vr0 (n := 1) hx hb hml hown hG hW hS [.ref (q kr)] (kX9_censusOf hN hsh hkr hgk ((off_kr hoff hgk 0 rfl (by decide)).trans h_xkr_0) ((off_kr hoff hgk 1 rfl (by decide)).trans h_xkr_1) ((off_kr hoff hgk 2 rfl (by decide)).trans h_xkr_2) ((off_kr hoff hgk 3 rfl (by decide)).trans h_xkr_3) h_x27_5 h_x27_6 h_x28_2 h_x28_3 h_x31_1 h_x31_2 h_x42_6 h_x42_7 h_A30 h_A33 h_A35 h_A37 h_A38 h_A44 h_A46 h_A48 h_A50 h_A52 h_A54 h_A67 F hf5) (ltN hN 27 rfl) gk27 (by decide) rfl rfl (gd_V gx1014 gx1015 gx1016 gx35 gx1017) rfl rfl (by decide) ⟨Nat.le_of_ble_eq_true rfl, Nat.le_of_ble_eq_true rfl⟩ rfl hl (Nat.le_of_ble_eq_true rfl) ⟨Nat.zero_le _, Nat.zero_le _⟩ dX11_every_39 (fun m5 a5 H locs hp5 hW hS => ?_)
        obtain ⟨hp5_x27_5, hp5_x27_6, hp5_x28_2, hp5_x28_3, hp5_x31_1, hp5_x31_2, hp5_x42_6, hp5_x42_7, ho5, hp5_A30, hp5_A33, hp5_A35, hp5_A37, hp5_A38, hp5_A44, hp5_A46, hp5_A48, hp5_A50, hp5_A52, hp5_A54, hp5_A67, hoa5⟩ := hp5
        have w_x27_5 : m5 2705 = .int r5.1 := hp5_x27_5
        have w_x27_6 : m5 2706 = .long r5.2.1 := hp5_x27_6
        have w_x28_2 : m5 2802 = .int r5.2.2.1 := hp5_x28_2
        have w_x28_3 : m5 2803 = .int r5.2.2.2.1 := hp5_x28_3
        have w_x31_1 : m5 3101 = .int r5.2.2.2.2.1 := hp5_x31_1
        have w_x31_2 : m5 3102 = .int r5.2.2.2.2.2.1 := hp5_x31_2
        have w_x42_6 : m5 4206 = .int r5.2.2.2.2.2.2.1 := hp5_x42_6
        have w_x42_7 : m5 4207 = .int r5.2.2.2.2.2.2.2.1 := hp5_x42_7
        have hoff := offm hoff ho5 (by decide +kernel)
        have hsh := SH.off hsh ho5 (by decide +kernel)
        have w_A30 : a5 30 = (6001, .inl r5.2.2.2.2.2.2.2.2.1) := hp5_A30
        have w_A33 : a5 33 = (10, .inl r5.2.2.2.2.2.2.2.2.2.1) := hp5_A33
        have w_A35 : a5 35 = (60000, .inl r5.2.2.2.2.2.2.2.2.2.2.1) := hp5_A35
        have w_A37 : a5 37 = (16384, .inl r5.2.2.2.2.2.2.2.2.2.2.2.1) := hp5_A37
        have w_A38 : a5 38 = (6000, .inr (.inl r5.2.2.2.2.2.2.2.2.2.2.2.2.1)) := hp5_A38
        have w_A44 : a5 44 = (6000, .inl r5.2.2.2.2.2.2.2.2.2.2.2.2.2.1) := hp5_A44
        have w_A46 : a5 46 = (6000, .inl r5.2.2.2.2.2.2.2.2.2.2.2.2.2.2.1) := hp5_A46
        have w_A48 : a5 48 = (6000, .inl r5.2.2.2.2.2.2.2.2.2.2.2.2.2.2.2.1) := hp5_A48
        have w_A50 : a5 50 = (6000, .inl r5.2.2.2.2.2.2.2.2.2.2.2.2.2.2.2.2.1) := hp5_A50
        have w_A52 : a5 52 = (6000, .inl r5.2.2.2.2.2.2.2.2.2.2.2.2.2.2.2.2.2.1) := hp5_A52
        have w_A54 : a5 54 = (6000, .inl r5.2.2.2.2.2.2.2.2.2.2.2.2.2.2.2.2.2.2.1) := hp5_A54
        have w_A67 : a5 67 = (10, .inl r5.2.2.2.2.2.2.2.2.2.2.2.2.2.2.2.2.2.2.2) := hp5_A67
        have hoffa := offm hoffa hoa5 (by decide +kernel)
        refine lv_iload_n hx hb dX11_every_42 rfl (lv_at hl 1 rfl) ?_
        refine g_ViR (n := 1) hx hb hml hown hG hW hS [.int p1] (kX2_at (ltN hN 66 rfl) gk66 (ltN hN 67 rfl) gk67 (sh66_0 hsh) (by decide) w_A67 p1) (ltN hN 66 rfl) gk66 (by decide) rfl rfl (gd_V gx563 gx564 gx565 gx47 gx566) rfl rfl (by decide) ⟨Nat.le_of_ble_eq_true rfl, Nat.le_of_ble_eq_true rfl⟩ rfl hl (Nat.le_of_ble_eq_true rfl) ⟨Nat.zero_le _, Nat.zero_le _⟩ dX11_every_43 (fun H locs hW hS => ?_)
        have hs0 := Option.some.inj hs0
        subst hs0
        exact W.zret hx hb hr rfl (fun t ht hw => ⟨⟨_, (m5, a5), rfl, ⟨rfl, w_x27_5, w_x27_6, w_x28_2, w_x28_3, w_x31_1, w_x31_2, w_x42_6, w_x42_7, hoff, w_A30, w_A33, w_A35, w_A37, w_A38, w_A44, w_A46, w_A48, w_A50, w_A52, w_A54, w_A67, hoffa⟩, g_end hW ht hw⟩, hS.F ht⟩) hS.2.2 dX11_every_46 hlocks
      · rw [if_neg c4] at hs0
        refine lv_bipush (v := (-3)) hx hb dX11_every_26 (by decide) ?_
        refine lv_goto (tgt := 46) hx hb dX11_every_28 (by decide) ?_
        have hs0 := Option.some.inj hs0
        subst hs0
        exact W.zret hx hb hr rfl (fun t ht hw => ⟨⟨_, (m0, a0), rfl, ⟨rfl, h_x27_5, h_x27_6, h_x28_2, h_x28_3, h_x31_1, h_x31_2, h_x42_6, h_x42_7, hoff, h_A30, h_A33, h_A35, h_A37, h_A38, h_A44, h_A46, h_A48, h_A50, h_A52, h_A54, h_A67, hoffa⟩, g_end hW ht hw⟩, hS.F ht⟩) hS.2.2 dX11_every_46 hlocks
    · rw [if_neg c2] at hs0
      refine lv_iconst (v := (-1)) hx hb dX11_every_10 (by decide) ?_
      have hs0 := Option.some.inj hs0
      subst hs0
      exact W.zret hx hb hr rfl (fun t ht hw => ⟨⟨_, (m0, a0), rfl, ⟨rfl, h_x27_5, h_x27_6, h_x28_2, h_x28_3, h_x31_1, h_x31_2, h_x42_6, h_x42_7, hoff, h_A30, h_A33, h_A35, h_A37, h_A38, h_A44, h_A46, h_A48, h_A50, h_A52, h_A54, h_A67, hoffa⟩, g_end hW ht hw⟩, hS.F ht⟩) hS.2.2 dX11_every_11 hlocks
