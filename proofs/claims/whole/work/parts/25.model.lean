/-! 25.model (by program): the pure function of each method, its rows, its contract -/
-- HealLinkModel.digit (III)V
def fX12_digit (x69_55 : Int32) (A100 : Nat → Int32) (A101 : Nat → Int32) (A102 : Nat → Int32) (p1 : Int32) (p2 : Int32) (p3 : Int32) : Option (Int32 × (Nat → Int32) × (Nat → Int32) × (Nat → Int32)) := (if inb x69_55 25 = true then (if inb x69_55 25 = true then (if inb x69_55 25 = true then some (x69_55 + 1, upd A100 x69_55.toNatClampNeg p1, upd A101 x69_55.toNatClampNeg p2, upd A102 x69_55.toNatClampNeg p3) else none) else none) else none)
theorem dX12_digit_0 : decode cX12_digit 0 = .ok (.aload_n 0, 1) := by decide +kernel
theorem dX12_digit_1 : decode cX12_digit 1 = .ok (.getfield 117, 3) := by decide +kernel
theorem dX12_digit_4 : decode cX12_digit 4 = .ok (.aload_n 0, 1) := by decide +kernel
theorem dX12_digit_5 : decode cX12_digit 5 = .ok (.getfield 333, 3) := by decide +kernel
theorem dX12_digit_8 : decode cX12_digit 8 = .ok (.iload_n 1, 1) := by decide +kernel
theorem dX12_digit_9 : decode cX12_digit 9 = .ok (.iastore, 1) := by decide +kernel
theorem dX12_digit_10 : decode cX12_digit 10 = .ok (.aload_n 0, 1) := by decide +kernel
theorem dX12_digit_11 : decode cX12_digit 11 = .ok (.getfield 120, 3) := by decide +kernel
theorem dX12_digit_14 : decode cX12_digit 14 = .ok (.aload_n 0, 1) := by decide +kernel
theorem dX12_digit_15 : decode cX12_digit 15 = .ok (.getfield 333, 3) := by decide +kernel
theorem dX12_digit_18 : decode cX12_digit 18 = .ok (.iload_n 2, 1) := by decide +kernel
theorem dX12_digit_19 : decode cX12_digit 19 = .ok (.iastore, 1) := by decide +kernel
theorem dX12_digit_20 : decode cX12_digit 20 = .ok (.aload_n 0, 1) := by decide +kernel
theorem dX12_digit_21 : decode cX12_digit 21 = .ok (.getfield 123, 3) := by decide +kernel
theorem dX12_digit_24 : decode cX12_digit 24 = .ok (.aload_n 0, 1) := by decide +kernel
theorem dX12_digit_25 : decode cX12_digit 25 = .ok (.getfield 333, 3) := by decide +kernel
theorem dX12_digit_28 : decode cX12_digit 28 = .ok (.iload_n 3, 1) := by decide +kernel
theorem dX12_digit_29 : decode cX12_digit 29 = .ok (.iastore, 1) := by decide +kernel
theorem dX12_digit_30 : decode cX12_digit 30 = .ok (.aload_n 0, 1) := by decide +kernel
theorem dX12_digit_31 : decode cX12_digit 31 = .ok (.dup, 1) := by decide +kernel
theorem dX12_digit_32 : decode cX12_digit 32 = .ok (.getfield 333, 3) := by decide +kernel
theorem dX12_digit_35 : decode cX12_digit 35 = .ok (.iconst 1, 1) := by decide +kernel
theorem dX12_digit_36 : decode cX12_digit 36 = .ok (.iadd, 1) := by decide +kernel
theorem dX12_digit_37 : decode cX12_digit 37 = .ok (.putfield 333, 3) := by decide +kernel
theorem dX12_digit_40 : decode cX12_digit 40 = .ok (.return_, 1) := by decide +kernel
set_option maxHeartbeats 4000000 in
set_option maxRecDepth 100000 in
theorem kX12_digit {l : Launch} {D : va_G} {cy : Nat → ClassId} {N : Nat} {q : Nat → Nat} {m0 : Nat → Value} {a0 : Nat → vp_A} {sz : Nat} (hN : 105 ≤ N) (hsh : SH q m0) {x69_55 : Int32} (h_x69_55 : m0 6955 = .int x69_55) {A100 : Nat → Int32} (h_A100 : a0 100 = (25, .inl A100)) {A101 : Nat → Int32} (h_A101 : a0 101 = (25, .inl A101)) {A102 : Nat → Int32} (h_A102 : a0 102 = (25, .inl A102)) (p1 : Int32) (p2 : Int32) (p3 : Int32) {X0 : Int32 × (Nat → Int32) × (Nat → Int32) × (Nat → Int32)} (hs0 : fX12_digit x69_55 A100 A101 A102 p1 p2 p3 = some X0) : gMv l yX12_digit cX12_digit 4 none ({ frames := 0, cells := 0, slots := 0, locals := 0 } : Room) D cy N q m0 a0 sz [.ref (q 69), .int p1, .int p2, .int p3] (fun m' a' => m' 6955 = .int X0.1 ∧ (∀ j, nel j [6955] = false → m' j = m0 j) ∧ a' 100 = (25, .inl X0.2.1) ∧ a' 101 = (25, .inl X0.2.2.1) ∧ a' 102 = (25, .inl X0.2.2.2) ∧ (∀ j, nel j [100, 101, 102] = false → a' j = a0 j)) := by
  refine g_ofv (by decide) (Nat.le_of_ble_eq_true rfl) ?_
  intro p e s M args below meth c hx hb hr hG hown hin hlocks hml hW hS ls hl
  unfold fX12_digit at hs0
  have hoff : ∀ j, nel j [6955] = false → m0 j = m0 j := off0
  have hoffa : ∀ j, nel j [100, 101, 102] = false → a0 j = a0 j := off0
  refine lv_aload_n hx hb dX12_digit_0 rfl (lv_at hl 0 rfl) ?_
  refine gf12_52 hx hb hG hown hW (o := 69) (ltN hN 69 rfl) gk69 (v := .ref (q 100)) (sh69_52 hsh) gx198 dX12_digit_1 ?_
  refine lv_aload_n hx hb dX12_digit_4 rfl (lv_at hl 0 rfl) ?_
  refine gf12_55 hx hb hG hown hW (o := 69) (ltN hN 69 rfl) gk69 (v := .int x69_55) h_x69_55 gx1063 dX12_digit_5 ?_
  refine lv_iload_n hx hb dX12_digit_8 rfl (lv_at hl 1 rfl) ?_
  obtain ⟨hi1, hs0⟩ := oif hs0
  refine g_iast hx hb hW hS (o := 100) (ltN hN 100 rfl) gk100 h_A100 (vin hi1) dX12_digit_9 (fun a2 H locs ha2 ho2 hW hS => ?_)
  have ho2 := off1 ho2
  have w_A100 : a2 100 = (25, .inl (upd A100 x69_55.toNatClampNeg p1)) := ha2
  have w_A101 : a2 101 = (25, .inl A101) := (ho2 101 rfl).trans h_A101
  have w_A102 : a2 102 = (25, .inl A102) := (ho2 102 rfl).trans h_A102
  have hoffa := offm hoffa ho2 (by decide +kernel)
  refine lv_aload_n hx hb dX12_digit_10 rfl (lv_at hl 0 rfl) ?_
  refine gf12_53 hx hb hG hown hW (o := 69) (ltN hN 69 rfl) gk69 (v := .ref (q 101)) (sh69_53 hsh) gx199 dX12_digit_11 ?_
  refine lv_aload_n hx hb dX12_digit_14 rfl (lv_at hl 0 rfl) ?_
  refine gf12_55 hx hb hG hown hW (o := 69) (ltN hN 69 rfl) gk69 (v := .int x69_55) h_x69_55 gx1063 dX12_digit_15 ?_
  refine lv_iload_n hx hb dX12_digit_18 rfl (lv_at hl 2 rfl) ?_
  obtain ⟨hi3, hs0⟩ := oif hs0
  refine g_iast hx hb hW hS (o := 101) (ltN hN 101 rfl) gk101 w_A101 (vin hi3) dX12_digit_19 (fun a4 H locs ha4 ho4 hW hS => ?_)
  have ho4 := off1 ho4
  have w_A100 : a4 100 = (25, .inl (upd A100 x69_55.toNatClampNeg p1)) := (ho4 100 rfl).trans w_A100
  have w_A101 : a4 101 = (25, .inl (upd A101 x69_55.toNatClampNeg p2)) := ha4
  have w_A102 : a4 102 = (25, .inl A102) := (ho4 102 rfl).trans w_A102
  have hoffa := offm hoffa ho4 (by decide +kernel)
  refine lv_aload_n hx hb dX12_digit_20 rfl (lv_at hl 0 rfl) ?_
  refine gf12_54 hx hb hG hown hW (o := 69) (ltN hN 69 rfl) gk69 (v := .ref (q 102)) (sh69_54 hsh) gx200 dX12_digit_21 ?_
  refine lv_aload_n hx hb dX12_digit_24 rfl (lv_at hl 0 rfl) ?_
  refine gf12_55 hx hb hG hown hW (o := 69) (ltN hN 69 rfl) gk69 (v := .int x69_55) h_x69_55 gx1063 dX12_digit_25 ?_
  refine lv_iload_n hx hb dX12_digit_28 rfl (lv_at hl 3 rfl) ?_
  obtain ⟨hi5, hs0⟩ := oif hs0
  refine g_iast hx hb hW hS (o := 102) (ltN hN 102 rfl) gk102 w_A102 (vin hi5) dX12_digit_29 (fun a6 H locs ha6 ho6 hW hS => ?_)
  have ho6 := off1 ho6
  have w_A100 : a6 100 = (25, .inl (upd A100 x69_55.toNatClampNeg p1)) := (ho6 100 rfl).trans w_A100
  have w_A101 : a6 101 = (25, .inl (upd A101 x69_55.toNatClampNeg p2)) := (ho6 101 rfl).trans w_A101
  have w_A102 : a6 102 = (25, .inl (upd A102 x69_55.toNatClampNeg p3)) := ha6
  have hoffa := offm hoffa ho6 (by decide +kernel)
  refine lv_aload_n hx hb dX12_digit_30 rfl (lv_at hl 0 rfl) ?_
  refine lv_dup hx hb dX12_digit_31 rfl ?_
  refine gf12_55 hx hb hG hown hW (o := 69) (ltN hN 69 rfl) gk69 (v := .int x69_55) h_x69_55 gx1063 dX12_digit_32 ?_
  refine lv_iconst (v := 1) hx hb dX12_digit_35 (by decide) ?_
  refine lv_iadd hx hb dX12_digit_36 ?_
  refine gp12_55 hx hb hG hown hW hS (o := 69) (ltN hN 69 rfl) gk69 (v := (x69_55 + 1)) gx1063 dX12_digit_37 (fun m7 H locs hm7 ho7 hW hS => ?_)
  have ho7 := off1 ho7
  have w_x69_55 : m7 6955 = .int (x69_55 + 1) := hm7
  have hoff := offm hoff ho7 (by decide +kernel)
  have hsh := SH.off hsh ho7 (by decide +kernel)
  have hs0 := Option.some.inj hs0
  subst hs0
  exact W.vret hx hb hr (fun t ht hw => ⟨⟨(m7, a6), rfl, ⟨w_x69_55, hoff, w_A100, w_A101, w_A102, hoffa⟩, g_end hW ht hw⟩, hS.F ht⟩) hS.2.2 dX12_digit_40 hlocks
-- HealLinkModel.laysDigits ()V
def fX12_laysDigits_S53 (F : Nat) (x69_0 : Int32) (x69_1 : Int32) (x69_2 : Int32) (x69_3 : Int32) (v1 : Int32) (x69_55 : Int32) (A100 : Nat → Int32) (A101 : Nat → Int32) (A102 : Nat → Int32) : Option ((Int32 × (Nat → Int32) × (Nat → Int32) × (Nat → Int32)) ⊕ (Int32 × Int32 × (Nat → Int32) × (Nat → Int32) × (Nat → Int32))) := (if (2 * x69_1) ≤ v1 then some (Sum.inl (x69_55, A100, A101, A102)) else ((fX12_digit x69_55 A100 A101 A102 (9 + (2 * v1)) 2 x69_3).bind (fun r9 => some (Sum.inr (v1 + 1, r9.1, r9.2.1, r9.2.2.1, r9.2.2.2)))))
def fX12_laysDigits_S86 (F : Nat) (x69_0 : Int32) (x69_1 : Int32) (x69_2 : Int32) (x69_3 : Int32) (v1 : Int32) (x69_55 : Int32) (A100 : Nat → Int32) (A101 : Nat → Int32) (A102 : Nat → Int32) : Option ((Int32 × (Nat → Int32) × (Nat → Int32) × (Nat → Int32)) ⊕ (Int32 × Int32 × (Nat → Int32) × (Nat → Int32) × (Nat → Int32))) := (if (2 * x69_1) ≤ v1 then some (Sum.inl (x69_55, A100, A101, A102)) else ((fX12_digit x69_55 A100 A101 A102 (25 + (2 * v1)) 2 (x69_0 + 1)).bind (fun r12 => some (Sum.inr (v1 + 1, r12.1, r12.2.1, r12.2.2.1, r12.2.2.2)))))
def fX12_laysDigits_S121 (F : Nat) (x69_0 : Int32) (x69_1 : Int32) (x69_2 : Int32) (x69_3 : Int32) (v1 : Int32) (x69_55 : Int32) (A100 : Nat → Int32) (A101 : Nat → Int32) (A102 : Nat → Int32) : Option ((Int32 × (Nat → Int32) × (Nat → Int32) × (Nat → Int32)) ⊕ (Int32 × Int32 × (Nat → Int32) × (Nat → Int32) × (Nat → Int32))) := (if x69_1 ≤ v1 then some (Sum.inl (x69_55, A100, A101, A102)) else ((fX12_digit x69_55 A100 A101 A102 (41 + (2 * v1)) 2 (x69_0 + 1)).bind (fun r15 => some (Sum.inr (v1 + 1, r15.1, r15.2.1, r15.2.2.1, r15.2.2.2)))))
def fX12_laysDigits (F : Nat) (x69_0 : Int32) (x69_1 : Int32) (x69_2 : Int32) (x69_3 : Int32) (x69_55 : Int32) (A100 : Nat → Int32) (A101 : Nat → Int32) (A102 : Nat → Int32) : Option (Int32 × (Nat → Int32) × (Nat → Int32) × (Nat → Int32)) := ((fX12_digit 0 A100 A101 A102 0 2 x69_1).bind (fun r2 => ((fX12_digit r2.1 r2.2.1 r2.2.2.1 r2.2.2.2 2 1 2).bind (fun r3 => ((fX12_digit r3.1 r3.2.1 r3.2.2.1 r3.2.2.2 3 3 x69_2).bind (fun r4 => ((fX12_digit r4.1 r4.2.1 r4.2.2.1 r4.2.2.2 6 1 2).bind (fun r5 => ((fX12_digit r5.1 r5.2.1 r5.2.2.1 r5.2.2.2 7 2 x69_1).bind (fun r6 => (gloop (fun u7 : (Int32 × Int32 × (Nat → Int32) × (Nat → Int32) × (Nat → Int32)) => fX12_laysDigits_S53 F x69_0 x69_1 x69_2 x69_3 u7.1 u7.2.1 u7.2.2.1 u7.2.2.2.1 u7.2.2.2.2) F (0, r6.1, r6.2.1, r6.2.2.1, r6.2.2.2)).bind (fun t7_84 => (gloop (fun u10 : (Int32 × Int32 × (Nat → Int32) × (Nat → Int32) × (Nat → Int32)) => fX12_laysDigits_S86 F x69_0 x69_1 x69_2 x69_3 u10.1 u10.2.1 u10.2.2.1 u10.2.2.2.1 u10.2.2.2.2) F (0, t7_84.1, t7_84.2.1, t7_84.2.2.1, t7_84.2.2.2)).bind (fun t10_119 => (gloop (fun u13 : (Int32 × Int32 × (Nat → Int32) × (Nat → Int32) × (Nat → Int32)) => fX12_laysDigits_S121 F x69_0 x69_1 x69_2 x69_3 u13.1 u13.2.1 u13.2.2.1 u13.2.2.2.1 u13.2.2.2.2) F (0, t10_119.1, t10_119.2.1, t10_119.2.2.1, t10_119.2.2.2)).bind (fun t13_152 => some (t13_152.1, t13_152.2.1, t13_152.2.2.1, t13_152.2.2.2))))))))))))))
theorem dX12_laysDigits_0 : decode cX12_laysDigits 0 = .ok (.aload_n 0, 1) := by decide +kernel
theorem dX12_laysDigits_1 : decode cX12_laysDigits 1 = .ok (.iconst 0, 1) := by decide +kernel
theorem dX12_laysDigits_2 : decode cX12_laysDigits 2 = .ok (.putfield 333, 3) := by decide +kernel
theorem dX12_laysDigits_5 : decode cX12_laysDigits 5 = .ok (.aload_n 0, 1) := by decide +kernel
theorem dX12_laysDigits_6 : decode cX12_laysDigits 6 = .ok (.iconst 0, 1) := by decide +kernel
theorem dX12_laysDigits_7 : decode cX12_laysDigits 7 = .ok (.iconst 2, 1) := by decide +kernel
theorem dX12_laysDigits_8 : decode cX12_laysDigits 8 = .ok (.aload_n 0, 1) := by decide +kernel
theorem dX12_laysDigits_9 : decode cX12_laysDigits 9 = .ok (.getfield 13, 3) := by decide +kernel
theorem dX12_laysDigits_12 : decode cX12_laysDigits 12 = .ok (.invokevirtual 336, 3) := by decide +kernel
theorem dX12_laysDigits_15 : decode cX12_laysDigits 15 = .ok (.aload_n 0, 1) := by decide +kernel
theorem dX12_laysDigits_16 : decode cX12_laysDigits 16 = .ok (.iconst 2, 1) := by decide +kernel
theorem dX12_laysDigits_17 : decode cX12_laysDigits 17 = .ok (.iconst 1, 1) := by decide +kernel
theorem dX12_laysDigits_18 : decode cX12_laysDigits 18 = .ok (.iconst 2, 1) := by decide +kernel
theorem dX12_laysDigits_19 : decode cX12_laysDigits 19 = .ok (.invokevirtual 336, 3) := by decide +kernel
theorem dX12_laysDigits_22 : decode cX12_laysDigits 22 = .ok (.aload_n 0, 1) := by decide +kernel
theorem dX12_laysDigits_23 : decode cX12_laysDigits 23 = .ok (.iconst 3, 1) := by decide +kernel
theorem dX12_laysDigits_24 : decode cX12_laysDigits 24 = .ok (.iconst 3, 1) := by decide +kernel
theorem dX12_laysDigits_25 : decode cX12_laysDigits 25 = .ok (.aload_n 0, 1) := by decide +kernel
theorem dX12_laysDigits_26 : decode cX12_laysDigits 26 = .ok (.getfield 16, 3) := by decide +kernel
theorem dX12_laysDigits_29 : decode cX12_laysDigits 29 = .ok (.invokevirtual 336, 3) := by decide +kernel
theorem dX12_laysDigits_32 : decode cX12_laysDigits 32 = .ok (.aload_n 0, 1) := by decide +kernel
theorem dX12_laysDigits_33 : decode cX12_laysDigits 33 = .ok (.bipush 6, 2) := by decide +kernel
theorem dX12_laysDigits_35 : decode cX12_laysDigits 35 = .ok (.iconst 1, 1) := by decide +kernel
theorem dX12_laysDigits_36 : decode cX12_laysDigits 36 = .ok (.iconst 2, 1) := by decide +kernel
theorem dX12_laysDigits_37 : decode cX12_laysDigits 37 = .ok (.invokevirtual 336, 3) := by decide +kernel
theorem dX12_laysDigits_40 : decode cX12_laysDigits 40 = .ok (.aload_n 0, 1) := by decide +kernel
theorem dX12_laysDigits_41 : decode cX12_laysDigits 41 = .ok (.bipush 7, 2) := by decide +kernel
theorem dX12_laysDigits_43 : decode cX12_laysDigits 43 = .ok (.iconst 2, 1) := by decide +kernel
theorem dX12_laysDigits_44 : decode cX12_laysDigits 44 = .ok (.aload_n 0, 1) := by decide +kernel
theorem dX12_laysDigits_45 : decode cX12_laysDigits 45 = .ok (.getfield 13, 3) := by decide +kernel
theorem dX12_laysDigits_48 : decode cX12_laysDigits 48 = .ok (.invokevirtual 336, 3) := by decide +kernel
theorem dX12_laysDigits_51 : decode cX12_laysDigits 51 = .ok (.iconst 0, 1) := by decide +kernel
theorem dX12_laysDigits_52 : decode cX12_laysDigits 52 = .ok (.istore_n 1, 1) := by decide +kernel
theorem dX12_laysDigits_53 : decode cX12_laysDigits 53 = .ok (.iload_n 1, 1) := by decide +kernel
theorem dX12_laysDigits_54 : decode cX12_laysDigits 54 = .ok (.iconst 2, 1) := by decide +kernel
theorem dX12_laysDigits_55 : decode cX12_laysDigits 55 = .ok (.aload_n 0, 1) := by decide +kernel
theorem dX12_laysDigits_56 : decode cX12_laysDigits 56 = .ok (.getfield 13, 3) := by decide +kernel
theorem dX12_laysDigits_59 : decode cX12_laysDigits 59 = .ok (.imul, 1) := by decide +kernel
theorem dX12_laysDigits_60 : decode cX12_laysDigits 60 = .ok (.if_icmp .ge 24, 3) := by decide +kernel
theorem dX12_laysDigits_63 : decode cX12_laysDigits 63 = .ok (.aload_n 0, 1) := by decide +kernel
theorem dX12_laysDigits_64 : decode cX12_laysDigits 64 = .ok (.bipush 9, 2) := by decide +kernel
theorem dX12_laysDigits_66 : decode cX12_laysDigits 66 = .ok (.iconst 2, 1) := by decide +kernel
theorem dX12_laysDigits_67 : decode cX12_laysDigits 67 = .ok (.iload_n 1, 1) := by decide +kernel
theorem dX12_laysDigits_68 : decode cX12_laysDigits 68 = .ok (.imul, 1) := by decide +kernel
theorem dX12_laysDigits_69 : decode cX12_laysDigits 69 = .ok (.iadd, 1) := by decide +kernel
theorem dX12_laysDigits_70 : decode cX12_laysDigits 70 = .ok (.iconst 2, 1) := by decide +kernel
theorem dX12_laysDigits_71 : decode cX12_laysDigits 71 = .ok (.aload_n 0, 1) := by decide +kernel
theorem dX12_laysDigits_72 : decode cX12_laysDigits 72 = .ok (.getfield 19, 3) := by decide +kernel
theorem dX12_laysDigits_75 : decode cX12_laysDigits 75 = .ok (.invokevirtual 336, 3) := by decide +kernel
theorem dX12_laysDigits_78 : decode cX12_laysDigits 78 = .ok (.iinc 1 1, 3) := by decide +kernel
theorem dX12_laysDigits_81 : decode cX12_laysDigits 81 = .ok (.goto (-28), 3) := by decide +kernel
theorem dX12_laysDigits_84 : decode cX12_laysDigits 84 = .ok (.iconst 0, 1) := by decide +kernel
theorem dX12_laysDigits_85 : decode cX12_laysDigits 85 = .ok (.istore_n 1, 1) := by decide +kernel
theorem dX12_laysDigits_86 : decode cX12_laysDigits 86 = .ok (.iload_n 1, 1) := by decide +kernel
theorem dX12_laysDigits_87 : decode cX12_laysDigits 87 = .ok (.iconst 2, 1) := by decide +kernel
theorem dX12_laysDigits_88 : decode cX12_laysDigits 88 = .ok (.aload_n 0, 1) := by decide +kernel
theorem dX12_laysDigits_89 : decode cX12_laysDigits 89 = .ok (.getfield 13, 3) := by decide +kernel
theorem dX12_laysDigits_92 : decode cX12_laysDigits 92 = .ok (.imul, 1) := by decide +kernel
theorem dX12_laysDigits_93 : decode cX12_laysDigits 93 = .ok (.if_icmp .ge 26, 3) := by decide +kernel
theorem dX12_laysDigits_96 : decode cX12_laysDigits 96 = .ok (.aload_n 0, 1) := by decide +kernel
theorem dX12_laysDigits_97 : decode cX12_laysDigits 97 = .ok (.bipush 25, 2) := by decide +kernel
theorem dX12_laysDigits_99 : decode cX12_laysDigits 99 = .ok (.iconst 2, 1) := by decide +kernel
theorem dX12_laysDigits_100 : decode cX12_laysDigits 100 = .ok (.iload_n 1, 1) := by decide +kernel
theorem dX12_laysDigits_101 : decode cX12_laysDigits 101 = .ok (.imul, 1) := by decide +kernel
theorem dX12_laysDigits_102 : decode cX12_laysDigits 102 = .ok (.iadd, 1) := by decide +kernel
theorem dX12_laysDigits_103 : decode cX12_laysDigits 103 = .ok (.iconst 2, 1) := by decide +kernel
theorem dX12_laysDigits_104 : decode cX12_laysDigits 104 = .ok (.aload_n 0, 1) := by decide +kernel
theorem dX12_laysDigits_105 : decode cX12_laysDigits 105 = .ok (.getfield 7, 3) := by decide +kernel
theorem dX12_laysDigits_108 : decode cX12_laysDigits 108 = .ok (.iconst 1, 1) := by decide +kernel
theorem dX12_laysDigits_109 : decode cX12_laysDigits 109 = .ok (.iadd, 1) := by decide +kernel
theorem dX12_laysDigits_110 : decode cX12_laysDigits 110 = .ok (.invokevirtual 336, 3) := by decide +kernel
theorem dX12_laysDigits_113 : decode cX12_laysDigits 113 = .ok (.iinc 1 1, 3) := by decide +kernel
theorem dX12_laysDigits_116 : decode cX12_laysDigits 116 = .ok (.goto (-30), 3) := by decide +kernel
theorem dX12_laysDigits_119 : decode cX12_laysDigits 119 = .ok (.iconst 0, 1) := by decide +kernel
theorem dX12_laysDigits_120 : decode cX12_laysDigits 120 = .ok (.istore_n 1, 1) := by decide +kernel
theorem dX12_laysDigits_121 : decode cX12_laysDigits 121 = .ok (.iload_n 1, 1) := by decide +kernel
theorem dX12_laysDigits_122 : decode cX12_laysDigits 122 = .ok (.aload_n 0, 1) := by decide +kernel
theorem dX12_laysDigits_123 : decode cX12_laysDigits 123 = .ok (.getfield 13, 3) := by decide +kernel
theorem dX12_laysDigits_126 : decode cX12_laysDigits 126 = .ok (.if_icmp .ge 26, 3) := by decide +kernel
theorem dX12_laysDigits_129 : decode cX12_laysDigits 129 = .ok (.aload_n 0, 1) := by decide +kernel
theorem dX12_laysDigits_130 : decode cX12_laysDigits 130 = .ok (.bipush 41, 2) := by decide +kernel
theorem dX12_laysDigits_132 : decode cX12_laysDigits 132 = .ok (.iconst 2, 1) := by decide +kernel
theorem dX12_laysDigits_133 : decode cX12_laysDigits 133 = .ok (.iload_n 1, 1) := by decide +kernel
theorem dX12_laysDigits_134 : decode cX12_laysDigits 134 = .ok (.imul, 1) := by decide +kernel
theorem dX12_laysDigits_135 : decode cX12_laysDigits 135 = .ok (.iadd, 1) := by decide +kernel
theorem dX12_laysDigits_136 : decode cX12_laysDigits 136 = .ok (.iconst 2, 1) := by decide +kernel
theorem dX12_laysDigits_137 : decode cX12_laysDigits 137 = .ok (.aload_n 0, 1) := by decide +kernel
theorem dX12_laysDigits_138 : decode cX12_laysDigits 138 = .ok (.getfield 7, 3) := by decide +kernel
theorem dX12_laysDigits_141 : decode cX12_laysDigits 141 = .ok (.iconst 1, 1) := by decide +kernel
theorem dX12_laysDigits_142 : decode cX12_laysDigits 142 = .ok (.iadd, 1) := by decide +kernel
theorem dX12_laysDigits_143 : decode cX12_laysDigits 143 = .ok (.invokevirtual 336, 3) := by decide +kernel
theorem dX12_laysDigits_146 : decode cX12_laysDigits 146 = .ok (.iinc 1 1, 3) := by decide +kernel
theorem dX12_laysDigits_149 : decode cX12_laysDigits 149 = .ok (.goto (-28), 3) := by decide +kernel
theorem dX12_laysDigits_152 : decode cX12_laysDigits 152 = .ok (.return_, 1) := by decide +kernel
set_option maxHeartbeats 4000000 in
set_option maxRecDepth 100000 in
theorem kX12_laysDigits {l : Launch} {D : va_G} {cy : Nat → ClassId} {N : Nat} {q : Nat → Nat} {m0 : Nat → Value} {a0 : Nat → vp_A} {sz : Nat} (hN : 105 ≤ N) (hsh : SH q m0) {x69_0 : Int32} (h_x69_0 : m0 6900 = .int x69_0) {x69_1 : Int32} (h_x69_1 : m0 6901 = .int x69_1) {x69_2 : Int32} (h_x69_2 : m0 6902 = .int x69_2) {x69_3 : Int32} (h_x69_3 : m0 6903 = .int x69_3) {x69_55 : Int32} (h_x69_55 : m0 6955 = .int x69_55) {A100 : Nat → Int32} (h_A100 : a0 100 = (25, .inl A100)) {A101 : Nat → Int32} (h_A101 : a0 101 = (25, .inl A101)) {A102 : Nat → Int32} (h_A102 : a0 102 = (25, .inl A102)) (F : Nat) {X0 : Int32 × (Nat → Int32) × (Nat → Int32) × (Nat → Int32)} (hs0 : fX12_laysDigits F x69_0 x69_1 x69_2 x69_3 x69_55 A100 A101 A102 = some X0) : gMv l yX12_laysDigits cX12_laysDigits 2 none ({ frames := 1, cells := 0, slots := 0, locals := 23 } : Room) D cy N q m0 a0 sz [.ref (q 69)] (fun m' a' => m' 6955 = .int X0.1 ∧ (∀ j, nel j [6955] = false → m' j = m0 j) ∧ a' 100 = (25, .inl X0.2.1) ∧ a' 101 = (25, .inl X0.2.2.1) ∧ a' 102 = (25, .inl X0.2.2.2) ∧ (∀ j, nel j [100, 101, 102] = false → a' j = a0 j)) := by
  refine g_ofv (by decide) (Nat.le_of_ble_eq_true rfl) ?_
  intro p e s M args below meth c hx hb hr hG hown hin hlocks hml hW hS ls hl
  unfold fX12_laysDigits at hs0
  have hoff : ∀ j, nel j [6955] = false → m0 j = m0 j := off0
  have hoffa : ∀ j, nel j [100, 101, 102] = false → a0 j = a0 j := off0
  refine lv_aload_n hx hb dX12_laysDigits_0 rfl (lv_at hl 0 rfl) ?_
  refine lv_iconst (v := 0) hx hb dX12_laysDigits_1 (by decide) ?_
  refine gp12_55 hx hb hG hown hW hS (o := 69) (ltN hN 69 rfl) gk69 (v := 0) gx1063 dX12_laysDigits_2 (fun m1 H locs hm1 ho1 hW hS => ?_)
  have ho1 := off1 ho1
  have w_x69_55 : m1 6955 = .int 0 := hm1
  have hoff := offm hoff ho1 (by decide +kernel)
  have hsh := SH.off hsh ho1 (by decide +kernel)
  refine lv_aload_n hx hb dX12_laysDigits_5 rfl (lv_at hl 0 rfl) ?_
  refine lv_iconst (v := 0) hx hb dX12_laysDigits_6 (by decide) ?_
  refine lv_iconst (v := 2) hx hb dX12_laysDigits_7 (by decide) ?_
  refine lv_aload_n hx hb dX12_laysDigits_8 rfl (lv_at hl 0 rfl) ?_
  refine gf12_1 hx hb hG hown hW (o := 69) (ltN hN 69 rfl) gk69 (v := .int x69_1) ((hoff 6901 rfl).trans h_x69_1) gx163 dX12_laysDigits_9 ?_
  obtain ⟨r2, hf2, hs0⟩ := obind hs0
  refine g_Vv (n := 3) hx hb hml hown hG hW hS [.int 0, .int 2, .int x69_1] (kX12_digit hN hsh w_x69_55 h_A100 h_A101 h_A102 0 2 x69_1 hf2) (ltN hN 69 rfl) gk69 (by decide) rfl rfl (gd_V gx1064 gx1065 gx1066 gx5 gx1067) rfl rfl (by decide) ⟨Nat.le_of_ble_eq_true rfl, Nat.le_of_ble_eq_true rfl⟩ rfl hl (Nat.le_of_ble_eq_true rfl) ⟨Nat.zero_le _, Nat.zero_le _⟩ dX12_laysDigits_12 (fun m2 a2 H locs hp2 hW hS => ?_)
  obtain ⟨hp2_x69_55, ho2, hp2_A100, hp2_A101, hp2_A102, hoa2⟩ := hp2
  have w_x69_55 : m2 6955 = .int r2.1 := hp2_x69_55
  have hoff := offm hoff ho2 (by decide +kernel)
  have hsh := SH.off hsh ho2 (by decide +kernel)
  have w_A100 : a2 100 = (25, .inl r2.2.1) := hp2_A100
  have w_A101 : a2 101 = (25, .inl r2.2.2.1) := hp2_A101
  have w_A102 : a2 102 = (25, .inl r2.2.2.2) := hp2_A102
  have hoffa := offm hoffa hoa2 (by decide +kernel)
  refine lv_aload_n hx hb dX12_laysDigits_15 rfl (lv_at hl 0 rfl) ?_
  refine lv_iconst (v := 2) hx hb dX12_laysDigits_16 (by decide) ?_
  refine lv_iconst (v := 1) hx hb dX12_laysDigits_17 (by decide) ?_
  refine lv_iconst (v := 2) hx hb dX12_laysDigits_18 (by decide) ?_
  obtain ⟨r3, hf3, hs0⟩ := obind hs0
  refine g_Vv (n := 3) hx hb hml hown hG hW hS [.int 2, .int 1, .int 2] (kX12_digit hN hsh w_x69_55 w_A100 w_A101 w_A102 2 1 2 hf3) (ltN hN 69 rfl) gk69 (by decide) rfl rfl (gd_V gx1064 gx1065 gx1066 gx5 gx1067) rfl rfl (by decide) ⟨Nat.le_of_ble_eq_true rfl, Nat.le_of_ble_eq_true rfl⟩ rfl hl (Nat.le_of_ble_eq_true rfl) ⟨Nat.zero_le _, Nat.zero_le _⟩ dX12_laysDigits_19 (fun m3 a3 H locs hp3 hW hS => ?_)
  obtain ⟨hp3_x69_55, ho3, hp3_A100, hp3_A101, hp3_A102, hoa3⟩ := hp3
  have w_x69_55 : m3 6955 = .int r3.1 := hp3_x69_55
  have hoff := offm hoff ho3 (by decide +kernel)
  have hsh := SH.off hsh ho3 (by decide +kernel)
  have w_A100 : a3 100 = (25, .inl r3.2.1) := hp3_A100
  have w_A101 : a3 101 = (25, .inl r3.2.2.1) := hp3_A101
  have w_A102 : a3 102 = (25, .inl r3.2.2.2) := hp3_A102
  have hoffa := offm hoffa hoa3 (by decide +kernel)
  refine lv_aload_n hx hb dX12_laysDigits_22 rfl (lv_at hl 0 rfl) ?_
  refine lv_iconst (v := 3) hx hb dX12_laysDigits_23 (by decide) ?_
  refine lv_iconst (v := 3) hx hb dX12_laysDigits_24 (by decide) ?_
  refine lv_aload_n hx hb dX12_laysDigits_25 rfl (lv_at hl 0 rfl) ?_
  refine gf12_2 hx hb hG hown hW (o := 69) (ltN hN 69 rfl) gk69 (v := .int x69_2) ((hoff 6902 rfl).trans h_x69_2) gx164 dX12_laysDigits_26 ?_
  obtain ⟨r4, hf4, hs0⟩ := obind hs0
  refine g_Vv (n := 3) hx hb hml hown hG hW hS [.int 3, .int 3, .int x69_2] (kX12_digit hN hsh w_x69_55 w_A100 w_A101 w_A102 3 3 x69_2 hf4) (ltN hN 69 rfl) gk69 (by decide) rfl rfl (gd_V gx1064 gx1065 gx1066 gx5 gx1067) rfl rfl (by decide) ⟨Nat.le_of_ble_eq_true rfl, Nat.le_of_ble_eq_true rfl⟩ rfl hl (Nat.le_of_ble_eq_true rfl) ⟨Nat.zero_le _, Nat.zero_le _⟩ dX12_laysDigits_29 (fun m4 a4 H locs hp4 hW hS => ?_)
  obtain ⟨hp4_x69_55, ho4, hp4_A100, hp4_A101, hp4_A102, hoa4⟩ := hp4
  have w_x69_55 : m4 6955 = .int r4.1 := hp4_x69_55
  have hoff := offm hoff ho4 (by decide +kernel)
  have hsh := SH.off hsh ho4 (by decide +kernel)
  have w_A100 : a4 100 = (25, .inl r4.2.1) := hp4_A100
  have w_A101 : a4 101 = (25, .inl r4.2.2.1) := hp4_A101
  have w_A102 : a4 102 = (25, .inl r4.2.2.2) := hp4_A102
  have hoffa := offm hoffa hoa4 (by decide +kernel)
  refine lv_aload_n hx hb dX12_laysDigits_32 rfl (lv_at hl 0 rfl) ?_
  refine lv_bipush (v := 6) hx hb dX12_laysDigits_33 (by decide) ?_
  refine lv_iconst (v := 1) hx hb dX12_laysDigits_35 (by decide) ?_
  refine lv_iconst (v := 2) hx hb dX12_laysDigits_36 (by decide) ?_
  obtain ⟨r5, hf5, hs0⟩ := obind hs0
  refine g_Vv (n := 3) hx hb hml hown hG hW hS [.int 6, .int 1, .int 2] (kX12_digit hN hsh w_x69_55 w_A100 w_A101 w_A102 6 1 2 hf5) (ltN hN 69 rfl) gk69 (by decide) rfl rfl (gd_V gx1064 gx1065 gx1066 gx5 gx1067) rfl rfl (by decide) ⟨Nat.le_of_ble_eq_true rfl, Nat.le_of_ble_eq_true rfl⟩ rfl hl (Nat.le_of_ble_eq_true rfl) ⟨Nat.zero_le _, Nat.zero_le _⟩ dX12_laysDigits_37 (fun m5 a5 H locs hp5 hW hS => ?_)
  obtain ⟨hp5_x69_55, ho5, hp5_A100, hp5_A101, hp5_A102, hoa5⟩ := hp5
  have w_x69_55 : m5 6955 = .int r5.1 := hp5_x69_55
  have hoff := offm hoff ho5 (by decide +kernel)
  have hsh := SH.off hsh ho5 (by decide +kernel)
  have w_A100 : a5 100 = (25, .inl r5.2.1) := hp5_A100
  have w_A101 : a5 101 = (25, .inl r5.2.2.1) := hp5_A101
  have w_A102 : a5 102 = (25, .inl r5.2.2.2) := hp5_A102
  have hoffa := offm hoffa hoa5 (by decide +kernel)
  refine lv_aload_n hx hb dX12_laysDigits_40 rfl (lv_at hl 0 rfl) ?_
  refine lv_bipush (v := 7) hx hb dX12_laysDigits_41 (by decide) ?_
  refine lv_iconst (v := 2) hx hb dX12_laysDigits_43 (by decide) ?_
  refine lv_aload_n hx hb dX12_laysDigits_44 rfl (lv_at hl 0 rfl) ?_
  refine gf12_1 hx hb hG hown hW (o := 69) (ltN hN 69 rfl) gk69 (v := .int x69_1) ((hoff 6901 rfl).trans h_x69_1) gx163 dX12_laysDigits_45 ?_
  obtain ⟨r6, hf6, hs0⟩ := obind hs0
  refine g_Vv (n := 3) hx hb hml hown hG hW hS [.int 7, .int 2, .int x69_1] (kX12_digit hN hsh w_x69_55 w_A100 w_A101 w_A102 7 2 x69_1 hf6) (ltN hN 69 rfl) gk69 (by decide) rfl rfl (gd_V gx1064 gx1065 gx1066 gx5 gx1067) rfl rfl (by decide) ⟨Nat.le_of_ble_eq_true rfl, Nat.le_of_ble_eq_true rfl⟩ rfl hl (Nat.le_of_ble_eq_true rfl) ⟨Nat.zero_le _, Nat.zero_le _⟩ dX12_laysDigits_48 (fun m6 a6 H locs hp6 hW hS => ?_)
  obtain ⟨hp6_x69_55, ho6, hp6_A100, hp6_A101, hp6_A102, hoa6⟩ := hp6
  have w_x69_55 : m6 6955 = .int r6.1 := hp6_x69_55
  have hoff := offm hoff ho6 (by decide +kernel)
  have hsh := SH.off hsh ho6 (by decide +kernel)
  have w_A100 : a6 100 = (25, .inl r6.2.1) := hp6_A100
  have w_A101 : a6 101 = (25, .inl r6.2.2.1) := hp6_A101
  have w_A102 : a6 102 = (25, .inl r6.2.2.2) := hp6_A102
  have hoffa := offm hoffa hoa6 (by decide +kernel)
  refine lv_iconst (v := 0) hx hb dX12_laysDigits_51 (by decide) ?_
  refine lv_istore_n (lv' := [(1, .int 0), (0, .ref (q 69))]) hx hb dX12_laysDigits_52 rfl hl (by decide) rfl (fun ls hl => ?_)
  obtain ⟨r7, hg7, hs0⟩ := obind hs0
  have hE1_84 : ∀ (t7_84 : Int32 × (Nat → Int32) × (Nat → Int32) × (Nat → Int32)) (hr7 : t7_84 = r7) (m : Nat → Value) (a : Nat → vp_A) (H : Heap) (locs : List Loc) (w_x69_55 : m 6955 = .int t7_84.1) (hoff : ∀ j, nel j [6955] = false → m j = m0 j) (hsh : SH q m) (w_A100 : a 100 = (25, .inl t7_84.2.1)) (w_A101 : a 101 = (25, .inl t7_84.2.2.1)) (w_A102 : a 102 = (25, .inl t7_84.2.2.2)) (hoffa : ∀ j, nel j [100, 101, 102] = false → a j = a0 j) (ls : Array Slot) (hl : lv_has ls 2 [(0, .ref (q 69))]) (hW : GW D cy (gA N q s.heap.size) N q m a s H) (hS : va_S (gA N q s.heap.size) s.heap H locs), W p l e ({ frames := 1, cells := 0, slots := 0, locals := 23 } : Room) s M args below meth c H locs 0 0 (MQ below (va_Qv (fun (u : (Nat → Value) × (Nat → vp_A)) => u.1 6955 = .int X0.1 ∧ (∀ j, nel j [6955] = false → u.1 j = m0 j) ∧ u.2 100 = (25, .inl X0.2.1) ∧ u.2 101 = (25, .inl X0.2.2.1) ∧ u.2 102 = (25, .inl X0.2.2.2) ∧ (∀ j, nel j [100, 101, 102] = false → u.2 j = a0 j)) (gB D cy N q s.heap.size) (gA N q s.heap.size)) args s 0 0 (gA N q s.heap.size)) (F0 M 84 ls []) := by
    intro t7_84 hr7 m a H locs w_x69_55 hoff hsh w_A100 w_A101 w_A102 hoffa ls hl hW hS
    subst hr7
    refine lv_iconst (v := 0) hx hb dX12_laysDigits_84 (by decide) ?_
    refine lv_istore_n (lv' := [(1, .int 0), (0, .ref (q 69))]) hx hb dX12_laysDigits_85 rfl hl (by decide) rfl (fun ls hl => ?_)
    obtain ⟨r10, hg10, hs0⟩ := obind hs0
    have hE1_119 : ∀ (t10_119 : Int32 × (Nat → Int32) × (Nat → Int32) × (Nat → Int32)) (hr10 : t10_119 = r10) (m : Nat → Value) (a : Nat → vp_A) (H : Heap) (locs : List Loc) (w_x69_55 : m 6955 = .int t10_119.1) (hoff : ∀ j, nel j [6955] = false → m j = m0 j) (hsh : SH q m) (w_A100 : a 100 = (25, .inl t10_119.2.1)) (w_A101 : a 101 = (25, .inl t10_119.2.2.1)) (w_A102 : a 102 = (25, .inl t10_119.2.2.2)) (hoffa : ∀ j, nel j [100, 101, 102] = false → a j = a0 j) (ls : Array Slot) (hl : lv_has ls 2 [(0, .ref (q 69))]) (hW : GW D cy (gA N q s.heap.size) N q m a s H) (hS : va_S (gA N q s.heap.size) s.heap H locs), W p l e ({ frames := 1, cells := 0, slots := 0, locals := 23 } : Room) s M args below meth c H locs 0 0 (MQ below (va_Qv (fun (u : (Nat → Value) × (Nat → vp_A)) => u.1 6955 = .int X0.1 ∧ (∀ j, nel j [6955] = false → u.1 j = m0 j) ∧ u.2 100 = (25, .inl X0.2.1) ∧ u.2 101 = (25, .inl X0.2.2.1) ∧ u.2 102 = (25, .inl X0.2.2.2) ∧ (∀ j, nel j [100, 101, 102] = false → u.2 j = a0 j)) (gB D cy N q s.heap.size) (gA N q s.heap.size)) args s 0 0 (gA N q s.heap.size)) (F0 M 119 ls []) := by
      intro t10_119 hr10 m a H locs w_x69_55 hoff hsh w_A100 w_A101 w_A102 hoffa ls hl hW hS
      subst hr10
      refine lv_iconst (v := 0) hx hb dX12_laysDigits_119 (by decide) ?_
      refine lv_istore_n (lv' := [(1, .int 0), (0, .ref (q 69))]) hx hb dX12_laysDigits_120 rfl hl (by decide) rfl (fun ls hl => ?_)
      obtain ⟨r13, hg13, hs0⟩ := obind hs0
      have hE1_152 : ∀ (t13_152 : Int32 × (Nat → Int32) × (Nat → Int32) × (Nat → Int32)) (hr13 : t13_152 = r13) (m : Nat → Value) (a : Nat → vp_A) (H : Heap) (locs : List Loc) (w_x69_55 : m 6955 = .int t13_152.1) (hoff : ∀ j, nel j [6955] = false → m j = m0 j) (hsh : SH q m) (w_A100 : a 100 = (25, .inl t13_152.2.1)) (w_A101 : a 101 = (25, .inl t13_152.2.2.1)) (w_A102 : a 102 = (25, .inl t13_152.2.2.2)) (hoffa : ∀ j, nel j [100, 101, 102] = false → a j = a0 j) (ls : Array Slot) (hl : lv_has ls 2 []) (hW : GW D cy (gA N q s.heap.size) N q m a s H) (hS : va_S (gA N q s.heap.size) s.heap H locs), W p l e ({ frames := 1, cells := 0, slots := 0, locals := 23 } : Room) s M args below meth c H locs 0 0 (MQ below (va_Qv (fun (u : (Nat → Value) × (Nat → vp_A)) => u.1 6955 = .int X0.1 ∧ (∀ j, nel j [6955] = false → u.1 j = m0 j) ∧ u.2 100 = (25, .inl X0.2.1) ∧ u.2 101 = (25, .inl X0.2.2.1) ∧ u.2 102 = (25, .inl X0.2.2.2) ∧ (∀ j, nel j [100, 101, 102] = false → u.2 j = a0 j)) (gB D cy N q s.heap.size) (gA N q s.heap.size)) args s 0 0 (gA N q s.heap.size)) (F0 M 152 ls []) := by
        intro t13_152 hr13 m a H locs w_x69_55 hoff hsh w_A100 w_A101 w_A102 hoffa ls hl hW hS
        subst hr13
        have hs0 := Option.some.inj hs0
        subst hs0
        exact W.vret hx hb hr (fun t ht hw => ⟨⟨(m, a), rfl, ⟨w_x69_55, hoff, w_A100, w_A101, w_A102, hoffa⟩, g_end hW ht hw⟩, hS.F ht⟩) hS.2.2 dX12_laysDigits_152 hlocks
      have hL1 : ∀ (n : Nat) (v1k13 : Int32) (x69_55k13 : Int32) (A100k13 : Nat → Int32) (A101k13 : Nat → Int32) (A102k13 : Nat → Int32) (m : Nat → Value) (a : Nat → vp_A) (H : Heap) (locs : List Loc) (w_x69_55 : m 6955 = .int x69_55k13) (hoff : ∀ j, nel j [6955] = false → m j = m0 j) (hsh : SH q m) (w_A100 : a 100 = (25, .inl A100k13)) (w_A101 : a 101 = (25, .inl A101k13)) (w_A102 : a 102 = (25, .inl A102k13)) (hoffa : ∀ j, nel j [100, 101, 102] = false → a j = a0 j) (ls : Array Slot) (hl : lv_has ls 2 [(0, .ref (q 69)), (1, .int v1k13)]) (hg13 : gloop (fun u13 : (Int32 × Int32 × (Nat → Int32) × (Nat → Int32) × (Nat → Int32)) => fX12_laysDigits_S121 F x69_0 x69_1 x69_2 x69_3 u13.1 u13.2.1 u13.2.2.1 u13.2.2.2.1 u13.2.2.2.2) n (v1k13, x69_55k13, A100k13, A101k13, A102k13) = some r13) (hW : GW D cy (gA N q s.heap.size) N q m a s H) (hS : va_S (gA N q s.heap.size) s.heap H locs), W p l e ({ frames := 1, cells := 0, slots := 0, locals := 23 } : Room) s M args below meth c H locs 0 0 (MQ below (va_Qv (fun (u : (Nat → Value) × (Nat → vp_A)) => u.1 6955 = .int X0.1 ∧ (∀ j, nel j [6955] = false → u.1 j = m0 j) ∧ u.2 100 = (25, .inl X0.2.1) ∧ u.2 101 = (25, .inl X0.2.2.1) ∧ u.2 102 = (25, .inl X0.2.2.2) ∧ (∀ j, nel j [100, 101, 102] = false → u.2 j = a0 j)) (gB D cy N q s.heap.size) (gA N q s.heap.size)) args s 0 0 (gA N q s.heap.size)) (F0 M 121 ls []) := by
        intro n
        induction n with
        | zero => intro v1k13 x69_55k13 A100k13 A101k13 A102k13 m a H locs w_x69_55 hoff hsh w_A100 w_A101 w_A102 hoffa ls hl hg13 hW hS; exact (gl_zero hg13).elim
        | succ n ih1 =>
          intro v1k13 x69_55k13 A100k13 A101k13 A102k13 m a H locs w_x69_55 hoff hsh w_A100 w_A101 w_A102 hoffa ls hl hg13 hW hS
          obtain ⟨X1, hs1, hXl1, hXr1⟩ := gl_succ hg13
          have hs1 : fX12_laysDigits_S121 F x69_0 x69_1 x69_2 x69_3 v1k13 x69_55k13 A100k13 A101k13 A102k13 = some X1 := hs1
          unfold fX12_laysDigits_S121 at hs1
          refine lv_iload_n hx hb dX12_laysDigits_121 rfl (lv_at hl 1 rfl) ?_
          refine lv_aload_n hx hb dX12_laysDigits_122 rfl (lv_at hl 0 rfl) ?_
          refine gf12_1 hx hb hG hown hW (o := 69) (ltN hN 69 rfl) gk69 (v := .int x69_1) ((hoff 6901 rfl).trans h_x69_1) gx163 dX12_laysDigits_123 ?_
          refine lv_icmp_ge (tgt := 152) hx hb dX12_laysDigits_126 (by decide) (fun c16 => ?_) (fun c16 => ?_)
          · rw [if_pos c16] at hs1
            exact hE1_152 (x69_55k13, A100k13, A101k13, A102k13) (hXl1 _ (Option.some.inj hs1).symm) m a _ _ w_x69_55 hoff hsh w_A100 w_A101 w_A102 hoffa ls (lv_sub hl [] rfl) hW hS
          · rw [if_neg c16] at hs1
            refine lv_aload_n hx hb dX12_laysDigits_129 rfl (lv_at hl 0 rfl) ?_
            refine lv_bipush (v := 41) hx hb dX12_laysDigits_130 (by decide) ?_
            refine lv_iconst (v := 2) hx hb dX12_laysDigits_132 (by decide) ?_
            refine lv_iload_n hx hb dX12_laysDigits_133 rfl (lv_at hl 1 rfl) ?_
            refine lv_imul hx hb dX12_laysDigits_134 ?_
            refine lv_iadd hx hb dX12_laysDigits_135 ?_
            refine lv_iconst (v := 2) hx hb dX12_laysDigits_136 (by decide) ?_
            refine lv_aload_n hx hb dX12_laysDigits_137 rfl (lv_at hl 0 rfl) ?_
            refine gf12_0 hx hb hG hown hW (o := 69) (ltN hN 69 rfl) gk69 (v := .int x69_0) ((hoff 6900 rfl).trans h_x69_0) gx162 dX12_laysDigits_138 ?_
            refine lv_iconst (v := 1) hx hb dX12_laysDigits_141 (by decide) ?_
            refine lv_iadd hx hb dX12_laysDigits_142 ?_
            obtain ⟨r17, hf17, hs1⟩ := obind hs1
            refine g_Vv (n := 3) hx hb hml hown hG hW hS [.int (41 + (2 * v1k13)), .int 2, .int (x69_0 + 1)] (kX12_digit hN hsh w_x69_55 w_A100 w_A101 w_A102 (41 + (2 * v1k13)) 2 (x69_0 + 1) hf17) (ltN hN 69 rfl) gk69 (by decide) rfl rfl (gd_V gx1064 gx1065 gx1066 gx5 gx1067) rfl rfl (by decide) ⟨Nat.le_of_ble_eq_true rfl, Nat.le_of_ble_eq_true rfl⟩ rfl hl (Nat.le_of_ble_eq_true rfl) ⟨Nat.zero_le _, Nat.zero_le _⟩ dX12_laysDigits_143 (fun m17 a17 H locs hp17 hW hS => ?_)
            obtain ⟨hp17_x69_55, ho17, hp17_A100, hp17_A101, hp17_A102, hoa17⟩ := hp17
            have w_x69_55 : m17 6955 = .int r17.1 := hp17_x69_55
            have hoff := offm hoff ho17 (by decide +kernel)
            have hsh := SH.off hsh ho17 (by decide +kernel)
            have w_A100 : a17 100 = (25, .inl r17.2.1) := hp17_A100
            have w_A101 : a17 101 = (25, .inl r17.2.2.1) := hp17_A101
            have w_A102 : a17 102 = (25, .inl r17.2.2.2) := hp17_A102
            have hoffa := offm hoffa hoa17 (by decide +kernel)
            refine lv_iinc (v := v1k13 + 1) (lv' := [(1, .int (v1k13 + 1)), (0, .ref (q 69))]) hx hb dX12_laysDigits_146 hl (k := 1) rfl rfl (by decide) rfl (fun ls hl => ?_)
            refine lv_goto (tgt := 121) hx hb dX12_laysDigits_149 (by decide) ?_
            exact ih1 (v1k13 + 1) r17.1 r17.2.1 r17.2.2.1 r17.2.2.2 m17 a17 _ _ w_x69_55 hoff hsh w_A100 w_A101 w_A102 hoffa ls (lv_sub hl [1, 0] rfl) (hXr1 _ (Option.some.inj hs1).symm) hW hS
      exact hL1 F 0 t10_119.1 t10_119.2.1 t10_119.2.2.1 t10_119.2.2.2 m a _ _ w_x69_55 hoff hsh w_A100 w_A101 w_A102 hoffa ls (lv_sub hl [1, 0] rfl) hg13 hW hS
    have hL1 : ∀ (n : Nat) (v1k10 : Int32) (x69_55k10 : Int32) (A100k10 : Nat → Int32) (A101k10 : Nat → Int32) (A102k10 : Nat → Int32) (m : Nat → Value) (a : Nat → vp_A) (H : Heap) (locs : List Loc) (w_x69_55 : m 6955 = .int x69_55k10) (hoff : ∀ j, nel j [6955] = false → m j = m0 j) (hsh : SH q m) (w_A100 : a 100 = (25, .inl A100k10)) (w_A101 : a 101 = (25, .inl A101k10)) (w_A102 : a 102 = (25, .inl A102k10)) (hoffa : ∀ j, nel j [100, 101, 102] = false → a j = a0 j) (ls : Array Slot) (hl : lv_has ls 2 [(0, .ref (q 69)), (1, .int v1k10)]) (hg10 : gloop (fun u10 : (Int32 × Int32 × (Nat → Int32) × (Nat → Int32) × (Nat → Int32)) => fX12_laysDigits_S86 F x69_0 x69_1 x69_2 x69_3 u10.1 u10.2.1 u10.2.2.1 u10.2.2.2.1 u10.2.2.2.2) n (v1k10, x69_55k10, A100k10, A101k10, A102k10) = some r10) (hW : GW D cy (gA N q s.heap.size) N q m a s H) (hS : va_S (gA N q s.heap.size) s.heap H locs), W p l e ({ frames := 1, cells := 0, slots := 0, locals := 23 } : Room) s M args below meth c H locs 0 0 (MQ below (va_Qv (fun (u : (Nat → Value) × (Nat → vp_A)) => u.1 6955 = .int X0.1 ∧ (∀ j, nel j [6955] = false → u.1 j = m0 j) ∧ u.2 100 = (25, .inl X0.2.1) ∧ u.2 101 = (25, .inl X0.2.2.1) ∧ u.2 102 = (25, .inl X0.2.2.2) ∧ (∀ j, nel j [100, 101, 102] = false → u.2 j = a0 j)) (gB D cy N q s.heap.size) (gA N q s.heap.size)) args s 0 0 (gA N q s.heap.size)) (F0 M 86 ls []) := by
      intro n
      induction n with
      | zero => intro v1k10 x69_55k10 A100k10 A101k10 A102k10 m a H locs w_x69_55 hoff hsh w_A100 w_A101 w_A102 hoffa ls hl hg10 hW hS; exact (gl_zero hg10).elim
      | succ n ih1 =>
        intro v1k10 x69_55k10 A100k10 A101k10 A102k10 m a H locs w_x69_55 hoff hsh w_A100 w_A101 w_A102 hoffa ls hl hg10 hW hS
        obtain ⟨X1, hs1, hXl1, hXr1⟩ := gl_succ hg10
        have hs1 : fX12_laysDigits_S86 F x69_0 x69_1 x69_2 x69_3 v1k10 x69_55k10 A100k10 A101k10 A102k10 = some X1 := hs1
        unfold fX12_laysDigits_S86 at hs1
        refine lv_iload_n hx hb dX12_laysDigits_86 rfl (lv_at hl 1 rfl) ?_
        refine lv_iconst (v := 2) hx hb dX12_laysDigits_87 (by decide) ?_
        refine lv_aload_n hx hb dX12_laysDigits_88 rfl (lv_at hl 0 rfl) ?_
        refine gf12_1 hx hb hG hown hW (o := 69) (ltN hN 69 rfl) gk69 (v := .int x69_1) ((hoff 6901 rfl).trans h_x69_1) gx163 dX12_laysDigits_89 ?_
        refine lv_imul hx hb dX12_laysDigits_92 ?_
        refine lv_icmp_ge (tgt := 119) hx hb dX12_laysDigits_93 (by decide) (fun c18 => ?_) (fun c18 => ?_)
        · rw [if_pos c18] at hs1
          exact hE1_119 (x69_55k10, A100k10, A101k10, A102k10) (hXl1 _ (Option.some.inj hs1).symm) m a _ _ w_x69_55 hoff hsh w_A100 w_A101 w_A102 hoffa ls (lv_sub hl [0] rfl) hW hS
        · rw [if_neg c18] at hs1
          refine lv_aload_n hx hb dX12_laysDigits_96 rfl (lv_at hl 0 rfl) ?_
          refine lv_bipush (v := 25) hx hb dX12_laysDigits_97 (by decide) ?_
          refine lv_iconst (v := 2) hx hb dX12_laysDigits_99 (by decide) ?_
          refine lv_iload_n hx hb dX12_laysDigits_100 rfl (lv_at hl 1 rfl) ?_
          refine lv_imul hx hb dX12_laysDigits_101 ?_
          refine lv_iadd hx hb dX12_laysDigits_102 ?_
          refine lv_iconst (v := 2) hx hb dX12_laysDigits_103 (by decide) ?_
          refine lv_aload_n hx hb dX12_laysDigits_104 rfl (lv_at hl 0 rfl) ?_
          refine gf12_0 hx hb hG hown hW (o := 69) (ltN hN 69 rfl) gk69 (v := .int x69_0) ((hoff 6900 rfl).trans h_x69_0) gx162 dX12_laysDigits_105 ?_
          refine lv_iconst (v := 1) hx hb dX12_laysDigits_108 (by decide) ?_
          refine lv_iadd hx hb dX12_laysDigits_109 ?_
          obtain ⟨r19, hf19, hs1⟩ := obind hs1
          refine g_Vv (n := 3) hx hb hml hown hG hW hS [.int (25 + (2 * v1k10)), .int 2, .int (x69_0 + 1)] (kX12_digit hN hsh w_x69_55 w_A100 w_A101 w_A102 (25 + (2 * v1k10)) 2 (x69_0 + 1) hf19) (ltN hN 69 rfl) gk69 (by decide) rfl rfl (gd_V gx1064 gx1065 gx1066 gx5 gx1067) rfl rfl (by decide) ⟨Nat.le_of_ble_eq_true rfl, Nat.le_of_ble_eq_true rfl⟩ rfl hl (Nat.le_of_ble_eq_true rfl) ⟨Nat.zero_le _, Nat.zero_le _⟩ dX12_laysDigits_110 (fun m19 a19 H locs hp19 hW hS => ?_)
          obtain ⟨hp19_x69_55, ho19, hp19_A100, hp19_A101, hp19_A102, hoa19⟩ := hp19
          have w_x69_55 : m19 6955 = .int r19.1 := hp19_x69_55
          have hoff := offm hoff ho19 (by decide +kernel)
          have hsh := SH.off hsh ho19 (by decide +kernel)
          have w_A100 : a19 100 = (25, .inl r19.2.1) := hp19_A100
          have w_A101 : a19 101 = (25, .inl r19.2.2.1) := hp19_A101
          have w_A102 : a19 102 = (25, .inl r19.2.2.2) := hp19_A102
          have hoffa := offm hoffa hoa19 (by decide +kernel)
          refine lv_iinc (v := v1k10 + 1) (lv' := [(1, .int (v1k10 + 1)), (0, .ref (q 69))]) hx hb dX12_laysDigits_113 hl (k := 1) rfl rfl (by decide) rfl (fun ls hl => ?_)
          refine lv_goto (tgt := 86) hx hb dX12_laysDigits_116 (by decide) ?_
          exact ih1 (v1k10 + 1) r19.1 r19.2.1 r19.2.2.1 r19.2.2.2 m19 a19 _ _ w_x69_55 hoff hsh w_A100 w_A101 w_A102 hoffa ls (lv_sub hl [1, 0] rfl) (hXr1 _ (Option.some.inj hs1).symm) hW hS
    exact hL1 F 0 t7_84.1 t7_84.2.1 t7_84.2.2.1 t7_84.2.2.2 m a _ _ w_x69_55 hoff hsh w_A100 w_A101 w_A102 hoffa ls (lv_sub hl [1, 0] rfl) hg10 hW hS
  have hL1 : ∀ (n : Nat) (v1k7 : Int32) (x69_55k7 : Int32) (A100k7 : Nat → Int32) (A101k7 : Nat → Int32) (A102k7 : Nat → Int32) (m : Nat → Value) (a : Nat → vp_A) (H : Heap) (locs : List Loc) (w_x69_55 : m 6955 = .int x69_55k7) (hoff : ∀ j, nel j [6955] = false → m j = m0 j) (hsh : SH q m) (w_A100 : a 100 = (25, .inl A100k7)) (w_A101 : a 101 = (25, .inl A101k7)) (w_A102 : a 102 = (25, .inl A102k7)) (hoffa : ∀ j, nel j [100, 101, 102] = false → a j = a0 j) (ls : Array Slot) (hl : lv_has ls 2 [(0, .ref (q 69)), (1, .int v1k7)]) (hg7 : gloop (fun u7 : (Int32 × Int32 × (Nat → Int32) × (Nat → Int32) × (Nat → Int32)) => fX12_laysDigits_S53 F x69_0 x69_1 x69_2 x69_3 u7.1 u7.2.1 u7.2.2.1 u7.2.2.2.1 u7.2.2.2.2) n (v1k7, x69_55k7, A100k7, A101k7, A102k7) = some r7) (hW : GW D cy (gA N q s.heap.size) N q m a s H) (hS : va_S (gA N q s.heap.size) s.heap H locs), W p l e ({ frames := 1, cells := 0, slots := 0, locals := 23 } : Room) s M args below meth c H locs 0 0 (MQ below (va_Qv (fun (u : (Nat → Value) × (Nat → vp_A)) => u.1 6955 = .int X0.1 ∧ (∀ j, nel j [6955] = false → u.1 j = m0 j) ∧ u.2 100 = (25, .inl X0.2.1) ∧ u.2 101 = (25, .inl X0.2.2.1) ∧ u.2 102 = (25, .inl X0.2.2.2) ∧ (∀ j, nel j [100, 101, 102] = false → u.2 j = a0 j)) (gB D cy N q s.heap.size) (gA N q s.heap.size)) args s 0 0 (gA N q s.heap.size)) (F0 M 53 ls []) := by
    intro n
    induction n with
    | zero => intro v1k7 x69_55k7 A100k7 A101k7 A102k7 m a H locs w_x69_55 hoff hsh w_A100 w_A101 w_A102 hoffa ls hl hg7 hW hS; exact (gl_zero hg7).elim
    | succ n ih1 =>
      intro v1k7 x69_55k7 A100k7 A101k7 A102k7 m a H locs w_x69_55 hoff hsh w_A100 w_A101 w_A102 hoffa ls hl hg7 hW hS
      obtain ⟨X1, hs1, hXl1, hXr1⟩ := gl_succ hg7
      have hs1 : fX12_laysDigits_S53 F x69_0 x69_1 x69_2 x69_3 v1k7 x69_55k7 A100k7 A101k7 A102k7 = some X1 := hs1
      unfold fX12_laysDigits_S53 at hs1
      refine lv_iload_n hx hb dX12_laysDigits_53 rfl (lv_at hl 1 rfl) ?_
      refine lv_iconst (v := 2) hx hb dX12_laysDigits_54 (by decide) ?_
      refine lv_aload_n hx hb dX12_laysDigits_55 rfl (lv_at hl 0 rfl) ?_
      refine gf12_1 hx hb hG hown hW (o := 69) (ltN hN 69 rfl) gk69 (v := .int x69_1) ((hoff 6901 rfl).trans h_x69_1) gx163 dX12_laysDigits_56 ?_
      refine lv_imul hx hb dX12_laysDigits_59 ?_
      refine lv_icmp_ge (tgt := 84) hx hb dX12_laysDigits_60 (by decide) (fun c20 => ?_) (fun c20 => ?_)
      · rw [if_pos c20] at hs1
        exact hE1_84 (x69_55k7, A100k7, A101k7, A102k7) (hXl1 _ (Option.some.inj hs1).symm) m a _ _ w_x69_55 hoff hsh w_A100 w_A101 w_A102 hoffa ls (lv_sub hl [0] rfl) hW hS
      · rw [if_neg c20] at hs1
        refine lv_aload_n hx hb dX12_laysDigits_63 rfl (lv_at hl 0 rfl) ?_
        refine lv_bipush (v := 9) hx hb dX12_laysDigits_64 (by decide) ?_
        refine lv_iconst (v := 2) hx hb dX12_laysDigits_66 (by decide) ?_
        refine lv_iload_n hx hb dX12_laysDigits_67 rfl (lv_at hl 1 rfl) ?_
        refine lv_imul hx hb dX12_laysDigits_68 ?_
        refine lv_iadd hx hb dX12_laysDigits_69 ?_
        refine lv_iconst (v := 2) hx hb dX12_laysDigits_70 (by decide) ?_
        refine lv_aload_n hx hb dX12_laysDigits_71 rfl (lv_at hl 0 rfl) ?_
        refine gf12_3 hx hb hG hown hW (o := 69) (ltN hN 69 rfl) gk69 (v := .int x69_3) ((hoff 6903 rfl).trans h_x69_3) gx165 dX12_laysDigits_72 ?_
        obtain ⟨r21, hf21, hs1⟩ := obind hs1
        refine g_Vv (n := 3) hx hb hml hown hG hW hS [.int (9 + (2 * v1k7)), .int 2, .int x69_3] (kX12_digit hN hsh w_x69_55 w_A100 w_A101 w_A102 (9 + (2 * v1k7)) 2 x69_3 hf21) (ltN hN 69 rfl) gk69 (by decide) rfl rfl (gd_V gx1064 gx1065 gx1066 gx5 gx1067) rfl rfl (by decide) ⟨Nat.le_of_ble_eq_true rfl, Nat.le_of_ble_eq_true rfl⟩ rfl hl (Nat.le_of_ble_eq_true rfl) ⟨Nat.zero_le _, Nat.zero_le _⟩ dX12_laysDigits_75 (fun m21 a21 H locs hp21 hW hS => ?_)
        obtain ⟨hp21_x69_55, ho21, hp21_A100, hp21_A101, hp21_A102, hoa21⟩ := hp21
        have w_x69_55 : m21 6955 = .int r21.1 := hp21_x69_55
        have hoff := offm hoff ho21 (by decide +kernel)
        have hsh := SH.off hsh ho21 (by decide +kernel)
        have w_A100 : a21 100 = (25, .inl r21.2.1) := hp21_A100
        have w_A101 : a21 101 = (25, .inl r21.2.2.1) := hp21_A101
        have w_A102 : a21 102 = (25, .inl r21.2.2.2) := hp21_A102
        have hoffa := offm hoffa hoa21 (by decide +kernel)
        refine lv_iinc (v := v1k7 + 1) (lv' := [(1, .int (v1k7 + 1)), (0, .ref (q 69))]) hx hb dX12_laysDigits_78 hl (k := 1) rfl rfl (by decide) rfl (fun ls hl => ?_)
        refine lv_goto (tgt := 53) hx hb dX12_laysDigits_81 (by decide) ?_
        exact ih1 (v1k7 + 1) r21.1 r21.2.1 r21.2.2.1 r21.2.2.2 m21 a21 _ _ w_x69_55 hoff hsh w_A100 w_A101 w_A102 hoffa ls (lv_sub hl [1, 0] rfl) (hXr1 _ (Option.some.inj hs1).symm) hW hS
  exact hL1 F 0 r6.1 r6.2.1 r6.2.2.1 r6.2.2.2 m6 a6 _ _ w_x69_55 hoff hsh w_A100 w_A101 w_A102 hoffa ls (lv_sub hl [1, 0] rfl) hg7 hW hS
-- HealLinkModel.struck ()I
def fX12_struck_J137 (F : Nat) (x69_9 : Int32) (x69_11 : Int32) (A72 : Nat → Int32) (A73 : Nat → Int32) (v1 : Int32) (v2j21 : Int32) (x69_18 : Int32) (A103j21 : Nat → Int32) : Option (((Nat → Int32)) ⊕ (Int32 × (Nat → Int32))) := some (Sum.inr (v2j21 + (-1), A103j21))
def fX12_struck_J136 (F : Nat) (x69_9 : Int32) (x69_11 : Int32) (A72 : Nat → Int32) (A73 : Nat → Int32) (v1 : Int32) (v2j16 : Int32) (s0j16 : Int32) (s1j16 : Int32) (x69_18 : Int32) (A103j16 : Nat → Int32) : Option (((Nat → Int32)) ⊕ (Int32 × (Nat → Int32))) := (if inb s1j16 1681 = true then fX12_struck_J137 F x69_9 x69_11 A72 A73 v1 v2j16 x69_18 (upd A103j16 s1j16.toNatClampNeg s0j16) else none)
def fX12_struck_J46 (F : Nat) (x69_9 : Int32) (x69_11 : Int32) (A72 : Nat → Int32) (A73 : Nat → Int32) (v1 : Int32) (v2j7 : Int32) (v3j7 : Int32) (x69_18 : Int32) (A103j7 : Nat → Int32) : Option (((Nat → Int32)) ⊕ (Int32 × (Nat → Int32))) := (if inb v3j7 1681 = true then fX12_struck_J137 F x69_9 x69_11 A72 A73 v1 v2j7 x69_18 (upd A103j7 v3j7.toNatClampNeg 0) else none)
def fX12_struck_S19 (F : Nat) (x69_9 : Int32) (x69_11 : Int32) (A72 : Nat → Int32) (A73 : Nat → Int32) (v1 : Int32) (x69_18 : Int32) (v2 : Int32) (A103 : Nat → Int32) : Option (((Nat → Int32)) ⊕ (Int32 × (Nat → Int32))) := (if v2 < 0 then some (Sum.inl A103) else (if v1 = x69_9 then fX12_struck_J46 F x69_9 x69_11 A72 A73 v1 v2 ((41 * v1) + v2) x69_18 A103 else (if v2 = x69_11 then fX12_struck_J46 F x69_9 x69_11 A72 A73 v1 v2 ((41 * v1) + v2) x69_18 A103 else (if inb v1 40 = true then (if inb v2 40 = true then (if (A72 v1.toNatClampNeg) = (A73 v2.toNatClampNeg) then (if inb (((41 * v1) + v2) + 42) 1681 = true then (if inb ((41 * v1) + v2) 1681 = true then fX12_struck_J137 F x69_9 x69_11 A72 A73 v1 v2 x69_18 (upd A103 ((41 * v1) + v2).toNatClampNeg (1 + (A103 (((41 * v1) + v2) + 42).toNatClampNeg))) else none) else none) else (if inb (((41 * v1) + v2) + 41) 1681 = true then (if inb (((41 * v1) + v2) + 1) 1681 = true then (if (A103 (((41 * v1) + v2) + 41).toNatClampNeg) ≤ (A103 (((41 * v1) + v2) + 1).toNatClampNeg) then (if inb (((41 * v1) + v2) + 1) 1681 = true then fX12_struck_J136 F x69_9 x69_11 A72 A73 v1 v2 (A103 (((41 * v1) + v2) + 1).toNatClampNeg) ((41 * v1) + v2) x69_18 A103 else none) else (if inb (((41 * v1) + v2) + 41) 1681 = true then fX12_struck_J136 F x69_9 x69_11 A72 A73 v1 v2 (A103 (((41 * v1) + v2) + 41).toNatClampNeg) ((41 * v1) + v2) x69_18 A103 else none)) else none) else none)) else none) else none))))
def fX12_struck_S10 (F : Nat) (x69_9 : Int32) (x69_11 : Int32) (A72 : Nat → Int32) (A73 : Nat → Int32) (x69_18 : Int32) (v1 : Int32) (A103 : Nat → Int32) : Option (((Nat → Int32)) ⊕ (Int32 × (Nat → Int32))) := (if v1 < 0 then some (Sum.inl A103) else (gloop (fun u4 : (Int32 × (Nat → Int32)) => fX12_struck_S19 F x69_9 x69_11 A72 A73 v1 x69_18 u4.1 u4.2) F (x69_11, A103)).bind (fun t4_143 => some (Sum.inr (v1 + (-1), t4_143))))
def fX12_struck (F : Nat) (x69_9 : Int32) (x69_11 : Int32) (A72 : Nat → Int32) (A73 : Nat → Int32) (x69_18 : Int32) (A103 : Nat → Int32) : Option (Int32 × Int32 × (Nat → Int32)) := (gloop (fun u2 : (Int32 × (Nat → Int32)) => fX12_struck_S10 F x69_9 x69_11 A72 A73 0 u2.1 u2.2) F (x69_9, A103)).bind (fun t2_149 => some ((x69_9 + x69_11) - (2 * (t2_149 (0 : Int32).toNatClampNeg)), 0, t2_149))
theorem dX12_struck_0 : decode cX12_struck 0 = .ok (.aload_n 0, 1) := by decide +kernel
theorem dX12_struck_1 : decode cX12_struck 1 = .ok (.iconst 0, 1) := by decide +kernel
theorem dX12_struck_2 : decode cX12_struck 2 = .ok (.putfield 137, 3) := by decide +kernel
theorem dX12_struck_5 : decode cX12_struck 5 = .ok (.aload_n 0, 1) := by decide +kernel
theorem dX12_struck_6 : decode cX12_struck 6 = .ok (.getfield 149, 3) := by decide +kernel
theorem dX12_struck_9 : decode cX12_struck 9 = .ok (.istore_n 1, 1) := by decide +kernel
theorem dX12_struck_10 : decode cX12_struck 10 = .ok (.iload_n 1, 1) := by decide +kernel
theorem dX12_struck_11 : decode cX12_struck 11 = .ok (.ifCond .lt 138, 3) := by decide +kernel
theorem dX12_struck_14 : decode cX12_struck 14 = .ok (.aload_n 0, 1) := by decide +kernel
theorem dX12_struck_15 : decode cX12_struck 15 = .ok (.getfield 152, 3) := by decide +kernel
theorem dX12_struck_18 : decode cX12_struck 18 = .ok (.istore_n 2, 1) := by decide +kernel
theorem dX12_struck_19 : decode cX12_struck 19 = .ok (.iload_n 2, 1) := by decide +kernel
theorem dX12_struck_20 : decode cX12_struck 20 = .ok (.ifCond .lt 123, 3) := by decide +kernel
theorem dX12_struck_23 : decode cX12_struck 23 = .ok (.bipush 41, 2) := by decide +kernel
theorem dX12_struck_25 : decode cX12_struck 25 = .ok (.iload_n 1, 1) := by decide +kernel
theorem dX12_struck_26 : decode cX12_struck 26 = .ok (.imul, 1) := by decide +kernel
theorem dX12_struck_27 : decode cX12_struck 27 = .ok (.iload_n 2, 1) := by decide +kernel
theorem dX12_struck_28 : decode cX12_struck 28 = .ok (.iadd, 1) := by decide +kernel
theorem dX12_struck_29 : decode cX12_struck 29 = .ok (.istore_n 3, 1) := by decide +kernel
theorem dX12_struck_30 : decode cX12_struck 30 = .ok (.iload_n 1, 1) := by decide +kernel
theorem dX12_struck_31 : decode cX12_struck 31 = .ok (.aload_n 0, 1) := by decide +kernel
theorem dX12_struck_32 : decode cX12_struck 32 = .ok (.getfield 149, 3) := by decide +kernel
theorem dX12_struck_35 : decode cX12_struck 35 = .ok (.if_icmp .eq 11, 3) := by decide +kernel
theorem dX12_struck_38 : decode cX12_struck 38 = .ok (.iload_n 2, 1) := by decide +kernel
theorem dX12_struck_39 : decode cX12_struck 39 = .ok (.aload_n 0, 1) := by decide +kernel
theorem dX12_struck_40 : decode cX12_struck 40 = .ok (.getfield 152, 3) := by decide +kernel
theorem dX12_struck_43 : decode cX12_struck 43 = .ok (.if_icmp .ne 13, 3) := by decide +kernel
theorem dX12_struck_46 : decode cX12_struck 46 = .ok (.aload_n 0, 1) := by decide +kernel
theorem dX12_struck_47 : decode cX12_struck 47 = .ok (.getfield 126, 3) := by decide +kernel
theorem dX12_struck_50 : decode cX12_struck 50 = .ok (.iload_n 3, 1) := by decide +kernel
theorem dX12_struck_51 : decode cX12_struck 51 = .ok (.iconst 0, 1) := by decide +kernel
theorem dX12_struck_52 : decode cX12_struck 52 = .ok (.iastore, 1) := by decide +kernel
theorem dX12_struck_53 : decode cX12_struck 53 = .ok (.goto 84, 3) := by decide +kernel
theorem dX12_struck_56 : decode cX12_struck 56 = .ok (.aload_n 0, 1) := by decide +kernel
theorem dX12_struck_57 : decode cX12_struck 57 = .ok (.getfield 29, 3) := by decide +kernel
theorem dX12_struck_60 : decode cX12_struck 60 = .ok (.iload_n 1, 1) := by decide +kernel
theorem dX12_struck_61 : decode cX12_struck 61 = .ok (.iaload, 1) := by decide +kernel
theorem dX12_struck_62 : decode cX12_struck 62 = .ok (.aload_n 0, 1) := by decide +kernel
theorem dX12_struck_63 : decode cX12_struck 63 = .ok (.getfield 32, 3) := by decide +kernel
theorem dX12_struck_66 : decode cX12_struck 66 = .ok (.iload_n 2, 1) := by decide +kernel
theorem dX12_struck_67 : decode cX12_struck 67 = .ok (.iaload, 1) := by decide +kernel
theorem dX12_struck_68 : decode cX12_struck 68 = .ok (.if_icmp .ne 23, 3) := by decide +kernel
theorem dX12_struck_71 : decode cX12_struck 71 = .ok (.aload_n 0, 1) := by decide +kernel
theorem dX12_struck_72 : decode cX12_struck 72 = .ok (.getfield 126, 3) := by decide +kernel
theorem dX12_struck_75 : decode cX12_struck 75 = .ok (.iload_n 3, 1) := by decide +kernel
theorem dX12_struck_76 : decode cX12_struck 76 = .ok (.iconst 1, 1) := by decide +kernel
theorem dX12_struck_77 : decode cX12_struck 77 = .ok (.aload_n 0, 1) := by decide +kernel
theorem dX12_struck_78 : decode cX12_struck 78 = .ok (.getfield 126, 3) := by decide +kernel
theorem dX12_struck_81 : decode cX12_struck 81 = .ok (.iload_n 3, 1) := by decide +kernel
theorem dX12_struck_82 : decode cX12_struck 82 = .ok (.bipush 42, 2) := by decide +kernel
theorem dX12_struck_84 : decode cX12_struck 84 = .ok (.iadd, 1) := by decide +kernel
theorem dX12_struck_85 : decode cX12_struck 85 = .ok (.iaload, 1) := by decide +kernel
theorem dX12_struck_86 : decode cX12_struck 86 = .ok (.iadd, 1) := by decide +kernel
theorem dX12_struck_87 : decode cX12_struck 87 = .ok (.iastore, 1) := by decide +kernel
theorem dX12_struck_88 : decode cX12_struck 88 = .ok (.goto 49, 3) := by decide +kernel
theorem dX12_struck_91 : decode cX12_struck 91 = .ok (.aload_n 0, 1) := by decide +kernel
theorem dX12_struck_92 : decode cX12_struck 92 = .ok (.getfield 126, 3) := by decide +kernel
theorem dX12_struck_95 : decode cX12_struck 95 = .ok (.iload_n 3, 1) := by decide +kernel
theorem dX12_struck_96 : decode cX12_struck 96 = .ok (.aload_n 0, 1) := by decide +kernel
theorem dX12_struck_97 : decode cX12_struck 97 = .ok (.getfield 126, 3) := by decide +kernel
theorem dX12_struck_100 : decode cX12_struck 100 = .ok (.iload_n 3, 1) := by decide +kernel
theorem dX12_struck_101 : decode cX12_struck 101 = .ok (.bipush 41, 2) := by decide +kernel
theorem dX12_struck_103 : decode cX12_struck 103 = .ok (.iadd, 1) := by decide +kernel
theorem dX12_struck_104 : decode cX12_struck 104 = .ok (.iaload, 1) := by decide +kernel
theorem dX12_struck_105 : decode cX12_struck 105 = .ok (.aload_n 0, 1) := by decide +kernel
theorem dX12_struck_106 : decode cX12_struck 106 = .ok (.getfield 126, 3) := by decide +kernel
theorem dX12_struck_109 : decode cX12_struck 109 = .ok (.iload_n 3, 1) := by decide +kernel
theorem dX12_struck_110 : decode cX12_struck 110 = .ok (.iconst 1, 1) := by decide +kernel
theorem dX12_struck_111 : decode cX12_struck 111 = .ok (.iadd, 1) := by decide +kernel
theorem dX12_struck_112 : decode cX12_struck 112 = .ok (.iaload, 1) := by decide +kernel
theorem dX12_struck_113 : decode cX12_struck 113 = .ok (.if_icmp .le 15, 3) := by decide +kernel
theorem dX12_struck_116 : decode cX12_struck 116 = .ok (.aload_n 0, 1) := by decide +kernel
theorem dX12_struck_117 : decode cX12_struck 117 = .ok (.getfield 126, 3) := by decide +kernel
theorem dX12_struck_120 : decode cX12_struck 120 = .ok (.iload_n 3, 1) := by decide +kernel
theorem dX12_struck_121 : decode cX12_struck 121 = .ok (.bipush 41, 2) := by decide +kernel
theorem dX12_struck_123 : decode cX12_struck 123 = .ok (.iadd, 1) := by decide +kernel
theorem dX12_struck_124 : decode cX12_struck 124 = .ok (.iaload, 1) := by decide +kernel
theorem dX12_struck_125 : decode cX12_struck 125 = .ok (.goto 11, 3) := by decide +kernel
theorem dX12_struck_128 : decode cX12_struck 128 = .ok (.aload_n 0, 1) := by decide +kernel
theorem dX12_struck_129 : decode cX12_struck 129 = .ok (.getfield 126, 3) := by decide +kernel
theorem dX12_struck_132 : decode cX12_struck 132 = .ok (.iload_n 3, 1) := by decide +kernel
theorem dX12_struck_133 : decode cX12_struck 133 = .ok (.iconst 1, 1) := by decide +kernel
theorem dX12_struck_134 : decode cX12_struck 134 = .ok (.iadd, 1) := by decide +kernel
theorem dX12_struck_135 : decode cX12_struck 135 = .ok (.iaload, 1) := by decide +kernel
theorem dX12_struck_136 : decode cX12_struck 136 = .ok (.iastore, 1) := by decide +kernel
theorem dX12_struck_137 : decode cX12_struck 137 = .ok (.iinc 2 (-1), 3) := by decide +kernel
theorem dX12_struck_140 : decode cX12_struck 140 = .ok (.goto (-121), 3) := by decide +kernel
theorem dX12_struck_143 : decode cX12_struck 143 = .ok (.iinc 1 (-1), 3) := by decide +kernel
theorem dX12_struck_146 : decode cX12_struck 146 = .ok (.goto (-136), 3) := by decide +kernel
theorem dX12_struck_149 : decode cX12_struck 149 = .ok (.aload_n 0, 1) := by decide +kernel
theorem dX12_struck_150 : decode cX12_struck 150 = .ok (.getfield 149, 3) := by decide +kernel
theorem dX12_struck_153 : decode cX12_struck 153 = .ok (.aload_n 0, 1) := by decide +kernel
theorem dX12_struck_154 : decode cX12_struck 154 = .ok (.getfield 152, 3) := by decide +kernel
theorem dX12_struck_157 : decode cX12_struck 157 = .ok (.iadd, 1) := by decide +kernel
theorem dX12_struck_158 : decode cX12_struck 158 = .ok (.iconst 2, 1) := by decide +kernel
theorem dX12_struck_159 : decode cX12_struck 159 = .ok (.aload_n 0, 1) := by decide +kernel
theorem dX12_struck_160 : decode cX12_struck 160 = .ok (.getfield 126, 3) := by decide +kernel
theorem dX12_struck_163 : decode cX12_struck 163 = .ok (.iconst 0, 1) := by decide +kernel
theorem dX12_struck_164 : decode cX12_struck 164 = .ok (.iaload, 1) := by decide +kernel
theorem dX12_struck_165 : decode cX12_struck 165 = .ok (.imul, 1) := by decide +kernel
theorem dX12_struck_166 : decode cX12_struck 166 = .ok (.isub, 1) := by decide +kernel
theorem dX12_struck_167 : decode cX12_struck 167 = .ok (.ireturn, 1) := by decide +kernel
set_option maxHeartbeats 4000000 in
set_option maxRecDepth 100000 in
theorem kX12_struck {l : Launch} {D : va_G} {cy : Nat → ClassId} {N : Nat} {q : Nat → Nat} {m0 : Nat → Value} {a0 : Nat → vp_A} {sz : Nat} (hN : 105 ≤ N) (hsh : SH q m0) {x69_9 : Int32} (h_x69_9 : m0 6909 = .int x69_9) {x69_11 : Int32} (h_x69_11 : m0 6911 = .int x69_11) {A72 : Nat → Int32} (h_A72 : a0 72 = (40, .inl A72)) {A73 : Nat → Int32} (h_A73 : a0 73 = (40, .inl A73)) {x69_18 : Int32} (h_x69_18 : m0 6918 = .int x69_18) {A103 : Nat → Int32} (h_A103 : a0 103 = (1681, .inl A103)) (F : Nat) {X0 : Int32 × Int32 × (Nat → Int32)} (hs0 : fX12_struck F x69_9 x69_11 A72 A73 x69_18 A103 = some X0) : gMi l yX12_struck cX12_struck 4 (some .int) ({ frames := 0, cells := 0, slots := 0, locals := 0 } : Room) D cy N q m0 a0 sz [.ref (q 69)] (fun r m' a' => r = X0.1 ∧ m' 6918 = .int X0.2.1 ∧ (∀ j, nel j [6918] = false → m' j = m0 j) ∧ a' 103 = (1681, .inl X0.2.2) ∧ (∀ j, nel j [103] = false → a' j = a0 j)) := by
  refine g_ofi (by decide) (Nat.le_of_ble_eq_true rfl) ?_
  intro p e s M args below meth c hx hb hr hG hown hin hlocks hml hW hS ls hl
  unfold fX12_struck at hs0
  have hoff : ∀ j, nel j [6918] = false → m0 j = m0 j := off0
  have hoffa : ∀ j, nel j [103] = false → a0 j = a0 j := off0
  refine lv_aload_n hx hb dX12_struck_0 rfl (lv_at hl 0 rfl) ?_
  refine lv_iconst (v := 0) hx hb dX12_struck_1 (by decide) ?_
  refine gp12_18 hx hb hG hown hW hS (o := 69) (ltN hN 69 rfl) gk69 (v := 0) gx246 dX12_struck_2 (fun m1 H locs hm1 ho1 hW hS => ?_)
  have ho1 := off1 ho1
  have w_x69_18 : m1 6918 = .int 0 := hm1
  have hoff := offm hoff ho1 (by decide +kernel)
  have hsh := SH.off hsh ho1 (by decide +kernel)
  refine lv_aload_n hx hb dX12_struck_5 rfl (lv_at hl 0 rfl) ?_
  refine gf12_9 hx hb hG hown hW (o := 69) (ltN hN 69 rfl) gk69 (v := .int x69_9) ((hoff 6909 rfl).trans h_x69_9) gx255 dX12_struck_6 ?_
  refine lv_istore_n (lv' := [(1, .int x69_9), (0, .ref (q 69))]) hx hb dX12_struck_9 rfl hl (by decide) rfl (fun ls hl => ?_)
  obtain ⟨r2, hg2, hs0⟩ := obind hs0
  have hE1_149 : ∀ (t2_149 : (Nat → Int32)) (hr2 : t2_149 = r2) (m : Nat → Value) (a : Nat → vp_A) (H : Heap) (locs : List Loc) (w_x69_18 : m 6918 = .int 0) (hoff : ∀ j, nel j [6918] = false → m j = m0 j) (hsh : SH q m) (w_A103 : a 103 = (1681, .inl t2_149)) (hoffa : ∀ j, nel j [103] = false → a j = a0 j) (ls : Array Slot) (hl : lv_has ls 4 [(0, .ref (q 69))]) (hW : GW D cy (gA N q s.heap.size) N q m a s H) (hS : va_S (gA N q s.heap.size) s.heap H locs), W p l e ({ frames := 0, cells := 0, slots := 0, locals := 0 } : Room) s M args below meth c H locs 0 0 (MQ below (va_Qi (fun (r : Int32) (u : (Nat → Value) × (Nat → vp_A)) => r = X0.1 ∧ u.1 6918 = .int X0.2.1 ∧ (∀ j, nel j [6918] = false → u.1 j = m0 j) ∧ u.2 103 = (1681, .inl X0.2.2) ∧ (∀ j, nel j [103] = false → u.2 j = a0 j)) (gB D cy N q s.heap.size) (gA N q s.heap.size)) args s 0 0 (gA N q s.heap.size)) (F0 M 149 ls []) := by
    intro t2_149 hr2 m a H locs w_x69_18 hoff hsh w_A103 hoffa ls hl hW hS
    subst hr2
    refine lv_aload_n hx hb dX12_struck_149 rfl (lv_at hl 0 rfl) ?_
    refine gf12_9 hx hb hG hown hW (o := 69) (ltN hN 69 rfl) gk69 (v := .int x69_9) ((hoff 6909 rfl).trans h_x69_9) gx255 dX12_struck_150 ?_
    refine lv_aload_n hx hb dX12_struck_153 rfl (lv_at hl 0 rfl) ?_
    refine gf12_11 hx hb hG hown hW (o := 69) (ltN hN 69 rfl) gk69 (v := .int x69_11) ((hoff 6911 rfl).trans h_x69_11) gx256 dX12_struck_154 ?_
    refine lv_iadd hx hb dX12_struck_157 ?_
    refine lv_iconst (v := 2) hx hb dX12_struck_158 (by decide) ?_
    refine lv_aload_n hx hb dX12_struck_159 rfl (lv_at hl 0 rfl) ?_
    refine gf12_56 hx hb hG hown hW (o := 69) (ltN hN 69 rfl) gk69 (v := .ref (q 103)) (sh69_56 hsh) gx201 dX12_struck_160 ?_
    refine lv_iconst (v := 0) hx hb dX12_struck_163 (by decide) ?_
    refine g_iald hx hb hW (o := 103) (ltN hN 103 rfl) gk103 w_A103 (vin (by decide)) dX12_struck_164 ?_
    refine lv_imul hx hb dX12_struck_165 ?_
    refine lv_isub hx hb dX12_struck_166 ?_
    have hs0 := Option.some.inj hs0
    subst hs0
    exact W.zret hx hb hr rfl (fun t ht hw => ⟨⟨_, (m, a), rfl, ⟨rfl, w_x69_18, hoff, w_A103, hoffa⟩, g_end hW ht hw⟩, hS.F ht⟩) hS.2.2 dX12_struck_167 hlocks
  have hL1 : ∀ (n : Nat) (v1k2 : Int32) (A103k2 : Nat → Int32) (m : Nat → Value) (a : Nat → vp_A) (H : Heap) (locs : List Loc) (w_x69_18 : m 6918 = .int 0) (hoff : ∀ j, nel j [6918] = false → m j = m0 j) (hsh : SH q m) (w_A103 : a 103 = (1681, .inl A103k2)) (hoffa : ∀ j, nel j [103] = false → a j = a0 j) (ls : Array Slot) (hl : lv_has ls 4 [(0, .ref (q 69)), (1, .int v1k2)]) (hg2 : gloop (fun u2 : (Int32 × (Nat → Int32)) => fX12_struck_S10 F x69_9 x69_11 A72 A73 0 u2.1 u2.2) n (v1k2, A103k2) = some r2) (hW : GW D cy (gA N q s.heap.size) N q m a s H) (hS : va_S (gA N q s.heap.size) s.heap H locs), W p l e ({ frames := 0, cells := 0, slots := 0, locals := 0 } : Room) s M args below meth c H locs 0 0 (MQ below (va_Qi (fun (r : Int32) (u : (Nat → Value) × (Nat → vp_A)) => r = X0.1 ∧ u.1 6918 = .int X0.2.1 ∧ (∀ j, nel j [6918] = false → u.1 j = m0 j) ∧ u.2 103 = (1681, .inl X0.2.2) ∧ (∀ j, nel j [103] = false → u.2 j = a0 j)) (gB D cy N q s.heap.size) (gA N q s.heap.size)) args s 0 0 (gA N q s.heap.size)) (F0 M 10 ls []) := by
    intro n
    induction n with
    | zero => intro v1k2 A103k2 m a H locs w_x69_18 hoff hsh w_A103 hoffa ls hl hg2 hW hS; exact (gl_zero hg2).elim
    | succ n ih1 =>
      intro v1k2 A103k2 m a H locs w_x69_18 hoff hsh w_A103 hoffa ls hl hg2 hW hS
      obtain ⟨X1, hs1, hXl1, hXr1⟩ := gl_succ hg2
      have hs1 : fX12_struck_S10 F x69_9 x69_11 A72 A73 0 v1k2 A103k2 = some X1 := hs1
      unfold fX12_struck_S10 at hs1
      refine lv_iload_n hx hb dX12_struck_10 rfl (lv_at hl 1 rfl) ?_
      refine lv_if_lt (tgt := 149) hx hb dX12_struck_11 (by decide) (fun c47 => ?_) (fun c47 => ?_)
      · rw [if_pos c47] at hs1
        exact hE1_149 A103k2 (hXl1 _ (Option.some.inj hs1).symm) m a _ _ w_x69_18 hoff hsh w_A103 hoffa ls (lv_sub hl [0] rfl) hW hS
      · rw [if_neg c47] at hs1
        refine lv_aload_n hx hb dX12_struck_14 rfl (lv_at hl 0 rfl) ?_
        refine gf12_11 hx hb hG hown hW (o := 69) (ltN hN 69 rfl) gk69 (v := .int x69_11) ((hoff 6911 rfl).trans h_x69_11) gx256 dX12_struck_15 ?_
        refine lv_istore_n (lv' := [(2, .int x69_11), (0, .ref (q 69)), (1, .int v1k2)]) hx hb dX12_struck_18 rfl hl (by decide) rfl (fun ls hl => ?_)
        obtain ⟨r48, hg48, hs1⟩ := obind hs1
        have hE2_143 : ∀ (t48_143 : (Nat → Int32)) (hr48 : t48_143 = r48) (m : Nat → Value) (a : Nat → vp_A) (H : Heap) (locs : List Loc) (w_x69_18 : m 6918 = .int 0) (hoff : ∀ j, nel j [6918] = false → m j = m0 j) (hsh : SH q m) (w_A103 : a 103 = (1681, .inl t48_143)) (hoffa : ∀ j, nel j [103] = false → a j = a0 j) (ls : Array Slot) (hl : lv_has ls 4 [(0, .ref (q 69)), (1, .int v1k2)]) (hW : GW D cy (gA N q s.heap.size) N q m a s H) (hS : va_S (gA N q s.heap.size) s.heap H locs), W p l e ({ frames := 0, cells := 0, slots := 0, locals := 0 } : Room) s M args below meth c H locs 0 0 (MQ below (va_Qi (fun (r : Int32) (u : (Nat → Value) × (Nat → vp_A)) => r = X0.1 ∧ u.1 6918 = .int X0.2.1 ∧ (∀ j, nel j [6918] = false → u.1 j = m0 j) ∧ u.2 103 = (1681, .inl X0.2.2) ∧ (∀ j, nel j [103] = false → u.2 j = a0 j)) (gB D cy N q s.heap.size) (gA N q s.heap.size)) args s 0 0 (gA N q s.heap.size)) (F0 M 143 ls []) := by
          intro t48_143 hr48 m a H locs w_x69_18 hoff hsh w_A103 hoffa ls hl hW hS
          subst hr48
          refine lv_iinc (v := v1k2 + (-1)) (lv' := [(1, .int (v1k2 + (-1))), (0, .ref (q 69))]) hx hb dX12_struck_143 hl (k := 1) rfl (congrArg (fun z => v1k2 + z) (by decide : Int32.ofInt (-1) = (-1))) (by decide) rfl (fun ls hl => ?_)
          refine lv_goto (tgt := 10) hx hb dX12_struck_146 (by decide) ?_
          exact ih1 (v1k2 + (-1)) t48_143 m a _ _ w_x69_18 hoff hsh w_A103 hoffa ls (lv_sub hl [1, 0] rfl) (hXr1 _ (Option.some.inj hs1).symm) hW hS
        have hL2 : ∀ (n : Nat) (v2k48 : Int32) (A103k48 : Nat → Int32) (m : Nat → Value) (a : Nat → vp_A) (H : Heap) (locs : List Loc) (w_x69_18 : m 6918 = .int 0) (hoff : ∀ j, nel j [6918] = false → m j = m0 j) (hsh : SH q m) (w_A103 : a 103 = (1681, .inl A103k48)) (hoffa : ∀ j, nel j [103] = false → a j = a0 j) (ls : Array Slot) (hl : lv_has ls 4 [(0, .ref (q 69)), (1, .int v1k2), (2, .int v2k48)]) (hg48 : gloop (fun u48 : (Int32 × (Nat → Int32)) => fX12_struck_S19 F x69_9 x69_11 A72 A73 v1k2 0 u48.1 u48.2) n (v2k48, A103k48) = some r48) (hW : GW D cy (gA N q s.heap.size) N q m a s H) (hS : va_S (gA N q s.heap.size) s.heap H locs), W p l e ({ frames := 0, cells := 0, slots := 0, locals := 0 } : Room) s M args below meth c H locs 0 0 (MQ below (va_Qi (fun (r : Int32) (u : (Nat → Value) × (Nat → vp_A)) => r = X0.1 ∧ u.1 6918 = .int X0.2.1 ∧ (∀ j, nel j [6918] = false → u.1 j = m0 j) ∧ u.2 103 = (1681, .inl X0.2.2) ∧ (∀ j, nel j [103] = false → u.2 j = a0 j)) (gB D cy N q s.heap.size) (gA N q s.heap.size)) args s 0 0 (gA N q s.heap.size)) (F0 M 19 ls []) := by
          intro n
          induction n with
          | zero => intro v2k48 A103k48 m a H locs w_x69_18 hoff hsh w_A103 hoffa ls hl hg48 hW hS; exact (gl_zero hg48).elim
          | succ n ih2 =>
            intro v2k48 A103k48 m a H locs w_x69_18 hoff hsh w_A103 hoffa ls hl hg48 hW hS
            obtain ⟨X2, hs2, hXl2, hXr2⟩ := gl_succ hg48
            have hs2 : fX12_struck_S19 F x69_9 x69_11 A72 A73 v1k2 0 v2k48 A103k48 = some X2 := hs2
            unfold fX12_struck_S19 at hs2
            have hJ137_2 : ∀ (v2j86 : Int32) (A103j86 : Nat → Int32) (m : Nat → Value) (a : Nat → vp_A) (H : Heap) (locs : List Loc) (w_x69_18 : m 6918 = .int 0) (hoff : ∀ j, nel j [6918] = false → m j = m0 j) (hsh : SH q m) (w_A103 : a 103 = (1681, .inl A103j86)) (hoffa : ∀ j, nel j [103] = false → a j = a0 j) (ls : Array Slot) (hl : lv_has ls 4 [(0, .ref (q 69)), (1, .int v1k2), (2, .int v2j86)]) (hs2 : fX12_struck_J137 F x69_9 x69_11 A72 A73 v1k2 v2j86 0 A103j86 = some X2) (hW : GW D cy (gA N q s.heap.size) N q m a s H) (hS : va_S (gA N q s.heap.size) s.heap H locs), W p l e ({ frames := 0, cells := 0, slots := 0, locals := 0 } : Room) s M args below meth c H locs 0 0 (MQ below (va_Qi (fun (r : Int32) (u : (Nat → Value) × (Nat → vp_A)) => r = X0.1 ∧ u.1 6918 = .int X0.2.1 ∧ (∀ j, nel j [6918] = false → u.1 j = m0 j) ∧ u.2 103 = (1681, .inl X0.2.2) ∧ (∀ j, nel j [103] = false → u.2 j = a0 j)) (gB D cy N q s.heap.size) (gA N q s.heap.size)) args s 0 0 (gA N q s.heap.size)) (F0 M 137 ls []) := by
              intro v2j86 A103j86 m a H locs w_x69_18 hoff hsh w_A103 hoffa ls hl hs2 hW hS
              unfold fX12_struck_J137 at hs2
              refine lv_iinc (v := v2j86 + (-1)) (lv' := [(2, .int (v2j86 + (-1))), (0, .ref (q 69)), (1, .int v1k2)]) hx hb dX12_struck_137 hl (k := 2) rfl (congrArg (fun z => v2j86 + z) (by decide : Int32.ofInt (-1) = (-1))) (by decide) rfl (fun ls hl => ?_)
              refine lv_goto (tgt := 19) hx hb dX12_struck_140 (by decide) ?_
              exact ih2 (v2j86 + (-1)) A103j86 m a _ _ w_x69_18 hoff hsh w_A103 hoffa ls (lv_sub hl [1, 2, 0] rfl) (hXr2 _ (Option.some.inj hs2).symm) hW hS
            have hJ136_2 : ∀ (v2j81 : Int32) (s0j81 : Int32) (s1j81 : Int32) (A103j81 : Nat → Int32) (m : Nat → Value) (a : Nat → vp_A) (H : Heap) (locs : List Loc) (w_x69_18 : m 6918 = .int 0) (hoff : ∀ j, nel j [6918] = false → m j = m0 j) (hsh : SH q m) (w_A103 : a 103 = (1681, .inl A103j81)) (hoffa : ∀ j, nel j [103] = false → a j = a0 j) (ls : Array Slot) (hl : lv_has ls 4 [(0, .ref (q 69)), (1, .int v1k2), (2, .int v2j81)]) (hs2 : fX12_struck_J136 F x69_9 x69_11 A72 A73 v1k2 v2j81 s0j81 s1j81 0 A103j81 = some X2) (hW : GW D cy (gA N q s.heap.size) N q m a s H) (hS : va_S (gA N q s.heap.size) s.heap H locs), W p l e ({ frames := 0, cells := 0, slots := 0, locals := 0 } : Room) s M args below meth c H locs 0 0 (MQ below (va_Qi (fun (r : Int32) (u : (Nat → Value) × (Nat → vp_A)) => r = X0.1 ∧ u.1 6918 = .int X0.2.1 ∧ (∀ j, nel j [6918] = false → u.1 j = m0 j) ∧ u.2 103 = (1681, .inl X0.2.2) ∧ (∀ j, nel j [103] = false → u.2 j = a0 j)) (gB D cy N q s.heap.size) (gA N q s.heap.size)) args s 0 0 (gA N q s.heap.size)) (F0 M 136 ls [.int s0j81, .int s1j81, .ref (q 103)]) := by
              intro v2j81 s0j81 s1j81 A103j81 m a H locs w_x69_18 hoff hsh w_A103 hoffa ls hl hs2 hW hS
              unfold fX12_struck_J136 at hs2
              obtain ⟨hi89, hs2⟩ := oif hs2
              refine g_iast hx hb hW hS (o := 103) (ltN hN 103 rfl) gk103 w_A103 (vin hi89) dX12_struck_136 (fun a90 H locs ha90 ho90 hW hS => ?_)
              have ho90 := off1 ho90
              have w_A103 : a90 103 = (1681, .inl (upd A103j81 s1j81.toNatClampNeg s0j81)) := ha90
              have hoffa := offm hoffa ho90 (by decide +kernel)
              exact hJ137_2 v2j81 (upd A103j81 s1j81.toNatClampNeg s0j81) m a90 _ _ w_x69_18 hoff hsh w_A103 hoffa ls (lv_sub hl [0, 1, 2] rfl) hs2 hW hS
            have hJ46_2 : ∀ (v2j72 : Int32) (v3j72 : Int32) (A103j72 : Nat → Int32) (m : Nat → Value) (a : Nat → vp_A) (H : Heap) (locs : List Loc) (w_x69_18 : m 6918 = .int 0) (hoff : ∀ j, nel j [6918] = false → m j = m0 j) (hsh : SH q m) (w_A103 : a 103 = (1681, .inl A103j72)) (hoffa : ∀ j, nel j [103] = false → a j = a0 j) (ls : Array Slot) (hl : lv_has ls 4 [(0, .ref (q 69)), (1, .int v1k2), (2, .int v2j72), (3, .int v3j72)]) (hs2 : fX12_struck_J46 F x69_9 x69_11 A72 A73 v1k2 v2j72 v3j72 0 A103j72 = some X2) (hW : GW D cy (gA N q s.heap.size) N q m a s H) (hS : va_S (gA N q s.heap.size) s.heap H locs), W p l e ({ frames := 0, cells := 0, slots := 0, locals := 0 } : Room) s M args below meth c H locs 0 0 (MQ below (va_Qi (fun (r : Int32) (u : (Nat → Value) × (Nat → vp_A)) => r = X0.1 ∧ u.1 6918 = .int X0.2.1 ∧ (∀ j, nel j [6918] = false → u.1 j = m0 j) ∧ u.2 103 = (1681, .inl X0.2.2) ∧ (∀ j, nel j [103] = false → u.2 j = a0 j)) (gB D cy N q s.heap.size) (gA N q s.heap.size)) args s 0 0 (gA N q s.heap.size)) (F0 M 46 ls []) := by
              intro v2j72 v3j72 A103j72 m a H locs w_x69_18 hoff hsh w_A103 hoffa ls hl hs2 hW hS
              unfold fX12_struck_J46 at hs2
              refine lv_aload_n hx hb dX12_struck_46 rfl (lv_at hl 0 rfl) ?_
              refine gf12_56 hx hb hG hown hW (o := 69) (ltN hN 69 rfl) gk69 (v := .ref (q 103)) (sh69_56 hsh) gx201 dX12_struck_47 ?_
              refine lv_iload_n hx hb dX12_struck_50 rfl (lv_at hl 3 rfl) ?_
              refine lv_iconst (v := 0) hx hb dX12_struck_51 (by decide) ?_
              obtain ⟨hi87, hs2⟩ := oif hs2
              refine g_iast hx hb hW hS (o := 103) (ltN hN 103 rfl) gk103 w_A103 (vin hi87) dX12_struck_52 (fun a88 H locs ha88 ho88 hW hS => ?_)
              have ho88 := off1 ho88
              have w_A103 : a88 103 = (1681, .inl (upd A103j72 v3j72.toNatClampNeg 0)) := ha88
              have hoffa := offm hoffa ho88 (by decide +kernel)
              refine lv_goto (tgt := 137) hx hb dX12_struck_53 (by decide) ?_
              exact hJ137_2 v2j72 (upd A103j72 v3j72.toNatClampNeg 0) m a88 _ _ w_x69_18 hoff hsh w_A103 hoffa ls (lv_sub hl [0, 1, 2] rfl) hs2 hW hS
            refine lv_iload_n hx hb dX12_struck_19 rfl (lv_at hl 2 rfl) ?_
            refine lv_if_lt (tgt := 143) hx hb dX12_struck_20 (by decide) (fun c70 => ?_) (fun c70 => ?_)
            · rw [if_pos c70] at hs2
              exact hE2_143 A103k48 (hXl2 _ (Option.some.inj hs2).symm) m a _ _ w_x69_18 hoff hsh w_A103 hoffa ls (lv_sub hl [0, 1] rfl) hW hS
            · rw [if_neg c70] at hs2
              refine lv_bipush (v := 41) hx hb dX12_struck_23 (by decide) ?_
              refine lv_iload_n hx hb dX12_struck_25 rfl (lv_at hl 1 rfl) ?_
              refine lv_imul hx hb dX12_struck_26 ?_
              refine lv_iload_n hx hb dX12_struck_27 rfl (lv_at hl 2 rfl) ?_
              refine lv_iadd hx hb dX12_struck_28 ?_
              refine lv_istore_n (lv' := [(3, .int ((41 * v1k2) + v2k48)), (0, .ref (q 69)), (1, .int v1k2), (2, .int v2k48)]) hx hb dX12_struck_29 rfl hl (by decide) rfl (fun ls hl => ?_)
              refine lv_iload_n hx hb dX12_struck_30 rfl (lv_at hl 2 rfl) ?_
              refine lv_aload_n hx hb dX12_struck_31 rfl (lv_at hl 1 rfl) ?_
              refine gf12_9 hx hb hG hown hW (o := 69) (ltN hN 69 rfl) gk69 (v := .int x69_9) ((hoff 6909 rfl).trans h_x69_9) gx255 dX12_struck_32 ?_
              refine lv_icmp_eq (tgt := 46) hx hb dX12_struck_35 (by decide) (fun c71 => ?_) (fun c71 => ?_)
              · rw [if_pos c71] at hs2
                exact hJ46_2 v2k48 ((41 * v1k2) + v2k48) A103k48 m a _ _ w_x69_18 hoff hsh w_A103 hoffa ls (lv_sub hl [1, 2, 3, 0] rfl) hs2 hW hS
              · rw [if_neg c71] at hs2
                refine lv_iload_n hx hb dX12_struck_38 rfl (lv_at hl 3 rfl) ?_
                refine lv_aload_n hx hb dX12_struck_39 rfl (lv_at hl 1 rfl) ?_
                refine gf12_11 hx hb hG hown hW (o := 69) (ltN hN 69 rfl) gk69 (v := .int x69_11) ((hoff 6911 rfl).trans h_x69_11) gx256 dX12_struck_40 ?_
                refine lv_icmp_ne (tgt := 56) hx hb dX12_struck_43 (by decide) (fun c73 => ?_) (fun c73 => ?_)
                · rw [if_neg c73] at hs2
                  refine lv_aload_n hx hb dX12_struck_56 rfl (lv_at hl 1 rfl) ?_
                  refine gf12_8 hx hb hG hown hW (o := 69) (ltN hN 69 rfl) gk69 (v := .ref (q 72)) (sh69_8 hsh) gx168 dX12_struck_57 ?_
                  refine lv_iload_n hx hb dX12_struck_60 rfl (lv_at hl 2 rfl) ?_
                  obtain ⟨hi74, hs2⟩ := oif hs2
                  refine g_iald hx hb hW (o := 72) (ltN hN 72 rfl) gk72 ((hoffa 72 rfl).trans h_A72) (vin hi74) dX12_struck_61 ?_
                  refine lv_aload_n hx hb dX12_struck_62 rfl (lv_at hl 1 rfl) ?_
                  refine gf12_10 hx hb hG hown hW (o := 69) (ltN hN 69 rfl) gk69 (v := .ref (q 73)) (sh69_10 hsh) gx169 dX12_struck_63 ?_
                  refine lv_iload_n hx hb dX12_struck_66 rfl (lv_at hl 3 rfl) ?_
                  obtain ⟨hi75, hs2⟩ := oif hs2
                  refine g_iald hx hb hW (o := 73) (ltN hN 73 rfl) gk73 ((hoffa 73 rfl).trans h_A73) (vin hi75) dX12_struck_67 ?_
                  refine lv_icmp_ne (tgt := 91) hx hb dX12_struck_68 (by decide) (fun c76 => ?_) (fun c76 => ?_)
                  · rw [if_neg c76] at hs2
                    refine lv_aload_n hx hb dX12_struck_91 rfl (lv_at hl 1 rfl) ?_
                    refine gf12_56 hx hb hG hown hW (o := 69) (ltN hN 69 rfl) gk69 (v := .ref (q 103)) (sh69_56 hsh) gx201 dX12_struck_92 ?_
                    refine lv_iload_n hx hb dX12_struck_95 rfl (lv_at hl 0 rfl) ?_
                    refine lv_aload_n hx hb dX12_struck_96 rfl (lv_at hl 1 rfl) ?_
                    refine gf12_56 hx hb hG hown hW (o := 69) (ltN hN 69 rfl) gk69 (v := .ref (q 103)) (sh69_56 hsh) gx201 dX12_struck_97 ?_
                    refine lv_iload_n hx hb dX12_struck_100 rfl (lv_at hl 0 rfl) ?_
                    refine lv_bipush (v := 41) hx hb dX12_struck_101 (by decide) ?_
                    refine lv_iadd hx hb dX12_struck_103 ?_
                    obtain ⟨hi77, hs2⟩ := oif hs2
                    refine g_iald hx hb hW (o := 103) (ltN hN 103 rfl) gk103 w_A103 (vin hi77) dX12_struck_104 ?_
                    refine lv_aload_n hx hb dX12_struck_105 rfl (lv_at hl 1 rfl) ?_
                    refine gf12_56 hx hb hG hown hW (o := 69) (ltN hN 69 rfl) gk69 (v := .ref (q 103)) (sh69_56 hsh) gx201 dX12_struck_106 ?_
                    refine lv_iload_n hx hb dX12_struck_109 rfl (lv_at hl 0 rfl) ?_
                    refine lv_iconst (v := 1) hx hb dX12_struck_110 (by decide) ?_
                    refine lv_iadd hx hb dX12_struck_111 ?_
                    obtain ⟨hi78, hs2⟩ := oif hs2
                    refine g_iald hx hb hW (o := 103) (ltN hN 103 rfl) gk103 w_A103 (vin hi78) dX12_struck_112 ?_
                    refine lv_icmp_le (tgt := 128) hx hb dX12_struck_113 (by decide) (fun c79 => ?_) (fun c79 => ?_)
                    · rw [if_pos c79] at hs2
                      refine lv_aload_n hx hb dX12_struck_128 rfl (lv_at hl 1 rfl) ?_
                      refine gf12_56 hx hb hG hown hW (o := 69) (ltN hN 69 rfl) gk69 (v := .ref (q 103)) (sh69_56 hsh) gx201 dX12_struck_129 ?_
                      refine lv_iload_n hx hb dX12_struck_132 rfl (lv_at hl 0 rfl) ?_
                      refine lv_iconst (v := 1) hx hb dX12_struck_133 (by decide) ?_
                      refine lv_iadd hx hb dX12_struck_134 ?_
                      obtain ⟨hi80, hs2⟩ := oif hs2
                      refine g_iald hx hb hW (o := 103) (ltN hN 103 rfl) gk103 w_A103 (vin hi80) dX12_struck_135 ?_
                      exact hJ136_2 v2k48 (A103k48 (((41 * v1k2) + v2k48) + 1).toNatClampNeg) ((41 * v1k2) + v2k48) A103k48 m a _ _ w_x69_18 hoff hsh w_A103 hoffa ls (lv_sub hl [1, 2, 3] rfl) hs2 hW hS
                    · rw [if_neg c79] at hs2
                      refine lv_aload_n hx hb dX12_struck_116 rfl (lv_at hl 1 rfl) ?_
                      refine gf12_56 hx hb hG hown hW (o := 69) (ltN hN 69 rfl) gk69 (v := .ref (q 103)) (sh69_56 hsh) gx201 dX12_struck_117 ?_
                      refine lv_iload_n hx hb dX12_struck_120 rfl (lv_at hl 0 rfl) ?_
                      refine lv_bipush (v := 41) hx hb dX12_struck_121 (by decide) ?_
                      refine lv_iadd hx hb dX12_struck_123 ?_
                      obtain ⟨hi82, hs2⟩ := oif hs2
                      refine g_iald hx hb hW (o := 103) (ltN hN 103 rfl) gk103 w_A103 (vin hi82) dX12_struck_124 ?_
                      refine lv_goto (tgt := 136) hx hb dX12_struck_125 (by decide) ?_
                      exact hJ136_2 v2k48 (A103k48 (((41 * v1k2) + v2k48) + 41).toNatClampNeg) ((41 * v1k2) + v2k48) A103k48 m a _ _ w_x69_18 hoff hsh w_A103 hoffa ls (lv_sub hl [1, 2, 3] rfl) hs2 hW hS
                  · rw [if_pos c76] at hs2
                    refine lv_aload_n hx hb dX12_struck_71 rfl (lv_at hl 1 rfl) ?_
                    refine gf12_56 hx hb hG hown hW (o := 69) (ltN hN 69 rfl) gk69 (v := .ref (q 103)) (sh69_56 hsh) gx201 dX12_struck_72 ?_
                    refine lv_iload_n hx hb dX12_struck_75 rfl (lv_at hl 0 rfl) ?_
                    refine lv_iconst (v := 1) hx hb dX12_struck_76 (by decide) ?_
                    refine lv_aload_n hx hb dX12_struck_77 rfl (lv_at hl 1 rfl) ?_
                    refine gf12_56 hx hb hG hown hW (o := 69) (ltN hN 69 rfl) gk69 (v := .ref (q 103)) (sh69_56 hsh) gx201 dX12_struck_78 ?_
                    refine lv_iload_n hx hb dX12_struck_81 rfl (lv_at hl 0 rfl) ?_
                    refine lv_bipush (v := 42) hx hb dX12_struck_82 (by decide) ?_
                    refine lv_iadd hx hb dX12_struck_84 ?_
                    obtain ⟨hi83, hs2⟩ := oif hs2
                    refine g_iald hx hb hW (o := 103) (ltN hN 103 rfl) gk103 w_A103 (vin hi83) dX12_struck_85 ?_
                    refine lv_iadd hx hb dX12_struck_86 ?_
                    obtain ⟨hi84, hs2⟩ := oif hs2
                    refine g_iast hx hb hW hS (o := 103) (ltN hN 103 rfl) gk103 w_A103 (vin hi84) dX12_struck_87 (fun a85 H locs ha85 ho85 hW hS => ?_)
                    have ho85 := off1 ho85
                    have w_A103 : a85 103 = (1681, .inl (upd A103k48 ((41 * v1k2) + v2k48).toNatClampNeg (1 + (A103k48 (((41 * v1k2) + v2k48) + 42).toNatClampNeg)))) := ha85
                    have hoffa := offm hoffa ho85 (by decide +kernel)
                    refine lv_goto (tgt := 137) hx hb dX12_struck_88 (by decide) ?_
                    exact hJ137_2 v2k48 (upd A103k48 ((41 * v1k2) + v2k48).toNatClampNeg (1 + (A103k48 (((41 * v1k2) + v2k48) + 42).toNatClampNeg))) m a85 _ _ w_x69_18 hoff hsh w_A103 hoffa ls (lv_sub hl [1, 2, 3] rfl) hs2 hW hS
                · rw [if_pos c73] at hs2
                  exact hJ46_2 v2k48 ((41 * v1k2) + v2k48) A103k48 m a _ _ w_x69_18 hoff hsh w_A103 hoffa ls (lv_sub hl [1, 2, 3, 0] rfl) hs2 hW hS
        exact hL2 F x69_11 A103k2 m a _ _ w_x69_18 hoff hsh w_A103 hoffa ls (lv_sub hl [1, 2, 0] rfl) hg48 hW hS
  exact hL1 F x69_9 A103 m1 a0 _ _ w_x69_18 hoff hsh h_A103 hoffa ls (lv_sub hl [1, 0] rfl) hg2 hW hS
-- HealLinkModel.row (II)I
def fX12_row_J31 (x69_9 : Int32) (x69_11 : Int32) (A72 : Nat → Int32) (A73 : Nat → Int32) (v1j5 : Int32) (v2j5 : Int32) (s0j5 : Int32) (x69_18j5 : Int32) : Option (Int32 × Int32) := (if v2j5 = (-1) then some (s0j5, x69_18j5) else (if (fX12_within v2j5 0 (s0j5 - 1)) = 0 then some ((-1), x69_18j5) else (if v1j5 = 0 then (if inb v2j5 40 = true then some (A72 v2j5.toNatClampNeg, x69_18j5) else none) else (if inb v2j5 40 = true then some (A73 v2j5.toNatClampNeg, x69_18j5) else none))))
def fX12_row (x69_9 : Int32) (x69_11 : Int32) (A72 : Nat → Int32) (A73 : Nat → Int32) (x69_18 : Int32) (p1 : Int32) (p2 : Int32) : Option (Int32 × Int32) := (if (fX12_within p1 0 1) = 0 then some ((-1), 0) else (if p1 = 0 then fX12_row_J31 x69_9 x69_11 A72 A73 p1 p2 x69_9 0 else fX12_row_J31 x69_9 x69_11 A72 A73 p1 p2 x69_11 0))
theorem dX12_row_0 : decode cX12_row 0 = .ok (.aload_n 0, 1) := by decide +kernel
theorem dX12_row_1 : decode cX12_row 1 = .ok (.iconst 0, 1) := by decide +kernel
theorem dX12_row_2 : decode cX12_row 2 = .ok (.putfield 137, 3) := by decide +kernel
theorem dX12_row_5 : decode cX12_row 5 = .ok (.iload_n 1, 1) := by decide +kernel
theorem dX12_row_6 : decode cX12_row 6 = .ok (.iconst 0, 1) := by decide +kernel
theorem dX12_row_7 : decode cX12_row 7 = .ok (.iconst 1, 1) := by decide +kernel
theorem dX12_row_8 : decode cX12_row 8 = .ok (.invokestatic 159, 3) := by decide +kernel
theorem dX12_row_11 : decode cX12_row 11 = .ok (.ifCond .ne 5, 3) := by decide +kernel
theorem dX12_row_14 : decode cX12_row 14 = .ok (.iconst (-1), 1) := by decide +kernel
theorem dX12_row_15 : decode cX12_row 15 = .ok (.ireturn, 1) := by decide +kernel
theorem dX12_row_16 : decode cX12_row 16 = .ok (.iload_n 1, 1) := by decide +kernel
theorem dX12_row_17 : decode cX12_row 17 = .ok (.ifCond .ne 10, 3) := by decide +kernel
theorem dX12_row_20 : decode cX12_row 20 = .ok (.aload_n 0, 1) := by decide +kernel
theorem dX12_row_21 : decode cX12_row 21 = .ok (.getfield 149, 3) := by decide +kernel
theorem dX12_row_24 : decode cX12_row 24 = .ok (.goto 7, 3) := by decide +kernel
theorem dX12_row_27 : decode cX12_row 27 = .ok (.aload_n 0, 1) := by decide +kernel
theorem dX12_row_28 : decode cX12_row 28 = .ok (.getfield 152, 3) := by decide +kernel
theorem dX12_row_31 : decode cX12_row 31 = .ok (.istore_n 3, 1) := by decide +kernel
theorem dX12_row_32 : decode cX12_row 32 = .ok (.iload_n 2, 1) := by decide +kernel
theorem dX12_row_33 : decode cX12_row 33 = .ok (.iconst (-1), 1) := by decide +kernel
theorem dX12_row_34 : decode cX12_row 34 = .ok (.if_icmp .ne 5, 3) := by decide +kernel
theorem dX12_row_37 : decode cX12_row 37 = .ok (.iload_n 3, 1) := by decide +kernel
theorem dX12_row_38 : decode cX12_row 38 = .ok (.ireturn, 1) := by decide +kernel
theorem dX12_row_39 : decode cX12_row 39 = .ok (.iload_n 2, 1) := by decide +kernel
theorem dX12_row_40 : decode cX12_row 40 = .ok (.iconst 0, 1) := by decide +kernel
theorem dX12_row_41 : decode cX12_row 41 = .ok (.iload_n 3, 1) := by decide +kernel
theorem dX12_row_42 : decode cX12_row 42 = .ok (.iconst 1, 1) := by decide +kernel
theorem dX12_row_43 : decode cX12_row 43 = .ok (.isub, 1) := by decide +kernel
theorem dX12_row_44 : decode cX12_row 44 = .ok (.invokestatic 159, 3) := by decide +kernel
theorem dX12_row_47 : decode cX12_row 47 = .ok (.ifCond .ne 5, 3) := by decide +kernel
theorem dX12_row_50 : decode cX12_row 50 = .ok (.iconst (-1), 1) := by decide +kernel
theorem dX12_row_51 : decode cX12_row 51 = .ok (.ireturn, 1) := by decide +kernel
theorem dX12_row_52 : decode cX12_row 52 = .ok (.iload_n 1, 1) := by decide +kernel
theorem dX12_row_53 : decode cX12_row 53 = .ok (.ifCond .ne 12, 3) := by decide +kernel
theorem dX12_row_56 : decode cX12_row 56 = .ok (.aload_n 0, 1) := by decide +kernel
theorem dX12_row_57 : decode cX12_row 57 = .ok (.getfield 29, 3) := by decide +kernel
theorem dX12_row_60 : decode cX12_row 60 = .ok (.iload_n 2, 1) := by decide +kernel
theorem dX12_row_61 : decode cX12_row 61 = .ok (.iaload, 1) := by decide +kernel
theorem dX12_row_62 : decode cX12_row 62 = .ok (.goto 9, 3) := by decide +kernel
theorem dX12_row_65 : decode cX12_row 65 = .ok (.aload_n 0, 1) := by decide +kernel
theorem dX12_row_66 : decode cX12_row 66 = .ok (.getfield 32, 3) := by decide +kernel
theorem dX12_row_69 : decode cX12_row 69 = .ok (.iload_n 2, 1) := by decide +kernel
theorem dX12_row_70 : decode cX12_row 70 = .ok (.iaload, 1) := by decide +kernel
theorem dX12_row_71 : decode cX12_row 71 = .ok (.ireturn, 1) := by decide +kernel
set_option maxHeartbeats 4000000 in
set_option maxRecDepth 100000 in
theorem kX12_row {l : Launch} {D : va_G} {cy : Nat → ClassId} {N : Nat} {q : Nat → Nat} {m0 : Nat → Value} {a0 : Nat → vp_A} {sz : Nat} (hN : 105 ≤ N) (hsh : SH q m0) {x69_9 : Int32} (h_x69_9 : m0 6909 = .int x69_9) {x69_11 : Int32} (h_x69_11 : m0 6911 = .int x69_11) {A72 : Nat → Int32} (h_A72 : a0 72 = (40, .inl A72)) {A73 : Nat → Int32} (h_A73 : a0 73 = (40, .inl A73)) {x69_18 : Int32} (h_x69_18 : m0 6918 = .int x69_18) (p1 : Int32) (p2 : Int32) {X0 : Int32 × Int32} (hs0 : fX12_row x69_9 x69_11 A72 A73 x69_18 p1 p2 = some X0) : gMi l yX12_row cX12_row 4 (some .int) ({ frames := 1, cells := 0, slots := 0, locals := 22 } : Room) D cy N q m0 a0 sz [.ref (q 69), .int p1, .int p2] (fun r m' a' => r = X0.1 ∧ m' 6918 = .int X0.2 ∧ (∀ j, nel j [6918] = false → m' j = m0 j) ∧ a' = a0) := by
  refine g_ofi (by decide) (Nat.le_of_ble_eq_true rfl) ?_
  intro p e s M args below meth c hx hb hr hG hown hin hlocks hml hW hS ls hl
  unfold fX12_row at hs0
  have hoff : ∀ j, nel j [6918] = false → m0 j = m0 j := off0
  have hJ31_0 : ∀ (v1j5 : Int32) (v2j5 : Int32) (s0j5 : Int32) (x69_18j5 : Int32) (m : Nat → Value) (H : Heap) (locs : List Loc) (w_x69_18 : m 6918 = .int x69_18j5) (hoff : ∀ j, nel j [6918] = false → m j = m0 j) (hsh : SH q m) (ls : Array Slot) (hl : lv_has ls 4 [(0, .ref (q 69)), (1, .int v1j5), (2, .int v2j5)]) (hs0 : fX12_row_J31 x69_9 x69_11 A72 A73 v1j5 v2j5 s0j5 x69_18j5 = some X0) (hW : GW D cy (gA N q s.heap.size) N q m a0 s H) (hS : va_S (gA N q s.heap.size) s.heap H locs), W p l e ({ frames := 1, cells := 0, slots := 0, locals := 22 } : Room) s M args below meth c H locs 0 0 (MQ below (va_Qi (fun (r : Int32) (u : (Nat → Value) × (Nat → vp_A)) => r = X0.1 ∧ u.1 6918 = .int X0.2 ∧ (∀ j, nel j [6918] = false → u.1 j = m0 j) ∧ u.2 = a0) (gB D cy N q s.heap.size) (gA N q s.heap.size)) args s 0 0 (gA N q s.heap.size)) (F0 M 31 ls [.int s0j5]) := by
    intro v1j5 v2j5 s0j5 x69_18j5 m H locs w_x69_18 hoff hsh ls hl hs0 hW hS
    unfold fX12_row_J31 at hs0
    refine lv_istore_n (lv' := [(3, .int s0j5), (0, .ref (q 69)), (1, .int v1j5), (2, .int v2j5)]) hx hb dX12_row_31 rfl hl (by decide) rfl (fun ls hl => ?_)
    refine lv_iload_n hx hb dX12_row_32 rfl (lv_at hl 3 rfl) ?_
    refine lv_iconst (v := (-1)) hx hb dX12_row_33 (by decide) ?_
    refine lv_icmp_ne (tgt := 39) hx hb dX12_row_34 (by decide) (fun c6 => ?_) (fun c6 => ?_)
    · rw [if_neg c6] at hs0
      refine lv_iload_n hx hb dX12_row_39 rfl (lv_at hl 3 rfl) ?_
      refine lv_iconst (v := 0) hx hb dX12_row_40 (by decide) ?_
      refine lv_iload_n hx hb dX12_row_41 rfl (lv_at hl 0 rfl) ?_
      refine lv_iconst (v := 1) hx hb dX12_row_42 (by decide) ?_
      refine lv_isub hx hb dX12_row_43 ?_
      refine g_SiR (n := 3) hx hb hml hown hG hW hS [.int v2j5, .int 0, .int (s0j5 - 1)] (kX12_within hN v2j5 0 (s0j5 - 1)) rfl (gd_S gx247 gx248 gx5 gx249) rfl rfl (by decide) ⟨Nat.le_of_ble_eq_true rfl, Nat.le_of_ble_eq_true rfl⟩ rfl hl (Nat.le_of_ble_eq_true rfl) ⟨Nat.zero_le _, Nat.zero_le _⟩ dX12_row_44 (fun H locs hW hS => ?_)
      refine lv_if_ne (tgt := 52) hx hb dX12_row_47 (by decide) (fun c8 => ?_) (fun c8 => ?_)
      · rw [if_neg c8] at hs0
        refine lv_iload_n hx hb dX12_row_52 rfl (lv_at hl 2 rfl) ?_
        refine lv_if_ne (tgt := 65) hx hb dX12_row_53 (by decide) (fun c9 => ?_) (fun c9 => ?_)
        · rw [if_neg c9] at hs0
          refine lv_aload_n hx hb dX12_row_65 rfl (lv_at hl 1 rfl) ?_
          refine gf12_10 hx hb hG hown hW (o := 69) (ltN hN 69 rfl) gk69 (v := .ref (q 73)) (sh69_10 hsh) gx169 dX12_row_66 ?_
          refine lv_iload_n hx hb dX12_row_69 rfl (lv_at hl 3 rfl) ?_
          obtain ⟨hi10, hs0⟩ := oif hs0
          refine g_iald hx hb hW (o := 73) (ltN hN 73 rfl) gk73 h_A73 (vin hi10) dX12_row_70 ?_
          have hs0 := Option.some.inj hs0
          subst hs0
          exact W.zret hx hb hr rfl (fun t ht hw => ⟨⟨_, (m, a0), rfl, ⟨rfl, w_x69_18, hoff, rfl⟩, g_end hW ht hw⟩, hS.F ht⟩) hS.2.2 dX12_row_71 hlocks
        · rw [if_pos c9] at hs0
          refine lv_aload_n hx hb dX12_row_56 rfl (lv_at hl 1 rfl) ?_
          refine gf12_8 hx hb hG hown hW (o := 69) (ltN hN 69 rfl) gk69 (v := .ref (q 72)) (sh69_8 hsh) gx168 dX12_row_57 ?_
          refine lv_iload_n hx hb dX12_row_60 rfl (lv_at hl 3 rfl) ?_
          obtain ⟨hi11, hs0⟩ := oif hs0
          refine g_iald hx hb hW (o := 72) (ltN hN 72 rfl) gk72 h_A72 (vin hi11) dX12_row_61 ?_
          refine lv_goto (tgt := 71) hx hb dX12_row_62 (by decide) ?_
          have hs0 := Option.some.inj hs0
          subst hs0
          exact W.zret hx hb hr rfl (fun t ht hw => ⟨⟨_, (m, a0), rfl, ⟨rfl, w_x69_18, hoff, rfl⟩, g_end hW ht hw⟩, hS.F ht⟩) hS.2.2 dX12_row_71 hlocks
      · rw [if_pos c8] at hs0
        refine lv_iconst (v := (-1)) hx hb dX12_row_50 (by decide) ?_
        have hs0 := Option.some.inj hs0
        subst hs0
        exact W.zret hx hb hr rfl (fun t ht hw => ⟨⟨_, (m, a0), rfl, ⟨rfl, w_x69_18, hoff, rfl⟩, g_end hW ht hw⟩, hS.F ht⟩) hS.2.2 dX12_row_51 hlocks
    · rw [if_pos c6] at hs0
      refine lv_iload_n hx hb dX12_row_37 rfl (lv_at hl 0 rfl) ?_
      have hs0 := Option.some.inj hs0
      subst hs0
      exact W.zret hx hb hr rfl (fun t ht hw => ⟨⟨_, (m, a0), rfl, ⟨rfl, w_x69_18, hoff, rfl⟩, g_end hW ht hw⟩, hS.F ht⟩) hS.2.2 dX12_row_38 hlocks
  refine lv_aload_n hx hb dX12_row_0 rfl (lv_at hl 0 rfl) ?_
  refine lv_iconst (v := 0) hx hb dX12_row_1 (by decide) ?_
  refine gp12_18 hx hb hG hown hW hS (o := 69) (ltN hN 69 rfl) gk69 (v := 0) gx246 dX12_row_2 (fun m1 H locs hm1 ho1 hW hS => ?_)
  have ho1 := off1 ho1
  have w_x69_18 : m1 6918 = .int 0 := hm1
  have hoff := offm hoff ho1 (by decide +kernel)
  have hsh := SH.off hsh ho1 (by decide +kernel)
  refine lv_iload_n hx hb dX12_row_5 rfl (lv_at hl 1 rfl) ?_
  refine lv_iconst (v := 0) hx hb dX12_row_6 (by decide) ?_
  refine lv_iconst (v := 1) hx hb dX12_row_7 (by decide) ?_
  refine g_SiR (n := 3) hx hb hml hown hG hW hS [.int p1, .int 0, .int 1] (kX12_within hN p1 0 1) rfl (gd_S gx247 gx248 gx5 gx249) rfl rfl (by decide) ⟨Nat.le_of_ble_eq_true rfl, Nat.le_of_ble_eq_true rfl⟩ rfl hl (Nat.le_of_ble_eq_true rfl) ⟨Nat.zero_le _, Nat.zero_le _⟩ dX12_row_8 (fun H locs hW hS => ?_)
  refine lv_if_ne (tgt := 16) hx hb dX12_row_11 (by decide) (fun c3 => ?_) (fun c3 => ?_)
  · rw [if_neg c3] at hs0
    refine lv_iload_n hx hb dX12_row_16 rfl (lv_at hl 1 rfl) ?_
    refine lv_if_ne (tgt := 27) hx hb dX12_row_17 (by decide) (fun c4 => ?_) (fun c4 => ?_)
    · rw [if_neg c4] at hs0
      refine lv_aload_n hx hb dX12_row_27 rfl (lv_at hl 0 rfl) ?_
      refine gf12_11 hx hb hG hown hW (o := 69) (ltN hN 69 rfl) gk69 (v := .int x69_11) ((hoff 6911 rfl).trans h_x69_11) gx256 dX12_row_28 ?_
      exact hJ31_0 p1 p2 x69_11 0 m1 _ _ w_x69_18 hoff hsh ls (lv_sub hl [0, 1, 2] rfl) hs0 hW hS
    · rw [if_pos c4] at hs0
      refine lv_aload_n hx hb dX12_row_20 rfl (lv_at hl 0 rfl) ?_
      refine gf12_9 hx hb hG hown hW (o := 69) (ltN hN 69 rfl) gk69 (v := .int x69_9) ((hoff 6909 rfl).trans h_x69_9) gx255 dX12_row_21 ?_
      refine lv_goto (tgt := 31) hx hb dX12_row_24 (by decide) ?_
      exact hJ31_0 p1 p2 x69_9 0 m1 _ _ w_x69_18 hoff hsh ls (lv_sub hl [0, 1, 2] rfl) hs0 hW hS
  · rw [if_pos c3] at hs0
    refine lv_iconst (v := (-1)) hx hb dX12_row_14 (by decide) ?_
    have hs0 := Option.some.inj hs0
    subst hs0
    exact W.zret hx hb hr rfl (fun t ht hw => ⟨⟨_, (m1, a0), rfl, ⟨rfl, w_x69_18, hoff, rfl⟩, g_end hW ht hw⟩, hS.F ht⟩) hS.2.2 dX12_row_15 hlocks
-- HealLinkModel.eight (J)V
def fX12_eight_S3 (F : Nat) (v1 : Int64) (v3 : Int32) (x69_17 : Int32) (A75 : Nat → Int32) : Option ((Int32 × (Nat → Int32)) ⊕ (Int32 × Int32 × (Nat → Int32))) := (if v3 < 0 then some (Sum.inl (x69_17, A75)) else (if inb x69_17 264 = true then some (Sum.inr (v3 + (-8), x69_17 + 1, upd A75 x69_17.toNatClampNeg (((v1 >>> (v3.toInt64 &&& 63)).toInt32) &&& (255 : Int32)))) else none))
def fX12_eight (F : Nat) (x69_17 : Int32) (A75 : Nat → Int32) (p1 : Int64) : Option (Int32 × (Nat → Int32)) := (gloop (fun u1 : (Int32 × Int32 × (Nat → Int32)) => fX12_eight_S3 F p1 u1.1 u1.2.1 u1.2.2) F (56, x69_17, A75)).bind (fun t1_40 => some (t1_40.1, t1_40.2))
theorem dX12_eight_0 : decode cX12_eight 0 = .ok (.bipush 56, 2) := by decide +kernel
theorem dX12_eight_2 : decode cX12_eight 2 = .ok (.istore_n 3, 1) := by decide +kernel
theorem dX12_eight_3 : decode cX12_eight 3 = .ok (.iload_n 3, 1) := by decide +kernel
theorem dX12_eight_4 : decode cX12_eight 4 = .ok (.ifCond .lt 36, 3) := by decide +kernel
theorem dX12_eight_7 : decode cX12_eight 7 = .ok (.aload_n 0, 1) := by decide +kernel
theorem dX12_eight_8 : decode cX12_eight 8 = .ok (.getfield 38, 3) := by decide +kernel
theorem dX12_eight_11 : decode cX12_eight 11 = .ok (.aload_n 0, 1) := by decide +kernel
theorem dX12_eight_12 : decode cX12_eight 12 = .ok (.getfield 247, 3) := by decide +kernel
theorem dX12_eight_15 : decode cX12_eight 15 = .ok (.lload_n 1, 1) := by decide +kernel
theorem dX12_eight_16 : decode cX12_eight 16 = .ok (.iload_n 3, 1) := by decide +kernel
theorem dX12_eight_17 : decode cX12_eight 17 = .ok (.lshr, 1) := by decide +kernel
theorem dX12_eight_18 : decode cX12_eight 18 = .ok (.l2i, 1) := by decide +kernel
theorem dX12_eight_19 : decode cX12_eight 19 = .ok (.sipush 255, 3) := by decide +kernel
theorem dX12_eight_22 : decode cX12_eight 22 = .ok (.iand, 1) := by decide +kernel
theorem dX12_eight_23 : decode cX12_eight 23 = .ok (.iastore, 1) := by decide +kernel
theorem dX12_eight_24 : decode cX12_eight 24 = .ok (.aload_n 0, 1) := by decide +kernel
theorem dX12_eight_25 : decode cX12_eight 25 = .ok (.dup, 1) := by decide +kernel
theorem dX12_eight_26 : decode cX12_eight 26 = .ok (.getfield 247, 3) := by decide +kernel
theorem dX12_eight_29 : decode cX12_eight 29 = .ok (.iconst 1, 1) := by decide +kernel
theorem dX12_eight_30 : decode cX12_eight 30 = .ok (.iadd, 1) := by decide +kernel
theorem dX12_eight_31 : decode cX12_eight 31 = .ok (.putfield 247, 3) := by decide +kernel
theorem dX12_eight_34 : decode cX12_eight 34 = .ok (.iinc 3 (-8), 3) := by decide +kernel
theorem dX12_eight_37 : decode cX12_eight 37 = .ok (.goto (-34), 3) := by decide +kernel
theorem dX12_eight_40 : decode cX12_eight 40 = .ok (.return_, 1) := by decide +kernel
set_option maxHeartbeats 4000000 in
set_option maxRecDepth 100000 in
theorem kX12_eight {l : Launch} {D : va_G} {cy : Nat → ClassId} {N : Nat} {q : Nat → Nat} {m0 : Nat → Value} {a0 : Nat → vp_A} {sz : Nat} (hN : 105 ≤ N) (hsh : SH q m0) {x69_17 : Int32} (h_x69_17 : m0 6917 = .int x69_17) {A75 : Nat → Int32} (h_A75 : a0 75 = (264, .inl A75)) (F : Nat) (p1 : Int64) {X0 : Int32 × (Nat → Int32)} (hs0 : fX12_eight F x69_17 A75 p1 = some X0) : gMv l yX12_eight cX12_eight 4 none ({ frames := 0, cells := 0, slots := 0, locals := 0 } : Room) D cy N q m0 a0 sz [.ref (q 69), .long p1] (fun m' a' => m' 6917 = .int X0.1 ∧ (∀ j, nel j [6917] = false → m' j = m0 j) ∧ a' 75 = (264, .inl X0.2) ∧ (∀ j, nel j [75] = false → a' j = a0 j)) := by
  refine g_ofv (by decide) (Nat.le_of_ble_eq_true rfl) ?_
  intro p e s M args below meth c hx hb hr hG hown hin hlocks hml hW hS ls hl
  unfold fX12_eight at hs0
  have hoff : ∀ j, nel j [6917] = false → m0 j = m0 j := off0
  have hoffa : ∀ j, nel j [75] = false → a0 j = a0 j := off0
  refine lv_bipush (v := 56) hx hb dX12_eight_0 (by decide) ?_
  refine lv_istore_n (lv' := [(3, .int 56), (0, .ref (q 69)), (1, .long p1)]) hx hb dX12_eight_2 rfl hl (by decide) rfl (fun ls hl => ?_)
  obtain ⟨r1, hg1, hs0⟩ := obind hs0
  have hE1_40 : ∀ (t1_40 : Int32 × (Nat → Int32)) (hr1 : t1_40 = r1) (m : Nat → Value) (a : Nat → vp_A) (H : Heap) (locs : List Loc) (w_x69_17 : m 6917 = .int t1_40.1) (hoff : ∀ j, nel j [6917] = false → m j = m0 j) (hsh : SH q m) (w_A75 : a 75 = (264, .inl t1_40.2)) (hoffa : ∀ j, nel j [75] = false → a j = a0 j) (ls : Array Slot) (hl : lv_has ls 4 []) (hW : GW D cy (gA N q s.heap.size) N q m a s H) (hS : va_S (gA N q s.heap.size) s.heap H locs), W p l e ({ frames := 0, cells := 0, slots := 0, locals := 0 } : Room) s M args below meth c H locs 0 0 (MQ below (va_Qv (fun (u : (Nat → Value) × (Nat → vp_A)) => u.1 6917 = .int X0.1 ∧ (∀ j, nel j [6917] = false → u.1 j = m0 j) ∧ u.2 75 = (264, .inl X0.2) ∧ (∀ j, nel j [75] = false → u.2 j = a0 j)) (gB D cy N q s.heap.size) (gA N q s.heap.size)) args s 0 0 (gA N q s.heap.size)) (F0 M 40 ls []) := by
    intro t1_40 hr1 m a H locs w_x69_17 hoff hsh w_A75 hoffa ls hl hW hS
    subst hr1
    have hs0 := Option.some.inj hs0
    subst hs0
    exact W.vret hx hb hr (fun t ht hw => ⟨⟨(m, a), rfl, ⟨w_x69_17, hoff, w_A75, hoffa⟩, g_end hW ht hw⟩, hS.F ht⟩) hS.2.2 dX12_eight_40 hlocks
  have hL1 : ∀ (n : Nat) (v3k1 : Int32) (x69_17k1 : Int32) (A75k1 : Nat → Int32) (m : Nat → Value) (a : Nat → vp_A) (H : Heap) (locs : List Loc) (w_x69_17 : m 6917 = .int x69_17k1) (hoff : ∀ j, nel j [6917] = false → m j = m0 j) (hsh : SH q m) (w_A75 : a 75 = (264, .inl A75k1)) (hoffa : ∀ j, nel j [75] = false → a j = a0 j) (ls : Array Slot) (hl : lv_has ls 4 [(0, .ref (q 69)), (1, .long p1), (3, .int v3k1)]) (hg1 : gloop (fun u1 : (Int32 × Int32 × (Nat → Int32)) => fX12_eight_S3 F p1 u1.1 u1.2.1 u1.2.2) n (v3k1, x69_17k1, A75k1) = some r1) (hW : GW D cy (gA N q s.heap.size) N q m a s H) (hS : va_S (gA N q s.heap.size) s.heap H locs), W p l e ({ frames := 0, cells := 0, slots := 0, locals := 0 } : Room) s M args below meth c H locs 0 0 (MQ below (va_Qv (fun (u : (Nat → Value) × (Nat → vp_A)) => u.1 6917 = .int X0.1 ∧ (∀ j, nel j [6917] = false → u.1 j = m0 j) ∧ u.2 75 = (264, .inl X0.2) ∧ (∀ j, nel j [75] = false → u.2 j = a0 j)) (gB D cy N q s.heap.size) (gA N q s.heap.size)) args s 0 0 (gA N q s.heap.size)) (F0 M 3 ls []) := by
    intro n
    induction n with
    | zero => intro v3k1 x69_17k1 A75k1 m a H locs w_x69_17 hoff hsh w_A75 hoffa ls hl hg1 hW hS; exact (gl_zero hg1).elim
    | succ n ih1 =>
      intro v3k1 x69_17k1 A75k1 m a H locs w_x69_17 hoff hsh w_A75 hoffa ls hl hg1 hW hS
      obtain ⟨X1, hs1, hXl1, hXr1⟩ := gl_succ hg1
      have hs1 : fX12_eight_S3 F p1 v3k1 x69_17k1 A75k1 = some X1 := hs1
      unfold fX12_eight_S3 at hs1
      refine lv_iload_n hx hb dX12_eight_3 rfl (lv_at hl 2 rfl) ?_
      refine lv_if_lt (tgt := 40) hx hb dX12_eight_4 (by decide) (fun c6 => ?_) (fun c6 => ?_)
      · rw [if_pos c6] at hs1
        exact hE1_40 (x69_17k1, A75k1) (hXl1 _ (Option.some.inj hs1).symm) m a _ _ w_x69_17 hoff hsh w_A75 hoffa ls (lv_sub hl [] rfl) hW hS
      · rw [if_neg c6] at hs1
        refine lv_aload_n hx hb dX12_eight_7 rfl (lv_at hl 0 rfl) ?_
        refine gf12_16 hx hb hG hown hW (o := 69) (ltN hN 69 rfl) gk69 (v := .ref (q 75)) (sh69_16 hsh) gx171 dX12_eight_8 ?_
        refine lv_aload_n hx hb dX12_eight_11 rfl (lv_at hl 0 rfl) ?_
        refine gf12_17 hx hb hG hown hW (o := 69) (ltN hN 69 rfl) gk69 (v := .int x69_17k1) w_x69_17 gx600 dX12_eight_12 ?_
        refine lv_lload_n hx hb dX12_eight_15 rfl (lv_at hl 1 rfl) ?_
        refine lv_iload_n hx hb dX12_eight_16 rfl (lv_at hl 2 rfl) ?_
        refine lv_lshr hx hb dX12_eight_17 rfl ?_
        refine lv_l2i hx hb dX12_eight_18 rfl ?_
        refine lv_sipush (v := 255) hx hb dX12_eight_19 (by decide) ?_
        refine lv_iand hx hb dX12_eight_22 ?_
        obtain ⟨hi7, hs1⟩ := oif hs1
        refine g_iast hx hb hW hS (o := 75) (ltN hN 75 rfl) gk75 w_A75 (vin hi7) dX12_eight_23 (fun a8 H locs ha8 ho8 hW hS => ?_)
        have ho8 := off1 ho8
        have w_A75 : a8 75 = (264, .inl (upd A75k1 x69_17k1.toNatClampNeg (((p1 >>> (v3k1.toInt64 &&& 63)).toInt32) &&& (255 : Int32)))) := ha8
        have hoffa := offm hoffa ho8 (by decide +kernel)
        refine lv_aload_n hx hb dX12_eight_24 rfl (lv_at hl 0 rfl) ?_
        refine lv_dup hx hb dX12_eight_25 rfl ?_
        refine gf12_17 hx hb hG hown hW (o := 69) (ltN hN 69 rfl) gk69 (v := .int x69_17k1) w_x69_17 gx600 dX12_eight_26 ?_
        refine lv_iconst (v := 1) hx hb dX12_eight_29 (by decide) ?_
        refine lv_iadd hx hb dX12_eight_30 ?_
        refine gp12_17 hx hb hG hown hW hS (o := 69) (ltN hN 69 rfl) gk69 (v := (x69_17k1 + 1)) gx600 dX12_eight_31 (fun m9 H locs hm9 ho9 hW hS => ?_)
        have ho9 := off1 ho9
        have w_x69_17 : m9 6917 = .int (x69_17k1 + 1) := hm9
        have hoff := offm hoff ho9 (by decide +kernel)
        have hsh := SH.off hsh ho9 (by decide +kernel)
        refine lv_iinc (v := v3k1 + (-8)) (lv' := [(3, .int (v3k1 + (-8))), (0, .ref (q 69)), (1, .long p1)]) hx hb dX12_eight_34 hl (k := 2) rfl (congrArg (fun z => v3k1 + z) (by decide : Int32.ofInt (-8) = (-8))) (by decide) rfl (fun ls hl => ?_)
        refine lv_goto (tgt := 3) hx hb dX12_eight_37 (by decide) ?_
        exact ih1 (v3k1 + (-8)) (x69_17k1 + 1) (upd A75k1 x69_17k1.toNatClampNeg (((p1 >>> (v3k1.toInt64 &&& 63)).toInt32) &&& (255 : Int32))) m9 a8 _ _ w_x69_17 hoff hsh w_A75 hoffa ls (lv_sub hl [1, 2, 0] rfl) (hXr1 _ (Option.some.inj hs1).symm) hW hS
  exact hL1 F 56 x69_17 A75 m0 a0 _ _ h_x69_17 hoff hsh h_A75 hoffa ls (lv_sub hl [1, 2, 0] rfl) hg1 hW hS
-- HealLinkModel.feed (JJJ)I
def fX12_feed (F : Nat) (x69_17 : Int32) (x69_18 : Int32) (A75 : Nat → Int32) (p1 : Int64) (p3 : Int64) (p5 : Int64) : Option (Int32 × Int32 × Int32 × (Nat → Int32)) := (if (x69_17 + 24) ≤ 264 then ((fX12_eight F x69_17 A75 p1).bind (fun r3 => ((fX12_eight F r3.1 r3.2 p3).bind (fun r4 => ((fX12_eight F r4.1 r4.2 p5).bind (fun r5 => some (r5.1, r5.1, 0, r5.2))))))) else some ((-1), x69_17, 0, A75))
theorem dX12_feed_0 : decode cX12_feed 0 = .ok (.aload_n 0, 1) := by decide +kernel
theorem dX12_feed_1 : decode cX12_feed 1 = .ok (.iconst 0, 1) := by decide +kernel
theorem dX12_feed_2 : decode cX12_feed 2 = .ok (.putfield 137, 3) := by decide +kernel
theorem dX12_feed_5 : decode cX12_feed 5 = .ok (.aload_n 0, 1) := by decide +kernel
theorem dX12_feed_6 : decode cX12_feed 6 = .ok (.getfield 247, 3) := by decide +kernel
theorem dX12_feed_9 : decode cX12_feed 9 = .ok (.bipush 24, 2) := by decide +kernel
theorem dX12_feed_11 : decode cX12_feed 11 = .ok (.iadd, 1) := by decide +kernel
theorem dX12_feed_12 : decode cX12_feed 12 = .ok (.sipush 264, 3) := by decide +kernel
theorem dX12_feed_15 : decode cX12_feed 15 = .ok (.if_icmp .le 5, 3) := by decide +kernel
theorem dX12_feed_18 : decode cX12_feed 18 = .ok (.iconst (-1), 1) := by decide +kernel
theorem dX12_feed_19 : decode cX12_feed 19 = .ok (.ireturn, 1) := by decide +kernel
theorem dX12_feed_20 : decode cX12_feed 20 = .ok (.aload_n 0, 1) := by decide +kernel
theorem dX12_feed_21 : decode cX12_feed 21 = .ok (.lload_n 1, 1) := by decide +kernel
theorem dX12_feed_22 : decode cX12_feed 22 = .ok (.invokevirtual 350, 3) := by decide +kernel
theorem dX12_feed_25 : decode cX12_feed 25 = .ok (.aload_n 0, 1) := by decide +kernel
theorem dX12_feed_26 : decode cX12_feed 26 = .ok (.lload_n 3, 1) := by decide +kernel
theorem dX12_feed_27 : decode cX12_feed 27 = .ok (.invokevirtual 350, 3) := by decide +kernel
theorem dX12_feed_30 : decode cX12_feed 30 = .ok (.aload_n 0, 1) := by decide +kernel
theorem dX12_feed_31 : decode cX12_feed 31 = .ok (.lload 5, 2) := by decide +kernel
theorem dX12_feed_33 : decode cX12_feed 33 = .ok (.invokevirtual 350, 3) := by decide +kernel
theorem dX12_feed_36 : decode cX12_feed 36 = .ok (.aload_n 0, 1) := by decide +kernel
theorem dX12_feed_37 : decode cX12_feed 37 = .ok (.getfield 247, 3) := by decide +kernel
theorem dX12_feed_40 : decode cX12_feed 40 = .ok (.ireturn, 1) := by decide +kernel
set_option maxHeartbeats 4000000 in
set_option maxRecDepth 100000 in
theorem kX12_feed {l : Launch} {D : va_G} {cy : Nat → ClassId} {N : Nat} {q : Nat → Nat} {m0 : Nat → Value} {a0 : Nat → vp_A} {sz : Nat} (hN : 105 ≤ N) (hsh : SH q m0) {x69_17 : Int32} (h_x69_17 : m0 6917 = .int x69_17) {x69_18 : Int32} (h_x69_18 : m0 6918 = .int x69_18) {A75 : Nat → Int32} (h_A75 : a0 75 = (264, .inl A75)) (F : Nat) (p1 : Int64) (p3 : Int64) (p5 : Int64) {X0 : Int32 × Int32 × Int32 × (Nat → Int32)} (hs0 : fX12_feed F x69_17 x69_18 A75 p1 p3 p5 = some X0) : gMi l yX12_feed cX12_feed 7 (some .int) ({ frames := 1, cells := 0, slots := 0, locals := 23 } : Room) D cy N q m0 a0 sz [.ref (q 69), .long p1, .long p3, .long p5] (fun r m' a' => r = X0.1 ∧ m' 6917 = .int X0.2.1 ∧ m' 6918 = .int X0.2.2.1 ∧ (∀ j, nel j [6917, 6918] = false → m' j = m0 j) ∧ a' 75 = (264, .inl X0.2.2.2) ∧ (∀ j, nel j [75] = false → a' j = a0 j)) := by
  refine g_ofi (by decide) (Nat.le_of_ble_eq_true rfl) ?_
  intro p e s M args below meth c hx hb hr hG hown hin hlocks hml hW hS ls hl
  unfold fX12_feed at hs0
  have hoff : ∀ j, nel j [6917, 6918] = false → m0 j = m0 j := off0
  have hoffa : ∀ j, nel j [75] = false → a0 j = a0 j := off0
  refine lv_aload_n hx hb dX12_feed_0 rfl (lv_at hl 0 rfl) ?_
  refine lv_iconst (v := 0) hx hb dX12_feed_1 (by decide) ?_
  refine gp12_18 hx hb hG hown hW hS (o := 69) (ltN hN 69 rfl) gk69 (v := 0) gx246 dX12_feed_2 (fun m1 H locs hm1 ho1 hW hS => ?_)
  have ho1 := off1 ho1
  have w_x69_17 : m1 6917 = .int x69_17 := (ho1 6917 rfl).trans h_x69_17
  have w_x69_18 : m1 6918 = .int 0 := hm1
  have hoff := offm hoff ho1 (by decide +kernel)
  have hsh := SH.off hsh ho1 (by decide +kernel)
  refine lv_aload_n hx hb dX12_feed_5 rfl (lv_at hl 0 rfl) ?_
  refine gf12_17 hx hb hG hown hW (o := 69) (ltN hN 69 rfl) gk69 (v := .int x69_17) w_x69_17 gx600 dX12_feed_6 ?_
  refine lv_bipush (v := 24) hx hb dX12_feed_9 (by decide) ?_
  refine lv_iadd hx hb dX12_feed_11 ?_
  refine lv_sipush (v := 264) hx hb dX12_feed_12 (by decide) ?_
  refine lv_icmp_le (tgt := 20) hx hb dX12_feed_15 (by decide) (fun c2 => ?_) (fun c2 => ?_)
  · rw [if_pos c2] at hs0
    refine lv_aload_n hx hb dX12_feed_20 rfl (lv_at hl 0 rfl) ?_
    refine lv_lload_n hx hb dX12_feed_21 rfl (lv_at hl 1 rfl) ?_
    obtain ⟨r3, hf3, hs0⟩ := obind hs0
    refine g_Vv (n := 1) hx hb hml hown hG hW hS [.long p1] (kX12_eight hN hsh w_x69_17 h_A75 F p1 hf3) (ltN hN 69 rfl) gk69 (by decide) rfl rfl (gd_V gx1120 gx1121 gx1122 gx5 gx1123) rfl rfl (by decide) ⟨Nat.le_of_ble_eq_true rfl, Nat.le_of_ble_eq_true rfl⟩ rfl hl (Nat.le_of_ble_eq_true rfl) ⟨Nat.zero_le _, Nat.zero_le _⟩ dX12_feed_22 (fun m3 a3 H locs hp3 hW hS => ?_)
    obtain ⟨hp3_x69_17, ho3, hp3_A75, hoa3⟩ := hp3
    have w_x69_17 : m3 6917 = .int r3.1 := hp3_x69_17
    have w_x69_18 : m3 6918 = .int 0 := (ho3 6918 rfl).trans w_x69_18
    have hoff := offm hoff ho3 (by decide +kernel)
    have hsh := SH.off hsh ho3 (by decide +kernel)
    have w_A75 : a3 75 = (264, .inl r3.2) := hp3_A75
    have hoffa := offm hoffa hoa3 (by decide +kernel)
    refine lv_aload_n hx hb dX12_feed_25 rfl (lv_at hl 0 rfl) ?_
    refine lv_lload_n hx hb dX12_feed_26 rfl (lv_at hl 2 rfl) ?_
    obtain ⟨r4, hf4, hs0⟩ := obind hs0
    refine g_Vv (n := 1) hx hb hml hown hG hW hS [.long p3] (kX12_eight hN hsh w_x69_17 w_A75 F p3 hf4) (ltN hN 69 rfl) gk69 (by decide) rfl rfl (gd_V gx1120 gx1121 gx1122 gx5 gx1123) rfl rfl (by decide) ⟨Nat.le_of_ble_eq_true rfl, Nat.le_of_ble_eq_true rfl⟩ rfl hl (Nat.le_of_ble_eq_true rfl) ⟨Nat.zero_le _, Nat.zero_le _⟩ dX12_feed_27 (fun m4 a4 H locs hp4 hW hS => ?_)
    obtain ⟨hp4_x69_17, ho4, hp4_A75, hoa4⟩ := hp4
    have w_x69_17 : m4 6917 = .int r4.1 := hp4_x69_17
    have w_x69_18 : m4 6918 = .int 0 := (ho4 6918 rfl).trans w_x69_18
    have hoff := offm hoff ho4 (by decide +kernel)
    have hsh := SH.off hsh ho4 (by decide +kernel)
    have w_A75 : a4 75 = (264, .inl r4.2) := hp4_A75
    have hoffa := offm hoffa hoa4 (by decide +kernel)
    refine lv_aload_n hx hb dX12_feed_30 rfl (lv_at hl 0 rfl) ?_
    refine lv_lload hx hb dX12_feed_31 (lv_at hl 3 rfl) ?_
    obtain ⟨r5, hf5, hs0⟩ := obind hs0
    refine g_Vv (n := 1) hx hb hml hown hG hW hS [.long p5] (kX12_eight hN hsh w_x69_17 w_A75 F p5 hf5) (ltN hN 69 rfl) gk69 (by decide) rfl rfl (gd_V gx1120 gx1121 gx1122 gx5 gx1123) rfl rfl (by decide) ⟨Nat.le_of_ble_eq_true rfl, Nat.le_of_ble_eq_true rfl⟩ rfl hl (Nat.le_of_ble_eq_true rfl) ⟨Nat.zero_le _, Nat.zero_le _⟩ dX12_feed_33 (fun m5 a5 H locs hp5 hW hS => ?_)
    obtain ⟨hp5_x69_17, ho5, hp5_A75, hoa5⟩ := hp5
    have w_x69_17 : m5 6917 = .int r5.1 := hp5_x69_17
    have w_x69_18 : m5 6918 = .int 0 := (ho5 6918 rfl).trans w_x69_18
    have hoff := offm hoff ho5 (by decide +kernel)
    have hsh := SH.off hsh ho5 (by decide +kernel)
    have w_A75 : a5 75 = (264, .inl r5.2) := hp5_A75
    have hoffa := offm hoffa hoa5 (by decide +kernel)
    refine lv_aload_n hx hb dX12_feed_36 rfl (lv_at hl 0 rfl) ?_
    refine gf12_17 hx hb hG hown hW (o := 69) (ltN hN 69 rfl) gk69 (v := .int r5.1) w_x69_17 gx600 dX12_feed_37 ?_
    have hs0 := Option.some.inj hs0
    subst hs0
    exact W.zret hx hb hr rfl (fun t ht hw => ⟨⟨_, (m5, a5), rfl, ⟨rfl, w_x69_17, w_x69_18, hoff, w_A75, hoffa⟩, g_end hW ht hw⟩, hS.F ht⟩) hS.2.2 dX12_feed_40 hlocks
  · rw [if_neg c2] at hs0
    refine lv_iconst (v := (-1)) hx hb dX12_feed_18 (by decide) ?_
    have hs0 := Option.some.inj hs0
    subst hs0
    exact W.zret hx hb hr rfl (fun t ht hw => ⟨⟨_, (m1, a0), rfl, ⟨rfl, w_x69_17, w_x69_18, hoff, h_A75, hoffa⟩, g_end hW ht hw⟩, hS.F ht⟩) hS.2.2 dX12_feed_19 hlocks
-- HealLinkModel.end (I)I
def fX12_end (x69_17 : Int32) (x69_18 : Int32) (p1 : Int32) : Int32 × Int32 × Int32 := (if (fX12_within p1 0 x69_17) = 0 then ((-1), x69_17, 0) else (p1, p1, 0))
theorem dX12_end_0 : decode cX12_end 0 = .ok (.aload_n 0, 1) := by decide +kernel
theorem dX12_end_1 : decode cX12_end 1 = .ok (.iconst 0, 1) := by decide +kernel
theorem dX12_end_2 : decode cX12_end 2 = .ok (.putfield 137, 3) := by decide +kernel
theorem dX12_end_5 : decode cX12_end 5 = .ok (.iload_n 1, 1) := by decide +kernel
theorem dX12_end_6 : decode cX12_end 6 = .ok (.iconst 0, 1) := by decide +kernel
theorem dX12_end_7 : decode cX12_end 7 = .ok (.aload_n 0, 1) := by decide +kernel
theorem dX12_end_8 : decode cX12_end 8 = .ok (.getfield 247, 3) := by decide +kernel
theorem dX12_end_11 : decode cX12_end 11 = .ok (.invokestatic 159, 3) := by decide +kernel
theorem dX12_end_14 : decode cX12_end 14 = .ok (.ifCond .ne 5, 3) := by decide +kernel
theorem dX12_end_17 : decode cX12_end 17 = .ok (.iconst (-1), 1) := by decide +kernel
theorem dX12_end_18 : decode cX12_end 18 = .ok (.ireturn, 1) := by decide +kernel
theorem dX12_end_19 : decode cX12_end 19 = .ok (.aload_n 0, 1) := by decide +kernel
theorem dX12_end_20 : decode cX12_end 20 = .ok (.iload_n 1, 1) := by decide +kernel
theorem dX12_end_21 : decode cX12_end 21 = .ok (.putfield 247, 3) := by decide +kernel
theorem dX12_end_24 : decode cX12_end 24 = .ok (.iload_n 1, 1) := by decide +kernel
theorem dX12_end_25 : decode cX12_end 25 = .ok (.ireturn, 1) := by decide +kernel
set_option maxHeartbeats 4000000 in
set_option maxRecDepth 100000 in
theorem kX12_end {l : Launch} {D : va_G} {cy : Nat → ClassId} {N : Nat} {q : Nat → Nat} {m0 : Nat → Value} {a0 : Nat → vp_A} {sz : Nat} (hN : 105 ≤ N) (hsh : SH q m0) {x69_17 : Int32} (h_x69_17 : m0 6917 = .int x69_17) {x69_18 : Int32} (h_x69_18 : m0 6918 = .int x69_18) (p1 : Int32) : gMi l yX12_end cX12_end 2 (some .int) ({ frames := 1, cells := 0, slots := 0, locals := 22 } : Room) D cy N q m0 a0 sz [.ref (q 69), .int p1] (fun r m' a' => r = (fX12_end x69_17 x69_18 p1).1 ∧ m' 6917 = .int ((fX12_end x69_17 x69_18 p1).2.1) ∧ m' 6918 = .int ((fX12_end x69_17 x69_18 p1).2.2) ∧ (∀ j, nel j [6917, 6918] = false → m' j = m0 j) ∧ a' = a0) := by
  generalize hs0 : fX12_end x69_17 x69_18 p1 = X0
  refine g_ofi (by decide) (Nat.le_of_ble_eq_true rfl) ?_
  intro p e s M args below meth c hx hb hr hG hown hin hlocks hml hW hS ls hl
  unfold fX12_end at hs0
  have hoff : ∀ j, nel j [6917, 6918] = false → m0 j = m0 j := off0
  refine lv_aload_n hx hb dX12_end_0 rfl (lv_at hl 0 rfl) ?_
  refine lv_iconst (v := 0) hx hb dX12_end_1 (by decide) ?_
  refine gp12_18 hx hb hG hown hW hS (o := 69) (ltN hN 69 rfl) gk69 (v := 0) gx246 dX12_end_2 (fun m1 H locs hm1 ho1 hW hS => ?_)
  have ho1 := off1 ho1
  have w_x69_17 : m1 6917 = .int x69_17 := (ho1 6917 rfl).trans h_x69_17
  have w_x69_18 : m1 6918 = .int 0 := hm1
  have hoff := offm hoff ho1 (by decide +kernel)
  have hsh := SH.off hsh ho1 (by decide +kernel)
  refine lv_iload_n hx hb dX12_end_5 rfl (lv_at hl 1 rfl) ?_
  refine lv_iconst (v := 0) hx hb dX12_end_6 (by decide) ?_
  refine lv_aload_n hx hb dX12_end_7 rfl (lv_at hl 0 rfl) ?_
  refine gf12_17 hx hb hG hown hW (o := 69) (ltN hN 69 rfl) gk69 (v := .int x69_17) w_x69_17 gx600 dX12_end_8 ?_
  refine g_SiR (n := 3) hx hb hml hown hG hW hS [.int p1, .int 0, .int x69_17] (kX12_within hN p1 0 x69_17) rfl (gd_S gx247 gx248 gx5 gx249) rfl rfl (by decide) ⟨Nat.le_of_ble_eq_true rfl, Nat.le_of_ble_eq_true rfl⟩ rfl hl (Nat.le_of_ble_eq_true rfl) ⟨Nat.zero_le _, Nat.zero_le _⟩ dX12_end_11 (fun H locs hW hS => ?_)
  refine lv_if_ne (tgt := 19) hx hb dX12_end_14 (by decide) (fun c3 => ?_) (fun c3 => ?_)
  · rw [if_neg c3] at hs0
    refine lv_aload_n hx hb dX12_end_19 rfl (lv_at hl 0 rfl) ?_
    refine lv_iload_n hx hb dX12_end_20 rfl (lv_at hl 1 rfl) ?_
    refine gp12_17 hx hb hG hown hW hS (o := 69) (ltN hN 69 rfl) gk69 (v := p1) gx600 dX12_end_21 (fun m4 H locs hm4 ho4 hW hS => ?_)
    have ho4 := off1 ho4
    have w_x69_17 : m4 6917 = .int p1 := hm4
    have w_x69_18 : m4 6918 = .int 0 := (ho4 6918 rfl).trans w_x69_18
    have hoff := offm hoff ho4 (by decide +kernel)
    have hsh := SH.off hsh ho4 (by decide +kernel)
    refine lv_iload_n hx hb dX12_end_24 rfl (lv_at hl 1 rfl) ?_
    subst hs0
    exact W.zret hx hb hr rfl (fun t ht hw => ⟨⟨_, (m4, a0), rfl, ⟨rfl, w_x69_17, w_x69_18, hoff, rfl⟩, g_end hW ht hw⟩, hS.F ht⟩) hS.2.2 dX12_end_25 hlocks
  · rw [if_pos c3] at hs0
    refine lv_iconst (v := (-1)) hx hb dX12_end_17 (by decide) ?_
    subst hs0
    exact W.zret hx hb hr rfl (fun t ht hw => ⟨⟨_, (m1, a0), rfl, ⟨rfl, w_x69_17, w_x69_18, hoff, rfl⟩, g_end hW ht hw⟩, hS.F ht⟩) hS.2.2 dX12_end_18 hlocks
-- HealLinkModel.byteAt (I)I
def fX12_byteAt (x69_57 : Int32) (A75 : Nat → Int32) (p1 : Int32) : Option (Int32) := (if x69_57 ≤ p1 then some (-1) else (if inb p1 264 = true then some (A75 p1.toNatClampNeg) else none))
theorem dX12_byteAt_0 : decode cX12_byteAt 0 = .ok (.iload_n 1, 1) := by decide +kernel
theorem dX12_byteAt_1 : decode cX12_byteAt 1 = .ok (.aload_n 0, 1) := by decide +kernel
theorem dX12_byteAt_2 : decode cX12_byteAt 2 = .ok (.getfield 353, 3) := by decide +kernel
theorem dX12_byteAt_5 : decode cX12_byteAt 5 = .ok (.if_icmp .ge 12, 3) := by decide +kernel
theorem dX12_byteAt_8 : decode cX12_byteAt 8 = .ok (.aload_n 0, 1) := by decide +kernel
theorem dX12_byteAt_9 : decode cX12_byteAt 9 = .ok (.getfield 38, 3) := by decide +kernel
theorem dX12_byteAt_12 : decode cX12_byteAt 12 = .ok (.iload_n 1, 1) := by decide +kernel
theorem dX12_byteAt_13 : decode cX12_byteAt 13 = .ok (.iaload, 1) := by decide +kernel
theorem dX12_byteAt_14 : decode cX12_byteAt 14 = .ok (.goto 4, 3) := by decide +kernel
theorem dX12_byteAt_17 : decode cX12_byteAt 17 = .ok (.iconst (-1), 1) := by decide +kernel
theorem dX12_byteAt_18 : decode cX12_byteAt 18 = .ok (.ireturn, 1) := by decide +kernel
set_option maxHeartbeats 4000000 in
set_option maxRecDepth 100000 in
theorem kX12_byteAt {l : Launch} {D : va_G} {cy : Nat → ClassId} {N : Nat} {q : Nat → Nat} {m0 : Nat → Value} {a0 : Nat → vp_A} {sz : Nat} (hN : 105 ≤ N) (hsh : SH q m0) {x69_57 : Int32} (h_x69_57 : m0 6957 = .int x69_57) {A75 : Nat → Int32} (h_A75 : a0 75 = (264, .inl A75)) (p1 : Int32) {X0 : Int32} (hs0 : fX12_byteAt x69_57 A75 p1 = some X0) : gMi l yX12_byteAt cX12_byteAt 2 (some .int) ({ frames := 0, cells := 0, slots := 0, locals := 0 } : Room) D cy N q m0 a0 sz [.ref (q 69), .int p1] (fun r m' a' => r = X0 ∧ m' = m0 ∧ a' = a0) := by
  refine g_ofi (by decide) (Nat.le_of_ble_eq_true rfl) ?_
  intro p e s M args below meth c hx hb hr hG hown hin hlocks hml hW hS ls hl
  unfold fX12_byteAt at hs0
  refine lv_iload_n hx hb dX12_byteAt_0 rfl (lv_at hl 1 rfl) ?_
  refine lv_aload_n hx hb dX12_byteAt_1 rfl (lv_at hl 0 rfl) ?_
  refine gf12_57 hx hb hG hown hW (o := 69) (ltN hN 69 rfl) gk69 (v := .int x69_57) h_x69_57 gx1304 dX12_byteAt_2 ?_
  refine lv_icmp_ge (tgt := 17) hx hb dX12_byteAt_5 (by decide) (fun c1 => ?_) (fun c1 => ?_)
  · rw [if_pos c1] at hs0
    refine lv_iconst (v := (-1)) hx hb dX12_byteAt_17 (by decide) ?_
    have hs0 := Option.some.inj hs0
    subst hs0
    exact W.zret hx hb hr rfl (fun t ht hw => ⟨⟨_, (m0, a0), rfl, ⟨rfl, rfl, rfl⟩, g_end hW ht hw⟩, hS.F ht⟩) hS.2.2 dX12_byteAt_18 hlocks
  · rw [if_neg c1] at hs0
    refine lv_aload_n hx hb dX12_byteAt_8 rfl (lv_at hl 0 rfl) ?_
    refine gf12_16 hx hb hG hown hW (o := 69) (ltN hN 69 rfl) gk69 (v := .ref (q 75)) (sh69_16 hsh) gx171 dX12_byteAt_9 ?_
    refine lv_iload_n hx hb dX12_byteAt_12 rfl (lv_at hl 1 rfl) ?_
    obtain ⟨hi2, hs0⟩ := oif hs0
    refine g_iald hx hb hW (o := 75) (ltN hN 75 rfl) gk75 h_A75 (vin hi2) dX12_byteAt_13 ?_
    refine lv_goto (tgt := 18) hx hb dX12_byteAt_14 (by decide) ?_
    have hs0 := Option.some.inj hs0
    subst hs0
    exact W.zret hx hb hr rfl (fun t ht hw => ⟨⟨_, (m0, a0), rfl, ⟨rfl, rfl, rfl⟩, g_end hW ht hw⟩, hS.F ht⟩) hS.2.2 dX12_byteAt_18 hlocks
-- HealLinkModel.next ()V
def fX12_next_S13 (F : Nat) (x69_57 : Int32) (x69_63 : Int32) (A75 : Nat → Int32) (x69_58 : Int32) (x69_59 : Int32) (x69_60 : Int32) (x69_61 : Int64) (x69_62 : Int32) (v1 : Int32) : Option ((Int32) ⊕ (Int32)) := ((fX12_byteAt x69_57 A75 v1).bind (fun r3 => (if r3 = 32 then some (Sum.inr (v1 + 1)) else some (Sum.inl v1))))
def fX12_next_J228 (F : Nat) (x69_57 : Int32) (x69_63 : Int32) (A75 : Nat → Int32) (v1 : Int32) (s0j27 : Int32) (x69_58 : Int32) (x69_59j27 : Int32) (x69_60 : Int32) (x69_61 : Int64) (x69_62j27 : Int32) : Option ((Int32 × Int32) ⊕ (Int32 × Int32)) := some (Sum.inr (x69_59j27 + 1, s0j27))
def fX12_next_S178 (F : Nat) (x69_57 : Int32) (x69_63 : Int32) (A75 : Nat → Int32) (v1 : Int32) (x69_58 : Int32) (x69_60 : Int32) (x69_61 : Int64) (x69_59 : Int32) (x69_62 : Int32) : Option ((Int32 × Int32) ⊕ (Int32 × Int32)) := ((fX12_byteAt x69_57 A75 x69_59).bind (fun r23 => (if (fX12_isDigit r23) = 0 then some (Sum.inl (x69_59, x69_62)) else (if 2 ≤ (x69_59 - v1) then fX12_next_J228 F x69_57 x69_63 A75 v1 1000 x69_58 x69_59 x69_60 x69_61 x69_62 else ((fX12_byteAt x69_57 A75 x69_59).bind (fun r28 => fX12_next_J228 F x69_57 x69_63 A75 v1 (((10 * x69_62) + r28) - 48) x69_58 x69_59 x69_60 x69_61 x69_62))))))
def fX12_next_J145 (F : Nat) (x69_57 : Int32) (x69_63 : Int32) (A75 : Nat → Int32) (v1 : Int32) (s0j46 : Int64) (x69_58 : Int32) (x69_59j46 : Int32) (x69_60 : Int32) (x69_61j46 : Int64) (x69_62 : Int32) : Option ((Int32 × Int64) ⊕ (Int32 × Int64)) := some (Sum.inr (x69_59j46 + 1, s0j46))
def fX12_next_S97 (F : Nat) (x69_57 : Int32) (x69_63 : Int32) (A75 : Nat → Int32) (v1 : Int32) (x69_58 : Int32) (x69_60 : Int32) (x69_62 : Int32) (x69_59 : Int32) (x69_61 : Int64) : Option ((Int32 × Int64) ⊕ (Int32 × Int64)) := ((fX12_byteAt x69_57 A75 x69_59).bind (fun r42 => (if (fX12_isSmall r42) = 0 then some (Sum.inl (x69_59, x69_61)) else (if 7 ≤ (x69_59 - v1) then fX12_next_J145 F x69_57 x69_63 A75 v1 0 x69_58 x69_59 x69_60 x69_61 x69_62 else ((fX12_byteAt x69_57 A75 x69_59).bind (fun r47 => fX12_next_J145 F x69_57 x69_63 A75 v1 ((256 * x69_61) + r47.toInt64) x69_58 x69_59 x69_60 x69_61 x69_62))))))
def fX12_next_J262 (F : Nat) (x69_57 : Int32) (x69_63 : Int32) (A75 : Nat → Int32) (v2j17 : Int32) (x69_58j17 : Int32) (x69_59j17 : Int32) (x69_60j17 : Int32) (x69_61j17 : Int64) (x69_62j17 : Int32) : Option (Int32 × Int32 × Int32 × Int64 × Int32) := some (x69_58j17, x69_59j17, 3, x69_61j17, v2j17)
def fX12_next (F : Nat) (x69_57 : Int32) (x69_63 : Int32) (A75 : Nat → Int32) (x69_58 : Int32) (x69_59 : Int32) (x69_60 : Int32) (x69_61 : Int64) (x69_62 : Int32) : Option (Int32 × Int32 × Int32 × Int64 × Int32) := (if x69_63 ≤ 0 then (gloop (fun u2 : Int32 => fX12_next_S13 F x69_57 x69_63 A75 x69_58 x69_59 x69_60 x69_61 x69_62 u2) F x69_59).bind (fun t2_29 => ((fX12_byteAt x69_57 A75 t2_29).bind (fun r7 => (if r7 = (-1) then some (t2_29, t2_29, 0, 0, 0) else (if (fX12_isSmall r7) = 0 then (if (fX12_isDigit r7) = 0 then (if r7 = 59 then fX12_next_J262 F x69_57 x69_63 A75 r7 t2_29 (t2_29 + 1) 4 0 0 else (if r7 = 91 then fX12_next_J262 F x69_57 x69_63 A75 r7 t2_29 (t2_29 + 1) 4 0 0 else (if r7 = 93 then fX12_next_J262 F x69_57 x69_63 A75 r7 t2_29 (t2_29 + 1) 4 0 0 else some (t2_29, t2_29 + 1, 4, 0, 0)))) else (gloop (fun u22 : (Int32 × Int32) => fX12_next_S178 F x69_57 x69_63 A75 t2_29 t2_29 2 0 u22.1 u22.2) F (t2_29, 0)).bind (fun t22_272 => some (t2_29, t22_272.1, 2, 0, t22_272.2))) else (gloop (fun u41 : (Int32 × Int64) => fX12_next_S97 F x69_57 x69_63 A75 t2_29 t2_29 1 0 u41.1 u41.2) F (t2_29, 0)).bind (fun t41_272 => some (t2_29, t41_272.1, 1, t41_272.2, 0))))))) else some (x69_58, x69_59, x69_60, x69_61, x69_62))
theorem dX12_next_0 : decode cX12_next 0 = .ok (.aload_n 0, 1) := by decide +kernel
theorem dX12_next_1 : decode cX12_next 1 = .ok (.getfield 356, 3) := by decide +kernel
theorem dX12_next_4 : decode cX12_next 4 = .ok (.ifCond .le 4, 3) := by decide +kernel
theorem dX12_next_7 : decode cX12_next 7 = .ok (.return_, 1) := by decide +kernel
theorem dX12_next_8 : decode cX12_next 8 = .ok (.aload_n 0, 1) := by decide +kernel
theorem dX12_next_9 : decode cX12_next 9 = .ok (.getfield 359, 3) := by decide +kernel
theorem dX12_next_12 : decode cX12_next 12 = .ok (.istore_n 1, 1) := by decide +kernel
theorem dX12_next_13 : decode cX12_next 13 = .ok (.aload_n 0, 1) := by decide +kernel
theorem dX12_next_14 : decode cX12_next 14 = .ok (.iload_n 1, 1) := by decide +kernel
theorem dX12_next_15 : decode cX12_next 15 = .ok (.invokevirtual 362, 3) := by decide +kernel
theorem dX12_next_18 : decode cX12_next 18 = .ok (.bipush 32, 2) := by decide +kernel
theorem dX12_next_20 : decode cX12_next 20 = .ok (.if_icmp .ne 9, 3) := by decide +kernel
theorem dX12_next_23 : decode cX12_next 23 = .ok (.iinc 1 1, 3) := by decide +kernel
theorem dX12_next_26 : decode cX12_next 26 = .ok (.goto (-13), 3) := by decide +kernel
theorem dX12_next_29 : decode cX12_next 29 = .ok (.aload_n 0, 1) := by decide +kernel
theorem dX12_next_30 : decode cX12_next 30 = .ok (.iload_n 1, 1) := by decide +kernel
theorem dX12_next_31 : decode cX12_next 31 = .ok (.putfield 365, 3) := by decide +kernel
theorem dX12_next_34 : decode cX12_next 34 = .ok (.aload_n 0, 1) := by decide +kernel
theorem dX12_next_35 : decode cX12_next 35 = .ok (.iload_n 1, 1) := by decide +kernel
theorem dX12_next_36 : decode cX12_next 36 = .ok (.iconst 1, 1) := by decide +kernel
theorem dX12_next_37 : decode cX12_next 37 = .ok (.iadd, 1) := by decide +kernel
theorem dX12_next_38 : decode cX12_next 38 = .ok (.putfield 359, 3) := by decide +kernel
theorem dX12_next_41 : decode cX12_next 41 = .ok (.aload_n 0, 1) := by decide +kernel
theorem dX12_next_42 : decode cX12_next 42 = .ok (.iload_n 1, 1) := by decide +kernel
theorem dX12_next_43 : decode cX12_next 43 = .ok (.invokevirtual 362, 3) := by decide +kernel
theorem dX12_next_46 : decode cX12_next 46 = .ok (.istore_n 2, 1) := by decide +kernel
theorem dX12_next_47 : decode cX12_next 47 = .ok (.aload_n 0, 1) := by decide +kernel
theorem dX12_next_48 : decode cX12_next 48 = .ok (.iconst 4, 1) := by decide +kernel
theorem dX12_next_49 : decode cX12_next 49 = .ok (.putfield 368, 3) := by decide +kernel
theorem dX12_next_52 : decode cX12_next 52 = .ok (.aload_n 0, 1) := by decide +kernel
theorem dX12_next_53 : decode cX12_next 53 = .ok (.lconst 0, 1) := by decide +kernel
theorem dX12_next_54 : decode cX12_next 54 = .ok (.putfield 371, 3) := by decide +kernel
theorem dX12_next_57 : decode cX12_next 57 = .ok (.aload_n 0, 1) := by decide +kernel
theorem dX12_next_58 : decode cX12_next 58 = .ok (.iconst 0, 1) := by decide +kernel
theorem dX12_next_59 : decode cX12_next 59 = .ok (.putfield 374, 3) := by decide +kernel
theorem dX12_next_62 : decode cX12_next 62 = .ok (.iload_n 2, 1) := by decide +kernel
theorem dX12_next_63 : decode cX12_next 63 = .ok (.iconst (-1), 1) := by decide +kernel
theorem dX12_next_64 : decode cX12_next 64 = .ok (.if_icmp .ne 16, 3) := by decide +kernel
theorem dX12_next_67 : decode cX12_next 67 = .ok (.aload_n 0, 1) := by decide +kernel
theorem dX12_next_68 : decode cX12_next 68 = .ok (.iconst 0, 1) := by decide +kernel
theorem dX12_next_69 : decode cX12_next 69 = .ok (.putfield 368, 3) := by decide +kernel
theorem dX12_next_72 : decode cX12_next 72 = .ok (.aload_n 0, 1) := by decide +kernel
theorem dX12_next_73 : decode cX12_next 73 = .ok (.iload_n 1, 1) := by decide +kernel
theorem dX12_next_74 : decode cX12_next 74 = .ok (.putfield 359, 3) := by decide +kernel
theorem dX12_next_77 : decode cX12_next 77 = .ok (.goto 195, 3) := by decide +kernel
theorem dX12_next_80 : decode cX12_next 80 = .ok (.iload_n 2, 1) := by decide +kernel
theorem dX12_next_81 : decode cX12_next 81 = .ok (.invokestatic 377, 3) := by decide +kernel
theorem dX12_next_84 : decode cX12_next 84 = .ok (.ifCond .eq 77, 3) := by decide +kernel
theorem dX12_next_87 : decode cX12_next 87 = .ok (.aload_n 0, 1) := by decide +kernel
theorem dX12_next_88 : decode cX12_next 88 = .ok (.iconst 1, 1) := by decide +kernel
theorem dX12_next_89 : decode cX12_next 89 = .ok (.putfield 368, 3) := by decide +kernel
theorem dX12_next_92 : decode cX12_next 92 = .ok (.aload_n 0, 1) := by decide +kernel
theorem dX12_next_93 : decode cX12_next 93 = .ok (.iload_n 1, 1) := by decide +kernel
theorem dX12_next_94 : decode cX12_next 94 = .ok (.putfield 359, 3) := by decide +kernel
theorem dX12_next_97 : decode cX12_next 97 = .ok (.aload_n 0, 1) := by decide +kernel
theorem dX12_next_98 : decode cX12_next 98 = .ok (.aload_n 0, 1) := by decide +kernel
theorem dX12_next_99 : decode cX12_next 99 = .ok (.getfield 359, 3) := by decide +kernel
theorem dX12_next_102 : decode cX12_next 102 = .ok (.invokevirtual 362, 3) := by decide +kernel
theorem dX12_next_105 : decode cX12_next 105 = .ok (.invokestatic 377, 3) := by decide +kernel
theorem dX12_next_108 : decode cX12_next 108 = .ok (.ifCond .eq 164, 3) := by decide +kernel
theorem dX12_next_111 : decode cX12_next 111 = .ok (.aload_n 0, 1) := by decide +kernel
theorem dX12_next_112 : decode cX12_next 112 = .ok (.aload_n 0, 1) := by decide +kernel
theorem dX12_next_113 : decode cX12_next 113 = .ok (.getfield 359, 3) := by decide +kernel
theorem dX12_next_116 : decode cX12_next 116 = .ok (.iload_n 1, 1) := by decide +kernel
theorem dX12_next_117 : decode cX12_next 117 = .ok (.isub, 1) := by decide +kernel
theorem dX12_next_118 : decode cX12_next 118 = .ok (.bipush 7, 2) := by decide +kernel
theorem dX12_next_120 : decode cX12_next 120 = .ok (.if_icmp .ge 24, 3) := by decide +kernel
theorem dX12_next_123 : decode cX12_next 123 = .ok (.ldc2_w 380, 3) := by decide +kernel
theorem dX12_next_126 : decode cX12_next 126 = .ok (.aload_n 0, 1) := by decide +kernel
theorem dX12_next_127 : decode cX12_next 127 = .ok (.getfield 371, 3) := by decide +kernel
theorem dX12_next_130 : decode cX12_next 130 = .ok (.lmul, 1) := by decide +kernel
theorem dX12_next_131 : decode cX12_next 131 = .ok (.aload_n 0, 1) := by decide +kernel
theorem dX12_next_132 : decode cX12_next 132 = .ok (.aload_n 0, 1) := by decide +kernel
theorem dX12_next_133 : decode cX12_next 133 = .ok (.getfield 359, 3) := by decide +kernel
theorem dX12_next_136 : decode cX12_next 136 = .ok (.invokevirtual 362, 3) := by decide +kernel
theorem dX12_next_139 : decode cX12_next 139 = .ok (.i2l, 1) := by decide +kernel
theorem dX12_next_140 : decode cX12_next 140 = .ok (.ladd, 1) := by decide +kernel
theorem dX12_next_141 : decode cX12_next 141 = .ok (.goto 4, 3) := by decide +kernel
theorem dX12_next_144 : decode cX12_next 144 = .ok (.lconst 0, 1) := by decide +kernel
theorem dX12_next_145 : decode cX12_next 145 = .ok (.putfield 371, 3) := by decide +kernel
theorem dX12_next_148 : decode cX12_next 148 = .ok (.aload_n 0, 1) := by decide +kernel
theorem dX12_next_149 : decode cX12_next 149 = .ok (.dup, 1) := by decide +kernel
theorem dX12_next_150 : decode cX12_next 150 = .ok (.getfield 359, 3) := by decide +kernel
theorem dX12_next_153 : decode cX12_next 153 = .ok (.iconst 1, 1) := by decide +kernel
theorem dX12_next_154 : decode cX12_next 154 = .ok (.iadd, 1) := by decide +kernel
theorem dX12_next_155 : decode cX12_next 155 = .ok (.putfield 359, 3) := by decide +kernel
theorem dX12_next_158 : decode cX12_next 158 = .ok (.goto (-61), 3) := by decide +kernel
theorem dX12_next_161 : decode cX12_next 161 = .ok (.iload_n 2, 1) := by decide +kernel
theorem dX12_next_162 : decode cX12_next 162 = .ok (.invokestatic 382, 3) := by decide +kernel
theorem dX12_next_165 : decode cX12_next 165 = .ok (.ifCond .eq 79, 3) := by decide +kernel
theorem dX12_next_168 : decode cX12_next 168 = .ok (.aload_n 0, 1) := by decide +kernel
theorem dX12_next_169 : decode cX12_next 169 = .ok (.iconst 2, 1) := by decide +kernel
theorem dX12_next_170 : decode cX12_next 170 = .ok (.putfield 368, 3) := by decide +kernel
theorem dX12_next_173 : decode cX12_next 173 = .ok (.aload_n 0, 1) := by decide +kernel
theorem dX12_next_174 : decode cX12_next 174 = .ok (.iload_n 1, 1) := by decide +kernel
theorem dX12_next_175 : decode cX12_next 175 = .ok (.putfield 359, 3) := by decide +kernel
theorem dX12_next_178 : decode cX12_next 178 = .ok (.aload_n 0, 1) := by decide +kernel
theorem dX12_next_179 : decode cX12_next 179 = .ok (.aload_n 0, 1) := by decide +kernel
theorem dX12_next_180 : decode cX12_next 180 = .ok (.getfield 359, 3) := by decide +kernel
theorem dX12_next_183 : decode cX12_next 183 = .ok (.invokevirtual 362, 3) := by decide +kernel
theorem dX12_next_186 : decode cX12_next 186 = .ok (.invokestatic 382, 3) := by decide +kernel
theorem dX12_next_189 : decode cX12_next 189 = .ok (.ifCond .eq 83, 3) := by decide +kernel
theorem dX12_next_192 : decode cX12_next 192 = .ok (.aload_n 0, 1) := by decide +kernel
theorem dX12_next_193 : decode cX12_next 193 = .ok (.aload_n 0, 1) := by decide +kernel
theorem dX12_next_194 : decode cX12_next 194 = .ok (.getfield 359, 3) := by decide +kernel
theorem dX12_next_197 : decode cX12_next 197 = .ok (.iload_n 1, 1) := by decide +kernel
theorem dX12_next_198 : decode cX12_next 198 = .ok (.isub, 1) := by decide +kernel
theorem dX12_next_199 : decode cX12_next 199 = .ok (.iconst 2, 1) := by decide +kernel
theorem dX12_next_200 : decode cX12_next 200 = .ok (.if_icmp .ge 25, 3) := by decide +kernel
theorem dX12_next_203 : decode cX12_next 203 = .ok (.bipush 10, 2) := by decide +kernel
theorem dX12_next_205 : decode cX12_next 205 = .ok (.aload_n 0, 1) := by decide +kernel
theorem dX12_next_206 : decode cX12_next 206 = .ok (.getfield 374, 3) := by decide +kernel
theorem dX12_next_209 : decode cX12_next 209 = .ok (.imul, 1) := by decide +kernel
theorem dX12_next_210 : decode cX12_next 210 = .ok (.aload_n 0, 1) := by decide +kernel
theorem dX12_next_211 : decode cX12_next 211 = .ok (.aload_n 0, 1) := by decide +kernel
theorem dX12_next_212 : decode cX12_next 212 = .ok (.getfield 359, 3) := by decide +kernel
theorem dX12_next_215 : decode cX12_next 215 = .ok (.invokevirtual 362, 3) := by decide +kernel
theorem dX12_next_218 : decode cX12_next 218 = .ok (.iadd, 1) := by decide +kernel
theorem dX12_next_219 : decode cX12_next 219 = .ok (.bipush 48, 2) := by decide +kernel
theorem dX12_next_221 : decode cX12_next 221 = .ok (.isub, 1) := by decide +kernel
theorem dX12_next_222 : decode cX12_next 222 = .ok (.goto 6, 3) := by decide +kernel
theorem dX12_next_225 : decode cX12_next 225 = .ok (.sipush 1000, 3) := by decide +kernel
theorem dX12_next_228 : decode cX12_next 228 = .ok (.putfield 374, 3) := by decide +kernel
theorem dX12_next_231 : decode cX12_next 231 = .ok (.aload_n 0, 1) := by decide +kernel
theorem dX12_next_232 : decode cX12_next 232 = .ok (.dup, 1) := by decide +kernel
theorem dX12_next_233 : decode cX12_next 233 = .ok (.getfield 359, 3) := by decide +kernel
theorem dX12_next_236 : decode cX12_next 236 = .ok (.iconst 1, 1) := by decide +kernel
theorem dX12_next_237 : decode cX12_next 237 = .ok (.iadd, 1) := by decide +kernel
theorem dX12_next_238 : decode cX12_next 238 = .ok (.putfield 359, 3) := by decide +kernel
theorem dX12_next_241 : decode cX12_next 241 = .ok (.goto (-63), 3) := by decide +kernel
theorem dX12_next_244 : decode cX12_next 244 = .ok (.iload_n 2, 1) := by decide +kernel
theorem dX12_next_245 : decode cX12_next 245 = .ok (.bipush 59, 2) := by decide +kernel
theorem dX12_next_247 : decode cX12_next 247 = .ok (.if_icmp .eq 15, 3) := by decide +kernel
theorem dX12_next_250 : decode cX12_next 250 = .ok (.iload_n 2, 1) := by decide +kernel
theorem dX12_next_251 : decode cX12_next 251 = .ok (.bipush 91, 2) := by decide +kernel
theorem dX12_next_253 : decode cX12_next 253 = .ok (.if_icmp .eq 9, 3) := by decide +kernel
theorem dX12_next_256 : decode cX12_next 256 = .ok (.iload_n 2, 1) := by decide +kernel
theorem dX12_next_257 : decode cX12_next 257 = .ok (.bipush 93, 2) := by decide +kernel
theorem dX12_next_259 : decode cX12_next 259 = .ok (.if_icmp .ne 13, 3) := by decide +kernel
theorem dX12_next_262 : decode cX12_next 262 = .ok (.aload_n 0, 1) := by decide +kernel
theorem dX12_next_263 : decode cX12_next 263 = .ok (.iconst 3, 1) := by decide +kernel
theorem dX12_next_264 : decode cX12_next 264 = .ok (.putfield 368, 3) := by decide +kernel
theorem dX12_next_267 : decode cX12_next 267 = .ok (.aload_n 0, 1) := by decide +kernel
theorem dX12_next_268 : decode cX12_next 268 = .ok (.iload_n 2, 1) := by decide +kernel
theorem dX12_next_269 : decode cX12_next 269 = .ok (.putfield 374, 3) := by decide +kernel
theorem dX12_next_272 : decode cX12_next 272 = .ok (.return_, 1) := by decide +kernel
set_option maxHeartbeats 4000000 in
set_option maxRecDepth 100000 in
theorem kX12_next {l : Launch} {D : va_G} {cy : Nat → ClassId} {N : Nat} {q : Nat → Nat} {m0 : Nat → Value} {a0 : Nat → vp_A} {sz : Nat} (hN : 105 ≤ N) (hsh : SH q m0) {x69_57 : Int32} (h_x69_57 : m0 6957 = .int x69_57) {x69_63 : Int32} (h_x69_63 : m0 6963 = .int x69_63) {A75 : Nat → Int32} (h_A75 : a0 75 = (264, .inl A75)) {x69_58 : Int32} (h_x69_58 : m0 6958 = .int x69_58) {x69_59 : Int32} (h_x69_59 : m0 6959 = .int x69_59) {x69_60 : Int32} (h_x69_60 : m0 6960 = .int x69_60) {x69_61 : Int64} (h_x69_61 : m0 6961 = .long x69_61) {x69_62 : Int32} (h_x69_62 : m0 6962 = .int x69_62) (F : Nat) {X0 : Int32 × Int32 × Int32 × Int64 × Int32} (hs0 : fX12_next F x69_57 x69_63 A75 x69_58 x69_59 x69_60 x69_61 x69_62 = some X0) : gMv l yX12_next cX12_next 3 none ({ frames := 1, cells := 0, slots := 0, locals := 21 } : Room) D cy N q m0 a0 sz [.ref (q 69)] (fun m' a' => m' 6958 = .int X0.1 ∧ m' 6959 = .int X0.2.1 ∧ m' 6960 = .int X0.2.2.1 ∧ m' 6961 = .long X0.2.2.2.1 ∧ m' 6962 = .int X0.2.2.2.2 ∧ (∀ j, nel j [6958, 6959, 6960, 6961, 6962] = false → m' j = m0 j) ∧ a' = a0) := by
  refine g_ofv (by decide) (Nat.le_of_ble_eq_true rfl) ?_
  intro p e s M args below meth c hx hb hr hG hown hin hlocks hml hW hS ls hl
  unfold fX12_next at hs0
  have hoff : ∀ j, nel j [6958, 6959, 6960, 6961, 6962] = false → m0 j = m0 j := off0
  have hJ262_0 : ∀ (v2j17 : Int32) (x69_58j17 : Int32) (x69_59j17 : Int32) (x69_60j17 : Int32) (x69_61j17 : Int64) (x69_62j17 : Int32) (m : Nat → Value) (H : Heap) (locs : List Loc) (w_x69_58 : m 6958 = .int x69_58j17) (w_x69_59 : m 6959 = .int x69_59j17) (w_x69_60 : m 6960 = .int x69_60j17) (w_x69_61 : m 6961 = .long x69_61j17) (w_x69_62 : m 6962 = .int x69_62j17) (hoff : ∀ j, nel j [6958, 6959, 6960, 6961, 6962] = false → m j = m0 j) (hsh : SH q m) (ls : Array Slot) (hl : lv_has ls 3 [(0, .ref (q 69)), (2, .int v2j17)]) (hs0 : fX12_next_J262 F x69_57 x69_63 A75 v2j17 x69_58j17 x69_59j17 x69_60j17 x69_61j17 x69_62j17 = some X0) (hW : GW D cy (gA N q s.heap.size) N q m a0 s H) (hS : va_S (gA N q s.heap.size) s.heap H locs), W p l e ({ frames := 1, cells := 0, slots := 0, locals := 21 } : Room) s M args below meth c H locs 0 0 (MQ below (va_Qv (fun (u : (Nat → Value) × (Nat → vp_A)) => u.1 6958 = .int X0.1 ∧ u.1 6959 = .int X0.2.1 ∧ u.1 6960 = .int X0.2.2.1 ∧ u.1 6961 = .long X0.2.2.2.1 ∧ u.1 6962 = .int X0.2.2.2.2 ∧ (∀ j, nel j [6958, 6959, 6960, 6961, 6962] = false → u.1 j = m0 j) ∧ u.2 = a0) (gB D cy N q s.heap.size) (gA N q s.heap.size)) args s 0 0 (gA N q s.heap.size)) (F0 M 262 ls []) := by
    intro v2j17 x69_58j17 x69_59j17 x69_60j17 x69_61j17 x69_62j17 m H locs w_x69_58 w_x69_59 w_x69_60 w_x69_61 w_x69_62 hoff hsh ls hl hs0 hW hS
    unfold fX12_next_J262 at hs0
    refine lv_aload_n hx hb dX12_next_262 rfl (lv_at hl 0 rfl) ?_
    refine lv_iconst (v := 3) hx hb dX12_next_263 (by decide) ?_
    refine gp12_60 hx hb hG hown hW hS (o := 69) (ltN hN 69 rfl) gk69 (v := 3) gx1314 dX12_next_264 (fun m62 H locs hm62 ho62 hW hS => ?_)
    have ho62 := off1 ho62
    have w_x69_58 : m62 6958 = .int x69_58j17 := (ho62 6958 rfl).trans w_x69_58
    have w_x69_59 : m62 6959 = .int x69_59j17 := (ho62 6959 rfl).trans w_x69_59
    have w_x69_60 : m62 6960 = .int 3 := hm62
    have w_x69_61 : m62 6961 = .long x69_61j17 := (ho62 6961 rfl).trans w_x69_61
    have w_x69_62 : m62 6962 = .int x69_62j17 := (ho62 6962 rfl).trans w_x69_62
    have hoff := offm hoff ho62 (by decide +kernel)
    have hsh := SH.off hsh ho62 (by decide +kernel)
    refine lv_aload_n hx hb dX12_next_267 rfl (lv_at hl 0 rfl) ?_
    refine lv_iload_n hx hb dX12_next_268 rfl (lv_at hl 1 rfl) ?_
    refine gp12_62 hx hb hG hown hW hS (o := 69) (ltN hN 69 rfl) gk69 (v := v2j17) gx1321 dX12_next_269 (fun m63 H locs hm63 ho63 hW hS => ?_)
    have ho63 := off1 ho63
    have w_x69_58 : m63 6958 = .int x69_58j17 := (ho63 6958 rfl).trans w_x69_58
    have w_x69_59 : m63 6959 = .int x69_59j17 := (ho63 6959 rfl).trans w_x69_59
    have w_x69_60 : m63 6960 = .int 3 := (ho63 6960 rfl).trans w_x69_60
    have w_x69_61 : m63 6961 = .long x69_61j17 := (ho63 6961 rfl).trans w_x69_61
    have w_x69_62 : m63 6962 = .int v2j17 := hm63
    have hoff := offm hoff ho63 (by decide +kernel)
    have hsh := SH.off hsh ho63 (by decide +kernel)
    have hs0 := Option.some.inj hs0
    subst hs0
    exact W.vret hx hb hr (fun t ht hw => ⟨⟨(m63, a0), rfl, ⟨w_x69_58, w_x69_59, w_x69_60, w_x69_61, w_x69_62, hoff, rfl⟩, g_end hW ht hw⟩, hS.F ht⟩) hS.2.2 dX12_next_272 hlocks
  refine lv_aload_n hx hb dX12_next_0 rfl (lv_at hl 0 rfl) ?_
  refine gf12_63 hx hb hG hown hW (o := 69) (ltN hN 69 rfl) gk69 (v := .int x69_63) ((hoff 6963 rfl).trans h_x69_63) gx1305 dX12_next_1 ?_
  refine lv_if_le (tgt := 8) hx hb dX12_next_4 (by decide) (fun c1 => ?_) (fun c1 => ?_)
  · rw [if_pos c1] at hs0
    refine lv_aload_n hx hb dX12_next_8 rfl (lv_at hl 0 rfl) ?_
    refine gf12_59 hx hb hG hown hW (o := 69) (ltN hN 69 rfl) gk69 (v := .int x69_59) h_x69_59 gx1313 dX12_next_9 ?_
    refine lv_istore_n (lv' := [(1, .int x69_59), (0, .ref (q 69))]) hx hb dX12_next_12 rfl hl (by decide) rfl (fun ls hl => ?_)
    obtain ⟨r2, hg2, hs0⟩ := obind hs0
    have hE1_29 : ∀ (t2_29 : Int32) (hr2 : t2_29 = r2) (m : Nat → Value) (H : Heap) (locs : List Loc) (w_x69_58 : m 6958 = .int x69_58) (w_x69_59 : m 6959 = .int x69_59) (w_x69_60 : m 6960 = .int x69_60) (w_x69_61 : m 6961 = .long x69_61) (w_x69_62 : m 6962 = .int x69_62) (hoff : ∀ j, nel j [6958, 6959, 6960, 6961, 6962] = false → m j = m0 j) (hsh : SH q m) (ls : Array Slot) (hl : lv_has ls 3 [(0, .ref (q 69)), (1, .int t2_29)]) (hW : GW D cy (gA N q s.heap.size) N q m a0 s H) (hS : va_S (gA N q s.heap.size) s.heap H locs), W p l e ({ frames := 1, cells := 0, slots := 0, locals := 21 } : Room) s M args below meth c H locs 0 0 (MQ below (va_Qv (fun (u : (Nat → Value) × (Nat → vp_A)) => u.1 6958 = .int X0.1 ∧ u.1 6959 = .int X0.2.1 ∧ u.1 6960 = .int X0.2.2.1 ∧ u.1 6961 = .long X0.2.2.2.1 ∧ u.1 6962 = .int X0.2.2.2.2 ∧ (∀ j, nel j [6958, 6959, 6960, 6961, 6962] = false → u.1 j = m0 j) ∧ u.2 = a0) (gB D cy N q s.heap.size) (gA N q s.heap.size)) args s 0 0 (gA N q s.heap.size)) (F0 M 29 ls []) := by
      intro t2_29 hr2 m H locs w_x69_58 w_x69_59 w_x69_60 w_x69_61 w_x69_62 hoff hsh ls hl hW hS
      subst hr2
      refine lv_aload_n hx hb dX12_next_29 rfl (lv_at hl 0 rfl) ?_
      refine lv_iload_n hx hb dX12_next_30 rfl (lv_at hl 1 rfl) ?_
      refine gp12_58 hx hb hG hown hW hS (o := 69) (ltN hN 69 rfl) gk69 (v := t2_29) gx1319 dX12_next_31 (fun m5 H locs hm5 ho5 hW hS => ?_)
      have ho5 := off1 ho5
      have w_x69_58 : m5 6958 = .int t2_29 := hm5
      have w_x69_59 : m5 6959 = .int x69_59 := (ho5 6959 rfl).trans w_x69_59
      have w_x69_60 : m5 6960 = .int x69_60 := (ho5 6960 rfl).trans w_x69_60
      have w_x69_61 : m5 6961 = .long x69_61 := (ho5 6961 rfl).trans w_x69_61
      have w_x69_62 : m5 6962 = .int x69_62 := (ho5 6962 rfl).trans w_x69_62
      have hoff := offm hoff ho5 (by decide +kernel)
      have hsh := SH.off hsh ho5 (by decide +kernel)
      refine lv_aload_n hx hb dX12_next_34 rfl (lv_at hl 0 rfl) ?_
      refine lv_iload_n hx hb dX12_next_35 rfl (lv_at hl 1 rfl) ?_
      refine lv_iconst (v := 1) hx hb dX12_next_36 (by decide) ?_
      refine lv_iadd hx hb dX12_next_37 ?_
      refine gp12_59 hx hb hG hown hW hS (o := 69) (ltN hN 69 rfl) gk69 (v := (t2_29 + 1)) gx1313 dX12_next_38 (fun m6 H locs hm6 ho6 hW hS => ?_)
      have ho6 := off1 ho6
      have w_x69_58 : m6 6958 = .int t2_29 := (ho6 6958 rfl).trans w_x69_58
      have w_x69_59 : m6 6959 = .int (t2_29 + 1) := hm6
      have w_x69_60 : m6 6960 = .int x69_60 := (ho6 6960 rfl).trans w_x69_60
      have w_x69_61 : m6 6961 = .long x69_61 := (ho6 6961 rfl).trans w_x69_61
      have w_x69_62 : m6 6962 = .int x69_62 := (ho6 6962 rfl).trans w_x69_62
      have hoff := offm hoff ho6 (by decide +kernel)
      have hsh := SH.off hsh ho6 (by decide +kernel)
      refine lv_aload_n hx hb dX12_next_41 rfl (lv_at hl 0 rfl) ?_
      refine lv_iload_n hx hb dX12_next_42 rfl (lv_at hl 1 rfl) ?_
      obtain ⟨r7, hf7, hs0⟩ := obind hs0
      refine g_ViR (n := 1) hx hb hml hown hG hW hS [.int t2_29] (kX12_byteAt hN hsh ((hoff 6957 rfl).trans h_x69_57) h_A75 t2_29 hf7) (ltN hN 69 rfl) gk69 (by decide) rfl rfl (gd_V gx1323 gx1324 gx1325 gx5 gx1326) rfl rfl (by decide) ⟨Nat.le_of_ble_eq_true rfl, Nat.le_of_ble_eq_true rfl⟩ rfl hl (Nat.le_of_ble_eq_true rfl) ⟨Nat.zero_le _, Nat.zero_le _⟩ dX12_next_43 (fun H locs hW hS => ?_)
      refine lv_istore_n (lv' := [(2, .int r7), (0, .ref (q 69)), (1, .int t2_29)]) hx hb dX12_next_46 rfl hl (by decide) rfl (fun ls hl => ?_)
      refine lv_aload_n hx hb dX12_next_47 rfl (lv_at hl 1 rfl) ?_
      refine lv_iconst (v := 4) hx hb dX12_next_48 (by decide) ?_
      refine gp12_60 hx hb hG hown hW hS (o := 69) (ltN hN 69 rfl) gk69 (v := 4) gx1314 dX12_next_49 (fun m8 H locs hm8 ho8 hW hS => ?_)
      have ho8 := off1 ho8
      have w_x69_58 : m8 6958 = .int t2_29 := (ho8 6958 rfl).trans w_x69_58
      have w_x69_59 : m8 6959 = .int (t2_29 + 1) := (ho8 6959 rfl).trans w_x69_59
      have w_x69_60 : m8 6960 = .int 4 := hm8
      have w_x69_61 : m8 6961 = .long x69_61 := (ho8 6961 rfl).trans w_x69_61
      have w_x69_62 : m8 6962 = .int x69_62 := (ho8 6962 rfl).trans w_x69_62
      have hoff := offm hoff ho8 (by decide +kernel)
      have hsh := SH.off hsh ho8 (by decide +kernel)
      refine lv_aload_n hx hb dX12_next_52 rfl (lv_at hl 1 rfl) ?_
      refine lv_lconst (v := 0) hx hb dX12_next_53 (by decide) ?_
      refine gp12_61 hx hb hG hown hW hS (o := 69) (ltN hN 69 rfl) gk69 (v := 0) gx1320 dX12_next_54 (fun m9 H locs hm9 ho9 hW hS => ?_)
      have ho9 := off1 ho9
      have w_x69_58 : m9 6958 = .int t2_29 := (ho9 6958 rfl).trans w_x69_58
      have w_x69_59 : m9 6959 = .int (t2_29 + 1) := (ho9 6959 rfl).trans w_x69_59
      have w_x69_60 : m9 6960 = .int 4 := (ho9 6960 rfl).trans w_x69_60
      have w_x69_61 : m9 6961 = .long 0 := hm9
      have w_x69_62 : m9 6962 = .int x69_62 := (ho9 6962 rfl).trans w_x69_62
      have hoff := offm hoff ho9 (by decide +kernel)
      have hsh := SH.off hsh ho9 (by decide +kernel)
      refine lv_aload_n hx hb dX12_next_57 rfl (lv_at hl 1 rfl) ?_
      refine lv_iconst (v := 0) hx hb dX12_next_58 (by decide) ?_
      refine gp12_62 hx hb hG hown hW hS (o := 69) (ltN hN 69 rfl) gk69 (v := 0) gx1321 dX12_next_59 (fun m10 H locs hm10 ho10 hW hS => ?_)
      have ho10 := off1 ho10
      have w_x69_58 : m10 6958 = .int t2_29 := (ho10 6958 rfl).trans w_x69_58
      have w_x69_59 : m10 6959 = .int (t2_29 + 1) := (ho10 6959 rfl).trans w_x69_59
      have w_x69_60 : m10 6960 = .int 4 := (ho10 6960 rfl).trans w_x69_60
      have w_x69_61 : m10 6961 = .long 0 := (ho10 6961 rfl).trans w_x69_61
      have w_x69_62 : m10 6962 = .int 0 := hm10
      have hoff := offm hoff ho10 (by decide +kernel)
      have hsh := SH.off hsh ho10 (by decide +kernel)
      refine lv_iload_n hx hb dX12_next_62 rfl (lv_at hl 0 rfl) ?_
      refine lv_iconst (v := (-1)) hx hb dX12_next_63 (by decide) ?_
      refine lv_icmp_ne (tgt := 80) hx hb dX12_next_64 (by decide) (fun c11 => ?_) (fun c11 => ?_)
      · rw [if_neg c11] at hs0
        refine lv_iload_n hx hb dX12_next_80 rfl (lv_at hl 0 rfl) ?_
        refine g_SiR (n := 1) hx hb hml hown hG hW hS [.int r7] (kX12_isSmall hN r7) rfl (gd_S gx1327 gx1328 gx5 gx1329) rfl rfl (by decide) ⟨Nat.le_of_ble_eq_true rfl, Nat.le_of_ble_eq_true rfl⟩ rfl hl (Nat.le_of_ble_eq_true rfl) ⟨Nat.zero_le _, Nat.zero_le _⟩ dX12_next_81 (fun H locs hW hS => ?_)
        refine lv_if_eq (tgt := 161) hx hb dX12_next_84 (by decide) (fun c13 => ?_) (fun c13 => ?_)
        · rw [if_pos c13] at hs0
          refine lv_iload_n hx hb dX12_next_161 rfl (lv_at hl 0 rfl) ?_
          refine g_SiR (n := 1) hx hb hml hown hG hW hS [.int r7] (kX12_isDigit hN r7) rfl (gd_S gx1330 gx1331 gx5 gx1332) rfl rfl (by decide) ⟨Nat.le_of_ble_eq_true rfl, Nat.le_of_ble_eq_true rfl⟩ rfl hl (Nat.le_of_ble_eq_true rfl) ⟨Nat.zero_le _, Nat.zero_le _⟩ dX12_next_162 (fun H locs hW hS => ?_)
          refine lv_if_eq (tgt := 244) hx hb dX12_next_165 (by decide) (fun c15 => ?_) (fun c15 => ?_)
          · rw [if_pos c15] at hs0
            refine lv_iload_n hx hb dX12_next_244 rfl (lv_at hl 0 rfl) ?_
            refine lv_bipush (v := 59) hx hb dX12_next_245 (by decide) ?_
            refine lv_icmp_eq (tgt := 262) hx hb dX12_next_247 (by decide) (fun c16 => ?_) (fun c16 => ?_)
            · rw [if_pos c16] at hs0
              exact hJ262_0 r7 t2_29 (t2_29 + 1) 4 0 0 m10 _ _ w_x69_58 w_x69_59 w_x69_60 w_x69_61 w_x69_62 hoff hsh ls (lv_sub hl [1, 0] rfl) hs0 hW hS
            · rw [if_neg c16] at hs0
              refine lv_iload_n hx hb dX12_next_250 rfl (lv_at hl 0 rfl) ?_
              refine lv_bipush (v := 91) hx hb dX12_next_251 (by decide) ?_
              refine lv_icmp_eq (tgt := 262) hx hb dX12_next_253 (by decide) (fun c18 => ?_) (fun c18 => ?_)
              · rw [if_pos c18] at hs0
                exact hJ262_0 r7 t2_29 (t2_29 + 1) 4 0 0 m10 _ _ w_x69_58 w_x69_59 w_x69_60 w_x69_61 w_x69_62 hoff hsh ls (lv_sub hl [1, 0] rfl) hs0 hW hS
              · rw [if_neg c18] at hs0
                refine lv_iload_n hx hb dX12_next_256 rfl (lv_at hl 0 rfl) ?_
                refine lv_bipush (v := 93) hx hb dX12_next_257 (by decide) ?_
                refine lv_icmp_ne (tgt := 272) hx hb dX12_next_259 (by decide) (fun c19 => ?_) (fun c19 => ?_)
                · rw [if_neg c19] at hs0
                  have hs0 := Option.some.inj hs0
                  subst hs0
                  exact W.vret hx hb hr (fun t ht hw => ⟨⟨(m10, a0), rfl, ⟨w_x69_58, w_x69_59, w_x69_60, w_x69_61, w_x69_62, hoff, rfl⟩, g_end hW ht hw⟩, hS.F ht⟩) hS.2.2 dX12_next_272 hlocks
                · rw [if_pos c19] at hs0
                  exact hJ262_0 r7 t2_29 (t2_29 + 1) 4 0 0 m10 _ _ w_x69_58 w_x69_59 w_x69_60 w_x69_61 w_x69_62 hoff hsh ls (lv_sub hl [1, 0] rfl) hs0 hW hS
          · rw [if_neg c15] at hs0
            refine lv_aload_n hx hb dX12_next_168 rfl (lv_at hl 1 rfl) ?_
            refine lv_iconst (v := 2) hx hb dX12_next_169 (by decide) ?_
            refine gp12_60 hx hb hG hown hW hS (o := 69) (ltN hN 69 rfl) gk69 (v := 2) gx1314 dX12_next_170 (fun m20 H locs hm20 ho20 hW hS => ?_)
            have ho20 := off1 ho20
            have w_x69_58 : m20 6958 = .int t2_29 := (ho20 6958 rfl).trans w_x69_58
            have w_x69_59 : m20 6959 = .int (t2_29 + 1) := (ho20 6959 rfl).trans w_x69_59
            have w_x69_60 : m20 6960 = .int 2 := hm20
            have w_x69_61 : m20 6961 = .long 0 := (ho20 6961 rfl).trans w_x69_61
            have w_x69_62 : m20 6962 = .int 0 := (ho20 6962 rfl).trans w_x69_62
            have hoff := offm hoff ho20 (by decide +kernel)
            have hsh := SH.off hsh ho20 (by decide +kernel)
            refine lv_aload_n hx hb dX12_next_173 rfl (lv_at hl 1 rfl) ?_
            refine lv_iload_n hx hb dX12_next_174 rfl (lv_at hl 2 rfl) ?_
            refine gp12_59 hx hb hG hown hW hS (o := 69) (ltN hN 69 rfl) gk69 (v := t2_29) gx1313 dX12_next_175 (fun m21 H locs hm21 ho21 hW hS => ?_)
            have ho21 := off1 ho21
            have w_x69_58 : m21 6958 = .int t2_29 := (ho21 6958 rfl).trans w_x69_58
            have w_x69_59 : m21 6959 = .int t2_29 := hm21
            have w_x69_60 : m21 6960 = .int 2 := (ho21 6960 rfl).trans w_x69_60
            have w_x69_61 : m21 6961 = .long 0 := (ho21 6961 rfl).trans w_x69_61
            have w_x69_62 : m21 6962 = .int 0 := (ho21 6962 rfl).trans w_x69_62
            have hoff := offm hoff ho21 (by decide +kernel)
            have hsh := SH.off hsh ho21 (by decide +kernel)
            obtain ⟨r22, hg22, hs0⟩ := obind hs0
            have hE1_272 : ∀ (t22_272 : Int32 × Int32) (hr22 : t22_272 = r22) (m : Nat → Value) (H : Heap) (locs : List Loc) (w_x69_58 : m 6958 = .int t2_29) (w_x69_59 : m 6959 = .int t22_272.1) (w_x69_60 : m 6960 = .int 2) (w_x69_61 : m 6961 = .long 0) (w_x69_62 : m 6962 = .int t22_272.2) (hoff : ∀ j, nel j [6958, 6959, 6960, 6961, 6962] = false → m j = m0 j) (hsh : SH q m) (ls : Array Slot) (hl : lv_has ls 3 []) (hW : GW D cy (gA N q s.heap.size) N q m a0 s H) (hS : va_S (gA N q s.heap.size) s.heap H locs), W p l e ({ frames := 1, cells := 0, slots := 0, locals := 21 } : Room) s M args below meth c H locs 0 0 (MQ below (va_Qv (fun (u : (Nat → Value) × (Nat → vp_A)) => u.1 6958 = .int X0.1 ∧ u.1 6959 = .int X0.2.1 ∧ u.1 6960 = .int X0.2.2.1 ∧ u.1 6961 = .long X0.2.2.2.1 ∧ u.1 6962 = .int X0.2.2.2.2 ∧ (∀ j, nel j [6958, 6959, 6960, 6961, 6962] = false → u.1 j = m0 j) ∧ u.2 = a0) (gB D cy N q s.heap.size) (gA N q s.heap.size)) args s 0 0 (gA N q s.heap.size)) (F0 M 272 ls []) := by
              intro t22_272 hr22 m H locs w_x69_58 w_x69_59 w_x69_60 w_x69_61 w_x69_62 hoff hsh ls hl hW hS
              subst hr22
              have hs0 := Option.some.inj hs0
              subst hs0
              exact W.vret hx hb hr (fun t ht hw => ⟨⟨(m, a0), rfl, ⟨w_x69_58, w_x69_59, w_x69_60, w_x69_61, w_x69_62, hoff, rfl⟩, g_end hW ht hw⟩, hS.F ht⟩) hS.2.2 dX12_next_272 hlocks
            have hL1 : ∀ (n : Nat) (x69_59k22 : Int32) (x69_62k22 : Int32) (m : Nat → Value) (H : Heap) (locs : List Loc) (w_x69_58 : m 6958 = .int t2_29) (w_x69_59 : m 6959 = .int x69_59k22) (w_x69_60 : m 6960 = .int 2) (w_x69_61 : m 6961 = .long 0) (w_x69_62 : m 6962 = .int x69_62k22) (hoff : ∀ j, nel j [6958, 6959, 6960, 6961, 6962] = false → m j = m0 j) (hsh : SH q m) (ls : Array Slot) (hl : lv_has ls 3 [(0, .ref (q 69)), (1, .int t2_29)]) (hg22 : gloop (fun u22 : (Int32 × Int32) => fX12_next_S178 F x69_57 x69_63 A75 t2_29 t2_29 2 0 u22.1 u22.2) n (x69_59k22, x69_62k22) = some r22) (hW : GW D cy (gA N q s.heap.size) N q m a0 s H) (hS : va_S (gA N q s.heap.size) s.heap H locs), W p l e ({ frames := 1, cells := 0, slots := 0, locals := 21 } : Room) s M args below meth c H locs 0 0 (MQ below (va_Qv (fun (u : (Nat → Value) × (Nat → vp_A)) => u.1 6958 = .int X0.1 ∧ u.1 6959 = .int X0.2.1 ∧ u.1 6960 = .int X0.2.2.1 ∧ u.1 6961 = .long X0.2.2.2.1 ∧ u.1 6962 = .int X0.2.2.2.2 ∧ (∀ j, nel j [6958, 6959, 6960, 6961, 6962] = false → u.1 j = m0 j) ∧ u.2 = a0) (gB D cy N q s.heap.size) (gA N q s.heap.size)) args s 0 0 (gA N q s.heap.size)) (F0 M 178 ls []) := by
              intro n
              induction n with
              | zero => intro x69_59k22 x69_62k22 m H locs w_x69_58 w_x69_59 w_x69_60 w_x69_61 w_x69_62 hoff hsh ls hl hg22 hW hS; exact (gl_zero hg22).elim
              | succ n ih1 =>
                intro x69_59k22 x69_62k22 m H locs w_x69_58 w_x69_59 w_x69_60 w_x69_61 w_x69_62 hoff hsh ls hl hg22 hW hS
                obtain ⟨X1, hs1, hXl1, hXr1⟩ := gl_succ hg22
                have hs1 : fX12_next_S178 F x69_57 x69_63 A75 t2_29 t2_29 2 0 x69_59k22 x69_62k22 = some X1 := hs1
                unfold fX12_next_S178 at hs1
                have hJ228_1 : ∀ (s0j35 : Int32) (x69_59j35 : Int32) (x69_62j35 : Int32) (m : Nat → Value) (H : Heap) (locs : List Loc) (w_x69_58 : m 6958 = .int t2_29) (w_x69_59 : m 6959 = .int x69_59j35) (w_x69_60 : m 6960 = .int 2) (w_x69_61 : m 6961 = .long 0) (w_x69_62 : m 6962 = .int x69_62j35) (hoff : ∀ j, nel j [6958, 6959, 6960, 6961, 6962] = false → m j = m0 j) (hsh : SH q m) (ls : Array Slot) (hl : lv_has ls 3 [(0, .ref (q 69)), (1, .int t2_29)]) (hs1 : fX12_next_J228 F x69_57 x69_63 A75 t2_29 s0j35 t2_29 x69_59j35 2 0 x69_62j35 = some X1) (hW : GW D cy (gA N q s.heap.size) N q m a0 s H) (hS : va_S (gA N q s.heap.size) s.heap H locs), W p l e ({ frames := 1, cells := 0, slots := 0, locals := 21 } : Room) s M args below meth c H locs 0 0 (MQ below (va_Qv (fun (u : (Nat → Value) × (Nat → vp_A)) => u.1 6958 = .int X0.1 ∧ u.1 6959 = .int X0.2.1 ∧ u.1 6960 = .int X0.2.2.1 ∧ u.1 6961 = .long X0.2.2.2.1 ∧ u.1 6962 = .int X0.2.2.2.2 ∧ (∀ j, nel j [6958, 6959, 6960, 6961, 6962] = false → u.1 j = m0 j) ∧ u.2 = a0) (gB D cy N q s.heap.size) (gA N q s.heap.size)) args s 0 0 (gA N q s.heap.size)) (F0 M 228 ls [.int s0j35, .ref (q 69)]) := by
                  intro s0j35 x69_59j35 x69_62j35 m H locs w_x69_58 w_x69_59 w_x69_60 w_x69_61 w_x69_62 hoff hsh ls hl hs1 hW hS
                  unfold fX12_next_J228 at hs1
                  refine gp12_62 hx hb hG hown hW hS (o := 69) (ltN hN 69 rfl) gk69 (v := s0j35) gx1321 dX12_next_228 (fun m37 H locs hm37 ho37 hW hS => ?_)
                  have ho37 := off1 ho37
                  have w_x69_58 : m37 6958 = .int t2_29 := (ho37 6958 rfl).trans w_x69_58
                  have w_x69_59 : m37 6959 = .int x69_59j35 := (ho37 6959 rfl).trans w_x69_59
                  have w_x69_60 : m37 6960 = .int 2 := (ho37 6960 rfl).trans w_x69_60
                  have w_x69_61 : m37 6961 = .long 0 := (ho37 6961 rfl).trans w_x69_61
                  have w_x69_62 : m37 6962 = .int s0j35 := hm37
                  have hoff := offm hoff ho37 (by decide +kernel)
                  have hsh := SH.off hsh ho37 (by decide +kernel)
                  refine lv_aload_n hx hb dX12_next_231 rfl (lv_at hl 0 rfl) ?_
                  refine lv_dup hx hb dX12_next_232 rfl ?_
                  refine gf12_59 hx hb hG hown hW (o := 69) (ltN hN 69 rfl) gk69 (v := .int x69_59j35) w_x69_59 gx1313 dX12_next_233 ?_
                  refine lv_iconst (v := 1) hx hb dX12_next_236 (by decide) ?_
                  refine lv_iadd hx hb dX12_next_237 ?_
                  refine gp12_59 hx hb hG hown hW hS (o := 69) (ltN hN 69 rfl) gk69 (v := (x69_59j35 + 1)) gx1313 dX12_next_238 (fun m38 H locs hm38 ho38 hW hS => ?_)
                  have ho38 := off1 ho38
                  have w_x69_58 : m38 6958 = .int t2_29 := (ho38 6958 rfl).trans w_x69_58
                  have w_x69_59 : m38 6959 = .int (x69_59j35 + 1) := hm38
                  have w_x69_60 : m38 6960 = .int 2 := (ho38 6960 rfl).trans w_x69_60
                  have w_x69_61 : m38 6961 = .long 0 := (ho38 6961 rfl).trans w_x69_61
                  have w_x69_62 : m38 6962 = .int s0j35 := (ho38 6962 rfl).trans w_x69_62
                  have hoff := offm hoff ho38 (by decide +kernel)
                  have hsh := SH.off hsh ho38 (by decide +kernel)
                  refine lv_goto (tgt := 178) hx hb dX12_next_241 (by decide) ?_
                  exact ih1 (x69_59j35 + 1) s0j35 m38 _ _ w_x69_58 w_x69_59 w_x69_60 w_x69_61 w_x69_62 hoff hsh ls (lv_sub hl [0, 1] rfl) (hXr1 _ (Option.some.inj hs1).symm) hW hS
                refine lv_aload_n hx hb dX12_next_178 rfl (lv_at hl 0 rfl) ?_
                refine lv_aload_n hx hb dX12_next_179 rfl (lv_at hl 0 rfl) ?_
                refine gf12_59 hx hb hG hown hW (o := 69) (ltN hN 69 rfl) gk69 (v := .int x69_59k22) w_x69_59 gx1313 dX12_next_180 ?_
                obtain ⟨r31, hf31, hs1⟩ := obind hs1
                refine g_ViR (n := 1) hx hb hml hown hG hW hS [.int x69_59k22] (kX12_byteAt hN hsh ((hoff 6957 rfl).trans h_x69_57) h_A75 x69_59k22 hf31) (ltN hN 69 rfl) gk69 (by decide) rfl rfl (gd_V gx1323 gx1324 gx1325 gx5 gx1326) rfl rfl (by decide) ⟨Nat.le_of_ble_eq_true rfl, Nat.le_of_ble_eq_true rfl⟩ rfl hl (Nat.le_of_ble_eq_true rfl) ⟨Nat.zero_le _, Nat.zero_le _⟩ dX12_next_183 (fun H locs hW hS => ?_)
                refine g_SiR (n := 1) hx hb hml hown hG hW hS [.int r31] (kX12_isDigit hN r31) rfl (gd_S gx1330 gx1331 gx5 gx1332) rfl rfl (by decide) ⟨Nat.le_of_ble_eq_true rfl, Nat.le_of_ble_eq_true rfl⟩ rfl hl (Nat.le_of_ble_eq_true rfl) ⟨Nat.zero_le _, Nat.zero_le _⟩ dX12_next_186 (fun H locs hW hS => ?_)
                refine lv_if_eq (tgt := 272) hx hb dX12_next_189 (by decide) (fun c33 => ?_) (fun c33 => ?_)
                · rw [if_pos c33] at hs1
                  exact hE1_272 (x69_59k22, x69_62k22) (hXl1 _ (Option.some.inj hs1).symm) m _ _ w_x69_58 w_x69_59 w_x69_60 w_x69_61 w_x69_62 hoff hsh ls (lv_sub hl [] rfl) hW hS
                · rw [if_neg c33] at hs1
                  refine lv_aload_n hx hb dX12_next_192 rfl (lv_at hl 0 rfl) ?_
                  refine lv_aload_n hx hb dX12_next_193 rfl (lv_at hl 0 rfl) ?_
                  refine gf12_59 hx hb hG hown hW (o := 69) (ltN hN 69 rfl) gk69 (v := .int x69_59k22) w_x69_59 gx1313 dX12_next_194 ?_
                  refine lv_iload_n hx hb dX12_next_197 rfl (lv_at hl 1 rfl) ?_
                  refine lv_isub hx hb dX12_next_198 ?_
                  refine lv_iconst (v := 2) hx hb dX12_next_199 (by decide) ?_
                  refine lv_icmp_ge (tgt := 225) hx hb dX12_next_200 (by decide) (fun c34 => ?_) (fun c34 => ?_)
                  · rw [if_pos c34] at hs1
                    refine lv_sipush (v := 1000) hx hb dX12_next_225 (by decide) ?_
                    exact hJ228_1 1000 x69_59k22 x69_62k22 m _ _ w_x69_58 w_x69_59 w_x69_60 w_x69_61 w_x69_62 hoff hsh ls (lv_sub hl [0, 1] rfl) hs1 hW hS
                  · rw [if_neg c34] at hs1
                    refine lv_bipush (v := 10) hx hb dX12_next_203 (by decide) ?_
                    refine lv_aload_n hx hb dX12_next_205 rfl (lv_at hl 0 rfl) ?_
                    refine gf12_62 hx hb hG hown hW (o := 69) (ltN hN 69 rfl) gk69 (v := .int x69_62k22) w_x69_62 gx1321 dX12_next_206 ?_
                    refine lv_imul hx hb dX12_next_209 ?_
                    refine lv_aload_n hx hb dX12_next_210 rfl (lv_at hl 0 rfl) ?_
                    refine lv_aload_n hx hb dX12_next_211 rfl (lv_at hl 0 rfl) ?_
                    refine gf12_59 hx hb hG hown hW (o := 69) (ltN hN 69 rfl) gk69 (v := .int x69_59k22) w_x69_59 gx1313 dX12_next_212 ?_
                    obtain ⟨r36, hf36, hs1⟩ := obind hs1
                    refine g_ViR (n := 1) hx hb hml hown hG hW hS [.int x69_59k22] (kX12_byteAt hN hsh ((hoff 6957 rfl).trans h_x69_57) h_A75 x69_59k22 hf36) (ltN hN 69 rfl) gk69 (by decide) rfl rfl (gd_V gx1323 gx1324 gx1325 gx5 gx1326) rfl rfl (by decide) ⟨Nat.le_of_ble_eq_true rfl, Nat.le_of_ble_eq_true rfl⟩ rfl hl (Nat.le_of_ble_eq_true rfl) ⟨Nat.zero_le _, Nat.zero_le _⟩ dX12_next_215 (fun H locs hW hS => ?_)
                    refine lv_iadd hx hb dX12_next_218 ?_
                    refine lv_bipush (v := 48) hx hb dX12_next_219 (by decide) ?_
                    refine lv_isub hx hb dX12_next_221 ?_
                    refine lv_goto (tgt := 228) hx hb dX12_next_222 (by decide) ?_
                    exact hJ228_1 (((10 * x69_62k22) + r36) - 48) x69_59k22 x69_62k22 m _ _ w_x69_58 w_x69_59 w_x69_60 w_x69_61 w_x69_62 hoff hsh ls (lv_sub hl [0, 1] rfl) hs1 hW hS
            exact hL1 F t2_29 0 m21 _ _ w_x69_58 w_x69_59 w_x69_60 w_x69_61 w_x69_62 hoff hsh ls (lv_sub hl [1, 2] rfl) hg22 hW hS
        · rw [if_neg c13] at hs0
          refine lv_aload_n hx hb dX12_next_87 rfl (lv_at hl 1 rfl) ?_
          refine lv_iconst (v := 1) hx hb dX12_next_88 (by decide) ?_
          refine gp12_60 hx hb hG hown hW hS (o := 69) (ltN hN 69 rfl) gk69 (v := 1) gx1314 dX12_next_89 (fun m39 H locs hm39 ho39 hW hS => ?_)
          have ho39 := off1 ho39
          have w_x69_58 : m39 6958 = .int t2_29 := (ho39 6958 rfl).trans w_x69_58
          have w_x69_59 : m39 6959 = .int (t2_29 + 1) := (ho39 6959 rfl).trans w_x69_59
          have w_x69_60 : m39 6960 = .int 1 := hm39
          have w_x69_61 : m39 6961 = .long 0 := (ho39 6961 rfl).trans w_x69_61
          have w_x69_62 : m39 6962 = .int 0 := (ho39 6962 rfl).trans w_x69_62
          have hoff := offm hoff ho39 (by decide +kernel)
          have hsh := SH.off hsh ho39 (by decide +kernel)
          refine lv_aload_n hx hb dX12_next_92 rfl (lv_at hl 1 rfl) ?_
          refine lv_iload_n hx hb dX12_next_93 rfl (lv_at hl 2 rfl) ?_
          refine gp12_59 hx hb hG hown hW hS (o := 69) (ltN hN 69 rfl) gk69 (v := t2_29) gx1313 dX12_next_94 (fun m40 H locs hm40 ho40 hW hS => ?_)
          have ho40 := off1 ho40
          have w_x69_58 : m40 6958 = .int t2_29 := (ho40 6958 rfl).trans w_x69_58
          have w_x69_59 : m40 6959 = .int t2_29 := hm40
          have w_x69_60 : m40 6960 = .int 1 := (ho40 6960 rfl).trans w_x69_60
          have w_x69_61 : m40 6961 = .long 0 := (ho40 6961 rfl).trans w_x69_61
          have w_x69_62 : m40 6962 = .int 0 := (ho40 6962 rfl).trans w_x69_62
          have hoff := offm hoff ho40 (by decide +kernel)
          have hsh := SH.off hsh ho40 (by decide +kernel)
          obtain ⟨r41, hg41, hs0⟩ := obind hs0
          have hE1_272 : ∀ (t41_272 : Int32 × Int64) (hr41 : t41_272 = r41) (m : Nat → Value) (H : Heap) (locs : List Loc) (w_x69_58 : m 6958 = .int t2_29) (w_x69_59 : m 6959 = .int t41_272.1) (w_x69_60 : m 6960 = .int 1) (w_x69_61 : m 6961 = .long t41_272.2) (w_x69_62 : m 6962 = .int 0) (hoff : ∀ j, nel j [6958, 6959, 6960, 6961, 6962] = false → m j = m0 j) (hsh : SH q m) (ls : Array Slot) (hl : lv_has ls 3 []) (hW : GW D cy (gA N q s.heap.size) N q m a0 s H) (hS : va_S (gA N q s.heap.size) s.heap H locs), W p l e ({ frames := 1, cells := 0, slots := 0, locals := 21 } : Room) s M args below meth c H locs 0 0 (MQ below (va_Qv (fun (u : (Nat → Value) × (Nat → vp_A)) => u.1 6958 = .int X0.1 ∧ u.1 6959 = .int X0.2.1 ∧ u.1 6960 = .int X0.2.2.1 ∧ u.1 6961 = .long X0.2.2.2.1 ∧ u.1 6962 = .int X0.2.2.2.2 ∧ (∀ j, nel j [6958, 6959, 6960, 6961, 6962] = false → u.1 j = m0 j) ∧ u.2 = a0) (gB D cy N q s.heap.size) (gA N q s.heap.size)) args s 0 0 (gA N q s.heap.size)) (F0 M 272 ls []) := by
            intro t41_272 hr41 m H locs w_x69_58 w_x69_59 w_x69_60 w_x69_61 w_x69_62 hoff hsh ls hl hW hS
            subst hr41
            have hs0 := Option.some.inj hs0
            subst hs0
            exact W.vret hx hb hr (fun t ht hw => ⟨⟨(m, a0), rfl, ⟨w_x69_58, w_x69_59, w_x69_60, w_x69_61, w_x69_62, hoff, rfl⟩, g_end hW ht hw⟩, hS.F ht⟩) hS.2.2 dX12_next_272 hlocks
          have hL1 : ∀ (n : Nat) (x69_59k41 : Int32) (x69_61k41 : Int64) (m : Nat → Value) (H : Heap) (locs : List Loc) (w_x69_58 : m 6958 = .int t2_29) (w_x69_59 : m 6959 = .int x69_59k41) (w_x69_60 : m 6960 = .int 1) (w_x69_61 : m 6961 = .long x69_61k41) (w_x69_62 : m 6962 = .int 0) (hoff : ∀ j, nel j [6958, 6959, 6960, 6961, 6962] = false → m j = m0 j) (hsh : SH q m) (ls : Array Slot) (hl : lv_has ls 3 [(0, .ref (q 69)), (1, .int t2_29)]) (hg41 : gloop (fun u41 : (Int32 × Int64) => fX12_next_S97 F x69_57 x69_63 A75 t2_29 t2_29 1 0 u41.1 u41.2) n (x69_59k41, x69_61k41) = some r41) (hW : GW D cy (gA N q s.heap.size) N q m a0 s H) (hS : va_S (gA N q s.heap.size) s.heap H locs), W p l e ({ frames := 1, cells := 0, slots := 0, locals := 21 } : Room) s M args below meth c H locs 0 0 (MQ below (va_Qv (fun (u : (Nat → Value) × (Nat → vp_A)) => u.1 6958 = .int X0.1 ∧ u.1 6959 = .int X0.2.1 ∧ u.1 6960 = .int X0.2.2.1 ∧ u.1 6961 = .long X0.2.2.2.1 ∧ u.1 6962 = .int X0.2.2.2.2 ∧ (∀ j, nel j [6958, 6959, 6960, 6961, 6962] = false → u.1 j = m0 j) ∧ u.2 = a0) (gB D cy N q s.heap.size) (gA N q s.heap.size)) args s 0 0 (gA N q s.heap.size)) (F0 M 97 ls []) := by
            intro n
            induction n with
            | zero => intro x69_59k41 x69_61k41 m H locs w_x69_58 w_x69_59 w_x69_60 w_x69_61 w_x69_62 hoff hsh ls hl hg41 hW hS; exact (gl_zero hg41).elim
            | succ n ih1 =>
              intro x69_59k41 x69_61k41 m H locs w_x69_58 w_x69_59 w_x69_60 w_x69_61 w_x69_62 hoff hsh ls hl hg41 hW hS
              obtain ⟨X1, hs1, hXl1, hXr1⟩ := gl_succ hg41
              have hs1 : fX12_next_S97 F x69_57 x69_63 A75 t2_29 t2_29 1 0 x69_59k41 x69_61k41 = some X1 := hs1
              unfold fX12_next_S97 at hs1
              have hJ145_1 : ∀ (s0j54 : Int64) (x69_59j54 : Int32) (x69_61j54 : Int64) (m : Nat → Value) (H : Heap) (locs : List Loc) (w_x69_58 : m 6958 = .int t2_29) (w_x69_59 : m 6959 = .int x69_59j54) (w_x69_60 : m 6960 = .int 1) (w_x69_61 : m 6961 = .long x69_61j54) (w_x69_62 : m 6962 = .int 0) (hoff : ∀ j, nel j [6958, 6959, 6960, 6961, 6962] = false → m j = m0 j) (hsh : SH q m) (ls : Array Slot) (hl : lv_has ls 3 [(0, .ref (q 69)), (1, .int t2_29)]) (hs1 : fX12_next_J145 F x69_57 x69_63 A75 t2_29 s0j54 t2_29 x69_59j54 1 x69_61j54 0 = some X1) (hW : GW D cy (gA N q s.heap.size) N q m a0 s H) (hS : va_S (gA N q s.heap.size) s.heap H locs), W p l e ({ frames := 1, cells := 0, slots := 0, locals := 21 } : Room) s M args below meth c H locs 0 0 (MQ below (va_Qv (fun (u : (Nat → Value) × (Nat → vp_A)) => u.1 6958 = .int X0.1 ∧ u.1 6959 = .int X0.2.1 ∧ u.1 6960 = .int X0.2.2.1 ∧ u.1 6961 = .long X0.2.2.2.1 ∧ u.1 6962 = .int X0.2.2.2.2 ∧ (∀ j, nel j [6958, 6959, 6960, 6961, 6962] = false → u.1 j = m0 j) ∧ u.2 = a0) (gB D cy N q s.heap.size) (gA N q s.heap.size)) args s 0 0 (gA N q s.heap.size)) (F0 M 145 ls [.long s0j54, .ref (q 69)]) := by
                intro s0j54 x69_59j54 x69_61j54 m H locs w_x69_58 w_x69_59 w_x69_60 w_x69_61 w_x69_62 hoff hsh ls hl hs1 hW hS
                unfold fX12_next_J145 at hs1
                refine gp12_61 hx hb hG hown hW hS (o := 69) (ltN hN 69 rfl) gk69 (v := s0j54) gx1320 dX12_next_145 (fun m56 H locs hm56 ho56 hW hS => ?_)
                have ho56 := off1 ho56
                have w_x69_58 : m56 6958 = .int t2_29 := (ho56 6958 rfl).trans w_x69_58
                have w_x69_59 : m56 6959 = .int x69_59j54 := (ho56 6959 rfl).trans w_x69_59
                have w_x69_60 : m56 6960 = .int 1 := (ho56 6960 rfl).trans w_x69_60
                have w_x69_61 : m56 6961 = .long s0j54 := hm56
                have w_x69_62 : m56 6962 = .int 0 := (ho56 6962 rfl).trans w_x69_62
                have hoff := offm hoff ho56 (by decide +kernel)
                have hsh := SH.off hsh ho56 (by decide +kernel)
                refine lv_aload_n hx hb dX12_next_148 rfl (lv_at hl 0 rfl) ?_
                refine lv_dup hx hb dX12_next_149 rfl ?_
                refine gf12_59 hx hb hG hown hW (o := 69) (ltN hN 69 rfl) gk69 (v := .int x69_59j54) w_x69_59 gx1313 dX12_next_150 ?_
                refine lv_iconst (v := 1) hx hb dX12_next_153 (by decide) ?_
                refine lv_iadd hx hb dX12_next_154 ?_
                refine gp12_59 hx hb hG hown hW hS (o := 69) (ltN hN 69 rfl) gk69 (v := (x69_59j54 + 1)) gx1313 dX12_next_155 (fun m57 H locs hm57 ho57 hW hS => ?_)
                have ho57 := off1 ho57
                have w_x69_58 : m57 6958 = .int t2_29 := (ho57 6958 rfl).trans w_x69_58
                have w_x69_59 : m57 6959 = .int (x69_59j54 + 1) := hm57
                have w_x69_60 : m57 6960 = .int 1 := (ho57 6960 rfl).trans w_x69_60
                have w_x69_61 : m57 6961 = .long s0j54 := (ho57 6961 rfl).trans w_x69_61
                have w_x69_62 : m57 6962 = .int 0 := (ho57 6962 rfl).trans w_x69_62
                have hoff := offm hoff ho57 (by decide +kernel)
                have hsh := SH.off hsh ho57 (by decide +kernel)
                refine lv_goto (tgt := 97) hx hb dX12_next_158 (by decide) ?_
                exact ih1 (x69_59j54 + 1) s0j54 m57 _ _ w_x69_58 w_x69_59 w_x69_60 w_x69_61 w_x69_62 hoff hsh ls (lv_sub hl [0, 1] rfl) (hXr1 _ (Option.some.inj hs1).symm) hW hS
              refine lv_aload_n hx hb dX12_next_97 rfl (lv_at hl 0 rfl) ?_
              refine lv_aload_n hx hb dX12_next_98 rfl (lv_at hl 0 rfl) ?_
              refine gf12_59 hx hb hG hown hW (o := 69) (ltN hN 69 rfl) gk69 (v := .int x69_59k41) w_x69_59 gx1313 dX12_next_99 ?_
              obtain ⟨r50, hf50, hs1⟩ := obind hs1
              refine g_ViR (n := 1) hx hb hml hown hG hW hS [.int x69_59k41] (kX12_byteAt hN hsh ((hoff 6957 rfl).trans h_x69_57) h_A75 x69_59k41 hf50) (ltN hN 69 rfl) gk69 (by decide) rfl rfl (gd_V gx1323 gx1324 gx1325 gx5 gx1326) rfl rfl (by decide) ⟨Nat.le_of_ble_eq_true rfl, Nat.le_of_ble_eq_true rfl⟩ rfl hl (Nat.le_of_ble_eq_true rfl) ⟨Nat.zero_le _, Nat.zero_le _⟩ dX12_next_102 (fun H locs hW hS => ?_)
              refine g_SiR (n := 1) hx hb hml hown hG hW hS [.int r50] (kX12_isSmall hN r50) rfl (gd_S gx1327 gx1328 gx5 gx1329) rfl rfl (by decide) ⟨Nat.le_of_ble_eq_true rfl, Nat.le_of_ble_eq_true rfl⟩ rfl hl (Nat.le_of_ble_eq_true rfl) ⟨Nat.zero_le _, Nat.zero_le _⟩ dX12_next_105 (fun H locs hW hS => ?_)
              refine lv_if_eq (tgt := 272) hx hb dX12_next_108 (by decide) (fun c52 => ?_) (fun c52 => ?_)
              · rw [if_pos c52] at hs1
                exact hE1_272 (x69_59k41, x69_61k41) (hXl1 _ (Option.some.inj hs1).symm) m _ _ w_x69_58 w_x69_59 w_x69_60 w_x69_61 w_x69_62 hoff hsh ls (lv_sub hl [] rfl) hW hS
              · rw [if_neg c52] at hs1
                refine lv_aload_n hx hb dX12_next_111 rfl (lv_at hl 0 rfl) ?_
                refine lv_aload_n hx hb dX12_next_112 rfl (lv_at hl 0 rfl) ?_
                refine gf12_59 hx hb hG hown hW (o := 69) (ltN hN 69 rfl) gk69 (v := .int x69_59k41) w_x69_59 gx1313 dX12_next_113 ?_
                refine lv_iload_n hx hb dX12_next_116 rfl (lv_at hl 1 rfl) ?_
                refine lv_isub hx hb dX12_next_117 ?_
                refine lv_bipush (v := 7) hx hb dX12_next_118 (by decide) ?_
                refine lv_icmp_ge (tgt := 144) hx hb dX12_next_120 (by decide) (fun c53 => ?_) (fun c53 => ?_)
                · rw [if_pos c53] at hs1
                  refine lv_lconst (v := 0) hx hb dX12_next_144 (by decide) ?_
                  exact hJ145_1 0 x69_59k41 x69_61k41 m _ _ w_x69_58 w_x69_59 w_x69_60 w_x69_61 w_x69_62 hoff hsh ls (lv_sub hl [0, 1] rfl) hs1 hW hS
                · rw [if_neg c53] at hs1
                  refine lv_ldc2 (v := 256) hx hb hown (hG _ gx1322) dX12_next_123 ?_
                  refine lv_aload_n hx hb dX12_next_126 rfl (lv_at hl 0 rfl) ?_
                  refine gf12_61 hx hb hG hown hW (o := 69) (ltN hN 69 rfl) gk69 (v := .long x69_61k41) w_x69_61 gx1320 dX12_next_127 ?_
                  refine lv_lmul hx hb dX12_next_130 ?_
                  refine lv_aload_n hx hb dX12_next_131 rfl (lv_at hl 0 rfl) ?_
                  refine lv_aload_n hx hb dX12_next_132 rfl (lv_at hl 0 rfl) ?_
                  refine gf12_59 hx hb hG hown hW (o := 69) (ltN hN 69 rfl) gk69 (v := .int x69_59k41) w_x69_59 gx1313 dX12_next_133 ?_
                  obtain ⟨r55, hf55, hs1⟩ := obind hs1
                  refine g_ViR (n := 1) hx hb hml hown hG hW hS [.int x69_59k41] (kX12_byteAt hN hsh ((hoff 6957 rfl).trans h_x69_57) h_A75 x69_59k41 hf55) (ltN hN 69 rfl) gk69 (by decide) rfl rfl (gd_V gx1323 gx1324 gx1325 gx5 gx1326) rfl rfl (by decide) ⟨Nat.le_of_ble_eq_true rfl, Nat.le_of_ble_eq_true rfl⟩ rfl hl (Nat.le_of_ble_eq_true rfl) ⟨Nat.zero_le _, Nat.zero_le _⟩ dX12_next_136 (fun H locs hW hS => ?_)
                  refine lv_i2l hx hb dX12_next_139 rfl ?_
                  refine lv_ladd hx hb dX12_next_140 ?_
                  refine lv_goto (tgt := 145) hx hb dX12_next_141 (by decide) ?_
                  exact hJ145_1 ((256 * x69_61k41) + r55.toInt64) x69_59k41 x69_61k41 m _ _ w_x69_58 w_x69_59 w_x69_60 w_x69_61 w_x69_62 hoff hsh ls (lv_sub hl [0, 1] rfl) hs1 hW hS
          exact hL1 F t2_29 0 m40 _ _ w_x69_58 w_x69_59 w_x69_60 w_x69_61 w_x69_62 hoff hsh ls (lv_sub hl [1, 2] rfl) hg41 hW hS
      · rw [if_pos c11] at hs0
        refine lv_aload_n hx hb dX12_next_67 rfl (lv_at hl 1 rfl) ?_
        refine lv_iconst (v := 0) hx hb dX12_next_68 (by decide) ?_
        refine gp12_60 hx hb hG hown hW hS (o := 69) (ltN hN 69 rfl) gk69 (v := 0) gx1314 dX12_next_69 (fun m58 H locs hm58 ho58 hW hS => ?_)
        have ho58 := off1 ho58
        have w_x69_58 : m58 6958 = .int t2_29 := (ho58 6958 rfl).trans w_x69_58
        have w_x69_59 : m58 6959 = .int (t2_29 + 1) := (ho58 6959 rfl).trans w_x69_59
        have w_x69_60 : m58 6960 = .int 0 := hm58
        have w_x69_61 : m58 6961 = .long 0 := (ho58 6961 rfl).trans w_x69_61
        have w_x69_62 : m58 6962 = .int 0 := (ho58 6962 rfl).trans w_x69_62
        have hoff := offm hoff ho58 (by decide +kernel)
        have hsh := SH.off hsh ho58 (by decide +kernel)
        refine lv_aload_n hx hb dX12_next_72 rfl (lv_at hl 1 rfl) ?_
        refine lv_iload_n hx hb dX12_next_73 rfl (lv_at hl 2 rfl) ?_
        refine gp12_59 hx hb hG hown hW hS (o := 69) (ltN hN 69 rfl) gk69 (v := t2_29) gx1313 dX12_next_74 (fun m59 H locs hm59 ho59 hW hS => ?_)
        have ho59 := off1 ho59
        have w_x69_58 : m59 6958 = .int t2_29 := (ho59 6958 rfl).trans w_x69_58
        have w_x69_59 : m59 6959 = .int t2_29 := hm59
        have w_x69_60 : m59 6960 = .int 0 := (ho59 6960 rfl).trans w_x69_60
        have w_x69_61 : m59 6961 = .long 0 := (ho59 6961 rfl).trans w_x69_61
        have w_x69_62 : m59 6962 = .int 0 := (ho59 6962 rfl).trans w_x69_62
        have hoff := offm hoff ho59 (by decide +kernel)
        have hsh := SH.off hsh ho59 (by decide +kernel)
        refine lv_goto (tgt := 272) hx hb dX12_next_77 (by decide) ?_
        have hs0 := Option.some.inj hs0
        subst hs0
        exact W.vret hx hb hr (fun t ht hw => ⟨⟨(m59, a0), rfl, ⟨w_x69_58, w_x69_59, w_x69_60, w_x69_61, w_x69_62, hoff, rfl⟩, g_end hW ht hw⟩, hS.F ht⟩) hS.2.2 dX12_next_272 hlocks
    have hL1 : ∀ (n : Nat) (v1k2 : Int32) (m : Nat → Value) (H : Heap) (locs : List Loc) (w_x69_58 : m 6958 = .int x69_58) (w_x69_59 : m 6959 = .int x69_59) (w_x69_60 : m 6960 = .int x69_60) (w_x69_61 : m 6961 = .long x69_61) (w_x69_62 : m 6962 = .int x69_62) (hoff : ∀ j, nel j [6958, 6959, 6960, 6961, 6962] = false → m j = m0 j) (hsh : SH q m) (ls : Array Slot) (hl : lv_has ls 3 [(0, .ref (q 69)), (1, .int v1k2)]) (hg2 : gloop (fun u2 : Int32 => fX12_next_S13 F x69_57 x69_63 A75 x69_58 x69_59 x69_60 x69_61 x69_62 u2) n v1k2 = some r2) (hW : GW D cy (gA N q s.heap.size) N q m a0 s H) (hS : va_S (gA N q s.heap.size) s.heap H locs), W p l e ({ frames := 1, cells := 0, slots := 0, locals := 21 } : Room) s M args below meth c H locs 0 0 (MQ below (va_Qv (fun (u : (Nat → Value) × (Nat → vp_A)) => u.1 6958 = .int X0.1 ∧ u.1 6959 = .int X0.2.1 ∧ u.1 6960 = .int X0.2.2.1 ∧ u.1 6961 = .long X0.2.2.2.1 ∧ u.1 6962 = .int X0.2.2.2.2 ∧ (∀ j, nel j [6958, 6959, 6960, 6961, 6962] = false → u.1 j = m0 j) ∧ u.2 = a0) (gB D cy N q s.heap.size) (gA N q s.heap.size)) args s 0 0 (gA N q s.heap.size)) (F0 M 13 ls []) := by
      intro n
      induction n with
      | zero => intro v1k2 m H locs w_x69_58 w_x69_59 w_x69_60 w_x69_61 w_x69_62 hoff hsh ls hl hg2 hW hS; exact (gl_zero hg2).elim
      | succ n ih1 =>
        intro v1k2 m H locs w_x69_58 w_x69_59 w_x69_60 w_x69_61 w_x69_62 hoff hsh ls hl hg2 hW hS
        obtain ⟨X1, hs1, hXl1, hXr1⟩ := gl_succ hg2
        have hs1 : fX12_next_S13 F x69_57 x69_63 A75 x69_58 x69_59 x69_60 x69_61 x69_62 v1k2 = some X1 := hs1
        unfold fX12_next_S13 at hs1
        refine lv_aload_n hx hb dX12_next_13 rfl (lv_at hl 0 rfl) ?_
        refine lv_iload_n hx hb dX12_next_14 rfl (lv_at hl 1 rfl) ?_
        obtain ⟨r60, hf60, hs1⟩ := obind hs1
        refine g_ViR (n := 1) hx hb hml hown hG hW hS [.int v1k2] (kX12_byteAt hN hsh ((hoff 6957 rfl).trans h_x69_57) h_A75 v1k2 hf60) (ltN hN 69 rfl) gk69 (by decide) rfl rfl (gd_V gx1323 gx1324 gx1325 gx5 gx1326) rfl rfl (by decide) ⟨Nat.le_of_ble_eq_true rfl, Nat.le_of_ble_eq_true rfl⟩ rfl hl (Nat.le_of_ble_eq_true rfl) ⟨Nat.zero_le _, Nat.zero_le _⟩ dX12_next_15 (fun H locs hW hS => ?_)
        refine lv_bipush (v := 32) hx hb dX12_next_18 (by decide) ?_
        refine lv_icmp_ne (tgt := 29) hx hb dX12_next_20 (by decide) (fun c61 => ?_) (fun c61 => ?_)
        · rw [if_neg c61] at hs1
          exact hE1_29 v1k2 (hXl1 _ (Option.some.inj hs1).symm) m _ _ w_x69_58 w_x69_59 w_x69_60 w_x69_61 w_x69_62 hoff hsh ls (lv_sub hl [0, 1] rfl) hW hS
        · rw [if_pos c61] at hs1
          refine lv_iinc (v := v1k2 + 1) (lv' := [(1, .int (v1k2 + 1)), (0, .ref (q 69))]) hx hb dX12_next_23 hl (k := 1) rfl rfl (by decide) rfl (fun ls hl => ?_)
          refine lv_goto (tgt := 13) hx hb dX12_next_26 (by decide) ?_
          exact ih1 (v1k2 + 1) m _ _ w_x69_58 w_x69_59 w_x69_60 w_x69_61 w_x69_62 hoff hsh ls (lv_sub hl [1, 0] rfl) (hXr1 _ (Option.some.inj hs1).symm) hW hS
    exact hL1 F x69_59 m0 _ _ h_x69_58 h_x69_59 h_x69_60 h_x69_61 h_x69_62 hoff hsh ls (lv_sub hl [1, 0] rfl) hg2 hW hS
  · rw [if_neg c1] at hs0
    have hs0 := Option.some.inj hs0
    subst hs0
    exact W.vret hx hb hr (fun t ht hw => ⟨⟨(m0, a0), rfl, ⟨h_x69_58, h_x69_59, h_x69_60, h_x69_61, h_x69_62, hoff, rfl⟩, g_end hW ht hw⟩, hS.F ht⟩) hS.2.2 dX12_next_7 hlocks
-- HealLinkModel.wrong (I)V
def fX12_wrong (x69_58 : Int32) (x69_63 : Int32) (p1 : Int32) : Int32 := (if x69_63 = 0 then (8 * x69_58) + p1 else x69_63)
theorem dX12_wrong_0 : decode cX12_wrong 0 = .ok (.aload_n 0, 1) := by decide +kernel
theorem dX12_wrong_1 : decode cX12_wrong 1 = .ok (.getfield 356, 3) := by decide +kernel
theorem dX12_wrong_4 : decode cX12_wrong 4 = .ok (.ifCond .ne 16, 3) := by decide +kernel
theorem dX12_wrong_7 : decode cX12_wrong 7 = .ok (.aload_n 0, 1) := by decide +kernel
theorem dX12_wrong_8 : decode cX12_wrong 8 = .ok (.bipush 8, 2) := by decide +kernel
theorem dX12_wrong_10 : decode cX12_wrong 10 = .ok (.aload_n 0, 1) := by decide +kernel
theorem dX12_wrong_11 : decode cX12_wrong 11 = .ok (.getfield 365, 3) := by decide +kernel
theorem dX12_wrong_14 : decode cX12_wrong 14 = .ok (.imul, 1) := by decide +kernel
theorem dX12_wrong_15 : decode cX12_wrong 15 = .ok (.iload_n 1, 1) := by decide +kernel
theorem dX12_wrong_16 : decode cX12_wrong 16 = .ok (.iadd, 1) := by decide +kernel
theorem dX12_wrong_17 : decode cX12_wrong 17 = .ok (.putfield 356, 3) := by decide +kernel
theorem dX12_wrong_20 : decode cX12_wrong 20 = .ok (.return_, 1) := by decide +kernel
set_option maxHeartbeats 4000000 in
set_option maxRecDepth 100000 in
theorem kX12_wrong {l : Launch} {D : va_G} {cy : Nat → ClassId} {N : Nat} {q : Nat → Nat} {m0 : Nat → Value} {a0 : Nat → vp_A} {sz : Nat} (hN : 105 ≤ N) (hsh : SH q m0) {x69_58 : Int32} (h_x69_58 : m0 6958 = .int x69_58) {x69_63 : Int32} (h_x69_63 : m0 6963 = .int x69_63) (p1 : Int32) : gMv l yX12_wrong cX12_wrong 2 none ({ frames := 0, cells := 0, slots := 0, locals := 0 } : Room) D cy N q m0 a0 sz [.ref (q 69), .int p1] (fun m' a' => m' 6963 = .int (fX12_wrong x69_58 x69_63 p1) ∧ (∀ j, nel j [6963] = false → m' j = m0 j) ∧ a' = a0) := by
  generalize hs0 : fX12_wrong x69_58 x69_63 p1 = X0
  refine g_ofv (by decide) (Nat.le_of_ble_eq_true rfl) ?_
  intro p e s M args below meth c hx hb hr hG hown hin hlocks hml hW hS ls hl
  unfold fX12_wrong at hs0
  have hoff : ∀ j, nel j [6963] = false → m0 j = m0 j := off0
  refine lv_aload_n hx hb dX12_wrong_0 rfl (lv_at hl 0 rfl) ?_
  refine gf12_63 hx hb hG hown hW (o := 69) (ltN hN 69 rfl) gk69 (v := .int x69_63) h_x69_63 gx1305 dX12_wrong_1 ?_
  refine lv_if_ne (tgt := 20) hx hb dX12_wrong_4 (by decide) (fun c1 => ?_) (fun c1 => ?_)
  · rw [if_neg c1] at hs0
    subst hs0
    exact W.vret hx hb hr (fun t ht hw => ⟨⟨(m0, a0), rfl, ⟨h_x69_63, hoff, rfl⟩, g_end hW ht hw⟩, hS.F ht⟩) hS.2.2 dX12_wrong_20 hlocks
  · rw [if_pos c1] at hs0
    refine lv_aload_n hx hb dX12_wrong_7 rfl (lv_at hl 0 rfl) ?_
    refine lv_bipush (v := 8) hx hb dX12_wrong_8 (by decide) ?_
    refine lv_aload_n hx hb dX12_wrong_10 rfl (lv_at hl 0 rfl) ?_
    refine gf12_58 hx hb hG hown hW (o := 69) (ltN hN 69 rfl) gk69 (v := .int x69_58) ((hoff 6958 rfl).trans h_x69_58) gx1319 dX12_wrong_11 ?_
    refine lv_imul hx hb dX12_wrong_14 ?_
    refine lv_iload_n hx hb dX12_wrong_15 rfl (lv_at hl 1 rfl) ?_
    refine lv_iadd hx hb dX12_wrong_16 ?_
    refine gp12_63 hx hb hG hown hW hS (o := 69) (ltN hN 69 rfl) gk69 (v := ((8 * x69_58) + p1)) gx1305 dX12_wrong_17 (fun m2 H locs hm2 ho2 hW hS => ?_)
    have ho2 := off1 ho2
    have w_x69_63 : m2 6963 = .int ((8 * x69_58) + p1) := hm2
    have hoff := offm hoff ho2 (by decide +kernel)
    have hsh := SH.off hsh ho2 (by decide +kernel)
    subst hs0
    exact W.vret hx hb hr (fun t ht hw => ⟨⟨(m2, a0), rfl, ⟨w_x69_63, hoff, rfl⟩, g_end hW ht hw⟩, hS.F ht⟩) hS.2.2 dX12_wrong_20 hlocks
-- HealLinkModel.must (I)V
def fX12_must_J28 (F : Nat) (x69_57 : Int32) (A75 : Nat → Int32) (x69_58j2 : Int32) (x69_59j2 : Int32) (x69_60j2 : Int32) (x69_61j2 : Int64) (x69_62j2 : Int32) (x69_63j2 : Int32) : Option (Int32 × Int32 × Int32 × Int64 × Int32 × Int32) := ((fX12_next F x69_57 x69_63j2 A75 x69_58j2 x69_59j2 x69_60j2 x69_61j2 x69_62j2).bind (fun r6 => some (r6.1, r6.2.1, r6.2.2.1, r6.2.2.2.1, r6.2.2.2.2, x69_63j2)))
def fX12_must_J23 (F : Nat) (x69_57 : Int32) (A75 : Nat → Int32) (x69_58j4 : Int32) (x69_59j4 : Int32) (x69_60j4 : Int32) (x69_61j4 : Int64) (x69_62j4 : Int32) (x69_63j4 : Int32) : Option (Int32 × Int32 × Int32 × Int64 × Int32 × Int32) := fX12_must_J28 F x69_57 A75 x69_58j4 x69_59j4 x69_60j4 x69_61j4 x69_62j4 (fX12_wrong x69_58j4 x69_63j4 1)
def fX12_must (F : Nat) (x69_57 : Int32) (A75 : Nat → Int32) (x69_58 : Int32) (x69_59 : Int32) (x69_60 : Int32) (x69_61 : Int64) (x69_62 : Int32) (x69_63 : Int32) (p1 : Int32) : Option (Int32 × Int32 × Int32 × Int64 × Int32 × Int32) := (if x69_63 = 0 then (if x69_60 = 3 then (if x69_62 = p1 then fX12_must_J28 F x69_57 A75 x69_58 x69_59 x69_60 x69_61 x69_62 x69_63 else fX12_must_J23 F x69_57 A75 x69_58 x69_59 x69_60 x69_61 x69_62 x69_63) else fX12_must_J23 F x69_57 A75 x69_58 x69_59 x69_60 x69_61 x69_62 x69_63) else fX12_must_J28 F x69_57 A75 x69_58 x69_59 x69_60 x69_61 x69_62 x69_63)
theorem dX12_must_0 : decode cX12_must 0 = .ok (.aload_n 0, 1) := by decide +kernel
theorem dX12_must_1 : decode cX12_must 1 = .ok (.getfield 356, 3) := by decide +kernel
theorem dX12_must_4 : decode cX12_must 4 = .ok (.ifCond .ne 24, 3) := by decide +kernel
theorem dX12_must_7 : decode cX12_must 7 = .ok (.aload_n 0, 1) := by decide +kernel
theorem dX12_must_8 : decode cX12_must 8 = .ok (.getfield 368, 3) := by decide +kernel
theorem dX12_must_11 : decode cX12_must 11 = .ok (.iconst 3, 1) := by decide +kernel
theorem dX12_must_12 : decode cX12_must 12 = .ok (.if_icmp .ne 11, 3) := by decide +kernel
theorem dX12_must_15 : decode cX12_must 15 = .ok (.aload_n 0, 1) := by decide +kernel
theorem dX12_must_16 : decode cX12_must 16 = .ok (.getfield 374, 3) := by decide +kernel
theorem dX12_must_19 : decode cX12_must 19 = .ok (.iload_n 1, 1) := by decide +kernel
theorem dX12_must_20 : decode cX12_must 20 = .ok (.if_icmp .eq 8, 3) := by decide +kernel
theorem dX12_must_23 : decode cX12_must 23 = .ok (.aload_n 0, 1) := by decide +kernel
theorem dX12_must_24 : decode cX12_must 24 = .ok (.iconst 1, 1) := by decide +kernel
theorem dX12_must_25 : decode cX12_must 25 = .ok (.invokevirtual 399, 3) := by decide +kernel
theorem dX12_must_28 : decode cX12_must 28 = .ok (.aload_n 0, 1) := by decide +kernel
theorem dX12_must_29 : decode cX12_must 29 = .ok (.invokevirtual 402, 3) := by decide +kernel
theorem dX12_must_32 : decode cX12_must 32 = .ok (.return_, 1) := by decide +kernel
set_option maxHeartbeats 4000000 in
set_option maxRecDepth 100000 in
theorem kX12_must {l : Launch} {D : va_G} {cy : Nat → ClassId} {N : Nat} {q : Nat → Nat} {m0 : Nat → Value} {a0 : Nat → vp_A} {sz : Nat} (hN : 105 ≤ N) (hsh : SH q m0) {x69_57 : Int32} (h_x69_57 : m0 6957 = .int x69_57) {A75 : Nat → Int32} (h_A75 : a0 75 = (264, .inl A75)) {x69_58 : Int32} (h_x69_58 : m0 6958 = .int x69_58) {x69_59 : Int32} (h_x69_59 : m0 6959 = .int x69_59) {x69_60 : Int32} (h_x69_60 : m0 6960 = .int x69_60) {x69_61 : Int64} (h_x69_61 : m0 6961 = .long x69_61) {x69_62 : Int32} (h_x69_62 : m0 6962 = .int x69_62) {x69_63 : Int32} (h_x69_63 : m0 6963 = .int x69_63) (F : Nat) (p1 : Int32) {X0 : Int32 × Int32 × Int32 × Int64 × Int32 × Int32} (hs0 : fX12_must F x69_57 A75 x69_58 x69_59 x69_60 x69_61 x69_62 x69_63 p1 = some X0) : gMv l yX12_must cX12_must 2 none ({ frames := 2, cells := 0, slots := 0, locals := 43 } : Room) D cy N q m0 a0 sz [.ref (q 69), .int p1] (fun m' a' => m' 6958 = .int X0.1 ∧ m' 6959 = .int X0.2.1 ∧ m' 6960 = .int X0.2.2.1 ∧ m' 6961 = .long X0.2.2.2.1 ∧ m' 6962 = .int X0.2.2.2.2.1 ∧ m' 6963 = .int X0.2.2.2.2.2 ∧ (∀ j, nel j [6958, 6959, 6960, 6961, 6962, 6963] = false → m' j = m0 j) ∧ a' = a0) := by
  refine g_ofv (by decide) (Nat.le_of_ble_eq_true rfl) ?_
  intro p e s M args below meth c hx hb hr hG hown hin hlocks hml hW hS ls hl
  unfold fX12_must at hs0
  have hoff : ∀ j, nel j [6958, 6959, 6960, 6961, 6962, 6963] = false → m0 j = m0 j := off0
  have hJ28_0 : ∀ (x69_58j2 : Int32) (x69_59j2 : Int32) (x69_60j2 : Int32) (x69_61j2 : Int64) (x69_62j2 : Int32) (x69_63j2 : Int32) (m : Nat → Value) (H : Heap) (locs : List Loc) (w_x69_58 : m 6958 = .int x69_58j2) (w_x69_59 : m 6959 = .int x69_59j2) (w_x69_60 : m 6960 = .int x69_60j2) (w_x69_61 : m 6961 = .long x69_61j2) (w_x69_62 : m 6962 = .int x69_62j2) (w_x69_63 : m 6963 = .int x69_63j2) (hoff : ∀ j, nel j [6958, 6959, 6960, 6961, 6962, 6963] = false → m j = m0 j) (hsh : SH q m) (ls : Array Slot) (hl : lv_has ls 2 [(0, .ref (q 69))]) (hs0 : fX12_must_J28 F x69_57 A75 x69_58j2 x69_59j2 x69_60j2 x69_61j2 x69_62j2 x69_63j2 = some X0) (hW : GW D cy (gA N q s.heap.size) N q m a0 s H) (hS : va_S (gA N q s.heap.size) s.heap H locs), W p l e ({ frames := 2, cells := 0, slots := 0, locals := 43 } : Room) s M args below meth c H locs 0 0 (MQ below (va_Qv (fun (u : (Nat → Value) × (Nat → vp_A)) => u.1 6958 = .int X0.1 ∧ u.1 6959 = .int X0.2.1 ∧ u.1 6960 = .int X0.2.2.1 ∧ u.1 6961 = .long X0.2.2.2.1 ∧ u.1 6962 = .int X0.2.2.2.2.1 ∧ u.1 6963 = .int X0.2.2.2.2.2 ∧ (∀ j, nel j [6958, 6959, 6960, 6961, 6962, 6963] = false → u.1 j = m0 j) ∧ u.2 = a0) (gB D cy N q s.heap.size) (gA N q s.heap.size)) args s 0 0 (gA N q s.heap.size)) (F0 M 28 ls []) := by
    intro x69_58j2 x69_59j2 x69_60j2 x69_61j2 x69_62j2 x69_63j2 m H locs w_x69_58 w_x69_59 w_x69_60 w_x69_61 w_x69_62 w_x69_63 hoff hsh ls hl hs0 hW hS
    unfold fX12_must_J28 at hs0
    refine lv_aload_n hx hb dX12_must_28 rfl (lv_at hl 0 rfl) ?_
    obtain ⟨r6, hf6, hs0⟩ := obind hs0
    refine g_Vv (n := 0) hx hb hml hown hG hW hS [] (kX12_next hN hsh ((hoff 6957 rfl).trans h_x69_57) w_x69_63 h_A75 w_x69_58 w_x69_59 w_x69_60 w_x69_61 w_x69_62 F hf6) (ltN hN 69 rfl) gk69 (by decide) rfl rfl (gd_V gx1315 gx1316 gx1317 gx5 gx1318) rfl rfl (by decide) ⟨Nat.le_of_ble_eq_true rfl, Nat.le_of_ble_eq_true rfl⟩ rfl hl (Nat.le_of_ble_eq_true rfl) ⟨Nat.zero_le _, Nat.zero_le _⟩ dX12_must_29 (fun m6 a6 H locs hp6 hW hS => ?_)
    obtain ⟨hp6_x69_58, hp6_x69_59, hp6_x69_60, hp6_x69_61, hp6_x69_62, ho6, ha6⟩ := hp6
    rw [ha6] at hW
    have w_x69_58 : m6 6958 = .int r6.1 := hp6_x69_58
    have w_x69_59 : m6 6959 = .int r6.2.1 := hp6_x69_59
    have w_x69_60 : m6 6960 = .int r6.2.2.1 := hp6_x69_60
    have w_x69_61 : m6 6961 = .long r6.2.2.2.1 := hp6_x69_61
    have w_x69_62 : m6 6962 = .int r6.2.2.2.2 := hp6_x69_62
    have w_x69_63 : m6 6963 = .int x69_63j2 := (ho6 6963 rfl).trans w_x69_63
    have hoff := offm hoff ho6 (by decide +kernel)
    have hsh := SH.off hsh ho6 (by decide +kernel)
    have hs0 := Option.some.inj hs0
    subst hs0
    exact W.vret hx hb hr (fun t ht hw => ⟨⟨(m6, a0), rfl, ⟨w_x69_58, w_x69_59, w_x69_60, w_x69_61, w_x69_62, w_x69_63, hoff, rfl⟩, g_end hW ht hw⟩, hS.F ht⟩) hS.2.2 dX12_must_32 hlocks
  have hJ23_0 : ∀ (x69_58j4 : Int32) (x69_59j4 : Int32) (x69_60j4 : Int32) (x69_61j4 : Int64) (x69_62j4 : Int32) (x69_63j4 : Int32) (m : Nat → Value) (H : Heap) (locs : List Loc) (w_x69_58 : m 6958 = .int x69_58j4) (w_x69_59 : m 6959 = .int x69_59j4) (w_x69_60 : m 6960 = .int x69_60j4) (w_x69_61 : m 6961 = .long x69_61j4) (w_x69_62 : m 6962 = .int x69_62j4) (w_x69_63 : m 6963 = .int x69_63j4) (hoff : ∀ j, nel j [6958, 6959, 6960, 6961, 6962, 6963] = false → m j = m0 j) (hsh : SH q m) (ls : Array Slot) (hl : lv_has ls 2 [(0, .ref (q 69))]) (hs0 : fX12_must_J23 F x69_57 A75 x69_58j4 x69_59j4 x69_60j4 x69_61j4 x69_62j4 x69_63j4 = some X0) (hW : GW D cy (gA N q s.heap.size) N q m a0 s H) (hS : va_S (gA N q s.heap.size) s.heap H locs), W p l e ({ frames := 2, cells := 0, slots := 0, locals := 43 } : Room) s M args below meth c H locs 0 0 (MQ below (va_Qv (fun (u : (Nat → Value) × (Nat → vp_A)) => u.1 6958 = .int X0.1 ∧ u.1 6959 = .int X0.2.1 ∧ u.1 6960 = .int X0.2.2.1 ∧ u.1 6961 = .long X0.2.2.2.1 ∧ u.1 6962 = .int X0.2.2.2.2.1 ∧ u.1 6963 = .int X0.2.2.2.2.2 ∧ (∀ j, nel j [6958, 6959, 6960, 6961, 6962, 6963] = false → u.1 j = m0 j) ∧ u.2 = a0) (gB D cy N q s.heap.size) (gA N q s.heap.size)) args s 0 0 (gA N q s.heap.size)) (F0 M 23 ls []) := by
    intro x69_58j4 x69_59j4 x69_60j4 x69_61j4 x69_62j4 x69_63j4 m H locs w_x69_58 w_x69_59 w_x69_60 w_x69_61 w_x69_62 w_x69_63 hoff hsh ls hl hs0 hW hS
    unfold fX12_must_J23 at hs0
    refine lv_aload_n hx hb dX12_must_23 rfl (lv_at hl 0 rfl) ?_
    refine lv_iconst (v := 1) hx hb dX12_must_24 (by decide) ?_
    refine g_Vv (n := 1) hx hb hml hown hG hW hS [.int 1] (kX12_wrong hN hsh w_x69_58 w_x69_63 1) (ltN hN 69 rfl) gk69 (by decide) rfl rfl (gd_V gx1344 gx1345 gx1346 gx5 gx1347) rfl rfl (by decide) ⟨Nat.le_of_ble_eq_true rfl, Nat.le_of_ble_eq_true rfl⟩ rfl hl (Nat.le_of_ble_eq_true rfl) ⟨Nat.zero_le _, Nat.zero_le _⟩ dX12_must_25 (fun m7 a7 H locs hp7 hW hS => ?_)
    obtain ⟨hp7_x69_63, ho7, ha7⟩ := hp7
    rw [ha7] at hW
    have w_x69_58 : m7 6958 = .int x69_58j4 := (ho7 6958 rfl).trans w_x69_58
    have w_x69_59 : m7 6959 = .int x69_59j4 := (ho7 6959 rfl).trans w_x69_59
    have w_x69_60 : m7 6960 = .int x69_60j4 := (ho7 6960 rfl).trans w_x69_60
    have w_x69_61 : m7 6961 = .long x69_61j4 := (ho7 6961 rfl).trans w_x69_61
    have w_x69_62 : m7 6962 = .int x69_62j4 := (ho7 6962 rfl).trans w_x69_62
    have w_x69_63 : m7 6963 = .int (fX12_wrong x69_58j4 x69_63j4 1) := hp7_x69_63
    have hoff := offm hoff ho7 (by decide +kernel)
    have hsh := SH.off hsh ho7 (by decide +kernel)
    exact hJ28_0 x69_58j4 x69_59j4 x69_60j4 x69_61j4 x69_62j4 (fX12_wrong x69_58j4 x69_63j4 1) m7 _ _ w_x69_58 w_x69_59 w_x69_60 w_x69_61 w_x69_62 w_x69_63 hoff hsh ls (lv_sub hl [0] rfl) hs0 hW hS
  refine lv_aload_n hx hb dX12_must_0 rfl (lv_at hl 0 rfl) ?_
  refine gf12_63 hx hb hG hown hW (o := 69) (ltN hN 69 rfl) gk69 (v := .int x69_63) h_x69_63 gx1305 dX12_must_1 ?_
  refine lv_if_ne (tgt := 28) hx hb dX12_must_4 (by decide) (fun c1 => ?_) (fun c1 => ?_)
  · rw [if_neg c1] at hs0
    exact hJ28_0 x69_58 x69_59 x69_60 x69_61 x69_62 x69_63 m0 _ _ h_x69_58 h_x69_59 h_x69_60 h_x69_61 h_x69_62 h_x69_63 hoff hsh ls (lv_sub hl [0] rfl) hs0 hW hS
  · rw [if_pos c1] at hs0
    refine lv_aload_n hx hb dX12_must_7 rfl (lv_at hl 0 rfl) ?_
    refine gf12_60 hx hb hG hown hW (o := 69) (ltN hN 69 rfl) gk69 (v := .int x69_60) h_x69_60 gx1314 dX12_must_8 ?_
    refine lv_iconst (v := 3) hx hb dX12_must_11 (by decide) ?_
    refine lv_icmp_ne (tgt := 23) hx hb dX12_must_12 (by decide) (fun c3 => ?_) (fun c3 => ?_)
    · rw [if_neg c3] at hs0
      exact hJ23_0 x69_58 x69_59 x69_60 x69_61 x69_62 x69_63 m0 _ _ h_x69_58 h_x69_59 h_x69_60 h_x69_61 h_x69_62 h_x69_63 hoff hsh ls (lv_sub hl [0] rfl) hs0 hW hS
    · rw [if_pos c3] at hs0
      refine lv_aload_n hx hb dX12_must_15 rfl (lv_at hl 0 rfl) ?_
      refine gf12_62 hx hb hG hown hW (o := 69) (ltN hN 69 rfl) gk69 (v := .int x69_62) h_x69_62 gx1321 dX12_must_16 ?_
      refine lv_iload_n hx hb dX12_must_19 rfl (lv_at hl 1 rfl) ?_
      refine lv_icmp_eq (tgt := 28) hx hb dX12_must_20 (by decide) (fun c5 => ?_) (fun c5 => ?_)
      · rw [if_pos c5] at hs0
        exact hJ28_0 x69_58 x69_59 x69_60 x69_61 x69_62 x69_63 m0 _ _ h_x69_58 h_x69_59 h_x69_60 h_x69_61 h_x69_62 h_x69_63 hoff hsh ls (lv_sub hl [0] rfl) hs0 hW hS
      · rw [if_neg c5] at hs0
        exact hJ23_0 x69_58 x69_59 x69_60 x69_61 x69_62 x69_63 m0 _ _ h_x69_58 h_x69_59 h_x69_60 h_x69_61 h_x69_62 h_x69_63 hoff hsh ls (lv_sub hl [0] rfl) hs0 hW hS
-- HealLinkModel.numberTold (II)I
def fX12_numberTold_J44 (F : Nat) (x69_57 : Int32) (A75 : Nat → Int32) (x69_58j6 : Int32) (x69_59j6 : Int32) (x69_60j6 : Int32) (x69_61j6 : Int64) (x69_62j6 : Int32) (x69_63j6 : Int32) : Option (Int32 × Int32 × Int32 × Int32 × Int64 × Int32 × Int32) := ((fX12_next F x69_57 x69_63j6 A75 x69_58j6 x69_59j6 x69_60j6 x69_61j6 x69_62j6).bind (fun r10 => some (x69_62j6, r10.1, r10.2.1, r10.2.2.1, r10.2.2.2.1, r10.2.2.2.2, x69_63j6)))
def fX12_numberTold_J20 (F : Nat) (x69_57 : Int32) (A75 : Nat → Int32) (v1j2 : Int32) (v2j2 : Int32) (x69_58j2 : Int32) (x69_59j2 : Int32) (x69_60j2 : Int32) (x69_61j2 : Int64) (x69_62j2 : Int32) (x69_63j2 : Int32) : Option (Int32 × Int32 × Int32 × Int32 × Int64 × Int32 × Int32) := (if x69_63j2 = 0 then (if (fX12_within x69_62j2 v1j2 v2j2) = 0 then fX12_numberTold_J44 F x69_57 A75 x69_58j2 x69_59j2 x69_60j2 x69_61j2 x69_62j2 (fX12_wrong x69_58j2 x69_63j2 2) else fX12_numberTold_J44 F x69_57 A75 x69_58j2 x69_59j2 x69_60j2 x69_61j2 x69_62j2 x69_63j2) else fX12_numberTold_J44 F x69_57 A75 x69_58j2 x69_59j2 x69_60j2 x69_61j2 x69_62j2 x69_63j2)
def fX12_numberTold (F : Nat) (x69_57 : Int32) (A75 : Nat → Int32) (x69_58 : Int32) (x69_59 : Int32) (x69_60 : Int32) (x69_61 : Int64) (x69_62 : Int32) (x69_63 : Int32) (p1 : Int32) (p2 : Int32) : Option (Int32 × Int32 × Int32 × Int32 × Int64 × Int32 × Int32) := (if x69_63 = 0 then (if x69_60 = 2 then fX12_numberTold_J20 F x69_57 A75 p1 p2 x69_58 x69_59 x69_60 x69_61 x69_62 x69_63 else fX12_numberTold_J20 F x69_57 A75 p1 p2 x69_58 x69_59 x69_60 x69_61 x69_62 (fX12_wrong x69_58 x69_63 1)) else fX12_numberTold_J20 F x69_57 A75 p1 p2 x69_58 x69_59 x69_60 x69_61 x69_62 x69_63)
theorem dX12_numberTold_0 : decode cX12_numberTold 0 = .ok (.aload_n 0, 1) := by decide +kernel
theorem dX12_numberTold_1 : decode cX12_numberTold 1 = .ok (.getfield 356, 3) := by decide +kernel
theorem dX12_numberTold_4 : decode cX12_numberTold 4 = .ok (.ifCond .ne 16, 3) := by decide +kernel
theorem dX12_numberTold_7 : decode cX12_numberTold 7 = .ok (.aload_n 0, 1) := by decide +kernel
theorem dX12_numberTold_8 : decode cX12_numberTold 8 = .ok (.getfield 368, 3) := by decide +kernel
theorem dX12_numberTold_11 : decode cX12_numberTold 11 = .ok (.iconst 2, 1) := by decide +kernel
theorem dX12_numberTold_12 : decode cX12_numberTold 12 = .ok (.if_icmp .eq 8, 3) := by decide +kernel
theorem dX12_numberTold_15 : decode cX12_numberTold 15 = .ok (.aload_n 0, 1) := by decide +kernel
theorem dX12_numberTold_16 : decode cX12_numberTold 16 = .ok (.iconst 1, 1) := by decide +kernel
theorem dX12_numberTold_17 : decode cX12_numberTold 17 = .ok (.invokevirtual 399, 3) := by decide +kernel
theorem dX12_numberTold_20 : decode cX12_numberTold 20 = .ok (.aload_n 0, 1) := by decide +kernel
theorem dX12_numberTold_21 : decode cX12_numberTold 21 = .ok (.getfield 356, 3) := by decide +kernel
theorem dX12_numberTold_24 : decode cX12_numberTold 24 = .ok (.ifCond .ne 20, 3) := by decide +kernel
theorem dX12_numberTold_27 : decode cX12_numberTold 27 = .ok (.aload_n 0, 1) := by decide +kernel
theorem dX12_numberTold_28 : decode cX12_numberTold 28 = .ok (.getfield 374, 3) := by decide +kernel
theorem dX12_numberTold_31 : decode cX12_numberTold 31 = .ok (.iload_n 1, 1) := by decide +kernel
theorem dX12_numberTold_32 : decode cX12_numberTold 32 = .ok (.iload_n 2, 1) := by decide +kernel
theorem dX12_numberTold_33 : decode cX12_numberTold 33 = .ok (.invokestatic 159, 3) := by decide +kernel
theorem dX12_numberTold_36 : decode cX12_numberTold 36 = .ok (.ifCond .ne 8, 3) := by decide +kernel
theorem dX12_numberTold_39 : decode cX12_numberTold 39 = .ok (.aload_n 0, 1) := by decide +kernel
theorem dX12_numberTold_40 : decode cX12_numberTold 40 = .ok (.iconst 2, 1) := by decide +kernel
theorem dX12_numberTold_41 : decode cX12_numberTold 41 = .ok (.invokevirtual 399, 3) := by decide +kernel
theorem dX12_numberTold_44 : decode cX12_numberTold 44 = .ok (.aload_n 0, 1) := by decide +kernel
theorem dX12_numberTold_45 : decode cX12_numberTold 45 = .ok (.getfield 374, 3) := by decide +kernel
theorem dX12_numberTold_48 : decode cX12_numberTold 48 = .ok (.istore_n 3, 1) := by decide +kernel
theorem dX12_numberTold_49 : decode cX12_numberTold 49 = .ok (.aload_n 0, 1) := by decide +kernel
theorem dX12_numberTold_50 : decode cX12_numberTold 50 = .ok (.invokevirtual 402, 3) := by decide +kernel
theorem dX12_numberTold_53 : decode cX12_numberTold 53 = .ok (.iload_n 3, 1) := by decide +kernel
theorem dX12_numberTold_54 : decode cX12_numberTold 54 = .ok (.ireturn, 1) := by decide +kernel
set_option maxHeartbeats 4000000 in
set_option maxRecDepth 100000 in
theorem kX12_numberTold {l : Launch} {D : va_G} {cy : Nat → ClassId} {N : Nat} {q : Nat → Nat} {m0 : Nat → Value} {a0 : Nat → vp_A} {sz : Nat} (hN : 105 ≤ N) (hsh : SH q m0) {x69_57 : Int32} (h_x69_57 : m0 6957 = .int x69_57) {A75 : Nat → Int32} (h_A75 : a0 75 = (264, .inl A75)) {x69_58 : Int32} (h_x69_58 : m0 6958 = .int x69_58) {x69_59 : Int32} (h_x69_59 : m0 6959 = .int x69_59) {x69_60 : Int32} (h_x69_60 : m0 6960 = .int x69_60) {x69_61 : Int64} (h_x69_61 : m0 6961 = .long x69_61) {x69_62 : Int32} (h_x69_62 : m0 6962 = .int x69_62) {x69_63 : Int32} (h_x69_63 : m0 6963 = .int x69_63) (F : Nat) (p1 : Int32) (p2 : Int32) {X0 : Int32 × Int32 × Int32 × Int32 × Int64 × Int32 × Int32} (hs0 : fX12_numberTold F x69_57 A75 x69_58 x69_59 x69_60 x69_61 x69_62 x69_63 p1 p2 = some X0) : gMi l yX12_numberTold cX12_numberTold 4 (some .int) ({ frames := 2, cells := 0, slots := 0, locals := 43 } : Room) D cy N q m0 a0 sz [.ref (q 69), .int p1, .int p2] (fun r m' a' => r = X0.1 ∧ m' 6958 = .int X0.2.1 ∧ m' 6959 = .int X0.2.2.1 ∧ m' 6960 = .int X0.2.2.2.1 ∧ m' 6961 = .long X0.2.2.2.2.1 ∧ m' 6962 = .int X0.2.2.2.2.2.1 ∧ m' 6963 = .int X0.2.2.2.2.2.2 ∧ (∀ j, nel j [6958, 6959, 6960, 6961, 6962, 6963] = false → m' j = m0 j) ∧ a' = a0) := by
  refine g_ofi (by decide) (Nat.le_of_ble_eq_true rfl) ?_
  intro p e s M args below meth c hx hb hr hG hown hin hlocks hml hW hS ls hl
  unfold fX12_numberTold at hs0
  have hoff : ∀ j, nel j [6958, 6959, 6960, 6961, 6962, 6963] = false → m0 j = m0 j := off0
  have hJ44_0 : ∀ (x69_58j6 : Int32) (x69_59j6 : Int32) (x69_60j6 : Int32) (x69_61j6 : Int64) (x69_62j6 : Int32) (x69_63j6 : Int32) (m : Nat → Value) (H : Heap) (locs : List Loc) (w_x69_58 : m 6958 = .int x69_58j6) (w_x69_59 : m 6959 = .int x69_59j6) (w_x69_60 : m 6960 = .int x69_60j6) (w_x69_61 : m 6961 = .long x69_61j6) (w_x69_62 : m 6962 = .int x69_62j6) (w_x69_63 : m 6963 = .int x69_63j6) (hoff : ∀ j, nel j [6958, 6959, 6960, 6961, 6962, 6963] = false → m j = m0 j) (hsh : SH q m) (ls : Array Slot) (hl : lv_has ls 4 [(0, .ref (q 69))]) (hs0 : fX12_numberTold_J44 F x69_57 A75 x69_58j6 x69_59j6 x69_60j6 x69_61j6 x69_62j6 x69_63j6 = some X0) (hW : GW D cy (gA N q s.heap.size) N q m a0 s H) (hS : va_S (gA N q s.heap.size) s.heap H locs), W p l e ({ frames := 2, cells := 0, slots := 0, locals := 43 } : Room) s M args below meth c H locs 0 0 (MQ below (va_Qi (fun (r : Int32) (u : (Nat → Value) × (Nat → vp_A)) => r = X0.1 ∧ u.1 6958 = .int X0.2.1 ∧ u.1 6959 = .int X0.2.2.1 ∧ u.1 6960 = .int X0.2.2.2.1 ∧ u.1 6961 = .long X0.2.2.2.2.1 ∧ u.1 6962 = .int X0.2.2.2.2.2.1 ∧ u.1 6963 = .int X0.2.2.2.2.2.2 ∧ (∀ j, nel j [6958, 6959, 6960, 6961, 6962, 6963] = false → u.1 j = m0 j) ∧ u.2 = a0) (gB D cy N q s.heap.size) (gA N q s.heap.size)) args s 0 0 (gA N q s.heap.size)) (F0 M 44 ls []) := by
    intro x69_58j6 x69_59j6 x69_60j6 x69_61j6 x69_62j6 x69_63j6 m H locs w_x69_58 w_x69_59 w_x69_60 w_x69_61 w_x69_62 w_x69_63 hoff hsh ls hl hs0 hW hS
    unfold fX12_numberTold_J44 at hs0
    refine lv_aload_n hx hb dX12_numberTold_44 rfl (lv_at hl 0 rfl) ?_
    refine gf12_62 hx hb hG hown hW (o := 69) (ltN hN 69 rfl) gk69 (v := .int x69_62j6) w_x69_62 gx1321 dX12_numberTold_45 ?_
    refine lv_istore_n (lv' := [(3, .int x69_62j6), (0, .ref (q 69))]) hx hb dX12_numberTold_48 rfl hl (by decide) rfl (fun ls hl => ?_)
    refine lv_aload_n hx hb dX12_numberTold_49 rfl (lv_at hl 1 rfl) ?_
    obtain ⟨r10, hf10, hs0⟩ := obind hs0
    refine g_Vv (n := 0) hx hb hml hown hG hW hS [] (kX12_next hN hsh ((hoff 6957 rfl).trans h_x69_57) w_x69_63 h_A75 w_x69_58 w_x69_59 w_x69_60 w_x69_61 w_x69_62 F hf10) (ltN hN 69 rfl) gk69 (by decide) rfl rfl (gd_V gx1315 gx1316 gx1317 gx5 gx1318) rfl rfl (by decide) ⟨Nat.le_of_ble_eq_true rfl, Nat.le_of_ble_eq_true rfl⟩ rfl hl (Nat.le_of_ble_eq_true rfl) ⟨Nat.zero_le _, Nat.zero_le _⟩ dX12_numberTold_50 (fun m10 a10 H locs hp10 hW hS => ?_)
    obtain ⟨hp10_x69_58, hp10_x69_59, hp10_x69_60, hp10_x69_61, hp10_x69_62, ho10, ha10⟩ := hp10
    rw [ha10] at hW
    have w_x69_58 : m10 6958 = .int r10.1 := hp10_x69_58
    have w_x69_59 : m10 6959 = .int r10.2.1 := hp10_x69_59
    have w_x69_60 : m10 6960 = .int r10.2.2.1 := hp10_x69_60
    have w_x69_61 : m10 6961 = .long r10.2.2.2.1 := hp10_x69_61
    have w_x69_62 : m10 6962 = .int r10.2.2.2.2 := hp10_x69_62
    have w_x69_63 : m10 6963 = .int x69_63j6 := (ho10 6963 rfl).trans w_x69_63
    have hoff := offm hoff ho10 (by decide +kernel)
    have hsh := SH.off hsh ho10 (by decide +kernel)
    refine lv_iload_n hx hb dX12_numberTold_53 rfl (lv_at hl 0 rfl) ?_
    have hs0 := Option.some.inj hs0
    subst hs0
    exact W.zret hx hb hr rfl (fun t ht hw => ⟨⟨_, (m10, a0), rfl, ⟨rfl, w_x69_58, w_x69_59, w_x69_60, w_x69_61, w_x69_62, w_x69_63, hoff, rfl⟩, g_end hW ht hw⟩, hS.F ht⟩) hS.2.2 dX12_numberTold_54 hlocks
  have hJ20_0 : ∀ (v1j2 : Int32) (v2j2 : Int32) (x69_58j2 : Int32) (x69_59j2 : Int32) (x69_60j2 : Int32) (x69_61j2 : Int64) (x69_62j2 : Int32) (x69_63j2 : Int32) (m : Nat → Value) (H : Heap) (locs : List Loc) (w_x69_58 : m 6958 = .int x69_58j2) (w_x69_59 : m 6959 = .int x69_59j2) (w_x69_60 : m 6960 = .int x69_60j2) (w_x69_61 : m 6961 = .long x69_61j2) (w_x69_62 : m 6962 = .int x69_62j2) (w_x69_63 : m 6963 = .int x69_63j2) (hoff : ∀ j, nel j [6958, 6959, 6960, 6961, 6962, 6963] = false → m j = m0 j) (hsh : SH q m) (ls : Array Slot) (hl : lv_has ls 4 [(0, .ref (q 69)), (1, .int v1j2), (2, .int v2j2)]) (hs0 : fX12_numberTold_J20 F x69_57 A75 v1j2 v2j2 x69_58j2 x69_59j2 x69_60j2 x69_61j2 x69_62j2 x69_63j2 = some X0) (hW : GW D cy (gA N q s.heap.size) N q m a0 s H) (hS : va_S (gA N q s.heap.size) s.heap H locs), W p l e ({ frames := 2, cells := 0, slots := 0, locals := 43 } : Room) s M args below meth c H locs 0 0 (MQ below (va_Qi (fun (r : Int32) (u : (Nat → Value) × (Nat → vp_A)) => r = X0.1 ∧ u.1 6958 = .int X0.2.1 ∧ u.1 6959 = .int X0.2.2.1 ∧ u.1 6960 = .int X0.2.2.2.1 ∧ u.1 6961 = .long X0.2.2.2.2.1 ∧ u.1 6962 = .int X0.2.2.2.2.2.1 ∧ u.1 6963 = .int X0.2.2.2.2.2.2 ∧ (∀ j, nel j [6958, 6959, 6960, 6961, 6962, 6963] = false → u.1 j = m0 j) ∧ u.2 = a0) (gB D cy N q s.heap.size) (gA N q s.heap.size)) args s 0 0 (gA N q s.heap.size)) (F0 M 20 ls []) := by
    intro v1j2 v2j2 x69_58j2 x69_59j2 x69_60j2 x69_61j2 x69_62j2 x69_63j2 m H locs w_x69_58 w_x69_59 w_x69_60 w_x69_61 w_x69_62 w_x69_63 hoff hsh ls hl hs0 hW hS
    unfold fX12_numberTold_J20 at hs0
    refine lv_aload_n hx hb dX12_numberTold_20 rfl (lv_at hl 0 rfl) ?_
    refine gf12_63 hx hb hG hown hW (o := 69) (ltN hN 69 rfl) gk69 (v := .int x69_63j2) w_x69_63 gx1305 dX12_numberTold_21 ?_
    refine lv_if_ne (tgt := 44) hx hb dX12_numberTold_24 (by decide) (fun c5 => ?_) (fun c5 => ?_)
    · rw [if_neg c5] at hs0
      exact hJ44_0 x69_58j2 x69_59j2 x69_60j2 x69_61j2 x69_62j2 x69_63j2 m _ _ w_x69_58 w_x69_59 w_x69_60 w_x69_61 w_x69_62 w_x69_63 hoff hsh ls (lv_sub hl [0] rfl) hs0 hW hS
    · rw [if_pos c5] at hs0
      refine lv_aload_n hx hb dX12_numberTold_27 rfl (lv_at hl 0 rfl) ?_
      refine gf12_62 hx hb hG hown hW (o := 69) (ltN hN 69 rfl) gk69 (v := .int x69_62j2) w_x69_62 gx1321 dX12_numberTold_28 ?_
      refine lv_iload_n hx hb dX12_numberTold_31 rfl (lv_at hl 1 rfl) ?_
      refine lv_iload_n hx hb dX12_numberTold_32 rfl (lv_at hl 2 rfl) ?_
      refine g_SiR (n := 3) hx hb hml hown hG hW hS [.int x69_62j2, .int v1j2, .int v2j2] (kX12_within hN x69_62j2 v1j2 v2j2) rfl (gd_S gx247 gx248 gx5 gx249) rfl rfl (by decide) ⟨Nat.le_of_ble_eq_true rfl, Nat.le_of_ble_eq_true rfl⟩ rfl hl (Nat.le_of_ble_eq_true rfl) ⟨Nat.zero_le _, Nat.zero_le _⟩ dX12_numberTold_33 (fun H locs hW hS => ?_)
      refine lv_if_ne (tgt := 44) hx hb dX12_numberTold_36 (by decide) (fun c8 => ?_) (fun c8 => ?_)
      · rw [if_neg c8] at hs0
        exact hJ44_0 x69_58j2 x69_59j2 x69_60j2 x69_61j2 x69_62j2 x69_63j2 m _ _ w_x69_58 w_x69_59 w_x69_60 w_x69_61 w_x69_62 w_x69_63 hoff hsh ls (lv_sub hl [0] rfl) hs0 hW hS
      · rw [if_pos c8] at hs0
        refine lv_aload_n hx hb dX12_numberTold_39 rfl (lv_at hl 0 rfl) ?_
        refine lv_iconst (v := 2) hx hb dX12_numberTold_40 (by decide) ?_
        refine g_Vv (n := 1) hx hb hml hown hG hW hS [.int 2] (kX12_wrong hN hsh w_x69_58 w_x69_63 2) (ltN hN 69 rfl) gk69 (by decide) rfl rfl (gd_V gx1344 gx1345 gx1346 gx5 gx1347) rfl rfl (by decide) ⟨Nat.le_of_ble_eq_true rfl, Nat.le_of_ble_eq_true rfl⟩ rfl hl (Nat.le_of_ble_eq_true rfl) ⟨Nat.zero_le _, Nat.zero_le _⟩ dX12_numberTold_41 (fun m9 a9 H locs hp9 hW hS => ?_)
        obtain ⟨hp9_x69_63, ho9, ha9⟩ := hp9
        rw [ha9] at hW
        have w_x69_58 : m9 6958 = .int x69_58j2 := (ho9 6958 rfl).trans w_x69_58
        have w_x69_59 : m9 6959 = .int x69_59j2 := (ho9 6959 rfl).trans w_x69_59
        have w_x69_60 : m9 6960 = .int x69_60j2 := (ho9 6960 rfl).trans w_x69_60
        have w_x69_61 : m9 6961 = .long x69_61j2 := (ho9 6961 rfl).trans w_x69_61
        have w_x69_62 : m9 6962 = .int x69_62j2 := (ho9 6962 rfl).trans w_x69_62
        have w_x69_63 : m9 6963 = .int (fX12_wrong x69_58j2 x69_63j2 2) := hp9_x69_63
        have hoff := offm hoff ho9 (by decide +kernel)
        have hsh := SH.off hsh ho9 (by decide +kernel)
        exact hJ44_0 x69_58j2 x69_59j2 x69_60j2 x69_61j2 x69_62j2 (fX12_wrong x69_58j2 x69_63j2 2) m9 _ _ w_x69_58 w_x69_59 w_x69_60 w_x69_61 w_x69_62 w_x69_63 hoff hsh ls (lv_sub hl [0] rfl) hs0 hW hS
  refine lv_aload_n hx hb dX12_numberTold_0 rfl (lv_at hl 0 rfl) ?_
  refine gf12_63 hx hb hG hown hW (o := 69) (ltN hN 69 rfl) gk69 (v := .int x69_63) h_x69_63 gx1305 dX12_numberTold_1 ?_
  refine lv_if_ne (tgt := 20) hx hb dX12_numberTold_4 (by decide) (fun c1 => ?_) (fun c1 => ?_)
  · rw [if_neg c1] at hs0
    exact hJ20_0 p1 p2 x69_58 x69_59 x69_60 x69_61 x69_62 x69_63 m0 _ _ h_x69_58 h_x69_59 h_x69_60 h_x69_61 h_x69_62 h_x69_63 hoff hsh ls (lv_sub hl [0, 1, 2] rfl) hs0 hW hS
  · rw [if_pos c1] at hs0
    refine lv_aload_n hx hb dX12_numberTold_7 rfl (lv_at hl 0 rfl) ?_
    refine gf12_60 hx hb hG hown hW (o := 69) (ltN hN 69 rfl) gk69 (v := .int x69_60) h_x69_60 gx1314 dX12_numberTold_8 ?_
    refine lv_iconst (v := 2) hx hb dX12_numberTold_11 (by decide) ?_
    refine lv_icmp_eq (tgt := 20) hx hb dX12_numberTold_12 (by decide) (fun c3 => ?_) (fun c3 => ?_)
    · rw [if_pos c3] at hs0
      exact hJ20_0 p1 p2 x69_58 x69_59 x69_60 x69_61 x69_62 x69_63 m0 _ _ h_x69_58 h_x69_59 h_x69_60 h_x69_61 h_x69_62 h_x69_63 hoff hsh ls (lv_sub hl [0, 1, 2] rfl) hs0 hW hS
    · rw [if_neg c3] at hs0
      refine lv_aload_n hx hb dX12_numberTold_15 rfl (lv_at hl 0 rfl) ?_
      refine lv_iconst (v := 1) hx hb dX12_numberTold_16 (by decide) ?_
      refine g_Vv (n := 1) hx hb hml hown hG hW hS [.int 1] (kX12_wrong hN hsh h_x69_58 h_x69_63 1) (ltN hN 69 rfl) gk69 (by decide) rfl rfl (gd_V gx1344 gx1345 gx1346 gx5 gx1347) rfl rfl (by decide) ⟨Nat.le_of_ble_eq_true rfl, Nat.le_of_ble_eq_true rfl⟩ rfl hl (Nat.le_of_ble_eq_true rfl) ⟨Nat.zero_le _, Nat.zero_le _⟩ dX12_numberTold_17 (fun m4 a4 H locs hp4 hW hS => ?_)
      obtain ⟨hp4_x69_63, ho4, ha4⟩ := hp4
      rw [ha4] at hW
      have w_x69_58 : m4 6958 = .int x69_58 := (ho4 6958 rfl).trans h_x69_58
      have w_x69_59 : m4 6959 = .int x69_59 := (ho4 6959 rfl).trans h_x69_59
      have w_x69_60 : m4 6960 = .int x69_60 := (ho4 6960 rfl).trans h_x69_60
      have w_x69_61 : m4 6961 = .long x69_61 := (ho4 6961 rfl).trans h_x69_61
      have w_x69_62 : m4 6962 = .int x69_62 := (ho4 6962 rfl).trans h_x69_62
      have w_x69_63 : m4 6963 = .int (fX12_wrong x69_58 x69_63 1) := hp4_x69_63
      have hoff := offm hoff ho4 (by decide +kernel)
      have hsh := SH.off hsh ho4 (by decide +kernel)
      exact hJ20_0 p1 p2 x69_58 x69_59 x69_60 x69_61 x69_62 (fX12_wrong x69_58 x69_63 1) m4 _ _ w_x69_58 w_x69_59 w_x69_60 w_x69_61 w_x69_62 w_x69_63 hoff hsh ls (lv_sub hl [0, 1, 2] rfl) hs0 hW hS
-- HealLinkModel.acting (III)V
def fX12_acting_J46 (F : Nat) (x69_0 : Int32) (x69_1 : Int32) (x69_2 : Int32) (x69_3 : Int32) (x69_63 : Int32) (x69_64 : Int32) (x69_4j5 : Int64) (x69_6j5 : Int32) (x69_9j5 : Int32) (x69_11j5 : Int32) (x69_19j5 : Int64) (x69_20j5 : Int32) (x69_21j5 : Int32) (x69_22j5 : Int32) (x69_65j5 : Int32) (x69_66j5 : Int32) (A70j5 : Nat → Int32) (A71j5 : Nat → Int32) (A72j5 : Nat → Int32) (A73j5 : Nat → Int32) : Option (Int64 × Int32 × Int32 × Int32 × Int64 × Int32 × Int32 × Int32 × Int32 × Int32 × (Nat → Int32) × (Nat → Int32) × (Nat → Int32) × (Nat → Int32)) := some (x69_4j5, x69_6j5, x69_9j5, x69_11j5, x69_19j5, x69_20j5, x69_21j5, x69_22j5, x69_65j5, 1, A70j5, A71j5, A72j5, A73j5)
def fX12_acting (F : Nat) (x69_0 : Int32) (x69_1 : Int32) (x69_2 : Int32) (x69_3 : Int32) (x69_63 : Int32) (x69_64 : Int32) (x69_4 : Int64) (x69_6 : Int32) (x69_9 : Int32) (x69_11 : Int32) (x69_19 : Int64) (x69_20 : Int32) (x69_21 : Int32) (x69_22 : Int32) (x69_65 : Int32) (x69_66 : Int32) (A70 : Nat → Int32) (A71 : Nat → Int32) (A72 : Nat → Int32) (A73 : Nat → Int32) (p1 : Int32) (p2 : Int32) (p3 : Int32) : Option (Int64 × Int32 × Int32 × Int32 × Int64 × Int32 × Int32 × Int32 × Int32 × Int32 × (Nat → Int32) × (Nat → Int32) × (Nat → Int32) × (Nat → Int32)) := (if x69_64 = 0 then some (x69_4, x69_6, x69_9, x69_11, x69_19, x69_20, x69_21, x69_22, x69_65, x69_66, A70, A71, A72, A73) else (if x69_66 = 0 then (if x69_63 ≤ 0 then (if x69_65 = 600 then fX12_acting_J46 F x69_0 x69_1 x69_2 x69_3 x69_63 x69_64 x69_4 x69_6 x69_9 x69_11 x69_19 x69_20 x69_21 x69_22 x69_65 x69_66 A70 A71 A72 A73 else (if (fX12_isThere x69_1 x69_4 p1 p2 p3) = 0 then fX12_acting_J46 F x69_0 x69_1 x69_2 x69_3 x69_63 x69_64 x69_4 x69_6 x69_9 x69_11 x69_19 x69_20 x69_21 x69_22 x69_65 x69_66 A70 A71 A72 A73 else ((fX12_acts F x69_0 x69_1 x69_2 x69_3 x69_4 x69_6 x69_9 x69_11 x69_19 x69_20 x69_21 x69_22 A70 A71 A72 A73 p1 p2 p3).bind (fun r8 => some (r8.2.1, r8.2.2.1, r8.2.2.2.1, r8.2.2.2.2.1, r8.2.2.2.2.2.1, r8.2.2.2.2.2.2.1, r8.2.2.2.2.2.2.2.1, r8.2.2.2.2.2.2.2.2.1, x69_65 + 1, x69_66, r8.2.2.2.2.2.2.2.2.2.1, r8.2.2.2.2.2.2.2.2.2.2.1, r8.2.2.2.2.2.2.2.2.2.2.2.1, r8.2.2.2.2.2.2.2.2.2.2.2.2))))) else some (x69_4, x69_6, x69_9, x69_11, x69_19, x69_20, x69_21, x69_22, x69_65, x69_66, A70, A71, A72, A73)) else some (x69_4, x69_6, x69_9, x69_11, x69_19, x69_20, x69_21, x69_22, x69_65, x69_66, A70, A71, A72, A73)))
theorem dX12_acting_0 : decode cX12_acting 0 = .ok (.aload_n 0, 1) := by decide +kernel
theorem dX12_acting_1 : decode cX12_acting 1 = .ok (.getfield 405, 3) := by decide +kernel
theorem dX12_acting_4 : decode cX12_acting 4 = .ok (.ifCond .eq 17, 3) := by decide +kernel
theorem dX12_acting_7 : decode cX12_acting 7 = .ok (.aload_n 0, 1) := by decide +kernel
theorem dX12_acting_8 : decode cX12_acting 8 = .ok (.getfield 408, 3) := by decide +kernel
theorem dX12_acting_11 : decode cX12_acting 11 = .ok (.ifCond .ne 10, 3) := by decide +kernel
theorem dX12_acting_14 : decode cX12_acting 14 = .ok (.aload_n 0, 1) := by decide +kernel
theorem dX12_acting_15 : decode cX12_acting 15 = .ok (.getfield 356, 3) := by decide +kernel
theorem dX12_acting_18 : decode cX12_acting 18 = .ok (.ifCond .le 4, 3) := by decide +kernel
theorem dX12_acting_21 : decode cX12_acting 21 = .ok (.return_, 1) := by decide +kernel
theorem dX12_acting_22 : decode cX12_acting 22 = .ok (.aload_n 0, 1) := by decide +kernel
theorem dX12_acting_23 : decode cX12_acting 23 = .ok (.getfield 411, 3) := by decide +kernel
theorem dX12_acting_26 : decode cX12_acting 26 = .ok (.sipush 600, 3) := by decide +kernel
theorem dX12_acting_29 : decode cX12_acting 29 = .ok (.if_icmp .eq 17, 3) := by decide +kernel
theorem dX12_acting_32 : decode cX12_acting 32 = .ok (.aload_n 0, 1) := by decide +kernel
theorem dX12_acting_33 : decode cX12_acting 33 = .ok (.aload_n 0, 1) := by decide +kernel
theorem dX12_acting_34 : decode cX12_acting 34 = .ok (.getfield 133, 3) := by decide +kernel
theorem dX12_acting_37 : decode cX12_acting 37 = .ok (.iload_n 1, 1) := by decide +kernel
theorem dX12_acting_38 : decode cX12_acting 38 = .ok (.iload_n 2, 1) := by decide +kernel
theorem dX12_acting_39 : decode cX12_acting 39 = .ok (.iload_n 3, 1) := by decide +kernel
theorem dX12_acting_40 : decode cX12_acting 40 = .ok (.invokevirtual 224, 3) := by decide +kernel
theorem dX12_acting_43 : decode cX12_acting 43 = .ok (.ifCond .ne 9, 3) := by decide +kernel
theorem dX12_acting_46 : decode cX12_acting 46 = .ok (.aload_n 0, 1) := by decide +kernel
theorem dX12_acting_47 : decode cX12_acting 47 = .ok (.iconst 1, 1) := by decide +kernel
theorem dX12_acting_48 : decode cX12_acting 48 = .ok (.putfield 408, 3) := by decide +kernel
theorem dX12_acting_51 : decode cX12_acting 51 = .ok (.return_, 1) := by decide +kernel
theorem dX12_acting_52 : decode cX12_acting 52 = .ok (.aload_n 0, 1) := by decide +kernel
theorem dX12_acting_53 : decode cX12_acting 53 = .ok (.iload_n 1, 1) := by decide +kernel
theorem dX12_acting_54 : decode cX12_acting 54 = .ok (.iload_n 2, 1) := by decide +kernel
theorem dX12_acting_55 : decode cX12_acting 55 = .ok (.iload_n 3, 1) := by decide +kernel
theorem dX12_acting_56 : decode cX12_acting 56 = .ok (.invokevirtual 228, 3) := by decide +kernel
theorem dX12_acting_59 : decode cX12_acting 59 = .ok (.pop, 1) := by decide +kernel
theorem dX12_acting_60 : decode cX12_acting 60 = .ok (.aload_n 0, 1) := by decide +kernel
theorem dX12_acting_61 : decode cX12_acting 61 = .ok (.dup, 1) := by decide +kernel
theorem dX12_acting_62 : decode cX12_acting 62 = .ok (.getfield 411, 3) := by decide +kernel
theorem dX12_acting_65 : decode cX12_acting 65 = .ok (.iconst 1, 1) := by decide +kernel
theorem dX12_acting_66 : decode cX12_acting 66 = .ok (.iadd, 1) := by decide +kernel
theorem dX12_acting_67 : decode cX12_acting 67 = .ok (.putfield 411, 3) := by decide +kernel
theorem dX12_acting_70 : decode cX12_acting 70 = .ok (.return_, 1) := by decide +kernel
set_option maxHeartbeats 4000000 in
set_option maxRecDepth 100000 in
theorem kX12_acting {l : Launch} {D : va_G} {cy : Nat → ClassId} {N : Nat} {q : Nat → Nat} {m0 : Nat → Value} {a0 : Nat → vp_A} {sz : Nat} (hN : 105 ≤ N) (hsh : SH q m0) {x69_0 : Int32} (h_x69_0 : m0 6900 = .int x69_0) {x69_1 : Int32} (h_x69_1 : m0 6901 = .int x69_1) {x69_2 : Int32} (h_x69_2 : m0 6902 = .int x69_2) {x69_3 : Int32} (h_x69_3 : m0 6903 = .int x69_3) {x69_63 : Int32} (h_x69_63 : m0 6963 = .int x69_63) {x69_64 : Int32} (h_x69_64 : m0 6964 = .int x69_64) {x69_4 : Int64} (h_x69_4 : m0 6904 = .long x69_4) {x69_6 : Int32} (h_x69_6 : m0 6906 = .int x69_6) {x69_9 : Int32} (h_x69_9 : m0 6909 = .int x69_9) {x69_11 : Int32} (h_x69_11 : m0 6911 = .int x69_11) {x69_19 : Int64} (h_x69_19 : m0 6919 = .long x69_19) {x69_20 : Int32} (h_x69_20 : m0 6920 = .int x69_20) {x69_21 : Int32} (h_x69_21 : m0 6921 = .int x69_21) {x69_22 : Int32} (h_x69_22 : m0 6922 = .int x69_22) {x69_65 : Int32} (h_x69_65 : m0 6965 = .int x69_65) {x69_66 : Int32} (h_x69_66 : m0 6966 = .int x69_66) {A70 : Nat → Int32} (h_A70 : a0 70 = (30, .inl A70)) {A71 : Nat → Int32} (h_A71 : a0 71 = (8, .inl A71)) {A72 : Nat → Int32} (h_A72 : a0 72 = (40, .inl A72)) {A73 : Nat → Int32} (h_A73 : a0 73 = (40, .inl A73)) (F : Nat) (p1 : Int32) (p2 : Int32) (p3 : Int32) {X0 : Int64 × Int32 × Int32 × Int32 × Int64 × Int32 × Int32 × Int32 × Int32 × Int32 × (Nat → Int32) × (Nat → Int32) × (Nat → Int32) × (Nat → Int32)} (hs0 : fX12_acting F x69_0 x69_1 x69_2 x69_3 x69_63 x69_64 x69_4 x69_6 x69_9 x69_11 x69_19 x69_20 x69_21 x69_22 x69_65 x69_66 A70 A71 A72 A73 p1 p2 p3 = some X0) : gMv l yX12_acting cX12_acting 4 none ({ frames := 4, cells := 0, slots := 0, locals := 100 } : Room) D cy N q m0 a0 sz [.ref (q 69), .int p1, .int p2, .int p3] (fun m' a' => m' 6904 = .long X0.1 ∧ m' 6906 = .int X0.2.1 ∧ m' 6909 = .int X0.2.2.1 ∧ m' 6911 = .int X0.2.2.2.1 ∧ m' 6919 = .long X0.2.2.2.2.1 ∧ m' 6920 = .int X0.2.2.2.2.2.1 ∧ m' 6921 = .int X0.2.2.2.2.2.2.1 ∧ m' 6922 = .int X0.2.2.2.2.2.2.2.1 ∧ m' 6965 = .int X0.2.2.2.2.2.2.2.2.1 ∧ m' 6966 = .int X0.2.2.2.2.2.2.2.2.2.1 ∧ (∀ j, nel j [6904, 6906, 6909, 6911, 6919, 6920, 6921, 6922, 6965, 6966] = false → m' j = m0 j) ∧ a' 70 = (30, .inl X0.2.2.2.2.2.2.2.2.2.2.1) ∧ a' 71 = (8, .inl X0.2.2.2.2.2.2.2.2.2.2.2.1) ∧ a' 72 = (40, .inl X0.2.2.2.2.2.2.2.2.2.2.2.2.1) ∧ a' 73 = (40, .inl X0.2.2.2.2.2.2.2.2.2.2.2.2.2) ∧ (∀ j, nel j [70, 71, 72, 73] = false → a' j = a0 j)) := by
  refine g_ofv (by decide) (Nat.le_of_ble_eq_true rfl) ?_
  intro p e s M args below meth c hx hb hr hG hown hin hlocks hml hW hS ls hl
  unfold fX12_acting at hs0
  have hoff : ∀ j, nel j [6904, 6906, 6909, 6911, 6919, 6920, 6921, 6922, 6965, 6966] = false → m0 j = m0 j := off0
  have hoffa : ∀ j, nel j [70, 71, 72, 73] = false → a0 j = a0 j := off0
  have hJ46_0 : ∀ (x69_4j5 : Int64) (x69_6j5 : Int32) (x69_9j5 : Int32) (x69_11j5 : Int32) (x69_19j5 : Int64) (x69_20j5 : Int32) (x69_21j5 : Int32) (x69_22j5 : Int32) (x69_65j5 : Int32) (x69_66j5 : Int32) (A70j5 : Nat → Int32) (A71j5 : Nat → Int32) (A72j5 : Nat → Int32) (A73j5 : Nat → Int32) (m : Nat → Value) (a : Nat → vp_A) (H : Heap) (locs : List Loc) (w_x69_4 : m 6904 = .long x69_4j5) (w_x69_6 : m 6906 = .int x69_6j5) (w_x69_9 : m 6909 = .int x69_9j5) (w_x69_11 : m 6911 = .int x69_11j5) (w_x69_19 : m 6919 = .long x69_19j5) (w_x69_20 : m 6920 = .int x69_20j5) (w_x69_21 : m 6921 = .int x69_21j5) (w_x69_22 : m 6922 = .int x69_22j5) (w_x69_65 : m 6965 = .int x69_65j5) (w_x69_66 : m 6966 = .int x69_66j5) (hoff : ∀ j, nel j [6904, 6906, 6909, 6911, 6919, 6920, 6921, 6922, 6965, 6966] = false → m j = m0 j) (hsh : SH q m) (w_A70 : a 70 = (30, .inl A70j5)) (w_A71 : a 71 = (8, .inl A71j5)) (w_A72 : a 72 = (40, .inl A72j5)) (w_A73 : a 73 = (40, .inl A73j5)) (hoffa : ∀ j, nel j [70, 71, 72, 73] = false → a j = a0 j) (ls : Array Slot) (hl : lv_has ls 4 [(0, .ref (q 69))]) (hs0 : fX12_acting_J46 F x69_0 x69_1 x69_2 x69_3 x69_63 x69_64 x69_4j5 x69_6j5 x69_9j5 x69_11j5 x69_19j5 x69_20j5 x69_21j5 x69_22j5 x69_65j5 x69_66j5 A70j5 A71j5 A72j5 A73j5 = some X0) (hW : GW D cy (gA N q s.heap.size) N q m a s H) (hS : va_S (gA N q s.heap.size) s.heap H locs), W p l e ({ frames := 4, cells := 0, slots := 0, locals := 100 } : Room) s M args below meth c H locs 0 0 (MQ below (va_Qv (fun (u : (Nat → Value) × (Nat → vp_A)) => u.1 6904 = .long X0.1 ∧ u.1 6906 = .int X0.2.1 ∧ u.1 6909 = .int X0.2.2.1 ∧ u.1 6911 = .int X0.2.2.2.1 ∧ u.1 6919 = .long X0.2.2.2.2.1 ∧ u.1 6920 = .int X0.2.2.2.2.2.1 ∧ u.1 6921 = .int X0.2.2.2.2.2.2.1 ∧ u.1 6922 = .int X0.2.2.2.2.2.2.2.1 ∧ u.1 6965 = .int X0.2.2.2.2.2.2.2.2.1 ∧ u.1 6966 = .int X0.2.2.2.2.2.2.2.2.2.1 ∧ (∀ j, nel j [6904, 6906, 6909, 6911, 6919, 6920, 6921, 6922, 6965, 6966] = false → u.1 j = m0 j) ∧ u.2 70 = (30, .inl X0.2.2.2.2.2.2.2.2.2.2.1) ∧ u.2 71 = (8, .inl X0.2.2.2.2.2.2.2.2.2.2.2.1) ∧ u.2 72 = (40, .inl X0.2.2.2.2.2.2.2.2.2.2.2.2.1) ∧ u.2 73 = (40, .inl X0.2.2.2.2.2.2.2.2.2.2.2.2.2) ∧ (∀ j, nel j [70, 71, 72, 73] = false → u.2 j = a0 j)) (gB D cy N q s.heap.size) (gA N q s.heap.size)) args s 0 0 (gA N q s.heap.size)) (F0 M 46 ls []) := by
    intro x69_4j5 x69_6j5 x69_9j5 x69_11j5 x69_19j5 x69_20j5 x69_21j5 x69_22j5 x69_65j5 x69_66j5 A70j5 A71j5 A72j5 A73j5 m a H locs w_x69_4 w_x69_6 w_x69_9 w_x69_11 w_x69_19 w_x69_20 w_x69_21 w_x69_22 w_x69_65 w_x69_66 hoff hsh w_A70 w_A71 w_A72 w_A73 hoffa ls hl hs0 hW hS
    unfold fX12_acting_J46 at hs0
    refine lv_aload_n hx hb dX12_acting_46 rfl (lv_at hl 0 rfl) ?_
    refine lv_iconst (v := 1) hx hb dX12_acting_47 (by decide) ?_
    refine gp12_66 hx hb hG hown hW hS (o := 69) (ltN hN 69 rfl) gk69 (v := 1) (by decide) gx1312 dX12_acting_48 (fun m10 H locs hm10 ho10 hW hS => ?_)
    have ho10 := off1 ho10
    have w_x69_4 : m10 6904 = .long x69_4j5 := (ho10 6904 rfl).trans w_x69_4
    have w_x69_6 : m10 6906 = .int x69_6j5 := (ho10 6906 rfl).trans w_x69_6
    have w_x69_9 : m10 6909 = .int x69_9j5 := (ho10 6909 rfl).trans w_x69_9
    have w_x69_11 : m10 6911 = .int x69_11j5 := (ho10 6911 rfl).trans w_x69_11
    have w_x69_19 : m10 6919 = .long x69_19j5 := (ho10 6919 rfl).trans w_x69_19
    have w_x69_20 : m10 6920 = .int x69_20j5 := (ho10 6920 rfl).trans w_x69_20
    have w_x69_21 : m10 6921 = .int x69_21j5 := (ho10 6921 rfl).trans w_x69_21
    have w_x69_22 : m10 6922 = .int x69_22j5 := (ho10 6922 rfl).trans w_x69_22
    have w_x69_65 : m10 6965 = .int x69_65j5 := (ho10 6965 rfl).trans w_x69_65
    have w_x69_66 : m10 6966 = .int 1 := hm10
    have hoff := offm hoff ho10 (by decide +kernel)
    have hsh := SH.off hsh ho10 (by decide +kernel)
    have hs0 := Option.some.inj hs0
    subst hs0
    exact W.vret hx hb hr (fun t ht hw => ⟨⟨(m10, a), rfl, ⟨w_x69_4, w_x69_6, w_x69_9, w_x69_11, w_x69_19, w_x69_20, w_x69_21, w_x69_22, w_x69_65, w_x69_66, hoff, w_A70, w_A71, w_A72, w_A73, hoffa⟩, g_end hW ht hw⟩, hS.F ht⟩) hS.2.2 dX12_acting_51 hlocks
  refine lv_aload_n hx hb dX12_acting_0 rfl (lv_at hl 0 rfl) ?_
  refine gf12_64 hx hb hG hown hW (o := 69) (ltN hN 69 rfl) gk69 (v := .int x69_64) ((hoff 6964 rfl).trans h_x69_64) gx1311 dX12_acting_1 ?_
  refine lv_if_eq (tgt := 21) hx hb dX12_acting_4 (by decide) (fun c1 => ?_) (fun c1 => ?_)
  · rw [if_pos c1] at hs0
    have hs0 := Option.some.inj hs0
    subst hs0
    exact W.vret hx hb hr (fun t ht hw => ⟨⟨(m0, a0), rfl, ⟨h_x69_4, h_x69_6, h_x69_9, h_x69_11, h_x69_19, h_x69_20, h_x69_21, h_x69_22, h_x69_65, h_x69_66, hoff, h_A70, h_A71, h_A72, h_A73, hoffa⟩, g_end hW ht hw⟩, hS.F ht⟩) hS.2.2 dX12_acting_21 hlocks
  · rw [if_neg c1] at hs0
    refine lv_aload_n hx hb dX12_acting_7 rfl (lv_at hl 0 rfl) ?_
    refine gf12_66 hx hb hG hown hW (o := 69) (ltN hN 69 rfl) gk69 (v := .int x69_66) h_x69_66 gx1312 dX12_acting_8 ?_
    refine lv_if_ne (tgt := 21) hx hb dX12_acting_11 (by decide) (fun c2 => ?_) (fun c2 => ?_)
    · rw [if_neg c2] at hs0
      have hs0 := Option.some.inj hs0
      subst hs0
      exact W.vret hx hb hr (fun t ht hw => ⟨⟨(m0, a0), rfl, ⟨h_x69_4, h_x69_6, h_x69_9, h_x69_11, h_x69_19, h_x69_20, h_x69_21, h_x69_22, h_x69_65, h_x69_66, hoff, h_A70, h_A71, h_A72, h_A73, hoffa⟩, g_end hW ht hw⟩, hS.F ht⟩) hS.2.2 dX12_acting_21 hlocks
    · rw [if_pos c2] at hs0
      refine lv_aload_n hx hb dX12_acting_14 rfl (lv_at hl 0 rfl) ?_
      refine gf12_63 hx hb hG hown hW (o := 69) (ltN hN 69 rfl) gk69 (v := .int x69_63) ((hoff 6963 rfl).trans h_x69_63) gx1305 dX12_acting_15 ?_
      refine lv_if_le (tgt := 22) hx hb dX12_acting_18 (by decide) (fun c3 => ?_) (fun c3 => ?_)
      · rw [if_pos c3] at hs0
        refine lv_aload_n hx hb dX12_acting_22 rfl (lv_at hl 0 rfl) ?_
        refine gf12_65 hx hb hG hown hW (o := 69) (ltN hN 69 rfl) gk69 (v := .int x69_65) h_x69_65 gx1306 dX12_acting_23 ?_
        refine lv_sipush (v := 600) hx hb dX12_acting_26 (by decide) ?_
        refine lv_icmp_eq (tgt := 46) hx hb dX12_acting_29 (by decide) (fun c4 => ?_) (fun c4 => ?_)
        · rw [if_pos c4] at hs0
          exact hJ46_0 x69_4 x69_6 x69_9 x69_11 x69_19 x69_20 x69_21 x69_22 x69_65 x69_66 A70 A71 A72 A73 m0 a0 _ _ h_x69_4 h_x69_6 h_x69_9 h_x69_11 h_x69_19 h_x69_20 h_x69_21 h_x69_22 h_x69_65 h_x69_66 hoff hsh h_A70 h_A71 h_A72 h_A73 hoffa ls (lv_sub hl [0] rfl) hs0 hW hS
        · rw [if_neg c4] at hs0
          refine lv_aload_n hx hb dX12_acting_32 rfl (lv_at hl 0 rfl) ?_
          refine lv_aload_n hx hb dX12_acting_33 rfl (lv_at hl 0 rfl) ?_
          refine gf12_4 hx hb hG hown hW (o := 69) (ltN hN 69 rfl) gk69 (v := .long x69_4) h_x69_4 gx202 dX12_acting_34 ?_
          refine lv_iload_n hx hb dX12_acting_37 rfl (lv_at hl 1 rfl) ?_
          refine lv_iload_n hx hb dX12_acting_38 rfl (lv_at hl 2 rfl) ?_
          refine lv_iload_n hx hb dX12_acting_39 rfl (lv_at hl 3 rfl) ?_
          refine g_ViR (n := 4) hx hb hml hown hG hW hS [.long x69_4, .int p1, .int p2, .int p3] (kX12_isThere hN ((hoff 6901 rfl).trans h_x69_1) x69_4 p1 p2 p3) (ltN hN 69 rfl) gk69 (by decide) rfl rfl (gd_V gx497 gx498 gx499 gx5 gx500) rfl rfl (by decide) ⟨Nat.le_of_ble_eq_true rfl, Nat.le_of_ble_eq_true rfl⟩ rfl hl (Nat.le_of_ble_eq_true rfl) ⟨Nat.zero_le _, Nat.zero_le _⟩ dX12_acting_40 (fun H locs hW hS => ?_)
          refine lv_if_ne (tgt := 52) hx hb dX12_acting_43 (by decide) (fun c7 => ?_) (fun c7 => ?_)
          · rw [if_neg c7] at hs0
            refine lv_aload_n hx hb dX12_acting_52 rfl (lv_at hl 0 rfl) ?_
            refine lv_iload_n hx hb dX12_acting_53 rfl (lv_at hl 1 rfl) ?_
            refine lv_iload_n hx hb dX12_acting_54 rfl (lv_at hl 2 rfl) ?_
            refine lv_iload_n hx hb dX12_acting_55 rfl (lv_at hl 3 rfl) ?_
            obtain ⟨r8, hf8, hs0⟩ := obind hs0
            refine g_Vi (n := 3) hx hb hml hown hG hW hS [.int p1, .int p2, .int p3] (kX12_acts hN hsh ((hoff 6900 rfl).trans h_x69_0) ((hoff 6901 rfl).trans h_x69_1) ((hoff 6902 rfl).trans h_x69_2) ((hoff 6903 rfl).trans h_x69_3) h_x69_4 h_x69_6 h_x69_9 h_x69_11 h_x69_19 h_x69_20 h_x69_21 h_x69_22 h_A70 h_A71 h_A72 h_A73 F p1 p2 p3 hf8) (ltN hN 69 rfl) gk69 (by decide) rfl rfl (gd_V gx501 gx502 gx503 gx5 gx504) rfl rfl (by decide) ⟨Nat.le_of_ble_eq_true rfl, Nat.le_of_ble_eq_true rfl⟩ rfl hl (Nat.le_of_ble_eq_true rfl) ⟨Nat.zero_le _, Nat.zero_le _⟩ dX12_acting_56 (fun x8 m8 a8 H locs hp8 hW hS => ?_)
            obtain ⟨hx8, hp8_x69_4, hp8_x69_6, hp8_x69_9, hp8_x69_11, hp8_x69_19, hp8_x69_20, hp8_x69_21, hp8_x69_22, ho8, hp8_A70, hp8_A71, hp8_A72, hp8_A73, hoa8⟩ := hp8
            subst hx8
            have w_x69_4 : m8 6904 = .long r8.2.1 := hp8_x69_4
            have w_x69_6 : m8 6906 = .int r8.2.2.1 := hp8_x69_6
            have w_x69_9 : m8 6909 = .int r8.2.2.2.1 := hp8_x69_9
            have w_x69_11 : m8 6911 = .int r8.2.2.2.2.1 := hp8_x69_11
            have w_x69_19 : m8 6919 = .long r8.2.2.2.2.2.1 := hp8_x69_19
            have w_x69_20 : m8 6920 = .int r8.2.2.2.2.2.2.1 := hp8_x69_20
            have w_x69_21 : m8 6921 = .int r8.2.2.2.2.2.2.2.1 := hp8_x69_21
            have w_x69_22 : m8 6922 = .int r8.2.2.2.2.2.2.2.2.1 := hp8_x69_22
            have w_x69_65 : m8 6965 = .int x69_65 := (ho8 6965 rfl).trans h_x69_65
            have w_x69_66 : m8 6966 = .int x69_66 := (ho8 6966 rfl).trans h_x69_66
            have hoff := offm hoff ho8 (by decide +kernel)
            have hsh := SH.off hsh ho8 (by decide +kernel)
            have w_A70 : a8 70 = (30, .inl r8.2.2.2.2.2.2.2.2.2.1) := hp8_A70
            have w_A71 : a8 71 = (8, .inl r8.2.2.2.2.2.2.2.2.2.2.1) := hp8_A71
            have w_A72 : a8 72 = (40, .inl r8.2.2.2.2.2.2.2.2.2.2.2.1) := hp8_A72
            have w_A73 : a8 73 = (40, .inl r8.2.2.2.2.2.2.2.2.2.2.2.2) := hp8_A73
            have hoffa := offm hoffa hoa8 (by decide +kernel)
            refine lv_pop hx hb dX12_acting_59 rfl ?_
            refine lv_aload_n hx hb dX12_acting_60 rfl (lv_at hl 0 rfl) ?_
            refine lv_dup hx hb dX12_acting_61 rfl ?_
            refine gf12_65 hx hb hG hown hW (o := 69) (ltN hN 69 rfl) gk69 (v := .int x69_65) w_x69_65 gx1306 dX12_acting_62 ?_
            refine lv_iconst (v := 1) hx hb dX12_acting_65 (by decide) ?_
            refine lv_iadd hx hb dX12_acting_66 ?_
            refine gp12_65 hx hb hG hown hW hS (o := 69) (ltN hN 69 rfl) gk69 (v := (x69_65 + 1)) gx1306 dX12_acting_67 (fun m9 H locs hm9 ho9 hW hS => ?_)
            have ho9 := off1 ho9
            have w_x69_4 : m9 6904 = .long r8.2.1 := (ho9 6904 rfl).trans w_x69_4
            have w_x69_6 : m9 6906 = .int r8.2.2.1 := (ho9 6906 rfl).trans w_x69_6
            have w_x69_9 : m9 6909 = .int r8.2.2.2.1 := (ho9 6909 rfl).trans w_x69_9
            have w_x69_11 : m9 6911 = .int r8.2.2.2.2.1 := (ho9 6911 rfl).trans w_x69_11
            have w_x69_19 : m9 6919 = .long r8.2.2.2.2.2.1 := (ho9 6919 rfl).trans w_x69_19
            have w_x69_20 : m9 6920 = .int r8.2.2.2.2.2.2.1 := (ho9 6920 rfl).trans w_x69_20
            have w_x69_21 : m9 6921 = .int r8.2.2.2.2.2.2.2.1 := (ho9 6921 rfl).trans w_x69_21
            have w_x69_22 : m9 6922 = .int r8.2.2.2.2.2.2.2.2.1 := (ho9 6922 rfl).trans w_x69_22
            have w_x69_65 : m9 6965 = .int (x69_65 + 1) := hm9
            have w_x69_66 : m9 6966 = .int x69_66 := (ho9 6966 rfl).trans w_x69_66
            have hoff := offm hoff ho9 (by decide +kernel)
            have hsh := SH.off hsh ho9 (by decide +kernel)
            have hs0 := Option.some.inj hs0
            subst hs0
            exact W.vret hx hb hr (fun t ht hw => ⟨⟨(m9, a8), rfl, ⟨w_x69_4, w_x69_6, w_x69_9, w_x69_11, w_x69_19, w_x69_20, w_x69_21, w_x69_22, w_x69_65, w_x69_66, hoff, w_A70, w_A71, w_A72, w_A73, hoffa⟩, g_end hW ht hw⟩, hS.F ht⟩) hS.2.2 dX12_acting_70 hlocks
          · rw [if_pos c7] at hs0
            exact hJ46_0 x69_4 x69_6 x69_9 x69_11 x69_19 x69_20 x69_21 x69_22 x69_65 x69_66 A70 A71 A72 A73 m0 a0 _ _ h_x69_4 h_x69_6 h_x69_9 h_x69_11 h_x69_19 h_x69_20 h_x69_21 h_x69_22 h_x69_65 h_x69_66 hoff hsh h_A70 h_A71 h_A72 h_A73 hoffa ls (lv_sub hl [0] rfl) hs0 hW hS
      · rw [if_neg c3] at hs0
        have hs0 := Option.some.inj hs0
        subst hs0
        exact W.vret hx hb hr (fun t ht hw => ⟨⟨(m0, a0), rfl, ⟨h_x69_4, h_x69_6, h_x69_9, h_x69_11, h_x69_19, h_x69_20, h_x69_21, h_x69_22, h_x69_65, h_x69_66, hoff, h_A70, h_A71, h_A72, h_A73, hoffa⟩, g_end hW ht hw⟩, hS.F ht⟩) hS.2.2 dX12_acting_21 hlocks
-- HealLinkModel.clears (I)V
def fX12_clears_J54 (F : Nat) (x69_0 : Int32) (x69_1 : Int32) (x69_2 : Int32) (x69_3 : Int32) (x69_63 : Int32) (x69_64 : Int32) (v1 : Int32) (v2 : Int32) (v3j9 : Int32) (v4 : Int32) (v5j9 : Int32) (x69_4 : Int64) (x69_6 : Int32) (x69_9 : Int32) (x69_11 : Int32) (x69_19 : Int64) (x69_20 : Int32) (x69_21 : Int32) (x69_22 : Int32) (x69_65 : Int32) (x69_66 : Int32) (A70 : Nat → Int32) (A71 : Nat → Int32) (A72 : Nat → Int32) (A73 : Nat → Int32) : Option ((Int32) ⊕ (Int32 × Int32)) := some (Sum.inr (v3j9, v5j9 + (-1)))
def fX12_clears_S25 (F : Nat) (x69_0 : Int32) (x69_1 : Int32) (x69_2 : Int32) (x69_3 : Int32) (x69_63 : Int32) (x69_64 : Int32) (v1 : Int32) (v2 : Int32) (v4 : Int32) (x69_4 : Int64) (x69_6 : Int32) (x69_9 : Int32) (x69_11 : Int32) (x69_19 : Int64) (x69_20 : Int32) (x69_21 : Int32) (x69_22 : Int32) (x69_65 : Int32) (x69_66 : Int32) (A70 : Nat → Int32) (A71 : Nat → Int32) (A72 : Nat → Int32) (A73 : Nat → Int32) (v3 : Int32) (v5 : Int32) : Option ((Int32) ⊕ (Int32 × Int32)) := (if v5 < 0 then some (Sum.inl v3) else (if (fX12_isThere x69_1 x69_4 3 v4 v5) = 0 then fX12_clears_J54 F x69_0 x69_1 x69_2 x69_3 x69_63 x69_64 v1 v2 v3 v4 v5 x69_4 x69_6 x69_9 x69_11 x69_19 x69_20 x69_21 x69_22 x69_65 x69_66 A70 A71 A72 A73 else fX12_clears_J54 F x69_0 x69_1 x69_2 x69_3 x69_63 x69_64 v1 v2 ((2 * v4) + v5) v4 v5 x69_4 x69_6 x69_9 x69_11 x69_19 x69_20 x69_21 x69_22 x69_65 x69_66 A70 A71 A72 A73))
def fX12_clears_S17 (F : Nat) (x69_0 : Int32) (x69_1 : Int32) (x69_2 : Int32) (x69_3 : Int32) (x69_63 : Int32) (x69_64 : Int32) (v1 : Int32) (v2 : Int32) (x69_4 : Int64) (x69_6 : Int32) (x69_9 : Int32) (x69_11 : Int32) (x69_19 : Int64) (x69_20 : Int32) (x69_21 : Int32) (x69_22 : Int32) (x69_65 : Int32) (x69_66 : Int32) (A70 : Nat → Int32) (A71 : Nat → Int32) (A72 : Nat → Int32) (A73 : Nat → Int32) (v3 : Int32) (v4 : Int32) : Option ((Int32) ⊕ (Int32 × Int32)) := (if v4 < 0 then some (Sum.inl v3) else (gloop (fun u5 : (Int32 × Int32) => fX12_clears_S25 F x69_0 x69_1 x69_2 x69_3 x69_63 x69_64 v1 v2 v4 x69_4 x69_6 x69_9 x69_11 x69_19 x69_20 x69_21 x69_22 x69_65 x69_66 A70 A71 A72 A73 u5.1 u5.2) F (v3, 1)).bind (fun t5_60 => some (Sum.inr (t5_60, v4 + (-1)))))
def fX12_clears_S2 (F : Nat) (x69_0 : Int32) (x69_1 : Int32) (x69_2 : Int32) (x69_3 : Int32) (x69_63 : Int32) (x69_64 : Int32) (v1 : Int32) (v2 : Int32) (x69_4 : Int64) (x69_6 : Int32) (x69_9 : Int32) (x69_11 : Int32) (x69_19 : Int64) (x69_20 : Int32) (x69_21 : Int32) (x69_22 : Int32) (x69_65 : Int32) (x69_66 : Int32) (A70 : Nat → Int32) (A71 : Nat → Int32) (A72 : Nat → Int32) (A73 : Nat → Int32) : Option (((Int64 × Int32 × Int32 × Int32 × Int64 × Int32 × Int32 × Int32 × Int32 × Int32 × (Nat → Int32) × (Nat → Int32) × (Nat → Int32) × (Nat → Int32)) ⊕ (Int64 × Int32 × Int32 × Int32 × Int64 × Int32 × Int32 × Int32 × Int32 × Int32 × (Nat → Int32) × (Nat → Int32) × (Nat → Int32) × (Nat → Int32))) ⊕ (Int32 × Int64 × Int32 × Int32 × Int32 × Int64 × Int32 × Int32 × Int32 × Int32 × Int32 × (Nat → Int32) × (Nat → Int32) × (Nat → Int32) × (Nat → Int32))) := (if v1 ≤ v2 then some (Sum.inl (Sum.inr ((x69_4, x69_6, x69_9, x69_11, x69_19, x69_20, x69_21, x69_22, x69_65, x69_66, A70, A71, A72, A73)))) else (gloop (fun u3 : (Int32 × Int32) => fX12_clears_S17 F x69_0 x69_1 x69_2 x69_3 x69_63 x69_64 v1 v2 x69_4 x69_6 x69_9 x69_11 x69_19 x69_20 x69_21 x69_22 x69_65 x69_66 A70 A71 A72 A73 u3.1 u3.2) F ((-1), x69_1 - 1)).bind (fun t3_66 => (if 0 ≤ t3_66 then ((fX12_acting F x69_0 x69_1 x69_2 x69_3 x69_63 x69_64 x69_4 x69_6 x69_9 x69_11 x69_19 x69_20 x69_21 x69_22 x69_65 x69_66 A70 A71 A72 A73 3 (t3_66 / 2) (t3_66 - t3_66 / 2 * 2)).bind (fun r17 => some (Sum.inr (v2 + 1, r17.1, r17.2.1, r17.2.2.1, r17.2.2.2.1, r17.2.2.2.2.1, r17.2.2.2.2.2.1, r17.2.2.2.2.2.2.1, r17.2.2.2.2.2.2.2.1, r17.2.2.2.2.2.2.2.2.1, r17.2.2.2.2.2.2.2.2.2.1, r17.2.2.2.2.2.2.2.2.2.2.1, r17.2.2.2.2.2.2.2.2.2.2.2.1, r17.2.2.2.2.2.2.2.2.2.2.2.2.1, r17.2.2.2.2.2.2.2.2.2.2.2.2.2)))) else some (Sum.inl (Sum.inl (x69_4, x69_6, x69_9, x69_11, x69_19, x69_20, x69_21, x69_22, x69_65, x69_66, A70, A71, A72, A73))))))
def fX12_clears (F : Nat) (x69_0 : Int32) (x69_1 : Int32) (x69_2 : Int32) (x69_3 : Int32) (x69_63 : Int32) (x69_64 : Int32) (x69_4 : Int64) (x69_6 : Int32) (x69_9 : Int32) (x69_11 : Int32) (x69_19 : Int64) (x69_20 : Int32) (x69_21 : Int32) (x69_22 : Int32) (x69_65 : Int32) (x69_66 : Int32) (A70 : Nat → Int32) (A71 : Nat → Int32) (A72 : Nat → Int32) (A73 : Nat → Int32) (p1 : Int32) : Option (Int64 × Int32 × Int32 × Int32 × Int64 × Int32 × Int32 × Int32 × Int32 × Int32 × (Nat → Int32) × (Nat → Int32) × (Nat → Int32) × (Nat → Int32)) := (gloop (fun u1 : (Int32 × Int64 × Int32 × Int32 × Int32 × Int64 × Int32 × Int32 × Int32 × Int32 × Int32 × (Nat → Int32) × (Nat → Int32) × (Nat → Int32) × (Nat → Int32)) => fX12_clears_S2 F x69_0 x69_1 x69_2 x69_3 x69_63 x69_64 p1 u1.1 u1.2.1 u1.2.2.1 u1.2.2.2.1 u1.2.2.2.2.1 u1.2.2.2.2.2.1 u1.2.2.2.2.2.2.1 u1.2.2.2.2.2.2.2.1 u1.2.2.2.2.2.2.2.2.1 u1.2.2.2.2.2.2.2.2.2.1 u1.2.2.2.2.2.2.2.2.2.2.1 u1.2.2.2.2.2.2.2.2.2.2.2.1 u1.2.2.2.2.2.2.2.2.2.2.2.2.1 u1.2.2.2.2.2.2.2.2.2.2.2.2.2.1 u1.2.2.2.2.2.2.2.2.2.2.2.2.2.2) F (0, x69_4, x69_6, x69_9, x69_11, x69_19, x69_20, x69_21, x69_22, x69_65, x69_66, A70, A71, A72, A73)).bind (Sum.elim (fun t1_70 => some (t1_70.1, t1_70.2.1, t1_70.2.2.1, t1_70.2.2.2.1, t1_70.2.2.2.2.1, t1_70.2.2.2.2.2.1, t1_70.2.2.2.2.2.2.1, t1_70.2.2.2.2.2.2.2.1, t1_70.2.2.2.2.2.2.2.2.1, t1_70.2.2.2.2.2.2.2.2.2.1, t1_70.2.2.2.2.2.2.2.2.2.2.1, t1_70.2.2.2.2.2.2.2.2.2.2.2.1, t1_70.2.2.2.2.2.2.2.2.2.2.2.2.1, t1_70.2.2.2.2.2.2.2.2.2.2.2.2.2)) (fun t1_88 => some (t1_88.1, t1_88.2.1, t1_88.2.2.1, t1_88.2.2.2.1, t1_88.2.2.2.2.1, t1_88.2.2.2.2.2.1, t1_88.2.2.2.2.2.2.1, t1_88.2.2.2.2.2.2.2.1, t1_88.2.2.2.2.2.2.2.2.1, t1_88.2.2.2.2.2.2.2.2.2.1, t1_88.2.2.2.2.2.2.2.2.2.2.1, t1_88.2.2.2.2.2.2.2.2.2.2.2.1, t1_88.2.2.2.2.2.2.2.2.2.2.2.2.1, t1_88.2.2.2.2.2.2.2.2.2.2.2.2.2)))
theorem dX12_clears_0 : decode cX12_clears 0 = .ok (.iconst 0, 1) := by decide +kernel
theorem dX12_clears_1 : decode cX12_clears 1 = .ok (.istore_n 2, 1) := by decide +kernel
theorem dX12_clears_2 : decode cX12_clears 2 = .ok (.iload_n 2, 1) := by decide +kernel
theorem dX12_clears_3 : decode cX12_clears 3 = .ok (.iload_n 1, 1) := by decide +kernel
theorem dX12_clears_4 : decode cX12_clears 4 = .ok (.if_icmp .ge 84, 3) := by decide +kernel
theorem dX12_clears_7 : decode cX12_clears 7 = .ok (.iconst (-1), 1) := by decide +kernel
theorem dX12_clears_8 : decode cX12_clears 8 = .ok (.istore_n 3, 1) := by decide +kernel
theorem dX12_clears_9 : decode cX12_clears 9 = .ok (.aload_n 0, 1) := by decide +kernel
theorem dX12_clears_10 : decode cX12_clears 10 = .ok (.getfield 13, 3) := by decide +kernel
theorem dX12_clears_13 : decode cX12_clears 13 = .ok (.iconst 1, 1) := by decide +kernel
theorem dX12_clears_14 : decode cX12_clears 14 = .ok (.isub, 1) := by decide +kernel
theorem dX12_clears_15 : decode cX12_clears 15 = .ok (.istore 4, 2) := by decide +kernel
theorem dX12_clears_17 : decode cX12_clears 17 = .ok (.iload 4, 2) := by decide +kernel
theorem dX12_clears_19 : decode cX12_clears 19 = .ok (.ifCond .lt 47, 3) := by decide +kernel
theorem dX12_clears_22 : decode cX12_clears 22 = .ok (.iconst 1, 1) := by decide +kernel
theorem dX12_clears_23 : decode cX12_clears 23 = .ok (.istore 5, 2) := by decide +kernel
theorem dX12_clears_25 : decode cX12_clears 25 = .ok (.iload 5, 2) := by decide +kernel
theorem dX12_clears_27 : decode cX12_clears 27 = .ok (.ifCond .lt 33, 3) := by decide +kernel
theorem dX12_clears_30 : decode cX12_clears 30 = .ok (.aload_n 0, 1) := by decide +kernel
theorem dX12_clears_31 : decode cX12_clears 31 = .ok (.aload_n 0, 1) := by decide +kernel
theorem dX12_clears_32 : decode cX12_clears 32 = .ok (.getfield 133, 3) := by decide +kernel
theorem dX12_clears_35 : decode cX12_clears 35 = .ok (.iconst 3, 1) := by decide +kernel
theorem dX12_clears_36 : decode cX12_clears 36 = .ok (.iload 4, 2) := by decide +kernel
theorem dX12_clears_38 : decode cX12_clears 38 = .ok (.iload 5, 2) := by decide +kernel
theorem dX12_clears_40 : decode cX12_clears 40 = .ok (.invokevirtual 224, 3) := by decide +kernel
theorem dX12_clears_43 : decode cX12_clears 43 = .ok (.ifCond .eq 11, 3) := by decide +kernel
theorem dX12_clears_46 : decode cX12_clears 46 = .ok (.iconst 2, 1) := by decide +kernel
theorem dX12_clears_47 : decode cX12_clears 47 = .ok (.iload 4, 2) := by decide +kernel
theorem dX12_clears_49 : decode cX12_clears 49 = .ok (.imul, 1) := by decide +kernel
theorem dX12_clears_50 : decode cX12_clears 50 = .ok (.iload 5, 2) := by decide +kernel
theorem dX12_clears_52 : decode cX12_clears 52 = .ok (.iadd, 1) := by decide +kernel
theorem dX12_clears_53 : decode cX12_clears 53 = .ok (.istore_n 3, 1) := by decide +kernel
theorem dX12_clears_54 : decode cX12_clears 54 = .ok (.iinc 5 (-1), 3) := by decide +kernel
theorem dX12_clears_57 : decode cX12_clears 57 = .ok (.goto (-32), 3) := by decide +kernel
theorem dX12_clears_60 : decode cX12_clears 60 = .ok (.iinc 4 (-1), 3) := by decide +kernel
theorem dX12_clears_63 : decode cX12_clears 63 = .ok (.goto (-46), 3) := by decide +kernel
theorem dX12_clears_66 : decode cX12_clears 66 = .ok (.iload_n 3, 1) := by decide +kernel
theorem dX12_clears_67 : decode cX12_clears 67 = .ok (.ifCond .ge 4, 3) := by decide +kernel
theorem dX12_clears_70 : decode cX12_clears 70 = .ok (.return_, 1) := by decide +kernel
theorem dX12_clears_71 : decode cX12_clears 71 = .ok (.aload_n 0, 1) := by decide +kernel
theorem dX12_clears_72 : decode cX12_clears 72 = .ok (.iconst 3, 1) := by decide +kernel
theorem dX12_clears_73 : decode cX12_clears 73 = .ok (.iload_n 3, 1) := by decide +kernel
theorem dX12_clears_74 : decode cX12_clears 74 = .ok (.iconst 2, 1) := by decide +kernel
theorem dX12_clears_75 : decode cX12_clears 75 = .ok (.idiv, 1) := by decide +kernel
theorem dX12_clears_76 : decode cX12_clears 76 = .ok (.iload_n 3, 1) := by decide +kernel
theorem dX12_clears_77 : decode cX12_clears 77 = .ok (.iconst 2, 1) := by decide +kernel
theorem dX12_clears_78 : decode cX12_clears 78 = .ok (.irem, 1) := by decide +kernel
theorem dX12_clears_79 : decode cX12_clears 79 = .ok (.invokevirtual 414, 3) := by decide +kernel
theorem dX12_clears_82 : decode cX12_clears 82 = .ok (.iinc 2 1, 3) := by decide +kernel
theorem dX12_clears_85 : decode cX12_clears 85 = .ok (.goto (-83), 3) := by decide +kernel
theorem dX12_clears_88 : decode cX12_clears 88 = .ok (.return_, 1) := by decide +kernel
set_option maxHeartbeats 4000000 in
set_option maxRecDepth 100000 in
theorem kX12_clears {l : Launch} {D : va_G} {cy : Nat → ClassId} {N : Nat} {q : Nat → Nat} {m0 : Nat → Value} {a0 : Nat → vp_A} {sz : Nat} (hN : 105 ≤ N) (hsh : SH q m0) {x69_0 : Int32} (h_x69_0 : m0 6900 = .int x69_0) {x69_1 : Int32} (h_x69_1 : m0 6901 = .int x69_1) {x69_2 : Int32} (h_x69_2 : m0 6902 = .int x69_2) {x69_3 : Int32} (h_x69_3 : m0 6903 = .int x69_3) {x69_63 : Int32} (h_x69_63 : m0 6963 = .int x69_63) {x69_64 : Int32} (h_x69_64 : m0 6964 = .int x69_64) {x69_4 : Int64} (h_x69_4 : m0 6904 = .long x69_4) {x69_6 : Int32} (h_x69_6 : m0 6906 = .int x69_6) {x69_9 : Int32} (h_x69_9 : m0 6909 = .int x69_9) {x69_11 : Int32} (h_x69_11 : m0 6911 = .int x69_11) {x69_19 : Int64} (h_x69_19 : m0 6919 = .long x69_19) {x69_20 : Int32} (h_x69_20 : m0 6920 = .int x69_20) {x69_21 : Int32} (h_x69_21 : m0 6921 = .int x69_21) {x69_22 : Int32} (h_x69_22 : m0 6922 = .int x69_22) {x69_65 : Int32} (h_x69_65 : m0 6965 = .int x69_65) {x69_66 : Int32} (h_x69_66 : m0 6966 = .int x69_66) {A70 : Nat → Int32} (h_A70 : a0 70 = (30, .inl A70)) {A71 : Nat → Int32} (h_A71 : a0 71 = (8, .inl A71)) {A72 : Nat → Int32} (h_A72 : a0 72 = (40, .inl A72)) {A73 : Nat → Int32} (h_A73 : a0 73 = (40, .inl A73)) (F : Nat) (p1 : Int32) {X0 : Int64 × Int32 × Int32 × Int32 × Int64 × Int32 × Int32 × Int32 × Int32 × Int32 × (Nat → Int32) × (Nat → Int32) × (Nat → Int32) × (Nat → Int32)} (hs0 : fX12_clears F x69_0 x69_1 x69_2 x69_3 x69_63 x69_64 x69_4 x69_6 x69_9 x69_11 x69_19 x69_20 x69_21 x69_22 x69_65 x69_66 A70 A71 A72 A73 p1 = some X0) : gMv l yX12_clears cX12_clears 6 none ({ frames := 5, cells := 0, slots := 0, locals := 123 } : Room) D cy N q m0 a0 sz [.ref (q 69), .int p1] (fun m' a' => m' 6904 = .long X0.1 ∧ m' 6906 = .int X0.2.1 ∧ m' 6909 = .int X0.2.2.1 ∧ m' 6911 = .int X0.2.2.2.1 ∧ m' 6919 = .long X0.2.2.2.2.1 ∧ m' 6920 = .int X0.2.2.2.2.2.1 ∧ m' 6921 = .int X0.2.2.2.2.2.2.1 ∧ m' 6922 = .int X0.2.2.2.2.2.2.2.1 ∧ m' 6965 = .int X0.2.2.2.2.2.2.2.2.1 ∧ m' 6966 = .int X0.2.2.2.2.2.2.2.2.2.1 ∧ (∀ j, nel j [6904, 6906, 6909, 6911, 6919, 6920, 6921, 6922, 6965, 6966] = false → m' j = m0 j) ∧ a' 70 = (30, .inl X0.2.2.2.2.2.2.2.2.2.2.1) ∧ a' 71 = (8, .inl X0.2.2.2.2.2.2.2.2.2.2.2.1) ∧ a' 72 = (40, .inl X0.2.2.2.2.2.2.2.2.2.2.2.2.1) ∧ a' 73 = (40, .inl X0.2.2.2.2.2.2.2.2.2.2.2.2.2) ∧ (∀ j, nel j [70, 71, 72, 73] = false → a' j = a0 j)) := by
  refine g_ofv (by decide) (Nat.le_of_ble_eq_true rfl) ?_
  intro p e s M args below meth c hx hb hr hG hown hin hlocks hml hW hS ls hl
  unfold fX12_clears at hs0
  have hoff : ∀ j, nel j [6904, 6906, 6909, 6911, 6919, 6920, 6921, 6922, 6965, 6966] = false → m0 j = m0 j := off0
  have hoffa : ∀ j, nel j [70, 71, 72, 73] = false → a0 j = a0 j := off0
  refine lv_iconst (v := 0) hx hb dX12_clears_0 (by decide) ?_
  refine lv_istore_n (lv' := [(2, .int 0), (0, .ref (q 69)), (1, .int p1)]) hx hb dX12_clears_1 rfl hl (by decide) rfl (fun ls hl => ?_)
  obtain ⟨r1, hg1, hs0⟩ := obind hs0
  have hE1_70 : ∀ (t1_70 : Int64 × Int32 × Int32 × Int32 × Int64 × Int32 × Int32 × Int32 × Int32 × Int32 × (Nat → Int32) × (Nat → Int32) × (Nat → Int32) × (Nat → Int32)) (hr1 : Sum.inl t1_70 = r1) (m : Nat → Value) (a : Nat → vp_A) (H : Heap) (locs : List Loc) (w_x69_4 : m 6904 = .long t1_70.1) (w_x69_6 : m 6906 = .int t1_70.2.1) (w_x69_9 : m 6909 = .int t1_70.2.2.1) (w_x69_11 : m 6911 = .int t1_70.2.2.2.1) (w_x69_19 : m 6919 = .long t1_70.2.2.2.2.1) (w_x69_20 : m 6920 = .int t1_70.2.2.2.2.2.1) (w_x69_21 : m 6921 = .int t1_70.2.2.2.2.2.2.1) (w_x69_22 : m 6922 = .int t1_70.2.2.2.2.2.2.2.1) (w_x69_65 : m 6965 = .int t1_70.2.2.2.2.2.2.2.2.1) (w_x69_66 : m 6966 = .int t1_70.2.2.2.2.2.2.2.2.2.1) (hoff : ∀ j, nel j [6904, 6906, 6909, 6911, 6919, 6920, 6921, 6922, 6965, 6966] = false → m j = m0 j) (hsh : SH q m) (w_A70 : a 70 = (30, .inl t1_70.2.2.2.2.2.2.2.2.2.2.1)) (w_A71 : a 71 = (8, .inl t1_70.2.2.2.2.2.2.2.2.2.2.2.1)) (w_A72 : a 72 = (40, .inl t1_70.2.2.2.2.2.2.2.2.2.2.2.2.1)) (w_A73 : a 73 = (40, .inl t1_70.2.2.2.2.2.2.2.2.2.2.2.2.2)) (hoffa : ∀ j, nel j [70, 71, 72, 73] = false → a j = a0 j) (ls : Array Slot) (hl : lv_has ls 6 []) (hW : GW D cy (gA N q s.heap.size) N q m a s H) (hS : va_S (gA N q s.heap.size) s.heap H locs), W p l e ({ frames := 5, cells := 0, slots := 0, locals := 123 } : Room) s M args below meth c H locs 0 0 (MQ below (va_Qv (fun (u : (Nat → Value) × (Nat → vp_A)) => u.1 6904 = .long X0.1 ∧ u.1 6906 = .int X0.2.1 ∧ u.1 6909 = .int X0.2.2.1 ∧ u.1 6911 = .int X0.2.2.2.1 ∧ u.1 6919 = .long X0.2.2.2.2.1 ∧ u.1 6920 = .int X0.2.2.2.2.2.1 ∧ u.1 6921 = .int X0.2.2.2.2.2.2.1 ∧ u.1 6922 = .int X0.2.2.2.2.2.2.2.1 ∧ u.1 6965 = .int X0.2.2.2.2.2.2.2.2.1 ∧ u.1 6966 = .int X0.2.2.2.2.2.2.2.2.2.1 ∧ (∀ j, nel j [6904, 6906, 6909, 6911, 6919, 6920, 6921, 6922, 6965, 6966] = false → u.1 j = m0 j) ∧ u.2 70 = (30, .inl X0.2.2.2.2.2.2.2.2.2.2.1) ∧ u.2 71 = (8, .inl X0.2.2.2.2.2.2.2.2.2.2.2.1) ∧ u.2 72 = (40, .inl X0.2.2.2.2.2.2.2.2.2.2.2.2.1) ∧ u.2 73 = (40, .inl X0.2.2.2.2.2.2.2.2.2.2.2.2.2) ∧ (∀ j, nel j [70, 71, 72, 73] = false → u.2 j = a0 j)) (gB D cy N q s.heap.size) (gA N q s.heap.size)) args s 0 0 (gA N q s.heap.size)) (F0 M 70 ls []) := by
    intro t1_70 hr1 m a H locs w_x69_4 w_x69_6 w_x69_9 w_x69_11 w_x69_19 w_x69_20 w_x69_21 w_x69_22 w_x69_65 w_x69_66 hoff hsh w_A70 w_A71 w_A72 w_A73 hoffa ls hl hW hS
    subst hr1
    have hs0 := osum_l hs0
    have hs0 := Option.some.inj hs0
    subst hs0
    exact W.vret hx hb hr (fun t ht hw => ⟨⟨(m, a), rfl, ⟨w_x69_4, w_x69_6, w_x69_9, w_x69_11, w_x69_19, w_x69_20, w_x69_21, w_x69_22, w_x69_65, w_x69_66, hoff, w_A70, w_A71, w_A72, w_A73, hoffa⟩, g_end hW ht hw⟩, hS.F ht⟩) hS.2.2 dX12_clears_70 hlocks
  have hE1_88 : ∀ (t1_88 : Int64 × Int32 × Int32 × Int32 × Int64 × Int32 × Int32 × Int32 × Int32 × Int32 × (Nat → Int32) × (Nat → Int32) × (Nat → Int32) × (Nat → Int32)) (hr1 : Sum.inr (t1_88) = r1) (m : Nat → Value) (a : Nat → vp_A) (H : Heap) (locs : List Loc) (w_x69_4 : m 6904 = .long t1_88.1) (w_x69_6 : m 6906 = .int t1_88.2.1) (w_x69_9 : m 6909 = .int t1_88.2.2.1) (w_x69_11 : m 6911 = .int t1_88.2.2.2.1) (w_x69_19 : m 6919 = .long t1_88.2.2.2.2.1) (w_x69_20 : m 6920 = .int t1_88.2.2.2.2.2.1) (w_x69_21 : m 6921 = .int t1_88.2.2.2.2.2.2.1) (w_x69_22 : m 6922 = .int t1_88.2.2.2.2.2.2.2.1) (w_x69_65 : m 6965 = .int t1_88.2.2.2.2.2.2.2.2.1) (w_x69_66 : m 6966 = .int t1_88.2.2.2.2.2.2.2.2.2.1) (hoff : ∀ j, nel j [6904, 6906, 6909, 6911, 6919, 6920, 6921, 6922, 6965, 6966] = false → m j = m0 j) (hsh : SH q m) (w_A70 : a 70 = (30, .inl t1_88.2.2.2.2.2.2.2.2.2.2.1)) (w_A71 : a 71 = (8, .inl t1_88.2.2.2.2.2.2.2.2.2.2.2.1)) (w_A72 : a 72 = (40, .inl t1_88.2.2.2.2.2.2.2.2.2.2.2.2.1)) (w_A73 : a 73 = (40, .inl t1_88.2.2.2.2.2.2.2.2.2.2.2.2.2)) (hoffa : ∀ j, nel j [70, 71, 72, 73] = false → a j = a0 j) (ls : Array Slot) (hl : lv_has ls 6 []) (hW : GW D cy (gA N q s.heap.size) N q m a s H) (hS : va_S (gA N q s.heap.size) s.heap H locs), W p l e ({ frames := 5, cells := 0, slots := 0, locals := 123 } : Room) s M args below meth c H locs 0 0 (MQ below (va_Qv (fun (u : (Nat → Value) × (Nat → vp_A)) => u.1 6904 = .long X0.1 ∧ u.1 6906 = .int X0.2.1 ∧ u.1 6909 = .int X0.2.2.1 ∧ u.1 6911 = .int X0.2.2.2.1 ∧ u.1 6919 = .long X0.2.2.2.2.1 ∧ u.1 6920 = .int X0.2.2.2.2.2.1 ∧ u.1 6921 = .int X0.2.2.2.2.2.2.1 ∧ u.1 6922 = .int X0.2.2.2.2.2.2.2.1 ∧ u.1 6965 = .int X0.2.2.2.2.2.2.2.2.1 ∧ u.1 6966 = .int X0.2.2.2.2.2.2.2.2.2.1 ∧ (∀ j, nel j [6904, 6906, 6909, 6911, 6919, 6920, 6921, 6922, 6965, 6966] = false → u.1 j = m0 j) ∧ u.2 70 = (30, .inl X0.2.2.2.2.2.2.2.2.2.2.1) ∧ u.2 71 = (8, .inl X0.2.2.2.2.2.2.2.2.2.2.2.1) ∧ u.2 72 = (40, .inl X0.2.2.2.2.2.2.2.2.2.2.2.2.1) ∧ u.2 73 = (40, .inl X0.2.2.2.2.2.2.2.2.2.2.2.2.2) ∧ (∀ j, nel j [70, 71, 72, 73] = false → u.2 j = a0 j)) (gB D cy N q s.heap.size) (gA N q s.heap.size)) args s 0 0 (gA N q s.heap.size)) (F0 M 88 ls []) := by
    intro t1_88 hr1 m a H locs w_x69_4 w_x69_6 w_x69_9 w_x69_11 w_x69_19 w_x69_20 w_x69_21 w_x69_22 w_x69_65 w_x69_66 hoff hsh w_A70 w_A71 w_A72 w_A73 hoffa ls hl hW hS
    subst hr1
    have hs0 := osum_r hs0
    have hs0 := Option.some.inj hs0
    subst hs0
    exact W.vret hx hb hr (fun t ht hw => ⟨⟨(m, a), rfl, ⟨w_x69_4, w_x69_6, w_x69_9, w_x69_11, w_x69_19, w_x69_20, w_x69_21, w_x69_22, w_x69_65, w_x69_66, hoff, w_A70, w_A71, w_A72, w_A73, hoffa⟩, g_end hW ht hw⟩, hS.F ht⟩) hS.2.2 dX12_clears_88 hlocks
  have hL1 : ∀ (n : Nat) (v2k1 : Int32) (x69_4k1 : Int64) (x69_6k1 : Int32) (x69_9k1 : Int32) (x69_11k1 : Int32) (x69_19k1 : Int64) (x69_20k1 : Int32) (x69_21k1 : Int32) (x69_22k1 : Int32) (x69_65k1 : Int32) (x69_66k1 : Int32) (A70k1 : Nat → Int32) (A71k1 : Nat → Int32) (A72k1 : Nat → Int32) (A73k1 : Nat → Int32) (m : Nat → Value) (a : Nat → vp_A) (H : Heap) (locs : List Loc) (w_x69_4 : m 6904 = .long x69_4k1) (w_x69_6 : m 6906 = .int x69_6k1) (w_x69_9 : m 6909 = .int x69_9k1) (w_x69_11 : m 6911 = .int x69_11k1) (w_x69_19 : m 6919 = .long x69_19k1) (w_x69_20 : m 6920 = .int x69_20k1) (w_x69_21 : m 6921 = .int x69_21k1) (w_x69_22 : m 6922 = .int x69_22k1) (w_x69_65 : m 6965 = .int x69_65k1) (w_x69_66 : m 6966 = .int x69_66k1) (hoff : ∀ j, nel j [6904, 6906, 6909, 6911, 6919, 6920, 6921, 6922, 6965, 6966] = false → m j = m0 j) (hsh : SH q m) (w_A70 : a 70 = (30, .inl A70k1)) (w_A71 : a 71 = (8, .inl A71k1)) (w_A72 : a 72 = (40, .inl A72k1)) (w_A73 : a 73 = (40, .inl A73k1)) (hoffa : ∀ j, nel j [70, 71, 72, 73] = false → a j = a0 j) (ls : Array Slot) (hl : lv_has ls 6 [(0, .ref (q 69)), (1, .int p1), (2, .int v2k1)]) (hg1 : gloop (fun u1 : (Int32 × Int64 × Int32 × Int32 × Int32 × Int64 × Int32 × Int32 × Int32 × Int32 × Int32 × (Nat → Int32) × (Nat → Int32) × (Nat → Int32) × (Nat → Int32)) => fX12_clears_S2 F x69_0 x69_1 x69_2 x69_3 x69_63 x69_64 p1 u1.1 u1.2.1 u1.2.2.1 u1.2.2.2.1 u1.2.2.2.2.1 u1.2.2.2.2.2.1 u1.2.2.2.2.2.2.1 u1.2.2.2.2.2.2.2.1 u1.2.2.2.2.2.2.2.2.1 u1.2.2.2.2.2.2.2.2.2.1 u1.2.2.2.2.2.2.2.2.2.2.1 u1.2.2.2.2.2.2.2.2.2.2.2.1 u1.2.2.2.2.2.2.2.2.2.2.2.2.1 u1.2.2.2.2.2.2.2.2.2.2.2.2.2.1 u1.2.2.2.2.2.2.2.2.2.2.2.2.2.2) n (v2k1, x69_4k1, x69_6k1, x69_9k1, x69_11k1, x69_19k1, x69_20k1, x69_21k1, x69_22k1, x69_65k1, x69_66k1, A70k1, A71k1, A72k1, A73k1) = some r1) (hW : GW D cy (gA N q s.heap.size) N q m a s H) (hS : va_S (gA N q s.heap.size) s.heap H locs), W p l e ({ frames := 5, cells := 0, slots := 0, locals := 123 } : Room) s M args below meth c H locs 0 0 (MQ below (va_Qv (fun (u : (Nat → Value) × (Nat → vp_A)) => u.1 6904 = .long X0.1 ∧ u.1 6906 = .int X0.2.1 ∧ u.1 6909 = .int X0.2.2.1 ∧ u.1 6911 = .int X0.2.2.2.1 ∧ u.1 6919 = .long X0.2.2.2.2.1 ∧ u.1 6920 = .int X0.2.2.2.2.2.1 ∧ u.1 6921 = .int X0.2.2.2.2.2.2.1 ∧ u.1 6922 = .int X0.2.2.2.2.2.2.2.1 ∧ u.1 6965 = .int X0.2.2.2.2.2.2.2.2.1 ∧ u.1 6966 = .int X0.2.2.2.2.2.2.2.2.2.1 ∧ (∀ j, nel j [6904, 6906, 6909, 6911, 6919, 6920, 6921, 6922, 6965, 6966] = false → u.1 j = m0 j) ∧ u.2 70 = (30, .inl X0.2.2.2.2.2.2.2.2.2.2.1) ∧ u.2 71 = (8, .inl X0.2.2.2.2.2.2.2.2.2.2.2.1) ∧ u.2 72 = (40, .inl X0.2.2.2.2.2.2.2.2.2.2.2.2.1) ∧ u.2 73 = (40, .inl X0.2.2.2.2.2.2.2.2.2.2.2.2.2) ∧ (∀ j, nel j [70, 71, 72, 73] = false → u.2 j = a0 j)) (gB D cy N q s.heap.size) (gA N q s.heap.size)) args s 0 0 (gA N q s.heap.size)) (F0 M 2 ls []) := by
    intro n
    induction n with
    | zero => intro v2k1 x69_4k1 x69_6k1 x69_9k1 x69_11k1 x69_19k1 x69_20k1 x69_21k1 x69_22k1 x69_65k1 x69_66k1 A70k1 A71k1 A72k1 A73k1 m a H locs w_x69_4 w_x69_6 w_x69_9 w_x69_11 w_x69_19 w_x69_20 w_x69_21 w_x69_22 w_x69_65 w_x69_66 hoff hsh w_A70 w_A71 w_A72 w_A73 hoffa ls hl hg1 hW hS; exact (gl_zero hg1).elim
    | succ n ih1 =>
      intro v2k1 x69_4k1 x69_6k1 x69_9k1 x69_11k1 x69_19k1 x69_20k1 x69_21k1 x69_22k1 x69_65k1 x69_66k1 A70k1 A71k1 A72k1 A73k1 m a H locs w_x69_4 w_x69_6 w_x69_9 w_x69_11 w_x69_19 w_x69_20 w_x69_21 w_x69_22 w_x69_65 w_x69_66 hoff hsh w_A70 w_A71 w_A72 w_A73 hoffa ls hl hg1 hW hS
      obtain ⟨X1, hs1, hXl1, hXr1⟩ := gl_succ hg1
      have hs1 : fX12_clears_S2 F x69_0 x69_1 x69_2 x69_3 x69_63 x69_64 p1 v2k1 x69_4k1 x69_6k1 x69_9k1 x69_11k1 x69_19k1 x69_20k1 x69_21k1 x69_22k1 x69_65k1 x69_66k1 A70k1 A71k1 A72k1 A73k1 = some X1 := hs1
      unfold fX12_clears_S2 at hs1
      refine lv_iload_n hx hb dX12_clears_2 rfl (lv_at hl 2 rfl) ?_
      refine lv_iload_n hx hb dX12_clears_3 rfl (lv_at hl 1 rfl) ?_
      refine lv_icmp_ge (tgt := 88) hx hb dX12_clears_4 (by decide) (fun c28 => ?_) (fun c28 => ?_)
      · rw [if_pos c28] at hs1
        exact hE1_88 (x69_4k1, x69_6k1, x69_9k1, x69_11k1, x69_19k1, x69_20k1, x69_21k1, x69_22k1, x69_65k1, x69_66k1, A70k1, A71k1, A72k1, A73k1) (hXl1 _ (Option.some.inj hs1).symm) m a _ _ w_x69_4 w_x69_6 w_x69_9 w_x69_11 w_x69_19 w_x69_20 w_x69_21 w_x69_22 w_x69_65 w_x69_66 hoff hsh w_A70 w_A71 w_A72 w_A73 hoffa ls (lv_sub hl [] rfl) hW hS
      · rw [if_neg c28] at hs1
        refine lv_iconst (v := (-1)) hx hb dX12_clears_7 (by decide) ?_
        refine lv_istore_n (lv' := [(3, .int (-1)), (0, .ref (q 69)), (1, .int p1), (2, .int v2k1)]) hx hb dX12_clears_8 rfl hl (by decide) rfl (fun ls hl => ?_)
        refine lv_aload_n hx hb dX12_clears_9 rfl (lv_at hl 1 rfl) ?_
        refine gf12_1 hx hb hG hown hW (o := 69) (ltN hN 69 rfl) gk69 (v := .int x69_1) ((hoff 6901 rfl).trans h_x69_1) gx163 dX12_clears_10 ?_
        refine lv_iconst (v := 1) hx hb dX12_clears_13 (by decide) ?_
        refine lv_isub hx hb dX12_clears_14 ?_
        refine lv_istore (lv' := [(4, .int (x69_1 - 1)), (3, .int (-1)), (0, .ref (q 69)), (1, .int p1), (2, .int v2k1)]) hx hb dX12_clears_15 hl (by decide) rfl (fun ls hl => ?_)
        obtain ⟨r29, hg29, hs1⟩ := obind hs1
        have hE2_66 : ∀ (t29_66 : Int32) (hr29 : t29_66 = r29) (m : Nat → Value) (a : Nat → vp_A) (H : Heap) (locs : List Loc) (w_x69_4 : m 6904 = .long x69_4k1) (w_x69_6 : m 6906 = .int x69_6k1) (w_x69_9 : m 6909 = .int x69_9k1) (w_x69_11 : m 6911 = .int x69_11k1) (w_x69_19 : m 6919 = .long x69_19k1) (w_x69_20 : m 6920 = .int x69_20k1) (w_x69_21 : m 6921 = .int x69_21k1) (w_x69_22 : m 6922 = .int x69_22k1) (w_x69_65 : m 6965 = .int x69_65k1) (w_x69_66 : m 6966 = .int x69_66k1) (hoff : ∀ j, nel j [6904, 6906, 6909, 6911, 6919, 6920, 6921, 6922, 6965, 6966] = false → m j = m0 j) (hsh : SH q m) (w_A70 : a 70 = (30, .inl A70k1)) (w_A71 : a 71 = (8, .inl A71k1)) (w_A72 : a 72 = (40, .inl A72k1)) (w_A73 : a 73 = (40, .inl A73k1)) (hoffa : ∀ j, nel j [70, 71, 72, 73] = false → a j = a0 j) (ls : Array Slot) (hl : lv_has ls 6 [(0, .ref (q 69)), (1, .int p1), (2, .int v2k1), (3, .int t29_66)]) (hW : GW D cy (gA N q s.heap.size) N q m a s H) (hS : va_S (gA N q s.heap.size) s.heap H locs), W p l e ({ frames := 5, cells := 0, slots := 0, locals := 123 } : Room) s M args below meth c H locs 0 0 (MQ below (va_Qv (fun (u : (Nat → Value) × (Nat → vp_A)) => u.1 6904 = .long X0.1 ∧ u.1 6906 = .int X0.2.1 ∧ u.1 6909 = .int X0.2.2.1 ∧ u.1 6911 = .int X0.2.2.2.1 ∧ u.1 6919 = .long X0.2.2.2.2.1 ∧ u.1 6920 = .int X0.2.2.2.2.2.1 ∧ u.1 6921 = .int X0.2.2.2.2.2.2.1 ∧ u.1 6922 = .int X0.2.2.2.2.2.2.2.1 ∧ u.1 6965 = .int X0.2.2.2.2.2.2.2.2.1 ∧ u.1 6966 = .int X0.2.2.2.2.2.2.2.2.2.1 ∧ (∀ j, nel j [6904, 6906, 6909, 6911, 6919, 6920, 6921, 6922, 6965, 6966] = false → u.1 j = m0 j) ∧ u.2 70 = (30, .inl X0.2.2.2.2.2.2.2.2.2.2.1) ∧ u.2 71 = (8, .inl X0.2.2.2.2.2.2.2.2.2.2.2.1) ∧ u.2 72 = (40, .inl X0.2.2.2.2.2.2.2.2.2.2.2.2.1) ∧ u.2 73 = (40, .inl X0.2.2.2.2.2.2.2.2.2.2.2.2.2) ∧ (∀ j, nel j [70, 71, 72, 73] = false → u.2 j = a0 j)) (gB D cy N q s.heap.size) (gA N q s.heap.size)) args s 0 0 (gA N q s.heap.size)) (F0 M 66 ls []) := by
          intro t29_66 hr29 m a H locs w_x69_4 w_x69_6 w_x69_9 w_x69_11 w_x69_19 w_x69_20 w_x69_21 w_x69_22 w_x69_65 w_x69_66 hoff hsh w_A70 w_A71 w_A72 w_A73 hoffa ls hl hW hS
          subst hr29
          refine lv_iload_n hx hb dX12_clears_66 rfl (lv_at hl 3 rfl) ?_
          refine lv_if_ge (tgt := 71) hx hb dX12_clears_67 (by decide) (fun c40 => ?_) (fun c40 => ?_)
          · rw [if_pos c40] at hs1
            refine lv_aload_n hx hb dX12_clears_71 rfl (lv_at hl 0 rfl) ?_
            refine lv_iconst (v := 3) hx hb dX12_clears_72 (by decide) ?_
            refine lv_iload_n hx hb dX12_clears_73 rfl (lv_at hl 3 rfl) ?_
            refine lv_iconst (v := 2) hx hb dX12_clears_74 (by decide) ?_
            refine lv_idiv hx hb dX12_clears_75 (by decide) ?_
            refine lv_iload_n hx hb dX12_clears_76 rfl (lv_at hl 3 rfl) ?_
            refine lv_iconst (v := 2) hx hb dX12_clears_77 (by decide) ?_
            refine lv_irem hx hb dX12_clears_78 (by decide) ?_
            obtain ⟨r43, hf43, hs1⟩ := obind hs1
            refine g_Vv (n := 3) hx hb hml hown hG hW hS [.int 3, .int (t29_66 / 2), .int (t29_66 - t29_66 / 2 * 2)] (kX12_acting hN hsh ((hoff 6900 rfl).trans h_x69_0) ((hoff 6901 rfl).trans h_x69_1) ((hoff 6902 rfl).trans h_x69_2) ((hoff 6903 rfl).trans h_x69_3) ((hoff 6963 rfl).trans h_x69_63) ((hoff 6964 rfl).trans h_x69_64) w_x69_4 w_x69_6 w_x69_9 w_x69_11 w_x69_19 w_x69_20 w_x69_21 w_x69_22 w_x69_65 w_x69_66 w_A70 w_A71 w_A72 w_A73 F 3 (t29_66 / 2) (t29_66 - t29_66 / 2 * 2) hf43) (ltN hN 69 rfl) gk69 (by decide) rfl rfl (gd_V gx1363 gx1364 gx1365 gx5 gx1366) rfl rfl (by decide) ⟨Nat.le_of_ble_eq_true rfl, Nat.le_of_ble_eq_true rfl⟩ rfl hl (Nat.le_of_ble_eq_true rfl) ⟨Nat.zero_le _, Nat.zero_le _⟩ dX12_clears_79 (fun m43 a43 H locs hp43 hW hS => ?_)
            obtain ⟨hp43_x69_4, hp43_x69_6, hp43_x69_9, hp43_x69_11, hp43_x69_19, hp43_x69_20, hp43_x69_21, hp43_x69_22, hp43_x69_65, hp43_x69_66, ho43, hp43_A70, hp43_A71, hp43_A72, hp43_A73, hoa43⟩ := hp43
            have w_x69_4 : m43 6904 = .long r43.1 := hp43_x69_4
            have w_x69_6 : m43 6906 = .int r43.2.1 := hp43_x69_6
            have w_x69_9 : m43 6909 = .int r43.2.2.1 := hp43_x69_9
            have w_x69_11 : m43 6911 = .int r43.2.2.2.1 := hp43_x69_11
            have w_x69_19 : m43 6919 = .long r43.2.2.2.2.1 := hp43_x69_19
            have w_x69_20 : m43 6920 = .int r43.2.2.2.2.2.1 := hp43_x69_20
            have w_x69_21 : m43 6921 = .int r43.2.2.2.2.2.2.1 := hp43_x69_21
            have w_x69_22 : m43 6922 = .int r43.2.2.2.2.2.2.2.1 := hp43_x69_22
            have w_x69_65 : m43 6965 = .int r43.2.2.2.2.2.2.2.2.1 := hp43_x69_65
            have w_x69_66 : m43 6966 = .int r43.2.2.2.2.2.2.2.2.2.1 := hp43_x69_66
            have hoff := offm hoff ho43 (by decide +kernel)
            have hsh := SH.off hsh ho43 (by decide +kernel)
            have w_A70 : a43 70 = (30, .inl r43.2.2.2.2.2.2.2.2.2.2.1) := hp43_A70
            have w_A71 : a43 71 = (8, .inl r43.2.2.2.2.2.2.2.2.2.2.2.1) := hp43_A71
            have w_A72 : a43 72 = (40, .inl r43.2.2.2.2.2.2.2.2.2.2.2.2.1) := hp43_A72
            have w_A73 : a43 73 = (40, .inl r43.2.2.2.2.2.2.2.2.2.2.2.2.2) := hp43_A73
            have hoffa := offm hoffa hoa43 (by decide +kernel)
            refine lv_iinc (v := v2k1 + 1) (lv' := [(2, .int (v2k1 + 1)), (0, .ref (q 69)), (1, .int p1), (3, .int t29_66)]) hx hb dX12_clears_82 hl (k := 2) rfl rfl (by decide) rfl (fun ls hl => ?_)
            refine lv_goto (tgt := 2) hx hb dX12_clears_85 (by decide) ?_
            exact ih1 (v2k1 + 1) r43.1 r43.2.1 r43.2.2.1 r43.2.2.2.1 r43.2.2.2.2.1 r43.2.2.2.2.2.1 r43.2.2.2.2.2.2.1 r43.2.2.2.2.2.2.2.1 r43.2.2.2.2.2.2.2.2.1 r43.2.2.2.2.2.2.2.2.2.1 r43.2.2.2.2.2.2.2.2.2.2.1 r43.2.2.2.2.2.2.2.2.2.2.2.1 r43.2.2.2.2.2.2.2.2.2.2.2.2.1 r43.2.2.2.2.2.2.2.2.2.2.2.2.2 m43 a43 _ _ w_x69_4 w_x69_6 w_x69_9 w_x69_11 w_x69_19 w_x69_20 w_x69_21 w_x69_22 w_x69_65 w_x69_66 hoff hsh w_A70 w_A71 w_A72 w_A73 hoffa ls (lv_sub hl [1, 2, 0] rfl) (hXr1 _ (Option.some.inj hs1).symm) hW hS
          · rw [if_neg c40] at hs1
            exact hE1_70 (x69_4k1, x69_6k1, x69_9k1, x69_11k1, x69_19k1, x69_20k1, x69_21k1, x69_22k1, x69_65k1, x69_66k1, A70k1, A71k1, A72k1, A73k1) (hXl1 _ (Option.some.inj hs1).symm) m a _ _ w_x69_4 w_x69_6 w_x69_9 w_x69_11 w_x69_19 w_x69_20 w_x69_21 w_x69_22 w_x69_65 w_x69_66 hoff hsh w_A70 w_A71 w_A72 w_A73 hoffa ls (lv_sub hl [] rfl) hW hS
        have hL2 : ∀ (n : Nat) (v3k29 : Int32) (v4k29 : Int32) (m : Nat → Value) (a : Nat → vp_A) (H : Heap) (locs : List Loc) (w_x69_4 : m 6904 = .long x69_4k1) (w_x69_6 : m 6906 = .int x69_6k1) (w_x69_9 : m 6909 = .int x69_9k1) (w_x69_11 : m 6911 = .int x69_11k1) (w_x69_19 : m 6919 = .long x69_19k1) (w_x69_20 : m 6920 = .int x69_20k1) (w_x69_21 : m 6921 = .int x69_21k1) (w_x69_22 : m 6922 = .int x69_22k1) (w_x69_65 : m 6965 = .int x69_65k1) (w_x69_66 : m 6966 = .int x69_66k1) (hoff : ∀ j, nel j [6904, 6906, 6909, 6911, 6919, 6920, 6921, 6922, 6965, 6966] = false → m j = m0 j) (hsh : SH q m) (w_A70 : a 70 = (30, .inl A70k1)) (w_A71 : a 71 = (8, .inl A71k1)) (w_A72 : a 72 = (40, .inl A72k1)) (w_A73 : a 73 = (40, .inl A73k1)) (hoffa : ∀ j, nel j [70, 71, 72, 73] = false → a j = a0 j) (ls : Array Slot) (hl : lv_has ls 6 [(0, .ref (q 69)), (1, .int p1), (2, .int v2k1), (3, .int v3k29), (4, .int v4k29)]) (hg29 : gloop (fun u29 : (Int32 × Int32) => fX12_clears_S17 F x69_0 x69_1 x69_2 x69_3 x69_63 x69_64 p1 v2k1 x69_4k1 x69_6k1 x69_9k1 x69_11k1 x69_19k1 x69_20k1 x69_21k1 x69_22k1 x69_65k1 x69_66k1 A70k1 A71k1 A72k1 A73k1 u29.1 u29.2) n (v3k29, v4k29) = some r29) (hW : GW D cy (gA N q s.heap.size) N q m a s H) (hS : va_S (gA N q s.heap.size) s.heap H locs), W p l e ({ frames := 5, cells := 0, slots := 0, locals := 123 } : Room) s M args below meth c H locs 0 0 (MQ below (va_Qv (fun (u : (Nat → Value) × (Nat → vp_A)) => u.1 6904 = .long X0.1 ∧ u.1 6906 = .int X0.2.1 ∧ u.1 6909 = .int X0.2.2.1 ∧ u.1 6911 = .int X0.2.2.2.1 ∧ u.1 6919 = .long X0.2.2.2.2.1 ∧ u.1 6920 = .int X0.2.2.2.2.2.1 ∧ u.1 6921 = .int X0.2.2.2.2.2.2.1 ∧ u.1 6922 = .int X0.2.2.2.2.2.2.2.1 ∧ u.1 6965 = .int X0.2.2.2.2.2.2.2.2.1 ∧ u.1 6966 = .int X0.2.2.2.2.2.2.2.2.2.1 ∧ (∀ j, nel j [6904, 6906, 6909, 6911, 6919, 6920, 6921, 6922, 6965, 6966] = false → u.1 j = m0 j) ∧ u.2 70 = (30, .inl X0.2.2.2.2.2.2.2.2.2.2.1) ∧ u.2 71 = (8, .inl X0.2.2.2.2.2.2.2.2.2.2.2.1) ∧ u.2 72 = (40, .inl X0.2.2.2.2.2.2.2.2.2.2.2.2.1) ∧ u.2 73 = (40, .inl X0.2.2.2.2.2.2.2.2.2.2.2.2.2) ∧ (∀ j, nel j [70, 71, 72, 73] = false → u.2 j = a0 j)) (gB D cy N q s.heap.size) (gA N q s.heap.size)) args s 0 0 (gA N q s.heap.size)) (F0 M 17 ls []) := by
          intro n
          induction n with
          | zero => intro v3k29 v4k29 m a H locs w_x69_4 w_x69_6 w_x69_9 w_x69_11 w_x69_19 w_x69_20 w_x69_21 w_x69_22 w_x69_65 w_x69_66 hoff hsh w_A70 w_A71 w_A72 w_A73 hoffa ls hl hg29 hW hS; exact (gl_zero hg29).elim
          | succ n ih2 =>
            intro v3k29 v4k29 m a H locs w_x69_4 w_x69_6 w_x69_9 w_x69_11 w_x69_19 w_x69_20 w_x69_21 w_x69_22 w_x69_65 w_x69_66 hoff hsh w_A70 w_A71 w_A72 w_A73 hoffa ls hl hg29 hW hS
            obtain ⟨X2, hs2, hXl2, hXr2⟩ := gl_succ hg29
            have hs2 : fX12_clears_S17 F x69_0 x69_1 x69_2 x69_3 x69_63 x69_64 p1 v2k1 x69_4k1 x69_6k1 x69_9k1 x69_11k1 x69_19k1 x69_20k1 x69_21k1 x69_22k1 x69_65k1 x69_66k1 A70k1 A71k1 A72k1 A73k1 v3k29 v4k29 = some X2 := hs2
            unfold fX12_clears_S17 at hs2
            refine lv_iload hx hb dX12_clears_17 (lv_at hl 4 rfl) ?_
            refine lv_if_lt (tgt := 66) hx hb dX12_clears_19 (by decide) (fun c44 => ?_) (fun c44 => ?_)
            · rw [if_pos c44] at hs2
              exact hE2_66 v3k29 (hXl2 _ (Option.some.inj hs2).symm) m a _ _ w_x69_4 w_x69_6 w_x69_9 w_x69_11 w_x69_19 w_x69_20 w_x69_21 w_x69_22 w_x69_65 w_x69_66 hoff hsh w_A70 w_A71 w_A72 w_A73 hoffa ls (lv_sub hl [0, 1, 2, 3] rfl) hW hS
            · rw [if_neg c44] at hs2
              refine lv_iconst (v := 1) hx hb dX12_clears_22 (by decide) ?_
              refine lv_istore (lv' := [(5, .int 1), (0, .ref (q 69)), (1, .int p1), (2, .int v2k1), (3, .int v3k29), (4, .int v4k29)]) hx hb dX12_clears_23 hl (by decide) rfl (fun ls hl => ?_)
              obtain ⟨r45, hg45, hs2⟩ := obind hs2
              have hE3_60 : ∀ (t45_60 : Int32) (hr45 : t45_60 = r45) (m : Nat → Value) (a : Nat → vp_A) (H : Heap) (locs : List Loc) (w_x69_4 : m 6904 = .long x69_4k1) (w_x69_6 : m 6906 = .int x69_6k1) (w_x69_9 : m 6909 = .int x69_9k1) (w_x69_11 : m 6911 = .int x69_11k1) (w_x69_19 : m 6919 = .long x69_19k1) (w_x69_20 : m 6920 = .int x69_20k1) (w_x69_21 : m 6921 = .int x69_21k1) (w_x69_22 : m 6922 = .int x69_22k1) (w_x69_65 : m 6965 = .int x69_65k1) (w_x69_66 : m 6966 = .int x69_66k1) (hoff : ∀ j, nel j [6904, 6906, 6909, 6911, 6919, 6920, 6921, 6922, 6965, 6966] = false → m j = m0 j) (hsh : SH q m) (w_A70 : a 70 = (30, .inl A70k1)) (w_A71 : a 71 = (8, .inl A71k1)) (w_A72 : a 72 = (40, .inl A72k1)) (w_A73 : a 73 = (40, .inl A73k1)) (hoffa : ∀ j, nel j [70, 71, 72, 73] = false → a j = a0 j) (ls : Array Slot) (hl : lv_has ls 6 [(0, .ref (q 69)), (1, .int p1), (2, .int v2k1), (3, .int t45_60), (4, .int v4k29)]) (hW : GW D cy (gA N q s.heap.size) N q m a s H) (hS : va_S (gA N q s.heap.size) s.heap H locs), W p l e ({ frames := 5, cells := 0, slots := 0, locals := 123 } : Room) s M args below meth c H locs 0 0 (MQ below (va_Qv (fun (u : (Nat → Value) × (Nat → vp_A)) => u.1 6904 = .long X0.1 ∧ u.1 6906 = .int X0.2.1 ∧ u.1 6909 = .int X0.2.2.1 ∧ u.1 6911 = .int X0.2.2.2.1 ∧ u.1 6919 = .long X0.2.2.2.2.1 ∧ u.1 6920 = .int X0.2.2.2.2.2.1 ∧ u.1 6921 = .int X0.2.2.2.2.2.2.1 ∧ u.1 6922 = .int X0.2.2.2.2.2.2.2.1 ∧ u.1 6965 = .int X0.2.2.2.2.2.2.2.2.1 ∧ u.1 6966 = .int X0.2.2.2.2.2.2.2.2.2.1 ∧ (∀ j, nel j [6904, 6906, 6909, 6911, 6919, 6920, 6921, 6922, 6965, 6966] = false → u.1 j = m0 j) ∧ u.2 70 = (30, .inl X0.2.2.2.2.2.2.2.2.2.2.1) ∧ u.2 71 = (8, .inl X0.2.2.2.2.2.2.2.2.2.2.2.1) ∧ u.2 72 = (40, .inl X0.2.2.2.2.2.2.2.2.2.2.2.2.1) ∧ u.2 73 = (40, .inl X0.2.2.2.2.2.2.2.2.2.2.2.2.2) ∧ (∀ j, nel j [70, 71, 72, 73] = false → u.2 j = a0 j)) (gB D cy N q s.heap.size) (gA N q s.heap.size)) args s 0 0 (gA N q s.heap.size)) (F0 M 60 ls []) := by
                intro t45_60 hr45 m a H locs w_x69_4 w_x69_6 w_x69_9 w_x69_11 w_x69_19 w_x69_20 w_x69_21 w_x69_22 w_x69_65 w_x69_66 hoff hsh w_A70 w_A71 w_A72 w_A73 hoffa ls hl hW hS
                subst hr45
                refine lv_iinc (v := v4k29 + (-1)) (lv' := [(4, .int (v4k29 + (-1))), (0, .ref (q 69)), (1, .int p1), (2, .int v2k1), (3, .int t45_60)]) hx hb dX12_clears_60 hl (k := 4) rfl (congrArg (fun z => v4k29 + z) (by decide : Int32.ofInt (-1) = (-1))) (by decide) rfl (fun ls hl => ?_)
                refine lv_goto (tgt := 17) hx hb dX12_clears_63 (by decide) ?_
                exact ih2 t45_60 (v4k29 + (-1)) m a _ _ w_x69_4 w_x69_6 w_x69_9 w_x69_11 w_x69_19 w_x69_20 w_x69_21 w_x69_22 w_x69_65 w_x69_66 hoff hsh w_A70 w_A71 w_A72 w_A73 hoffa ls (lv_sub hl [1, 2, 3, 4, 0] rfl) (hXr2 _ (Option.some.inj hs2).symm) hW hS
              have hL3 : ∀ (n : Nat) (v3k45 : Int32) (v5k45 : Int32) (m : Nat → Value) (a : Nat → vp_A) (H : Heap) (locs : List Loc) (w_x69_4 : m 6904 = .long x69_4k1) (w_x69_6 : m 6906 = .int x69_6k1) (w_x69_9 : m 6909 = .int x69_9k1) (w_x69_11 : m 6911 = .int x69_11k1) (w_x69_19 : m 6919 = .long x69_19k1) (w_x69_20 : m 6920 = .int x69_20k1) (w_x69_21 : m 6921 = .int x69_21k1) (w_x69_22 : m 6922 = .int x69_22k1) (w_x69_65 : m 6965 = .int x69_65k1) (w_x69_66 : m 6966 = .int x69_66k1) (hoff : ∀ j, nel j [6904, 6906, 6909, 6911, 6919, 6920, 6921, 6922, 6965, 6966] = false → m j = m0 j) (hsh : SH q m) (w_A70 : a 70 = (30, .inl A70k1)) (w_A71 : a 71 = (8, .inl A71k1)) (w_A72 : a 72 = (40, .inl A72k1)) (w_A73 : a 73 = (40, .inl A73k1)) (hoffa : ∀ j, nel j [70, 71, 72, 73] = false → a j = a0 j) (ls : Array Slot) (hl : lv_has ls 6 [(0, .ref (q 69)), (1, .int p1), (2, .int v2k1), (3, .int v3k45), (4, .int v4k29), (5, .int v5k45)]) (hg45 : gloop (fun u45 : (Int32 × Int32) => fX12_clears_S25 F x69_0 x69_1 x69_2 x69_3 x69_63 x69_64 p1 v2k1 v4k29 x69_4k1 x69_6k1 x69_9k1 x69_11k1 x69_19k1 x69_20k1 x69_21k1 x69_22k1 x69_65k1 x69_66k1 A70k1 A71k1 A72k1 A73k1 u45.1 u45.2) n (v3k45, v5k45) = some r45) (hW : GW D cy (gA N q s.heap.size) N q m a s H) (hS : va_S (gA N q s.heap.size) s.heap H locs), W p l e ({ frames := 5, cells := 0, slots := 0, locals := 123 } : Room) s M args below meth c H locs 0 0 (MQ below (va_Qv (fun (u : (Nat → Value) × (Nat → vp_A)) => u.1 6904 = .long X0.1 ∧ u.1 6906 = .int X0.2.1 ∧ u.1 6909 = .int X0.2.2.1 ∧ u.1 6911 = .int X0.2.2.2.1 ∧ u.1 6919 = .long X0.2.2.2.2.1 ∧ u.1 6920 = .int X0.2.2.2.2.2.1 ∧ u.1 6921 = .int X0.2.2.2.2.2.2.1 ∧ u.1 6922 = .int X0.2.2.2.2.2.2.2.1 ∧ u.1 6965 = .int X0.2.2.2.2.2.2.2.2.1 ∧ u.1 6966 = .int X0.2.2.2.2.2.2.2.2.2.1 ∧ (∀ j, nel j [6904, 6906, 6909, 6911, 6919, 6920, 6921, 6922, 6965, 6966] = false → u.1 j = m0 j) ∧ u.2 70 = (30, .inl X0.2.2.2.2.2.2.2.2.2.2.1) ∧ u.2 71 = (8, .inl X0.2.2.2.2.2.2.2.2.2.2.2.1) ∧ u.2 72 = (40, .inl X0.2.2.2.2.2.2.2.2.2.2.2.2.1) ∧ u.2 73 = (40, .inl X0.2.2.2.2.2.2.2.2.2.2.2.2.2) ∧ (∀ j, nel j [70, 71, 72, 73] = false → u.2 j = a0 j)) (gB D cy N q s.heap.size) (gA N q s.heap.size)) args s 0 0 (gA N q s.heap.size)) (F0 M 25 ls []) := by
                intro n
                induction n with
                | zero => intro v3k45 v5k45 m a H locs w_x69_4 w_x69_6 w_x69_9 w_x69_11 w_x69_19 w_x69_20 w_x69_21 w_x69_22 w_x69_65 w_x69_66 hoff hsh w_A70 w_A71 w_A72 w_A73 hoffa ls hl hg45 hW hS; exact (gl_zero hg45).elim
                | succ n ih3 =>
                  intro v3k45 v5k45 m a H locs w_x69_4 w_x69_6 w_x69_9 w_x69_11 w_x69_19 w_x69_20 w_x69_21 w_x69_22 w_x69_65 w_x69_66 hoff hsh w_A70 w_A71 w_A72 w_A73 hoffa ls hl hg45 hW hS
                  obtain ⟨X3, hs3, hXl3, hXr3⟩ := gl_succ hg45
                  have hs3 : fX12_clears_S25 F x69_0 x69_1 x69_2 x69_3 x69_63 x69_64 p1 v2k1 v4k29 x69_4k1 x69_6k1 x69_9k1 x69_11k1 x69_19k1 x69_20k1 x69_21k1 x69_22k1 x69_65k1 x69_66k1 A70k1 A71k1 A72k1 A73k1 v3k45 v5k45 = some X3 := hs3
                  unfold fX12_clears_S25 at hs3
                  have hJ54_3 : ∀ (v3j53 : Int32) (v5j53 : Int32) (m : Nat → Value) (a : Nat → vp_A) (H : Heap) (locs : List Loc) (w_x69_4 : m 6904 = .long x69_4k1) (w_x69_6 : m 6906 = .int x69_6k1) (w_x69_9 : m 6909 = .int x69_9k1) (w_x69_11 : m 6911 = .int x69_11k1) (w_x69_19 : m 6919 = .long x69_19k1) (w_x69_20 : m 6920 = .int x69_20k1) (w_x69_21 : m 6921 = .int x69_21k1) (w_x69_22 : m 6922 = .int x69_22k1) (w_x69_65 : m 6965 = .int x69_65k1) (w_x69_66 : m 6966 = .int x69_66k1) (hoff : ∀ j, nel j [6904, 6906, 6909, 6911, 6919, 6920, 6921, 6922, 6965, 6966] = false → m j = m0 j) (hsh : SH q m) (w_A70 : a 70 = (30, .inl A70k1)) (w_A71 : a 71 = (8, .inl A71k1)) (w_A72 : a 72 = (40, .inl A72k1)) (w_A73 : a 73 = (40, .inl A73k1)) (hoffa : ∀ j, nel j [70, 71, 72, 73] = false → a j = a0 j) (ls : Array Slot) (hl : lv_has ls 6 [(0, .ref (q 69)), (1, .int p1), (2, .int v2k1), (3, .int v3j53), (4, .int v4k29), (5, .int v5j53)]) (hs3 : fX12_clears_J54 F x69_0 x69_1 x69_2 x69_3 x69_63 x69_64 p1 v2k1 v3j53 v4k29 v5j53 x69_4k1 x69_6k1 x69_9k1 x69_11k1 x69_19k1 x69_20k1 x69_21k1 x69_22k1 x69_65k1 x69_66k1 A70k1 A71k1 A72k1 A73k1 = some X3) (hW : GW D cy (gA N q s.heap.size) N q m a s H) (hS : va_S (gA N q s.heap.size) s.heap H locs), W p l e ({ frames := 5, cells := 0, slots := 0, locals := 123 } : Room) s M args below meth c H locs 0 0 (MQ below (va_Qv (fun (u : (Nat → Value) × (Nat → vp_A)) => u.1 6904 = .long X0.1 ∧ u.1 6906 = .int X0.2.1 ∧ u.1 6909 = .int X0.2.2.1 ∧ u.1 6911 = .int X0.2.2.2.1 ∧ u.1 6919 = .long X0.2.2.2.2.1 ∧ u.1 6920 = .int X0.2.2.2.2.2.1 ∧ u.1 6921 = .int X0.2.2.2.2.2.2.1 ∧ u.1 6922 = .int X0.2.2.2.2.2.2.2.1 ∧ u.1 6965 = .int X0.2.2.2.2.2.2.2.2.1 ∧ u.1 6966 = .int X0.2.2.2.2.2.2.2.2.2.1 ∧ (∀ j, nel j [6904, 6906, 6909, 6911, 6919, 6920, 6921, 6922, 6965, 6966] = false → u.1 j = m0 j) ∧ u.2 70 = (30, .inl X0.2.2.2.2.2.2.2.2.2.2.1) ∧ u.2 71 = (8, .inl X0.2.2.2.2.2.2.2.2.2.2.2.1) ∧ u.2 72 = (40, .inl X0.2.2.2.2.2.2.2.2.2.2.2.2.1) ∧ u.2 73 = (40, .inl X0.2.2.2.2.2.2.2.2.2.2.2.2.2) ∧ (∀ j, nel j [70, 71, 72, 73] = false → u.2 j = a0 j)) (gB D cy N q s.heap.size) (gA N q s.heap.size)) args s 0 0 (gA N q s.heap.size)) (F0 M 54 ls []) := by
                    intro v3j53 v5j53 m a H locs w_x69_4 w_x69_6 w_x69_9 w_x69_11 w_x69_19 w_x69_20 w_x69_21 w_x69_22 w_x69_65 w_x69_66 hoff hsh w_A70 w_A71 w_A72 w_A73 hoffa ls hl hs3 hW hS
                    unfold fX12_clears_J54 at hs3
                    refine lv_iinc (v := v5j53 + (-1)) (lv' := [(5, .int (v5j53 + (-1))), (0, .ref (q 69)), (1, .int p1), (2, .int v2k1), (3, .int v3j53), (4, .int v4k29)]) hx hb dX12_clears_54 hl (k := 5) rfl (congrArg (fun z => v5j53 + z) (by decide : Int32.ofInt (-1) = (-1))) (by decide) rfl (fun ls hl => ?_)
                    refine lv_goto (tgt := 25) hx hb dX12_clears_57 (by decide) ?_
                    exact ih3 v3j53 (v5j53 + (-1)) m a _ _ w_x69_4 w_x69_6 w_x69_9 w_x69_11 w_x69_19 w_x69_20 w_x69_21 w_x69_22 w_x69_65 w_x69_66 hoff hsh w_A70 w_A71 w_A72 w_A73 hoffa ls (lv_sub hl [1, 2, 3, 4, 5, 0] rfl) (hXr3 _ (Option.some.inj hs3).symm) hW hS
                  refine lv_iload hx hb dX12_clears_25 (lv_at hl 5 rfl) ?_
                  refine lv_if_lt (tgt := 60) hx hb dX12_clears_27 (by decide) (fun c50 => ?_) (fun c50 => ?_)
                  · rw [if_pos c50] at hs3
                    exact hE3_60 v3k45 (hXl3 _ (Option.some.inj hs3).symm) m a _ _ w_x69_4 w_x69_6 w_x69_9 w_x69_11 w_x69_19 w_x69_20 w_x69_21 w_x69_22 w_x69_65 w_x69_66 hoff hsh w_A70 w_A71 w_A72 w_A73 hoffa ls (lv_sub hl [0, 1, 2, 3, 4] rfl) hW hS
                  · rw [if_neg c50] at hs3
                    refine lv_aload_n hx hb dX12_clears_30 rfl (lv_at hl 0 rfl) ?_
                    refine lv_aload_n hx hb dX12_clears_31 rfl (lv_at hl 0 rfl) ?_
                    refine gf12_4 hx hb hG hown hW (o := 69) (ltN hN 69 rfl) gk69 (v := .long x69_4k1) w_x69_4 gx202 dX12_clears_32 ?_
                    refine lv_iconst (v := 3) hx hb dX12_clears_35 (by decide) ?_
                    refine lv_iload hx hb dX12_clears_36 (lv_at hl 4 rfl) ?_
                    refine lv_iload hx hb dX12_clears_38 (lv_at hl 5 rfl) ?_
                    refine g_ViR (n := 4) hx hb hml hown hG hW hS [.long x69_4k1, .int 3, .int v4k29, .int v5k45] (kX12_isThere hN ((hoff 6901 rfl).trans h_x69_1) x69_4k1 3 v4k29 v5k45) (ltN hN 69 rfl) gk69 (by decide) rfl rfl (gd_V gx497 gx498 gx499 gx5 gx500) rfl rfl (by decide) ⟨Nat.le_of_ble_eq_true rfl, Nat.le_of_ble_eq_true rfl⟩ rfl hl (Nat.le_of_ble_eq_true rfl) ⟨Nat.zero_le _, Nat.zero_le _⟩ dX12_clears_40 (fun H locs hW hS => ?_)
                    refine lv_if_eq (tgt := 54) hx hb dX12_clears_43 (by decide) (fun c52 => ?_) (fun c52 => ?_)
                    · rw [if_pos c52] at hs3
                      exact hJ54_3 v3k45 v5k45 m a _ _ w_x69_4 w_x69_6 w_x69_9 w_x69_11 w_x69_19 w_x69_20 w_x69_21 w_x69_22 w_x69_65 w_x69_66 hoff hsh w_A70 w_A71 w_A72 w_A73 hoffa ls (lv_sub hl [0, 1, 2, 3, 4, 5] rfl) hs3 hW hS
                    · rw [if_neg c52] at hs3
                      refine lv_iconst (v := 2) hx hb dX12_clears_46 (by decide) ?_
                      refine lv_iload hx hb dX12_clears_47 (lv_at hl 4 rfl) ?_
                      refine lv_imul hx hb dX12_clears_49 ?_
                      refine lv_iload hx hb dX12_clears_50 (lv_at hl 5 rfl) ?_
                      refine lv_iadd hx hb dX12_clears_52 ?_
                      refine lv_istore_n (lv' := [(3, .int ((2 * v4k29) + v5k45)), (0, .ref (q 69)), (1, .int p1), (2, .int v2k1), (4, .int v4k29), (5, .int v5k45)]) hx hb dX12_clears_53 rfl hl (by decide) rfl (fun ls hl => ?_)
                      exact hJ54_3 ((2 * v4k29) + v5k45) v5k45 m a _ _ w_x69_4 w_x69_6 w_x69_9 w_x69_11 w_x69_19 w_x69_20 w_x69_21 w_x69_22 w_x69_65 w_x69_66 hoff hsh w_A70 w_A71 w_A72 w_A73 hoffa ls (lv_sub hl [1, 2, 3, 0, 4, 5] rfl) hs3 hW hS
              exact hL3 F v3k29 1 m a _ _ w_x69_4 w_x69_6 w_x69_9 w_x69_11 w_x69_19 w_x69_20 w_x69_21 w_x69_22 w_x69_65 w_x69_66 hoff hsh w_A70 w_A71 w_A72 w_A73 hoffa ls (lv_sub hl [1, 2, 3, 4, 5, 0] rfl) hg45 hW hS
        exact hL2 F (-1) (x69_1 - 1) m a _ _ w_x69_4 w_x69_6 w_x69_9 w_x69_11 w_x69_19 w_x69_20 w_x69_21 w_x69_22 w_x69_65 w_x69_66 hoff hsh w_A70 w_A71 w_A72 w_A73 hoffa ls (lv_sub hl [2, 3, 4, 1, 0] rfl) hg29 hW hS
  exact hL1 F 0 x69_4 x69_6 x69_9 x69_11 x69_19 x69_20 x69_21 x69_22 x69_65 x69_66 A70 A71 A72 A73 m0 a0 _ _ h_x69_4 h_x69_6 h_x69_9 h_x69_11 h_x69_19 h_x69_20 h_x69_21 h_x69_22 h_x69_65 h_x69_66 hoff hsh h_A70 h_A71 h_A72 h_A73 hoffa ls (lv_sub hl [1, 2, 0] rfl) hg1 hW hS
-- HealLinkModel.image ()Z
def fX12_image_S28 (F : Nat) (x69_4 : Int64) (x69_6 : Int32) (A70 : Nat → Int32) (x69_12 : Int32) (x69_13 : Int64) (x69_15 : Int32) (x69_18 : Int32) (v1 : Int32) (A74 : Nat → Int32) : Option (((Nat → Int32)) ⊕ (Int32 × (Nat → Int32))) := (if 30 ≤ v1 then some (Sum.inl A74) else (if inb v1 30 = true then (if inb v1 30 = true then some (Sum.inr (v1 + 1, upd A74 v1.toNatClampNeg (A70 v1.toNatClampNeg))) else none) else none))
def fX12_image (F : Nat) (x69_4 : Int64) (x69_6 : Int32) (A70 : Nat → Int32) (x69_12 : Int32) (x69_13 : Int64) (x69_15 : Int32) (x69_18 : Int32) (A74 : Nat → Int32) : Option (Int32 × Int32 × Int64 × Int32 × Int32 × (Nat → Int32)) := (gloop (fun u5 : (Int32 × (Nat → Int32)) => fX12_image_S28 F x69_4 x69_6 A70 1 x69_4 x69_6 0 u5.1 u5.2) F (0, A74)).bind (fun t5_52 => some (1, 1, x69_4, x69_6, 0, t5_52))
theorem dX12_image_0 : decode cX12_image 0 = .ok (.aload_n 0, 1) := by decide +kernel
theorem dX12_image_1 : decode cX12_image 1 = .ok (.iconst 0, 1) := by decide +kernel
theorem dX12_image_2 : decode cX12_image 2 = .ok (.putfield 137, 3) := by decide +kernel
theorem dX12_image_5 : decode cX12_image 5 = .ok (.aload_n 0, 1) := by decide +kernel
theorem dX12_image_6 : decode cX12_image 6 = .ok (.iconst 1, 1) := by decide +kernel
theorem dX12_image_7 : decode cX12_image 7 = .ok (.putfield 155, 3) := by decide +kernel
theorem dX12_image_10 : decode cX12_image 10 = .ok (.aload_n 0, 1) := by decide +kernel
theorem dX12_image_11 : decode cX12_image 11 = .ok (.aload_n 0, 1) := by decide +kernel
theorem dX12_image_12 : decode cX12_image 12 = .ok (.getfield 133, 3) := by decide +kernel
theorem dX12_image_15 : decode cX12_image 15 = .ok (.putfield 456, 3) := by decide +kernel
theorem dX12_image_18 : decode cX12_image 18 = .ok (.aload_n 0, 1) := by decide +kernel
theorem dX12_image_19 : decode cX12_image 19 = .ok (.aload_n 0, 1) := by decide +kernel
theorem dX12_image_20 : decode cX12_image 20 = .ok (.getfield 146, 3) := by decide +kernel
theorem dX12_image_23 : decode cX12_image 23 = .ok (.putfield 459, 3) := by decide +kernel
theorem dX12_image_26 : decode cX12_image 26 = .ok (.iconst 0, 1) := by decide +kernel
theorem dX12_image_27 : decode cX12_image 27 = .ok (.istore_n 1, 1) := by decide +kernel
theorem dX12_image_28 : decode cX12_image 28 = .ok (.iload_n 1, 1) := by decide +kernel
theorem dX12_image_29 : decode cX12_image 29 = .ok (.bipush 30, 2) := by decide +kernel
theorem dX12_image_31 : decode cX12_image 31 = .ok (.if_icmp .ge 21, 3) := by decide +kernel
theorem dX12_image_34 : decode cX12_image 34 = .ok (.aload_n 0, 1) := by decide +kernel
theorem dX12_image_35 : decode cX12_image 35 = .ok (.getfield 35, 3) := by decide +kernel
theorem dX12_image_38 : decode cX12_image 38 = .ok (.iload_n 1, 1) := by decide +kernel
theorem dX12_image_39 : decode cX12_image 39 = .ok (.aload_n 0, 1) := by decide +kernel
theorem dX12_image_40 : decode cX12_image 40 = .ok (.getfield 22, 3) := by decide +kernel
theorem dX12_image_43 : decode cX12_image 43 = .ok (.iload_n 1, 1) := by decide +kernel
theorem dX12_image_44 : decode cX12_image 44 = .ok (.iaload, 1) := by decide +kernel
theorem dX12_image_45 : decode cX12_image 45 = .ok (.iastore, 1) := by decide +kernel
theorem dX12_image_46 : decode cX12_image 46 = .ok (.iinc 1 1, 3) := by decide +kernel
theorem dX12_image_49 : decode cX12_image 49 = .ok (.goto (-21), 3) := by decide +kernel
theorem dX12_image_52 : decode cX12_image 52 = .ok (.iconst 1, 1) := by decide +kernel
theorem dX12_image_53 : decode cX12_image 53 = .ok (.ireturn, 1) := by decide +kernel
set_option maxHeartbeats 4000000 in
set_option maxRecDepth 100000 in
theorem kX12_image {l : Launch} {D : va_G} {cy : Nat → ClassId} {N : Nat} {q : Nat → Nat} {m0 : Nat → Value} {a0 : Nat → vp_A} {sz : Nat} (hN : 105 ≤ N) (hsh : SH q m0) {x69_4 : Int64} (h_x69_4 : m0 6904 = .long x69_4) {x69_6 : Int32} (h_x69_6 : m0 6906 = .int x69_6) {A70 : Nat → Int32} (h_A70 : a0 70 = (30, .inl A70)) {x69_12 : Int32} (h_x69_12 : m0 6912 = .int x69_12) {x69_13 : Int64} (h_x69_13 : m0 6913 = .long x69_13) {x69_15 : Int32} (h_x69_15 : m0 6915 = .int x69_15) {x69_18 : Int32} (h_x69_18 : m0 6918 = .int x69_18) {A74 : Nat → Int32} (h_A74 : a0 74 = (30, .inl A74)) (F : Nat) {X0 : Int32 × Int32 × Int64 × Int32 × Int32 × (Nat → Int32)} (hs0 : fX12_image F x69_4 x69_6 A70 x69_12 x69_13 x69_15 x69_18 A74 = some X0) : gMi l yX12_image cX12_image 2 (some .boolean) ({ frames := 0, cells := 0, slots := 0, locals := 0 } : Room) D cy N q m0 a0 sz [.ref (q 69)] (fun r m' a' => r = X0.1 ∧ m' 6912 = .int X0.2.1 ∧ m' 6913 = .long X0.2.2.1 ∧ m' 6915 = .int X0.2.2.2.1 ∧ m' 6918 = .int X0.2.2.2.2.1 ∧ (∀ j, nel j [6912, 6913, 6915, 6918] = false → m' j = m0 j) ∧ a' 74 = (30, .inl X0.2.2.2.2.2) ∧ (∀ j, nel j [74] = false → a' j = a0 j)) := by
  refine g_ofi (by decide) (Nat.le_of_ble_eq_true rfl) ?_
  intro p e s M args below meth c hx hb hr hG hown hin hlocks hml hW hS ls hl
  unfold fX12_image at hs0
  have hoff : ∀ j, nel j [6912, 6913, 6915, 6918] = false → m0 j = m0 j := off0
  have hoffa : ∀ j, nel j [74] = false → a0 j = a0 j := off0
  refine lv_aload_n hx hb dX12_image_0 rfl (lv_at hl 0 rfl) ?_
  refine lv_iconst (v := 0) hx hb dX12_image_1 (by decide) ?_
  refine gp12_18 hx hb hG hown hW hS (o := 69) (ltN hN 69 rfl) gk69 (v := 0) gx246 dX12_image_2 (fun m1 H locs hm1 ho1 hW hS => ?_)
  have ho1 := off1 ho1
  have w_x69_12 : m1 6912 = .int x69_12 := (ho1 6912 rfl).trans h_x69_12
  have w_x69_13 : m1 6913 = .long x69_13 := (ho1 6913 rfl).trans h_x69_13
  have w_x69_15 : m1 6915 = .int x69_15 := (ho1 6915 rfl).trans h_x69_15
  have w_x69_18 : m1 6918 = .int 0 := hm1
  have hoff := offm hoff ho1 (by decide +kernel)
  have hsh := SH.off hsh ho1 (by decide +kernel)
  refine lv_aload_n hx hb dX12_image_5 rfl (lv_at hl 0 rfl) ?_
  refine lv_iconst (v := 1) hx hb dX12_image_6 (by decide) ?_
  refine gp12_12 hx hb hG hown hW hS (o := 69) (ltN hN 69 rfl) gk69 (v := 1) (by decide) gx257 dX12_image_7 (fun m2 H locs hm2 ho2 hW hS => ?_)
  have ho2 := off1 ho2
  have w_x69_12 : m2 6912 = .int 1 := hm2
  have w_x69_13 : m2 6913 = .long x69_13 := (ho2 6913 rfl).trans w_x69_13
  have w_x69_15 : m2 6915 = .int x69_15 := (ho2 6915 rfl).trans w_x69_15
  have w_x69_18 : m2 6918 = .int 0 := (ho2 6918 rfl).trans w_x69_18
  have hoff := offm hoff ho2 (by decide +kernel)
  have hsh := SH.off hsh ho2 (by decide +kernel)
  refine lv_aload_n hx hb dX12_image_10 rfl (lv_at hl 0 rfl) ?_
  refine lv_aload_n hx hb dX12_image_11 rfl (lv_at hl 0 rfl) ?_
  refine gf12_4 hx hb hG hown hW (o := 69) (ltN hN 69 rfl) gk69 (v := .long x69_4) ((hoff 6904 rfl).trans h_x69_4) gx202 dX12_image_12 ?_
  refine gp12_13 hx hb hG hown hW hS (o := 69) (ltN hN 69 rfl) gk69 (v := x69_4) gx1385 dX12_image_15 (fun m3 H locs hm3 ho3 hW hS => ?_)
  have ho3 := off1 ho3
  have w_x69_12 : m3 6912 = .int 1 := (ho3 6912 rfl).trans w_x69_12
  have w_x69_13 : m3 6913 = .long x69_4 := hm3
  have w_x69_15 : m3 6915 = .int x69_15 := (ho3 6915 rfl).trans w_x69_15
  have w_x69_18 : m3 6918 = .int 0 := (ho3 6918 rfl).trans w_x69_18
  have hoff := offm hoff ho3 (by decide +kernel)
  have hsh := SH.off hsh ho3 (by decide +kernel)
  refine lv_aload_n hx hb dX12_image_18 rfl (lv_at hl 0 rfl) ?_
  refine lv_aload_n hx hb dX12_image_19 rfl (lv_at hl 0 rfl) ?_
  refine gf12_6 hx hb hG hown hW (o := 69) (ltN hN 69 rfl) gk69 (v := .int x69_6) ((hoff 6906 rfl).trans h_x69_6) gx254 dX12_image_20 ?_
  refine gp12_15 hx hb hG hown hW hS (o := 69) (ltN hN 69 rfl) gk69 (v := x69_6) gx1386 dX12_image_23 (fun m4 H locs hm4 ho4 hW hS => ?_)
  have ho4 := off1 ho4
  have w_x69_12 : m4 6912 = .int 1 := (ho4 6912 rfl).trans w_x69_12
  have w_x69_13 : m4 6913 = .long x69_4 := (ho4 6913 rfl).trans w_x69_13
  have w_x69_15 : m4 6915 = .int x69_6 := hm4
  have w_x69_18 : m4 6918 = .int 0 := (ho4 6918 rfl).trans w_x69_18
  have hoff := offm hoff ho4 (by decide +kernel)
  have hsh := SH.off hsh ho4 (by decide +kernel)
  refine lv_iconst (v := 0) hx hb dX12_image_26 (by decide) ?_
  refine lv_istore_n (lv' := [(1, .int 0), (0, .ref (q 69))]) hx hb dX12_image_27 rfl hl (by decide) rfl (fun ls hl => ?_)
  obtain ⟨r5, hg5, hs0⟩ := obind hs0
  have hE1_52 : ∀ (t5_52 : (Nat → Int32)) (hr5 : t5_52 = r5) (m : Nat → Value) (a : Nat → vp_A) (H : Heap) (locs : List Loc) (w_x69_12 : m 6912 = .int 1) (w_x69_13 : m 6913 = .long x69_4) (w_x69_15 : m 6915 = .int x69_6) (w_x69_18 : m 6918 = .int 0) (hoff : ∀ j, nel j [6912, 6913, 6915, 6918] = false → m j = m0 j) (hsh : SH q m) (w_A74 : a 74 = (30, .inl t5_52)) (hoffa : ∀ j, nel j [74] = false → a j = a0 j) (ls : Array Slot) (hl : lv_has ls 2 []) (hW : GW D cy (gA N q s.heap.size) N q m a s H) (hS : va_S (gA N q s.heap.size) s.heap H locs), W p l e ({ frames := 0, cells := 0, slots := 0, locals := 0 } : Room) s M args below meth c H locs 0 0 (MQ below (va_Qi (fun (r : Int32) (u : (Nat → Value) × (Nat → vp_A)) => r = X0.1 ∧ u.1 6912 = .int X0.2.1 ∧ u.1 6913 = .long X0.2.2.1 ∧ u.1 6915 = .int X0.2.2.2.1 ∧ u.1 6918 = .int X0.2.2.2.2.1 ∧ (∀ j, nel j [6912, 6913, 6915, 6918] = false → u.1 j = m0 j) ∧ u.2 74 = (30, .inl X0.2.2.2.2.2) ∧ (∀ j, nel j [74] = false → u.2 j = a0 j)) (gB D cy N q s.heap.size) (gA N q s.heap.size)) args s 0 0 (gA N q s.heap.size)) (F0 M 52 ls []) := by
    intro t5_52 hr5 m a H locs w_x69_12 w_x69_13 w_x69_15 w_x69_18 hoff hsh w_A74 hoffa ls hl hW hS
    subst hr5
    refine lv_iconst (v := 1) hx hb dX12_image_52 (by decide) ?_
    have hs0 := Option.some.inj hs0
    subst hs0
    exact W.zret hx hb hr rfl (fun t ht hw => ⟨⟨_, (m, a), rfl, ⟨rfl, w_x69_12, w_x69_13, w_x69_15, w_x69_18, hoff, w_A74, hoffa⟩, g_end hW ht hw⟩, hS.F ht⟩) hS.2.2 dX12_image_53 hlocks
  have hL1 : ∀ (n : Nat) (v1k5 : Int32) (A74k5 : Nat → Int32) (m : Nat → Value) (a : Nat → vp_A) (H : Heap) (locs : List Loc) (w_x69_12 : m 6912 = .int 1) (w_x69_13 : m 6913 = .long x69_4) (w_x69_15 : m 6915 = .int x69_6) (w_x69_18 : m 6918 = .int 0) (hoff : ∀ j, nel j [6912, 6913, 6915, 6918] = false → m j = m0 j) (hsh : SH q m) (w_A74 : a 74 = (30, .inl A74k5)) (hoffa : ∀ j, nel j [74] = false → a j = a0 j) (ls : Array Slot) (hl : lv_has ls 2 [(0, .ref (q 69)), (1, .int v1k5)]) (hg5 : gloop (fun u5 : (Int32 × (Nat → Int32)) => fX12_image_S28 F x69_4 x69_6 A70 1 x69_4 x69_6 0 u5.1 u5.2) n (v1k5, A74k5) = some r5) (hW : GW D cy (gA N q s.heap.size) N q m a s H) (hS : va_S (gA N q s.heap.size) s.heap H locs), W p l e ({ frames := 0, cells := 0, slots := 0, locals := 0 } : Room) s M args below meth c H locs 0 0 (MQ below (va_Qi (fun (r : Int32) (u : (Nat → Value) × (Nat → vp_A)) => r = X0.1 ∧ u.1 6912 = .int X0.2.1 ∧ u.1 6913 = .long X0.2.2.1 ∧ u.1 6915 = .int X0.2.2.2.1 ∧ u.1 6918 = .int X0.2.2.2.2.1 ∧ (∀ j, nel j [6912, 6913, 6915, 6918] = false → u.1 j = m0 j) ∧ u.2 74 = (30, .inl X0.2.2.2.2.2) ∧ (∀ j, nel j [74] = false → u.2 j = a0 j)) (gB D cy N q s.heap.size) (gA N q s.heap.size)) args s 0 0 (gA N q s.heap.size)) (F0 M 28 ls []) := by
    intro n
    induction n with
    | zero => intro v1k5 A74k5 m a H locs w_x69_12 w_x69_13 w_x69_15 w_x69_18 hoff hsh w_A74 hoffa ls hl hg5 hW hS; exact (gl_zero hg5).elim
    | succ n ih1 =>
      intro v1k5 A74k5 m a H locs w_x69_12 w_x69_13 w_x69_15 w_x69_18 hoff hsh w_A74 hoffa ls hl hg5 hW hS
      obtain ⟨X1, hs1, hXl1, hXr1⟩ := gl_succ hg5
      have hs1 : fX12_image_S28 F x69_4 x69_6 A70 1 x69_4 x69_6 0 v1k5 A74k5 = some X1 := hs1
      unfold fX12_image_S28 at hs1
      refine lv_iload_n hx hb dX12_image_28 rfl (lv_at hl 1 rfl) ?_
      refine lv_bipush (v := 30) hx hb dX12_image_29 (by decide) ?_
      refine lv_icmp_ge (tgt := 52) hx hb dX12_image_31 (by decide) (fun c10 => ?_) (fun c10 => ?_)
      · rw [if_pos c10] at hs1
        exact hE1_52 A74k5 (hXl1 _ (Option.some.inj hs1).symm) m a _ _ w_x69_12 w_x69_13 w_x69_15 w_x69_18 hoff hsh w_A74 hoffa ls (lv_sub hl [] rfl) hW hS
      · rw [if_neg c10] at hs1
        refine lv_aload_n hx hb dX12_image_34 rfl (lv_at hl 0 rfl) ?_
        refine gf12_14 hx hb hG hown hW (o := 69) (ltN hN 69 rfl) gk69 (v := .ref (q 74)) (sh69_14 hsh) gx170 dX12_image_35 ?_
        refine lv_iload_n hx hb dX12_image_38 rfl (lv_at hl 1 rfl) ?_
        refine lv_aload_n hx hb dX12_image_39 rfl (lv_at hl 0 rfl) ?_
        refine gf12_5 hx hb hG hown hW (o := 69) (ltN hN 69 rfl) gk69 (v := .ref (q 70)) (sh69_5 hsh) gx166 dX12_image_40 ?_
        refine lv_iload_n hx hb dX12_image_43 rfl (lv_at hl 1 rfl) ?_
        obtain ⟨hi11, hs1⟩ := oif hs1
        refine g_iald hx hb hW (o := 70) (ltN hN 70 rfl) gk70 ((hoffa 70 rfl).trans h_A70) (vin hi11) dX12_image_44 ?_
        obtain ⟨hi12, hs1⟩ := oif hs1
        refine g_iast hx hb hW hS (o := 74) (ltN hN 74 rfl) gk74 w_A74 (vin hi12) dX12_image_45 (fun a13 H locs ha13 ho13 hW hS => ?_)
        have ho13 := off1 ho13
        have w_A74 : a13 74 = (30, .inl (upd A74k5 v1k5.toNatClampNeg (A70 v1k5.toNatClampNeg))) := ha13
        have hoffa := offm hoffa ho13 (by decide +kernel)
        refine lv_iinc (v := v1k5 + 1) (lv' := [(1, .int (v1k5 + 1)), (0, .ref (q 69))]) hx hb dX12_image_46 hl (k := 1) rfl rfl (by decide) rfl (fun ls hl => ?_)
        refine lv_goto (tgt := 28) hx hb dX12_image_49 (by decide) ?_
        exact ih1 (v1k5 + 1) (upd A74k5 v1k5.toNatClampNeg (A70 v1k5.toNatClampNeg)) m a13 _ _ w_x69_12 w_x69_13 w_x69_15 w_x69_18 hoff hsh w_A74 hoffa ls (lv_sub hl [1, 0] rfl) (hXr1 _ (Option.some.inj hs1).symm) hW hS
  exact hL1 F 0 A74 m4 a0 _ _ w_x69_12 w_x69_13 w_x69_15 w_x69_18 hoff hsh h_A74 hoffa ls (lv_sub hl [1, 0] rfl) hg5 hW hS
-- HealLinkModel.back ()Z
def fX12_back_S32 (F : Nat) (x69_12 : Int32) (x69_13 : Int64) (x69_15 : Int32) (A74 : Nat → Int32) (x69_4 : Int64) (x69_6 : Int32) (x69_18 : Int32) (v1 : Int32) (A70 : Nat → Int32) : Option (((Nat → Int32)) ⊕ (Int32 × (Nat → Int32))) := (if 30 ≤ v1 then some (Sum.inl A70) else (if inb v1 30 = true then (if inb v1 30 = true then some (Sum.inr (v1 + 1, upd A70 v1.toNatClampNeg (A74 v1.toNatClampNeg))) else none) else none))
def fX12_back (F : Nat) (x69_12 : Int32) (x69_13 : Int64) (x69_15 : Int32) (A74 : Nat → Int32) (x69_4 : Int64) (x69_6 : Int32) (x69_18 : Int32) (A70 : Nat → Int32) : Option (Int32 × Int64 × Int32 × Int32 × (Nat → Int32)) := (if x69_12 = 0 then some (0, x69_4, x69_6, 0, A70) else (gloop (fun u5 : (Int32 × (Nat → Int32)) => fX12_back_S32 F x69_12 x69_13 x69_15 A74 x69_13 x69_15 0 u5.1 u5.2) F (0, A70)).bind (fun t5_56 => some (1, x69_13, x69_15, 0, t5_56)))
theorem dX12_back_0 : decode cX12_back 0 = .ok (.aload_n 0, 1) := by decide +kernel
theorem dX12_back_1 : decode cX12_back 1 = .ok (.iconst 0, 1) := by decide +kernel
theorem dX12_back_2 : decode cX12_back 2 = .ok (.putfield 137, 3) := by decide +kernel
theorem dX12_back_5 : decode cX12_back 5 = .ok (.aload_n 0, 1) := by decide +kernel
theorem dX12_back_6 : decode cX12_back 6 = .ok (.getfield 155, 3) := by decide +kernel
theorem dX12_back_9 : decode cX12_back 9 = .ok (.ifCond .ne 5, 3) := by decide +kernel
theorem dX12_back_12 : decode cX12_back 12 = .ok (.iconst 0, 1) := by decide +kernel
theorem dX12_back_13 : decode cX12_back 13 = .ok (.ireturn, 1) := by decide +kernel
theorem dX12_back_14 : decode cX12_back 14 = .ok (.aload_n 0, 1) := by decide +kernel
theorem dX12_back_15 : decode cX12_back 15 = .ok (.aload_n 0, 1) := by decide +kernel
theorem dX12_back_16 : decode cX12_back 16 = .ok (.getfield 456, 3) := by decide +kernel
theorem dX12_back_19 : decode cX12_back 19 = .ok (.putfield 133, 3) := by decide +kernel
theorem dX12_back_22 : decode cX12_back 22 = .ok (.aload_n 0, 1) := by decide +kernel
theorem dX12_back_23 : decode cX12_back 23 = .ok (.aload_n 0, 1) := by decide +kernel
theorem dX12_back_24 : decode cX12_back 24 = .ok (.getfield 459, 3) := by decide +kernel
theorem dX12_back_27 : decode cX12_back 27 = .ok (.putfield 146, 3) := by decide +kernel
theorem dX12_back_30 : decode cX12_back 30 = .ok (.iconst 0, 1) := by decide +kernel
theorem dX12_back_31 : decode cX12_back 31 = .ok (.istore_n 1, 1) := by decide +kernel
theorem dX12_back_32 : decode cX12_back 32 = .ok (.iload_n 1, 1) := by decide +kernel
theorem dX12_back_33 : decode cX12_back 33 = .ok (.bipush 30, 2) := by decide +kernel
theorem dX12_back_35 : decode cX12_back 35 = .ok (.if_icmp .ge 21, 3) := by decide +kernel
theorem dX12_back_38 : decode cX12_back 38 = .ok (.aload_n 0, 1) := by decide +kernel
theorem dX12_back_39 : decode cX12_back 39 = .ok (.getfield 22, 3) := by decide +kernel
theorem dX12_back_42 : decode cX12_back 42 = .ok (.iload_n 1, 1) := by decide +kernel
theorem dX12_back_43 : decode cX12_back 43 = .ok (.aload_n 0, 1) := by decide +kernel
theorem dX12_back_44 : decode cX12_back 44 = .ok (.getfield 35, 3) := by decide +kernel
theorem dX12_back_47 : decode cX12_back 47 = .ok (.iload_n 1, 1) := by decide +kernel
theorem dX12_back_48 : decode cX12_back 48 = .ok (.iaload, 1) := by decide +kernel
theorem dX12_back_49 : decode cX12_back 49 = .ok (.iastore, 1) := by decide +kernel
theorem dX12_back_50 : decode cX12_back 50 = .ok (.iinc 1 1, 3) := by decide +kernel
theorem dX12_back_53 : decode cX12_back 53 = .ok (.goto (-21), 3) := by decide +kernel
theorem dX12_back_56 : decode cX12_back 56 = .ok (.iconst 1, 1) := by decide +kernel
theorem dX12_back_57 : decode cX12_back 57 = .ok (.ireturn, 1) := by decide +kernel
set_option maxHeartbeats 4000000 in
set_option maxRecDepth 100000 in
theorem kX12_back {l : Launch} {D : va_G} {cy : Nat → ClassId} {N : Nat} {q : Nat → Nat} {m0 : Nat → Value} {a0 : Nat → vp_A} {sz : Nat} (hN : 105 ≤ N) (hsh : SH q m0) {x69_12 : Int32} (h_x69_12 : m0 6912 = .int x69_12) {x69_13 : Int64} (h_x69_13 : m0 6913 = .long x69_13) {x69_15 : Int32} (h_x69_15 : m0 6915 = .int x69_15) {A74 : Nat → Int32} (h_A74 : a0 74 = (30, .inl A74)) {x69_4 : Int64} (h_x69_4 : m0 6904 = .long x69_4) {x69_6 : Int32} (h_x69_6 : m0 6906 = .int x69_6) {x69_18 : Int32} (h_x69_18 : m0 6918 = .int x69_18) {A70 : Nat → Int32} (h_A70 : a0 70 = (30, .inl A70)) (F : Nat) {X0 : Int32 × Int64 × Int32 × Int32 × (Nat → Int32)} (hs0 : fX12_back F x69_12 x69_13 x69_15 A74 x69_4 x69_6 x69_18 A70 = some X0) : gMi l yX12_back cX12_back 2 (some .boolean) ({ frames := 0, cells := 0, slots := 0, locals := 0 } : Room) D cy N q m0 a0 sz [.ref (q 69)] (fun r m' a' => r = X0.1 ∧ m' 6904 = .long X0.2.1 ∧ m' 6906 = .int X0.2.2.1 ∧ m' 6918 = .int X0.2.2.2.1 ∧ (∀ j, nel j [6904, 6906, 6918] = false → m' j = m0 j) ∧ a' 70 = (30, .inl X0.2.2.2.2) ∧ (∀ j, nel j [70] = false → a' j = a0 j)) := by
  refine g_ofi (by decide) (Nat.le_of_ble_eq_true rfl) ?_
  intro p e s M args below meth c hx hb hr hG hown hin hlocks hml hW hS ls hl
  unfold fX12_back at hs0
  have hoff : ∀ j, nel j [6904, 6906, 6918] = false → m0 j = m0 j := off0
  have hoffa : ∀ j, nel j [70] = false → a0 j = a0 j := off0
  refine lv_aload_n hx hb dX12_back_0 rfl (lv_at hl 0 rfl) ?_
  refine lv_iconst (v := 0) hx hb dX12_back_1 (by decide) ?_
  refine gp12_18 hx hb hG hown hW hS (o := 69) (ltN hN 69 rfl) gk69 (v := 0) gx246 dX12_back_2 (fun m1 H locs hm1 ho1 hW hS => ?_)
  have ho1 := off1 ho1
  have w_x69_4 : m1 6904 = .long x69_4 := (ho1 6904 rfl).trans h_x69_4
  have w_x69_6 : m1 6906 = .int x69_6 := (ho1 6906 rfl).trans h_x69_6
  have w_x69_18 : m1 6918 = .int 0 := hm1
  have hoff := offm hoff ho1 (by decide +kernel)
  have hsh := SH.off hsh ho1 (by decide +kernel)
  refine lv_aload_n hx hb dX12_back_5 rfl (lv_at hl 0 rfl) ?_
  refine gf12_12 hx hb hG hown hW (o := 69) (ltN hN 69 rfl) gk69 (v := .int x69_12) ((hoff 6912 rfl).trans h_x69_12) gx257 dX12_back_6 ?_
  refine lv_if_ne (tgt := 14) hx hb dX12_back_9 (by decide) (fun c2 => ?_) (fun c2 => ?_)
  · rw [if_neg c2] at hs0
    refine lv_aload_n hx hb dX12_back_14 rfl (lv_at hl 0 rfl) ?_
    refine lv_aload_n hx hb dX12_back_15 rfl (lv_at hl 0 rfl) ?_
    refine gf12_13 hx hb hG hown hW (o := 69) (ltN hN 69 rfl) gk69 (v := .long x69_13) ((hoff 6913 rfl).trans h_x69_13) gx1385 dX12_back_16 ?_
    refine gp12_4 hx hb hG hown hW hS (o := 69) (ltN hN 69 rfl) gk69 (v := x69_13) gx202 dX12_back_19 (fun m3 H locs hm3 ho3 hW hS => ?_)
    have ho3 := off1 ho3
    have w_x69_4 : m3 6904 = .long x69_13 := hm3
    have w_x69_6 : m3 6906 = .int x69_6 := (ho3 6906 rfl).trans w_x69_6
    have w_x69_18 : m3 6918 = .int 0 := (ho3 6918 rfl).trans w_x69_18
    have hoff := offm hoff ho3 (by decide +kernel)
    have hsh := SH.off hsh ho3 (by decide +kernel)
    refine lv_aload_n hx hb dX12_back_22 rfl (lv_at hl 0 rfl) ?_
    refine lv_aload_n hx hb dX12_back_23 rfl (lv_at hl 0 rfl) ?_
    refine gf12_15 hx hb hG hown hW (o := 69) (ltN hN 69 rfl) gk69 (v := .int x69_15) ((hoff 6915 rfl).trans h_x69_15) gx1386 dX12_back_24 ?_
    refine gp12_6 hx hb hG hown hW hS (o := 69) (ltN hN 69 rfl) gk69 (v := x69_15) gx254 dX12_back_27 (fun m4 H locs hm4 ho4 hW hS => ?_)
    have ho4 := off1 ho4
    have w_x69_4 : m4 6904 = .long x69_13 := (ho4 6904 rfl).trans w_x69_4
    have w_x69_6 : m4 6906 = .int x69_15 := hm4
    have w_x69_18 : m4 6918 = .int 0 := (ho4 6918 rfl).trans w_x69_18
    have hoff := offm hoff ho4 (by decide +kernel)
    have hsh := SH.off hsh ho4 (by decide +kernel)
    refine lv_iconst (v := 0) hx hb dX12_back_30 (by decide) ?_
    refine lv_istore_n (lv' := [(1, .int 0), (0, .ref (q 69))]) hx hb dX12_back_31 rfl hl (by decide) rfl (fun ls hl => ?_)
    obtain ⟨r5, hg5, hs0⟩ := obind hs0
    have hE1_56 : ∀ (t5_56 : (Nat → Int32)) (hr5 : t5_56 = r5) (m : Nat → Value) (a : Nat → vp_A) (H : Heap) (locs : List Loc) (w_x69_4 : m 6904 = .long x69_13) (w_x69_6 : m 6906 = .int x69_15) (w_x69_18 : m 6918 = .int 0) (hoff : ∀ j, nel j [6904, 6906, 6918] = false → m j = m0 j) (hsh : SH q m) (w_A70 : a 70 = (30, .inl t5_56)) (hoffa : ∀ j, nel j [70] = false → a j = a0 j) (ls : Array Slot) (hl : lv_has ls 2 []) (hW : GW D cy (gA N q s.heap.size) N q m a s H) (hS : va_S (gA N q s.heap.size) s.heap H locs), W p l e ({ frames := 0, cells := 0, slots := 0, locals := 0 } : Room) s M args below meth c H locs 0 0 (MQ below (va_Qi (fun (r : Int32) (u : (Nat → Value) × (Nat → vp_A)) => r = X0.1 ∧ u.1 6904 = .long X0.2.1 ∧ u.1 6906 = .int X0.2.2.1 ∧ u.1 6918 = .int X0.2.2.2.1 ∧ (∀ j, nel j [6904, 6906, 6918] = false → u.1 j = m0 j) ∧ u.2 70 = (30, .inl X0.2.2.2.2) ∧ (∀ j, nel j [70] = false → u.2 j = a0 j)) (gB D cy N q s.heap.size) (gA N q s.heap.size)) args s 0 0 (gA N q s.heap.size)) (F0 M 56 ls []) := by
      intro t5_56 hr5 m a H locs w_x69_4 w_x69_6 w_x69_18 hoff hsh w_A70 hoffa ls hl hW hS
      subst hr5
      refine lv_iconst (v := 1) hx hb dX12_back_56 (by decide) ?_
      have hs0 := Option.some.inj hs0
      subst hs0
      exact W.zret hx hb hr rfl (fun t ht hw => ⟨⟨_, (m, a), rfl, ⟨rfl, w_x69_4, w_x69_6, w_x69_18, hoff, w_A70, hoffa⟩, g_end hW ht hw⟩, hS.F ht⟩) hS.2.2 dX12_back_57 hlocks
    have hL1 : ∀ (n : Nat) (v1k5 : Int32) (A70k5 : Nat → Int32) (m : Nat → Value) (a : Nat → vp_A) (H : Heap) (locs : List Loc) (w_x69_4 : m 6904 = .long x69_13) (w_x69_6 : m 6906 = .int x69_15) (w_x69_18 : m 6918 = .int 0) (hoff : ∀ j, nel j [6904, 6906, 6918] = false → m j = m0 j) (hsh : SH q m) (w_A70 : a 70 = (30, .inl A70k5)) (hoffa : ∀ j, nel j [70] = false → a j = a0 j) (ls : Array Slot) (hl : lv_has ls 2 [(0, .ref (q 69)), (1, .int v1k5)]) (hg5 : gloop (fun u5 : (Int32 × (Nat → Int32)) => fX12_back_S32 F x69_12 x69_13 x69_15 A74 x69_13 x69_15 0 u5.1 u5.2) n (v1k5, A70k5) = some r5) (hW : GW D cy (gA N q s.heap.size) N q m a s H) (hS : va_S (gA N q s.heap.size) s.heap H locs), W p l e ({ frames := 0, cells := 0, slots := 0, locals := 0 } : Room) s M args below meth c H locs 0 0 (MQ below (va_Qi (fun (r : Int32) (u : (Nat → Value) × (Nat → vp_A)) => r = X0.1 ∧ u.1 6904 = .long X0.2.1 ∧ u.1 6906 = .int X0.2.2.1 ∧ u.1 6918 = .int X0.2.2.2.1 ∧ (∀ j, nel j [6904, 6906, 6918] = false → u.1 j = m0 j) ∧ u.2 70 = (30, .inl X0.2.2.2.2) ∧ (∀ j, nel j [70] = false → u.2 j = a0 j)) (gB D cy N q s.heap.size) (gA N q s.heap.size)) args s 0 0 (gA N q s.heap.size)) (F0 M 32 ls []) := by
      intro n
      induction n with
      | zero => intro v1k5 A70k5 m a H locs w_x69_4 w_x69_6 w_x69_18 hoff hsh w_A70 hoffa ls hl hg5 hW hS; exact (gl_zero hg5).elim
      | succ n ih1 =>
        intro v1k5 A70k5 m a H locs w_x69_4 w_x69_6 w_x69_18 hoff hsh w_A70 hoffa ls hl hg5 hW hS
        obtain ⟨X1, hs1, hXl1, hXr1⟩ := gl_succ hg5
        have hs1 : fX12_back_S32 F x69_12 x69_13 x69_15 A74 x69_13 x69_15 0 v1k5 A70k5 = some X1 := hs1
        unfold fX12_back_S32 at hs1
        refine lv_iload_n hx hb dX12_back_32 rfl (lv_at hl 1 rfl) ?_
        refine lv_bipush (v := 30) hx hb dX12_back_33 (by decide) ?_
        refine lv_icmp_ge (tgt := 56) hx hb dX12_back_35 (by decide) (fun c10 => ?_) (fun c10 => ?_)
        · rw [if_pos c10] at hs1
          exact hE1_56 A70k5 (hXl1 _ (Option.some.inj hs1).symm) m a _ _ w_x69_4 w_x69_6 w_x69_18 hoff hsh w_A70 hoffa ls (lv_sub hl [] rfl) hW hS
        · rw [if_neg c10] at hs1
          refine lv_aload_n hx hb dX12_back_38 rfl (lv_at hl 0 rfl) ?_
          refine gf12_5 hx hb hG hown hW (o := 69) (ltN hN 69 rfl) gk69 (v := .ref (q 70)) (sh69_5 hsh) gx166 dX12_back_39 ?_
          refine lv_iload_n hx hb dX12_back_42 rfl (lv_at hl 1 rfl) ?_
          refine lv_aload_n hx hb dX12_back_43 rfl (lv_at hl 0 rfl) ?_
          refine gf12_14 hx hb hG hown hW (o := 69) (ltN hN 69 rfl) gk69 (v := .ref (q 74)) (sh69_14 hsh) gx170 dX12_back_44 ?_
          refine lv_iload_n hx hb dX12_back_47 rfl (lv_at hl 1 rfl) ?_
          obtain ⟨hi11, hs1⟩ := oif hs1
          refine g_iald hx hb hW (o := 74) (ltN hN 74 rfl) gk74 ((hoffa 74 rfl).trans h_A74) (vin hi11) dX12_back_48 ?_
          obtain ⟨hi12, hs1⟩ := oif hs1
          refine g_iast hx hb hW hS (o := 70) (ltN hN 70 rfl) gk70 w_A70 (vin hi12) dX12_back_49 (fun a13 H locs ha13 ho13 hW hS => ?_)
          have ho13 := off1 ho13
          have w_A70 : a13 70 = (30, .inl (upd A70k5 v1k5.toNatClampNeg (A74 v1k5.toNatClampNeg))) := ha13
          have hoffa := offm hoffa ho13 (by decide +kernel)
          refine lv_iinc (v := v1k5 + 1) (lv' := [(1, .int (v1k5 + 1)), (0, .ref (q 69))]) hx hb dX12_back_50 hl (k := 1) rfl rfl (by decide) rfl (fun ls hl => ?_)
          refine lv_goto (tgt := 32) hx hb dX12_back_53 (by decide) ?_
          exact ih1 (v1k5 + 1) (upd A70k5 v1k5.toNatClampNeg (A74 v1k5.toNatClampNeg)) m a13 _ _ w_x69_4 w_x69_6 w_x69_18 hoff hsh w_A70 hoffa ls (lv_sub hl [1, 0] rfl) (hXr1 _ (Option.some.inj hs1).symm) hW hS
    exact hL1 F 0 A70 m4 a0 _ _ w_x69_4 w_x69_6 w_x69_18 hoff hsh h_A70 hoffa ls (lv_sub hl [1, 0] rfl) hg5 hW hS
  · rw [if_pos c2] at hs0
    refine lv_iconst (v := 0) hx hb dX12_back_12 (by decide) ?_
    have hs0 := Option.some.inj hs0
    subst hs0
    exact W.zret hx hb hr rfl (fun t ht hw => ⟨⟨_, (m1, a0), rfl, ⟨rfl, w_x69_4, w_x69_6, w_x69_18, hoff, h_A70, hoffa⟩, g_end hW ht hw⟩, hS.F ht⟩) hS.2.2 dX12_back_13 hlocks
