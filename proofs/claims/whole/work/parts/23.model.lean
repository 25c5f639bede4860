/-! 23.model (by program): the pure function of each method, its rows, its contract -/
-- HealLinkModel.enters (I)V
def fX12_enters (A81 : Nat → Int32) (x69_43 : Int32) (x69_45 : Int32) (A88 : Nat → Int32) (A89 : Nat → Int32) (A90 : Nat → Int32) (A91 : Nat → Int32) (A93 : Nat → Int32) (p1 : Int32) : Option (Int32 × Int32 × (Nat → Int32) × (Nat → Int32) × (Nat → Int32) × (Nat → Int32) × (Nat → Int32)) := (if inb p1 6001 = true then (if inb p1 6001 = true then (if inb x69_43 6001 = true then (if inb p1 6001 = true then (if inb p1 6002 = true then (if inb p1 6001 = true then some (x69_43 + 1, x69_45 + 1, upd A88 p1.toNatClampNeg x69_45, upd A89 p1.toNatClampNeg x69_45, upd A90 x69_43.toNatClampNeg p1, upd A91 p1.toNatClampNeg 1, upd A93 p1.toNatClampNeg (A81 p1.toNatClampNeg)) else none) else none) else none) else none) else none) else none)
theorem dX12_enters_0 : decode cX12_enters 0 = .ok (.aload_n 0, 1) := by decide +kernel
theorem dX12_enters_1 : decode cX12_enters 1 = .ok (.getfield 82, 3) := by decide +kernel
theorem dX12_enters_4 : decode cX12_enters 4 = .ok (.iload_n 1, 1) := by decide +kernel
theorem dX12_enters_5 : decode cX12_enters 5 = .ok (.aload_n 0, 1) := by decide +kernel
theorem dX12_enters_6 : decode cX12_enters 6 = .ok (.getfield 282, 3) := by decide +kernel
theorem dX12_enters_9 : decode cX12_enters 9 = .ok (.iastore, 1) := by decide +kernel
theorem dX12_enters_10 : decode cX12_enters 10 = .ok (.aload_n 0, 1) := by decide +kernel
theorem dX12_enters_11 : decode cX12_enters 11 = .ok (.getfield 79, 3) := by decide +kernel
theorem dX12_enters_14 : decode cX12_enters 14 = .ok (.iload_n 1, 1) := by decide +kernel
theorem dX12_enters_15 : decode cX12_enters 15 = .ok (.aload_n 0, 1) := by decide +kernel
theorem dX12_enters_16 : decode cX12_enters 16 = .ok (.getfield 282, 3) := by decide +kernel
theorem dX12_enters_19 : decode cX12_enters 19 = .ok (.iastore, 1) := by decide +kernel
theorem dX12_enters_20 : decode cX12_enters 20 = .ok (.aload_n 0, 1) := by decide +kernel
theorem dX12_enters_21 : decode cX12_enters 21 = .ok (.dup, 1) := by decide +kernel
theorem dX12_enters_22 : decode cX12_enters 22 = .ok (.getfield 282, 3) := by decide +kernel
theorem dX12_enters_25 : decode cX12_enters 25 = .ok (.iconst 1, 1) := by decide +kernel
theorem dX12_enters_26 : decode cX12_enters 26 = .ok (.iadd, 1) := by decide +kernel
theorem dX12_enters_27 : decode cX12_enters 27 = .ok (.putfield 282, 3) := by decide +kernel
theorem dX12_enters_30 : decode cX12_enters 30 = .ok (.aload_n 0, 1) := by decide +kernel
theorem dX12_enters_31 : decode cX12_enters 31 = .ok (.getfield 85, 3) := by decide +kernel
theorem dX12_enters_34 : decode cX12_enters 34 = .ok (.aload_n 0, 1) := by decide +kernel
theorem dX12_enters_35 : decode cX12_enters 35 = .ok (.getfield 285, 3) := by decide +kernel
theorem dX12_enters_38 : decode cX12_enters 38 = .ok (.iload_n 1, 1) := by decide +kernel
theorem dX12_enters_39 : decode cX12_enters 39 = .ok (.iastore, 1) := by decide +kernel
theorem dX12_enters_40 : decode cX12_enters 40 = .ok (.aload_n 0, 1) := by decide +kernel
theorem dX12_enters_41 : decode cX12_enters 41 = .ok (.dup, 1) := by decide +kernel
theorem dX12_enters_42 : decode cX12_enters 42 = .ok (.getfield 285, 3) := by decide +kernel
theorem dX12_enters_45 : decode cX12_enters 45 = .ok (.iconst 1, 1) := by decide +kernel
theorem dX12_enters_46 : decode cX12_enters 46 = .ok (.iadd, 1) := by decide +kernel
theorem dX12_enters_47 : decode cX12_enters 47 = .ok (.putfield 285, 3) := by decide +kernel
theorem dX12_enters_50 : decode cX12_enters 50 = .ok (.aload_n 0, 1) := by decide +kernel
theorem dX12_enters_51 : decode cX12_enters 51 = .ok (.getfield 88, 3) := by decide +kernel
theorem dX12_enters_54 : decode cX12_enters 54 = .ok (.iload_n 1, 1) := by decide +kernel
theorem dX12_enters_55 : decode cX12_enters 55 = .ok (.iconst 1, 1) := by decide +kernel
theorem dX12_enters_56 : decode cX12_enters 56 = .ok (.bastore, 1) := by decide +kernel
theorem dX12_enters_57 : decode cX12_enters 57 = .ok (.aload_n 0, 1) := by decide +kernel
theorem dX12_enters_58 : decode cX12_enters 58 = .ok (.getfield 95, 3) := by decide +kernel
theorem dX12_enters_61 : decode cX12_enters 61 = .ok (.iload_n 1, 1) := by decide +kernel
theorem dX12_enters_62 : decode cX12_enters 62 = .ok (.aload_n 0, 1) := by decide +kernel
theorem dX12_enters_63 : decode cX12_enters 63 = .ok (.getfield 57, 3) := by decide +kernel
theorem dX12_enters_66 : decode cX12_enters 66 = .ok (.iload_n 1, 1) := by decide +kernel
theorem dX12_enters_67 : decode cX12_enters 67 = .ok (.iaload, 1) := by decide +kernel
theorem dX12_enters_68 : decode cX12_enters 68 = .ok (.iastore, 1) := by decide +kernel
theorem dX12_enters_69 : decode cX12_enters 69 = .ok (.return_, 1) := by decide +kernel
set_option maxHeartbeats 4000000 in
set_option maxRecDepth 100000 in
theorem kX12_enters {l : Launch} {D : va_G} {cy : Nat → ClassId} {N : Nat} {q : Nat → Nat} {m0 : Nat → Value} {a0 : Nat → vp_A} {sz : Nat} (hN : 105 ≤ N) (hsh : SH q m0) {A81 : Nat → Int32} (h_A81 : a0 81 = (6002, .inl A81)) {x69_43 : Int32} (h_x69_43 : m0 6943 = .int x69_43) {x69_45 : Int32} (h_x69_45 : m0 6945 = .int x69_45) {A88 : Nat → Int32} (h_A88 : a0 88 = (6001, .inl A88)) {A89 : Nat → Int32} (h_A89 : a0 89 = (6001, .inl A89)) {A90 : Nat → Int32} (h_A90 : a0 90 = (6001, .inl A90)) {A91 : Nat → Int32} (h_A91 : a0 91 = (6001, .inl A91)) {A93 : Nat → Int32} (h_A93 : a0 93 = (6001, .inl A93)) (p1 : Int32) {X0 : Int32 × Int32 × (Nat → Int32) × (Nat → Int32) × (Nat → Int32) × (Nat → Int32) × (Nat → Int32)} (hs0 : fX12_enters A81 x69_43 x69_45 A88 A89 A90 A91 A93 p1 = some X0) : gMv l yX12_enters cX12_enters 2 none ({ frames := 0, cells := 0, slots := 0, locals := 0 } : Room) D cy N q m0 a0 sz [.ref (q 69), .int p1] (fun m' a' => m' 6943 = .int X0.1 ∧ m' 6945 = .int X0.2.1 ∧ (∀ j, nel j [6943, 6945] = false → m' j = m0 j) ∧ a' 88 = (6001, .inl X0.2.2.1) ∧ a' 89 = (6001, .inl X0.2.2.2.1) ∧ a' 90 = (6001, .inl X0.2.2.2.2.1) ∧ a' 91 = (6001, .inl X0.2.2.2.2.2.1) ∧ a' 93 = (6001, .inl X0.2.2.2.2.2.2) ∧ (∀ j, nel j [88, 89, 90, 91, 93] = false → a' j = a0 j)) := by
  refine g_ofv (by decide) (Nat.le_of_ble_eq_true rfl) ?_
  intro p e s M args below meth c hx hb hr hG hown hin hlocks hml hW hS ls hl
  unfold fX12_enters at hs0
  have hoff : ∀ j, nel j [6943, 6945] = false → m0 j = m0 j := off0
  have hoffa : ∀ j, nel j [88, 89, 90, 91, 93] = false → a0 j = a0 j := off0
  refine lv_aload_n hx hb dX12_enters_0 rfl (lv_at hl 0 rfl) ?_
  refine gf12_38 hx hb hG hown hW (o := 69) (ltN hN 69 rfl) gk69 (v := .ref (q 89)) (sh69_38 hsh) gx186 dX12_enters_1 ?_
  refine lv_iload_n hx hb dX12_enters_4 rfl (lv_at hl 1 rfl) ?_
  refine lv_aload_n hx hb dX12_enters_5 rfl (lv_at hl 0 rfl) ?_
  refine gf12_45 hx hb hG hown hW (o := 69) (ltN hN 69 rfl) gk69 (v := .int x69_45) h_x69_45 gx805 dX12_enters_6 ?_
  obtain ⟨hi1, hs0⟩ := oif hs0
  refine g_iast hx hb hW hS (o := 89) (ltN hN 89 rfl) gk89 h_A89 (vin hi1) dX12_enters_9 (fun a2 H locs ha2 ho2 hW hS => ?_)
  have ho2 := off1 ho2
  have w_A88 : a2 88 = (6001, .inl A88) := (ho2 88 rfl).trans h_A88
  have w_A89 : a2 89 = (6001, .inl (upd A89 p1.toNatClampNeg x69_45)) := ha2
  have w_A90 : a2 90 = (6001, .inl A90) := (ho2 90 rfl).trans h_A90
  have w_A91 : a2 91 = (6001, .inl A91) := (ho2 91 rfl).trans h_A91
  have w_A93 : a2 93 = (6001, .inl A93) := (ho2 93 rfl).trans h_A93
  have hoffa := offm hoffa ho2 (by decide +kernel)
  refine lv_aload_n hx hb dX12_enters_10 rfl (lv_at hl 0 rfl) ?_
  refine gf12_37 hx hb hG hown hW (o := 69) (ltN hN 69 rfl) gk69 (v := .ref (q 88)) (sh69_37 hsh) gx185 dX12_enters_11 ?_
  refine lv_iload_n hx hb dX12_enters_14 rfl (lv_at hl 1 rfl) ?_
  refine lv_aload_n hx hb dX12_enters_15 rfl (lv_at hl 0 rfl) ?_
  refine gf12_45 hx hb hG hown hW (o := 69) (ltN hN 69 rfl) gk69 (v := .int x69_45) h_x69_45 gx805 dX12_enters_16 ?_
  obtain ⟨hi3, hs0⟩ := oif hs0
  refine g_iast hx hb hW hS (o := 88) (ltN hN 88 rfl) gk88 w_A88 (vin hi3) dX12_enters_19 (fun a4 H locs ha4 ho4 hW hS => ?_)
  have ho4 := off1 ho4
  have w_A88 : a4 88 = (6001, .inl (upd A88 p1.toNatClampNeg x69_45)) := ha4
  have w_A89 : a4 89 = (6001, .inl (upd A89 p1.toNatClampNeg x69_45)) := (ho4 89 rfl).trans w_A89
  have w_A90 : a4 90 = (6001, .inl A90) := (ho4 90 rfl).trans w_A90
  have w_A91 : a4 91 = (6001, .inl A91) := (ho4 91 rfl).trans w_A91
  have w_A93 : a4 93 = (6001, .inl A93) := (ho4 93 rfl).trans w_A93
  have hoffa := offm hoffa ho4 (by decide +kernel)
  refine lv_aload_n hx hb dX12_enters_20 rfl (lv_at hl 0 rfl) ?_
  refine lv_dup hx hb dX12_enters_21 rfl ?_
  refine gf12_45 hx hb hG hown hW (o := 69) (ltN hN 69 rfl) gk69 (v := .int x69_45) h_x69_45 gx805 dX12_enters_22 ?_
  refine lv_iconst (v := 1) hx hb dX12_enters_25 (by decide) ?_
  refine lv_iadd hx hb dX12_enters_26 ?_
  refine gp12_45 hx hb hG hown hW hS (o := 69) (ltN hN 69 rfl) gk69 (v := (x69_45 + 1)) gx805 dX12_enters_27 (fun m5 H locs hm5 ho5 hW hS => ?_)
  have ho5 := off1 ho5
  have w_x69_43 : m5 6943 = .int x69_43 := (ho5 6943 rfl).trans h_x69_43
  have w_x69_45 : m5 6945 = .int (x69_45 + 1) := hm5
  have hoff := offm hoff ho5 (by decide +kernel)
  have hsh := SH.off hsh ho5 (by decide +kernel)
  refine lv_aload_n hx hb dX12_enters_30 rfl (lv_at hl 0 rfl) ?_
  refine gf12_39 hx hb hG hown hW (o := 69) (ltN hN 69 rfl) gk69 (v := .ref (q 90)) (sh69_39 hsh) gx187 dX12_enters_31 ?_
  refine lv_aload_n hx hb dX12_enters_34 rfl (lv_at hl 0 rfl) ?_
  refine gf12_43 hx hb hG hown hW (o := 69) (ltN hN 69 rfl) gk69 (v := .int x69_43) w_x69_43 gx806 dX12_enters_35 ?_
  refine lv_iload_n hx hb dX12_enters_38 rfl (lv_at hl 1 rfl) ?_
  obtain ⟨hi6, hs0⟩ := oif hs0
  refine g_iast hx hb hW hS (o := 90) (ltN hN 90 rfl) gk90 w_A90 (vin hi6) dX12_enters_39 (fun a7 H locs ha7 ho7 hW hS => ?_)
  have ho7 := off1 ho7
  have w_A88 : a7 88 = (6001, .inl (upd A88 p1.toNatClampNeg x69_45)) := (ho7 88 rfl).trans w_A88
  have w_A89 : a7 89 = (6001, .inl (upd A89 p1.toNatClampNeg x69_45)) := (ho7 89 rfl).trans w_A89
  have w_A90 : a7 90 = (6001, .inl (upd A90 x69_43.toNatClampNeg p1)) := ha7
  have w_A91 : a7 91 = (6001, .inl A91) := (ho7 91 rfl).trans w_A91
  have w_A93 : a7 93 = (6001, .inl A93) := (ho7 93 rfl).trans w_A93
  have hoffa := offm hoffa ho7 (by decide +kernel)
  refine lv_aload_n hx hb dX12_enters_40 rfl (lv_at hl 0 rfl) ?_
  refine lv_dup hx hb dX12_enters_41 rfl ?_
  refine gf12_43 hx hb hG hown hW (o := 69) (ltN hN 69 rfl) gk69 (v := .int x69_43) w_x69_43 gx806 dX12_enters_42 ?_
  refine lv_iconst (v := 1) hx hb dX12_enters_45 (by decide) ?_
  refine lv_iadd hx hb dX12_enters_46 ?_
  refine gp12_43 hx hb hG hown hW hS (o := 69) (ltN hN 69 rfl) gk69 (v := (x69_43 + 1)) gx806 dX12_enters_47 (fun m8 H locs hm8 ho8 hW hS => ?_)
  have ho8 := off1 ho8
  have w_x69_43 : m8 6943 = .int (x69_43 + 1) := hm8
  have w_x69_45 : m8 6945 = .int (x69_45 + 1) := (ho8 6945 rfl).trans w_x69_45
  have hoff := offm hoff ho8 (by decide +kernel)
  have hsh := SH.off hsh ho8 (by decide +kernel)
  refine lv_aload_n hx hb dX12_enters_50 rfl (lv_at hl 0 rfl) ?_
  refine gf12_40 hx hb hG hown hW (o := 69) (ltN hN 69 rfl) gk69 (v := .ref (q 91)) (sh69_40 hsh) gx189 dX12_enters_51 ?_
  refine lv_iload_n hx hb dX12_enters_54 rfl (lv_at hl 1 rfl) ?_
  refine lv_iconst (v := 1) hx hb dX12_enters_55 (by decide) ?_
  obtain ⟨hi9, hs0⟩ := oif hs0
  refine g_zast hx hb hW hS (o := 91) (ltN hN 91 rfl) gk91 w_A91 (vin hi9) rfl dX12_enters_56 (fun a10 H locs ha10 ho10 hW hS => ?_)
  have ho10 := off1 ho10
  have w_A88 : a10 88 = (6001, .inl (upd A88 p1.toNatClampNeg x69_45)) := (ho10 88 rfl).trans w_A88
  have w_A89 : a10 89 = (6001, .inl (upd A89 p1.toNatClampNeg x69_45)) := (ho10 89 rfl).trans w_A89
  have w_A90 : a10 90 = (6001, .inl (upd A90 x69_43.toNatClampNeg p1)) := (ho10 90 rfl).trans w_A90
  have w_A91 : a10 91 = (6001, .inl (upd A91 p1.toNatClampNeg 1)) := ha10
  have w_A93 : a10 93 = (6001, .inl A93) := (ho10 93 rfl).trans w_A93
  have hoffa := offm hoffa ho10 (by decide +kernel)
  refine lv_aload_n hx hb dX12_enters_57 rfl (lv_at hl 0 rfl) ?_
  refine gf12_42 hx hb hG hown hW (o := 69) (ltN hN 69 rfl) gk69 (v := .ref (q 93)) (sh69_42 hsh) gx191 dX12_enters_58 ?_
  refine lv_iload_n hx hb dX12_enters_61 rfl (lv_at hl 1 rfl) ?_
  refine lv_aload_n hx hb dX12_enters_62 rfl (lv_at hl 0 rfl) ?_
  refine gf12_29 hx hb hG hown hW (o := 69) (ltN hN 69 rfl) gk69 (v := .ref (q 81)) (sh69_29 hsh) gx177 dX12_enters_63 ?_
  refine lv_iload_n hx hb dX12_enters_66 rfl (lv_at hl 1 rfl) ?_
  obtain ⟨hi11, hs0⟩ := oif hs0
  refine g_iald hx hb hW (o := 81) (ltN hN 81 rfl) gk81 ((hoffa 81 rfl).trans h_A81) (vin hi11) dX12_enters_67 ?_
  obtain ⟨hi12, hs0⟩ := oif hs0
  refine g_iast hx hb hW hS (o := 93) (ltN hN 93 rfl) gk93 w_A93 (vin hi12) dX12_enters_68 (fun a13 H locs ha13 ho13 hW hS => ?_)
  have ho13 := off1 ho13
  have w_A88 : a13 88 = (6001, .inl (upd A88 p1.toNatClampNeg x69_45)) := (ho13 88 rfl).trans w_A88
  have w_A89 : a13 89 = (6001, .inl (upd A89 p1.toNatClampNeg x69_45)) := (ho13 89 rfl).trans w_A89
  have w_A90 : a13 90 = (6001, .inl (upd A90 x69_43.toNatClampNeg p1)) := (ho13 90 rfl).trans w_A90
  have w_A91 : a13 91 = (6001, .inl (upd A91 p1.toNatClampNeg 1)) := (ho13 91 rfl).trans w_A91
  have w_A93 : a13 93 = (6001, .inl (upd A93 p1.toNatClampNeg (A81 p1.toNatClampNeg))) := ha13
  have hoffa := offm hoffa ho13 (by decide +kernel)
  have hs0 := Option.some.inj hs0
  subst hs0
  exact W.vret hx hb hr (fun t ht hw => ⟨⟨(m8, a13), rfl, ⟨w_x69_43, w_x69_45, hoff, w_A88, w_A89, w_A90, w_A91, w_A93, hoffa⟩, g_end hW ht hw⟩, hS.F ht⟩) hS.2.2 dX12_enters_69 hlocks
-- HealLinkModel.leaves (I)V
def fX12_leaves_S16 (F : Nat) (A88 : Nat → Int32) (A89 : Nat → Int32) (A90 : Nat → Int32) (v1 : Int32) (x69_44 : Int32) (x69_43 : Int32) (A87 : Nat → Int32) (A91 : Nat → Int32) : Option ((Int32 × (Nat → Int32) × (Nat → Int32)) ⊕ (Int32 × (Nat → Int32) × (Nat → Int32))) := (if inb (x69_43 - 1) 6001 = true then (if inb (A90 (x69_43 - 1).toNatClampNeg) 6001 = true then (if inb (A90 (x69_43 - 1).toNatClampNeg) 6001 = true then (if (A90 (x69_43 - 1).toNatClampNeg) = v1 then some (Sum.inl (x69_43 - 1, upd A87 (A90 (x69_43 - 1).toNatClampNeg).toNatClampNeg x69_44, upd A91 (A90 (x69_43 - 1).toNatClampNeg).toNatClampNeg 0)) else some (Sum.inr (x69_43 - 1, upd A87 (A90 (x69_43 - 1).toNatClampNeg).toNatClampNeg x69_44, upd A91 (A90 (x69_43 - 1).toNatClampNeg).toNatClampNeg 0))) else none) else none) else none)
def fX12_leaves (F : Nat) (A88 : Nat → Int32) (A89 : Nat → Int32) (A90 : Nat → Int32) (x69_43 : Int32) (x69_44 : Int32) (A87 : Nat → Int32) (A91 : Nat → Int32) (p1 : Int32) : Option (Int32 × Int32 × (Nat → Int32) × (Nat → Int32)) := (if inb p1 6001 = true then (if inb p1 6001 = true then (if (A88 p1.toNatClampNeg) = (A89 p1.toNatClampNeg) then (gloop (fun u4 : (Int32 × (Nat → Int32) × (Nat → Int32)) => fX12_leaves_S16 F A88 A89 A90 p1 x69_44 u4.1 u4.2.1 u4.2.2) F (x69_43, A87, A91)).bind (fun t4_58 => some (t4_58.1, x69_44 + 1, t4_58.2.1, t4_58.2.2)) else some (x69_43, x69_44, A87, A91)) else none) else none)
theorem dX12_leaves_0 : decode cX12_leaves 0 = .ok (.aload_n 0, 1) := by decide +kernel
theorem dX12_leaves_1 : decode cX12_leaves 1 = .ok (.getfield 79, 3) := by decide +kernel
theorem dX12_leaves_4 : decode cX12_leaves 4 = .ok (.iload_n 1, 1) := by decide +kernel
theorem dX12_leaves_5 : decode cX12_leaves 5 = .ok (.iaload, 1) := by decide +kernel
theorem dX12_leaves_6 : decode cX12_leaves 6 = .ok (.aload_n 0, 1) := by decide +kernel
theorem dX12_leaves_7 : decode cX12_leaves 7 = .ok (.getfield 82, 3) := by decide +kernel
theorem dX12_leaves_10 : decode cX12_leaves 10 = .ok (.iload_n 1, 1) := by decide +kernel
theorem dX12_leaves_11 : decode cX12_leaves 11 = .ok (.iaload, 1) := by decide +kernel
theorem dX12_leaves_12 : decode cX12_leaves 12 = .ok (.if_icmp .eq 4, 3) := by decide +kernel
theorem dX12_leaves_15 : decode cX12_leaves 15 = .ok (.return_, 1) := by decide +kernel
theorem dX12_leaves_16 : decode cX12_leaves 16 = .ok (.aload_n 0, 1) := by decide +kernel
theorem dX12_leaves_17 : decode cX12_leaves 17 = .ok (.dup, 1) := by decide +kernel
theorem dX12_leaves_18 : decode cX12_leaves 18 = .ok (.getfield 285, 3) := by decide +kernel
theorem dX12_leaves_21 : decode cX12_leaves 21 = .ok (.iconst 1, 1) := by decide +kernel
theorem dX12_leaves_22 : decode cX12_leaves 22 = .ok (.isub, 1) := by decide +kernel
theorem dX12_leaves_23 : decode cX12_leaves 23 = .ok (.putfield 285, 3) := by decide +kernel
theorem dX12_leaves_26 : decode cX12_leaves 26 = .ok (.aload_n 0, 1) := by decide +kernel
theorem dX12_leaves_27 : decode cX12_leaves 27 = .ok (.getfield 85, 3) := by decide +kernel
theorem dX12_leaves_30 : decode cX12_leaves 30 = .ok (.aload_n 0, 1) := by decide +kernel
theorem dX12_leaves_31 : decode cX12_leaves 31 = .ok (.getfield 285, 3) := by decide +kernel
theorem dX12_leaves_34 : decode cX12_leaves 34 = .ok (.iaload, 1) := by decide +kernel
theorem dX12_leaves_35 : decode cX12_leaves 35 = .ok (.istore_n 2, 1) := by decide +kernel
theorem dX12_leaves_36 : decode cX12_leaves 36 = .ok (.aload_n 0, 1) := by decide +kernel
theorem dX12_leaves_37 : decode cX12_leaves 37 = .ok (.getfield 88, 3) := by decide +kernel
theorem dX12_leaves_40 : decode cX12_leaves 40 = .ok (.iload_n 2, 1) := by decide +kernel
theorem dX12_leaves_41 : decode cX12_leaves 41 = .ok (.iconst 0, 1) := by decide +kernel
theorem dX12_leaves_42 : decode cX12_leaves 42 = .ok (.bastore, 1) := by decide +kernel
theorem dX12_leaves_43 : decode cX12_leaves 43 = .ok (.aload_n 0, 1) := by decide +kernel
theorem dX12_leaves_44 : decode cX12_leaves 44 = .ok (.getfield 76, 3) := by decide +kernel
theorem dX12_leaves_47 : decode cX12_leaves 47 = .ok (.iload_n 2, 1) := by decide +kernel
theorem dX12_leaves_48 : decode cX12_leaves 48 = .ok (.aload_n 0, 1) := by decide +kernel
theorem dX12_leaves_49 : decode cX12_leaves 49 = .ok (.getfield 288, 3) := by decide +kernel
theorem dX12_leaves_52 : decode cX12_leaves 52 = .ok (.iastore, 1) := by decide +kernel
theorem dX12_leaves_53 : decode cX12_leaves 53 = .ok (.iload_n 2, 1) := by decide +kernel
theorem dX12_leaves_54 : decode cX12_leaves 54 = .ok (.iload_n 1, 1) := by decide +kernel
theorem dX12_leaves_55 : decode cX12_leaves 55 = .ok (.if_icmp .ne (-39), 3) := by decide +kernel
theorem dX12_leaves_58 : decode cX12_leaves 58 = .ok (.aload_n 0, 1) := by decide +kernel
theorem dX12_leaves_59 : decode cX12_leaves 59 = .ok (.dup, 1) := by decide +kernel
theorem dX12_leaves_60 : decode cX12_leaves 60 = .ok (.getfield 288, 3) := by decide +kernel
theorem dX12_leaves_63 : decode cX12_leaves 63 = .ok (.iconst 1, 1) := by decide +kernel
theorem dX12_leaves_64 : decode cX12_leaves 64 = .ok (.iadd, 1) := by decide +kernel
theorem dX12_leaves_65 : decode cX12_leaves 65 = .ok (.putfield 288, 3) := by decide +kernel
theorem dX12_leaves_68 : decode cX12_leaves 68 = .ok (.return_, 1) := by decide +kernel
set_option maxHeartbeats 4000000 in
set_option maxRecDepth 100000 in
theorem kX12_leaves {l : Launch} {D : va_G} {cy : Nat → ClassId} {N : Nat} {q : Nat → Nat} {m0 : Nat → Value} {a0 : Nat → vp_A} {sz : Nat} (hN : 105 ≤ N) (hsh : SH q m0) {A88 : Nat → Int32} (h_A88 : a0 88 = (6001, .inl A88)) {A89 : Nat → Int32} (h_A89 : a0 89 = (6001, .inl A89)) {A90 : Nat → Int32} (h_A90 : a0 90 = (6001, .inl A90)) {x69_43 : Int32} (h_x69_43 : m0 6943 = .int x69_43) {x69_44 : Int32} (h_x69_44 : m0 6944 = .int x69_44) {A87 : Nat → Int32} (h_A87 : a0 87 = (6001, .inl A87)) {A91 : Nat → Int32} (h_A91 : a0 91 = (6001, .inl A91)) (F : Nat) (p1 : Int32) {X0 : Int32 × Int32 × (Nat → Int32) × (Nat → Int32)} (hs0 : fX12_leaves F A88 A89 A90 x69_43 x69_44 A87 A91 p1 = some X0) : gMv l yX12_leaves cX12_leaves 3 none ({ frames := 0, cells := 0, slots := 0, locals := 0 } : Room) D cy N q m0 a0 sz [.ref (q 69), .int p1] (fun m' a' => m' 6943 = .int X0.1 ∧ m' 6944 = .int X0.2.1 ∧ (∀ j, nel j [6943, 6944] = false → m' j = m0 j) ∧ a' 87 = (6001, .inl X0.2.2.1) ∧ a' 91 = (6001, .inl X0.2.2.2) ∧ (∀ j, nel j [87, 91] = false → a' j = a0 j)) := by
  refine g_ofv (by decide) (Nat.le_of_ble_eq_true rfl) ?_
  intro p e s M args below meth c hx hb hr hG hown hin hlocks hml hW hS ls hl
  unfold fX12_leaves at hs0
  have hoff : ∀ j, nel j [6943, 6944] = false → m0 j = m0 j := off0
  have hoffa : ∀ j, nel j [87, 91] = false → a0 j = a0 j := off0
  refine lv_aload_n hx hb dX12_leaves_0 rfl (lv_at hl 0 rfl) ?_
  refine gf12_37 hx hb hG hown hW (o := 69) (ltN hN 69 rfl) gk69 (v := .ref (q 88)) (sh69_37 hsh) gx185 dX12_leaves_1 ?_
  refine lv_iload_n hx hb dX12_leaves_4 rfl (lv_at hl 1 rfl) ?_
  obtain ⟨hi1, hs0⟩ := oif hs0
  refine g_iald hx hb hW (o := 88) (ltN hN 88 rfl) gk88 ((hoffa 88 rfl).trans h_A88) (vin hi1) dX12_leaves_5 ?_
  refine lv_aload_n hx hb dX12_leaves_6 rfl (lv_at hl 0 rfl) ?_
  refine gf12_38 hx hb hG hown hW (o := 69) (ltN hN 69 rfl) gk69 (v := .ref (q 89)) (sh69_38 hsh) gx186 dX12_leaves_7 ?_
  refine lv_iload_n hx hb dX12_leaves_10 rfl (lv_at hl 1 rfl) ?_
  obtain ⟨hi2, hs0⟩ := oif hs0
  refine g_iald hx hb hW (o := 89) (ltN hN 89 rfl) gk89 ((hoffa 89 rfl).trans h_A89) (vin hi2) dX12_leaves_11 ?_
  refine lv_icmp_eq (tgt := 16) hx hb dX12_leaves_12 (by decide) (fun c3 => ?_) (fun c3 => ?_)
  · rw [if_pos c3] at hs0
    obtain ⟨r4, hg4, hs0⟩ := obind hs0
    have hE1_58 : ∀ (t4_58 : Int32 × (Nat → Int32) × (Nat → Int32)) (hr4 : t4_58 = r4) (m : Nat → Value) (a : Nat → vp_A) (H : Heap) (locs : List Loc) (w_x69_43 : m 6943 = .int t4_58.1) (w_x69_44 : m 6944 = .int x69_44) (hoff : ∀ j, nel j [6943, 6944] = false → m j = m0 j) (hsh : SH q m) (w_A87 : a 87 = (6001, .inl t4_58.2.1)) (w_A91 : a 91 = (6001, .inl t4_58.2.2)) (hoffa : ∀ j, nel j [87, 91] = false → a j = a0 j) (ls : Array Slot) (hl : lv_has ls 3 [(0, .ref (q 69))]) (hW : GW D cy (gA N q s.heap.size) N q m a s H) (hS : va_S (gA N q s.heap.size) s.heap H locs), W p l e ({ frames := 0, cells := 0, slots := 0, locals := 0 } : Room) s M args below meth c H locs 0 0 (MQ below (va_Qv (fun (u : (Nat → Value) × (Nat → vp_A)) => u.1 6943 = .int X0.1 ∧ u.1 6944 = .int X0.2.1 ∧ (∀ j, nel j [6943, 6944] = false → u.1 j = m0 j) ∧ u.2 87 = (6001, .inl X0.2.2.1) ∧ u.2 91 = (6001, .inl X0.2.2.2) ∧ (∀ j, nel j [87, 91] = false → u.2 j = a0 j)) (gB D cy N q s.heap.size) (gA N q s.heap.size)) args s 0 0 (gA N q s.heap.size)) (F0 M 58 ls []) := by
      intro t4_58 hr4 m a H locs w_x69_43 w_x69_44 hoff hsh w_A87 w_A91 hoffa ls hl hW hS
      subst hr4
      refine lv_aload_n hx hb dX12_leaves_58 rfl (lv_at hl 0 rfl) ?_
      refine lv_dup hx hb dX12_leaves_59 rfl ?_
      refine gf12_44 hx hb hG hown hW (o := 69) (ltN hN 69 rfl) gk69 (v := .int x69_44) w_x69_44 gx804 dX12_leaves_60 ?_
      refine lv_iconst (v := 1) hx hb dX12_leaves_63 (by decide) ?_
      refine lv_iadd hx hb dX12_leaves_64 ?_
      refine gp12_44 hx hb hG hown hW hS (o := 69) (ltN hN 69 rfl) gk69 (v := (x69_44 + 1)) gx804 dX12_leaves_65 (fun m12 H locs hm12 ho12 hW hS => ?_)
      have ho12 := off1 ho12
      have w_x69_43 : m12 6943 = .int t4_58.1 := (ho12 6943 rfl).trans w_x69_43
      have w_x69_44 : m12 6944 = .int (x69_44 + 1) := hm12
      have hoff := offm hoff ho12 (by decide +kernel)
      have hsh := SH.off hsh ho12 (by decide +kernel)
      have hs0 := Option.some.inj hs0
      subst hs0
      exact W.vret hx hb hr (fun t ht hw => ⟨⟨(m12, a), rfl, ⟨w_x69_43, w_x69_44, hoff, w_A87, w_A91, hoffa⟩, g_end hW ht hw⟩, hS.F ht⟩) hS.2.2 dX12_leaves_68 hlocks
    have hL1 : ∀ (n : Nat) (x69_43k4 : Int32) (A87k4 : Nat → Int32) (A91k4 : Nat → Int32) (m : Nat → Value) (a : Nat → vp_A) (H : Heap) (locs : List Loc) (w_x69_43 : m 6943 = .int x69_43k4) (w_x69_44 : m 6944 = .int x69_44) (hoff : ∀ j, nel j [6943, 6944] = false → m j = m0 j) (hsh : SH q m) (w_A87 : a 87 = (6001, .inl A87k4)) (w_A91 : a 91 = (6001, .inl A91k4)) (hoffa : ∀ j, nel j [87, 91] = false → a j = a0 j) (ls : Array Slot) (hl : lv_has ls 3 [(0, .ref (q 69)), (1, .int p1)]) (hg4 : gloop (fun u4 : (Int32 × (Nat → Int32) × (Nat → Int32)) => fX12_leaves_S16 F A88 A89 A90 p1 x69_44 u4.1 u4.2.1 u4.2.2) n (x69_43k4, A87k4, A91k4) = some r4) (hW : GW D cy (gA N q s.heap.size) N q m a s H) (hS : va_S (gA N q s.heap.size) s.heap H locs), W p l e ({ frames := 0, cells := 0, slots := 0, locals := 0 } : Room) s M args below meth c H locs 0 0 (MQ below (va_Qv (fun (u : (Nat → Value) × (Nat → vp_A)) => u.1 6943 = .int X0.1 ∧ u.1 6944 = .int X0.2.1 ∧ (∀ j, nel j [6943, 6944] = false → u.1 j = m0 j) ∧ u.2 87 = (6001, .inl X0.2.2.1) ∧ u.2 91 = (6001, .inl X0.2.2.2) ∧ (∀ j, nel j [87, 91] = false → u.2 j = a0 j)) (gB D cy N q s.heap.size) (gA N q s.heap.size)) args s 0 0 (gA N q s.heap.size)) (F0 M 16 ls []) := by
      intro n
      induction n with
      | zero => intro x69_43k4 A87k4 A91k4 m a H locs w_x69_43 w_x69_44 hoff hsh w_A87 w_A91 hoffa ls hl hg4 hW hS; exact (gl_zero hg4).elim
      | succ n ih1 =>
        intro x69_43k4 A87k4 A91k4 m a H locs w_x69_43 w_x69_44 hoff hsh w_A87 w_A91 hoffa ls hl hg4 hW hS
        obtain ⟨X1, hs1, hXl1, hXr1⟩ := gl_succ hg4
        have hs1 : fX12_leaves_S16 F A88 A89 A90 p1 x69_44 x69_43k4 A87k4 A91k4 = some X1 := hs1
        unfold fX12_leaves_S16 at hs1
        refine lv_aload_n hx hb dX12_leaves_16 rfl (lv_at hl 0 rfl) ?_
        refine lv_dup hx hb dX12_leaves_17 rfl ?_
        refine gf12_43 hx hb hG hown hW (o := 69) (ltN hN 69 rfl) gk69 (v := .int x69_43k4) w_x69_43 gx806 dX12_leaves_18 ?_
        refine lv_iconst (v := 1) hx hb dX12_leaves_21 (by decide) ?_
        refine lv_isub hx hb dX12_leaves_22 ?_
        refine gp12_43 hx hb hG hown hW hS (o := 69) (ltN hN 69 rfl) gk69 (v := (x69_43k4 - 1)) gx806 dX12_leaves_23 (fun m13 H locs hm13 ho13 hW hS => ?_)
        have ho13 := off1 ho13
        have w_x69_43 : m13 6943 = .int (x69_43k4 - 1) := hm13
        have w_x69_44 : m13 6944 = .int x69_44 := (ho13 6944 rfl).trans w_x69_44
        have hoff := offm hoff ho13 (by decide +kernel)
        have hsh := SH.off hsh ho13 (by decide +kernel)
        refine lv_aload_n hx hb dX12_leaves_26 rfl (lv_at hl 0 rfl) ?_
        refine gf12_39 hx hb hG hown hW (o := 69) (ltN hN 69 rfl) gk69 (v := .ref (q 90)) (sh69_39 hsh) gx187 dX12_leaves_27 ?_
        refine lv_aload_n hx hb dX12_leaves_30 rfl (lv_at hl 0 rfl) ?_
        refine gf12_43 hx hb hG hown hW (o := 69) (ltN hN 69 rfl) gk69 (v := .int (x69_43k4 - 1)) w_x69_43 gx806 dX12_leaves_31 ?_
        obtain ⟨hi14, hs1⟩ := oif hs1
        refine g_iald hx hb hW (o := 90) (ltN hN 90 rfl) gk90 ((hoffa 90 rfl).trans h_A90) (vin hi14) dX12_leaves_34 ?_
        refine lv_istore_n (lv' := [(2, .int (A90 (x69_43k4 - 1).toNatClampNeg)), (0, .ref (q 69)), (1, .int p1)]) hx hb dX12_leaves_35 rfl hl (by decide) rfl (fun ls hl => ?_)
        refine lv_aload_n hx hb dX12_leaves_36 rfl (lv_at hl 1 rfl) ?_
        refine gf12_40 hx hb hG hown hW (o := 69) (ltN hN 69 rfl) gk69 (v := .ref (q 91)) (sh69_40 hsh) gx189 dX12_leaves_37 ?_
        refine lv_iload_n hx hb dX12_leaves_40 rfl (lv_at hl 0 rfl) ?_
        refine lv_iconst (v := 0) hx hb dX12_leaves_41 (by decide) ?_
        obtain ⟨hi15, hs1⟩ := oif hs1
        refine g_zast hx hb hW hS (o := 91) (ltN hN 91 rfl) gk91 w_A91 (vin hi15) rfl dX12_leaves_42 (fun a16 H locs ha16 ho16 hW hS => ?_)
        have ho16 := off1 ho16
        have w_A87 : a16 87 = (6001, .inl A87k4) := (ho16 87 rfl).trans w_A87
        have w_A91 : a16 91 = (6001, .inl (upd A91k4 (A90 (x69_43k4 - 1).toNatClampNeg).toNatClampNeg 0)) := ha16
        have hoffa := offm hoffa ho16 (by decide +kernel)
        refine lv_aload_n hx hb dX12_leaves_43 rfl (lv_at hl 1 rfl) ?_
        refine gf12_36 hx hb hG hown hW (o := 69) (ltN hN 69 rfl) gk69 (v := .ref (q 87)) (sh69_36 hsh) gx184 dX12_leaves_44 ?_
        refine lv_iload_n hx hb dX12_leaves_47 rfl (lv_at hl 0 rfl) ?_
        refine lv_aload_n hx hb dX12_leaves_48 rfl (lv_at hl 1 rfl) ?_
        refine gf12_44 hx hb hG hown hW (o := 69) (ltN hN 69 rfl) gk69 (v := .int x69_44) w_x69_44 gx804 dX12_leaves_49 ?_
        obtain ⟨hi17, hs1⟩ := oif hs1
        refine g_iast hx hb hW hS (o := 87) (ltN hN 87 rfl) gk87 w_A87 (vin hi17) dX12_leaves_52 (fun a18 H locs ha18 ho18 hW hS => ?_)
        have ho18 := off1 ho18
        have w_A87 : a18 87 = (6001, .inl (upd A87k4 (A90 (x69_43k4 - 1).toNatClampNeg).toNatClampNeg x69_44)) := ha18
        have w_A91 : a18 91 = (6001, .inl (upd A91k4 (A90 (x69_43k4 - 1).toNatClampNeg).toNatClampNeg 0)) := (ho18 91 rfl).trans w_A91
        have hoffa := offm hoffa ho18 (by decide +kernel)
        refine lv_iload_n hx hb dX12_leaves_53 rfl (lv_at hl 0 rfl) ?_
        refine lv_iload_n hx hb dX12_leaves_54 rfl (lv_at hl 2 rfl) ?_
        refine lv_icmp_ne (tgt := 16) hx hb dX12_leaves_55 (by decide) (fun c19 => ?_) (fun c19 => ?_)
        · rw [if_neg c19] at hs1
          exact ih1 (x69_43k4 - 1) (upd A87k4 (A90 (x69_43k4 - 1).toNatClampNeg).toNatClampNeg x69_44) (upd A91k4 (A90 (x69_43k4 - 1).toNatClampNeg).toNatClampNeg 0) m13 a18 _ _ w_x69_43 w_x69_44 hoff hsh w_A87 w_A91 hoffa ls (lv_sub hl [1, 2] rfl) (hXr1 _ (Option.some.inj hs1).symm) hW hS
        · rw [if_pos c19] at hs1
          exact hE1_58 (x69_43k4 - 1, upd A87k4 (A90 (x69_43k4 - 1).toNatClampNeg).toNatClampNeg x69_44, upd A91k4 (A90 (x69_43k4 - 1).toNatClampNeg).toNatClampNeg 0) (hXl1 _ (Option.some.inj hs1).symm) m13 a18 _ _ w_x69_43 w_x69_44 hoff hsh w_A87 w_A91 hoffa ls (lv_sub hl [1] rfl) hW hS
    exact hL1 F x69_43 A87 A91 m0 a0 _ _ h_x69_43 h_x69_44 hoff hsh h_A87 h_A91 hoffa ls (lv_sub hl [0, 1] rfl) hg4 hW hS
  · rw [if_neg c3] at hs0
    have hs0 := Option.some.inj hs0
    subst hs0
    exact W.vret hx hb hr (fun t ht hw => ⟨⟨(m0, a0), rfl, ⟨h_x69_43, h_x69_44, hoff, h_A87, h_A91, hoffa⟩, g_end hW ht hw⟩, hS.F ht⟩) hS.2.2 dX12_leaves_15 hlocks
-- HealLinkModel.walks (I)V
def fX12_walks_J186 (F : Nat) (A81 : Nat → Int32) (A82 : Nat → Int32) (v2j18 : Int32) (x69_43j18 : Int32) (x69_44j18 : Int32) (x69_45j18 : Int32) (A87j18 : Nat → Int32) (A88j18 : Nat → Int32) (A89j18 : Nat → Int32) (A90j18 : Nat → Int32) (A91j18 : Nat → Int32) (A92j18 : Nat → Int32) (A93j18 : Nat → Int32) : Option ((Int32 × Int32 × Int32 × (Nat → Int32) × (Nat → Int32) × (Nat → Int32) × (Nat → Int32) × (Nat → Int32) × (Nat → Int32) × (Nat → Int32)) ⊕ (Int32 × Int32 × Int32 × Int32 × (Nat → Int32) × (Nat → Int32) × (Nat → Int32) × (Nat → Int32) × (Nat → Int32) × (Nat → Int32) × (Nat → Int32))) := some (Sum.inr (v2j18, x69_43j18, x69_44j18, x69_45j18, A87j18, A88j18, A89j18, A90j18, A91j18, A92j18, A93j18))
def fX12_walks_S14 (F : Nat) (A81 : Nat → Int32) (A82 : Nat → Int32) (v2 : Int32) (x69_43 : Int32) (x69_44 : Int32) (x69_45 : Int32) (A87 : Nat → Int32) (A88 : Nat → Int32) (A89 : Nat → Int32) (A90 : Nat → Int32) (A91 : Nat → Int32) (A92 : Nat → Int32) (A93 : Nat → Int32) : Option ((Int32 × Int32 × Int32 × (Nat → Int32) × (Nat → Int32) × (Nat → Int32) × (Nat → Int32) × (Nat → Int32) × (Nat → Int32) × (Nat → Int32)) ⊕ (Int32 × Int32 × Int32 × Int32 × (Nat → Int32) × (Nat → Int32) × (Nat → Int32) × (Nat → Int32) × (Nat → Int32) × (Nat → Int32) × (Nat → Int32))) := (if v2 < 0 then some (Sum.inl (x69_43, x69_44, x69_45, A87, A88, A89, A90, A91, A92, A93)) else (if inb v2 6001 = true then (if inb (A92 v2.toNatClampNeg) 6001 = true then (if inb ((A92 v2.toNatClampNeg) + 1) 6002 = true then (if (A93 (A92 v2.toNatClampNeg).toNatClampNeg) = (A81 ((A92 v2.toNatClampNeg) + 1).toNatClampNeg) then ((fX12_leaves F A88 A89 A90 x69_43 x69_44 A87 A91 (A92 v2.toNatClampNeg)).bind (fun r28 => (if (v2 + (-1)) < 0 then some (Sum.inr (v2 + (-1), r28.1, r28.2.1, x69_45, r28.2.2.1, A88, A89, A90, r28.2.2.2, A92, A93)) else (if inb (A92 v2.toNatClampNeg) 6001 = true then (if inb (v2 + (-1)) 6001 = true then (if inb (A92 (v2 + (-1)).toNatClampNeg) 6001 = true then (if (A88 (A92 (v2 + (-1)).toNatClampNeg).toNatClampNeg) ≤ (A88 (A92 v2.toNatClampNeg).toNatClampNeg) then some (Sum.inr (v2 + (-1), r28.1, r28.2.1, x69_45, r28.2.2.1, A88, A89, A90, r28.2.2.2, A92, A93)) else (if inb (v2 + (-1)) 6001 = true then (if inb (A92 v2.toNatClampNeg) 6001 = true then (if inb (A92 (v2 + (-1)).toNatClampNeg) 6001 = true then some (Sum.inr (v2 + (-1), r28.1, r28.2.1, x69_45, r28.2.2.1, upd A88 (A92 (v2 + (-1)).toNatClampNeg).toNatClampNeg (A88 (A92 v2.toNatClampNeg).toNatClampNeg), A89, A90, r28.2.2.2, A92, A93)) else none) else none) else none)) else none) else none) else none)))) else (if inb (A92 v2.toNatClampNeg) 6001 = true then (if inb (A93 (A92 v2.toNatClampNeg).toNatClampNeg) 84000 = true then (if inb (A92 v2.toNatClampNeg) 6001 = true then (if inb (A92 v2.toNatClampNeg) 6001 = true then (if inb (A82 (A93 (A92 v2.toNatClampNeg).toNatClampNeg).toNatClampNeg) 6001 = true then (if 0 ≤ (A89 (A82 (A93 (A92 v2.toNatClampNeg).toNatClampNeg).toNatClampNeg).toNatClampNeg) then (if inb (A82 (A93 (A92 v2.toNatClampNeg).toNatClampNeg).toNatClampNeg) 6001 = true then (if (A91 (A82 (A93 (A92 v2.toNatClampNeg).toNatClampNeg).toNatClampNeg).toNatClampNeg) = 0 then fX12_walks_J186 F A81 A82 v2 x69_43 x69_44 x69_45 A87 A88 A89 A90 A91 A92 (upd A93 (A92 v2.toNatClampNeg).toNatClampNeg ((A93 (A92 v2.toNatClampNeg).toNatClampNeg) + 1)) else (if inb (A82 (A93 (A92 v2.toNatClampNeg).toNatClampNeg).toNatClampNeg) 6001 = true then (if inb (A92 v2.toNatClampNeg) 6001 = true then (if (A88 (A92 v2.toNatClampNeg).toNatClampNeg) ≤ (A89 (A82 (A93 (A92 v2.toNatClampNeg).toNatClampNeg).toNatClampNeg).toNatClampNeg) then fX12_walks_J186 F A81 A82 v2 x69_43 x69_44 x69_45 A87 A88 A89 A90 A91 A92 (upd A93 (A92 v2.toNatClampNeg).toNatClampNeg ((A93 (A92 v2.toNatClampNeg).toNatClampNeg) + 1)) else (if inb (A82 (A93 (A92 v2.toNatClampNeg).toNatClampNeg).toNatClampNeg) 6001 = true then (if inb (A92 v2.toNatClampNeg) 6001 = true then fX12_walks_J186 F A81 A82 v2 x69_43 x69_44 x69_45 A87 (upd A88 (A92 v2.toNatClampNeg).toNatClampNeg (A89 (A82 (A93 (A92 v2.toNatClampNeg).toNatClampNeg).toNatClampNeg).toNatClampNeg)) A89 A90 A91 A92 (upd A93 (A92 v2.toNatClampNeg).toNatClampNeg ((A93 (A92 v2.toNatClampNeg).toNatClampNeg) + 1)) else none) else none)) else none) else none)) else none) else (if inb (v2 + 1) 6001 = true then ((fX12_enters A81 x69_43 x69_45 A88 A89 A90 A91 (upd A93 (A92 v2.toNatClampNeg).toNatClampNeg ((A93 (A92 v2.toNatClampNeg).toNatClampNeg) + 1)) (A82 (A93 (A92 v2.toNatClampNeg).toNatClampNeg).toNatClampNeg)).bind (fun r27 => fX12_walks_J186 F A81 A82 (v2 + 1) r27.1 x69_44 r27.2.1 A87 r27.2.2.1 r27.2.2.2.1 r27.2.2.2.2.1 r27.2.2.2.2.2.1 (upd A92 (v2 + 1).toNatClampNeg (A82 (A93 (A92 v2.toNatClampNeg).toNatClampNeg).toNatClampNeg)) r27.2.2.2.2.2.2)) else none)) else none) else none) else none) else none) else none)) else none) else none) else none))
def fX12_walks (F : Nat) (A81 : Nat → Int32) (A82 : Nat → Int32) (x69_43 : Int32) (x69_44 : Int32) (x69_45 : Int32) (A87 : Nat → Int32) (A88 : Nat → Int32) (A89 : Nat → Int32) (A90 : Nat → Int32) (A91 : Nat → Int32) (A92 : Nat → Int32) (A93 : Nat → Int32) (p1 : Int32) : Option (Int32 × Int32 × Int32 × (Nat → Int32) × (Nat → Int32) × (Nat → Int32) × (Nat → Int32) × (Nat → Int32) × (Nat → Int32) × (Nat → Int32)) := ((fX12_enters A81 x69_43 x69_45 A88 A89 A90 A91 A93 p1).bind (fun r2 => (gloop (fun u3 : (Int32 × Int32 × Int32 × Int32 × (Nat → Int32) × (Nat → Int32) × (Nat → Int32) × (Nat → Int32) × (Nat → Int32) × (Nat → Int32) × (Nat → Int32)) => fX12_walks_S14 F A81 A82 u3.1 u3.2.1 u3.2.2.1 u3.2.2.2.1 u3.2.2.2.2.1 u3.2.2.2.2.2.1 u3.2.2.2.2.2.2.1 u3.2.2.2.2.2.2.2.1 u3.2.2.2.2.2.2.2.2.1 u3.2.2.2.2.2.2.2.2.2.1 u3.2.2.2.2.2.2.2.2.2.2) F (0, r2.1, x69_44, r2.2.1, A87, r2.2.2.1, r2.2.2.2.1, r2.2.2.2.2.1, r2.2.2.2.2.2.1, upd A92 (0 : Int32).toNatClampNeg p1, r2.2.2.2.2.2.2)).bind (fun t3_189 => some (t3_189.1, t3_189.2.1, t3_189.2.2.1, t3_189.2.2.2.1, t3_189.2.2.2.2.1, t3_189.2.2.2.2.2.1, t3_189.2.2.2.2.2.2.1, t3_189.2.2.2.2.2.2.2.1, t3_189.2.2.2.2.2.2.2.2.1, t3_189.2.2.2.2.2.2.2.2.2))))
theorem dX12_walks_0 : decode cX12_walks 0 = .ok (.iconst 0, 1) := by decide +kernel
theorem dX12_walks_1 : decode cX12_walks 1 = .ok (.istore_n 2, 1) := by decide +kernel
theorem dX12_walks_2 : decode cX12_walks 2 = .ok (.aload_n 0, 1) := by decide +kernel
theorem dX12_walks_3 : decode cX12_walks 3 = .ok (.getfield 92, 3) := by decide +kernel
theorem dX12_walks_6 : decode cX12_walks 6 = .ok (.iconst 0, 1) := by decide +kernel
theorem dX12_walks_7 : decode cX12_walks 7 = .ok (.iload_n 1, 1) := by decide +kernel
theorem dX12_walks_8 : decode cX12_walks 8 = .ok (.iastore, 1) := by decide +kernel
theorem dX12_walks_9 : decode cX12_walks 9 = .ok (.aload_n 0, 1) := by decide +kernel
theorem dX12_walks_10 : decode cX12_walks 10 = .ok (.iload_n 1, 1) := by decide +kernel
theorem dX12_walks_11 : decode cX12_walks 11 = .ok (.invokevirtual 291, 3) := by decide +kernel
theorem dX12_walks_14 : decode cX12_walks 14 = .ok (.iload_n 2, 1) := by decide +kernel
theorem dX12_walks_15 : decode cX12_walks 15 = .ok (.ifCond .lt 174, 3) := by decide +kernel
theorem dX12_walks_18 : decode cX12_walks 18 = .ok (.aload_n 0, 1) := by decide +kernel
theorem dX12_walks_19 : decode cX12_walks 19 = .ok (.getfield 92, 3) := by decide +kernel
theorem dX12_walks_22 : decode cX12_walks 22 = .ok (.iload_n 2, 1) := by decide +kernel
theorem dX12_walks_23 : decode cX12_walks 23 = .ok (.iaload, 1) := by decide +kernel
theorem dX12_walks_24 : decode cX12_walks 24 = .ok (.istore_n 3, 1) := by decide +kernel
theorem dX12_walks_25 : decode cX12_walks 25 = .ok (.aload_n 0, 1) := by decide +kernel
theorem dX12_walks_26 : decode cX12_walks 26 = .ok (.getfield 95, 3) := by decide +kernel
theorem dX12_walks_29 : decode cX12_walks 29 = .ok (.iload_n 3, 1) := by decide +kernel
theorem dX12_walks_30 : decode cX12_walks 30 = .ok (.iaload, 1) := by decide +kernel
theorem dX12_walks_31 : decode cX12_walks 31 = .ok (.aload_n 0, 1) := by decide +kernel
theorem dX12_walks_32 : decode cX12_walks 32 = .ok (.getfield 57, 3) := by decide +kernel
theorem dX12_walks_35 : decode cX12_walks 35 = .ok (.iload_n 3, 1) := by decide +kernel
theorem dX12_walks_36 : decode cX12_walks 36 = .ok (.iconst 1, 1) := by decide +kernel
theorem dX12_walks_37 : decode cX12_walks 37 = .ok (.iadd, 1) := by decide +kernel
theorem dX12_walks_38 : decode cX12_walks 38 = .ok (.iaload, 1) := by decide +kernel
theorem dX12_walks_39 : decode cX12_walks 39 = .ok (.if_icmp .ne 55, 3) := by decide +kernel
theorem dX12_walks_42 : decode cX12_walks 42 = .ok (.aload_n 0, 1) := by decide +kernel
theorem dX12_walks_43 : decode cX12_walks 43 = .ok (.iload_n 3, 1) := by decide +kernel
theorem dX12_walks_44 : decode cX12_walks 44 = .ok (.invokevirtual 294, 3) := by decide +kernel
theorem dX12_walks_47 : decode cX12_walks 47 = .ok (.iinc 2 (-1), 3) := by decide +kernel
theorem dX12_walks_50 : decode cX12_walks 50 = .ok (.iload_n 2, 1) := by decide +kernel
theorem dX12_walks_51 : decode cX12_walks 51 = .ok (.ifCond .lt (-37), 3) := by decide +kernel
theorem dX12_walks_54 : decode cX12_walks 54 = .ok (.aload_n 0, 1) := by decide +kernel
theorem dX12_walks_55 : decode cX12_walks 55 = .ok (.getfield 79, 3) := by decide +kernel
theorem dX12_walks_58 : decode cX12_walks 58 = .ok (.iload_n 3, 1) := by decide +kernel
theorem dX12_walks_59 : decode cX12_walks 59 = .ok (.iaload, 1) := by decide +kernel
theorem dX12_walks_60 : decode cX12_walks 60 = .ok (.aload_n 0, 1) := by decide +kernel
theorem dX12_walks_61 : decode cX12_walks 61 = .ok (.getfield 79, 3) := by decide +kernel
theorem dX12_walks_64 : decode cX12_walks 64 = .ok (.aload_n 0, 1) := by decide +kernel
theorem dX12_walks_65 : decode cX12_walks 65 = .ok (.getfield 92, 3) := by decide +kernel
theorem dX12_walks_68 : decode cX12_walks 68 = .ok (.iload_n 2, 1) := by decide +kernel
theorem dX12_walks_69 : decode cX12_walks 69 = .ok (.iaload, 1) := by decide +kernel
theorem dX12_walks_70 : decode cX12_walks 70 = .ok (.iaload, 1) := by decide +kernel
theorem dX12_walks_71 : decode cX12_walks 71 = .ok (.if_icmp .ge (-57), 3) := by decide +kernel
theorem dX12_walks_74 : decode cX12_walks 74 = .ok (.aload_n 0, 1) := by decide +kernel
theorem dX12_walks_75 : decode cX12_walks 75 = .ok (.getfield 79, 3) := by decide +kernel
theorem dX12_walks_78 : decode cX12_walks 78 = .ok (.aload_n 0, 1) := by decide +kernel
theorem dX12_walks_79 : decode cX12_walks 79 = .ok (.getfield 92, 3) := by decide +kernel
theorem dX12_walks_82 : decode cX12_walks 82 = .ok (.iload_n 2, 1) := by decide +kernel
theorem dX12_walks_83 : decode cX12_walks 83 = .ok (.iaload, 1) := by decide +kernel
theorem dX12_walks_84 : decode cX12_walks 84 = .ok (.aload_n 0, 1) := by decide +kernel
theorem dX12_walks_85 : decode cX12_walks 85 = .ok (.getfield 79, 3) := by decide +kernel
theorem dX12_walks_88 : decode cX12_walks 88 = .ok (.iload_n 3, 1) := by decide +kernel
theorem dX12_walks_89 : decode cX12_walks 89 = .ok (.iaload, 1) := by decide +kernel
theorem dX12_walks_90 : decode cX12_walks 90 = .ok (.iastore, 1) := by decide +kernel
theorem dX12_walks_91 : decode cX12_walks 91 = .ok (.goto (-77), 3) := by decide +kernel
theorem dX12_walks_94 : decode cX12_walks 94 = .ok (.aload_n 0, 1) := by decide +kernel
theorem dX12_walks_95 : decode cX12_walks 95 = .ok (.getfield 61, 3) := by decide +kernel
theorem dX12_walks_98 : decode cX12_walks 98 = .ok (.aload_n 0, 1) := by decide +kernel
theorem dX12_walks_99 : decode cX12_walks 99 = .ok (.getfield 95, 3) := by decide +kernel
theorem dX12_walks_102 : decode cX12_walks 102 = .ok (.iload_n 3, 1) := by decide +kernel
theorem dX12_walks_103 : decode cX12_walks 103 = .ok (.iaload, 1) := by decide +kernel
theorem dX12_walks_104 : decode cX12_walks 104 = .ok (.iaload, 1) := by decide +kernel
theorem dX12_walks_105 : decode cX12_walks 105 = .ok (.istore 4, 2) := by decide +kernel
theorem dX12_walks_107 : decode cX12_walks 107 = .ok (.aload_n 0, 1) := by decide +kernel
theorem dX12_walks_108 : decode cX12_walks 108 = .ok (.getfield 95, 3) := by decide +kernel
theorem dX12_walks_111 : decode cX12_walks 111 = .ok (.iload_n 3, 1) := by decide +kernel
theorem dX12_walks_112 : decode cX12_walks 112 = .ok (.dup2, 1) := by decide +kernel
theorem dX12_walks_113 : decode cX12_walks 113 = .ok (.iaload, 1) := by decide +kernel
theorem dX12_walks_114 : decode cX12_walks 114 = .ok (.iconst 1, 1) := by decide +kernel
theorem dX12_walks_115 : decode cX12_walks 115 = .ok (.iadd, 1) := by decide +kernel
theorem dX12_walks_116 : decode cX12_walks 116 = .ok (.iastore, 1) := by decide +kernel
theorem dX12_walks_117 : decode cX12_walks 117 = .ok (.aload_n 0, 1) := by decide +kernel
theorem dX12_walks_118 : decode cX12_walks 118 = .ok (.getfield 82, 3) := by decide +kernel
theorem dX12_walks_121 : decode cX12_walks 121 = .ok (.iload 4, 2) := by decide +kernel
theorem dX12_walks_123 : decode cX12_walks 123 = .ok (.iaload, 1) := by decide +kernel
theorem dX12_walks_124 : decode cX12_walks 124 = .ok (.ifCond .ge 23, 3) := by decide +kernel
theorem dX12_walks_127 : decode cX12_walks 127 = .ok (.iinc 2 1, 3) := by decide +kernel
theorem dX12_walks_130 : decode cX12_walks 130 = .ok (.aload_n 0, 1) := by decide +kernel
theorem dX12_walks_131 : decode cX12_walks 131 = .ok (.getfield 92, 3) := by decide +kernel
theorem dX12_walks_134 : decode cX12_walks 134 = .ok (.iload_n 2, 1) := by decide +kernel
theorem dX12_walks_135 : decode cX12_walks 135 = .ok (.iload 4, 2) := by decide +kernel
theorem dX12_walks_137 : decode cX12_walks 137 = .ok (.iastore, 1) := by decide +kernel
theorem dX12_walks_138 : decode cX12_walks 138 = .ok (.aload_n 0, 1) := by decide +kernel
theorem dX12_walks_139 : decode cX12_walks 139 = .ok (.iload 4, 2) := by decide +kernel
theorem dX12_walks_141 : decode cX12_walks 141 = .ok (.invokevirtual 291, 3) := by decide +kernel
theorem dX12_walks_144 : decode cX12_walks 144 = .ok (.goto 42, 3) := by decide +kernel
theorem dX12_walks_147 : decode cX12_walks 147 = .ok (.aload_n 0, 1) := by decide +kernel
theorem dX12_walks_148 : decode cX12_walks 148 = .ok (.getfield 88, 3) := by decide +kernel
theorem dX12_walks_151 : decode cX12_walks 151 = .ok (.iload 4, 2) := by decide +kernel
theorem dX12_walks_153 : decode cX12_walks 153 = .ok (.baload, 1) := by decide +kernel
theorem dX12_walks_154 : decode cX12_walks 154 = .ok (.ifCond .eq 32, 3) := by decide +kernel
theorem dX12_walks_157 : decode cX12_walks 157 = .ok (.aload_n 0, 1) := by decide +kernel
theorem dX12_walks_158 : decode cX12_walks 158 = .ok (.getfield 82, 3) := by decide +kernel
theorem dX12_walks_161 : decode cX12_walks 161 = .ok (.iload 4, 2) := by decide +kernel
theorem dX12_walks_163 : decode cX12_walks 163 = .ok (.iaload, 1) := by decide +kernel
theorem dX12_walks_164 : decode cX12_walks 164 = .ok (.aload_n 0, 1) := by decide +kernel
theorem dX12_walks_165 : decode cX12_walks 165 = .ok (.getfield 79, 3) := by decide +kernel
theorem dX12_walks_168 : decode cX12_walks 168 = .ok (.iload_n 3, 1) := by decide +kernel
theorem dX12_walks_169 : decode cX12_walks 169 = .ok (.iaload, 1) := by decide +kernel
theorem dX12_walks_170 : decode cX12_walks 170 = .ok (.if_icmp .ge 16, 3) := by decide +kernel
theorem dX12_walks_173 : decode cX12_walks 173 = .ok (.aload_n 0, 1) := by decide +kernel
theorem dX12_walks_174 : decode cX12_walks 174 = .ok (.getfield 79, 3) := by decide +kernel
theorem dX12_walks_177 : decode cX12_walks 177 = .ok (.iload_n 3, 1) := by decide +kernel
theorem dX12_walks_178 : decode cX12_walks 178 = .ok (.aload_n 0, 1) := by decide +kernel
theorem dX12_walks_179 : decode cX12_walks 179 = .ok (.getfield 82, 3) := by decide +kernel
theorem dX12_walks_182 : decode cX12_walks 182 = .ok (.iload 4, 2) := by decide +kernel
theorem dX12_walks_184 : decode cX12_walks 184 = .ok (.iaload, 1) := by decide +kernel
theorem dX12_walks_185 : decode cX12_walks 185 = .ok (.iastore, 1) := by decide +kernel
theorem dX12_walks_186 : decode cX12_walks 186 = .ok (.goto (-172), 3) := by decide +kernel
theorem dX12_walks_189 : decode cX12_walks 189 = .ok (.return_, 1) := by decide +kernel
set_option maxHeartbeats 4000000 in
set_option maxRecDepth 100000 in
theorem kX12_walks {l : Launch} {D : va_G} {cy : Nat → ClassId} {N : Nat} {q : Nat → Nat} {m0 : Nat → Value} {a0 : Nat → vp_A} {sz : Nat} (hN : 105 ≤ N) (hsh : SH q m0) {A81 : Nat → Int32} (h_A81 : a0 81 = (6002, .inl A81)) {A82 : Nat → Int32} (h_A82 : a0 82 = (84000, .inl A82)) {x69_43 : Int32} (h_x69_43 : m0 6943 = .int x69_43) {x69_44 : Int32} (h_x69_44 : m0 6944 = .int x69_44) {x69_45 : Int32} (h_x69_45 : m0 6945 = .int x69_45) {A87 : Nat → Int32} (h_A87 : a0 87 = (6001, .inl A87)) {A88 : Nat → Int32} (h_A88 : a0 88 = (6001, .inl A88)) {A89 : Nat → Int32} (h_A89 : a0 89 = (6001, .inl A89)) {A90 : Nat → Int32} (h_A90 : a0 90 = (6001, .inl A90)) {A91 : Nat → Int32} (h_A91 : a0 91 = (6001, .inl A91)) {A92 : Nat → Int32} (h_A92 : a0 92 = (6001, .inl A92)) {A93 : Nat → Int32} (h_A93 : a0 93 = (6001, .inl A93)) (F : Nat) (p1 : Int32) {X0 : Int32 × Int32 × Int32 × (Nat → Int32) × (Nat → Int32) × (Nat → Int32) × (Nat → Int32) × (Nat → Int32) × (Nat → Int32) × (Nat → Int32)} (hs0 : fX12_walks F A81 A82 x69_43 x69_44 x69_45 A87 A88 A89 A90 A91 A92 A93 p1 = some X0) : gMv l yX12_walks cX12_walks 5 none ({ frames := 1, cells := 0, slots := 0, locals := 22 } : Room) D cy N q m0 a0 sz [.ref (q 69), .int p1] (fun m' a' => m' 6943 = .int X0.1 ∧ m' 6944 = .int X0.2.1 ∧ m' 6945 = .int X0.2.2.1 ∧ (∀ j, nel j [6943, 6944, 6945] = false → m' j = m0 j) ∧ a' 87 = (6001, .inl X0.2.2.2.1) ∧ a' 88 = (6001, .inl X0.2.2.2.2.1) ∧ a' 89 = (6001, .inl X0.2.2.2.2.2.1) ∧ a' 90 = (6001, .inl X0.2.2.2.2.2.2.1) ∧ a' 91 = (6001, .inl X0.2.2.2.2.2.2.2.1) ∧ a' 92 = (6001, .inl X0.2.2.2.2.2.2.2.2.1) ∧ a' 93 = (6001, .inl X0.2.2.2.2.2.2.2.2.2) ∧ (∀ j, nel j [87, 88, 89, 90, 91, 92, 93] = false → a' j = a0 j)) := by
  refine g_ofv (by decide) (Nat.le_of_ble_eq_true rfl) ?_
  intro p e s M args below meth c hx hb hr hG hown hin hlocks hml hW hS ls hl
  unfold fX12_walks at hs0
  have hoff : ∀ j, nel j [6943, 6944, 6945] = false → m0 j = m0 j := off0
  have hoffa : ∀ j, nel j [87, 88, 89, 90, 91, 92, 93] = false → a0 j = a0 j := off0
  refine lv_iconst (v := 0) hx hb dX12_walks_0 (by decide) ?_
  refine lv_istore_n (lv' := [(2, .int 0), (0, .ref (q 69)), (1, .int p1)]) hx hb dX12_walks_1 rfl hl (by decide) rfl (fun ls hl => ?_)
  refine lv_aload_n hx hb dX12_walks_2 rfl (lv_at hl 1 rfl) ?_
  refine gf12_41 hx hb hG hown hW (o := 69) (ltN hN 69 rfl) gk69 (v := .ref (q 92)) (sh69_41 hsh) gx190 dX12_walks_3 ?_
  refine lv_iconst (v := 0) hx hb dX12_walks_6 (by decide) ?_
  refine lv_iload_n hx hb dX12_walks_7 rfl (lv_at hl 2 rfl) ?_
  refine g_iast hx hb hW hS (o := 92) (ltN hN 92 rfl) gk92 h_A92 (vin (by decide)) dX12_walks_8 (fun a1 H locs ha1 ho1 hW hS => ?_)
  have ho1 := off1 ho1
  have w_A87 : a1 87 = (6001, .inl A87) := (ho1 87 rfl).trans h_A87
  have w_A88 : a1 88 = (6001, .inl A88) := (ho1 88 rfl).trans h_A88
  have w_A89 : a1 89 = (6001, .inl A89) := (ho1 89 rfl).trans h_A89
  have w_A90 : a1 90 = (6001, .inl A90) := (ho1 90 rfl).trans h_A90
  have w_A91 : a1 91 = (6001, .inl A91) := (ho1 91 rfl).trans h_A91
  have w_A92 : a1 92 = (6001, .inl (upd A92 (0 : Int32).toNatClampNeg p1)) := ha1
  have w_A93 : a1 93 = (6001, .inl A93) := (ho1 93 rfl).trans h_A93
  have hoffa := offm hoffa ho1 (by decide +kernel)
  refine lv_aload_n hx hb dX12_walks_9 rfl (lv_at hl 1 rfl) ?_
  refine lv_iload_n hx hb dX12_walks_10 rfl (lv_at hl 2 rfl) ?_
  obtain ⟨r2, hf2, hs0⟩ := obind hs0
  refine g_Vv (n := 1) hx hb hml hown hG hW hS [.int p1] (kX12_enters hN hsh ((hoffa 81 rfl).trans h_A81) h_x69_43 h_x69_45 w_A88 w_A89 w_A90 w_A91 w_A93 p1 hf2) (ltN hN 69 rfl) gk69 (by decide) rfl rfl (gd_V gx811 gx812 gx813 gx5 gx814) rfl rfl (by decide) ⟨Nat.le_of_ble_eq_true rfl, Nat.le_of_ble_eq_true rfl⟩ rfl hl (Nat.le_of_ble_eq_true rfl) ⟨Nat.zero_le _, Nat.zero_le _⟩ dX12_walks_11 (fun m2 a2 H locs hp2 hW hS => ?_)
  obtain ⟨hp2_x69_43, hp2_x69_45, ho2, hp2_A88, hp2_A89, hp2_A90, hp2_A91, hp2_A93, hoa2⟩ := hp2
  have w_x69_43 : m2 6943 = .int r2.1 := hp2_x69_43
  have w_x69_44 : m2 6944 = .int x69_44 := (ho2 6944 rfl).trans h_x69_44
  have w_x69_45 : m2 6945 = .int r2.2.1 := hp2_x69_45
  have hoff := offm hoff ho2 (by decide +kernel)
  have hsh := SH.off hsh ho2 (by decide +kernel)
  have w_A87 : a2 87 = (6001, .inl A87) := (hoa2 87 rfl).trans w_A87
  have w_A88 : a2 88 = (6001, .inl r2.2.2.1) := hp2_A88
  have w_A89 : a2 89 = (6001, .inl r2.2.2.2.1) := hp2_A89
  have w_A90 : a2 90 = (6001, .inl r2.2.2.2.2.1) := hp2_A90
  have w_A91 : a2 91 = (6001, .inl r2.2.2.2.2.2.1) := hp2_A91
  have w_A92 : a2 92 = (6001, .inl (upd A92 (0 : Int32).toNatClampNeg p1)) := (hoa2 92 rfl).trans w_A92
  have w_A93 : a2 93 = (6001, .inl r2.2.2.2.2.2.2) := hp2_A93
  have hoffa := offm hoffa hoa2 (by decide +kernel)
  obtain ⟨r3, hg3, hs0⟩ := obind hs0
  have hE1_189 : ∀ (t3_189 : Int32 × Int32 × Int32 × (Nat → Int32) × (Nat → Int32) × (Nat → Int32) × (Nat → Int32) × (Nat → Int32) × (Nat → Int32) × (Nat → Int32)) (hr3 : t3_189 = r3) (m : Nat → Value) (a : Nat → vp_A) (H : Heap) (locs : List Loc) (w_x69_43 : m 6943 = .int t3_189.1) (w_x69_44 : m 6944 = .int t3_189.2.1) (w_x69_45 : m 6945 = .int t3_189.2.2.1) (hoff : ∀ j, nel j [6943, 6944, 6945] = false → m j = m0 j) (hsh : SH q m) (w_A87 : a 87 = (6001, .inl t3_189.2.2.2.1)) (w_A88 : a 88 = (6001, .inl t3_189.2.2.2.2.1)) (w_A89 : a 89 = (6001, .inl t3_189.2.2.2.2.2.1)) (w_A90 : a 90 = (6001, .inl t3_189.2.2.2.2.2.2.1)) (w_A91 : a 91 = (6001, .inl t3_189.2.2.2.2.2.2.2.1)) (w_A92 : a 92 = (6001, .inl t3_189.2.2.2.2.2.2.2.2.1)) (w_A93 : a 93 = (6001, .inl t3_189.2.2.2.2.2.2.2.2.2)) (hoffa : ∀ j, nel j [87, 88, 89, 90, 91, 92, 93] = false → a j = a0 j) (ls : Array Slot) (hl : lv_has ls 5 []) (hW : GW D cy (gA N q s.heap.size) N q m a s H) (hS : va_S (gA N q s.heap.size) s.heap H locs), W p l e ({ frames := 1, cells := 0, slots := 0, locals := 22 } : Room) s M args below meth c H locs 0 0 (MQ below (va_Qv (fun (u : (Nat → Value) × (Nat → vp_A)) => u.1 6943 = .int X0.1 ∧ u.1 6944 = .int X0.2.1 ∧ u.1 6945 = .int X0.2.2.1 ∧ (∀ j, nel j [6943, 6944, 6945] = false → u.1 j = m0 j) ∧ u.2 87 = (6001, .inl X0.2.2.2.1) ∧ u.2 88 = (6001, .inl X0.2.2.2.2.1) ∧ u.2 89 = (6001, .inl X0.2.2.2.2.2.1) ∧ u.2 90 = (6001, .inl X0.2.2.2.2.2.2.1) ∧ u.2 91 = (6001, .inl X0.2.2.2.2.2.2.2.1) ∧ u.2 92 = (6001, .inl X0.2.2.2.2.2.2.2.2.1) ∧ u.2 93 = (6001, .inl X0.2.2.2.2.2.2.2.2.2) ∧ (∀ j, nel j [87, 88, 89, 90, 91, 92, 93] = false → u.2 j = a0 j)) (gB D cy N q s.heap.size) (gA N q s.heap.size)) args s 0 0 (gA N q s.heap.size)) (F0 M 189 ls []) := by
    intro t3_189 hr3 m a H locs w_x69_43 w_x69_44 w_x69_45 hoff hsh w_A87 w_A88 w_A89 w_A90 w_A91 w_A92 w_A93 hoffa ls hl hW hS
    subst hr3
    have hs0 := Option.some.inj hs0
    subst hs0
    exact W.vret hx hb hr (fun t ht hw => ⟨⟨(m, a), rfl, ⟨w_x69_43, w_x69_44, w_x69_45, hoff, w_A87, w_A88, w_A89, w_A90, w_A91, w_A92, w_A93, hoffa⟩, g_end hW ht hw⟩, hS.F ht⟩) hS.2.2 dX12_walks_189 hlocks
  have hL1 : ∀ (n : Nat) (v2k3 : Int32) (x69_43k3 : Int32) (x69_44k3 : Int32) (x69_45k3 : Int32) (A87k3 : Nat → Int32) (A88k3 : Nat → Int32) (A89k3 : Nat → Int32) (A90k3 : Nat → Int32) (A91k3 : Nat → Int32) (A92k3 : Nat → Int32) (A93k3 : Nat → Int32) (m : Nat → Value) (a : Nat → vp_A) (H : Heap) (locs : List Loc) (w_x69_43 : m 6943 = .int x69_43k3) (w_x69_44 : m 6944 = .int x69_44k3) (w_x69_45 : m 6945 = .int x69_45k3) (hoff : ∀ j, nel j [6943, 6944, 6945] = false → m j = m0 j) (hsh : SH q m) (w_A87 : a 87 = (6001, .inl A87k3)) (w_A88 : a 88 = (6001, .inl A88k3)) (w_A89 : a 89 = (6001, .inl A89k3)) (w_A90 : a 90 = (6001, .inl A90k3)) (w_A91 : a 91 = (6001, .inl A91k3)) (w_A92 : a 92 = (6001, .inl A92k3)) (w_A93 : a 93 = (6001, .inl A93k3)) (hoffa : ∀ j, nel j [87, 88, 89, 90, 91, 92, 93] = false → a j = a0 j) (ls : Array Slot) (hl : lv_has ls 5 [(0, .ref (q 69)), (2, .int v2k3)]) (hg3 : gloop (fun u3 : (Int32 × Int32 × Int32 × Int32 × (Nat → Int32) × (Nat → Int32) × (Nat → Int32) × (Nat → Int32) × (Nat → Int32) × (Nat → Int32) × (Nat → Int32)) => fX12_walks_S14 F A81 A82 u3.1 u3.2.1 u3.2.2.1 u3.2.2.2.1 u3.2.2.2.2.1 u3.2.2.2.2.2.1 u3.2.2.2.2.2.2.1 u3.2.2.2.2.2.2.2.1 u3.2.2.2.2.2.2.2.2.1 u3.2.2.2.2.2.2.2.2.2.1 u3.2.2.2.2.2.2.2.2.2.2) n (v2k3, x69_43k3, x69_44k3, x69_45k3, A87k3, A88k3, A89k3, A90k3, A91k3, A92k3, A93k3) = some r3) (hW : GW D cy (gA N q s.heap.size) N q m a s H) (hS : va_S (gA N q s.heap.size) s.heap H locs), W p l e ({ frames := 1, cells := 0, slots := 0, locals := 22 } : Room) s M args below meth c H locs 0 0 (MQ below (va_Qv (fun (u : (Nat → Value) × (Nat → vp_A)) => u.1 6943 = .int X0.1 ∧ u.1 6944 = .int X0.2.1 ∧ u.1 6945 = .int X0.2.2.1 ∧ (∀ j, nel j [6943, 6944, 6945] = false → u.1 j = m0 j) ∧ u.2 87 = (6001, .inl X0.2.2.2.1) ∧ u.2 88 = (6001, .inl X0.2.2.2.2.1) ∧ u.2 89 = (6001, .inl X0.2.2.2.2.2.1) ∧ u.2 90 = (6001, .inl X0.2.2.2.2.2.2.1) ∧ u.2 91 = (6001, .inl X0.2.2.2.2.2.2.2.1) ∧ u.2 92 = (6001, .inl X0.2.2.2.2.2.2.2.2.1) ∧ u.2 93 = (6001, .inl X0.2.2.2.2.2.2.2.2.2) ∧ (∀ j, nel j [87, 88, 89, 90, 91, 92, 93] = false → u.2 j = a0 j)) (gB D cy N q s.heap.size) (gA N q s.heap.size)) args s 0 0 (gA N q s.heap.size)) (F0 M 14 ls []) := by
    intro n
    induction n with
    | zero => intro v2k3 x69_43k3 x69_44k3 x69_45k3 A87k3 A88k3 A89k3 A90k3 A91k3 A92k3 A93k3 m a H locs w_x69_43 w_x69_44 w_x69_45 hoff hsh w_A87 w_A88 w_A89 w_A90 w_A91 w_A92 w_A93 hoffa ls hl hg3 hW hS; exact (gl_zero hg3).elim
    | succ n ih1 =>
      intro v2k3 x69_43k3 x69_44k3 x69_45k3 A87k3 A88k3 A89k3 A90k3 A91k3 A92k3 A93k3 m a H locs w_x69_43 w_x69_44 w_x69_45 hoff hsh w_A87 w_A88 w_A89 w_A90 w_A91 w_A92 w_A93 hoffa ls hl hg3 hW hS
      obtain ⟨X1, hs1, hXl1, hXr1⟩ := gl_succ hg3
      have hs1 : fX12_walks_S14 F A81 A82 v2k3 x69_43k3 x69_44k3 x69_45k3 A87k3 A88k3 A89k3 A90k3 A91k3 A92k3 A93k3 = some X1 := hs1
      unfold fX12_walks_S14 at hs1
      have hJ186_1 : ∀ (v2j52 : Int32) (x69_43j52 : Int32) (x69_44j52 : Int32) (x69_45j52 : Int32) (A87j52 : Nat → Int32) (A88j52 : Nat → Int32) (A89j52 : Nat → Int32) (A90j52 : Nat → Int32) (A91j52 : Nat → Int32) (A92j52 : Nat → Int32) (A93j52 : Nat → Int32) (m : Nat → Value) (a : Nat → vp_A) (H : Heap) (locs : List Loc) (w_x69_43 : m 6943 = .int x69_43j52) (w_x69_44 : m 6944 = .int x69_44j52) (w_x69_45 : m 6945 = .int x69_45j52) (hoff : ∀ j, nel j [6943, 6944, 6945] = false → m j = m0 j) (hsh : SH q m) (w_A87 : a 87 = (6001, .inl A87j52)) (w_A88 : a 88 = (6001, .inl A88j52)) (w_A89 : a 89 = (6001, .inl A89j52)) (w_A90 : a 90 = (6001, .inl A90j52)) (w_A91 : a 91 = (6001, .inl A91j52)) (w_A92 : a 92 = (6001, .inl A92j52)) (w_A93 : a 93 = (6001, .inl A93j52)) (hoffa : ∀ j, nel j [87, 88, 89, 90, 91, 92, 93] = false → a j = a0 j) (ls : Array Slot) (hl : lv_has ls 5 [(0, .ref (q 69)), (2, .int v2j52)]) (hs1 : fX12_walks_J186 F A81 A82 v2j52 x69_43j52 x69_44j52 x69_45j52 A87j52 A88j52 A89j52 A90j52 A91j52 A92j52 A93j52 = some X1) (hW : GW D cy (gA N q s.heap.size) N q m a s H) (hS : va_S (gA N q s.heap.size) s.heap H locs), W p l e ({ frames := 1, cells := 0, slots := 0, locals := 22 } : Room) s M args below meth c H locs 0 0 (MQ below (va_Qv (fun (u : (Nat → Value) × (Nat → vp_A)) => u.1 6943 = .int X0.1 ∧ u.1 6944 = .int X0.2.1 ∧ u.1 6945 = .int X0.2.2.1 ∧ (∀ j, nel j [6943, 6944, 6945] = false → u.1 j = m0 j) ∧ u.2 87 = (6001, .inl X0.2.2.2.1) ∧ u.2 88 = (6001, .inl X0.2.2.2.2.1) ∧ u.2 89 = (6001, .inl X0.2.2.2.2.2.1) ∧ u.2 90 = (6001, .inl X0.2.2.2.2.2.2.1) ∧ u.2 91 = (6001, .inl X0.2.2.2.2.2.2.2.1) ∧ u.2 92 = (6001, .inl X0.2.2.2.2.2.2.2.2.1) ∧ u.2 93 = (6001, .inl X0.2.2.2.2.2.2.2.2.2) ∧ (∀ j, nel j [87, 88, 89, 90, 91, 92, 93] = false → u.2 j = a0 j)) (gB D cy N q s.heap.size) (gA N q s.heap.size)) args s 0 0 (gA N q s.heap.size)) (F0 M 186 ls []) := by
        intro v2j52 x69_43j52 x69_44j52 x69_45j52 A87j52 A88j52 A89j52 A90j52 A91j52 A92j52 A93j52 m a H locs w_x69_43 w_x69_44 w_x69_45 hoff hsh w_A87 w_A88 w_A89 w_A90 w_A91 w_A92 w_A93 hoffa ls hl hs1 hW hS
        unfold fX12_walks_J186 at hs1
        refine lv_goto (tgt := 14) hx hb dX12_walks_186 (by decide) ?_
        exact ih1 v2j52 x69_43j52 x69_44j52 x69_45j52 A87j52 A88j52 A89j52 A90j52 A91j52 A92j52 A93j52 m a _ _ w_x69_43 w_x69_44 w_x69_45 hoff hsh w_A87 w_A88 w_A89 w_A90 w_A91 w_A92 w_A93 hoffa ls (lv_sub hl [0, 1] rfl) (hXr1 _ (Option.some.inj hs1).symm) hW hS
      refine lv_iload_n hx hb dX12_walks_14 rfl (lv_at hl 1 rfl) ?_
      refine lv_if_lt (tgt := 189) hx hb dX12_walks_15 (by decide) (fun c38 => ?_) (fun c38 => ?_)
      · rw [if_pos c38] at hs1
        exact hE1_189 (x69_43k3, x69_44k3, x69_45k3, A87k3, A88k3, A89k3, A90k3, A91k3, A92k3, A93k3) (hXl1 _ (Option.some.inj hs1).symm) m a _ _ w_x69_43 w_x69_44 w_x69_45 hoff hsh w_A87 w_A88 w_A89 w_A90 w_A91 w_A92 w_A93 hoffa ls (lv_sub hl [] rfl) hW hS
      · rw [if_neg c38] at hs1
        refine lv_aload_n hx hb dX12_walks_18 rfl (lv_at hl 0 rfl) ?_
        refine gf12_41 hx hb hG hown hW (o := 69) (ltN hN 69 rfl) gk69 (v := .ref (q 92)) (sh69_41 hsh) gx190 dX12_walks_19 ?_
        refine lv_iload_n hx hb dX12_walks_22 rfl (lv_at hl 1 rfl) ?_
        obtain ⟨hi39, hs1⟩ := oif hs1
        refine g_iald hx hb hW (o := 92) (ltN hN 92 rfl) gk92 w_A92 (vin hi39) dX12_walks_23 ?_
        refine lv_istore_n (lv' := [(3, .int (A92k3 v2k3.toNatClampNeg)), (0, .ref (q 69)), (2, .int v2k3)]) hx hb dX12_walks_24 rfl hl (by decide) rfl (fun ls hl => ?_)
        refine lv_aload_n hx hb dX12_walks_25 rfl (lv_at hl 1 rfl) ?_
        refine gf12_42 hx hb hG hown hW (o := 69) (ltN hN 69 rfl) gk69 (v := .ref (q 93)) (sh69_42 hsh) gx191 dX12_walks_26 ?_
        refine lv_iload_n hx hb dX12_walks_29 rfl (lv_at hl 0 rfl) ?_
        obtain ⟨hi40, hs1⟩ := oif hs1
        refine g_iald hx hb hW (o := 93) (ltN hN 93 rfl) gk93 w_A93 (vin hi40) dX12_walks_30 ?_
        refine lv_aload_n hx hb dX12_walks_31 rfl (lv_at hl 1 rfl) ?_
        refine gf12_29 hx hb hG hown hW (o := 69) (ltN hN 69 rfl) gk69 (v := .ref (q 81)) (sh69_29 hsh) gx177 dX12_walks_32 ?_
        refine lv_iload_n hx hb dX12_walks_35 rfl (lv_at hl 0 rfl) ?_
        refine lv_iconst (v := 1) hx hb dX12_walks_36 (by decide) ?_
        refine lv_iadd hx hb dX12_walks_37 ?_
        obtain ⟨hi41, hs1⟩ := oif hs1
        refine g_iald hx hb hW (o := 81) (ltN hN 81 rfl) gk81 ((hoffa 81 rfl).trans h_A81) (vin hi41) dX12_walks_38 ?_
        refine lv_icmp_ne (tgt := 94) hx hb dX12_walks_39 (by decide) (fun c42 => ?_) (fun c42 => ?_)
        · rw [if_neg c42] at hs1
          refine lv_aload_n hx hb dX12_walks_94 rfl (lv_at hl 1 rfl) ?_
          refine gf12_30 hx hb hG hown hW (o := 69) (ltN hN 69 rfl) gk69 (v := .ref (q 82)) (sh69_30 hsh) gx179 dX12_walks_95 ?_
          refine lv_aload_n hx hb dX12_walks_98 rfl (lv_at hl 1 rfl) ?_
          refine gf12_42 hx hb hG hown hW (o := 69) (ltN hN 69 rfl) gk69 (v := .ref (q 93)) (sh69_42 hsh) gx191 dX12_walks_99 ?_
          refine lv_iload_n hx hb dX12_walks_102 rfl (lv_at hl 0 rfl) ?_
          obtain ⟨hi43, hs1⟩ := oif hs1
          refine g_iald hx hb hW (o := 93) (ltN hN 93 rfl) gk93 w_A93 (vin hi43) dX12_walks_103 ?_
          obtain ⟨hi44, hs1⟩ := oif hs1
          refine g_iald hx hb hW (o := 82) (ltN hN 82 rfl) gk82 ((hoffa 82 rfl).trans h_A82) (vin hi44) dX12_walks_104 ?_
          refine lv_istore (lv' := [(4, .int (A82 (A93k3 (A92k3 v2k3.toNatClampNeg).toNatClampNeg).toNatClampNeg)), (3, .int (A92k3 v2k3.toNatClampNeg)), (0, .ref (q 69)), (2, .int v2k3)]) hx hb dX12_walks_105 hl (by decide) rfl (fun ls hl => ?_)
          refine lv_aload_n hx hb dX12_walks_107 rfl (lv_at hl 2 rfl) ?_
          refine gf12_42 hx hb hG hown hW (o := 69) (ltN hN 69 rfl) gk69 (v := .ref (q 93)) (sh69_42 hsh) gx191 dX12_walks_108 ?_
          refine lv_iload_n hx hb dX12_walks_111 rfl (lv_at hl 1 rfl) ?_
          refine lv_dup2_11 hx hb dX12_walks_112 rfl rfl ?_
          obtain ⟨hi45, hs1⟩ := oif hs1
          refine g_iald hx hb hW (o := 93) (ltN hN 93 rfl) gk93 w_A93 (vin hi45) dX12_walks_113 ?_
          refine lv_iconst (v := 1) hx hb dX12_walks_114 (by decide) ?_
          refine lv_iadd hx hb dX12_walks_115 ?_
          obtain ⟨hi46, hs1⟩ := oif hs1
          refine g_iast hx hb hW hS (o := 93) (ltN hN 93 rfl) gk93 w_A93 (vin hi46) dX12_walks_116 (fun a47 H locs ha47 ho47 hW hS => ?_)
          have ho47 := off1 ho47
          have w_A87 : a47 87 = (6001, .inl A87k3) := (ho47 87 rfl).trans w_A87
          have w_A88 : a47 88 = (6001, .inl A88k3) := (ho47 88 rfl).trans w_A88
          have w_A89 : a47 89 = (6001, .inl A89k3) := (ho47 89 rfl).trans w_A89
          have w_A90 : a47 90 = (6001, .inl A90k3) := (ho47 90 rfl).trans w_A90
          have w_A91 : a47 91 = (6001, .inl A91k3) := (ho47 91 rfl).trans w_A91
          have w_A92 : a47 92 = (6001, .inl A92k3) := (ho47 92 rfl).trans w_A92
          have w_A93 : a47 93 = (6001, .inl (upd A93k3 (A92k3 v2k3.toNatClampNeg).toNatClampNeg ((A93k3 (A92k3 v2k3.toNatClampNeg).toNatClampNeg) + 1))) := ha47
          have hoffa := offm hoffa ho47 (by decide +kernel)
          refine lv_aload_n hx hb dX12_walks_117 rfl (lv_at hl 2 rfl) ?_
          refine gf12_38 hx hb hG hown hW (o := 69) (ltN hN 69 rfl) gk69 (v := .ref (q 89)) (sh69_38 hsh) gx186 dX12_walks_118 ?_
          refine lv_iload hx hb dX12_walks_121 (lv_at hl 0 rfl) ?_
          obtain ⟨hi48, hs1⟩ := oif hs1
          refine g_iald hx hb hW (o := 89) (ltN hN 89 rfl) gk89 w_A89 (vin hi48) dX12_walks_123 ?_
          refine lv_if_ge (tgt := 147) hx hb dX12_walks_124 (by decide) (fun c49 => ?_) (fun c49 => ?_)
          · rw [if_pos c49] at hs1
            refine lv_aload_n hx hb dX12_walks_147 rfl (lv_at hl 2 rfl) ?_
            refine gf12_40 hx hb hG hown hW (o := 69) (ltN hN 69 rfl) gk69 (v := .ref (q 91)) (sh69_40 hsh) gx189 dX12_walks_148 ?_
            refine lv_iload hx hb dX12_walks_151 (lv_at hl 0 rfl) ?_
            obtain ⟨hi50, hs1⟩ := oif hs1
            refine g_zald hx hb hW (o := 91) (ltN hN 91 rfl) gk91 w_A91 (vin hi50) dX12_walks_153 ?_
            refine lv_if_eq (tgt := 186) hx hb dX12_walks_154 (by decide) (fun c51 => ?_) (fun c51 => ?_)
            · rw [if_pos c51] at hs1
              exact hJ186_1 v2k3 x69_43k3 x69_44k3 x69_45k3 A87k3 A88k3 A89k3 A90k3 A91k3 A92k3 (upd A93k3 (A92k3 v2k3.toNatClampNeg).toNatClampNeg ((A93k3 (A92k3 v2k3.toNatClampNeg).toNatClampNeg) + 1)) m a47 _ _ w_x69_43 w_x69_44 w_x69_45 hoff hsh w_A87 w_A88 w_A89 w_A90 w_A91 w_A92 w_A93 hoffa ls (lv_sub hl [2, 3] rfl) hs1 hW hS
            · rw [if_neg c51] at hs1
              refine lv_aload_n hx hb dX12_walks_157 rfl (lv_at hl 2 rfl) ?_
              refine gf12_38 hx hb hG hown hW (o := 69) (ltN hN 69 rfl) gk69 (v := .ref (q 89)) (sh69_38 hsh) gx186 dX12_walks_158 ?_
              refine lv_iload hx hb dX12_walks_161 (lv_at hl 0 rfl) ?_
              obtain ⟨hi53, hs1⟩ := oif hs1
              refine g_iald hx hb hW (o := 89) (ltN hN 89 rfl) gk89 w_A89 (vin hi53) dX12_walks_163 ?_
              refine lv_aload_n hx hb dX12_walks_164 rfl (lv_at hl 2 rfl) ?_
              refine gf12_37 hx hb hG hown hW (o := 69) (ltN hN 69 rfl) gk69 (v := .ref (q 88)) (sh69_37 hsh) gx185 dX12_walks_165 ?_
              refine lv_iload_n hx hb dX12_walks_168 rfl (lv_at hl 1 rfl) ?_
              obtain ⟨hi54, hs1⟩ := oif hs1
              refine g_iald hx hb hW (o := 88) (ltN hN 88 rfl) gk88 w_A88 (vin hi54) dX12_walks_169 ?_
              refine lv_icmp_ge (tgt := 186) hx hb dX12_walks_170 (by decide) (fun c55 => ?_) (fun c55 => ?_)
              · rw [if_pos c55] at hs1
                exact hJ186_1 v2k3 x69_43k3 x69_44k3 x69_45k3 A87k3 A88k3 A89k3 A90k3 A91k3 A92k3 (upd A93k3 (A92k3 v2k3.toNatClampNeg).toNatClampNeg ((A93k3 (A92k3 v2k3.toNatClampNeg).toNatClampNeg) + 1)) m a47 _ _ w_x69_43 w_x69_44 w_x69_45 hoff hsh w_A87 w_A88 w_A89 w_A90 w_A91 w_A92 w_A93 hoffa ls (lv_sub hl [2, 3] rfl) hs1 hW hS
              · rw [if_neg c55] at hs1
                refine lv_aload_n hx hb dX12_walks_173 rfl (lv_at hl 2 rfl) ?_
                refine gf12_37 hx hb hG hown hW (o := 69) (ltN hN 69 rfl) gk69 (v := .ref (q 88)) (sh69_37 hsh) gx185 dX12_walks_174 ?_
                refine lv_iload_n hx hb dX12_walks_177 rfl (lv_at hl 1 rfl) ?_
                refine lv_aload_n hx hb dX12_walks_178 rfl (lv_at hl 2 rfl) ?_
                refine gf12_38 hx hb hG hown hW (o := 69) (ltN hN 69 rfl) gk69 (v := .ref (q 89)) (sh69_38 hsh) gx186 dX12_walks_179 ?_
                refine lv_iload hx hb dX12_walks_182 (lv_at hl 0 rfl) ?_
                obtain ⟨hi56, hs1⟩ := oif hs1
                refine g_iald hx hb hW (o := 89) (ltN hN 89 rfl) gk89 w_A89 (vin hi56) dX12_walks_184 ?_
                obtain ⟨hi57, hs1⟩ := oif hs1
                refine g_iast hx hb hW hS (o := 88) (ltN hN 88 rfl) gk88 w_A88 (vin hi57) dX12_walks_185 (fun a58 H locs ha58 ho58 hW hS => ?_)
                have ho58 := off1 ho58
                have w_A87 : a58 87 = (6001, .inl A87k3) := (ho58 87 rfl).trans w_A87
                have w_A88 : a58 88 = (6001, .inl (upd A88k3 (A92k3 v2k3.toNatClampNeg).toNatClampNeg (A89k3 (A82 (A93k3 (A92k3 v2k3.toNatClampNeg).toNatClampNeg).toNatClampNeg).toNatClampNeg))) := ha58
                have w_A89 : a58 89 = (6001, .inl A89k3) := (ho58 89 rfl).trans w_A89
                have w_A90 : a58 90 = (6001, .inl A90k3) := (ho58 90 rfl).trans w_A90
                have w_A91 : a58 91 = (6001, .inl A91k3) := (ho58 91 rfl).trans w_A91
                have w_A92 : a58 92 = (6001, .inl A92k3) := (ho58 92 rfl).trans w_A92
                have w_A93 : a58 93 = (6001, .inl (upd A93k3 (A92k3 v2k3.toNatClampNeg).toNatClampNeg ((A93k3 (A92k3 v2k3.toNatClampNeg).toNatClampNeg) + 1))) := (ho58 93 rfl).trans w_A93
                have hoffa := offm hoffa ho58 (by decide +kernel)
                exact hJ186_1 v2k3 x69_43k3 x69_44k3 x69_45k3 A87k3 (upd A88k3 (A92k3 v2k3.toNatClampNeg).toNatClampNeg (A89k3 (A82 (A93k3 (A92k3 v2k3.toNatClampNeg).toNatClampNeg).toNatClampNeg).toNatClampNeg)) A89k3 A90k3 A91k3 A92k3 (upd A93k3 (A92k3 v2k3.toNatClampNeg).toNatClampNeg ((A93k3 (A92k3 v2k3.toNatClampNeg).toNatClampNeg) + 1)) m a58 _ _ w_x69_43 w_x69_44 w_x69_45 hoff hsh w_A87 w_A88 w_A89 w_A90 w_A91 w_A92 w_A93 hoffa ls (lv_sub hl [2, 3] rfl) hs1 hW hS
          · rw [if_neg c49] at hs1
            refine lv_iinc (v := v2k3 + 1) (lv' := [(2, .int (v2k3 + 1)), (4, .int (A82 (A93k3 (A92k3 v2k3.toNatClampNeg).toNatClampNeg).toNatClampNeg)), (3, .int (A92k3 v2k3.toNatClampNeg)), (0, .ref (q 69))]) hx hb dX12_walks_127 hl (k := 3) rfl rfl (by decide) rfl (fun ls hl => ?_)
            refine lv_aload_n hx hb dX12_walks_130 rfl (lv_at hl 3 rfl) ?_
            refine gf12_41 hx hb hG hown hW (o := 69) (ltN hN 69 rfl) gk69 (v := .ref (q 92)) (sh69_41 hsh) gx190 dX12_walks_131 ?_
            refine lv_iload_n hx hb dX12_walks_134 rfl (lv_at hl 0 rfl) ?_
            refine lv_iload hx hb dX12_walks_135 (lv_at hl 1 rfl) ?_
            obtain ⟨hi59, hs1⟩ := oif hs1
            refine g_iast hx hb hW hS (o := 92) (ltN hN 92 rfl) gk92 w_A92 (vin hi59) dX12_walks_137 (fun a60 H locs ha60 ho60 hW hS => ?_)
            have ho60 := off1 ho60
            have w_A87 : a60 87 = (6001, .inl A87k3) := (ho60 87 rfl).trans w_A87
            have w_A88 : a60 88 = (6001, .inl A88k3) := (ho60 88 rfl).trans w_A88
            have w_A89 : a60 89 = (6001, .inl A89k3) := (ho60 89 rfl).trans w_A89
            have w_A90 : a60 90 = (6001, .inl A90k3) := (ho60 90 rfl).trans w_A90
            have w_A91 : a60 91 = (6001, .inl A91k3) := (ho60 91 rfl).trans w_A91
            have w_A92 : a60 92 = (6001, .inl (upd A92k3 (v2k3 + 1).toNatClampNeg (A82 (A93k3 (A92k3 v2k3.toNatClampNeg).toNatClampNeg).toNatClampNeg))) := ha60
            have w_A93 : a60 93 = (6001, .inl (upd A93k3 (A92k3 v2k3.toNatClampNeg).toNatClampNeg ((A93k3 (A92k3 v2k3.toNatClampNeg).toNatClampNeg) + 1))) := (ho60 93 rfl).trans w_A93
            have hoffa := offm hoffa ho60 (by decide +kernel)
            refine lv_aload_n hx hb dX12_walks_138 rfl (lv_at hl 3 rfl) ?_
            refine lv_iload hx hb dX12_walks_139 (lv_at hl 1 rfl) ?_
            obtain ⟨r61, hf61, hs1⟩ := obind hs1
            refine g_Vv (n := 1) hx hb hml hown hG hW hS [.int (A82 (A93k3 (A92k3 v2k3.toNatClampNeg).toNatClampNeg).toNatClampNeg)] (kX12_enters hN hsh ((hoffa 81 rfl).trans h_A81) w_x69_43 w_x69_45 w_A88 w_A89 w_A90 w_A91 w_A93 (A82 (A93k3 (A92k3 v2k3.toNatClampNeg).toNatClampNeg).toNatClampNeg) hf61) (ltN hN 69 rfl) gk69 (by decide) rfl rfl (gd_V gx811 gx812 gx813 gx5 gx814) rfl rfl (by decide) ⟨Nat.le_of_ble_eq_true rfl, Nat.le_of_ble_eq_true rfl⟩ rfl hl (Nat.le_of_ble_eq_true rfl) ⟨Nat.zero_le _, Nat.zero_le _⟩ dX12_walks_141 (fun m61 a61 H locs hp61 hW hS => ?_)
            obtain ⟨hp61_x69_43, hp61_x69_45, ho61, hp61_A88, hp61_A89, hp61_A90, hp61_A91, hp61_A93, hoa61⟩ := hp61
            have w_x69_43 : m61 6943 = .int r61.1 := hp61_x69_43
            have w_x69_44 : m61 6944 = .int x69_44k3 := (ho61 6944 rfl).trans w_x69_44
            have w_x69_45 : m61 6945 = .int r61.2.1 := hp61_x69_45
            have hoff := offm hoff ho61 (by decide +kernel)
            have hsh := SH.off hsh ho61 (by decide +kernel)
            have w_A87 : a61 87 = (6001, .inl A87k3) := (hoa61 87 rfl).trans w_A87
            have w_A88 : a61 88 = (6001, .inl r61.2.2.1) := hp61_A88
            have w_A89 : a61 89 = (6001, .inl r61.2.2.2.1) := hp61_A89
            have w_A90 : a61 90 = (6001, .inl r61.2.2.2.2.1) := hp61_A90
            have w_A91 : a61 91 = (6001, .inl r61.2.2.2.2.2.1) := hp61_A91
            have w_A92 : a61 92 = (6001, .inl (upd A92k3 (v2k3 + 1).toNatClampNeg (A82 (A93k3 (A92k3 v2k3.toNatClampNeg).toNatClampNeg).toNatClampNeg))) := (hoa61 92 rfl).trans w_A92
            have w_A93 : a61 93 = (6001, .inl r61.2.2.2.2.2.2) := hp61_A93
            have hoffa := offm hoffa hoa61 (by decide +kernel)
            refine lv_goto (tgt := 186) hx hb dX12_walks_144 (by decide) ?_
            exact hJ186_1 (v2k3 + 1) r61.1 x69_44k3 r61.2.1 A87k3 r61.2.2.1 r61.2.2.2.1 r61.2.2.2.2.1 r61.2.2.2.2.2.1 (upd A92k3 (v2k3 + 1).toNatClampNeg (A82 (A93k3 (A92k3 v2k3.toNatClampNeg).toNatClampNeg).toNatClampNeg)) r61.2.2.2.2.2.2 m61 a61 _ _ w_x69_43 w_x69_44 w_x69_45 hoff hsh w_A87 w_A88 w_A89 w_A90 w_A91 w_A92 w_A93 hoffa ls (lv_sub hl [3, 0] rfl) hs1 hW hS
        · rw [if_pos c42] at hs1
          refine lv_aload_n hx hb dX12_walks_42 rfl (lv_at hl 1 rfl) ?_
          refine lv_iload_n hx hb dX12_walks_43 rfl (lv_at hl 0 rfl) ?_
          obtain ⟨r62, hf62, hs1⟩ := obind hs1
          refine g_Vv (n := 1) hx hb hml hown hG hW hS [.int (A92k3 v2k3.toNatClampNeg)] (kX12_leaves hN hsh w_A88 w_A89 w_A90 w_x69_43 w_x69_44 w_A87 w_A91 F (A92k3 v2k3.toNatClampNeg) hf62) (ltN hN 69 rfl) gk69 (by decide) rfl rfl (gd_V gx815 gx816 gx817 gx5 gx818) rfl rfl (by decide) ⟨Nat.le_of_ble_eq_true rfl, Nat.le_of_ble_eq_true rfl⟩ rfl hl (Nat.le_of_ble_eq_true rfl) ⟨Nat.zero_le _, Nat.zero_le _⟩ dX12_walks_44 (fun m62 a62 H locs hp62 hW hS => ?_)
          obtain ⟨hp62_x69_43, hp62_x69_44, ho62, hp62_A87, hp62_A91, hoa62⟩ := hp62
          have w_x69_43 : m62 6943 = .int r62.1 := hp62_x69_43
          have w_x69_44 : m62 6944 = .int r62.2.1 := hp62_x69_44
          have w_x69_45 : m62 6945 = .int x69_45k3 := (ho62 6945 rfl).trans w_x69_45
          have hoff := offm hoff ho62 (by decide +kernel)
          have hsh := SH.off hsh ho62 (by decide +kernel)
          have w_A87 : a62 87 = (6001, .inl r62.2.2.1) := hp62_A87
          have w_A88 : a62 88 = (6001, .inl A88k3) := (hoa62 88 rfl).trans w_A88
          have w_A89 : a62 89 = (6001, .inl A89k3) := (hoa62 89 rfl).trans w_A89
          have w_A90 : a62 90 = (6001, .inl A90k3) := (hoa62 90 rfl).trans w_A90
          have w_A91 : a62 91 = (6001, .inl r62.2.2.2) := hp62_A91
          have w_A92 : a62 92 = (6001, .inl A92k3) := (hoa62 92 rfl).trans w_A92
          have w_A93 : a62 93 = (6001, .inl A93k3) := (hoa62 93 rfl).trans w_A93
          have hoffa := offm hoffa hoa62 (by decide +kernel)
          refine lv_iinc (v := v2k3 + (-1)) (lv' := [(2, .int (v2k3 + (-1))), (3, .int (A92k3 v2k3.toNatClampNeg)), (0, .ref (q 69))]) hx hb dX12_walks_47 hl (k := 2) rfl (congrArg (fun z => v2k3 + z) (by decide : Int32.ofInt (-1) = (-1))) (by decide) rfl (fun ls hl => ?_)
          refine lv_iload_n hx hb dX12_walks_50 rfl (lv_at hl 0 rfl) ?_
          refine lv_if_lt (tgt := 14) hx hb dX12_walks_51 (by decide) (fun c63 => ?_) (fun c63 => ?_)
          · rw [if_pos c63] at hs1
            exact ih1 (v2k3 + (-1)) r62.1 r62.2.1 x69_45k3 r62.2.2.1 A88k3 A89k3 A90k3 r62.2.2.2 A92k3 A93k3 m62 a62 _ _ w_x69_43 w_x69_44 w_x69_45 hoff hsh w_A87 w_A88 w_A89 w_A90 w_A91 w_A92 w_A93 hoffa ls (lv_sub hl [2, 0] rfl) (hXr1 _ (Option.some.inj hs1).symm) hW hS
          · rw [if_neg c63] at hs1
            refine lv_aload_n hx hb dX12_walks_54 rfl (lv_at hl 2 rfl) ?_
            refine gf12_37 hx hb hG hown hW (o := 69) (ltN hN 69 rfl) gk69 (v := .ref (q 88)) (sh69_37 hsh) gx185 dX12_walks_55 ?_
            refine lv_iload_n hx hb dX12_walks_58 rfl (lv_at hl 1 rfl) ?_
            obtain ⟨hi64, hs1⟩ := oif hs1
            refine g_iald hx hb hW (o := 88) (ltN hN 88 rfl) gk88 w_A88 (vin hi64) dX12_walks_59 ?_
            refine lv_aload_n hx hb dX12_walks_60 rfl (lv_at hl 2 rfl) ?_
            refine gf12_37 hx hb hG hown hW (o := 69) (ltN hN 69 rfl) gk69 (v := .ref (q 88)) (sh69_37 hsh) gx185 dX12_walks_61 ?_
            refine lv_aload_n hx hb dX12_walks_64 rfl (lv_at hl 2 rfl) ?_
            refine gf12_41 hx hb hG hown hW (o := 69) (ltN hN 69 rfl) gk69 (v := .ref (q 92)) (sh69_41 hsh) gx190 dX12_walks_65 ?_
            refine lv_iload_n hx hb dX12_walks_68 rfl (lv_at hl 0 rfl) ?_
            obtain ⟨hi65, hs1⟩ := oif hs1
            refine g_iald hx hb hW (o := 92) (ltN hN 92 rfl) gk92 w_A92 (vin hi65) dX12_walks_69 ?_
            obtain ⟨hi66, hs1⟩ := oif hs1
            refine g_iald hx hb hW (o := 88) (ltN hN 88 rfl) gk88 w_A88 (vin hi66) dX12_walks_70 ?_
            refine lv_icmp_ge (tgt := 14) hx hb dX12_walks_71 (by decide) (fun c67 => ?_) (fun c67 => ?_)
            · rw [if_pos c67] at hs1
              exact ih1 (v2k3 + (-1)) r62.1 r62.2.1 x69_45k3 r62.2.2.1 A88k3 A89k3 A90k3 r62.2.2.2 A92k3 A93k3 m62 a62 _ _ w_x69_43 w_x69_44 w_x69_45 hoff hsh w_A87 w_A88 w_A89 w_A90 w_A91 w_A92 w_A93 hoffa ls (lv_sub hl [2, 0] rfl) (hXr1 _ (Option.some.inj hs1).symm) hW hS
            · rw [if_neg c67] at hs1
              refine lv_aload_n hx hb dX12_walks_74 rfl (lv_at hl 2 rfl) ?_
              refine gf12_37 hx hb hG hown hW (o := 69) (ltN hN 69 rfl) gk69 (v := .ref (q 88)) (sh69_37 hsh) gx185 dX12_walks_75 ?_
              refine lv_aload_n hx hb dX12_walks_78 rfl (lv_at hl 2 rfl) ?_
              refine gf12_41 hx hb hG hown hW (o := 69) (ltN hN 69 rfl) gk69 (v := .ref (q 92)) (sh69_41 hsh) gx190 dX12_walks_79 ?_
              refine lv_iload_n hx hb dX12_walks_82 rfl (lv_at hl 0 rfl) ?_
              obtain ⟨hi68, hs1⟩ := oif hs1
              refine g_iald hx hb hW (o := 92) (ltN hN 92 rfl) gk92 w_A92 (vin hi68) dX12_walks_83 ?_
              refine lv_aload_n hx hb dX12_walks_84 rfl (lv_at hl 2 rfl) ?_
              refine gf12_37 hx hb hG hown hW (o := 69) (ltN hN 69 rfl) gk69 (v := .ref (q 88)) (sh69_37 hsh) gx185 dX12_walks_85 ?_
              refine lv_iload_n hx hb dX12_walks_88 rfl (lv_at hl 1 rfl) ?_
              obtain ⟨hi69, hs1⟩ := oif hs1
              refine g_iald hx hb hW (o := 88) (ltN hN 88 rfl) gk88 w_A88 (vin hi69) dX12_walks_89 ?_
              obtain ⟨hi70, hs1⟩ := oif hs1
              refine g_iast hx hb hW hS (o := 88) (ltN hN 88 rfl) gk88 w_A88 (vin hi70) dX12_walks_90 (fun a71 H locs ha71 ho71 hW hS => ?_)
              have ho71 := off1 ho71
              have w_A87 : a71 87 = (6001, .inl r62.2.2.1) := (ho71 87 rfl).trans w_A87
              have w_A88 : a71 88 = (6001, .inl (upd A88k3 (A92k3 (v2k3 + (-1)).toNatClampNeg).toNatClampNeg (A88k3 (A92k3 v2k3.toNatClampNeg).toNatClampNeg))) := ha71
              have w_A89 : a71 89 = (6001, .inl A89k3) := (ho71 89 rfl).trans w_A89
              have w_A90 : a71 90 = (6001, .inl A90k3) := (ho71 90 rfl).trans w_A90
              have w_A91 : a71 91 = (6001, .inl r62.2.2.2) := (ho71 91 rfl).trans w_A91
              have w_A92 : a71 92 = (6001, .inl A92k3) := (ho71 92 rfl).trans w_A92
              have w_A93 : a71 93 = (6001, .inl A93k3) := (ho71 93 rfl).trans w_A93
              have hoffa := offm hoffa ho71 (by decide +kernel)
              refine lv_goto (tgt := 14) hx hb dX12_walks_91 (by decide) ?_
              exact ih1 (v2k3 + (-1)) r62.1 r62.2.1 x69_45k3 r62.2.2.1 (upd A88k3 (A92k3 (v2k3 + (-1)).toNatClampNeg).toNatClampNeg (A88k3 (A92k3 v2k3.toNatClampNeg).toNatClampNeg)) A89k3 A90k3 r62.2.2.2 A92k3 A93k3 m62 a71 _ _ w_x69_43 w_x69_44 w_x69_45 hoff hsh w_A87 w_A88 w_A89 w_A90 w_A91 w_A92 w_A93 hoffa ls (lv_sub hl [2, 0] rfl) (hXr1 _ (Option.some.inj hs1).symm) hW hS
  exact hL1 F 0 r2.1 x69_44 r2.2.1 A87 r2.2.2.1 r2.2.2.2.1 r2.2.2.2.2.1 r2.2.2.2.2.2.1 (upd A92 (0 : Int32).toNatClampNeg p1) r2.2.2.2.2.2.2 m2 a2 _ _ w_x69_43 w_x69_44 w_x69_45 hoff hsh w_A87 w_A88 w_A89 w_A90 w_A91 w_A92 w_A93 hoffa ls (lv_sub hl [1, 0] rfl) hg3 hW hS
-- HealLinkModel.looksAt (II)V
def fX12_looksAt_J117 (F : Nat) (A81 : Nat → Int32) (A82 : Nat → Int32) (A83 : Nat → Int32) (A87 : Nat → Int32) (v1 : Int32) (v2 : Int32) (v3j19 : Int32) (A94j19 : Nat → Int32) : Option (((Nat → Int32)) ⊕ (Int32 × (Nat → Int32))) := some (Sum.inr (v3j19 + 1, A94j19))
def fX12_looksAt_J98 (F : Nat) (A81 : Nat → Int32) (A82 : Nat → Int32) (A83 : Nat → Int32) (A87 : Nat → Int32) (v1 : Int32) (v2 : Int32) (v3j16 : Int32) (v6j16 : Int32) (A94j16 : Nat → Int32) : Option (((Nat → Int32)) ⊕ (Int32 × (Nat → Int32))) := (if inb v1 6001 = true then (if v6j16 ≤ (A94j16 v1.toNatClampNeg) then fX12_looksAt_J117 F A81 A82 A83 A87 v1 v2 v3j16 A94j16 else (if inb v1 6001 = true then fX12_looksAt_J117 F A81 A82 A83 A87 v1 v2 v3j16 (upd A94j16 v1.toNatClampNeg v6j16) else none)) else none)
def fX12_looksAt_J83 (F : Nat) (A81 : Nat → Int32) (A82 : Nat → Int32) (A83 : Nat → Int32) (A87 : Nat → Int32) (v1 : Int32) (v2 : Int32) (v3j13 : Int32) (s0j13 : Int32) (A94j13 : Nat → Int32) : Option (((Nat → Int32)) ⊕ (Int32 × (Nat → Int32))) := (if s0j13 ≤ 1000000 then fX12_looksAt_J98 F A81 A82 A83 A87 v1 v2 v3j13 s0j13 A94j13 else fX12_looksAt_J98 F A81 A82 A83 A87 v1 v2 v3j13 1000000 A94j13)
def fX12_looksAt_J36 (F : Nat) (A81 : Nat → Int32) (A82 : Nat → Int32) (A83 : Nat → Int32) (A87 : Nat → Int32) (v1 : Int32) (v2 : Int32) (v3j8 : Int32) (s0j8 : Int32) (A94j8 : Nat → Int32) : Option (((Nat → Int32)) ⊕ (Int32 × (Nat → Int32))) := (if inb v3j8 84000 = true then (if inb (A82 v3j8.toNatClampNeg) 6001 = true then (if (A87 (A82 v3j8.toNatClampNeg).toNatClampNeg) = v1 then (if s0j8 = 1 then fX12_looksAt_J83 F A81 A82 A83 A87 v1 v2 v3j8 1000000 A94j8 else fX12_looksAt_J83 F A81 A82 A83 A87 v1 v2 v3j8 0 A94j8) else (if inb (A87 (A82 v3j8.toNatClampNeg).toNatClampNeg) 6001 = true then fX12_looksAt_J83 F A81 A82 A83 A87 v1 v2 v3j8 ((A94j8 (A87 (A82 v3j8.toNatClampNeg).toNatClampNeg).toNatClampNeg) + s0j8) A94j8 else none)) else none) else none)
def fX12_looksAt_S7 (F : Nat) (A81 : Nat → Int32) (A82 : Nat → Int32) (A83 : Nat → Int32) (A87 : Nat → Int32) (v1 : Int32) (v2 : Int32) (v3 : Int32) (A94 : Nat → Int32) : Option (((Nat → Int32)) ⊕ (Int32 × (Nat → Int32))) := (if inb (v2 + 1) 6002 = true then (if (A81 (v2 + 1).toNatClampNeg) ≤ v3 then some (Sum.inl A94) else (if inb v3 84000 = true then (if (fX12_isBad (A83 v3.toNatClampNeg)) = 0 then fX12_looksAt_J36 F A81 A82 A83 A87 v1 v2 v3 0 A94 else fX12_looksAt_J36 F A81 A82 A83 A87 v1 v2 v3 1 A94) else none)) else none)
def fX12_looksAt (F : Nat) (A81 : Nat → Int32) (A82 : Nat → Int32) (A83 : Nat → Int32) (A87 : Nat → Int32) (A94 : Nat → Int32) (p1 : Int32) (p2 : Int32) : Option ((Nat → Int32)) := (if inb p2 6002 = true then (gloop (fun u2 : (Int32 × (Nat → Int32)) => fX12_looksAt_S7 F A81 A82 A83 A87 p1 p2 u2.1 u2.2) F (A81 p2.toNatClampNeg, A94)).bind (fun t2_123 => some t2_123) else none)
theorem dX12_looksAt_0 : decode cX12_looksAt 0 = .ok (.aload_n 0, 1) := by decide +kernel
theorem dX12_looksAt_1 : decode cX12_looksAt 1 = .ok (.getfield 57, 3) := by decide +kernel
theorem dX12_looksAt_4 : decode cX12_looksAt 4 = .ok (.iload_n 2, 1) := by decide +kernel
theorem dX12_looksAt_5 : decode cX12_looksAt 5 = .ok (.iaload, 1) := by decide +kernel
theorem dX12_looksAt_6 : decode cX12_looksAt 6 = .ok (.istore_n 3, 1) := by decide +kernel
theorem dX12_looksAt_7 : decode cX12_looksAt 7 = .ok (.iload_n 3, 1) := by decide +kernel
theorem dX12_looksAt_8 : decode cX12_looksAt 8 = .ok (.aload_n 0, 1) := by decide +kernel
theorem dX12_looksAt_9 : decode cX12_looksAt 9 = .ok (.getfield 57, 3) := by decide +kernel
theorem dX12_looksAt_12 : decode cX12_looksAt 12 = .ok (.iload_n 2, 1) := by decide +kernel
theorem dX12_looksAt_13 : decode cX12_looksAt 13 = .ok (.iconst 1, 1) := by decide +kernel
theorem dX12_looksAt_14 : decode cX12_looksAt 14 = .ok (.iadd, 1) := by decide +kernel
theorem dX12_looksAt_15 : decode cX12_looksAt 15 = .ok (.iaload, 1) := by decide +kernel
theorem dX12_looksAt_16 : decode cX12_looksAt 16 = .ok (.if_icmp .ge 107, 3) := by decide +kernel
theorem dX12_looksAt_19 : decode cX12_looksAt 19 = .ok (.aload_n 0, 1) := by decide +kernel
theorem dX12_looksAt_20 : decode cX12_looksAt 20 = .ok (.getfield 64, 3) := by decide +kernel
theorem dX12_looksAt_23 : decode cX12_looksAt 23 = .ok (.iload_n 3, 1) := by decide +kernel
theorem dX12_looksAt_24 : decode cX12_looksAt 24 = .ok (.iaload, 1) := by decide +kernel
theorem dX12_looksAt_25 : decode cX12_looksAt 25 = .ok (.invokestatic 244, 3) := by decide +kernel
theorem dX12_looksAt_28 : decode cX12_looksAt 28 = .ok (.ifCond .eq 7, 3) := by decide +kernel
theorem dX12_looksAt_31 : decode cX12_looksAt 31 = .ok (.iconst 1, 1) := by decide +kernel
theorem dX12_looksAt_32 : decode cX12_looksAt 32 = .ok (.goto 4, 3) := by decide +kernel
theorem dX12_looksAt_35 : decode cX12_looksAt 35 = .ok (.iconst 0, 1) := by decide +kernel
theorem dX12_looksAt_36 : decode cX12_looksAt 36 = .ok (.istore 4, 2) := by decide +kernel
theorem dX12_looksAt_38 : decode cX12_looksAt 38 = .ok (.aload_n 0, 1) := by decide +kernel
theorem dX12_looksAt_39 : decode cX12_looksAt 39 = .ok (.getfield 76, 3) := by decide +kernel
theorem dX12_looksAt_42 : decode cX12_looksAt 42 = .ok (.aload_n 0, 1) := by decide +kernel
theorem dX12_looksAt_43 : decode cX12_looksAt 43 = .ok (.getfield 61, 3) := by decide +kernel
theorem dX12_looksAt_46 : decode cX12_looksAt 46 = .ok (.iload_n 3, 1) := by decide +kernel
theorem dX12_looksAt_47 : decode cX12_looksAt 47 = .ok (.iaload, 1) := by decide +kernel
theorem dX12_looksAt_48 : decode cX12_looksAt 48 = .ok (.iaload, 1) := by decide +kernel
theorem dX12_looksAt_49 : decode cX12_looksAt 49 = .ok (.istore 5, 2) := by decide +kernel
theorem dX12_looksAt_51 : decode cX12_looksAt 51 = .ok (.iload 5, 2) := by decide +kernel
theorem dX12_looksAt_53 : decode cX12_looksAt 53 = .ok (.iload_n 1, 1) := by decide +kernel
theorem dX12_looksAt_54 : decode cX12_looksAt 54 = .ok (.if_icmp .ne 19, 3) := by decide +kernel
theorem dX12_looksAt_57 : decode cX12_looksAt 57 = .ok (.iload 4, 2) := by decide +kernel
theorem dX12_looksAt_59 : decode cX12_looksAt 59 = .ok (.iconst 1, 1) := by decide +kernel
theorem dX12_looksAt_60 : decode cX12_looksAt 60 = .ok (.if_icmp .ne 9, 3) := by decide +kernel
theorem dX12_looksAt_63 : decode cX12_looksAt 63 = .ok (.ldc_w 303, 3) := by decide +kernel
theorem dX12_looksAt_66 : decode cX12_looksAt 66 = .ok (.goto 17, 3) := by decide +kernel
theorem dX12_looksAt_69 : decode cX12_looksAt 69 = .ok (.iconst 0, 1) := by decide +kernel
theorem dX12_looksAt_70 : decode cX12_looksAt 70 = .ok (.goto 13, 3) := by decide +kernel
theorem dX12_looksAt_73 : decode cX12_looksAt 73 = .ok (.aload_n 0, 1) := by decide +kernel
theorem dX12_looksAt_74 : decode cX12_looksAt 74 = .ok (.getfield 98, 3) := by decide +kernel
theorem dX12_looksAt_77 : decode cX12_looksAt 77 = .ok (.iload 5, 2) := by decide +kernel
theorem dX12_looksAt_79 : decode cX12_looksAt 79 = .ok (.iaload, 1) := by decide +kernel
theorem dX12_looksAt_80 : decode cX12_looksAt 80 = .ok (.iload 4, 2) := by decide +kernel
theorem dX12_looksAt_82 : decode cX12_looksAt 82 = .ok (.iadd, 1) := by decide +kernel
theorem dX12_looksAt_83 : decode cX12_looksAt 83 = .ok (.istore 6, 2) := by decide +kernel
theorem dX12_looksAt_85 : decode cX12_looksAt 85 = .ok (.iload 6, 2) := by decide +kernel
theorem dX12_looksAt_87 : decode cX12_looksAt 87 = .ok (.ldc_w 303, 3) := by decide +kernel
theorem dX12_looksAt_90 : decode cX12_looksAt 90 = .ok (.if_icmp .le 8, 3) := by decide +kernel
theorem dX12_looksAt_93 : decode cX12_looksAt 93 = .ok (.ldc_w 303, 3) := by decide +kernel
theorem dX12_looksAt_96 : decode cX12_looksAt 96 = .ok (.istore 6, 2) := by decide +kernel
theorem dX12_looksAt_98 : decode cX12_looksAt 98 = .ok (.iload 6, 2) := by decide +kernel
theorem dX12_looksAt_100 : decode cX12_looksAt 100 = .ok (.aload_n 0, 1) := by decide +kernel
theorem dX12_looksAt_101 : decode cX12_looksAt 101 = .ok (.getfield 98, 3) := by decide +kernel
theorem dX12_looksAt_104 : decode cX12_looksAt 104 = .ok (.iload_n 1, 1) := by decide +kernel
theorem dX12_looksAt_105 : decode cX12_looksAt 105 = .ok (.iaload, 1) := by decide +kernel
theorem dX12_looksAt_106 : decode cX12_looksAt 106 = .ok (.if_icmp .le 11, 3) := by decide +kernel
theorem dX12_looksAt_109 : decode cX12_looksAt 109 = .ok (.aload_n 0, 1) := by decide +kernel
theorem dX12_looksAt_110 : decode cX12_looksAt 110 = .ok (.getfield 98, 3) := by decide +kernel
theorem dX12_looksAt_113 : decode cX12_looksAt 113 = .ok (.iload_n 1, 1) := by decide +kernel
theorem dX12_looksAt_114 : decode cX12_looksAt 114 = .ok (.iload 6, 2) := by decide +kernel
theorem dX12_looksAt_116 : decode cX12_looksAt 116 = .ok (.iastore, 1) := by decide +kernel
theorem dX12_looksAt_117 : decode cX12_looksAt 117 = .ok (.iinc 3 1, 3) := by decide +kernel
theorem dX12_looksAt_120 : decode cX12_looksAt 120 = .ok (.goto (-113), 3) := by decide +kernel
theorem dX12_looksAt_123 : decode cX12_looksAt 123 = .ok (.return_, 1) := by decide +kernel
set_option maxHeartbeats 4000000 in
set_option maxRecDepth 100000 in
theorem kX12_looksAt {l : Launch} {D : va_G} {cy : Nat → ClassId} {N : Nat} {q : Nat → Nat} {m0 : Nat → Value} {a0 : Nat → vp_A} {sz : Nat} (hN : 105 ≤ N) (hsh : SH q m0) {A81 : Nat → Int32} (h_A81 : a0 81 = (6002, .inl A81)) {A82 : Nat → Int32} (h_A82 : a0 82 = (84000, .inl A82)) {A83 : Nat → Int32} (h_A83 : a0 83 = (84000, .inl A83)) {A87 : Nat → Int32} (h_A87 : a0 87 = (6001, .inl A87)) {A94 : Nat → Int32} (h_A94 : a0 94 = (6001, .inl A94)) (F : Nat) (p1 : Int32) (p2 : Int32) {X0 : (Nat → Int32)} (hs0 : fX12_looksAt F A81 A82 A83 A87 A94 p1 p2 = some X0) : gMv l yX12_looksAt cX12_looksAt 7 none ({ frames := 1, cells := 0, slots := 0, locals := 20 } : Room) D cy N q m0 a0 sz [.ref (q 69), .int p1, .int p2] (fun m' a' => m' = m0 ∧ a' 94 = (6001, .inl X0) ∧ (∀ j, nel j [94] = false → a' j = a0 j)) := by
  refine g_ofv (by decide) (Nat.le_of_ble_eq_true rfl) ?_
  intro p e s M args below meth c hx hb hr hG hown hin hlocks hml hW hS ls hl
  unfold fX12_looksAt at hs0
  have hoffa : ∀ j, nel j [94] = false → a0 j = a0 j := off0
  refine lv_aload_n hx hb dX12_looksAt_0 rfl (lv_at hl 0 rfl) ?_
  refine gf12_29 hx hb hG hown hW (o := 69) (ltN hN 69 rfl) gk69 (v := .ref (q 81)) (sh69_29 hsh) gx177 dX12_looksAt_1 ?_
  refine lv_iload_n hx hb dX12_looksAt_4 rfl (lv_at hl 2 rfl) ?_
  obtain ⟨hi1, hs0⟩ := oif hs0
  refine g_iald hx hb hW (o := 81) (ltN hN 81 rfl) gk81 ((hoffa 81 rfl).trans h_A81) (vin hi1) dX12_looksAt_5 ?_
  refine lv_istore_n (lv' := [(3, .int (A81 p2.toNatClampNeg)), (0, .ref (q 69)), (1, .int p1), (2, .int p2)]) hx hb dX12_looksAt_6 rfl hl (by decide) rfl (fun ls hl => ?_)
  obtain ⟨r2, hg2, hs0⟩ := obind hs0
  have hE1_123 : ∀ (t2_123 : (Nat → Int32)) (hr2 : t2_123 = r2) (a : Nat → vp_A) (H : Heap) (locs : List Loc) (w_A94 : a 94 = (6001, .inl t2_123)) (hoffa : ∀ j, nel j [94] = false → a j = a0 j) (ls : Array Slot) (hl : lv_has ls 7 []) (hW : GW D cy (gA N q s.heap.size) N q m0 a s H) (hS : va_S (gA N q s.heap.size) s.heap H locs), W p l e ({ frames := 1, cells := 0, slots := 0, locals := 20 } : Room) s M args below meth c H locs 0 0 (MQ below (va_Qv (fun (u : (Nat → Value) × (Nat → vp_A)) => u.1 = m0 ∧ u.2 94 = (6001, .inl X0) ∧ (∀ j, nel j [94] = false → u.2 j = a0 j)) (gB D cy N q s.heap.size) (gA N q s.heap.size)) args s 0 0 (gA N q s.heap.size)) (F0 M 123 ls []) := by
    intro t2_123 hr2 a H locs w_A94 hoffa ls hl hW hS
    subst hr2
    have hs0 := Option.some.inj hs0
    subst hs0
    exact W.vret hx hb hr (fun t ht hw => ⟨⟨(m0, a), rfl, ⟨rfl, w_A94, hoffa⟩, g_end hW ht hw⟩, hS.F ht⟩) hS.2.2 dX12_looksAt_123 hlocks
  have hL1 : ∀ (n : Nat) (v3k2 : Int32) (A94k2 : Nat → Int32) (a : Nat → vp_A) (H : Heap) (locs : List Loc) (w_A94 : a 94 = (6001, .inl A94k2)) (hoffa : ∀ j, nel j [94] = false → a j = a0 j) (ls : Array Slot) (hl : lv_has ls 7 [(0, .ref (q 69)), (1, .int p1), (2, .int p2), (3, .int v3k2)]) (hg2 : gloop (fun u2 : (Int32 × (Nat → Int32)) => fX12_looksAt_S7 F A81 A82 A83 A87 p1 p2 u2.1 u2.2) n (v3k2, A94k2) = some r2) (hW : GW D cy (gA N q s.heap.size) N q m0 a s H) (hS : va_S (gA N q s.heap.size) s.heap H locs), W p l e ({ frames := 1, cells := 0, slots := 0, locals := 20 } : Room) s M args below meth c H locs 0 0 (MQ below (va_Qv (fun (u : (Nat → Value) × (Nat → vp_A)) => u.1 = m0 ∧ u.2 94 = (6001, .inl X0) ∧ (∀ j, nel j [94] = false → u.2 j = a0 j)) (gB D cy N q s.heap.size) (gA N q s.heap.size)) args s 0 0 (gA N q s.heap.size)) (F0 M 7 ls []) := by
    intro n
    induction n with
    | zero => intro v3k2 A94k2 a H locs w_A94 hoffa ls hl hg2 hW hS; exact (gl_zero hg2).elim
    | succ n ih1 =>
      intro v3k2 A94k2 a H locs w_A94 hoffa ls hl hg2 hW hS
      obtain ⟨X1, hs1, hXl1, hXr1⟩ := gl_succ hg2
      have hs1 : fX12_looksAt_S7 F A81 A82 A83 A87 p1 p2 v3k2 A94k2 = some X1 := hs1
      unfold fX12_looksAt_S7 at hs1
      have hJ117_1 : ∀ (v3j38 : Int32) (A94j38 : Nat → Int32) (a : Nat → vp_A) (H : Heap) (locs : List Loc) (w_A94 : a 94 = (6001, .inl A94j38)) (hoffa : ∀ j, nel j [94] = false → a j = a0 j) (ls : Array Slot) (hl : lv_has ls 7 [(0, .ref (q 69)), (1, .int p1), (2, .int p2), (3, .int v3j38)]) (hs1 : fX12_looksAt_J117 F A81 A82 A83 A87 p1 p2 v3j38 A94j38 = some X1) (hW : GW D cy (gA N q s.heap.size) N q m0 a s H) (hS : va_S (gA N q s.heap.size) s.heap H locs), W p l e ({ frames := 1, cells := 0, slots := 0, locals := 20 } : Room) s M args below meth c H locs 0 0 (MQ below (va_Qv (fun (u : (Nat → Value) × (Nat → vp_A)) => u.1 = m0 ∧ u.2 94 = (6001, .inl X0) ∧ (∀ j, nel j [94] = false → u.2 j = a0 j)) (gB D cy N q s.heap.size) (gA N q s.heap.size)) args s 0 0 (gA N q s.heap.size)) (F0 M 117 ls []) := by
        intro v3j38 A94j38 a H locs w_A94 hoffa ls hl hs1 hW hS
        unfold fX12_looksAt_J117 at hs1
        refine lv_iinc (v := v3j38 + 1) (lv' := [(3, .int (v3j38 + 1)), (0, .ref (q 69)), (1, .int p1), (2, .int p2)]) hx hb dX12_looksAt_117 hl (k := 3) rfl rfl (by decide) rfl (fun ls hl => ?_)
        refine lv_goto (tgt := 7) hx hb dX12_looksAt_120 (by decide) ?_
        exact ih1 (v3j38 + 1) A94j38 a _ _ w_A94 hoffa ls (lv_sub hl [1, 2, 3, 0] rfl) (hXr1 _ (Option.some.inj hs1).symm) hW hS
      have hJ98_1 : ∀ (v3j35 : Int32) (v6j35 : Int32) (A94j35 : Nat → Int32) (a : Nat → vp_A) (H : Heap) (locs : List Loc) (w_A94 : a 94 = (6001, .inl A94j35)) (hoffa : ∀ j, nel j [94] = false → a j = a0 j) (ls : Array Slot) (hl : lv_has ls 7 [(0, .ref (q 69)), (1, .int p1), (2, .int p2), (3, .int v3j35), (6, .int v6j35)]) (hs1 : fX12_looksAt_J98 F A81 A82 A83 A87 p1 p2 v3j35 v6j35 A94j35 = some X1) (hW : GW D cy (gA N q s.heap.size) N q m0 a s H) (hS : va_S (gA N q s.heap.size) s.heap H locs), W p l e ({ frames := 1, cells := 0, slots := 0, locals := 20 } : Room) s M args below meth c H locs 0 0 (MQ below (va_Qv (fun (u : (Nat → Value) × (Nat → vp_A)) => u.1 = m0 ∧ u.2 94 = (6001, .inl X0) ∧ (∀ j, nel j [94] = false → u.2 j = a0 j)) (gB D cy N q s.heap.size) (gA N q s.heap.size)) args s 0 0 (gA N q s.heap.size)) (F0 M 98 ls []) := by
        intro v3j35 v6j35 A94j35 a H locs w_A94 hoffa ls hl hs1 hW hS
        unfold fX12_looksAt_J98 at hs1
        refine lv_iload hx hb dX12_looksAt_98 (lv_at hl 4 rfl) ?_
        refine lv_aload_n hx hb dX12_looksAt_100 rfl (lv_at hl 0 rfl) ?_
        refine gf12_46 hx hb hG hown hW (o := 69) (ltN hN 69 rfl) gk69 (v := .ref (q 94)) (sh69_46 hsh) gx192 dX12_looksAt_101 ?_
        refine lv_iload_n hx hb dX12_looksAt_104 rfl (lv_at hl 1 rfl) ?_
        obtain ⟨hi36, hs1⟩ := oif hs1
        refine g_iald hx hb hW (o := 94) (ltN hN 94 rfl) gk94 w_A94 (vin hi36) dX12_looksAt_105 ?_
        refine lv_icmp_le (tgt := 117) hx hb dX12_looksAt_106 (by decide) (fun c37 => ?_) (fun c37 => ?_)
        · rw [if_pos c37] at hs1
          exact hJ117_1 v3j35 A94j35 a _ _ w_A94 hoffa ls (lv_sub hl [0, 1, 2, 3] rfl) hs1 hW hS
        · rw [if_neg c37] at hs1
          refine lv_aload_n hx hb dX12_looksAt_109 rfl (lv_at hl 0 rfl) ?_
          refine gf12_46 hx hb hG hown hW (o := 69) (ltN hN 69 rfl) gk69 (v := .ref (q 94)) (sh69_46 hsh) gx192 dX12_looksAt_110 ?_
          refine lv_iload_n hx hb dX12_looksAt_113 rfl (lv_at hl 1 rfl) ?_
          refine lv_iload hx hb dX12_looksAt_114 (lv_at hl 4 rfl) ?_
          obtain ⟨hi39, hs1⟩ := oif hs1
          refine g_iast hx hb hW hS (o := 94) (ltN hN 94 rfl) gk94 w_A94 (vin hi39) dX12_looksAt_116 (fun a40 H locs ha40 ho40 hW hS => ?_)
          have ho40 := off1 ho40
          have w_A94 : a40 94 = (6001, .inl (upd A94j35 p1.toNatClampNeg v6j35)) := ha40
          have hoffa := offm hoffa ho40 (by decide +kernel)
          exact hJ117_1 v3j35 (upd A94j35 p1.toNatClampNeg v6j35) a40 _ _ w_A94 hoffa ls (lv_sub hl [0, 1, 2, 3] rfl) hs1 hW hS
      have hJ83_1 : ∀ (v3j32 : Int32) (s0j32 : Int32) (A94j32 : Nat → Int32) (a : Nat → vp_A) (H : Heap) (locs : List Loc) (w_A94 : a 94 = (6001, .inl A94j32)) (hoffa : ∀ j, nel j [94] = false → a j = a0 j) (ls : Array Slot) (hl : lv_has ls 7 [(0, .ref (q 69)), (1, .int p1), (2, .int p2), (3, .int v3j32)]) (hs1 : fX12_looksAt_J83 F A81 A82 A83 A87 p1 p2 v3j32 s0j32 A94j32 = some X1) (hW : GW D cy (gA N q s.heap.size) N q m0 a s H) (hS : va_S (gA N q s.heap.size) s.heap H locs), W p l e ({ frames := 1, cells := 0, slots := 0, locals := 20 } : Room) s M args below meth c H locs 0 0 (MQ below (va_Qv (fun (u : (Nat → Value) × (Nat → vp_A)) => u.1 = m0 ∧ u.2 94 = (6001, .inl X0) ∧ (∀ j, nel j [94] = false → u.2 j = a0 j)) (gB D cy N q s.heap.size) (gA N q s.heap.size)) args s 0 0 (gA N q s.heap.size)) (F0 M 83 ls [.int s0j32]) := by
        intro v3j32 s0j32 A94j32 a H locs w_A94 hoffa ls hl hs1 hW hS
        unfold fX12_looksAt_J83 at hs1
        refine lv_istore (lv' := [(6, .int s0j32), (0, .ref (q 69)), (1, .int p1), (2, .int p2), (3, .int v3j32)]) hx hb dX12_looksAt_83 hl (by decide) rfl (fun ls hl => ?_)
        refine lv_iload hx hb dX12_looksAt_85 (lv_at hl 0 rfl) ?_
        refine lv_ldcw (v := 1000000) hx hb hown (hG _ gx823) dX12_looksAt_87 ?_
        refine lv_icmp_le (tgt := 98) hx hb dX12_looksAt_90 (by decide) (fun c34 => ?_) (fun c34 => ?_)
        · rw [if_pos c34] at hs1
          exact hJ98_1 v3j32 s0j32 A94j32 a _ _ w_A94 hoffa ls (lv_sub hl [1, 2, 3, 4, 0] rfl) hs1 hW hS
        · rw [if_neg c34] at hs1
          refine lv_ldcw (v := 1000000) hx hb hown (hG _ gx823) dX12_looksAt_93 ?_
          refine lv_istore (lv' := [(6, .int 1000000), (0, .ref (q 69)), (1, .int p1), (2, .int p2), (3, .int v3j32)]) hx hb dX12_looksAt_96 hl (by decide) rfl (fun ls hl => ?_)
          exact hJ98_1 v3j32 1000000 A94j32 a _ _ w_A94 hoffa ls (lv_sub hl [1, 2, 3, 4, 0] rfl) hs1 hW hS
      have hJ36_1 : ∀ (v3j27 : Int32) (s0j27 : Int32) (A94j27 : Nat → Int32) (a : Nat → vp_A) (H : Heap) (locs : List Loc) (w_A94 : a 94 = (6001, .inl A94j27)) (hoffa : ∀ j, nel j [94] = false → a j = a0 j) (ls : Array Slot) (hl : lv_has ls 7 [(0, .ref (q 69)), (1, .int p1), (2, .int p2), (3, .int v3j27)]) (hs1 : fX12_looksAt_J36 F A81 A82 A83 A87 p1 p2 v3j27 s0j27 A94j27 = some X1) (hW : GW D cy (gA N q s.heap.size) N q m0 a s H) (hS : va_S (gA N q s.heap.size) s.heap H locs), W p l e ({ frames := 1, cells := 0, slots := 0, locals := 20 } : Room) s M args below meth c H locs 0 0 (MQ below (va_Qv (fun (u : (Nat → Value) × (Nat → vp_A)) => u.1 = m0 ∧ u.2 94 = (6001, .inl X0) ∧ (∀ j, nel j [94] = false → u.2 j = a0 j)) (gB D cy N q s.heap.size) (gA N q s.heap.size)) args s 0 0 (gA N q s.heap.size)) (F0 M 36 ls [.int s0j27]) := by
        intro v3j27 s0j27 A94j27 a H locs w_A94 hoffa ls hl hs1 hW hS
        unfold fX12_looksAt_J36 at hs1
        refine lv_istore (lv' := [(4, .int s0j27), (0, .ref (q 69)), (1, .int p1), (2, .int p2), (3, .int v3j27)]) hx hb dX12_looksAt_36 hl (by decide) rfl (fun ls hl => ?_)
        refine lv_aload_n hx hb dX12_looksAt_38 rfl (lv_at hl 1 rfl) ?_
        refine gf12_36 hx hb hG hown hW (o := 69) (ltN hN 69 rfl) gk69 (v := .ref (q 87)) (sh69_36 hsh) gx184 dX12_looksAt_39 ?_
        refine lv_aload_n hx hb dX12_looksAt_42 rfl (lv_at hl 1 rfl) ?_
        refine gf12_30 hx hb hG hown hW (o := 69) (ltN hN 69 rfl) gk69 (v := .ref (q 82)) (sh69_30 hsh) gx179 dX12_looksAt_43 ?_
        refine lv_iload_n hx hb dX12_looksAt_46 rfl (lv_at hl 4 rfl) ?_
        obtain ⟨hi28, hs1⟩ := oif hs1
        refine g_iald hx hb hW (o := 82) (ltN hN 82 rfl) gk82 ((hoffa 82 rfl).trans h_A82) (vin hi28) dX12_looksAt_47 ?_
        obtain ⟨hi29, hs1⟩ := oif hs1
        refine g_iald hx hb hW (o := 87) (ltN hN 87 rfl) gk87 ((hoffa 87 rfl).trans h_A87) (vin hi29) dX12_looksAt_48 ?_
        refine lv_istore (lv' := [(5, .int (A87 (A82 v3j27.toNatClampNeg).toNatClampNeg)), (4, .int s0j27), (0, .ref (q 69)), (1, .int p1), (2, .int p2), (3, .int v3j27)]) hx hb dX12_looksAt_49 hl (by decide) rfl (fun ls hl => ?_)
        refine lv_iload hx hb dX12_looksAt_51 (lv_at hl 0 rfl) ?_
        refine lv_iload_n hx hb dX12_looksAt_53 rfl (lv_at hl 3 rfl) ?_
        refine lv_icmp_ne (tgt := 73) hx hb dX12_looksAt_54 (by decide) (fun c30 => ?_) (fun c30 => ?_)
        · rw [if_neg c30] at hs1
          refine lv_aload_n hx hb dX12_looksAt_73 rfl (lv_at hl 2 rfl) ?_
          refine gf12_46 hx hb hG hown hW (o := 69) (ltN hN 69 rfl) gk69 (v := .ref (q 94)) (sh69_46 hsh) gx192 dX12_looksAt_74 ?_
          refine lv_iload hx hb dX12_looksAt_77 (lv_at hl 0 rfl) ?_
          obtain ⟨hi31, hs1⟩ := oif hs1
          refine g_iald hx hb hW (o := 94) (ltN hN 94 rfl) gk94 w_A94 (vin hi31) dX12_looksAt_79 ?_
          refine lv_iload hx hb dX12_looksAt_80 (lv_at hl 1 rfl) ?_
          refine lv_iadd hx hb dX12_looksAt_82 ?_
          exact hJ83_1 v3j27 ((A94j27 (A87 (A82 v3j27.toNatClampNeg).toNatClampNeg).toNatClampNeg) + s0j27) A94j27 a _ _ w_A94 hoffa ls (lv_sub hl [2, 3, 4, 5] rfl) hs1 hW hS
        · rw [if_pos c30] at hs1
          refine lv_iload hx hb dX12_looksAt_57 (lv_at hl 1 rfl) ?_
          refine lv_iconst (v := 1) hx hb dX12_looksAt_59 (by decide) ?_
          refine lv_icmp_ne (tgt := 69) hx hb dX12_looksAt_60 (by decide) (fun c33 => ?_) (fun c33 => ?_)
          · rw [if_neg c33] at hs1
            refine lv_iconst (v := 0) hx hb dX12_looksAt_69 (by decide) ?_
            refine lv_goto (tgt := 83) hx hb dX12_looksAt_70 (by decide) ?_
            exact hJ83_1 v3j27 0 A94j27 a _ _ w_A94 hoffa ls (lv_sub hl [2, 3, 4, 5] rfl) hs1 hW hS
          · rw [if_pos c33] at hs1
            refine lv_ldcw (v := 1000000) hx hb hown (hG _ gx823) dX12_looksAt_63 ?_
            refine lv_goto (tgt := 83) hx hb dX12_looksAt_66 (by decide) ?_
            exact hJ83_1 v3j27 1000000 A94j27 a _ _ w_A94 hoffa ls (lv_sub hl [2, 3, 4, 5] rfl) hs1 hW hS
      refine lv_iload_n hx hb dX12_looksAt_7 rfl (lv_at hl 3 rfl) ?_
      refine lv_aload_n hx hb dX12_looksAt_8 rfl (lv_at hl 0 rfl) ?_
      refine gf12_29 hx hb hG hown hW (o := 69) (ltN hN 69 rfl) gk69 (v := .ref (q 81)) (sh69_29 hsh) gx177 dX12_looksAt_9 ?_
      refine lv_iload_n hx hb dX12_looksAt_12 rfl (lv_at hl 2 rfl) ?_
      refine lv_iconst (v := 1) hx hb dX12_looksAt_13 (by decide) ?_
      refine lv_iadd hx hb dX12_looksAt_14 ?_
      obtain ⟨hi22, hs1⟩ := oif hs1
      refine g_iald hx hb hW (o := 81) (ltN hN 81 rfl) gk81 ((hoffa 81 rfl).trans h_A81) (vin hi22) dX12_looksAt_15 ?_
      refine lv_icmp_ge (tgt := 123) hx hb dX12_looksAt_16 (by decide) (fun c23 => ?_) (fun c23 => ?_)
      · rw [if_pos c23] at hs1
        exact hE1_123 A94k2 (hXl1 _ (Option.some.inj hs1).symm) a _ _ w_A94 hoffa ls (lv_sub hl [] rfl) hW hS
      · rw [if_neg c23] at hs1
        refine lv_aload_n hx hb dX12_looksAt_19 rfl (lv_at hl 0 rfl) ?_
        refine gf12_31 hx hb hG hown hW (o := 69) (ltN hN 69 rfl) gk69 (v := .ref (q 83)) (sh69_31 hsh) gx180 dX12_looksAt_20 ?_
        refine lv_iload_n hx hb dX12_looksAt_23 rfl (lv_at hl 3 rfl) ?_
        obtain ⟨hi24, hs1⟩ := oif hs1
        refine g_iald hx hb hW (o := 83) (ltN hN 83 rfl) gk83 ((hoffa 83 rfl).trans h_A83) (vin hi24) dX12_looksAt_24 ?_
        refine g_SiR (n := 1) hx hb hml hown hG hW hS [.int (A83 v3k2.toNatClampNeg)] (kX12_isBad hN (A83 v3k2.toNatClampNeg)) rfl (gd_S gx584 gx585 gx5 gx586) rfl rfl (by decide) ⟨Nat.le_of_ble_eq_true rfl, Nat.le_of_ble_eq_true rfl⟩ rfl hl (Nat.le_of_ble_eq_true rfl) ⟨Nat.zero_le _, Nat.zero_le _⟩ dX12_looksAt_25 (fun H locs hW hS => ?_)
        refine lv_if_eq (tgt := 35) hx hb dX12_looksAt_28 (by decide) (fun c26 => ?_) (fun c26 => ?_)
        · rw [if_pos c26] at hs1
          refine lv_iconst (v := 0) hx hb dX12_looksAt_35 (by decide) ?_
          exact hJ36_1 v3k2 0 A94k2 a _ _ w_A94 hoffa ls (lv_sub hl [0, 1, 2, 3] rfl) hs1 hW hS
        · rw [if_neg c26] at hs1
          refine lv_iconst (v := 1) hx hb dX12_looksAt_31 (by decide) ?_
          refine lv_goto (tgt := 36) hx hb dX12_looksAt_32 (by decide) ?_
          exact hJ36_1 v3k2 1 A94k2 a _ _ w_A94 hoffa ls (lv_sub hl [0, 1, 2, 3] rfl) hs1 hW hS
  exact hL1 F (A81 p2.toNatClampNeg) A94 a0 _ _ h_A94 hoffa ls (lv_sub hl [1, 2, 3, 0] rfl) hg2 hW hS
-- HealLinkModel.laysWorst ()V
def fX12_laysWorst_S17 (F : Nat) (x69_27 : Int32) (A81 : Nat → Int32) (A82 : Nat → Int32) (A83 : Nat → Int32) (x69_43 : Int32) (x69_44 : Int32) (x69_45 : Int32) (A87 : Nat → Int32) (A88 : Nat → Int32) (A90 : Nat → Int32) (A91 : Nat → Int32) (A92 : Nat → Int32) (A93 : Nat → Int32) (A94 : Nat → Int32) (A95 : Nat → Int32) (A96 : Nat → Int32) (v1 : Int32) (A89 : Nat → Int32) : Option (((Nat → Int32)) ⊕ (Int32 × (Nat → Int32))) := (if x69_27 ≤ v1 then some (Sum.inl A89) else (if inb v1 6001 = true then some (Sum.inr (v1 + 1, upd A89 v1.toNatClampNeg (-1))) else none))
def fX12_laysWorst_J62 (F : Nat) (x69_27 : Int32) (A81 : Nat → Int32) (A82 : Nat → Int32) (A83 : Nat → Int32) (v1j12 : Int32) (x69_43j12 : Int32) (x69_44j12 : Int32) (x69_45j12 : Int32) (A87j12 : Nat → Int32) (A88j12 : Nat → Int32) (A89j12 : Nat → Int32) (A90j12 : Nat → Int32) (A91j12 : Nat → Int32) (A92j12 : Nat → Int32) (A93j12 : Nat → Int32) (A94 : Nat → Int32) (A95 : Nat → Int32) (A96 : Nat → Int32) : Option ((Int32 × Int32 × Int32 × (Nat → Int32) × (Nat → Int32) × (Nat → Int32) × (Nat → Int32) × (Nat → Int32) × (Nat → Int32) × (Nat → Int32)) ⊕ (Int32 × Int32 × Int32 × Int32 × (Nat → Int32) × (Nat → Int32) × (Nat → Int32) × (Nat → Int32) × (Nat → Int32) × (Nat → Int32) × (Nat → Int32))) := some (Sum.inr (v1j12 + 1, x69_43j12, x69_44j12, x69_45j12, A87j12, A88j12, A89j12, A90j12, A91j12, A92j12, A93j12))
def fX12_laysWorst_S40 (F : Nat) (x69_27 : Int32) (A81 : Nat → Int32) (A82 : Nat → Int32) (A83 : Nat → Int32) (A94 : Nat → Int32) (A95 : Nat → Int32) (A96 : Nat → Int32) (v1 : Int32) (x69_43 : Int32) (x69_44 : Int32) (x69_45 : Int32) (A87 : Nat → Int32) (A88 : Nat → Int32) (A89 : Nat → Int32) (A90 : Nat → Int32) (A91 : Nat → Int32) (A92 : Nat → Int32) (A93 : Nat → Int32) : Option ((Int32 × Int32 × Int32 × (Nat → Int32) × (Nat → Int32) × (Nat → Int32) × (Nat → Int32) × (Nat → Int32) × (Nat → Int32) × (Nat → Int32)) ⊕ (Int32 × Int32 × Int32 × Int32 × (Nat → Int32) × (Nat → Int32) × (Nat → Int32) × (Nat → Int32) × (Nat → Int32) × (Nat → Int32) × (Nat → Int32))) := (if x69_27 ≤ v1 then some (Sum.inl (x69_43, x69_44, x69_45, A87, A88, A89, A90, A91, A92, A93)) else (if inb v1 6001 = true then (if 0 ≤ (A89 v1.toNatClampNeg) then fX12_laysWorst_J62 F x69_27 A81 A82 A83 v1 x69_43 x69_44 x69_45 A87 A88 A89 A90 A91 A92 A93 A94 A95 A96 else ((fX12_walks F A81 A82 x69_43 x69_44 x69_45 A87 A88 A89 A90 A91 A92 A93 v1).bind (fun r13 => fX12_laysWorst_J62 F x69_27 A81 A82 A83 v1 r13.1 r13.2.1 r13.2.2.1 r13.2.2.2.1 r13.2.2.2.2.1 r13.2.2.2.2.2.1 r13.2.2.2.2.2.2.1 r13.2.2.2.2.2.2.2.1 r13.2.2.2.2.2.2.2.2.1 r13.2.2.2.2.2.2.2.2.2 A94 A95 A96))) else none))
def fX12_laysWorst_S70 (F : Nat) (x69_27 : Int32) (A81 : Nat → Int32) (A82 : Nat → Int32) (A83 : Nat → Int32) (x69_43 : Int32) (x69_44 : Int32) (x69_45 : Int32) (A87 : Nat → Int32) (A88 : Nat → Int32) (A89 : Nat → Int32) (A90 : Nat → Int32) (A91 : Nat → Int32) (A92 : Nat → Int32) (A93 : Nat → Int32) (A94 : Nat → Int32) (A95 : Nat → Int32) (v1 : Int32) (A96 : Nat → Int32) : Option (((Nat → Int32)) ⊕ (Int32 × (Nat → Int32))) := (if x69_44 < v1 then some (Sum.inl A96) else (if inb v1 6002 = true then some (Sum.inr (v1 + 1, upd A96 v1.toNatClampNeg 0)) else none))
def fX12_laysWorst_S93 (F : Nat) (x69_27 : Int32) (A81 : Nat → Int32) (A82 : Nat → Int32) (A83 : Nat → Int32) (x69_43 : Int32) (x69_44 : Int32) (x69_45 : Int32) (A87 : Nat → Int32) (A88 : Nat → Int32) (A89 : Nat → Int32) (A90 : Nat → Int32) (A91 : Nat → Int32) (A92 : Nat → Int32) (A93 : Nat → Int32) (A94 : Nat → Int32) (A95 : Nat → Int32) (v1 : Int32) (A96 : Nat → Int32) : Option (((Nat → Int32)) ⊕ (Int32 × (Nat → Int32))) := (if x69_27 ≤ v1 then some (Sum.inl A96) else (if inb v1 6001 = true then (if inb ((A87 v1.toNatClampNeg) + 1) 6002 = true then (if inb ((A87 v1.toNatClampNeg) + 1) 6002 = true then some (Sum.inr (v1 + 1, upd A96 ((A87 v1.toNatClampNeg) + 1).toNatClampNeg ((A96 ((A87 v1.toNatClampNeg) + 1).toNatClampNeg) + 1))) else none) else none) else none))
def fX12_laysWorst_S126 (F : Nat) (x69_27 : Int32) (A81 : Nat → Int32) (A82 : Nat → Int32) (A83 : Nat → Int32) (x69_43 : Int32) (x69_44 : Int32) (x69_45 : Int32) (A87 : Nat → Int32) (A88 : Nat → Int32) (A89 : Nat → Int32) (A90 : Nat → Int32) (A91 : Nat → Int32) (A92 : Nat → Int32) (A93 : Nat → Int32) (A94 : Nat → Int32) (A95 : Nat → Int32) (v1 : Int32) (A96 : Nat → Int32) : Option (((Nat → Int32)) ⊕ (Int32 × (Nat → Int32))) := (if x69_44 ≤ v1 then some (Sum.inl A96) else (if inb (v1 + 1) 6002 = true then (if inb v1 6002 = true then (if inb (v1 + 1) 6002 = true then some (Sum.inr (v1 + 1, upd A96 (v1 + 1).toNatClampNeg ((A96 (v1 + 1).toNatClampNeg) + (A96 v1.toNatClampNeg)))) else none) else none) else none))
def fX12_laysWorst_S159 (F : Nat) (x69_27 : Int32) (A81 : Nat → Int32) (A82 : Nat → Int32) (A83 : Nat → Int32) (x69_43 : Int32) (x69_44 : Int32) (x69_45 : Int32) (A87 : Nat → Int32) (A88 : Nat → Int32) (A89 : Nat → Int32) (A90 : Nat → Int32) (A91 : Nat → Int32) (A92 : Nat → Int32) (A93 : Nat → Int32) (A94 : Nat → Int32) (v1 : Int32) (A95 : Nat → Int32) (A96 : Nat → Int32) : Option (((Nat → Int32) × (Nat → Int32)) ⊕ (Int32 × (Nat → Int32) × (Nat → Int32))) := (if x69_27 ≤ v1 then some (Sum.inl (A95, A96)) else (if inb v1 6001 = true then (if inb (A87 v1.toNatClampNeg) 6002 = true then (if inb (A96 (A87 v1.toNatClampNeg).toNatClampNeg) 6001 = true then (if inb v1 6001 = true then (if inb (A87 v1.toNatClampNeg) 6002 = true then (if inb (A87 v1.toNatClampNeg) 6002 = true then some (Sum.inr (v1 + 1, upd A95 (A96 (A87 v1.toNatClampNeg).toNatClampNeg).toNatClampNeg v1, upd A96 (A87 v1.toNatClampNeg).toNatClampNeg ((A96 (A87 v1.toNatClampNeg).toNatClampNeg) + 1))) else none) else none) else none) else none) else none) else none))
def fX12_laysWorst_S224 (F : Nat) (x69_27 : Int32) (A81 : Nat → Int32) (A82 : Nat → Int32) (A83 : Nat → Int32) (v2 : Int32) (x69_43 : Int32) (x69_44 : Int32) (x69_45 : Int32) (A87 : Nat → Int32) (A88 : Nat → Int32) (A89 : Nat → Int32) (A90 : Nat → Int32) (A91 : Nat → Int32) (A92 : Nat → Int32) (A93 : Nat → Int32) (A95 : Nat → Int32) (A96 : Nat → Int32) (v1 : Int32) (A94 : Nat → Int32) : Option ((Int32 × (Nat → Int32)) ⊕ (Int32 × (Nat → Int32))) := (if inb v2 6002 = true then (if (A96 v2.toNatClampNeg) ≤ v1 then some (Sum.inl (v1, A94)) else (if inb v1 6001 = true then ((fX12_looksAt F A81 A82 A83 A87 A94 v2 (A95 v1.toNatClampNeg)).bind (fun r48 => some (Sum.inr (v1 + 1, r48)))) else none)) else none)
def fX12_laysWorst_S209 (F : Nat) (x69_27 : Int32) (A81 : Nat → Int32) (A82 : Nat → Int32) (A83 : Nat → Int32) (x69_43 : Int32) (x69_44 : Int32) (x69_45 : Int32) (A87 : Nat → Int32) (A88 : Nat → Int32) (A89 : Nat → Int32) (A90 : Nat → Int32) (A91 : Nat → Int32) (A92 : Nat → Int32) (A93 : Nat → Int32) (A95 : Nat → Int32) (A96 : Nat → Int32) (v1 : Int32) (v2 : Int32) (A94 : Nat → Int32) : Option (((Nat → Int32)) ⊕ (Int32 × Int32 × (Nat → Int32))) := (if x69_44 ≤ v2 then some (Sum.inl A94) else (if inb v2 6001 = true then (gloop (fun u44 : (Int32 × (Nat → Int32)) => fX12_laysWorst_S224 F x69_27 A81 A82 A83 v2 x69_43 x69_44 x69_45 A87 A88 A89 A90 A91 A92 A93 A95 A96 u44.1 u44.2) F (v1, upd A94 v2.toNatClampNeg 0)).bind (fun t44_251 => some (Sum.inr (t44_251.1, v2 + 1, t44_251.2))) else none))
def fX12_laysWorst (F : Nat) (x69_27 : Int32) (A81 : Nat → Int32) (A82 : Nat → Int32) (A83 : Nat → Int32) (x69_43 : Int32) (x69_44 : Int32) (x69_45 : Int32) (A87 : Nat → Int32) (A88 : Nat → Int32) (A89 : Nat → Int32) (A90 : Nat → Int32) (A91 : Nat → Int32) (A92 : Nat → Int32) (A93 : Nat → Int32) (A94 : Nat → Int32) (A95 : Nat → Int32) (A96 : Nat → Int32) : Option (Int32 × Int32 × Int32 × (Nat → Int32) × (Nat → Int32) × (Nat → Int32) × (Nat → Int32) × (Nat → Int32) × (Nat → Int32) × (Nat → Int32) × (Nat → Int32) × (Nat → Int32) × (Nat → Int32)) := (gloop (fun u4 : (Int32 × (Nat → Int32)) => fX12_laysWorst_S17 F x69_27 A81 A82 A83 0 0 0 A87 A88 A90 A91 A92 A93 A94 A95 A96 u4.1 u4.2) F (0, A89)).bind (fun t4_38 => (gloop (fun u8 : (Int32 × Int32 × Int32 × Int32 × (Nat → Int32) × (Nat → Int32) × (Nat → Int32) × (Nat → Int32) × (Nat → Int32) × (Nat → Int32) × (Nat → Int32)) => fX12_laysWorst_S40 F x69_27 A81 A82 A83 A94 A95 A96 u8.1 u8.2.1 u8.2.2.1 u8.2.2.2.1 u8.2.2.2.2.1 u8.2.2.2.2.2.1 u8.2.2.2.2.2.2.1 u8.2.2.2.2.2.2.2.1 u8.2.2.2.2.2.2.2.2.1 u8.2.2.2.2.2.2.2.2.2.1 u8.2.2.2.2.2.2.2.2.2.2) F (0, 0, 0, 0, A87, A88, t4_38, A90, A91, A92, A93)).bind (fun t8_68 => (gloop (fun u14 : (Int32 × (Nat → Int32)) => fX12_laysWorst_S70 F x69_27 A81 A82 A83 t8_68.1 t8_68.2.1 t8_68.2.2.1 t8_68.2.2.2.1 t8_68.2.2.2.2.1 t8_68.2.2.2.2.2.1 t8_68.2.2.2.2.2.2.1 t8_68.2.2.2.2.2.2.2.1 t8_68.2.2.2.2.2.2.2.2.1 t8_68.2.2.2.2.2.2.2.2.2 A94 A95 u14.1 u14.2) F (0, A96)).bind (fun t14_91 => (gloop (fun u18 : (Int32 × (Nat → Int32)) => fX12_laysWorst_S93 F x69_27 A81 A82 A83 t8_68.1 t8_68.2.1 t8_68.2.2.1 t8_68.2.2.2.1 t8_68.2.2.2.2.1 t8_68.2.2.2.2.2.1 t8_68.2.2.2.2.2.2.1 t8_68.2.2.2.2.2.2.2.1 t8_68.2.2.2.2.2.2.2.2.1 t8_68.2.2.2.2.2.2.2.2.2 A94 A95 u18.1 u18.2) F (0, t14_91)).bind (fun t18_124 => (gloop (fun u24 : (Int32 × (Nat → Int32)) => fX12_laysWorst_S126 F x69_27 A81 A82 A83 t8_68.1 t8_68.2.1 t8_68.2.2.1 t8_68.2.2.2.1 t8_68.2.2.2.2.1 t8_68.2.2.2.2.2.1 t8_68.2.2.2.2.2.2.1 t8_68.2.2.2.2.2.2.2.1 t8_68.2.2.2.2.2.2.2.2.1 t8_68.2.2.2.2.2.2.2.2.2 A94 A95 u24.1 u24.2) F (0, t18_124)).bind (fun t24_157 => (gloop (fun u30 : (Int32 × (Nat → Int32) × (Nat → Int32)) => fX12_laysWorst_S159 F x69_27 A81 A82 A83 t8_68.1 t8_68.2.1 t8_68.2.2.1 t8_68.2.2.2.1 t8_68.2.2.2.2.1 t8_68.2.2.2.2.2.1 t8_68.2.2.2.2.2.2.1 t8_68.2.2.2.2.2.2.2.1 t8_68.2.2.2.2.2.2.2.2.1 t8_68.2.2.2.2.2.2.2.2.2 A94 u30.1 u30.2.1 u30.2.2) F (0, A95, t24_157)).bind (fun t30_205 => (gloop (fun u40 : (Int32 × Int32 × (Nat → Int32)) => fX12_laysWorst_S209 F x69_27 A81 A82 A83 t8_68.1 t8_68.2.1 t8_68.2.2.1 t8_68.2.2.2.1 t8_68.2.2.2.2.1 t8_68.2.2.2.2.2.1 t8_68.2.2.2.2.2.2.1 t8_68.2.2.2.2.2.2.2.1 t8_68.2.2.2.2.2.2.2.2.1 t8_68.2.2.2.2.2.2.2.2.2 t30_205.1 t30_205.2 u40.1 u40.2.1 u40.2.2) F (0, 0, A94)).bind (fun t40_257 => some (t8_68.1, t8_68.2.1, t8_68.2.2.1, t8_68.2.2.2.1, t8_68.2.2.2.2.1, t8_68.2.2.2.2.2.1, t8_68.2.2.2.2.2.2.1, t8_68.2.2.2.2.2.2.2.1, t8_68.2.2.2.2.2.2.2.2.1, t8_68.2.2.2.2.2.2.2.2.2, t40_257, t30_205.1, t30_205.2))))))))
theorem dX12_laysWorst_0 : decode cX12_laysWorst 0 = .ok (.aload_n 0, 1) := by decide +kernel
theorem dX12_laysWorst_1 : decode cX12_laysWorst 1 = .ok (.iconst 0, 1) := by decide +kernel
theorem dX12_laysWorst_2 : decode cX12_laysWorst 2 = .ok (.putfield 288, 3) := by decide +kernel
theorem dX12_laysWorst_5 : decode cX12_laysWorst 5 = .ok (.aload_n 0, 1) := by decide +kernel
theorem dX12_laysWorst_6 : decode cX12_laysWorst 6 = .ok (.iconst 0, 1) := by decide +kernel
theorem dX12_laysWorst_7 : decode cX12_laysWorst 7 = .ok (.putfield 282, 3) := by decide +kernel
theorem dX12_laysWorst_10 : decode cX12_laysWorst 10 = .ok (.aload_n 0, 1) := by decide +kernel
theorem dX12_laysWorst_11 : decode cX12_laysWorst 11 = .ok (.iconst 0, 1) := by decide +kernel
theorem dX12_laysWorst_12 : decode cX12_laysWorst 12 = .ok (.putfield 285, 3) := by decide +kernel
theorem dX12_laysWorst_15 : decode cX12_laysWorst 15 = .ok (.iconst 0, 1) := by decide +kernel
theorem dX12_laysWorst_16 : decode cX12_laysWorst 16 = .ok (.istore_n 1, 1) := by decide +kernel
theorem dX12_laysWorst_17 : decode cX12_laysWorst 17 = .ok (.iload_n 1, 1) := by decide +kernel
theorem dX12_laysWorst_18 : decode cX12_laysWorst 18 = .ok (.aload_n 0, 1) := by decide +kernel
theorem dX12_laysWorst_19 : decode cX12_laysWorst 19 = .ok (.getfield 255, 3) := by decide +kernel
theorem dX12_laysWorst_22 : decode cX12_laysWorst 22 = .ok (.if_icmp .ge 16, 3) := by decide +kernel
theorem dX12_laysWorst_25 : decode cX12_laysWorst 25 = .ok (.aload_n 0, 1) := by decide +kernel
theorem dX12_laysWorst_26 : decode cX12_laysWorst 26 = .ok (.getfield 82, 3) := by decide +kernel
theorem dX12_laysWorst_29 : decode cX12_laysWorst 29 = .ok (.iload_n 1, 1) := by decide +kernel
theorem dX12_laysWorst_30 : decode cX12_laysWorst 30 = .ok (.iconst (-1), 1) := by decide +kernel
theorem dX12_laysWorst_31 : decode cX12_laysWorst 31 = .ok (.iastore, 1) := by decide +kernel
theorem dX12_laysWorst_32 : decode cX12_laysWorst 32 = .ok (.iinc 1 1, 3) := by decide +kernel
theorem dX12_laysWorst_35 : decode cX12_laysWorst 35 = .ok (.goto (-18), 3) := by decide +kernel
theorem dX12_laysWorst_38 : decode cX12_laysWorst 38 = .ok (.iconst 0, 1) := by decide +kernel
theorem dX12_laysWorst_39 : decode cX12_laysWorst 39 = .ok (.istore_n 1, 1) := by decide +kernel
theorem dX12_laysWorst_40 : decode cX12_laysWorst 40 = .ok (.iload_n 1, 1) := by decide +kernel
theorem dX12_laysWorst_41 : decode cX12_laysWorst 41 = .ok (.aload_n 0, 1) := by decide +kernel
theorem dX12_laysWorst_42 : decode cX12_laysWorst 42 = .ok (.getfield 255, 3) := by decide +kernel
theorem dX12_laysWorst_45 : decode cX12_laysWorst 45 = .ok (.if_icmp .ge 23, 3) := by decide +kernel
theorem dX12_laysWorst_48 : decode cX12_laysWorst 48 = .ok (.aload_n 0, 1) := by decide +kernel
theorem dX12_laysWorst_49 : decode cX12_laysWorst 49 = .ok (.getfield 82, 3) := by decide +kernel
theorem dX12_laysWorst_52 : decode cX12_laysWorst 52 = .ok (.iload_n 1, 1) := by decide +kernel
theorem dX12_laysWorst_53 : decode cX12_laysWorst 53 = .ok (.iaload, 1) := by decide +kernel
theorem dX12_laysWorst_54 : decode cX12_laysWorst 54 = .ok (.ifCond .ge 8, 3) := by decide +kernel
theorem dX12_laysWorst_57 : decode cX12_laysWorst 57 = .ok (.aload_n 0, 1) := by decide +kernel
theorem dX12_laysWorst_58 : decode cX12_laysWorst 58 = .ok (.iload_n 1, 1) := by decide +kernel
theorem dX12_laysWorst_59 : decode cX12_laysWorst 59 = .ok (.invokevirtual 297, 3) := by decide +kernel
theorem dX12_laysWorst_62 : decode cX12_laysWorst 62 = .ok (.iinc 1 1, 3) := by decide +kernel
theorem dX12_laysWorst_65 : decode cX12_laysWorst 65 = .ok (.goto (-25), 3) := by decide +kernel
theorem dX12_laysWorst_68 : decode cX12_laysWorst 68 = .ok (.iconst 0, 1) := by decide +kernel
theorem dX12_laysWorst_69 : decode cX12_laysWorst 69 = .ok (.istore_n 1, 1) := by decide +kernel
theorem dX12_laysWorst_70 : decode cX12_laysWorst 70 = .ok (.iload_n 1, 1) := by decide +kernel
theorem dX12_laysWorst_71 : decode cX12_laysWorst 71 = .ok (.aload_n 0, 1) := by decide +kernel
theorem dX12_laysWorst_72 : decode cX12_laysWorst 72 = .ok (.getfield 288, 3) := by decide +kernel
theorem dX12_laysWorst_75 : decode cX12_laysWorst 75 = .ok (.if_icmp .gt 16, 3) := by decide +kernel
theorem dX12_laysWorst_78 : decode cX12_laysWorst 78 = .ok (.aload_n 0, 1) := by decide +kernel
theorem dX12_laysWorst_79 : decode cX12_laysWorst 79 = .ok (.getfield 104, 3) := by decide +kernel
theorem dX12_laysWorst_82 : decode cX12_laysWorst 82 = .ok (.iload_n 1, 1) := by decide +kernel
theorem dX12_laysWorst_83 : decode cX12_laysWorst 83 = .ok (.iconst 0, 1) := by decide +kernel
theorem dX12_laysWorst_84 : decode cX12_laysWorst 84 = .ok (.iastore, 1) := by decide +kernel
theorem dX12_laysWorst_85 : decode cX12_laysWorst 85 = .ok (.iinc 1 1, 3) := by decide +kernel
theorem dX12_laysWorst_88 : decode cX12_laysWorst 88 = .ok (.goto (-18), 3) := by decide +kernel
theorem dX12_laysWorst_91 : decode cX12_laysWorst 91 = .ok (.iconst 0, 1) := by decide +kernel
theorem dX12_laysWorst_92 : decode cX12_laysWorst 92 = .ok (.istore_n 1, 1) := by decide +kernel
theorem dX12_laysWorst_93 : decode cX12_laysWorst 93 = .ok (.iload_n 1, 1) := by decide +kernel
theorem dX12_laysWorst_94 : decode cX12_laysWorst 94 = .ok (.aload_n 0, 1) := by decide +kernel
theorem dX12_laysWorst_95 : decode cX12_laysWorst 95 = .ok (.getfield 255, 3) := by decide +kernel
theorem dX12_laysWorst_98 : decode cX12_laysWorst 98 = .ok (.if_icmp .ge 26, 3) := by decide +kernel
theorem dX12_laysWorst_101 : decode cX12_laysWorst 101 = .ok (.aload_n 0, 1) := by decide +kernel
theorem dX12_laysWorst_102 : decode cX12_laysWorst 102 = .ok (.getfield 104, 3) := by decide +kernel
theorem dX12_laysWorst_105 : decode cX12_laysWorst 105 = .ok (.aload_n 0, 1) := by decide +kernel
theorem dX12_laysWorst_106 : decode cX12_laysWorst 106 = .ok (.getfield 76, 3) := by decide +kernel
theorem dX12_laysWorst_109 : decode cX12_laysWorst 109 = .ok (.iload_n 1, 1) := by decide +kernel
theorem dX12_laysWorst_110 : decode cX12_laysWorst 110 = .ok (.iaload, 1) := by decide +kernel
theorem dX12_laysWorst_111 : decode cX12_laysWorst 111 = .ok (.iconst 1, 1) := by decide +kernel
theorem dX12_laysWorst_112 : decode cX12_laysWorst 112 = .ok (.iadd, 1) := by decide +kernel
theorem dX12_laysWorst_113 : decode cX12_laysWorst 113 = .ok (.dup2, 1) := by decide +kernel
theorem dX12_laysWorst_114 : decode cX12_laysWorst 114 = .ok (.iaload, 1) := by decide +kernel
theorem dX12_laysWorst_115 : decode cX12_laysWorst 115 = .ok (.iconst 1, 1) := by decide +kernel
theorem dX12_laysWorst_116 : decode cX12_laysWorst 116 = .ok (.iadd, 1) := by decide +kernel
theorem dX12_laysWorst_117 : decode cX12_laysWorst 117 = .ok (.iastore, 1) := by decide +kernel
theorem dX12_laysWorst_118 : decode cX12_laysWorst 118 = .ok (.iinc 1 1, 3) := by decide +kernel
theorem dX12_laysWorst_121 : decode cX12_laysWorst 121 = .ok (.goto (-28), 3) := by decide +kernel
theorem dX12_laysWorst_124 : decode cX12_laysWorst 124 = .ok (.iconst 0, 1) := by decide +kernel
theorem dX12_laysWorst_125 : decode cX12_laysWorst 125 = .ok (.istore_n 1, 1) := by decide +kernel
theorem dX12_laysWorst_126 : decode cX12_laysWorst 126 = .ok (.iload_n 1, 1) := by decide +kernel
theorem dX12_laysWorst_127 : decode cX12_laysWorst 127 = .ok (.aload_n 0, 1) := by decide +kernel
theorem dX12_laysWorst_128 : decode cX12_laysWorst 128 = .ok (.getfield 288, 3) := by decide +kernel
theorem dX12_laysWorst_131 : decode cX12_laysWorst 131 = .ok (.if_icmp .ge 26, 3) := by decide +kernel
theorem dX12_laysWorst_134 : decode cX12_laysWorst 134 = .ok (.aload_n 0, 1) := by decide +kernel
theorem dX12_laysWorst_135 : decode cX12_laysWorst 135 = .ok (.getfield 104, 3) := by decide +kernel
theorem dX12_laysWorst_138 : decode cX12_laysWorst 138 = .ok (.iload_n 1, 1) := by decide +kernel
theorem dX12_laysWorst_139 : decode cX12_laysWorst 139 = .ok (.iconst 1, 1) := by decide +kernel
theorem dX12_laysWorst_140 : decode cX12_laysWorst 140 = .ok (.iadd, 1) := by decide +kernel
theorem dX12_laysWorst_141 : decode cX12_laysWorst 141 = .ok (.dup2, 1) := by decide +kernel
theorem dX12_laysWorst_142 : decode cX12_laysWorst 142 = .ok (.iaload, 1) := by decide +kernel
theorem dX12_laysWorst_143 : decode cX12_laysWorst 143 = .ok (.aload_n 0, 1) := by decide +kernel
theorem dX12_laysWorst_144 : decode cX12_laysWorst 144 = .ok (.getfield 104, 3) := by decide +kernel
theorem dX12_laysWorst_147 : decode cX12_laysWorst 147 = .ok (.iload_n 1, 1) := by decide +kernel
theorem dX12_laysWorst_148 : decode cX12_laysWorst 148 = .ok (.iaload, 1) := by decide +kernel
theorem dX12_laysWorst_149 : decode cX12_laysWorst 149 = .ok (.iadd, 1) := by decide +kernel
theorem dX12_laysWorst_150 : decode cX12_laysWorst 150 = .ok (.iastore, 1) := by decide +kernel
theorem dX12_laysWorst_151 : decode cX12_laysWorst 151 = .ok (.iinc 1 1, 3) := by decide +kernel
theorem dX12_laysWorst_154 : decode cX12_laysWorst 154 = .ok (.goto (-28), 3) := by decide +kernel
theorem dX12_laysWorst_157 : decode cX12_laysWorst 157 = .ok (.iconst 0, 1) := by decide +kernel
theorem dX12_laysWorst_158 : decode cX12_laysWorst 158 = .ok (.istore_n 1, 1) := by decide +kernel
theorem dX12_laysWorst_159 : decode cX12_laysWorst 159 = .ok (.iload_n 1, 1) := by decide +kernel
theorem dX12_laysWorst_160 : decode cX12_laysWorst 160 = .ok (.aload_n 0, 1) := by decide +kernel
theorem dX12_laysWorst_161 : decode cX12_laysWorst 161 = .ok (.getfield 255, 3) := by decide +kernel
theorem dX12_laysWorst_164 : decode cX12_laysWorst 164 = .ok (.if_icmp .ge 41, 3) := by decide +kernel
theorem dX12_laysWorst_167 : decode cX12_laysWorst 167 = .ok (.aload_n 0, 1) := by decide +kernel
theorem dX12_laysWorst_168 : decode cX12_laysWorst 168 = .ok (.getfield 101, 3) := by decide +kernel
theorem dX12_laysWorst_171 : decode cX12_laysWorst 171 = .ok (.aload_n 0, 1) := by decide +kernel
theorem dX12_laysWorst_172 : decode cX12_laysWorst 172 = .ok (.getfield 104, 3) := by decide +kernel
theorem dX12_laysWorst_175 : decode cX12_laysWorst 175 = .ok (.aload_n 0, 1) := by decide +kernel
theorem dX12_laysWorst_176 : decode cX12_laysWorst 176 = .ok (.getfield 76, 3) := by decide +kernel
theorem dX12_laysWorst_179 : decode cX12_laysWorst 179 = .ok (.iload_n 1, 1) := by decide +kernel
theorem dX12_laysWorst_180 : decode cX12_laysWorst 180 = .ok (.iaload, 1) := by decide +kernel
theorem dX12_laysWorst_181 : decode cX12_laysWorst 181 = .ok (.iaload, 1) := by decide +kernel
theorem dX12_laysWorst_182 : decode cX12_laysWorst 182 = .ok (.iload_n 1, 1) := by decide +kernel
theorem dX12_laysWorst_183 : decode cX12_laysWorst 183 = .ok (.iastore, 1) := by decide +kernel
theorem dX12_laysWorst_184 : decode cX12_laysWorst 184 = .ok (.aload_n 0, 1) := by decide +kernel
theorem dX12_laysWorst_185 : decode cX12_laysWorst 185 = .ok (.getfield 104, 3) := by decide +kernel
theorem dX12_laysWorst_188 : decode cX12_laysWorst 188 = .ok (.aload_n 0, 1) := by decide +kernel
theorem dX12_laysWorst_189 : decode cX12_laysWorst 189 = .ok (.getfield 76, 3) := by decide +kernel
theorem dX12_laysWorst_192 : decode cX12_laysWorst 192 = .ok (.iload_n 1, 1) := by decide +kernel
theorem dX12_laysWorst_193 : decode cX12_laysWorst 193 = .ok (.iaload, 1) := by decide +kernel
theorem dX12_laysWorst_194 : decode cX12_laysWorst 194 = .ok (.dup2, 1) := by decide +kernel
theorem dX12_laysWorst_195 : decode cX12_laysWorst 195 = .ok (.iaload, 1) := by decide +kernel
theorem dX12_laysWorst_196 : decode cX12_laysWorst 196 = .ok (.iconst 1, 1) := by decide +kernel
theorem dX12_laysWorst_197 : decode cX12_laysWorst 197 = .ok (.iadd, 1) := by decide +kernel
theorem dX12_laysWorst_198 : decode cX12_laysWorst 198 = .ok (.iastore, 1) := by decide +kernel
theorem dX12_laysWorst_199 : decode cX12_laysWorst 199 = .ok (.iinc 1 1, 3) := by decide +kernel
theorem dX12_laysWorst_202 : decode cX12_laysWorst 202 = .ok (.goto (-43), 3) := by decide +kernel
theorem dX12_laysWorst_205 : decode cX12_laysWorst 205 = .ok (.iconst 0, 1) := by decide +kernel
theorem dX12_laysWorst_206 : decode cX12_laysWorst 206 = .ok (.istore_n 1, 1) := by decide +kernel
theorem dX12_laysWorst_207 : decode cX12_laysWorst 207 = .ok (.iconst 0, 1) := by decide +kernel
theorem dX12_laysWorst_208 : decode cX12_laysWorst 208 = .ok (.istore_n 2, 1) := by decide +kernel
theorem dX12_laysWorst_209 : decode cX12_laysWorst 209 = .ok (.iload_n 2, 1) := by decide +kernel
theorem dX12_laysWorst_210 : decode cX12_laysWorst 210 = .ok (.aload_n 0, 1) := by decide +kernel
theorem dX12_laysWorst_211 : decode cX12_laysWorst 211 = .ok (.getfield 288, 3) := by decide +kernel
theorem dX12_laysWorst_214 : decode cX12_laysWorst 214 = .ok (.if_icmp .ge 43, 3) := by decide +kernel
theorem dX12_laysWorst_217 : decode cX12_laysWorst 217 = .ok (.aload_n 0, 1) := by decide +kernel
theorem dX12_laysWorst_218 : decode cX12_laysWorst 218 = .ok (.getfield 98, 3) := by decide +kernel
theorem dX12_laysWorst_221 : decode cX12_laysWorst 221 = .ok (.iload_n 2, 1) := by decide +kernel
theorem dX12_laysWorst_222 : decode cX12_laysWorst 222 = .ok (.iconst 0, 1) := by decide +kernel
theorem dX12_laysWorst_223 : decode cX12_laysWorst 223 = .ok (.iastore, 1) := by decide +kernel
theorem dX12_laysWorst_224 : decode cX12_laysWorst 224 = .ok (.iload_n 1, 1) := by decide +kernel
theorem dX12_laysWorst_225 : decode cX12_laysWorst 225 = .ok (.aload_n 0, 1) := by decide +kernel
theorem dX12_laysWorst_226 : decode cX12_laysWorst 226 = .ok (.getfield 104, 3) := by decide +kernel
theorem dX12_laysWorst_229 : decode cX12_laysWorst 229 = .ok (.iload_n 2, 1) := by decide +kernel
theorem dX12_laysWorst_230 : decode cX12_laysWorst 230 = .ok (.iaload, 1) := by decide +kernel
theorem dX12_laysWorst_231 : decode cX12_laysWorst 231 = .ok (.if_icmp .ge 20, 3) := by decide +kernel
theorem dX12_laysWorst_234 : decode cX12_laysWorst 234 = .ok (.aload_n 0, 1) := by decide +kernel
theorem dX12_laysWorst_235 : decode cX12_laysWorst 235 = .ok (.iload_n 2, 1) := by decide +kernel
theorem dX12_laysWorst_236 : decode cX12_laysWorst 236 = .ok (.aload_n 0, 1) := by decide +kernel
theorem dX12_laysWorst_237 : decode cX12_laysWorst 237 = .ok (.getfield 101, 3) := by decide +kernel
theorem dX12_laysWorst_240 : decode cX12_laysWorst 240 = .ok (.iload_n 1, 1) := by decide +kernel
theorem dX12_laysWorst_241 : decode cX12_laysWorst 241 = .ok (.iaload, 1) := by decide +kernel
theorem dX12_laysWorst_242 : decode cX12_laysWorst 242 = .ok (.invokevirtual 300, 3) := by decide +kernel
theorem dX12_laysWorst_245 : decode cX12_laysWorst 245 = .ok (.iinc 1 1, 3) := by decide +kernel
theorem dX12_laysWorst_248 : decode cX12_laysWorst 248 = .ok (.goto (-24), 3) := by decide +kernel
theorem dX12_laysWorst_251 : decode cX12_laysWorst 251 = .ok (.iinc 2 1, 3) := by decide +kernel
theorem dX12_laysWorst_254 : decode cX12_laysWorst 254 = .ok (.goto (-45), 3) := by decide +kernel
theorem dX12_laysWorst_257 : decode cX12_laysWorst 257 = .ok (.return_, 1) := by decide +kernel
set_option maxHeartbeats 4000000 in
set_option maxRecDepth 100000 in
theorem kX12_laysWorst {l : Launch} {D : va_G} {cy : Nat → ClassId} {N : Nat} {q : Nat → Nat} {m0 : Nat → Value} {a0 : Nat → vp_A} {sz : Nat} (hN : 105 ≤ N) (hsh : SH q m0) {x69_27 : Int32} (h_x69_27 : m0 6927 = .int x69_27) {A81 : Nat → Int32} (h_A81 : a0 81 = (6002, .inl A81)) {A82 : Nat → Int32} (h_A82 : a0 82 = (84000, .inl A82)) {A83 : Nat → Int32} (h_A83 : a0 83 = (84000, .inl A83)) {x69_43 : Int32} (h_x69_43 : m0 6943 = .int x69_43) {x69_44 : Int32} (h_x69_44 : m0 6944 = .int x69_44) {x69_45 : Int32} (h_x69_45 : m0 6945 = .int x69_45) {A87 : Nat → Int32} (h_A87 : a0 87 = (6001, .inl A87)) {A88 : Nat → Int32} (h_A88 : a0 88 = (6001, .inl A88)) {A89 : Nat → Int32} (h_A89 : a0 89 = (6001, .inl A89)) {A90 : Nat → Int32} (h_A90 : a0 90 = (6001, .inl A90)) {A91 : Nat → Int32} (h_A91 : a0 91 = (6001, .inl A91)) {A92 : Nat → Int32} (h_A92 : a0 92 = (6001, .inl A92)) {A93 : Nat → Int32} (h_A93 : a0 93 = (6001, .inl A93)) {A94 : Nat → Int32} (h_A94 : a0 94 = (6001, .inl A94)) {A95 : Nat → Int32} (h_A95 : a0 95 = (6001, .inl A95)) {A96 : Nat → Int32} (h_A96 : a0 96 = (6002, .inl A96)) (F : Nat) {X0 : Int32 × Int32 × Int32 × (Nat → Int32) × (Nat → Int32) × (Nat → Int32) × (Nat → Int32) × (Nat → Int32) × (Nat → Int32) × (Nat → Int32) × (Nat → Int32) × (Nat → Int32) × (Nat → Int32)} (hs0 : fX12_laysWorst F x69_27 A81 A82 A83 x69_43 x69_44 x69_45 A87 A88 A89 A90 A91 A92 A93 A94 A95 A96 = some X0) : gMv l yX12_laysWorst cX12_laysWorst 3 none ({ frames := 2, cells := 0, slots := 0, locals := 46 } : Room) D cy N q m0 a0 sz [.ref (q 69)] (fun m' a' => m' 6943 = .int X0.1 ∧ m' 6944 = .int X0.2.1 ∧ m' 6945 = .int X0.2.2.1 ∧ (∀ j, nel j [6943, 6944, 6945] = false → m' j = m0 j) ∧ a' 87 = (6001, .inl X0.2.2.2.1) ∧ a' 88 = (6001, .inl X0.2.2.2.2.1) ∧ a' 89 = (6001, .inl X0.2.2.2.2.2.1) ∧ a' 90 = (6001, .inl X0.2.2.2.2.2.2.1) ∧ a' 91 = (6001, .inl X0.2.2.2.2.2.2.2.1) ∧ a' 92 = (6001, .inl X0.2.2.2.2.2.2.2.2.1) ∧ a' 93 = (6001, .inl X0.2.2.2.2.2.2.2.2.2.1) ∧ a' 94 = (6001, .inl X0.2.2.2.2.2.2.2.2.2.2.1) ∧ a' 95 = (6001, .inl X0.2.2.2.2.2.2.2.2.2.2.2.1) ∧ a' 96 = (6002, .inl X0.2.2.2.2.2.2.2.2.2.2.2.2) ∧ (∀ j, nel j [87, 88, 89, 90, 91, 92, 93, 94, 95, 96] = false → a' j = a0 j)) := by
  refine g_ofv (by decide) (Nat.le_of_ble_eq_true rfl) ?_
  intro p e s M args below meth c hx hb hr hG hown hin hlocks hml hW hS ls hl
  unfold fX12_laysWorst at hs0
  have hoff : ∀ j, nel j [6943, 6944, 6945] = false → m0 j = m0 j := off0
  have hoffa : ∀ j, nel j [87, 88, 89, 90, 91, 92, 93, 94, 95, 96] = false → a0 j = a0 j := off0
  refine lv_aload_n hx hb dX12_laysWorst_0 rfl (lv_at hl 0 rfl) ?_
  refine lv_iconst (v := 0) hx hb dX12_laysWorst_1 (by decide) ?_
  refine gp12_44 hx hb hG hown hW hS (o := 69) (ltN hN 69 rfl) gk69 (v := 0) gx804 dX12_laysWorst_2 (fun m1 H locs hm1 ho1 hW hS => ?_)
  have ho1 := off1 ho1
  have w_x69_43 : m1 6943 = .int x69_43 := (ho1 6943 rfl).trans h_x69_43
  have w_x69_44 : m1 6944 = .int 0 := hm1
  have w_x69_45 : m1 6945 = .int x69_45 := (ho1 6945 rfl).trans h_x69_45
  have hoff := offm hoff ho1 (by decide +kernel)
  have hsh := SH.off hsh ho1 (by decide +kernel)
  refine lv_aload_n hx hb dX12_laysWorst_5 rfl (lv_at hl 0 rfl) ?_
  refine lv_iconst (v := 0) hx hb dX12_laysWorst_6 (by decide) ?_
  refine gp12_45 hx hb hG hown hW hS (o := 69) (ltN hN 69 rfl) gk69 (v := 0) gx805 dX12_laysWorst_7 (fun m2 H locs hm2 ho2 hW hS => ?_)
  have ho2 := off1 ho2
  have w_x69_43 : m2 6943 = .int x69_43 := (ho2 6943 rfl).trans w_x69_43
  have w_x69_44 : m2 6944 = .int 0 := (ho2 6944 rfl).trans w_x69_44
  have w_x69_45 : m2 6945 = .int 0 := hm2
  have hoff := offm hoff ho2 (by decide +kernel)
  have hsh := SH.off hsh ho2 (by decide +kernel)
  refine lv_aload_n hx hb dX12_laysWorst_10 rfl (lv_at hl 0 rfl) ?_
  refine lv_iconst (v := 0) hx hb dX12_laysWorst_11 (by decide) ?_
  refine gp12_43 hx hb hG hown hW hS (o := 69) (ltN hN 69 rfl) gk69 (v := 0) gx806 dX12_laysWorst_12 (fun m3 H locs hm3 ho3 hW hS => ?_)
  have ho3 := off1 ho3
  have w_x69_43 : m3 6943 = .int 0 := hm3
  have w_x69_44 : m3 6944 = .int 0 := (ho3 6944 rfl).trans w_x69_44
  have w_x69_45 : m3 6945 = .int 0 := (ho3 6945 rfl).trans w_x69_45
  have hoff := offm hoff ho3 (by decide +kernel)
  have hsh := SH.off hsh ho3 (by decide +kernel)
  refine lv_iconst (v := 0) hx hb dX12_laysWorst_15 (by decide) ?_
  refine lv_istore_n (lv' := [(1, .int 0), (0, .ref (q 69))]) hx hb dX12_laysWorst_16 rfl hl (by decide) rfl (fun ls hl => ?_)
  obtain ⟨r4, hg4, hs0⟩ := obind hs0
  have hE1_38 : ∀ (t4_38 : (Nat → Int32)) (hr4 : t4_38 = r4) (m : Nat → Value) (a : Nat → vp_A) (H : Heap) (locs : List Loc) (w_x69_43 : m 6943 = .int 0) (w_x69_44 : m 6944 = .int 0) (w_x69_45 : m 6945 = .int 0) (hoff : ∀ j, nel j [6943, 6944, 6945] = false → m j = m0 j) (hsh : SH q m) (w_A87 : a 87 = (6001, .inl A87)) (w_A88 : a 88 = (6001, .inl A88)) (w_A89 : a 89 = (6001, .inl t4_38)) (w_A90 : a 90 = (6001, .inl A90)) (w_A91 : a 91 = (6001, .inl A91)) (w_A92 : a 92 = (6001, .inl A92)) (w_A93 : a 93 = (6001, .inl A93)) (w_A94 : a 94 = (6001, .inl A94)) (w_A95 : a 95 = (6001, .inl A95)) (w_A96 : a 96 = (6002, .inl A96)) (hoffa : ∀ j, nel j [87, 88, 89, 90, 91, 92, 93, 94, 95, 96] = false → a j = a0 j) (ls : Array Slot) (hl : lv_has ls 3 [(0, .ref (q 69))]) (hW : GW D cy (gA N q s.heap.size) N q m a s H) (hS : va_S (gA N q s.heap.size) s.heap H locs), W p l e ({ frames := 2, cells := 0, slots := 0, locals := 46 } : Room) s M args below meth c H locs 0 0 (MQ below (va_Qv (fun (u : (Nat → Value) × (Nat → vp_A)) => u.1 6943 = .int X0.1 ∧ u.1 6944 = .int X0.2.1 ∧ u.1 6945 = .int X0.2.2.1 ∧ (∀ j, nel j [6943, 6944, 6945] = false → u.1 j = m0 j) ∧ u.2 87 = (6001, .inl X0.2.2.2.1) ∧ u.2 88 = (6001, .inl X0.2.2.2.2.1) ∧ u.2 89 = (6001, .inl X0.2.2.2.2.2.1) ∧ u.2 90 = (6001, .inl X0.2.2.2.2.2.2.1) ∧ u.2 91 = (6001, .inl X0.2.2.2.2.2.2.2.1) ∧ u.2 92 = (6001, .inl X0.2.2.2.2.2.2.2.2.1) ∧ u.2 93 = (6001, .inl X0.2.2.2.2.2.2.2.2.2.1) ∧ u.2 94 = (6001, .inl X0.2.2.2.2.2.2.2.2.2.2.1) ∧ u.2 95 = (6001, .inl X0.2.2.2.2.2.2.2.2.2.2.2.1) ∧ u.2 96 = (6002, .inl X0.2.2.2.2.2.2.2.2.2.2.2.2) ∧ (∀ j, nel j [87, 88, 89, 90, 91, 92, 93, 94, 95, 96] = false → u.2 j = a0 j)) (gB D cy N q s.heap.size) (gA N q s.heap.size)) args s 0 0 (gA N q s.heap.size)) (F0 M 38 ls []) := by
    intro t4_38 hr4 m a H locs w_x69_43 w_x69_44 w_x69_45 hoff hsh w_A87 w_A88 w_A89 w_A90 w_A91 w_A92 w_A93 w_A94 w_A95 w_A96 hoffa ls hl hW hS
    subst hr4
    refine lv_iconst (v := 0) hx hb dX12_laysWorst_38 (by decide) ?_
    refine lv_istore_n (lv' := [(1, .int 0), (0, .ref (q 69))]) hx hb dX12_laysWorst_39 rfl hl (by decide) rfl (fun ls hl => ?_)
    obtain ⟨r8, hg8, hs0⟩ := obind hs0
    have hE1_68 : ∀ (t8_68 : Int32 × Int32 × Int32 × (Nat → Int32) × (Nat → Int32) × (Nat → Int32) × (Nat → Int32) × (Nat → Int32) × (Nat → Int32) × (Nat → Int32)) (hr8 : t8_68 = r8) (m : Nat → Value) (a : Nat → vp_A) (H : Heap) (locs : List Loc) (w_x69_43 : m 6943 = .int t8_68.1) (w_x69_44 : m 6944 = .int t8_68.2.1) (w_x69_45 : m 6945 = .int t8_68.2.2.1) (hoff : ∀ j, nel j [6943, 6944, 6945] = false → m j = m0 j) (hsh : SH q m) (w_A87 : a 87 = (6001, .inl t8_68.2.2.2.1)) (w_A88 : a 88 = (6001, .inl t8_68.2.2.2.2.1)) (w_A89 : a 89 = (6001, .inl t8_68.2.2.2.2.2.1)) (w_A90 : a 90 = (6001, .inl t8_68.2.2.2.2.2.2.1)) (w_A91 : a 91 = (6001, .inl t8_68.2.2.2.2.2.2.2.1)) (w_A92 : a 92 = (6001, .inl t8_68.2.2.2.2.2.2.2.2.1)) (w_A93 : a 93 = (6001, .inl t8_68.2.2.2.2.2.2.2.2.2)) (w_A94 : a 94 = (6001, .inl A94)) (w_A95 : a 95 = (6001, .inl A95)) (w_A96 : a 96 = (6002, .inl A96)) (hoffa : ∀ j, nel j [87, 88, 89, 90, 91, 92, 93, 94, 95, 96] = false → a j = a0 j) (ls : Array Slot) (hl : lv_has ls 3 [(0, .ref (q 69))]) (hW : GW D cy (gA N q s.heap.size) N q m a s H) (hS : va_S (gA N q s.heap.size) s.heap H locs), W p l e ({ frames := 2, cells := 0, slots := 0, locals := 46 } : Room) s M args below meth c H locs 0 0 (MQ below (va_Qv (fun (u : (Nat → Value) × (Nat → vp_A)) => u.1 6943 = .int X0.1 ∧ u.1 6944 = .int X0.2.1 ∧ u.1 6945 = .int X0.2.2.1 ∧ (∀ j, nel j [6943, 6944, 6945] = false → u.1 j = m0 j) ∧ u.2 87 = (6001, .inl X0.2.2.2.1) ∧ u.2 88 = (6001, .inl X0.2.2.2.2.1) ∧ u.2 89 = (6001, .inl X0.2.2.2.2.2.1) ∧ u.2 90 = (6001, .inl X0.2.2.2.2.2.2.1) ∧ u.2 91 = (6001, .inl X0.2.2.2.2.2.2.2.1) ∧ u.2 92 = (6001, .inl X0.2.2.2.2.2.2.2.2.1) ∧ u.2 93 = (6001, .inl X0.2.2.2.2.2.2.2.2.2.1) ∧ u.2 94 = (6001, .inl X0.2.2.2.2.2.2.2.2.2.2.1) ∧ u.2 95 = (6001, .inl X0.2.2.2.2.2.2.2.2.2.2.2.1) ∧ u.2 96 = (6002, .inl X0.2.2.2.2.2.2.2.2.2.2.2.2) ∧ (∀ j, nel j [87, 88, 89, 90, 91, 92, 93, 94, 95, 96] = false → u.2 j = a0 j)) (gB D cy N q s.heap.size) (gA N q s.heap.size)) args s 0 0 (gA N q s.heap.size)) (F0 M 68 ls []) := by
      intro t8_68 hr8 m a H locs w_x69_43 w_x69_44 w_x69_45 hoff hsh w_A87 w_A88 w_A89 w_A90 w_A91 w_A92 w_A93 w_A94 w_A95 w_A96 hoffa ls hl hW hS
      subst hr8
      refine lv_iconst (v := 0) hx hb dX12_laysWorst_68 (by decide) ?_
      refine lv_istore_n (lv' := [(1, .int 0), (0, .ref (q 69))]) hx hb dX12_laysWorst_69 rfl hl (by decide) rfl (fun ls hl => ?_)
      obtain ⟨r14, hg14, hs0⟩ := obind hs0
      have hE1_91 : ∀ (t14_91 : (Nat → Int32)) (hr14 : t14_91 = r14) (m : Nat → Value) (a : Nat → vp_A) (H : Heap) (locs : List Loc) (w_x69_43 : m 6943 = .int t8_68.1) (w_x69_44 : m 6944 = .int t8_68.2.1) (w_x69_45 : m 6945 = .int t8_68.2.2.1) (hoff : ∀ j, nel j [6943, 6944, 6945] = false → m j = m0 j) (hsh : SH q m) (w_A87 : a 87 = (6001, .inl t8_68.2.2.2.1)) (w_A88 : a 88 = (6001, .inl t8_68.2.2.2.2.1)) (w_A89 : a 89 = (6001, .inl t8_68.2.2.2.2.2.1)) (w_A90 : a 90 = (6001, .inl t8_68.2.2.2.2.2.2.1)) (w_A91 : a 91 = (6001, .inl t8_68.2.2.2.2.2.2.2.1)) (w_A92 : a 92 = (6001, .inl t8_68.2.2.2.2.2.2.2.2.1)) (w_A93 : a 93 = (6001, .inl t8_68.2.2.2.2.2.2.2.2.2)) (w_A94 : a 94 = (6001, .inl A94)) (w_A95 : a 95 = (6001, .inl A95)) (w_A96 : a 96 = (6002, .inl t14_91)) (hoffa : ∀ j, nel j [87, 88, 89, 90, 91, 92, 93, 94, 95, 96] = false → a j = a0 j) (ls : Array Slot) (hl : lv_has ls 3 [(0, .ref (q 69))]) (hW : GW D cy (gA N q s.heap.size) N q m a s H) (hS : va_S (gA N q s.heap.size) s.heap H locs), W p l e ({ frames := 2, cells := 0, slots := 0, locals := 46 } : Room) s M args below meth c H locs 0 0 (MQ below (va_Qv (fun (u : (Nat → Value) × (Nat → vp_A)) => u.1 6943 = .int X0.1 ∧ u.1 6944 = .int X0.2.1 ∧ u.1 6945 = .int X0.2.2.1 ∧ (∀ j, nel j [6943, 6944, 6945] = false → u.1 j = m0 j) ∧ u.2 87 = (6001, .inl X0.2.2.2.1) ∧ u.2 88 = (6001, .inl X0.2.2.2.2.1) ∧ u.2 89 = (6001, .inl X0.2.2.2.2.2.1) ∧ u.2 90 = (6001, .inl X0.2.2.2.2.2.2.1) ∧ u.2 91 = (6001, .inl X0.2.2.2.2.2.2.2.1) ∧ u.2 92 = (6001, .inl X0.2.2.2.2.2.2.2.2.1) ∧ u.2 93 = (6001, .inl X0.2.2.2.2.2.2.2.2.2.1) ∧ u.2 94 = (6001, .inl X0.2.2.2.2.2.2.2.2.2.2.1) ∧ u.2 95 = (6001, .inl X0.2.2.2.2.2.2.2.2.2.2.2.1) ∧ u.2 96 = (6002, .inl X0.2.2.2.2.2.2.2.2.2.2.2.2) ∧ (∀ j, nel j [87, 88, 89, 90, 91, 92, 93, 94, 95, 96] = false → u.2 j = a0 j)) (gB D cy N q s.heap.size) (gA N q s.heap.size)) args s 0 0 (gA N q s.heap.size)) (F0 M 91 ls []) := by
        intro t14_91 hr14 m a H locs w_x69_43 w_x69_44 w_x69_45 hoff hsh w_A87 w_A88 w_A89 w_A90 w_A91 w_A92 w_A93 w_A94 w_A95 w_A96 hoffa ls hl hW hS
        subst hr14
        refine lv_iconst (v := 0) hx hb dX12_laysWorst_91 (by decide) ?_
        refine lv_istore_n (lv' := [(1, .int 0), (0, .ref (q 69))]) hx hb dX12_laysWorst_92 rfl hl (by decide) rfl (fun ls hl => ?_)
        obtain ⟨r18, hg18, hs0⟩ := obind hs0
        have hE1_124 : ∀ (t18_124 : (Nat → Int32)) (hr18 : t18_124 = r18) (m : Nat → Value) (a : Nat → vp_A) (H : Heap) (locs : List Loc) (w_x69_43 : m 6943 = .int t8_68.1) (w_x69_44 : m 6944 = .int t8_68.2.1) (w_x69_45 : m 6945 = .int t8_68.2.2.1) (hoff : ∀ j, nel j [6943, 6944, 6945] = false → m j = m0 j) (hsh : SH q m) (w_A87 : a 87 = (6001, .inl t8_68.2.2.2.1)) (w_A88 : a 88 = (6001, .inl t8_68.2.2.2.2.1)) (w_A89 : a 89 = (6001, .inl t8_68.2.2.2.2.2.1)) (w_A90 : a 90 = (6001, .inl t8_68.2.2.2.2.2.2.1)) (w_A91 : a 91 = (6001, .inl t8_68.2.2.2.2.2.2.2.1)) (w_A92 : a 92 = (6001, .inl t8_68.2.2.2.2.2.2.2.2.1)) (w_A93 : a 93 = (6001, .inl t8_68.2.2.2.2.2.2.2.2.2)) (w_A94 : a 94 = (6001, .inl A94)) (w_A95 : a 95 = (6001, .inl A95)) (w_A96 : a 96 = (6002, .inl t18_124)) (hoffa : ∀ j, nel j [87, 88, 89, 90, 91, 92, 93, 94, 95, 96] = false → a j = a0 j) (ls : Array Slot) (hl : lv_has ls 3 [(0, .ref (q 69))]) (hW : GW D cy (gA N q s.heap.size) N q m a s H) (hS : va_S (gA N q s.heap.size) s.heap H locs), W p l e ({ frames := 2, cells := 0, slots := 0, locals := 46 } : Room) s M args below meth c H locs 0 0 (MQ below (va_Qv (fun (u : (Nat → Value) × (Nat → vp_A)) => u.1 6943 = .int X0.1 ∧ u.1 6944 = .int X0.2.1 ∧ u.1 6945 = .int X0.2.2.1 ∧ (∀ j, nel j [6943, 6944, 6945] = false → u.1 j = m0 j) ∧ u.2 87 = (6001, .inl X0.2.2.2.1) ∧ u.2 88 = (6001, .inl X0.2.2.2.2.1) ∧ u.2 89 = (6001, .inl X0.2.2.2.2.2.1) ∧ u.2 90 = (6001, .inl X0.2.2.2.2.2.2.1) ∧ u.2 91 = (6001, .inl X0.2.2.2.2.2.2.2.1) ∧ u.2 92 = (6001, .inl X0.2.2.2.2.2.2.2.2.1) ∧ u.2 93 = (6001, .inl X0.2.2.2.2.2.2.2.2.2.1) ∧ u.2 94 = (6001, .inl X0.2.2.2.2.2.2.2.2.2.2.1) ∧ u.2 95 = (6001, .inl X0.2.2.2.2.2.2.2.2.2.2.2.1) ∧ u.2 96 = (6002, .inl X0.2.2.2.2.2.2.2.2.2.2.2.2) ∧ (∀ j, nel j [87, 88, 89, 90, 91, 92, 93, 94, 95, 96] = false → u.2 j = a0 j)) (gB D cy N q s.heap.size) (gA N q s.heap.size)) args s 0 0 (gA N q s.heap.size)) (F0 M 124 ls []) := by
          intro t18_124 hr18 m a H locs w_x69_43 w_x69_44 w_x69_45 hoff hsh w_A87 w_A88 w_A89 w_A90 w_A91 w_A92 w_A93 w_A94 w_A95 w_A96 hoffa ls hl hW hS
          subst hr18
          refine lv_iconst (v := 0) hx hb dX12_laysWorst_124 (by decide) ?_
          refine lv_istore_n (lv' := [(1, .int 0), (0, .ref (q 69))]) hx hb dX12_laysWorst_125 rfl hl (by decide) rfl (fun ls hl => ?_)
          obtain ⟨r24, hg24, hs0⟩ := obind hs0
          have hE1_157 : ∀ (t24_157 : (Nat → Int32)) (hr24 : t24_157 = r24) (m : Nat → Value) (a : Nat → vp_A) (H : Heap) (locs : List Loc) (w_x69_43 : m 6943 = .int t8_68.1) (w_x69_44 : m 6944 = .int t8_68.2.1) (w_x69_45 : m 6945 = .int t8_68.2.2.1) (hoff : ∀ j, nel j [6943, 6944, 6945] = false → m j = m0 j) (hsh : SH q m) (w_A87 : a 87 = (6001, .inl t8_68.2.2.2.1)) (w_A88 : a 88 = (6001, .inl t8_68.2.2.2.2.1)) (w_A89 : a 89 = (6001, .inl t8_68.2.2.2.2.2.1)) (w_A90 : a 90 = (6001, .inl t8_68.2.2.2.2.2.2.1)) (w_A91 : a 91 = (6001, .inl t8_68.2.2.2.2.2.2.2.1)) (w_A92 : a 92 = (6001, .inl t8_68.2.2.2.2.2.2.2.2.1)) (w_A93 : a 93 = (6001, .inl t8_68.2.2.2.2.2.2.2.2.2)) (w_A94 : a 94 = (6001, .inl A94)) (w_A95 : a 95 = (6001, .inl A95)) (w_A96 : a 96 = (6002, .inl t24_157)) (hoffa : ∀ j, nel j [87, 88, 89, 90, 91, 92, 93, 94, 95, 96] = false → a j = a0 j) (ls : Array Slot) (hl : lv_has ls 3 [(0, .ref (q 69))]) (hW : GW D cy (gA N q s.heap.size) N q m a s H) (hS : va_S (gA N q s.heap.size) s.heap H locs), W p l e ({ frames := 2, cells := 0, slots := 0, locals := 46 } : Room) s M args below meth c H locs 0 0 (MQ below (va_Qv (fun (u : (Nat → Value) × (Nat → vp_A)) => u.1 6943 = .int X0.1 ∧ u.1 6944 = .int X0.2.1 ∧ u.1 6945 = .int X0.2.2.1 ∧ (∀ j, nel j [6943, 6944, 6945] = false → u.1 j = m0 j) ∧ u.2 87 = (6001, .inl X0.2.2.2.1) ∧ u.2 88 = (6001, .inl X0.2.2.2.2.1) ∧ u.2 89 = (6001, .inl X0.2.2.2.2.2.1) ∧ u.2 90 = (6001, .inl X0.2.2.2.2.2.2.1) ∧ u.2 91 = (6001, .inl X0.2.2.2.2.2.2.2.1) ∧ u.2 92 = (6001, .inl X0.2.2.2.2.2.2.2.2.1) ∧ u.2 93 = (6001, .inl X0.2.2.2.2.2.2.2.2.2.1) ∧ u.2 94 = (6001, .inl X0.2.2.2.2.2.2.2.2.2.2.1) ∧ u.2 95 = (6001, .inl X0.2.2.2.2.2.2.2.2.2.2.2.1) ∧ u.2 96 = (6002, .inl X0.2.2.2.2.2.2.2.2.2.2.2.2) ∧ (∀ j, nel j [87, 88, 89, 90, 91, 92, 93, 94, 95, 96] = false → u.2 j = a0 j)) (gB D cy N q s.heap.size) (gA N q s.heap.size)) args s 0 0 (gA N q s.heap.size)) (F0 M 157 ls []) := by
            intro t24_157 hr24 m a H locs w_x69_43 w_x69_44 w_x69_45 hoff hsh w_A87 w_A88 w_A89 w_A90 w_A91 w_A92 w_A93 w_A94 w_A95 w_A96 hoffa ls hl hW hS
            subst hr24
            refine lv_iconst (v := 0) hx hb dX12_laysWorst_157 (by decide) ?_
            refine lv_istore_n (lv' := [(1, .int 0), (0, .ref (q 69))]) hx hb dX12_laysWorst_158 rfl hl (by decide) rfl (fun ls hl => ?_)
            obtain ⟨r30, hg30, hs0⟩ := obind hs0
            have hE1_205 : ∀ (t30_205 : (Nat → Int32) × (Nat → Int32)) (hr30 : t30_205 = r30) (m : Nat → Value) (a : Nat → vp_A) (H : Heap) (locs : List Loc) (w_x69_43 : m 6943 = .int t8_68.1) (w_x69_44 : m 6944 = .int t8_68.2.1) (w_x69_45 : m 6945 = .int t8_68.2.2.1) (hoff : ∀ j, nel j [6943, 6944, 6945] = false → m j = m0 j) (hsh : SH q m) (w_A87 : a 87 = (6001, .inl t8_68.2.2.2.1)) (w_A88 : a 88 = (6001, .inl t8_68.2.2.2.2.1)) (w_A89 : a 89 = (6001, .inl t8_68.2.2.2.2.2.1)) (w_A90 : a 90 = (6001, .inl t8_68.2.2.2.2.2.2.1)) (w_A91 : a 91 = (6001, .inl t8_68.2.2.2.2.2.2.2.1)) (w_A92 : a 92 = (6001, .inl t8_68.2.2.2.2.2.2.2.2.1)) (w_A93 : a 93 = (6001, .inl t8_68.2.2.2.2.2.2.2.2.2)) (w_A94 : a 94 = (6001, .inl A94)) (w_A95 : a 95 = (6001, .inl t30_205.1)) (w_A96 : a 96 = (6002, .inl t30_205.2)) (hoffa : ∀ j, nel j [87, 88, 89, 90, 91, 92, 93, 94, 95, 96] = false → a j = a0 j) (ls : Array Slot) (hl : lv_has ls 3 [(0, .ref (q 69))]) (hW : GW D cy (gA N q s.heap.size) N q m a s H) (hS : va_S (gA N q s.heap.size) s.heap H locs), W p l e ({ frames := 2, cells := 0, slots := 0, locals := 46 } : Room) s M args below meth c H locs 0 0 (MQ below (va_Qv (fun (u : (Nat → Value) × (Nat → vp_A)) => u.1 6943 = .int X0.1 ∧ u.1 6944 = .int X0.2.1 ∧ u.1 6945 = .int X0.2.2.1 ∧ (∀ j, nel j [6943, 6944, 6945] = false → u.1 j = m0 j) ∧ u.2 87 = (6001, .inl X0.2.2.2.1) ∧ u.2 88 = (6001, .inl X0.2.2.2.2.1) ∧ u.2 89 = (6001, .inl X0.2.2.2.2.2.1) ∧ u.2 90 = (6001, .inl X0.2.2.2.2.2.2.1) ∧ u.2 91 = (6001, .inl X0.2.2.2.2.2.2.2.1) ∧ u.2 92 = (6001, .inl X0.2.2.2.2.2.2.2.2.1) ∧ u.2 93 = (6001, .inl X0.2.2.2.2.2.2.2.2.2.1) ∧ u.2 94 = (6001, .inl X0.2.2.2.2.2.2.2.2.2.2.1) ∧ u.2 95 = (6001, .inl X0.2.2.2.2.2.2.2.2.2.2.2.1) ∧ u.2 96 = (6002, .inl X0.2.2.2.2.2.2.2.2.2.2.2.2) ∧ (∀ j, nel j [87, 88, 89, 90, 91, 92, 93, 94, 95, 96] = false → u.2 j = a0 j)) (gB D cy N q s.heap.size) (gA N q s.heap.size)) args s 0 0 (gA N q s.heap.size)) (F0 M 205 ls []) := by
              intro t30_205 hr30 m a H locs w_x69_43 w_x69_44 w_x69_45 hoff hsh w_A87 w_A88 w_A89 w_A90 w_A91 w_A92 w_A93 w_A94 w_A95 w_A96 hoffa ls hl hW hS
              subst hr30
              refine lv_iconst (v := 0) hx hb dX12_laysWorst_205 (by decide) ?_
              refine lv_istore_n (lv' := [(1, .int 0), (0, .ref (q 69))]) hx hb dX12_laysWorst_206 rfl hl (by decide) rfl (fun ls hl => ?_)
              refine lv_iconst (v := 0) hx hb dX12_laysWorst_207 (by decide) ?_
              refine lv_istore_n (lv' := [(2, .int 0), (1, .int 0), (0, .ref (q 69))]) hx hb dX12_laysWorst_208 rfl hl (by decide) rfl (fun ls hl => ?_)
              obtain ⟨r40, hg40, hs0⟩ := obind hs0
              have hE1_257 : ∀ (t40_257 : (Nat → Int32)) (hr40 : t40_257 = r40) (m : Nat → Value) (a : Nat → vp_A) (H : Heap) (locs : List Loc) (w_x69_43 : m 6943 = .int t8_68.1) (w_x69_44 : m 6944 = .int t8_68.2.1) (w_x69_45 : m 6945 = .int t8_68.2.2.1) (hoff : ∀ j, nel j [6943, 6944, 6945] = false → m j = m0 j) (hsh : SH q m) (w_A87 : a 87 = (6001, .inl t8_68.2.2.2.1)) (w_A88 : a 88 = (6001, .inl t8_68.2.2.2.2.1)) (w_A89 : a 89 = (6001, .inl t8_68.2.2.2.2.2.1)) (w_A90 : a 90 = (6001, .inl t8_68.2.2.2.2.2.2.1)) (w_A91 : a 91 = (6001, .inl t8_68.2.2.2.2.2.2.2.1)) (w_A92 : a 92 = (6001, .inl t8_68.2.2.2.2.2.2.2.2.1)) (w_A93 : a 93 = (6001, .inl t8_68.2.2.2.2.2.2.2.2.2)) (w_A94 : a 94 = (6001, .inl t40_257)) (w_A95 : a 95 = (6001, .inl t30_205.1)) (w_A96 : a 96 = (6002, .inl t30_205.2)) (hoffa : ∀ j, nel j [87, 88, 89, 90, 91, 92, 93, 94, 95, 96] = false → a j = a0 j) (ls : Array Slot) (hl : lv_has ls 3 []) (hW : GW D cy (gA N q s.heap.size) N q m a s H) (hS : va_S (gA N q s.heap.size) s.heap H locs), W p l e ({ frames := 2, cells := 0, slots := 0, locals := 46 } : Room) s M args below meth c H locs 0 0 (MQ below (va_Qv (fun (u : (Nat → Value) × (Nat → vp_A)) => u.1 6943 = .int X0.1 ∧ u.1 6944 = .int X0.2.1 ∧ u.1 6945 = .int X0.2.2.1 ∧ (∀ j, nel j [6943, 6944, 6945] = false → u.1 j = m0 j) ∧ u.2 87 = (6001, .inl X0.2.2.2.1) ∧ u.2 88 = (6001, .inl X0.2.2.2.2.1) ∧ u.2 89 = (6001, .inl X0.2.2.2.2.2.1) ∧ u.2 90 = (6001, .inl X0.2.2.2.2.2.2.1) ∧ u.2 91 = (6001, .inl X0.2.2.2.2.2.2.2.1) ∧ u.2 92 = (6001, .inl X0.2.2.2.2.2.2.2.2.1) ∧ u.2 93 = (6001, .inl X0.2.2.2.2.2.2.2.2.2.1) ∧ u.2 94 = (6001, .inl X0.2.2.2.2.2.2.2.2.2.2.1) ∧ u.2 95 = (6001, .inl X0.2.2.2.2.2.2.2.2.2.2.2.1) ∧ u.2 96 = (6002, .inl X0.2.2.2.2.2.2.2.2.2.2.2.2) ∧ (∀ j, nel j [87, 88, 89, 90, 91, 92, 93, 94, 95, 96] = false → u.2 j = a0 j)) (gB D cy N q s.heap.size) (gA N q s.heap.size)) args s 0 0 (gA N q s.heap.size)) (F0 M 257 ls []) := by
                intro t40_257 hr40 m a H locs w_x69_43 w_x69_44 w_x69_45 hoff hsh w_A87 w_A88 w_A89 w_A90 w_A91 w_A92 w_A93 w_A94 w_A95 w_A96 hoffa ls hl hW hS
                subst hr40
                have hs0 := Option.some.inj hs0
                subst hs0
                exact W.vret hx hb hr (fun t ht hw => ⟨⟨(m, a), rfl, ⟨w_x69_43, w_x69_44, w_x69_45, hoff, w_A87, w_A88, w_A89, w_A90, w_A91, w_A92, w_A93, w_A94, w_A95, w_A96, hoffa⟩, g_end hW ht hw⟩, hS.F ht⟩) hS.2.2 dX12_laysWorst_257 hlocks
              have hL1 : ∀ (n : Nat) (v1k40 : Int32) (v2k40 : Int32) (A94k40 : Nat → Int32) (m : Nat → Value) (a : Nat → vp_A) (H : Heap) (locs : List Loc) (w_x69_43 : m 6943 = .int t8_68.1) (w_x69_44 : m 6944 = .int t8_68.2.1) (w_x69_45 : m 6945 = .int t8_68.2.2.1) (hoff : ∀ j, nel j [6943, 6944, 6945] = false → m j = m0 j) (hsh : SH q m) (w_A87 : a 87 = (6001, .inl t8_68.2.2.2.1)) (w_A88 : a 88 = (6001, .inl t8_68.2.2.2.2.1)) (w_A89 : a 89 = (6001, .inl t8_68.2.2.2.2.2.1)) (w_A90 : a 90 = (6001, .inl t8_68.2.2.2.2.2.2.1)) (w_A91 : a 91 = (6001, .inl t8_68.2.2.2.2.2.2.2.1)) (w_A92 : a 92 = (6001, .inl t8_68.2.2.2.2.2.2.2.2.1)) (w_A93 : a 93 = (6001, .inl t8_68.2.2.2.2.2.2.2.2.2)) (w_A94 : a 94 = (6001, .inl A94k40)) (w_A95 : a 95 = (6001, .inl t30_205.1)) (w_A96 : a 96 = (6002, .inl t30_205.2)) (hoffa : ∀ j, nel j [87, 88, 89, 90, 91, 92, 93, 94, 95, 96] = false → a j = a0 j) (ls : Array Slot) (hl : lv_has ls 3 [(0, .ref (q 69)), (1, .int v1k40), (2, .int v2k40)]) (hg40 : gloop (fun u40 : (Int32 × Int32 × (Nat → Int32)) => fX12_laysWorst_S209 F x69_27 A81 A82 A83 t8_68.1 t8_68.2.1 t8_68.2.2.1 t8_68.2.2.2.1 t8_68.2.2.2.2.1 t8_68.2.2.2.2.2.1 t8_68.2.2.2.2.2.2.1 t8_68.2.2.2.2.2.2.2.1 t8_68.2.2.2.2.2.2.2.2.1 t8_68.2.2.2.2.2.2.2.2.2 t30_205.1 t30_205.2 u40.1 u40.2.1 u40.2.2) n (v1k40, v2k40, A94k40) = some r40) (hW : GW D cy (gA N q s.heap.size) N q m a s H) (hS : va_S (gA N q s.heap.size) s.heap H locs), W p l e ({ frames := 2, cells := 0, slots := 0, locals := 46 } : Room) s M args below meth c H locs 0 0 (MQ below (va_Qv (fun (u : (Nat → Value) × (Nat → vp_A)) => u.1 6943 = .int X0.1 ∧ u.1 6944 = .int X0.2.1 ∧ u.1 6945 = .int X0.2.2.1 ∧ (∀ j, nel j [6943, 6944, 6945] = false → u.1 j = m0 j) ∧ u.2 87 = (6001, .inl X0.2.2.2.1) ∧ u.2 88 = (6001, .inl X0.2.2.2.2.1) ∧ u.2 89 = (6001, .inl X0.2.2.2.2.2.1) ∧ u.2 90 = (6001, .inl X0.2.2.2.2.2.2.1) ∧ u.2 91 = (6001, .inl X0.2.2.2.2.2.2.2.1) ∧ u.2 92 = (6001, .inl X0.2.2.2.2.2.2.2.2.1) ∧ u.2 93 = (6001, .inl X0.2.2.2.2.2.2.2.2.2.1) ∧ u.2 94 = (6001, .inl X0.2.2.2.2.2.2.2.2.2.2.1) ∧ u.2 95 = (6001, .inl X0.2.2.2.2.2.2.2.2.2.2.2.1) ∧ u.2 96 = (6002, .inl X0.2.2.2.2.2.2.2.2.2.2.2.2) ∧ (∀ j, nel j [87, 88, 89, 90, 91, 92, 93, 94, 95, 96] = false → u.2 j = a0 j)) (gB D cy N q s.heap.size) (gA N q s.heap.size)) args s 0 0 (gA N q s.heap.size)) (F0 M 209 ls []) := by
                intro n
                induction n with
                | zero => intro v1k40 v2k40 A94k40 m a H locs w_x69_43 w_x69_44 w_x69_45 hoff hsh w_A87 w_A88 w_A89 w_A90 w_A91 w_A92 w_A93 w_A94 w_A95 w_A96 hoffa ls hl hg40 hW hS; exact (gl_zero hg40).elim
                | succ n ih1 =>
                  intro v1k40 v2k40 A94k40 m a H locs w_x69_43 w_x69_44 w_x69_45 hoff hsh w_A87 w_A88 w_A89 w_A90 w_A91 w_A92 w_A93 w_A94 w_A95 w_A96 hoffa ls hl hg40 hW hS
                  obtain ⟨X1, hs1, hXl1, hXr1⟩ := gl_succ hg40
                  have hs1 : fX12_laysWorst_S209 F x69_27 A81 A82 A83 t8_68.1 t8_68.2.1 t8_68.2.2.1 t8_68.2.2.2.1 t8_68.2.2.2.2.1 t8_68.2.2.2.2.2.1 t8_68.2.2.2.2.2.2.1 t8_68.2.2.2.2.2.2.2.1 t8_68.2.2.2.2.2.2.2.2.1 t8_68.2.2.2.2.2.2.2.2.2 t30_205.1 t30_205.2 v1k40 v2k40 A94k40 = some X1 := hs1
                  unfold fX12_laysWorst_S209 at hs1
                  refine lv_iload_n hx hb dX12_laysWorst_209 rfl (lv_at hl 2 rfl) ?_
                  refine lv_aload_n hx hb dX12_laysWorst_210 rfl (lv_at hl 0 rfl) ?_
                  refine gf12_44 hx hb hG hown hW (o := 69) (ltN hN 69 rfl) gk69 (v := .int t8_68.2.1) w_x69_44 gx804 dX12_laysWorst_211 ?_
                  refine lv_icmp_ge (tgt := 257) hx hb dX12_laysWorst_214 (by decide) (fun c53 => ?_) (fun c53 => ?_)
                  · rw [if_pos c53] at hs1
                    exact hE1_257 A94k40 (hXl1 _ (Option.some.inj hs1).symm) m a _ _ w_x69_43 w_x69_44 w_x69_45 hoff hsh w_A87 w_A88 w_A89 w_A90 w_A91 w_A92 w_A93 w_A94 w_A95 w_A96 hoffa ls (lv_sub hl [] rfl) hW hS
                  · rw [if_neg c53] at hs1
                    refine lv_aload_n hx hb dX12_laysWorst_217 rfl (lv_at hl 0 rfl) ?_
                    refine gf12_46 hx hb hG hown hW (o := 69) (ltN hN 69 rfl) gk69 (v := .ref (q 94)) (sh69_46 hsh) gx192 dX12_laysWorst_218 ?_
                    refine lv_iload_n hx hb dX12_laysWorst_221 rfl (lv_at hl 2 rfl) ?_
                    refine lv_iconst (v := 0) hx hb dX12_laysWorst_222 (by decide) ?_
                    obtain ⟨hi54, hs1⟩ := oif hs1
                    refine g_iast hx hb hW hS (o := 94) (ltN hN 94 rfl) gk94 w_A94 (vin hi54) dX12_laysWorst_223 (fun a55 H locs ha55 ho55 hW hS => ?_)
                    have ho55 := off1 ho55
                    have w_A87 : a55 87 = (6001, .inl t8_68.2.2.2.1) := (ho55 87 rfl).trans w_A87
                    have w_A88 : a55 88 = (6001, .inl t8_68.2.2.2.2.1) := (ho55 88 rfl).trans w_A88
                    have w_A89 : a55 89 = (6001, .inl t8_68.2.2.2.2.2.1) := (ho55 89 rfl).trans w_A89
                    have w_A90 : a55 90 = (6001, .inl t8_68.2.2.2.2.2.2.1) := (ho55 90 rfl).trans w_A90
                    have w_A91 : a55 91 = (6001, .inl t8_68.2.2.2.2.2.2.2.1) := (ho55 91 rfl).trans w_A91
                    have w_A92 : a55 92 = (6001, .inl t8_68.2.2.2.2.2.2.2.2.1) := (ho55 92 rfl).trans w_A92
                    have w_A93 : a55 93 = (6001, .inl t8_68.2.2.2.2.2.2.2.2.2) := (ho55 93 rfl).trans w_A93
                    have w_A94 : a55 94 = (6001, .inl (upd A94k40 v2k40.toNatClampNeg 0)) := ha55
                    have w_A95 : a55 95 = (6001, .inl t30_205.1) := (ho55 95 rfl).trans w_A95
                    have w_A96 : a55 96 = (6002, .inl t30_205.2) := (ho55 96 rfl).trans w_A96
                    have hoffa := offm hoffa ho55 (by decide +kernel)
                    obtain ⟨r56, hg56, hs1⟩ := obind hs1
                    have hE2_251 : ∀ (t56_251 : Int32 × (Nat → Int32)) (hr56 : t56_251 = r56) (m : Nat → Value) (a : Nat → vp_A) (H : Heap) (locs : List Loc) (w_x69_43 : m 6943 = .int t8_68.1) (w_x69_44 : m 6944 = .int t8_68.2.1) (w_x69_45 : m 6945 = .int t8_68.2.2.1) (hoff : ∀ j, nel j [6943, 6944, 6945] = false → m j = m0 j) (hsh : SH q m) (w_A87 : a 87 = (6001, .inl t8_68.2.2.2.1)) (w_A88 : a 88 = (6001, .inl t8_68.2.2.2.2.1)) (w_A89 : a 89 = (6001, .inl t8_68.2.2.2.2.2.1)) (w_A90 : a 90 = (6001, .inl t8_68.2.2.2.2.2.2.1)) (w_A91 : a 91 = (6001, .inl t8_68.2.2.2.2.2.2.2.1)) (w_A92 : a 92 = (6001, .inl t8_68.2.2.2.2.2.2.2.2.1)) (w_A93 : a 93 = (6001, .inl t8_68.2.2.2.2.2.2.2.2.2)) (w_A94 : a 94 = (6001, .inl t56_251.2)) (w_A95 : a 95 = (6001, .inl t30_205.1)) (w_A96 : a 96 = (6002, .inl t30_205.2)) (hoffa : ∀ j, nel j [87, 88, 89, 90, 91, 92, 93, 94, 95, 96] = false → a j = a0 j) (ls : Array Slot) (hl : lv_has ls 3 [(0, .ref (q 69)), (1, .int t56_251.1), (2, .int v2k40)]) (hW : GW D cy (gA N q s.heap.size) N q m a s H) (hS : va_S (gA N q s.heap.size) s.heap H locs), W p l e ({ frames := 2, cells := 0, slots := 0, locals := 46 } : Room) s M args below meth c H locs 0 0 (MQ below (va_Qv (fun (u : (Nat → Value) × (Nat → vp_A)) => u.1 6943 = .int X0.1 ∧ u.1 6944 = .int X0.2.1 ∧ u.1 6945 = .int X0.2.2.1 ∧ (∀ j, nel j [6943, 6944, 6945] = false → u.1 j = m0 j) ∧ u.2 87 = (6001, .inl X0.2.2.2.1) ∧ u.2 88 = (6001, .inl X0.2.2.2.2.1) ∧ u.2 89 = (6001, .inl X0.2.2.2.2.2.1) ∧ u.2 90 = (6001, .inl X0.2.2.2.2.2.2.1) ∧ u.2 91 = (6001, .inl X0.2.2.2.2.2.2.2.1) ∧ u.2 92 = (6001, .inl X0.2.2.2.2.2.2.2.2.1) ∧ u.2 93 = (6001, .inl X0.2.2.2.2.2.2.2.2.2.1) ∧ u.2 94 = (6001, .inl X0.2.2.2.2.2.2.2.2.2.2.1) ∧ u.2 95 = (6001, .inl X0.2.2.2.2.2.2.2.2.2.2.2.1) ∧ u.2 96 = (6002, .inl X0.2.2.2.2.2.2.2.2.2.2.2.2) ∧ (∀ j, nel j [87, 88, 89, 90, 91, 92, 93, 94, 95, 96] = false → u.2 j = a0 j)) (gB D cy N q s.heap.size) (gA N q s.heap.size)) args s 0 0 (gA N q s.heap.size)) (F0 M 251 ls []) := by
                      intro t56_251 hr56 m a H locs w_x69_43 w_x69_44 w_x69_45 hoff hsh w_A87 w_A88 w_A89 w_A90 w_A91 w_A92 w_A93 w_A94 w_A95 w_A96 hoffa ls hl hW hS
                      subst hr56
                      refine lv_iinc (v := v2k40 + 1) (lv' := [(2, .int (v2k40 + 1)), (0, .ref (q 69)), (1, .int t56_251.1)]) hx hb dX12_laysWorst_251 hl (k := 2) rfl rfl (by decide) rfl (fun ls hl => ?_)
                      refine lv_goto (tgt := 209) hx hb dX12_laysWorst_254 (by decide) ?_
                      exact ih1 t56_251.1 (v2k40 + 1) t56_251.2 m a _ _ w_x69_43 w_x69_44 w_x69_45 hoff hsh w_A87 w_A88 w_A89 w_A90 w_A91 w_A92 w_A93 w_A94 w_A95 w_A96 hoffa ls (lv_sub hl [1, 2, 0] rfl) (hXr1 _ (Option.some.inj hs1).symm) hW hS
                    have hL2 : ∀ (n : Nat) (v1k56 : Int32) (A94k56 : Nat → Int32) (m : Nat → Value) (a : Nat → vp_A) (H : Heap) (locs : List Loc) (w_x69_43 : m 6943 = .int t8_68.1) (w_x69_44 : m 6944 = .int t8_68.2.1) (w_x69_45 : m 6945 = .int t8_68.2.2.1) (hoff : ∀ j, nel j [6943, 6944, 6945] = false → m j = m0 j) (hsh : SH q m) (w_A87 : a 87 = (6001, .inl t8_68.2.2.2.1)) (w_A88 : a 88 = (6001, .inl t8_68.2.2.2.2.1)) (w_A89 : a 89 = (6001, .inl t8_68.2.2.2.2.2.1)) (w_A90 : a 90 = (6001, .inl t8_68.2.2.2.2.2.2.1)) (w_A91 : a 91 = (6001, .inl t8_68.2.2.2.2.2.2.2.1)) (w_A92 : a 92 = (6001, .inl t8_68.2.2.2.2.2.2.2.2.1)) (w_A93 : a 93 = (6001, .inl t8_68.2.2.2.2.2.2.2.2.2)) (w_A94 : a 94 = (6001, .inl A94k56)) (w_A95 : a 95 = (6001, .inl t30_205.1)) (w_A96 : a 96 = (6002, .inl t30_205.2)) (hoffa : ∀ j, nel j [87, 88, 89, 90, 91, 92, 93, 94, 95, 96] = false → a j = a0 j) (ls : Array Slot) (hl : lv_has ls 3 [(0, .ref (q 69)), (1, .int v1k56), (2, .int v2k40)]) (hg56 : gloop (fun u56 : (Int32 × (Nat → Int32)) => fX12_laysWorst_S224 F x69_27 A81 A82 A83 v2k40 t8_68.1 t8_68.2.1 t8_68.2.2.1 t8_68.2.2.2.1 t8_68.2.2.2.2.1 t8_68.2.2.2.2.2.1 t8_68.2.2.2.2.2.2.1 t8_68.2.2.2.2.2.2.2.1 t8_68.2.2.2.2.2.2.2.2.1 t8_68.2.2.2.2.2.2.2.2.2 t30_205.1 t30_205.2 u56.1 u56.2) n (v1k56, A94k56) = some r56) (hW : GW D cy (gA N q s.heap.size) N q m a s H) (hS : va_S (gA N q s.heap.size) s.heap H locs), W p l e ({ frames := 2, cells := 0, slots := 0, locals := 46 } : Room) s M args below meth c H locs 0 0 (MQ below (va_Qv (fun (u : (Nat → Value) × (Nat → vp_A)) => u.1 6943 = .int X0.1 ∧ u.1 6944 = .int X0.2.1 ∧ u.1 6945 = .int X0.2.2.1 ∧ (∀ j, nel j [6943, 6944, 6945] = false → u.1 j = m0 j) ∧ u.2 87 = (6001, .inl X0.2.2.2.1) ∧ u.2 88 = (6001, .inl X0.2.2.2.2.1) ∧ u.2 89 = (6001, .inl X0.2.2.2.2.2.1) ∧ u.2 90 = (6001, .inl X0.2.2.2.2.2.2.1) ∧ u.2 91 = (6001, .inl X0.2.2.2.2.2.2.2.1) ∧ u.2 92 = (6001, .inl X0.2.2.2.2.2.2.2.2.1) ∧ u.2 93 = (6001, .inl X0.2.2.2.2.2.2.2.2.2.1) ∧ u.2 94 = (6001, .inl X0.2.2.2.2.2.2.2.2.2.2.1) ∧ u.2 95 = (6001, .inl X0.2.2.2.2.2.2.2.2.2.2.2.1) ∧ u.2 96 = (6002, .inl X0.2.2.2.2.2.2.2.2.2.2.2.2) ∧ (∀ j, nel j [87, 88, 89, 90, 91, 92, 93, 94, 95, 96] = false → u.2 j = a0 j)) (gB D cy N q s.heap.size) (gA N q s.heap.size)) args s 0 0 (gA N q s.heap.size)) (F0 M 224 ls []) := by
                      intro n
                      induction n with
                      | zero => intro v1k56 A94k56 m a H locs w_x69_43 w_x69_44 w_x69_45 hoff hsh w_A87 w_A88 w_A89 w_A90 w_A91 w_A92 w_A93 w_A94 w_A95 w_A96 hoffa ls hl hg56 hW hS; exact (gl_zero hg56).elim
                      | succ n ih2 =>
                        intro v1k56 A94k56 m a H locs w_x69_43 w_x69_44 w_x69_45 hoff hsh w_A87 w_A88 w_A89 w_A90 w_A91 w_A92 w_A93 w_A94 w_A95 w_A96 hoffa ls hl hg56 hW hS
                        obtain ⟨X2, hs2, hXl2, hXr2⟩ := gl_succ hg56
                        have hs2 : fX12_laysWorst_S224 F x69_27 A81 A82 A83 v2k40 t8_68.1 t8_68.2.1 t8_68.2.2.1 t8_68.2.2.2.1 t8_68.2.2.2.2.1 t8_68.2.2.2.2.2.1 t8_68.2.2.2.2.2.2.1 t8_68.2.2.2.2.2.2.2.1 t8_68.2.2.2.2.2.2.2.2.1 t8_68.2.2.2.2.2.2.2.2.2 t30_205.1 t30_205.2 v1k56 A94k56 = some X2 := hs2
                        unfold fX12_laysWorst_S224 at hs2
                        refine lv_iload_n hx hb dX12_laysWorst_224 rfl (lv_at hl 1 rfl) ?_
                        refine lv_aload_n hx hb dX12_laysWorst_225 rfl (lv_at hl 0 rfl) ?_
                        refine gf12_48 hx hb hG hown hW (o := 69) (ltN hN 69 rfl) gk69 (v := .ref (q 96)) (sh69_48 hsh) gx194 dX12_laysWorst_226 ?_
                        refine lv_iload_n hx hb dX12_laysWorst_229 rfl (lv_at hl 2 rfl) ?_
                        obtain ⟨hi61, hs2⟩ := oif hs2
                        refine g_iald hx hb hW (o := 96) (ltN hN 96 rfl) gk96 w_A96 (vin hi61) dX12_laysWorst_230 ?_
                        refine lv_icmp_ge (tgt := 251) hx hb dX12_laysWorst_231 (by decide) (fun c62 => ?_) (fun c62 => ?_)
                        · rw [if_pos c62] at hs2
                          exact hE2_251 (v1k56, A94k56) (hXl2 _ (Option.some.inj hs2).symm) m a _ _ w_x69_43 w_x69_44 w_x69_45 hoff hsh w_A87 w_A88 w_A89 w_A90 w_A91 w_A92 w_A93 w_A94 w_A95 w_A96 hoffa ls (lv_sub hl [0, 1, 2] rfl) hW hS
                        · rw [if_neg c62] at hs2
                          refine lv_aload_n hx hb dX12_laysWorst_234 rfl (lv_at hl 0 rfl) ?_
                          refine lv_iload_n hx hb dX12_laysWorst_235 rfl (lv_at hl 2 rfl) ?_
                          refine lv_aload_n hx hb dX12_laysWorst_236 rfl (lv_at hl 0 rfl) ?_
                          refine gf12_47 hx hb hG hown hW (o := 69) (ltN hN 69 rfl) gk69 (v := .ref (q 95)) (sh69_47 hsh) gx193 dX12_laysWorst_237 ?_
                          refine lv_iload_n hx hb dX12_laysWorst_240 rfl (lv_at hl 1 rfl) ?_
                          obtain ⟨hi63, hs2⟩ := oif hs2
                          refine g_iald hx hb hW (o := 95) (ltN hN 95 rfl) gk95 w_A95 (vin hi63) dX12_laysWorst_241 ?_
                          obtain ⟨r64, hf64, hs2⟩ := obind hs2
                          refine g_Vv (n := 2) hx hb hml hown hG hW hS [.int v2k40, .int (t30_205.1 v1k56.toNatClampNeg)] (kX12_looksAt hN hsh ((hoffa 81 rfl).trans h_A81) ((hoffa 82 rfl).trans h_A82) ((hoffa 83 rfl).trans h_A83) w_A87 w_A94 F v2k40 (t30_205.1 v1k56.toNatClampNeg) hf64) (ltN hN 69 rfl) gk69 (by decide) rfl rfl (gd_V gx819 gx820 gx821 gx5 gx822) rfl rfl (by decide) ⟨Nat.le_of_ble_eq_true rfl, Nat.le_of_ble_eq_true rfl⟩ rfl hl (Nat.le_of_ble_eq_true rfl) ⟨Nat.zero_le _, Nat.zero_le _⟩ dX12_laysWorst_242 (fun m64 a64 H locs hp64 hW hS => ?_)
                          obtain ⟨hm64, hp64_A94, hoa64⟩ := hp64
                          rw [hm64] at hW
                          have w_A87 : a64 87 = (6001, .inl t8_68.2.2.2.1) := (hoa64 87 rfl).trans w_A87
                          have w_A88 : a64 88 = (6001, .inl t8_68.2.2.2.2.1) := (hoa64 88 rfl).trans w_A88
                          have w_A89 : a64 89 = (6001, .inl t8_68.2.2.2.2.2.1) := (hoa64 89 rfl).trans w_A89
                          have w_A90 : a64 90 = (6001, .inl t8_68.2.2.2.2.2.2.1) := (hoa64 90 rfl).trans w_A90
                          have w_A91 : a64 91 = (6001, .inl t8_68.2.2.2.2.2.2.2.1) := (hoa64 91 rfl).trans w_A91
                          have w_A92 : a64 92 = (6001, .inl t8_68.2.2.2.2.2.2.2.2.1) := (hoa64 92 rfl).trans w_A92
                          have w_A93 : a64 93 = (6001, .inl t8_68.2.2.2.2.2.2.2.2.2) := (hoa64 93 rfl).trans w_A93
                          have w_A94 : a64 94 = (6001, .inl r64) := hp64_A94
                          have w_A95 : a64 95 = (6001, .inl t30_205.1) := (hoa64 95 rfl).trans w_A95
                          have w_A96 : a64 96 = (6002, .inl t30_205.2) := (hoa64 96 rfl).trans w_A96
                          have hoffa := offm hoffa hoa64 (by decide +kernel)
                          refine lv_iinc (v := v1k56 + 1) (lv' := [(1, .int (v1k56 + 1)), (0, .ref (q 69)), (2, .int v2k40)]) hx hb dX12_laysWorst_245 hl (k := 1) rfl rfl (by decide) rfl (fun ls hl => ?_)
                          refine lv_goto (tgt := 224) hx hb dX12_laysWorst_248 (by decide) ?_
                          exact ih2 (v1k56 + 1) r64 m a64 _ _ w_x69_43 w_x69_44 w_x69_45 hoff hsh w_A87 w_A88 w_A89 w_A90 w_A91 w_A92 w_A93 w_A94 w_A95 w_A96 hoffa ls (lv_sub hl [1, 0, 2] rfl) (hXr2 _ (Option.some.inj hs2).symm) hW hS
                    exact hL2 F v1k40 (upd A94k40 v2k40.toNatClampNeg 0) m a55 _ _ w_x69_43 w_x69_44 w_x69_45 hoff hsh w_A87 w_A88 w_A89 w_A90 w_A91 w_A92 w_A93 w_A94 w_A95 w_A96 hoffa ls (lv_sub hl [0, 1, 2] rfl) hg56 hW hS
              exact hL1 F 0 0 A94 m a _ _ w_x69_43 w_x69_44 w_x69_45 hoff hsh w_A87 w_A88 w_A89 w_A90 w_A91 w_A92 w_A93 w_A94 w_A95 w_A96 hoffa ls (lv_sub hl [2, 1, 0] rfl) hg40 hW hS
            have hL1 : ∀ (n : Nat) (v1k30 : Int32) (A95k30 : Nat → Int32) (A96k30 : Nat → Int32) (m : Nat → Value) (a : Nat → vp_A) (H : Heap) (locs : List Loc) (w_x69_43 : m 6943 = .int t8_68.1) (w_x69_44 : m 6944 = .int t8_68.2.1) (w_x69_45 : m 6945 = .int t8_68.2.2.1) (hoff : ∀ j, nel j [6943, 6944, 6945] = false → m j = m0 j) (hsh : SH q m) (w_A87 : a 87 = (6001, .inl t8_68.2.2.2.1)) (w_A88 : a 88 = (6001, .inl t8_68.2.2.2.2.1)) (w_A89 : a 89 = (6001, .inl t8_68.2.2.2.2.2.1)) (w_A90 : a 90 = (6001, .inl t8_68.2.2.2.2.2.2.1)) (w_A91 : a 91 = (6001, .inl t8_68.2.2.2.2.2.2.2.1)) (w_A92 : a 92 = (6001, .inl t8_68.2.2.2.2.2.2.2.2.1)) (w_A93 : a 93 = (6001, .inl t8_68.2.2.2.2.2.2.2.2.2)) (w_A94 : a 94 = (6001, .inl A94)) (w_A95 : a 95 = (6001, .inl A95k30)) (w_A96 : a 96 = (6002, .inl A96k30)) (hoffa : ∀ j, nel j [87, 88, 89, 90, 91, 92, 93, 94, 95, 96] = false → a j = a0 j) (ls : Array Slot) (hl : lv_has ls 3 [(0, .ref (q 69)), (1, .int v1k30)]) (hg30 : gloop (fun u30 : (Int32 × (Nat → Int32) × (Nat → Int32)) => fX12_laysWorst_S159 F x69_27 A81 A82 A83 t8_68.1 t8_68.2.1 t8_68.2.2.1 t8_68.2.2.2.1 t8_68.2.2.2.2.1 t8_68.2.2.2.2.2.1 t8_68.2.2.2.2.2.2.1 t8_68.2.2.2.2.2.2.2.1 t8_68.2.2.2.2.2.2.2.2.1 t8_68.2.2.2.2.2.2.2.2.2 A94 u30.1 u30.2.1 u30.2.2) n (v1k30, A95k30, A96k30) = some r30) (hW : GW D cy (gA N q s.heap.size) N q m a s H) (hS : va_S (gA N q s.heap.size) s.heap H locs), W p l e ({ frames := 2, cells := 0, slots := 0, locals := 46 } : Room) s M args below meth c H locs 0 0 (MQ below (va_Qv (fun (u : (Nat → Value) × (Nat → vp_A)) => u.1 6943 = .int X0.1 ∧ u.1 6944 = .int X0.2.1 ∧ u.1 6945 = .int X0.2.2.1 ∧ (∀ j, nel j [6943, 6944, 6945] = false → u.1 j = m0 j) ∧ u.2 87 = (6001, .inl X0.2.2.2.1) ∧ u.2 88 = (6001, .inl X0.2.2.2.2.1) ∧ u.2 89 = (6001, .inl X0.2.2.2.2.2.1) ∧ u.2 90 = (6001, .inl X0.2.2.2.2.2.2.1) ∧ u.2 91 = (6001, .inl X0.2.2.2.2.2.2.2.1) ∧ u.2 92 = (6001, .inl X0.2.2.2.2.2.2.2.2.1) ∧ u.2 93 = (6001, .inl X0.2.2.2.2.2.2.2.2.2.1) ∧ u.2 94 = (6001, .inl X0.2.2.2.2.2.2.2.2.2.2.1) ∧ u.2 95 = (6001, .inl X0.2.2.2.2.2.2.2.2.2.2.2.1) ∧ u.2 96 = (6002, .inl X0.2.2.2.2.2.2.2.2.2.2.2.2) ∧ (∀ j, nel j [87, 88, 89, 90, 91, 92, 93, 94, 95, 96] = false → u.2 j = a0 j)) (gB D cy N q s.heap.size) (gA N q s.heap.size)) args s 0 0 (gA N q s.heap.size)) (F0 M 159 ls []) := by
              intro n
              induction n with
              | zero => intro v1k30 A95k30 A96k30 m a H locs w_x69_43 w_x69_44 w_x69_45 hoff hsh w_A87 w_A88 w_A89 w_A90 w_A91 w_A92 w_A93 w_A94 w_A95 w_A96 hoffa ls hl hg30 hW hS; exact (gl_zero hg30).elim
              | succ n ih1 =>
                intro v1k30 A95k30 A96k30 m a H locs w_x69_43 w_x69_44 w_x69_45 hoff hsh w_A87 w_A88 w_A89 w_A90 w_A91 w_A92 w_A93 w_A94 w_A95 w_A96 hoffa ls hl hg30 hW hS
                obtain ⟨X1, hs1, hXl1, hXr1⟩ := gl_succ hg30
                have hs1 : fX12_laysWorst_S159 F x69_27 A81 A82 A83 t8_68.1 t8_68.2.1 t8_68.2.2.1 t8_68.2.2.2.1 t8_68.2.2.2.2.1 t8_68.2.2.2.2.2.1 t8_68.2.2.2.2.2.2.1 t8_68.2.2.2.2.2.2.2.1 t8_68.2.2.2.2.2.2.2.2.1 t8_68.2.2.2.2.2.2.2.2.2 A94 v1k30 A95k30 A96k30 = some X1 := hs1
                unfold fX12_laysWorst_S159 at hs1
                refine lv_iload_n hx hb dX12_laysWorst_159 rfl (lv_at hl 1 rfl) ?_
                refine lv_aload_n hx hb dX12_laysWorst_160 rfl (lv_at hl 0 rfl) ?_
                refine gf12_27 hx hb hG hown hW (o := 69) (ltN hN 69 rfl) gk69 (v := .int x69_27) ((hoff 6927 rfl).trans h_x69_27) gx713 dX12_laysWorst_161 ?_
                refine lv_icmp_ge (tgt := 205) hx hb dX12_laysWorst_164 (by decide) (fun c65 => ?_) (fun c65 => ?_)
                · rw [if_pos c65] at hs1
                  exact hE1_205 (A95k30, A96k30) (hXl1 _ (Option.some.inj hs1).symm) m a _ _ w_x69_43 w_x69_44 w_x69_45 hoff hsh w_A87 w_A88 w_A89 w_A90 w_A91 w_A92 w_A93 w_A94 w_A95 w_A96 hoffa ls (lv_sub hl [0] rfl) hW hS
                · rw [if_neg c65] at hs1
                  refine lv_aload_n hx hb dX12_laysWorst_167 rfl (lv_at hl 0 rfl) ?_
                  refine gf12_47 hx hb hG hown hW (o := 69) (ltN hN 69 rfl) gk69 (v := .ref (q 95)) (sh69_47 hsh) gx193 dX12_laysWorst_168 ?_
                  refine lv_aload_n hx hb dX12_laysWorst_171 rfl (lv_at hl 0 rfl) ?_
                  refine gf12_48 hx hb hG hown hW (o := 69) (ltN hN 69 rfl) gk69 (v := .ref (q 96)) (sh69_48 hsh) gx194 dX12_laysWorst_172 ?_
                  refine lv_aload_n hx hb dX12_laysWorst_175 rfl (lv_at hl 0 rfl) ?_
                  refine gf12_36 hx hb hG hown hW (o := 69) (ltN hN 69 rfl) gk69 (v := .ref (q 87)) (sh69_36 hsh) gx184 dX12_laysWorst_176 ?_
                  refine lv_iload_n hx hb dX12_laysWorst_179 rfl (lv_at hl 1 rfl) ?_
                  obtain ⟨hi66, hs1⟩ := oif hs1
                  refine g_iald hx hb hW (o := 87) (ltN hN 87 rfl) gk87 w_A87 (vin hi66) dX12_laysWorst_180 ?_
                  obtain ⟨hi67, hs1⟩ := oif hs1
                  refine g_iald hx hb hW (o := 96) (ltN hN 96 rfl) gk96 w_A96 (vin hi67) dX12_laysWorst_181 ?_
                  refine lv_iload_n hx hb dX12_laysWorst_182 rfl (lv_at hl 1 rfl) ?_
                  obtain ⟨hi68, hs1⟩ := oif hs1
                  refine g_iast hx hb hW hS (o := 95) (ltN hN 95 rfl) gk95 w_A95 (vin hi68) dX12_laysWorst_183 (fun a69 H locs ha69 ho69 hW hS => ?_)
                  have ho69 := off1 ho69
                  have w_A87 : a69 87 = (6001, .inl t8_68.2.2.2.1) := (ho69 87 rfl).trans w_A87
                  have w_A88 : a69 88 = (6001, .inl t8_68.2.2.2.2.1) := (ho69 88 rfl).trans w_A88
                  have w_A89 : a69 89 = (6001, .inl t8_68.2.2.2.2.2.1) := (ho69 89 rfl).trans w_A89
                  have w_A90 : a69 90 = (6001, .inl t8_68.2.2.2.2.2.2.1) := (ho69 90 rfl).trans w_A90
                  have w_A91 : a69 91 = (6001, .inl t8_68.2.2.2.2.2.2.2.1) := (ho69 91 rfl).trans w_A91
                  have w_A92 : a69 92 = (6001, .inl t8_68.2.2.2.2.2.2.2.2.1) := (ho69 92 rfl).trans w_A92
                  have w_A93 : a69 93 = (6001, .inl t8_68.2.2.2.2.2.2.2.2.2) := (ho69 93 rfl).trans w_A93
                  have w_A94 : a69 94 = (6001, .inl A94) := (ho69 94 rfl).trans w_A94
                  have w_A95 : a69 95 = (6001, .inl (upd A95k30 (A96k30 (t8_68.2.2.2.1 v1k30.toNatClampNeg).toNatClampNeg).toNatClampNeg v1k30)) := ha69
                  have w_A96 : a69 96 = (6002, .inl A96k30) := (ho69 96 rfl).trans w_A96
                  have hoffa := offm hoffa ho69 (by decide +kernel)
                  refine lv_aload_n hx hb dX12_laysWorst_184 rfl (lv_at hl 0 rfl) ?_
                  refine gf12_48 hx hb hG hown hW (o := 69) (ltN hN 69 rfl) gk69 (v := .ref (q 96)) (sh69_48 hsh) gx194 dX12_laysWorst_185 ?_
                  refine lv_aload_n hx hb dX12_laysWorst_188 rfl (lv_at hl 0 rfl) ?_
                  refine gf12_36 hx hb hG hown hW (o := 69) (ltN hN 69 rfl) gk69 (v := .ref (q 87)) (sh69_36 hsh) gx184 dX12_laysWorst_189 ?_
                  refine lv_iload_n hx hb dX12_laysWorst_192 rfl (lv_at hl 1 rfl) ?_
                  obtain ⟨hi70, hs1⟩ := oif hs1
                  refine g_iald hx hb hW (o := 87) (ltN hN 87 rfl) gk87 w_A87 (vin hi70) dX12_laysWorst_193 ?_
                  refine lv_dup2_11 hx hb dX12_laysWorst_194 rfl rfl ?_
                  obtain ⟨hi71, hs1⟩ := oif hs1
                  refine g_iald hx hb hW (o := 96) (ltN hN 96 rfl) gk96 w_A96 (vin hi71) dX12_laysWorst_195 ?_
                  refine lv_iconst (v := 1) hx hb dX12_laysWorst_196 (by decide) ?_
                  refine lv_iadd hx hb dX12_laysWorst_197 ?_
                  obtain ⟨hi72, hs1⟩ := oif hs1
                  refine g_iast hx hb hW hS (o := 96) (ltN hN 96 rfl) gk96 w_A96 (vin hi72) dX12_laysWorst_198 (fun a73 H locs ha73 ho73 hW hS => ?_)
                  have ho73 := off1 ho73
                  have w_A87 : a73 87 = (6001, .inl t8_68.2.2.2.1) := (ho73 87 rfl).trans w_A87
                  have w_A88 : a73 88 = (6001, .inl t8_68.2.2.2.2.1) := (ho73 88 rfl).trans w_A88
                  have w_A89 : a73 89 = (6001, .inl t8_68.2.2.2.2.2.1) := (ho73 89 rfl).trans w_A89
                  have w_A90 : a73 90 = (6001, .inl t8_68.2.2.2.2.2.2.1) := (ho73 90 rfl).trans w_A90
                  have w_A91 : a73 91 = (6001, .inl t8_68.2.2.2.2.2.2.2.1) := (ho73 91 rfl).trans w_A91
                  have w_A92 : a73 92 = (6001, .inl t8_68.2.2.2.2.2.2.2.2.1) := (ho73 92 rfl).trans w_A92
                  have w_A93 : a73 93 = (6001, .inl t8_68.2.2.2.2.2.2.2.2.2) := (ho73 93 rfl).trans w_A93
                  have w_A94 : a73 94 = (6001, .inl A94) := (ho73 94 rfl).trans w_A94
                  have w_A95 : a73 95 = (6001, .inl (upd A95k30 (A96k30 (t8_68.2.2.2.1 v1k30.toNatClampNeg).toNatClampNeg).toNatClampNeg v1k30)) := (ho73 95 rfl).trans w_A95
                  have w_A96 : a73 96 = (6002, .inl (upd A96k30 (t8_68.2.2.2.1 v1k30.toNatClampNeg).toNatClampNeg ((A96k30 (t8_68.2.2.2.1 v1k30.toNatClampNeg).toNatClampNeg) + 1))) := ha73
                  have hoffa := offm hoffa ho73 (by decide +kernel)
                  refine lv_iinc (v := v1k30 + 1) (lv' := [(1, .int (v1k30 + 1)), (0, .ref (q 69))]) hx hb dX12_laysWorst_199 hl (k := 1) rfl rfl (by decide) rfl (fun ls hl => ?_)
                  refine lv_goto (tgt := 159) hx hb dX12_laysWorst_202 (by decide) ?_
                  exact ih1 (v1k30 + 1) (upd A95k30 (A96k30 (t8_68.2.2.2.1 v1k30.toNatClampNeg).toNatClampNeg).toNatClampNeg v1k30) (upd A96k30 (t8_68.2.2.2.1 v1k30.toNatClampNeg).toNatClampNeg ((A96k30 (t8_68.2.2.2.1 v1k30.toNatClampNeg).toNatClampNeg) + 1)) m a73 _ _ w_x69_43 w_x69_44 w_x69_45 hoff hsh w_A87 w_A88 w_A89 w_A90 w_A91 w_A92 w_A93 w_A94 w_A95 w_A96 hoffa ls (lv_sub hl [1, 0] rfl) (hXr1 _ (Option.some.inj hs1).symm) hW hS
            exact hL1 F 0 A95 t24_157 m a _ _ w_x69_43 w_x69_44 w_x69_45 hoff hsh w_A87 w_A88 w_A89 w_A90 w_A91 w_A92 w_A93 w_A94 w_A95 w_A96 hoffa ls (lv_sub hl [1, 0] rfl) hg30 hW hS
          have hL1 : ∀ (n : Nat) (v1k24 : Int32) (A96k24 : Nat → Int32) (m : Nat → Value) (a : Nat → vp_A) (H : Heap) (locs : List Loc) (w_x69_43 : m 6943 = .int t8_68.1) (w_x69_44 : m 6944 = .int t8_68.2.1) (w_x69_45 : m 6945 = .int t8_68.2.2.1) (hoff : ∀ j, nel j [6943, 6944, 6945] = false → m j = m0 j) (hsh : SH q m) (w_A87 : a 87 = (6001, .inl t8_68.2.2.2.1)) (w_A88 : a 88 = (6001, .inl t8_68.2.2.2.2.1)) (w_A89 : a 89 = (6001, .inl t8_68.2.2.2.2.2.1)) (w_A90 : a 90 = (6001, .inl t8_68.2.2.2.2.2.2.1)) (w_A91 : a 91 = (6001, .inl t8_68.2.2.2.2.2.2.2.1)) (w_A92 : a 92 = (6001, .inl t8_68.2.2.2.2.2.2.2.2.1)) (w_A93 : a 93 = (6001, .inl t8_68.2.2.2.2.2.2.2.2.2)) (w_A94 : a 94 = (6001, .inl A94)) (w_A95 : a 95 = (6001, .inl A95)) (w_A96 : a 96 = (6002, .inl A96k24)) (hoffa : ∀ j, nel j [87, 88, 89, 90, 91, 92, 93, 94, 95, 96] = false → a j = a0 j) (ls : Array Slot) (hl : lv_has ls 3 [(0, .ref (q 69)), (1, .int v1k24)]) (hg24 : gloop (fun u24 : (Int32 × (Nat → Int32)) => fX12_laysWorst_S126 F x69_27 A81 A82 A83 t8_68.1 t8_68.2.1 t8_68.2.2.1 t8_68.2.2.2.1 t8_68.2.2.2.2.1 t8_68.2.2.2.2.2.1 t8_68.2.2.2.2.2.2.1 t8_68.2.2.2.2.2.2.2.1 t8_68.2.2.2.2.2.2.2.2.1 t8_68.2.2.2.2.2.2.2.2.2 A94 A95 u24.1 u24.2) n (v1k24, A96k24) = some r24) (hW : GW D cy (gA N q s.heap.size) N q m a s H) (hS : va_S (gA N q s.heap.size) s.heap H locs), W p l e ({ frames := 2, cells := 0, slots := 0, locals := 46 } : Room) s M args below meth c H locs 0 0 (MQ below (va_Qv (fun (u : (Nat → Value) × (Nat → vp_A)) => u.1 6943 = .int X0.1 ∧ u.1 6944 = .int X0.2.1 ∧ u.1 6945 = .int X0.2.2.1 ∧ (∀ j, nel j [6943, 6944, 6945] = false → u.1 j = m0 j) ∧ u.2 87 = (6001, .inl X0.2.2.2.1) ∧ u.2 88 = (6001, .inl X0.2.2.2.2.1) ∧ u.2 89 = (6001, .inl X0.2.2.2.2.2.1) ∧ u.2 90 = (6001, .inl X0.2.2.2.2.2.2.1) ∧ u.2 91 = (6001, .inl X0.2.2.2.2.2.2.2.1) ∧ u.2 92 = (6001, .inl X0.2.2.2.2.2.2.2.2.1) ∧ u.2 93 = (6001, .inl X0.2.2.2.2.2.2.2.2.2.1) ∧ u.2 94 = (6001, .inl X0.2.2.2.2.2.2.2.2.2.2.1) ∧ u.2 95 = (6001, .inl X0.2.2.2.2.2.2.2.2.2.2.2.1) ∧ u.2 96 = (6002, .inl X0.2.2.2.2.2.2.2.2.2.2.2.2) ∧ (∀ j, nel j [87, 88, 89, 90, 91, 92, 93, 94, 95, 96] = false → u.2 j = a0 j)) (gB D cy N q s.heap.size) (gA N q s.heap.size)) args s 0 0 (gA N q s.heap.size)) (F0 M 126 ls []) := by
            intro n
            induction n with
            | zero => intro v1k24 A96k24 m a H locs w_x69_43 w_x69_44 w_x69_45 hoff hsh w_A87 w_A88 w_A89 w_A90 w_A91 w_A92 w_A93 w_A94 w_A95 w_A96 hoffa ls hl hg24 hW hS; exact (gl_zero hg24).elim
            | succ n ih1 =>
              intro v1k24 A96k24 m a H locs w_x69_43 w_x69_44 w_x69_45 hoff hsh w_A87 w_A88 w_A89 w_A90 w_A91 w_A92 w_A93 w_A94 w_A95 w_A96 hoffa ls hl hg24 hW hS
              obtain ⟨X1, hs1, hXl1, hXr1⟩ := gl_succ hg24
              have hs1 : fX12_laysWorst_S126 F x69_27 A81 A82 A83 t8_68.1 t8_68.2.1 t8_68.2.2.1 t8_68.2.2.2.1 t8_68.2.2.2.2.1 t8_68.2.2.2.2.2.1 t8_68.2.2.2.2.2.2.1 t8_68.2.2.2.2.2.2.2.1 t8_68.2.2.2.2.2.2.2.2.1 t8_68.2.2.2.2.2.2.2.2.2 A94 A95 v1k24 A96k24 = some X1 := hs1
              unfold fX12_laysWorst_S126 at hs1
              refine lv_iload_n hx hb dX12_laysWorst_126 rfl (lv_at hl 1 rfl) ?_
              refine lv_aload_n hx hb dX12_laysWorst_127 rfl (lv_at hl 0 rfl) ?_
              refine gf12_44 hx hb hG hown hW (o := 69) (ltN hN 69 rfl) gk69 (v := .int t8_68.2.1) w_x69_44 gx804 dX12_laysWorst_128 ?_
              refine lv_icmp_ge (tgt := 157) hx hb dX12_laysWorst_131 (by decide) (fun c74 => ?_) (fun c74 => ?_)
              · rw [if_pos c74] at hs1
                exact hE1_157 A96k24 (hXl1 _ (Option.some.inj hs1).symm) m a _ _ w_x69_43 w_x69_44 w_x69_45 hoff hsh w_A87 w_A88 w_A89 w_A90 w_A91 w_A92 w_A93 w_A94 w_A95 w_A96 hoffa ls (lv_sub hl [0] rfl) hW hS
              · rw [if_neg c74] at hs1
                refine lv_aload_n hx hb dX12_laysWorst_134 rfl (lv_at hl 0 rfl) ?_
                refine gf12_48 hx hb hG hown hW (o := 69) (ltN hN 69 rfl) gk69 (v := .ref (q 96)) (sh69_48 hsh) gx194 dX12_laysWorst_135 ?_
                refine lv_iload_n hx hb dX12_laysWorst_138 rfl (lv_at hl 1 rfl) ?_
                refine lv_iconst (v := 1) hx hb dX12_laysWorst_139 (by decide) ?_
                refine lv_iadd hx hb dX12_laysWorst_140 ?_
                refine lv_dup2_11 hx hb dX12_laysWorst_141 rfl rfl ?_
                obtain ⟨hi75, hs1⟩ := oif hs1
                refine g_iald hx hb hW (o := 96) (ltN hN 96 rfl) gk96 w_A96 (vin hi75) dX12_laysWorst_142 ?_
                refine lv_aload_n hx hb dX12_laysWorst_143 rfl (lv_at hl 0 rfl) ?_
                refine gf12_48 hx hb hG hown hW (o := 69) (ltN hN 69 rfl) gk69 (v := .ref (q 96)) (sh69_48 hsh) gx194 dX12_laysWorst_144 ?_
                refine lv_iload_n hx hb dX12_laysWorst_147 rfl (lv_at hl 1 rfl) ?_
                obtain ⟨hi76, hs1⟩ := oif hs1
                refine g_iald hx hb hW (o := 96) (ltN hN 96 rfl) gk96 w_A96 (vin hi76) dX12_laysWorst_148 ?_
                refine lv_iadd hx hb dX12_laysWorst_149 ?_
                obtain ⟨hi77, hs1⟩ := oif hs1
                refine g_iast hx hb hW hS (o := 96) (ltN hN 96 rfl) gk96 w_A96 (vin hi77) dX12_laysWorst_150 (fun a78 H locs ha78 ho78 hW hS => ?_)
                have ho78 := off1 ho78
                have w_A87 : a78 87 = (6001, .inl t8_68.2.2.2.1) := (ho78 87 rfl).trans w_A87
                have w_A88 : a78 88 = (6001, .inl t8_68.2.2.2.2.1) := (ho78 88 rfl).trans w_A88
                have w_A89 : a78 89 = (6001, .inl t8_68.2.2.2.2.2.1) := (ho78 89 rfl).trans w_A89
                have w_A90 : a78 90 = (6001, .inl t8_68.2.2.2.2.2.2.1) := (ho78 90 rfl).trans w_A90
                have w_A91 : a78 91 = (6001, .inl t8_68.2.2.2.2.2.2.2.1) := (ho78 91 rfl).trans w_A91
                have w_A92 : a78 92 = (6001, .inl t8_68.2.2.2.2.2.2.2.2.1) := (ho78 92 rfl).trans w_A92
                have w_A93 : a78 93 = (6001, .inl t8_68.2.2.2.2.2.2.2.2.2) := (ho78 93 rfl).trans w_A93
                have w_A94 : a78 94 = (6001, .inl A94) := (ho78 94 rfl).trans w_A94
                have w_A95 : a78 95 = (6001, .inl A95) := (ho78 95 rfl).trans w_A95
                have w_A96 : a78 96 = (6002, .inl (upd A96k24 (v1k24 + 1).toNatClampNeg ((A96k24 (v1k24 + 1).toNatClampNeg) + (A96k24 v1k24.toNatClampNeg)))) := ha78
                have hoffa := offm hoffa ho78 (by decide +kernel)
                refine lv_iinc (v := v1k24 + 1) (lv' := [(1, .int (v1k24 + 1)), (0, .ref (q 69))]) hx hb dX12_laysWorst_151 hl (k := 1) rfl rfl (by decide) rfl (fun ls hl => ?_)
                refine lv_goto (tgt := 126) hx hb dX12_laysWorst_154 (by decide) ?_
                exact ih1 (v1k24 + 1) (upd A96k24 (v1k24 + 1).toNatClampNeg ((A96k24 (v1k24 + 1).toNatClampNeg) + (A96k24 v1k24.toNatClampNeg))) m a78 _ _ w_x69_43 w_x69_44 w_x69_45 hoff hsh w_A87 w_A88 w_A89 w_A90 w_A91 w_A92 w_A93 w_A94 w_A95 w_A96 hoffa ls (lv_sub hl [1, 0] rfl) (hXr1 _ (Option.some.inj hs1).symm) hW hS
          exact hL1 F 0 t18_124 m a _ _ w_x69_43 w_x69_44 w_x69_45 hoff hsh w_A87 w_A88 w_A89 w_A90 w_A91 w_A92 w_A93 w_A94 w_A95 w_A96 hoffa ls (lv_sub hl [1, 0] rfl) hg24 hW hS
        have hL1 : ∀ (n : Nat) (v1k18 : Int32) (A96k18 : Nat → Int32) (m : Nat → Value) (a : Nat → vp_A) (H : Heap) (locs : List Loc) (w_x69_43 : m 6943 = .int t8_68.1) (w_x69_44 : m 6944 = .int t8_68.2.1) (w_x69_45 : m 6945 = .int t8_68.2.2.1) (hoff : ∀ j, nel j [6943, 6944, 6945] = false → m j = m0 j) (hsh : SH q m) (w_A87 : a 87 = (6001, .inl t8_68.2.2.2.1)) (w_A88 : a 88 = (6001, .inl t8_68.2.2.2.2.1)) (w_A89 : a 89 = (6001, .inl t8_68.2.2.2.2.2.1)) (w_A90 : a 90 = (6001, .inl t8_68.2.2.2.2.2.2.1)) (w_A91 : a 91 = (6001, .inl t8_68.2.2.2.2.2.2.2.1)) (w_A92 : a 92 = (6001, .inl t8_68.2.2.2.2.2.2.2.2.1)) (w_A93 : a 93 = (6001, .inl t8_68.2.2.2.2.2.2.2.2.2)) (w_A94 : a 94 = (6001, .inl A94)) (w_A95 : a 95 = (6001, .inl A95)) (w_A96 : a 96 = (6002, .inl A96k18)) (hoffa : ∀ j, nel j [87, 88, 89, 90, 91, 92, 93, 94, 95, 96] = false → a j = a0 j) (ls : Array Slot) (hl : lv_has ls 3 [(0, .ref (q 69)), (1, .int v1k18)]) (hg18 : gloop (fun u18 : (Int32 × (Nat → Int32)) => fX12_laysWorst_S93 F x69_27 A81 A82 A83 t8_68.1 t8_68.2.1 t8_68.2.2.1 t8_68.2.2.2.1 t8_68.2.2.2.2.1 t8_68.2.2.2.2.2.1 t8_68.2.2.2.2.2.2.1 t8_68.2.2.2.2.2.2.2.1 t8_68.2.2.2.2.2.2.2.2.1 t8_68.2.2.2.2.2.2.2.2.2 A94 A95 u18.1 u18.2) n (v1k18, A96k18) = some r18) (hW : GW D cy (gA N q s.heap.size) N q m a s H) (hS : va_S (gA N q s.heap.size) s.heap H locs), W p l e ({ frames := 2, cells := 0, slots := 0, locals := 46 } : Room) s M args below meth c H locs 0 0 (MQ below (va_Qv (fun (u : (Nat → Value) × (Nat → vp_A)) => u.1 6943 = .int X0.1 ∧ u.1 6944 = .int X0.2.1 ∧ u.1 6945 = .int X0.2.2.1 ∧ (∀ j, nel j [6943, 6944, 6945] = false → u.1 j = m0 j) ∧ u.2 87 = (6001, .inl X0.2.2.2.1) ∧ u.2 88 = (6001, .inl X0.2.2.2.2.1) ∧ u.2 89 = (6001, .inl X0.2.2.2.2.2.1) ∧ u.2 90 = (6001, .inl X0.2.2.2.2.2.2.1) ∧ u.2 91 = (6001, .inl X0.2.2.2.2.2.2.2.1) ∧ u.2 92 = (6001, .inl X0.2.2.2.2.2.2.2.2.1) ∧ u.2 93 = (6001, .inl X0.2.2.2.2.2.2.2.2.2.1) ∧ u.2 94 = (6001, .inl X0.2.2.2.2.2.2.2.2.2.2.1) ∧ u.2 95 = (6001, .inl X0.2.2.2.2.2.2.2.2.2.2.2.1) ∧ u.2 96 = (6002, .inl X0.2.2.2.2.2.2.2.2.2.2.2.2) ∧ (∀ j, nel j [87, 88, 89, 90, 91, 92, 93, 94, 95, 96] = false → u.2 j = a0 j)) (gB D cy N q s.heap.size) (gA N q s.heap.size)) args s 0 0 (gA N q s.heap.size)) (F0 M 93 ls []) := by
          intro n
          induction n with
          | zero => intro v1k18 A96k18 m a H locs w_x69_43 w_x69_44 w_x69_45 hoff hsh w_A87 w_A88 w_A89 w_A90 w_A91 w_A92 w_A93 w_A94 w_A95 w_A96 hoffa ls hl hg18 hW hS; exact (gl_zero hg18).elim
          | succ n ih1 =>
            intro v1k18 A96k18 m a H locs w_x69_43 w_x69_44 w_x69_45 hoff hsh w_A87 w_A88 w_A89 w_A90 w_A91 w_A92 w_A93 w_A94 w_A95 w_A96 hoffa ls hl hg18 hW hS
            obtain ⟨X1, hs1, hXl1, hXr1⟩ := gl_succ hg18
            have hs1 : fX12_laysWorst_S93 F x69_27 A81 A82 A83 t8_68.1 t8_68.2.1 t8_68.2.2.1 t8_68.2.2.2.1 t8_68.2.2.2.2.1 t8_68.2.2.2.2.2.1 t8_68.2.2.2.2.2.2.1 t8_68.2.2.2.2.2.2.2.1 t8_68.2.2.2.2.2.2.2.2.1 t8_68.2.2.2.2.2.2.2.2.2 A94 A95 v1k18 A96k18 = some X1 := hs1
            unfold fX12_laysWorst_S93 at hs1
            refine lv_iload_n hx hb dX12_laysWorst_93 rfl (lv_at hl 1 rfl) ?_
            refine lv_aload_n hx hb dX12_laysWorst_94 rfl (lv_at hl 0 rfl) ?_
            refine gf12_27 hx hb hG hown hW (o := 69) (ltN hN 69 rfl) gk69 (v := .int x69_27) ((hoff 6927 rfl).trans h_x69_27) gx713 dX12_laysWorst_95 ?_
            refine lv_icmp_ge (tgt := 124) hx hb dX12_laysWorst_98 (by decide) (fun c79 => ?_) (fun c79 => ?_)
            · rw [if_pos c79] at hs1
              exact hE1_124 A96k18 (hXl1 _ (Option.some.inj hs1).symm) m a _ _ w_x69_43 w_x69_44 w_x69_45 hoff hsh w_A87 w_A88 w_A89 w_A90 w_A91 w_A92 w_A93 w_A94 w_A95 w_A96 hoffa ls (lv_sub hl [0] rfl) hW hS
            · rw [if_neg c79] at hs1
              refine lv_aload_n hx hb dX12_laysWorst_101 rfl (lv_at hl 0 rfl) ?_
              refine gf12_48 hx hb hG hown hW (o := 69) (ltN hN 69 rfl) gk69 (v := .ref (q 96)) (sh69_48 hsh) gx194 dX12_laysWorst_102 ?_
              refine lv_aload_n hx hb dX12_laysWorst_105 rfl (lv_at hl 0 rfl) ?_
              refine gf12_36 hx hb hG hown hW (o := 69) (ltN hN 69 rfl) gk69 (v := .ref (q 87)) (sh69_36 hsh) gx184 dX12_laysWorst_106 ?_
              refine lv_iload_n hx hb dX12_laysWorst_109 rfl (lv_at hl 1 rfl) ?_
              obtain ⟨hi80, hs1⟩ := oif hs1
              refine g_iald hx hb hW (o := 87) (ltN hN 87 rfl) gk87 w_A87 (vin hi80) dX12_laysWorst_110 ?_
              refine lv_iconst (v := 1) hx hb dX12_laysWorst_111 (by decide) ?_
              refine lv_iadd hx hb dX12_laysWorst_112 ?_
              refine lv_dup2_11 hx hb dX12_laysWorst_113 rfl rfl ?_
              obtain ⟨hi81, hs1⟩ := oif hs1
              refine g_iald hx hb hW (o := 96) (ltN hN 96 rfl) gk96 w_A96 (vin hi81) dX12_laysWorst_114 ?_
              refine lv_iconst (v := 1) hx hb dX12_laysWorst_115 (by decide) ?_
              refine lv_iadd hx hb dX12_laysWorst_116 ?_
              obtain ⟨hi82, hs1⟩ := oif hs1
              refine g_iast hx hb hW hS (o := 96) (ltN hN 96 rfl) gk96 w_A96 (vin hi82) dX12_laysWorst_117 (fun a83 H locs ha83 ho83 hW hS => ?_)
              have ho83 := off1 ho83
              have w_A87 : a83 87 = (6001, .inl t8_68.2.2.2.1) := (ho83 87 rfl).trans w_A87
              have w_A88 : a83 88 = (6001, .inl t8_68.2.2.2.2.1) := (ho83 88 rfl).trans w_A88
              have w_A89 : a83 89 = (6001, .inl t8_68.2.2.2.2.2.1) := (ho83 89 rfl).trans w_A89
              have w_A90 : a83 90 = (6001, .inl t8_68.2.2.2.2.2.2.1) := (ho83 90 rfl).trans w_A90
              have w_A91 : a83 91 = (6001, .inl t8_68.2.2.2.2.2.2.2.1) := (ho83 91 rfl).trans w_A91
              have w_A92 : a83 92 = (6001, .inl t8_68.2.2.2.2.2.2.2.2.1) := (ho83 92 rfl).trans w_A92
              have w_A93 : a83 93 = (6001, .inl t8_68.2.2.2.2.2.2.2.2.2) := (ho83 93 rfl).trans w_A93
              have w_A94 : a83 94 = (6001, .inl A94) := (ho83 94 rfl).trans w_A94
              have w_A95 : a83 95 = (6001, .inl A95) := (ho83 95 rfl).trans w_A95
              have w_A96 : a83 96 = (6002, .inl (upd A96k18 ((t8_68.2.2.2.1 v1k18.toNatClampNeg) + 1).toNatClampNeg ((A96k18 ((t8_68.2.2.2.1 v1k18.toNatClampNeg) + 1).toNatClampNeg) + 1))) := ha83
              have hoffa := offm hoffa ho83 (by decide +kernel)
              refine lv_iinc (v := v1k18 + 1) (lv' := [(1, .int (v1k18 + 1)), (0, .ref (q 69))]) hx hb dX12_laysWorst_118 hl (k := 1) rfl rfl (by decide) rfl (fun ls hl => ?_)
              refine lv_goto (tgt := 93) hx hb dX12_laysWorst_121 (by decide) ?_
              exact ih1 (v1k18 + 1) (upd A96k18 ((t8_68.2.2.2.1 v1k18.toNatClampNeg) + 1).toNatClampNeg ((A96k18 ((t8_68.2.2.2.1 v1k18.toNatClampNeg) + 1).toNatClampNeg) + 1)) m a83 _ _ w_x69_43 w_x69_44 w_x69_45 hoff hsh w_A87 w_A88 w_A89 w_A90 w_A91 w_A92 w_A93 w_A94 w_A95 w_A96 hoffa ls (lv_sub hl [1, 0] rfl) (hXr1 _ (Option.some.inj hs1).symm) hW hS
        exact hL1 F 0 t14_91 m a _ _ w_x69_43 w_x69_44 w_x69_45 hoff hsh w_A87 w_A88 w_A89 w_A90 w_A91 w_A92 w_A93 w_A94 w_A95 w_A96 hoffa ls (lv_sub hl [1, 0] rfl) hg18 hW hS
      have hL1 : ∀ (n : Nat) (v1k14 : Int32) (A96k14 : Nat → Int32) (m : Nat → Value) (a : Nat → vp_A) (H : Heap) (locs : List Loc) (w_x69_43 : m 6943 = .int t8_68.1) (w_x69_44 : m 6944 = .int t8_68.2.1) (w_x69_45 : m 6945 = .int t8_68.2.2.1) (hoff : ∀ j, nel j [6943, 6944, 6945] = false → m j = m0 j) (hsh : SH q m) (w_A87 : a 87 = (6001, .inl t8_68.2.2.2.1)) (w_A88 : a 88 = (6001, .inl t8_68.2.2.2.2.1)) (w_A89 : a 89 = (6001, .inl t8_68.2.2.2.2.2.1)) (w_A90 : a 90 = (6001, .inl t8_68.2.2.2.2.2.2.1)) (w_A91 : a 91 = (6001, .inl t8_68.2.2.2.2.2.2.2.1)) (w_A92 : a 92 = (6001, .inl t8_68.2.2.2.2.2.2.2.2.1)) (w_A93 : a 93 = (6001, .inl t8_68.2.2.2.2.2.2.2.2.2)) (w_A94 : a 94 = (6001, .inl A94)) (w_A95 : a 95 = (6001, .inl A95)) (w_A96 : a 96 = (6002, .inl A96k14)) (hoffa : ∀ j, nel j [87, 88, 89, 90, 91, 92, 93, 94, 95, 96] = false → a j = a0 j) (ls : Array Slot) (hl : lv_has ls 3 [(0, .ref (q 69)), (1, .int v1k14)]) (hg14 : gloop (fun u14 : (Int32 × (Nat → Int32)) => fX12_laysWorst_S70 F x69_27 A81 A82 A83 t8_68.1 t8_68.2.1 t8_68.2.2.1 t8_68.2.2.2.1 t8_68.2.2.2.2.1 t8_68.2.2.2.2.2.1 t8_68.2.2.2.2.2.2.1 t8_68.2.2.2.2.2.2.2.1 t8_68.2.2.2.2.2.2.2.2.1 t8_68.2.2.2.2.2.2.2.2.2 A94 A95 u14.1 u14.2) n (v1k14, A96k14) = some r14) (hW : GW D cy (gA N q s.heap.size) N q m a s H) (hS : va_S (gA N q s.heap.size) s.heap H locs), W p l e ({ frames := 2, cells := 0, slots := 0, locals := 46 } : Room) s M args below meth c H locs 0 0 (MQ below (va_Qv (fun (u : (Nat → Value) × (Nat → vp_A)) => u.1 6943 = .int X0.1 ∧ u.1 6944 = .int X0.2.1 ∧ u.1 6945 = .int X0.2.2.1 ∧ (∀ j, nel j [6943, 6944, 6945] = false → u.1 j = m0 j) ∧ u.2 87 = (6001, .inl X0.2.2.2.1) ∧ u.2 88 = (6001, .inl X0.2.2.2.2.1) ∧ u.2 89 = (6001, .inl X0.2.2.2.2.2.1) ∧ u.2 90 = (6001, .inl X0.2.2.2.2.2.2.1) ∧ u.2 91 = (6001, .inl X0.2.2.2.2.2.2.2.1) ∧ u.2 92 = (6001, .inl X0.2.2.2.2.2.2.2.2.1) ∧ u.2 93 = (6001, .inl X0.2.2.2.2.2.2.2.2.2.1) ∧ u.2 94 = (6001, .inl X0.2.2.2.2.2.2.2.2.2.2.1) ∧ u.2 95 = (6001, .inl X0.2.2.2.2.2.2.2.2.2.2.2.1) ∧ u.2 96 = (6002, .inl X0.2.2.2.2.2.2.2.2.2.2.2.2) ∧ (∀ j, nel j [87, 88, 89, 90, 91, 92, 93, 94, 95, 96] = false → u.2 j = a0 j)) (gB D cy N q s.heap.size) (gA N q s.heap.size)) args s 0 0 (gA N q s.heap.size)) (F0 M 70 ls []) := by
        intro n
        induction n with
        | zero => intro v1k14 A96k14 m a H locs w_x69_43 w_x69_44 w_x69_45 hoff hsh w_A87 w_A88 w_A89 w_A90 w_A91 w_A92 w_A93 w_A94 w_A95 w_A96 hoffa ls hl hg14 hW hS; exact (gl_zero hg14).elim
        | succ n ih1 =>
          intro v1k14 A96k14 m a H locs w_x69_43 w_x69_44 w_x69_45 hoff hsh w_A87 w_A88 w_A89 w_A90 w_A91 w_A92 w_A93 w_A94 w_A95 w_A96 hoffa ls hl hg14 hW hS
          obtain ⟨X1, hs1, hXl1, hXr1⟩ := gl_succ hg14
          have hs1 : fX12_laysWorst_S70 F x69_27 A81 A82 A83 t8_68.1 t8_68.2.1 t8_68.2.2.1 t8_68.2.2.2.1 t8_68.2.2.2.2.1 t8_68.2.2.2.2.2.1 t8_68.2.2.2.2.2.2.1 t8_68.2.2.2.2.2.2.2.1 t8_68.2.2.2.2.2.2.2.2.1 t8_68.2.2.2.2.2.2.2.2.2 A94 A95 v1k14 A96k14 = some X1 := hs1
          unfold fX12_laysWorst_S70 at hs1
          refine lv_iload_n hx hb dX12_laysWorst_70 rfl (lv_at hl 1 rfl) ?_
          refine lv_aload_n hx hb dX12_laysWorst_71 rfl (lv_at hl 0 rfl) ?_
          refine gf12_44 hx hb hG hown hW (o := 69) (ltN hN 69 rfl) gk69 (v := .int t8_68.2.1) w_x69_44 gx804 dX12_laysWorst_72 ?_
          refine lv_icmp_gt (tgt := 91) hx hb dX12_laysWorst_75 (by decide) (fun c84 => ?_) (fun c84 => ?_)
          · rw [if_pos c84] at hs1
            exact hE1_91 A96k14 (hXl1 _ (Option.some.inj hs1).symm) m a _ _ w_x69_43 w_x69_44 w_x69_45 hoff hsh w_A87 w_A88 w_A89 w_A90 w_A91 w_A92 w_A93 w_A94 w_A95 w_A96 hoffa ls (lv_sub hl [0] rfl) hW hS
          · rw [if_neg c84] at hs1
            refine lv_aload_n hx hb dX12_laysWorst_78 rfl (lv_at hl 0 rfl) ?_
            refine gf12_48 hx hb hG hown hW (o := 69) (ltN hN 69 rfl) gk69 (v := .ref (q 96)) (sh69_48 hsh) gx194 dX12_laysWorst_79 ?_
            refine lv_iload_n hx hb dX12_laysWorst_82 rfl (lv_at hl 1 rfl) ?_
            refine lv_iconst (v := 0) hx hb dX12_laysWorst_83 (by decide) ?_
            obtain ⟨hi85, hs1⟩ := oif hs1
            refine g_iast hx hb hW hS (o := 96) (ltN hN 96 rfl) gk96 w_A96 (vin hi85) dX12_laysWorst_84 (fun a86 H locs ha86 ho86 hW hS => ?_)
            have ho86 := off1 ho86
            have w_A87 : a86 87 = (6001, .inl t8_68.2.2.2.1) := (ho86 87 rfl).trans w_A87
            have w_A88 : a86 88 = (6001, .inl t8_68.2.2.2.2.1) := (ho86 88 rfl).trans w_A88
            have w_A89 : a86 89 = (6001, .inl t8_68.2.2.2.2.2.1) := (ho86 89 rfl).trans w_A89
            have w_A90 : a86 90 = (6001, .inl t8_68.2.2.2.2.2.2.1) := (ho86 90 rfl).trans w_A90
            have w_A91 : a86 91 = (6001, .inl t8_68.2.2.2.2.2.2.2.1) := (ho86 91 rfl).trans w_A91
            have w_A92 : a86 92 = (6001, .inl t8_68.2.2.2.2.2.2.2.2.1) := (ho86 92 rfl).trans w_A92
            have w_A93 : a86 93 = (6001, .inl t8_68.2.2.2.2.2.2.2.2.2) := (ho86 93 rfl).trans w_A93
            have w_A94 : a86 94 = (6001, .inl A94) := (ho86 94 rfl).trans w_A94
            have w_A95 : a86 95 = (6001, .inl A95) := (ho86 95 rfl).trans w_A95
            have w_A96 : a86 96 = (6002, .inl (upd A96k14 v1k14.toNatClampNeg 0)) := ha86
            have hoffa := offm hoffa ho86 (by decide +kernel)
            refine lv_iinc (v := v1k14 + 1) (lv' := [(1, .int (v1k14 + 1)), (0, .ref (q 69))]) hx hb dX12_laysWorst_85 hl (k := 1) rfl rfl (by decide) rfl (fun ls hl => ?_)
            refine lv_goto (tgt := 70) hx hb dX12_laysWorst_88 (by decide) ?_
            exact ih1 (v1k14 + 1) (upd A96k14 v1k14.toNatClampNeg 0) m a86 _ _ w_x69_43 w_x69_44 w_x69_45 hoff hsh w_A87 w_A88 w_A89 w_A90 w_A91 w_A92 w_A93 w_A94 w_A95 w_A96 hoffa ls (lv_sub hl [1, 0] rfl) (hXr1 _ (Option.some.inj hs1).symm) hW hS
      exact hL1 F 0 A96 m a _ _ w_x69_43 w_x69_44 w_x69_45 hoff hsh w_A87 w_A88 w_A89 w_A90 w_A91 w_A92 w_A93 w_A94 w_A95 w_A96 hoffa ls (lv_sub hl [1, 0] rfl) hg14 hW hS
    have hL1 : ∀ (n : Nat) (v1k8 : Int32) (x69_43k8 : Int32) (x69_44k8 : Int32) (x69_45k8 : Int32) (A87k8 : Nat → Int32) (A88k8 : Nat → Int32) (A89k8 : Nat → Int32) (A90k8 : Nat → Int32) (A91k8 : Nat → Int32) (A92k8 : Nat → Int32) (A93k8 : Nat → Int32) (m : Nat → Value) (a : Nat → vp_A) (H : Heap) (locs : List Loc) (w_x69_43 : m 6943 = .int x69_43k8) (w_x69_44 : m 6944 = .int x69_44k8) (w_x69_45 : m 6945 = .int x69_45k8) (hoff : ∀ j, nel j [6943, 6944, 6945] = false → m j = m0 j) (hsh : SH q m) (w_A87 : a 87 = (6001, .inl A87k8)) (w_A88 : a 88 = (6001, .inl A88k8)) (w_A89 : a 89 = (6001, .inl A89k8)) (w_A90 : a 90 = (6001, .inl A90k8)) (w_A91 : a 91 = (6001, .inl A91k8)) (w_A92 : a 92 = (6001, .inl A92k8)) (w_A93 : a 93 = (6001, .inl A93k8)) (w_A94 : a 94 = (6001, .inl A94)) (w_A95 : a 95 = (6001, .inl A95)) (w_A96 : a 96 = (6002, .inl A96)) (hoffa : ∀ j, nel j [87, 88, 89, 90, 91, 92, 93, 94, 95, 96] = false → a j = a0 j) (ls : Array Slot) (hl : lv_has ls 3 [(0, .ref (q 69)), (1, .int v1k8)]) (hg8 : gloop (fun u8 : (Int32 × Int32 × Int32 × Int32 × (Nat → Int32) × (Nat → Int32) × (Nat → Int32) × (Nat → Int32) × (Nat → Int32) × (Nat → Int32) × (Nat → Int32)) => fX12_laysWorst_S40 F x69_27 A81 A82 A83 A94 A95 A96 u8.1 u8.2.1 u8.2.2.1 u8.2.2.2.1 u8.2.2.2.2.1 u8.2.2.2.2.2.1 u8.2.2.2.2.2.2.1 u8.2.2.2.2.2.2.2.1 u8.2.2.2.2.2.2.2.2.1 u8.2.2.2.2.2.2.2.2.2.1 u8.2.2.2.2.2.2.2.2.2.2) n (v1k8, x69_43k8, x69_44k8, x69_45k8, A87k8, A88k8, A89k8, A90k8, A91k8, A92k8, A93k8) = some r8) (hW : GW D cy (gA N q s.heap.size) N q m a s H) (hS : va_S (gA N q s.heap.size) s.heap H locs), W p l e ({ frames := 2, cells := 0, slots := 0, locals := 46 } : Room) s M args below meth c H locs 0 0 (MQ below (va_Qv (fun (u : (Nat → Value) × (Nat → vp_A)) => u.1 6943 = .int X0.1 ∧ u.1 6944 = .int X0.2.1 ∧ u.1 6945 = .int X0.2.2.1 ∧ (∀ j, nel j [6943, 6944, 6945] = false → u.1 j = m0 j) ∧ u.2 87 = (6001, .inl X0.2.2.2.1) ∧ u.2 88 = (6001, .inl X0.2.2.2.2.1) ∧ u.2 89 = (6001, .inl X0.2.2.2.2.2.1) ∧ u.2 90 = (6001, .inl X0.2.2.2.2.2.2.1) ∧ u.2 91 = (6001, .inl X0.2.2.2.2.2.2.2.1) ∧ u.2 92 = (6001, .inl X0.2.2.2.2.2.2.2.2.1) ∧ u.2 93 = (6001, .inl X0.2.2.2.2.2.2.2.2.2.1) ∧ u.2 94 = (6001, .inl X0.2.2.2.2.2.2.2.2.2.2.1) ∧ u.2 95 = (6001, .inl X0.2.2.2.2.2.2.2.2.2.2.2.1) ∧ u.2 96 = (6002, .inl X0.2.2.2.2.2.2.2.2.2.2.2.2) ∧ (∀ j, nel j [87, 88, 89, 90, 91, 92, 93, 94, 95, 96] = false → u.2 j = a0 j)) (gB D cy N q s.heap.size) (gA N q s.heap.size)) args s 0 0 (gA N q s.heap.size)) (F0 M 40 ls []) := by
      intro n
      induction n with
      | zero => intro v1k8 x69_43k8 x69_44k8 x69_45k8 A87k8 A88k8 A89k8 A90k8 A91k8 A92k8 A93k8 m a H locs w_x69_43 w_x69_44 w_x69_45 hoff hsh w_A87 w_A88 w_A89 w_A90 w_A91 w_A92 w_A93 w_A94 w_A95 w_A96 hoffa ls hl hg8 hW hS; exact (gl_zero hg8).elim
      | succ n ih1 =>
        intro v1k8 x69_43k8 x69_44k8 x69_45k8 A87k8 A88k8 A89k8 A90k8 A91k8 A92k8 A93k8 m a H locs w_x69_43 w_x69_44 w_x69_45 hoff hsh w_A87 w_A88 w_A89 w_A90 w_A91 w_A92 w_A93 w_A94 w_A95 w_A96 hoffa ls hl hg8 hW hS
        obtain ⟨X1, hs1, hXl1, hXr1⟩ := gl_succ hg8
        have hs1 : fX12_laysWorst_S40 F x69_27 A81 A82 A83 A94 A95 A96 v1k8 x69_43k8 x69_44k8 x69_45k8 A87k8 A88k8 A89k8 A90k8 A91k8 A92k8 A93k8 = some X1 := hs1
        unfold fX12_laysWorst_S40 at hs1
        have hJ62_1 : ∀ (v1j90 : Int32) (x69_43j90 : Int32) (x69_44j90 : Int32) (x69_45j90 : Int32) (A87j90 : Nat → Int32) (A88j90 : Nat → Int32) (A89j90 : Nat → Int32) (A90j90 : Nat → Int32) (A91j90 : Nat → Int32) (A92j90 : Nat → Int32) (A93j90 : Nat → Int32) (m : Nat → Value) (a : Nat → vp_A) (H : Heap) (locs : List Loc) (w_x69_43 : m 6943 = .int x69_43j90) (w_x69_44 : m 6944 = .int x69_44j90) (w_x69_45 : m 6945 = .int x69_45j90) (hoff : ∀ j, nel j [6943, 6944, 6945] = false → m j = m0 j) (hsh : SH q m) (w_A87 : a 87 = (6001, .inl A87j90)) (w_A88 : a 88 = (6001, .inl A88j90)) (w_A89 : a 89 = (6001, .inl A89j90)) (w_A90 : a 90 = (6001, .inl A90j90)) (w_A91 : a 91 = (6001, .inl A91j90)) (w_A92 : a 92 = (6001, .inl A92j90)) (w_A93 : a 93 = (6001, .inl A93j90)) (w_A94 : a 94 = (6001, .inl A94)) (w_A95 : a 95 = (6001, .inl A95)) (w_A96 : a 96 = (6002, .inl A96)) (hoffa : ∀ j, nel j [87, 88, 89, 90, 91, 92, 93, 94, 95, 96] = false → a j = a0 j) (ls : Array Slot) (hl : lv_has ls 3 [(0, .ref (q 69)), (1, .int v1j90)]) (hs1 : fX12_laysWorst_J62 F x69_27 A81 A82 A83 v1j90 x69_43j90 x69_44j90 x69_45j90 A87j90 A88j90 A89j90 A90j90 A91j90 A92j90 A93j90 A94 A95 A96 = some X1) (hW : GW D cy (gA N q s.heap.size) N q m a s H) (hS : va_S (gA N q s.heap.size) s.heap H locs), W p l e ({ frames := 2, cells := 0, slots := 0, locals := 46 } : Room) s M args below meth c H locs 0 0 (MQ below (va_Qv (fun (u : (Nat → Value) × (Nat → vp_A)) => u.1 6943 = .int X0.1 ∧ u.1 6944 = .int X0.2.1 ∧ u.1 6945 = .int X0.2.2.1 ∧ (∀ j, nel j [6943, 6944, 6945] = false → u.1 j = m0 j) ∧ u.2 87 = (6001, .inl X0.2.2.2.1) ∧ u.2 88 = (6001, .inl X0.2.2.2.2.1) ∧ u.2 89 = (6001, .inl X0.2.2.2.2.2.1) ∧ u.2 90 = (6001, .inl X0.2.2.2.2.2.2.1) ∧ u.2 91 = (6001, .inl X0.2.2.2.2.2.2.2.1) ∧ u.2 92 = (6001, .inl X0.2.2.2.2.2.2.2.2.1) ∧ u.2 93 = (6001, .inl X0.2.2.2.2.2.2.2.2.2.1) ∧ u.2 94 = (6001, .inl X0.2.2.2.2.2.2.2.2.2.2.1) ∧ u.2 95 = (6001, .inl X0.2.2.2.2.2.2.2.2.2.2.2.1) ∧ u.2 96 = (6002, .inl X0.2.2.2.2.2.2.2.2.2.2.2.2) ∧ (∀ j, nel j [87, 88, 89, 90, 91, 92, 93, 94, 95, 96] = false → u.2 j = a0 j)) (gB D cy N q s.heap.size) (gA N q s.heap.size)) args s 0 0 (gA N q s.heap.size)) (F0 M 62 ls []) := by
          intro v1j90 x69_43j90 x69_44j90 x69_45j90 A87j90 A88j90 A89j90 A90j90 A91j90 A92j90 A93j90 m a H locs w_x69_43 w_x69_44 w_x69_45 hoff hsh w_A87 w_A88 w_A89 w_A90 w_A91 w_A92 w_A93 w_A94 w_A95 w_A96 hoffa ls hl hs1 hW hS
          unfold fX12_laysWorst_J62 at hs1
          refine lv_iinc (v := v1j90 + 1) (lv' := [(1, .int (v1j90 + 1)), (0, .ref (q 69))]) hx hb dX12_laysWorst_62 hl (k := 1) rfl rfl (by decide) rfl (fun ls hl => ?_)
          refine lv_goto (tgt := 40) hx hb dX12_laysWorst_65 (by decide) ?_
          exact ih1 (v1j90 + 1) x69_43j90 x69_44j90 x69_45j90 A87j90 A88j90 A89j90 A90j90 A91j90 A92j90 A93j90 m a _ _ w_x69_43 w_x69_44 w_x69_45 hoff hsh w_A87 w_A88 w_A89 w_A90 w_A91 w_A92 w_A93 w_A94 w_A95 w_A96 hoffa ls (lv_sub hl [1, 0] rfl) (hXr1 _ (Option.some.inj hs1).symm) hW hS
        refine lv_iload_n hx hb dX12_laysWorst_40 rfl (lv_at hl 1 rfl) ?_
        refine lv_aload_n hx hb dX12_laysWorst_41 rfl (lv_at hl 0 rfl) ?_
        refine gf12_27 hx hb hG hown hW (o := 69) (ltN hN 69 rfl) gk69 (v := .int x69_27) ((hoff 6927 rfl).trans h_x69_27) gx713 dX12_laysWorst_42 ?_
        refine lv_icmp_ge (tgt := 68) hx hb dX12_laysWorst_45 (by decide) (fun c87 => ?_) (fun c87 => ?_)
        · rw [if_pos c87] at hs1
          exact hE1_68 (x69_43k8, x69_44k8, x69_45k8, A87k8, A88k8, A89k8, A90k8, A91k8, A92k8, A93k8) (hXl1 _ (Option.some.inj hs1).symm) m a _ _ w_x69_43 w_x69_44 w_x69_45 hoff hsh w_A87 w_A88 w_A89 w_A90 w_A91 w_A92 w_A93 w_A94 w_A95 w_A96 hoffa ls (lv_sub hl [0] rfl) hW hS
        · rw [if_neg c87] at hs1
          refine lv_aload_n hx hb dX12_laysWorst_48 rfl (lv_at hl 0 rfl) ?_
          refine gf12_38 hx hb hG hown hW (o := 69) (ltN hN 69 rfl) gk69 (v := .ref (q 89)) (sh69_38 hsh) gx186 dX12_laysWorst_49 ?_
          refine lv_iload_n hx hb dX12_laysWorst_52 rfl (lv_at hl 1 rfl) ?_
          obtain ⟨hi88, hs1⟩ := oif hs1
          refine g_iald hx hb hW (o := 89) (ltN hN 89 rfl) gk89 w_A89 (vin hi88) dX12_laysWorst_53 ?_
          refine lv_if_ge (tgt := 62) hx hb dX12_laysWorst_54 (by decide) (fun c89 => ?_) (fun c89 => ?_)
          · rw [if_pos c89] at hs1
            exact hJ62_1 v1k8 x69_43k8 x69_44k8 x69_45k8 A87k8 A88k8 A89k8 A90k8 A91k8 A92k8 A93k8 m a _ _ w_x69_43 w_x69_44 w_x69_45 hoff hsh w_A87 w_A88 w_A89 w_A90 w_A91 w_A92 w_A93 w_A94 w_A95 w_A96 hoffa ls (lv_sub hl [0, 1] rfl) hs1 hW hS
          · rw [if_neg c89] at hs1
            refine lv_aload_n hx hb dX12_laysWorst_57 rfl (lv_at hl 0 rfl) ?_
            refine lv_iload_n hx hb dX12_laysWorst_58 rfl (lv_at hl 1 rfl) ?_
            obtain ⟨r91, hf91, hs1⟩ := obind hs1
            refine g_Vv (n := 1) hx hb hml hown hG hW hS [.int v1k8] (kX12_walks hN hsh ((hoffa 81 rfl).trans h_A81) ((hoffa 82 rfl).trans h_A82) w_x69_43 w_x69_44 w_x69_45 w_A87 w_A88 w_A89 w_A90 w_A91 w_A92 w_A93 F v1k8 hf91) (ltN hN 69 rfl) gk69 (by decide) rfl rfl (gd_V gx807 gx808 gx809 gx5 gx810) rfl rfl (by decide) ⟨Nat.le_of_ble_eq_true rfl, Nat.le_of_ble_eq_true rfl⟩ rfl hl (Nat.le_of_ble_eq_true rfl) ⟨Nat.zero_le _, Nat.zero_le _⟩ dX12_laysWorst_59 (fun m91 a91 H locs hp91 hW hS => ?_)
            obtain ⟨hp91_x69_43, hp91_x69_44, hp91_x69_45, ho91, hp91_A87, hp91_A88, hp91_A89, hp91_A90, hp91_A91, hp91_A92, hp91_A93, hoa91⟩ := hp91
            have w_x69_43 : m91 6943 = .int r91.1 := hp91_x69_43
            have w_x69_44 : m91 6944 = .int r91.2.1 := hp91_x69_44
            have w_x69_45 : m91 6945 = .int r91.2.2.1 := hp91_x69_45
            have hoff := offm hoff ho91 (by decide +kernel)
            have hsh := SH.off hsh ho91 (by decide +kernel)
            have w_A87 : a91 87 = (6001, .inl r91.2.2.2.1) := hp91_A87
            have w_A88 : a91 88 = (6001, .inl r91.2.2.2.2.1) := hp91_A88
            have w_A89 : a91 89 = (6001, .inl r91.2.2.2.2.2.1) := hp91_A89
            have w_A90 : a91 90 = (6001, .inl r91.2.2.2.2.2.2.1) := hp91_A90
            have w_A91 : a91 91 = (6001, .inl r91.2.2.2.2.2.2.2.1) := hp91_A91
            have w_A92 : a91 92 = (6001, .inl r91.2.2.2.2.2.2.2.2.1) := hp91_A92
            have w_A93 : a91 93 = (6001, .inl r91.2.2.2.2.2.2.2.2.2) := hp91_A93
            have w_A94 : a91 94 = (6001, .inl A94) := (hoa91 94 rfl).trans w_A94
            have w_A95 : a91 95 = (6001, .inl A95) := (hoa91 95 rfl).trans w_A95
            have w_A96 : a91 96 = (6002, .inl A96) := (hoa91 96 rfl).trans w_A96
            have hoffa := offm hoffa hoa91 (by decide +kernel)
            exact hJ62_1 v1k8 r91.1 r91.2.1 r91.2.2.1 r91.2.2.2.1 r91.2.2.2.2.1 r91.2.2.2.2.2.1 r91.2.2.2.2.2.2.1 r91.2.2.2.2.2.2.2.1 r91.2.2.2.2.2.2.2.2.1 r91.2.2.2.2.2.2.2.2.2 m91 a91 _ _ w_x69_43 w_x69_44 w_x69_45 hoff hsh w_A87 w_A88 w_A89 w_A90 w_A91 w_A92 w_A93 w_A94 w_A95 w_A96 hoffa ls (lv_sub hl [0, 1] rfl) hs1 hW hS
    exact hL1 F 0 0 0 0 A87 A88 t4_38 A90 A91 A92 A93 m a _ _ w_x69_43 w_x69_44 w_x69_45 hoff hsh w_A87 w_A88 w_A89 w_A90 w_A91 w_A92 w_A93 w_A94 w_A95 w_A96 hoffa ls (lv_sub hl [1, 0] rfl) hg8 hW hS
  have hL1 : ∀ (n : Nat) (v1k4 : Int32) (A89k4 : Nat → Int32) (m : Nat → Value) (a : Nat → vp_A) (H : Heap) (locs : List Loc) (w_x69_43 : m 6943 = .int 0) (w_x69_44 : m 6944 = .int 0) (w_x69_45 : m 6945 = .int 0) (hoff : ∀ j, nel j [6943, 6944, 6945] = false → m j = m0 j) (hsh : SH q m) (w_A87 : a 87 = (6001, .inl A87)) (w_A88 : a 88 = (6001, .inl A88)) (w_A89 : a 89 = (6001, .inl A89k4)) (w_A90 : a 90 = (6001, .inl A90)) (w_A91 : a 91 = (6001, .inl A91)) (w_A92 : a 92 = (6001, .inl A92)) (w_A93 : a 93 = (6001, .inl A93)) (w_A94 : a 94 = (6001, .inl A94)) (w_A95 : a 95 = (6001, .inl A95)) (w_A96 : a 96 = (6002, .inl A96)) (hoffa : ∀ j, nel j [87, 88, 89, 90, 91, 92, 93, 94, 95, 96] = false → a j = a0 j) (ls : Array Slot) (hl : lv_has ls 3 [(0, .ref (q 69)), (1, .int v1k4)]) (hg4 : gloop (fun u4 : (Int32 × (Nat → Int32)) => fX12_laysWorst_S17 F x69_27 A81 A82 A83 0 0 0 A87 A88 A90 A91 A92 A93 A94 A95 A96 u4.1 u4.2) n (v1k4, A89k4) = some r4) (hW : GW D cy (gA N q s.heap.size) N q m a s H) (hS : va_S (gA N q s.heap.size) s.heap H locs), W p l e ({ frames := 2, cells := 0, slots := 0, locals := 46 } : Room) s M args below meth c H locs 0 0 (MQ below (va_Qv (fun (u : (Nat → Value) × (Nat → vp_A)) => u.1 6943 = .int X0.1 ∧ u.1 6944 = .int X0.2.1 ∧ u.1 6945 = .int X0.2.2.1 ∧ (∀ j, nel j [6943, 6944, 6945] = false → u.1 j = m0 j) ∧ u.2 87 = (6001, .inl X0.2.2.2.1) ∧ u.2 88 = (6001, .inl X0.2.2.2.2.1) ∧ u.2 89 = (6001, .inl X0.2.2.2.2.2.1) ∧ u.2 90 = (6001, .inl X0.2.2.2.2.2.2.1) ∧ u.2 91 = (6001, .inl X0.2.2.2.2.2.2.2.1) ∧ u.2 92 = (6001, .inl X0.2.2.2.2.2.2.2.2.1) ∧ u.2 93 = (6001, .inl X0.2.2.2.2.2.2.2.2.2.1) ∧ u.2 94 = (6001, .inl X0.2.2.2.2.2.2.2.2.2.2.1) ∧ u.2 95 = (6001, .inl X0.2.2.2.2.2.2.2.2.2.2.2.1) ∧ u.2 96 = (6002, .inl X0.2.2.2.2.2.2.2.2.2.2.2.2) ∧ (∀ j, nel j [87, 88, 89, 90, 91, 92, 93, 94, 95, 96] = false → u.2 j = a0 j)) (gB D cy N q s.heap.size) (gA N q s.heap.size)) args s 0 0 (gA N q s.heap.size)) (F0 M 17 ls []) := by
    intro n
    induction n with
    | zero => intro v1k4 A89k4 m a H locs w_x69_43 w_x69_44 w_x69_45 hoff hsh w_A87 w_A88 w_A89 w_A90 w_A91 w_A92 w_A93 w_A94 w_A95 w_A96 hoffa ls hl hg4 hW hS; exact (gl_zero hg4).elim
    | succ n ih1 =>
      intro v1k4 A89k4 m a H locs w_x69_43 w_x69_44 w_x69_45 hoff hsh w_A87 w_A88 w_A89 w_A90 w_A91 w_A92 w_A93 w_A94 w_A95 w_A96 hoffa ls hl hg4 hW hS
      obtain ⟨X1, hs1, hXl1, hXr1⟩ := gl_succ hg4
      have hs1 : fX12_laysWorst_S17 F x69_27 A81 A82 A83 0 0 0 A87 A88 A90 A91 A92 A93 A94 A95 A96 v1k4 A89k4 = some X1 := hs1
      unfold fX12_laysWorst_S17 at hs1
      refine lv_iload_n hx hb dX12_laysWorst_17 rfl (lv_at hl 1 rfl) ?_
      refine lv_aload_n hx hb dX12_laysWorst_18 rfl (lv_at hl 0 rfl) ?_
      refine gf12_27 hx hb hG hown hW (o := 69) (ltN hN 69 rfl) gk69 (v := .int x69_27) ((hoff 6927 rfl).trans h_x69_27) gx713 dX12_laysWorst_19 ?_
      refine lv_icmp_ge (tgt := 38) hx hb dX12_laysWorst_22 (by decide) (fun c92 => ?_) (fun c92 => ?_)
      · rw [if_pos c92] at hs1
        exact hE1_38 A89k4 (hXl1 _ (Option.some.inj hs1).symm) m a _ _ w_x69_43 w_x69_44 w_x69_45 hoff hsh w_A87 w_A88 w_A89 w_A90 w_A91 w_A92 w_A93 w_A94 w_A95 w_A96 hoffa ls (lv_sub hl [0] rfl) hW hS
      · rw [if_neg c92] at hs1
        refine lv_aload_n hx hb dX12_laysWorst_25 rfl (lv_at hl 0 rfl) ?_
        refine gf12_38 hx hb hG hown hW (o := 69) (ltN hN 69 rfl) gk69 (v := .ref (q 89)) (sh69_38 hsh) gx186 dX12_laysWorst_26 ?_
        refine lv_iload_n hx hb dX12_laysWorst_29 rfl (lv_at hl 1 rfl) ?_
        refine lv_iconst (v := (-1)) hx hb dX12_laysWorst_30 (by decide) ?_
        obtain ⟨hi93, hs1⟩ := oif hs1
        refine g_iast hx hb hW hS (o := 89) (ltN hN 89 rfl) gk89 w_A89 (vin hi93) dX12_laysWorst_31 (fun a94 H locs ha94 ho94 hW hS => ?_)
        have ho94 := off1 ho94
        have w_A87 : a94 87 = (6001, .inl A87) := (ho94 87 rfl).trans w_A87
        have w_A88 : a94 88 = (6001, .inl A88) := (ho94 88 rfl).trans w_A88
        have w_A89 : a94 89 = (6001, .inl (upd A89k4 v1k4.toNatClampNeg (-1))) := ha94
        have w_A90 : a94 90 = (6001, .inl A90) := (ho94 90 rfl).trans w_A90
        have w_A91 : a94 91 = (6001, .inl A91) := (ho94 91 rfl).trans w_A91
        have w_A92 : a94 92 = (6001, .inl A92) := (ho94 92 rfl).trans w_A92
        have w_A93 : a94 93 = (6001, .inl A93) := (ho94 93 rfl).trans w_A93
        have w_A94 : a94 94 = (6001, .inl A94) := (ho94 94 rfl).trans w_A94
        have w_A95 : a94 95 = (6001, .inl A95) := (ho94 95 rfl).trans w_A95
        have w_A96 : a94 96 = (6002, .inl A96) := (ho94 96 rfl).trans w_A96
        have hoffa := offm hoffa ho94 (by decide +kernel)
        refine lv_iinc (v := v1k4 + 1) (lv' := [(1, .int (v1k4 + 1)), (0, .ref (q 69))]) hx hb dX12_laysWorst_32 hl (k := 1) rfl rfl (by decide) rfl (fun ls hl => ?_)
        refine lv_goto (tgt := 17) hx hb dX12_laysWorst_35 (by decide) ?_
        exact ih1 (v1k4 + 1) (upd A89k4 v1k4.toNatClampNeg (-1)) m a94 _ _ w_x69_43 w_x69_44 w_x69_45 hoff hsh w_A87 w_A88 w_A89 w_A90 w_A91 w_A92 w_A93 w_A94 w_A95 w_A96 hoffa ls (lv_sub hl [1, 0] rfl) (hXr1 _ (Option.some.inj hs1).symm) hW hS
  exact hL1 F 0 A89 m3 a0 _ _ w_x69_43 w_x69_44 w_x69_45 hoff hsh h_A87 h_A88 h_A89 h_A90 h_A91 h_A92 h_A93 h_A94 h_A95 h_A96 hoffa ls (lv_sub hl [1, 0] rfl) hg4 hW hS
-- HealLinkModel.worst ()I
def fX12_worst (F : Nat) (x69_0 : Int32) (x69_1 : Int32) (x69_2 : Int32) (x69_3 : Int32) (x69_4 : Int64) (x69_18 : Int32) (x69_19 : Int64) (x69_20 : Int32) (x69_21 : Int32) (x69_22 : Int32) (x69_27 : Int32) (x69_35 : Int32) (x69_43 : Int32) (x69_44 : Int32) (x69_45 : Int32) (A76 : Nat → Int32) (A77 : Nat → Int32) (A78 : Nat → Int32) (A79 : Nat → Int64) (A80 : Nat → Int32) (A81 : Nat → Int32) (A82 : Nat → Int32) (A83 : Nat → Int32) (A84 : Nat → Int32) (A85 : Nat → Int32) (A86 : Nat → Int32) (A87 : Nat → Int32) (A88 : Nat → Int32) (A89 : Nat → Int32) (A90 : Nat → Int32) (A91 : Nat → Int32) (A92 : Nat → Int32) (A93 : Nat → Int32) (A94 : Nat → Int32) (A95 : Nat → Int32) (A96 : Nat → Int32) : Option (Int32 × Int32 × Int64 × Int32 × Int32 × Int32 × Int32 × Int32 × Int32 × Int32 × Int32 × (Nat → Int32) × (Nat → Int32) × (Nat → Int32) × (Nat → Int64) × (Nat → Int32) × (Nat → Int32) × (Nat → Int32) × (Nat → Int32) × (Nat → Int32) × (Nat → Int32) × (Nat → Int32) × (Nat → Int32) × (Nat → Int32) × (Nat → Int32) × (Nat → Int32) × (Nat → Int32) × (Nat → Int32) × (Nat → Int32) × (Nat → Int32) × (Nat → Int32) × (Nat → Int32)) := ((fX12_reaches F x69_0 x69_1 x69_3 x69_19 x69_20 x69_21 x69_22 x69_27 x69_35 A76 A77 A78 A79 A80 A81 A82 A83 A84 A85 A86 x69_4 x69_2).bind (fun r2 => (if r2.1 = 0 then some ((-3), 0, r2.2.1, r2.2.2.1, r2.2.2.2.1, r2.2.2.2.2.1, r2.2.2.2.2.2.1, r2.2.2.2.2.2.2.1, x69_43, x69_44, x69_45, r2.2.2.2.2.2.2.2.1, r2.2.2.2.2.2.2.2.2.1, r2.2.2.2.2.2.2.2.2.2.1, r2.2.2.2.2.2.2.2.2.2.2.1, r2.2.2.2.2.2.2.2.2.2.2.2.1, r2.2.2.2.2.2.2.2.2.2.2.2.2.1, r2.2.2.2.2.2.2.2.2.2.2.2.2.2.1, r2.2.2.2.2.2.2.2.2.2.2.2.2.2.2.1, r2.2.2.2.2.2.2.2.2.2.2.2.2.2.2.2.1, r2.2.2.2.2.2.2.2.2.2.2.2.2.2.2.2.2.1, r2.2.2.2.2.2.2.2.2.2.2.2.2.2.2.2.2.2, A87, A88, A89, A90, A91, A92, A93, A94, A95, A96) else ((fX12_laysWorst F r2.2.2.2.2.2.1 r2.2.2.2.2.2.2.2.2.2.2.2.2.1 r2.2.2.2.2.2.2.2.2.2.2.2.2.2.1 r2.2.2.2.2.2.2.2.2.2.2.2.2.2.2.1 x69_43 x69_44 x69_45 A87 A88 A89 A90 A91 A92 A93 A94 A95 A96).bind (fun r4 => (if inb (r4.2.2.2.1 (0 : Int32).toNatClampNeg) 6001 = true then some ((fX12_told (r4.2.2.2.2.2.2.2.2.2.2.1 (r4.2.2.2.1 (0 : Int32).toNatClampNeg).toNatClampNeg)), 0, r2.2.1, r2.2.2.1, r2.2.2.2.1, r2.2.2.2.2.1, r2.2.2.2.2.2.1, r2.2.2.2.2.2.2.1, r4.1, r4.2.1, r4.2.2.1, r2.2.2.2.2.2.2.2.1, r2.2.2.2.2.2.2.2.2.1, r2.2.2.2.2.2.2.2.2.2.1, r2.2.2.2.2.2.2.2.2.2.2.1, r2.2.2.2.2.2.2.2.2.2.2.2.1, r2.2.2.2.2.2.2.2.2.2.2.2.2.1, r2.2.2.2.2.2.2.2.2.2.2.2.2.2.1, r2.2.2.2.2.2.2.2.2.2.2.2.2.2.2.1, r2.2.2.2.2.2.2.2.2.2.2.2.2.2.2.2.1, r2.2.2.2.2.2.2.2.2.2.2.2.2.2.2.2.2.1, r2.2.2.2.2.2.2.2.2.2.2.2.2.2.2.2.2.2, r4.2.2.2.1, r4.2.2.2.2.1, r4.2.2.2.2.2.1, r4.2.2.2.2.2.2.1, r4.2.2.2.2.2.2.2.1, r4.2.2.2.2.2.2.2.2.1, r4.2.2.2.2.2.2.2.2.2.1, r4.2.2.2.2.2.2.2.2.2.2.1, r4.2.2.2.2.2.2.2.2.2.2.2.1, r4.2.2.2.2.2.2.2.2.2.2.2.2) else none))))))
theorem dX12_worst_0 : decode cX12_worst 0 = .ok (.aload_n 0, 1) := by decide +kernel
theorem dX12_worst_1 : decode cX12_worst 1 = .ok (.iconst 0, 1) := by decide +kernel
theorem dX12_worst_2 : decode cX12_worst 2 = .ok (.putfield 137, 3) := by decide +kernel
theorem dX12_worst_5 : decode cX12_worst 5 = .ok (.aload_n 0, 1) := by decide +kernel
theorem dX12_worst_6 : decode cX12_worst 6 = .ok (.aload_n 0, 1) := by decide +kernel
theorem dX12_worst_7 : decode cX12_worst 7 = .ok (.getfield 133, 3) := by decide +kernel
theorem dX12_worst_10 : decode cX12_worst 10 = .ok (.aload_n 0, 1) := by decide +kernel
theorem dX12_worst_11 : decode cX12_worst 11 = .ok (.getfield 16, 3) := by decide +kernel
theorem dX12_worst_14 : decode cX12_worst 14 = .ok (.invokevirtual 278, 3) := by decide +kernel
theorem dX12_worst_17 : decode cX12_worst 17 = .ok (.ifCond .ne 6, 3) := by decide +kernel
theorem dX12_worst_20 : decode cX12_worst 20 = .ok (.bipush (-3), 2) := by decide +kernel
theorem dX12_worst_22 : decode cX12_worst 22 = .ok (.ireturn, 1) := by decide +kernel
theorem dX12_worst_23 : decode cX12_worst 23 = .ok (.aload_n 0, 1) := by decide +kernel
theorem dX12_worst_24 : decode cX12_worst 24 = .ok (.invokevirtual 304, 3) := by decide +kernel
theorem dX12_worst_27 : decode cX12_worst 27 = .ok (.aload_n 0, 1) := by decide +kernel
theorem dX12_worst_28 : decode cX12_worst 28 = .ok (.getfield 98, 3) := by decide +kernel
theorem dX12_worst_31 : decode cX12_worst 31 = .ok (.aload_n 0, 1) := by decide +kernel
theorem dX12_worst_32 : decode cX12_worst 32 = .ok (.getfield 76, 3) := by decide +kernel
theorem dX12_worst_35 : decode cX12_worst 35 = .ok (.iconst 0, 1) := by decide +kernel
theorem dX12_worst_36 : decode cX12_worst 36 = .ok (.iaload, 1) := by decide +kernel
theorem dX12_worst_37 : decode cX12_worst 37 = .ok (.iaload, 1) := by decide +kernel
theorem dX12_worst_38 : decode cX12_worst 38 = .ok (.invokestatic 307, 3) := by decide +kernel
theorem dX12_worst_41 : decode cX12_worst 41 = .ok (.ireturn, 1) := by decide +kernel
set_option maxHeartbeats 4000000 in
set_option maxRecDepth 100000 in
theorem kX12_worst {l : Launch} {D : va_G} {cy : Nat → ClassId} {N : Nat} {q : Nat → Nat} {m0 : Nat → Value} {a0 : Nat → vp_A} {sz : Nat} (hN : 105 ≤ N) (hsh : SH q m0) {x69_0 : Int32} (h_x69_0 : m0 6900 = .int x69_0) {x69_1 : Int32} (h_x69_1 : m0 6901 = .int x69_1) {x69_2 : Int32} (h_x69_2 : m0 6902 = .int x69_2) {x69_3 : Int32} (h_x69_3 : m0 6903 = .int x69_3) {x69_4 : Int64} (h_x69_4 : m0 6904 = .long x69_4) {x69_18 : Int32} (h_x69_18 : m0 6918 = .int x69_18) {x69_19 : Int64} (h_x69_19 : m0 6919 = .long x69_19) {x69_20 : Int32} (h_x69_20 : m0 6920 = .int x69_20) {x69_21 : Int32} (h_x69_21 : m0 6921 = .int x69_21) {x69_22 : Int32} (h_x69_22 : m0 6922 = .int x69_22) {x69_27 : Int32} (h_x69_27 : m0 6927 = .int x69_27) {x69_35 : Int32} (h_x69_35 : m0 6935 = .int x69_35) {x69_43 : Int32} (h_x69_43 : m0 6943 = .int x69_43) {x69_44 : Int32} (h_x69_44 : m0 6944 = .int x69_44) {x69_45 : Int32} (h_x69_45 : m0 6945 = .int x69_45) {A76 : Nat → Int32} (h_A76 : a0 76 = (40, .inl A76)) {A77 : Nat → Int32} (h_A77 : a0 77 = (40, .inl A77)) {A78 : Nat → Int32} (h_A78 : a0 78 = (40, .inl A78)) {A79 : Nat → Int64} (h_A79 : a0 79 = (6001, .inr (.inl A79))) {A80 : Nat → Int32} (h_A80 : a0 80 = (16384, .inl A80)) {A81 : Nat → Int32} (h_A81 : a0 81 = (6002, .inl A81)) {A82 : Nat → Int32} (h_A82 : a0 82 = (84000, .inl A82)) {A83 : Nat → Int32} (h_A83 : a0 83 = (84000, .inl A83)) {A84 : Nat → Int32} (h_A84 : a0 84 = (84000, .inl A84)) {A85 : Nat → Int32} (h_A85 : a0 85 = (84000, .inl A85)) {A86 : Nat → Int32} (h_A86 : a0 86 = (84000, .inl A86)) {A87 : Nat → Int32} (h_A87 : a0 87 = (6001, .inl A87)) {A88 : Nat → Int32} (h_A88 : a0 88 = (6001, .inl A88)) {A89 : Nat → Int32} (h_A89 : a0 89 = (6001, .inl A89)) {A90 : Nat → Int32} (h_A90 : a0 90 = (6001, .inl A90)) {A91 : Nat → Int32} (h_A91 : a0 91 = (6001, .inl A91)) {A92 : Nat → Int32} (h_A92 : a0 92 = (6001, .inl A92)) {A93 : Nat → Int32} (h_A93 : a0 93 = (6001, .inl A93)) {A94 : Nat → Int32} (h_A94 : a0 94 = (6001, .inl A94)) {A95 : Nat → Int32} (h_A95 : a0 95 = (6001, .inl A95)) {A96 : Nat → Int32} (h_A96 : a0 96 = (6002, .inl A96)) (F : Nat) {X0 : Int32 × Int32 × Int64 × Int32 × Int32 × Int32 × Int32 × Int32 × Int32 × Int32 × Int32 × (Nat → Int32) × (Nat → Int32) × (Nat → Int32) × (Nat → Int64) × (Nat → Int32) × (Nat → Int32) × (Nat → Int32) × (Nat → Int32) × (Nat → Int32) × (Nat → Int32) × (Nat → Int32) × (Nat → Int32) × (Nat → Int32) × (Nat → Int32) × (Nat → Int32) × (Nat → Int32) × (Nat → Int32) × (Nat → Int32) × (Nat → Int32) × (Nat → Int32) × (Nat → Int32)} (hs0 : fX12_worst F x69_0 x69_1 x69_2 x69_3 x69_4 x69_18 x69_19 x69_20 x69_21 x69_22 x69_27 x69_35 x69_43 x69_44 x69_45 A76 A77 A78 A79 A80 A81 A82 A83 A84 A85 A86 A87 A88 A89 A90 A91 A92 A93 A94 A95 A96 = some X0) : gMi l yX12_worst cX12_worst 1 (some .int) ({ frames := 8, cells := 0, slots := 0, locals := 188 } : Room) D cy N q m0 a0 sz [.ref (q 69)] (fun r m' a' => r = X0.1 ∧ m' 6918 = .int X0.2.1 ∧ m' 6919 = .long X0.2.2.1 ∧ m' 6920 = .int X0.2.2.2.1 ∧ m' 6921 = .int X0.2.2.2.2.1 ∧ m' 6922 = .int X0.2.2.2.2.2.1 ∧ m' 6927 = .int X0.2.2.2.2.2.2.1 ∧ m' 6935 = .int X0.2.2.2.2.2.2.2.1 ∧ m' 6943 = .int X0.2.2.2.2.2.2.2.2.1 ∧ m' 6944 = .int X0.2.2.2.2.2.2.2.2.2.1 ∧ m' 6945 = .int X0.2.2.2.2.2.2.2.2.2.2.1 ∧ (∀ j, nel j [6918, 6919, 6920, 6921, 6922, 6927, 6935, 6943, 6944, 6945] = false → m' j = m0 j) ∧ a' 76 = (40, .inl X0.2.2.2.2.2.2.2.2.2.2.2.1) ∧ a' 77 = (40, .inl X0.2.2.2.2.2.2.2.2.2.2.2.2.1) ∧ a' 78 = (40, .inl X0.2.2.2.2.2.2.2.2.2.2.2.2.2.1) ∧ a' 79 = (6001, .inr (.inl X0.2.2.2.2.2.2.2.2.2.2.2.2.2.2.1)) ∧ a' 80 = (16384, .inl X0.2.2.2.2.2.2.2.2.2.2.2.2.2.2.2.1) ∧ a' 81 = (6002, .inl X0.2.2.2.2.2.2.2.2.2.2.2.2.2.2.2.2.1) ∧ a' 82 = (84000, .inl X0.2.2.2.2.2.2.2.2.2.2.2.2.2.2.2.2.2.1) ∧ a' 83 = (84000, .inl X0.2.2.2.2.2.2.2.2.2.2.2.2.2.2.2.2.2.2.1) ∧ a' 84 = (84000, .inl X0.2.2.2.2.2.2.2.2.2.2.2.2.2.2.2.2.2.2.2.1) ∧ a' 85 = (84000, .inl X0.2.2.2.2.2.2.2.2.2.2.2.2.2.2.2.2.2.2.2.2.1) ∧ a' 86 = (84000, .inl X0.2.2.2.2.2.2.2.2.2.2.2.2.2.2.2.2.2.2.2.2.2.1) ∧ a' 87 = (6001, .inl X0.2.2.2.2.2.2.2.2.2.2.2.2.2.2.2.2.2.2.2.2.2.2.1) ∧ a' 88 = (6001, .inl X0.2.2.2.2.2.2.2.2.2.2.2.2.2.2.2.2.2.2.2.2.2.2.2.1) ∧ a' 89 = (6001, .inl X0.2.2.2.2.2.2.2.2.2.2.2.2.2.2.2.2.2.2.2.2.2.2.2.2.1) ∧ a' 90 = (6001, .inl X0.2.2.2.2.2.2.2.2.2.2.2.2.2.2.2.2.2.2.2.2.2.2.2.2.2.1) ∧ a' 91 = (6001, .inl X0.2.2.2.2.2.2.2.2.2.2.2.2.2.2.2.2.2.2.2.2.2.2.2.2.2.2.1) ∧ a' 92 = (6001, .inl X0.2.2.2.2.2.2.2.2.2.2.2.2.2.2.2.2.2.2.2.2.2.2.2.2.2.2.2.1) ∧ a' 93 = (6001, .inl X0.2.2.2.2.2.2.2.2.2.2.2.2.2.2.2.2.2.2.2.2.2.2.2.2.2.2.2.2.1) ∧ a' 94 = (6001, .inl X0.2.2.2.2.2.2.2.2.2.2.2.2.2.2.2.2.2.2.2.2.2.2.2.2.2.2.2.2.2.1) ∧ a' 95 = (6001, .inl X0.2.2.2.2.2.2.2.2.2.2.2.2.2.2.2.2.2.2.2.2.2.2.2.2.2.2.2.2.2.2.1) ∧ a' 96 = (6002, .inl X0.2.2.2.2.2.2.2.2.2.2.2.2.2.2.2.2.2.2.2.2.2.2.2.2.2.2.2.2.2.2.2) ∧ (∀ j, nel j [76, 77, 78, 79, 80, 81, 82, 83, 84, 85, 86, 87, 88, 89, 90, 91, 92, 93, 94, 95, 96] = false → a' j = a0 j)) := by
  refine g_ofi (by decide) (Nat.le_of_ble_eq_true rfl) ?_
  intro p e s M args below meth c hx hb hr hG hown hin hlocks hml hW hS ls hl
  unfold fX12_worst at hs0
  have hoff : ∀ j, nel j [6918, 6919, 6920, 6921, 6922, 6927, 6935, 6943, 6944, 6945] = false → m0 j = m0 j := off0
  have hoffa : ∀ j, nel j [76, 77, 78, 79, 80, 81, 82, 83, 84, 85, 86, 87, 88, 89, 90, 91, 92, 93, 94, 95, 96] = false → a0 j = a0 j := off0
  refine lv_aload_n hx hb dX12_worst_0 rfl (lv_at hl 0 rfl) ?_
  refine lv_iconst (v := 0) hx hb dX12_worst_1 (by decide) ?_
  refine gp12_18 hx hb hG hown hW hS (o := 69) (ltN hN 69 rfl) gk69 (v := 0) gx246 dX12_worst_2 (fun m1 H locs hm1 ho1 hW hS => ?_)
  have ho1 := off1 ho1
  have w_x69_18 : m1 6918 = .int 0 := hm1
  have w_x69_19 : m1 6919 = .long x69_19 := (ho1 6919 rfl).trans h_x69_19
  have w_x69_20 : m1 6920 = .int x69_20 := (ho1 6920 rfl).trans h_x69_20
  have w_x69_21 : m1 6921 = .int x69_21 := (ho1 6921 rfl).trans h_x69_21
  have w_x69_22 : m1 6922 = .int x69_22 := (ho1 6922 rfl).trans h_x69_22
  have w_x69_27 : m1 6927 = .int x69_27 := (ho1 6927 rfl).trans h_x69_27
  have w_x69_35 : m1 6935 = .int x69_35 := (ho1 6935 rfl).trans h_x69_35
  have w_x69_43 : m1 6943 = .int x69_43 := (ho1 6943 rfl).trans h_x69_43
  have w_x69_44 : m1 6944 = .int x69_44 := (ho1 6944 rfl).trans h_x69_44
  have w_x69_45 : m1 6945 = .int x69_45 := (ho1 6945 rfl).trans h_x69_45
  have hoff := offm hoff ho1 (by decide +kernel)
  have hsh := SH.off hsh ho1 (by decide +kernel)
  refine lv_aload_n hx hb dX12_worst_5 rfl (lv_at hl 0 rfl) ?_
  refine lv_aload_n hx hb dX12_worst_6 rfl (lv_at hl 0 rfl) ?_
  refine gf12_4 hx hb hG hown hW (o := 69) (ltN hN 69 rfl) gk69 (v := .long x69_4) ((hoff 6904 rfl).trans h_x69_4) gx202 dX12_worst_7 ?_
  refine lv_aload_n hx hb dX12_worst_10 rfl (lv_at hl 0 rfl) ?_
  refine gf12_2 hx hb hG hown hW (o := 69) (ltN hN 69 rfl) gk69 (v := .int x69_2) ((hoff 6902 rfl).trans h_x69_2) gx164 dX12_worst_11 ?_
  obtain ⟨r2, hf2, hs0⟩ := obind hs0
  refine g_Vi (n := 2) hx hb hml hown hG hW hS [.long x69_4, .int x69_2] (kX12_reaches hN hsh ((hoff 6900 rfl).trans h_x69_0) ((hoff 6901 rfl).trans h_x69_1) ((hoff 6903 rfl).trans h_x69_3) w_x69_19 w_x69_20 w_x69_21 w_x69_22 w_x69_27 w_x69_35 h_A76 h_A77 h_A78 h_A79 h_A80 h_A81 h_A82 h_A83 h_A84 h_A85 h_A86 F x69_4 x69_2 hf2) (ltN hN 69 rfl) gk69 (by decide) rfl rfl (gd_V gx714 gx715 gx716 gx5 gx717) rfl rfl (by decide) ⟨Nat.le_of_ble_eq_true rfl, Nat.le_of_ble_eq_true rfl⟩ rfl hl (Nat.le_of_ble_eq_true rfl) ⟨Nat.zero_le _, Nat.zero_le _⟩ dX12_worst_14 (fun x2 m2 a2 H locs hp2 hW hS => ?_)
  obtain ⟨hx2, hp2_x69_19, hp2_x69_20, hp2_x69_21, hp2_x69_22, hp2_x69_27, hp2_x69_35, ho2, hp2_A76, hp2_A77, hp2_A78, hp2_A79, hp2_A80, hp2_A81, hp2_A82, hp2_A83, hp2_A84, hp2_A85, hp2_A86, hoa2⟩ := hp2
  subst hx2
  have w_x69_18 : m2 6918 = .int 0 := (ho2 6918 rfl).trans w_x69_18
  have w_x69_19 : m2 6919 = .long r2.2.1 := hp2_x69_19
  have w_x69_20 : m2 6920 = .int r2.2.2.1 := hp2_x69_20
  have w_x69_21 : m2 6921 = .int r2.2.2.2.1 := hp2_x69_21
  have w_x69_22 : m2 6922 = .int r2.2.2.2.2.1 := hp2_x69_22
  have w_x69_27 : m2 6927 = .int r2.2.2.2.2.2.1 := hp2_x69_27
  have w_x69_35 : m2 6935 = .int r2.2.2.2.2.2.2.1 := hp2_x69_35
  have w_x69_43 : m2 6943 = .int x69_43 := (ho2 6943 rfl).trans w_x69_43
  have w_x69_44 : m2 6944 = .int x69_44 := (ho2 6944 rfl).trans w_x69_44
  have w_x69_45 : m2 6945 = .int x69_45 := (ho2 6945 rfl).trans w_x69_45
  have hoff := offm hoff ho2 (by decide +kernel)
  have hsh := SH.off hsh ho2 (by decide +kernel)
  have w_A76 : a2 76 = (40, .inl r2.2.2.2.2.2.2.2.1) := hp2_A76
  have w_A77 : a2 77 = (40, .inl r2.2.2.2.2.2.2.2.2.1) := hp2_A77
  have w_A78 : a2 78 = (40, .inl r2.2.2.2.2.2.2.2.2.2.1) := hp2_A78
  have w_A79 : a2 79 = (6001, .inr (.inl r2.2.2.2.2.2.2.2.2.2.2.1)) := hp2_A79
  have w_A80 : a2 80 = (16384, .inl r2.2.2.2.2.2.2.2.2.2.2.2.1) := hp2_A80
  have w_A81 : a2 81 = (6002, .inl r2.2.2.2.2.2.2.2.2.2.2.2.2.1) := hp2_A81
  have w_A82 : a2 82 = (84000, .inl r2.2.2.2.2.2.2.2.2.2.2.2.2.2.1) := hp2_A82
  have w_A83 : a2 83 = (84000, .inl r2.2.2.2.2.2.2.2.2.2.2.2.2.2.2.1) := hp2_A83
  have w_A84 : a2 84 = (84000, .inl r2.2.2.2.2.2.2.2.2.2.2.2.2.2.2.2.1) := hp2_A84
  have w_A85 : a2 85 = (84000, .inl r2.2.2.2.2.2.2.2.2.2.2.2.2.2.2.2.2.1) := hp2_A85
  have w_A86 : a2 86 = (84000, .inl r2.2.2.2.2.2.2.2.2.2.2.2.2.2.2.2.2.2) := hp2_A86
  have w_A87 : a2 87 = (6001, .inl A87) := (hoa2 87 rfl).trans h_A87
  have w_A88 : a2 88 = (6001, .inl A88) := (hoa2 88 rfl).trans h_A88
  have w_A89 : a2 89 = (6001, .inl A89) := (hoa2 89 rfl).trans h_A89
  have w_A90 : a2 90 = (6001, .inl A90) := (hoa2 90 rfl).trans h_A90
  have w_A91 : a2 91 = (6001, .inl A91) := (hoa2 91 rfl).trans h_A91
  have w_A92 : a2 92 = (6001, .inl A92) := (hoa2 92 rfl).trans h_A92
  have w_A93 : a2 93 = (6001, .inl A93) := (hoa2 93 rfl).trans h_A93
  have w_A94 : a2 94 = (6001, .inl A94) := (hoa2 94 rfl).trans h_A94
  have w_A95 : a2 95 = (6001, .inl A95) := (hoa2 95 rfl).trans h_A95
  have w_A96 : a2 96 = (6002, .inl A96) := (hoa2 96 rfl).trans h_A96
  have hoffa := offm hoffa hoa2 (by decide +kernel)
  refine lv_if_ne (tgt := 23) hx hb dX12_worst_17 (by decide) (fun c3 => ?_) (fun c3 => ?_)
  · rw [if_neg c3] at hs0
    refine lv_aload_n hx hb dX12_worst_23 rfl (lv_at hl 0 rfl) ?_
    obtain ⟨r4, hf4, hs0⟩ := obind hs0
    refine g_Vv (n := 0) hx hb hml hown hG hW hS [] (kX12_laysWorst hN hsh w_x69_27 w_A81 w_A82 w_A83 w_x69_43 w_x69_44 w_x69_45 w_A87 w_A88 w_A89 w_A90 w_A91 w_A92 w_A93 w_A94 w_A95 w_A96 F hf4) (ltN hN 69 rfl) gk69 (by decide) rfl rfl (gd_V gx800 gx801 gx802 gx5 gx803) rfl rfl (by decide) ⟨Nat.le_of_ble_eq_true rfl, Nat.le_of_ble_eq_true rfl⟩ rfl hl (Nat.le_of_ble_eq_true rfl) ⟨Nat.zero_le _, Nat.zero_le _⟩ dX12_worst_24 (fun m4 a4 H locs hp4 hW hS => ?_)
    obtain ⟨hp4_x69_43, hp4_x69_44, hp4_x69_45, ho4, hp4_A87, hp4_A88, hp4_A89, hp4_A90, hp4_A91, hp4_A92, hp4_A93, hp4_A94, hp4_A95, hp4_A96, hoa4⟩ := hp4
    have w_x69_18 : m4 6918 = .int 0 := (ho4 6918 rfl).trans w_x69_18
    have w_x69_19 : m4 6919 = .long r2.2.1 := (ho4 6919 rfl).trans w_x69_19
    have w_x69_20 : m4 6920 = .int r2.2.2.1 := (ho4 6920 rfl).trans w_x69_20
    have w_x69_21 : m4 6921 = .int r2.2.2.2.1 := (ho4 6921 rfl).trans w_x69_21
    have w_x69_22 : m4 6922 = .int r2.2.2.2.2.1 := (ho4 6922 rfl).trans w_x69_22
    have w_x69_27 : m4 6927 = .int r2.2.2.2.2.2.1 := (ho4 6927 rfl).trans w_x69_27
    have w_x69_35 : m4 6935 = .int r2.2.2.2.2.2.2.1 := (ho4 6935 rfl).trans w_x69_35
    have w_x69_43 : m4 6943 = .int r4.1 := hp4_x69_43
    have w_x69_44 : m4 6944 = .int r4.2.1 := hp4_x69_44
    have w_x69_45 : m4 6945 = .int r4.2.2.1 := hp4_x69_45
    have hoff := offm hoff ho4 (by decide +kernel)
    have hsh := SH.off hsh ho4 (by decide +kernel)
    have w_A76 : a4 76 = (40, .inl r2.2.2.2.2.2.2.2.1) := (hoa4 76 rfl).trans w_A76
    have w_A77 : a4 77 = (40, .inl r2.2.2.2.2.2.2.2.2.1) := (hoa4 77 rfl).trans w_A77
    have w_A78 : a4 78 = (40, .inl r2.2.2.2.2.2.2.2.2.2.1) := (hoa4 78 rfl).trans w_A78
    have w_A79 : a4 79 = (6001, .inr (.inl r2.2.2.2.2.2.2.2.2.2.2.1)) := (hoa4 79 rfl).trans w_A79
    have w_A80 : a4 80 = (16384, .inl r2.2.2.2.2.2.2.2.2.2.2.2.1) := (hoa4 80 rfl).trans w_A80
    have w_A81 : a4 81 = (6002, .inl r2.2.2.2.2.2.2.2.2.2.2.2.2.1) := (hoa4 81 rfl).trans w_A81
    have w_A82 : a4 82 = (84000, .inl r2.2.2.2.2.2.2.2.2.2.2.2.2.2.1) := (hoa4 82 rfl).trans w_A82
    have w_A83 : a4 83 = (84000, .inl r2.2.2.2.2.2.2.2.2.2.2.2.2.2.2.1) := (hoa4 83 rfl).trans w_A83
    have w_A84 : a4 84 = (84000, .inl r2.2.2.2.2.2.2.2.2.2.2.2.2.2.2.2.1) := (hoa4 84 rfl).trans w_A84
    have w_A85 : a4 85 = (84000, .inl r2.2.2.2.2.2.2.2.2.2.2.2.2.2.2.2.2.1) := (hoa4 85 rfl).trans w_A85
    have w_A86 : a4 86 = (84000, .inl r2.2.2.2.2.2.2.2.2.2.2.2.2.2.2.2.2.2) := (hoa4 86 rfl).trans w_A86
    have w_A87 : a4 87 = (6001, .inl r4.2.2.2.1) := hp4_A87
    have w_A88 : a4 88 = (6001, .inl r4.2.2.2.2.1) := hp4_A88
    have w_A89 : a4 89 = (6001, .inl r4.2.2.2.2.2.1) := hp4_A89
    have w_A90 : a4 90 = (6001, .inl r4.2.2.2.2.2.2.1) := hp4_A90
    have w_A91 : a4 91 = (6001, .inl r4.2.2.2.2.2.2.2.1) := hp4_A91
    have w_A92 : a4 92 = (6001, .inl r4.2.2.2.2.2.2.2.2.1) := hp4_A92
    have w_A93 : a4 93 = (6001, .inl r4.2.2.2.2.2.2.2.2.2.1) := hp4_A93
    have w_A94 : a4 94 = (6001, .inl r4.2.2.2.2.2.2.2.2.2.2.1) := hp4_A94
    have w_A95 : a4 95 = (6001, .inl r4.2.2.2.2.2.2.2.2.2.2.2.1) := hp4_A95
    have w_A96 : a4 96 = (6002, .inl r4.2.2.2.2.2.2.2.2.2.2.2.2) := hp4_A96
    have hoffa := offm hoffa hoa4 (by decide +kernel)
    refine lv_aload_n hx hb dX12_worst_27 rfl (lv_at hl 0 rfl) ?_
    refine gf12_46 hx hb hG hown hW (o := 69) (ltN hN 69 rfl) gk69 (v := .ref (q 94)) (sh69_46 hsh) gx192 dX12_worst_28 ?_
    refine lv_aload_n hx hb dX12_worst_31 rfl (lv_at hl 0 rfl) ?_
    refine gf12_36 hx hb hG hown hW (o := 69) (ltN hN 69 rfl) gk69 (v := .ref (q 87)) (sh69_36 hsh) gx184 dX12_worst_32 ?_
    refine lv_iconst (v := 0) hx hb dX12_worst_35 (by decide) ?_
    refine g_iald hx hb hW (o := 87) (ltN hN 87 rfl) gk87 w_A87 (vin (by decide)) dX12_worst_36 ?_
    obtain ⟨hi5, hs0⟩ := oif hs0
    refine g_iald hx hb hW (o := 94) (ltN hN 94 rfl) gk94 w_A94 (vin hi5) dX12_worst_37 ?_
    refine g_SiR (n := 1) hx hb hml hown hG hW hS [.int (r4.2.2.2.2.2.2.2.2.2.2.1 (r4.2.2.2.1 (0 : Int32).toNatClampNeg).toNatClampNeg)] (kX12_told hN (r4.2.2.2.2.2.2.2.2.2.2.1 (r4.2.2.2.1 (0 : Int32).toNatClampNeg).toNatClampNeg)) rfl (gd_S gx824 gx825 gx5 gx826) rfl rfl (by decide) ⟨Nat.le_of_ble_eq_true rfl, Nat.le_of_ble_eq_true rfl⟩ rfl hl (Nat.le_of_ble_eq_true rfl) ⟨Nat.zero_le _, Nat.zero_le _⟩ dX12_worst_38 (fun H locs hW hS => ?_)
    have hs0 := Option.some.inj hs0
    subst hs0
    exact W.zret hx hb hr rfl (fun t ht hw => ⟨⟨_, (m4, a4), rfl, ⟨rfl, w_x69_18, w_x69_19, w_x69_20, w_x69_21, w_x69_22, w_x69_27, w_x69_35, w_x69_43, w_x69_44, w_x69_45, hoff, w_A76, w_A77, w_A78, w_A79, w_A80, w_A81, w_A82, w_A83, w_A84, w_A85, w_A86, w_A87, w_A88, w_A89, w_A90, w_A91, w_A92, w_A93, w_A94, w_A95, w_A96, hoffa⟩, g_end hW ht hw⟩, hS.F ht⟩) hS.2.2 dX12_worst_41 hlocks
  · rw [if_pos c3] at hs0
    refine lv_bipush (v := (-3)) hx hb dX12_worst_20 (by decide) ?_
    have hs0 := Option.some.inj hs0
    subst hs0
    exact W.zret hx hb hr rfl (fun t ht hw => ⟨⟨_, (m2, a2), rfl, ⟨rfl, w_x69_18, w_x69_19, w_x69_20, w_x69_21, w_x69_22, w_x69_27, w_x69_35, w_x69_43, w_x69_44, w_x69_45, hoff, w_A76, w_A77, w_A78, w_A79, w_A80, w_A81, w_A82, w_A83, w_A84, w_A85, w_A86, w_A87, w_A88, w_A89, w_A90, w_A91, w_A92, w_A93, w_A94, w_A95, w_A96, hoffa⟩, g_end hW ht hw⟩, hS.F ht⟩) hS.2.2 dX12_worst_22 hlocks
