/-! part 45: odds, by hand -/
theorem dX9_oddsBits_0 : decode cX9_oddsBits 0 = .ok (.aload_n 0, 1) := by decide +kernel
theorem dX9_oddsBits_1 : decode cX9_oddsBits 1 = .ok (.getfield 21, 3) := by decide +kernel
theorem dX9_oddsBits_4 : decode cX9_oddsBits 4 = .ok (.aload_n 0, 1) := by decide +kernel
theorem dX9_oddsBits_5 : decode cX9_oddsBits 5 = .ok (.getfield 12, 3) := by decide +kernel
theorem dX9_oddsBits_8 : decode cX9_oddsBits 8 = .ok (.iload_n 1, 1) := by decide +kernel
theorem dX9_oddsBits_9 : decode cX9_oddsBits 9 = .ok (.invokevirtual 99, 3) := by decide +kernel
theorem dX9_oddsBits_12 : decode cX9_oddsBits 12 = .ok (.lreturn, 1) := by decide +kernel
theorem dX11_odds_0 : decode cX11_odds 0 = .ok (.iload_n 1, 1) := by decide +kernel
theorem dX11_odds_1 : decode cX11_odds 1 = .ok (.iconst 1, 1) := by decide +kernel
theorem dX11_odds_2 : decode cX11_odds 2 = .ok (.if_icmp .lt 9, 3) := by decide +kernel
theorem dX11_odds_5 : decode cX11_odds 5 = .ok (.iload_n 1, 1) := by decide +kernel
theorem dX11_odds_6 : decode cX11_odds 6 = .ok (.bipush 40, 2) := by decide +kernel
theorem dX11_odds_8 : decode cX11_odds 8 = .ok (.if_icmp .le 7, 3) := by decide +kernel
theorem dX11_odds_11 : decode cX11_odds 11 = .ok (.ldc2_w 247, 3) := by decide +kernel
theorem dX11_odds_14 : decode cX11_odds 14 = .ok (.lreturn, 1) := by decide +kernel
theorem dX11_odds_15 : decode cX11_odds 15 = .ok (.aload_n 0, 1) := by decide +kernel
theorem dX11_odds_16 : decode cX11_odds 16 = .ok (.getfield 47, 3) := by decide +kernel
theorem dX11_odds_19 : decode cX11_odds 19 = .ok (.aload_n 0, 1) := by decide +kernel
theorem dX11_odds_20 : decode cX11_odds 20 = .ok (.getfield 56, 3) := by decide +kernel
theorem dX11_odds_23 : decode cX11_odds 23 = .ok (.aload_n 0, 1) := by decide +kernel
theorem dX11_odds_24 : decode cX11_odds 24 = .ok (.getfield 64, 3) := by decide +kernel
theorem dX11_odds_27 : decode cX11_odds 27 = .ok (.invokevirtual 220, 3) := by decide +kernel
theorem dX11_odds_30 : decode cX11_odds 30 = .ok (.ifCond .eq 14, 3) := by decide +kernel
theorem dX11_odds_33 : decode cX11_odds 33 = .ok (.aload_n 0, 1) := by decide +kernel
theorem dX11_odds_34 : decode cX11_odds 34 = .ok (.getfield 47, 3) := by decide +kernel
theorem dX11_odds_37 : decode cX11_odds 37 = .ok (.iload_n 1, 1) := by decide +kernel
theorem dX11_odds_38 : decode cX11_odds 38 = .ok (.invokevirtual 249, 3) := by decide +kernel
theorem dX11_odds_41 : decode cX11_odds 41 = .ok (.goto 6, 3) := by decide +kernel
theorem dX11_odds_44 : decode cX11_odds 44 = .ok (.ldc2_w 253, 3) := by decide +kernel
theorem dX11_odds_47 : decode cX11_odds 47 = .ok (.lreturn, 1) := by decide +kernel
set_option maxHeartbeats 4000000 in
set_option maxRecDepth 100000 in
theorem kX9_oddsBits {l : Launch} {D : va_G} {cy : Nat → ClassId} {N : Nat} {q : Nat → Nat} {m0 : Nat → Value} {a0 : Nat → vp_A} {sz : Nat} (hN : 105 ≤ N) (hsh : SH q m0) {kn kt : Nat} (hkk : KK kn kt) (hnow : m0 3900 = .ref (q kn)) (hthen : m0 3901 = .ref (q kt)) {x28_2 : Int32} (h_x28_2 : m0 2802 = .int x28_2) {A30 : Nat → Int32} (h_A30 : a0 30 = (6001, .inl A30)) {A35 : Nat → Int32} (h_A35 : a0 35 = (60000, .inl A35)) {AN : Nat → UInt64} (h_AN : a0 kn = (6000, .inr (.inr (.inr (.inl AN))))) {AT : Nat → UInt64} (h_AT : a0 kt = (6000, .inr (.inr (.inr (.inl AT))))) (F : Nat) (p1 : Int32) {X0 : Int64} (hs0 : fX3_bitsAfter F x28_2 A30 A35 AN AT p1 = some X0) : gMl l yX9_oddsBits cX9_oddsBits 2 (some .long) ({ frames := 5, cells := 0, slots := 0, locals := 150 } : Room) D cy N q m0 a0 sz [.ref (q 27), .int p1] (fun r m' a' => r = X0 ∧ OD q m' a' ∧ (∀ j, nel j [3900, 3901] = false → m' j = m0 j) ∧ (∀ j, nel j [40, 41] = false → a' j = a0 j)) := by
  refine g_ofl (by decide) (Nat.le_of_ble_eq_true rfl) ?_
  intro p e s M args below meth c hx hb hr hG hown hin hlocks hml hW hS ls hl
  refine lv_aload_n hx hb dX9_oddsBits_0 rfl (lv_at hl 0 rfl) ?_
  refine gf9_1 hx hb hG hown hW (o := 27) (ltN hN 27 rfl) gk27 (v := .ref (q 39)) (sh27_1 hsh) gx91 dX9_oddsBits_1 ?_
  refine lv_aload_n hx hb dX9_oddsBits_4 rfl (lv_at hl 0 rfl) ?_
  refine gf9_0 hx hb hG hown hW (o := 27) (ltN hN 27 rfl) gk27 (v := .ref (q 28)) (sh27_0 hsh) gx87 dX9_oddsBits_5 ?_
  refine lv_iload_n hx hb dX9_oddsBits_8 rfl (lv_at hl 1 rfl) ?_
  refine g_Vl (n := 2) hx hb hml hown hG hW hS [.ref (q 28), .int p1] (kX3_bitsAfter hN hsh hkk hnow hthen h_x28_2 h_A30 h_A35 h_AN h_AT F p1 hs0) (ltN hN 39 rfl) gk39 (by decide) rfl rfl (gd_V gx936 gx937 gx938 gx90 gx939) rfl rfl (by decide) ⟨Nat.le_of_ble_eq_true rfl, Nat.le_of_ble_eq_true rfl⟩ rfl hl (Nat.le_of_ble_eq_true rfl) ⟨Nat.zero_le _, Nat.zero_le _⟩ dX9_oddsBits_9 (fun x1 m1 a1 H locs hp hW hS => ?_)
  exact W.lret hx hb hr (fun t ht hw => ⟨⟨_, (m1, a1), rfl, hp, g_end hW ht hw⟩, hS.F ht⟩) hS.2.2 dX9_oddsBits_12 hlocks
def fX11_odds (F : Nat) (x0_8 : Int64) (xkr_0 : Int32) (xkr_1 : Int32) (xkr_2 : Int32) (xkr_3 : Int32) (x27_6 : Int64) (x27_7 : Int32) (x27_8 : Int32) (x28_2 : Int32) (x28_3 : Int32) (x31_1 : Int32) (x31_2 : Int32) (A30 : Nat → Int32) (A33 : Nat → Int32) (A35 : Nat → Int32) (A37 : Nat → Int32) (A38 : Nat → Int64) (AN AT : Nat → UInt64) (p1 : Int32) : Option (Int64 × Int64 × Int32 × Int32 × Int32 × Int32 × Int32 × Int32 × (Nat → Int32) × (Nat → Int32) × (Nat → Int32) × (Nat → Int32) × (Nat → Int64)) := if p1 < 1 then some (-1, x27_6, x27_7, x27_8, x28_2, x28_3, x31_1, x31_2, A30, A33, A35, A37, A38) else (if p1 ≤ 40 then (fX9_covers F xkr_0 xkr_1 xkr_2 xkr_3 x27_6 x27_7 x27_8 x28_2 x28_3 x31_1 x31_2 A30 A33 A35 A37 A38 x0_8).bind (fun r => if r.1 = 0 then some (-3, r.2) else (fX3_bitsAfter F r.2.2.2.2.1 r.2.2.2.2.2.2.2.2.1 r.2.2.2.2.2.2.2.2.2.2.1 AN AT p1).bind (fun v => some (v, r.2))) else some (-1, x27_6, x27_7, x27_8, x28_2, x28_3, x31_1, x31_2, A30, A33, A35, A37, A38))
set_option maxHeartbeats 4000000 in
set_option maxRecDepth 100000 in
theorem kX11_odds {l : Launch} {D : va_G} {cy : Nat → ClassId} {N : Nat} {q : Nat → Nat} {m0 : Nat → Value} {a0 : Nat → vp_A} {sz : Nat} (hN : 105 ≤ N) (hsh : SH q m0) {kn kt : Nat} (hkk : KK kn kt) (hnow : m0 3900 = .ref (q kn)) (hthen : m0 3901 = .ref (q kt)) {kr : Nat} (hkr : kr < N) (hgk : gk kr = 7) (hrf : m0 7 = .ref (q kr)) {x0_8 : Int64} (h_x0_8 : m0 8 = .long x0_8) {xkr_0 : Int32} (h_xkr_0 : m0 (100 * kr + 0) = .int xkr_0) {xkr_1 : Int32} (h_xkr_1 : m0 (100 * kr + 1) = .int xkr_1) {xkr_2 : Int32} (h_xkr_2 : m0 (100 * kr + 2) = .int xkr_2) {xkr_3 : Int32} (h_xkr_3 : m0 (100 * kr + 3) = .int xkr_3) {x27_6 : Int64} (h_x27_6 : m0 2706 = .long x27_6) {x27_7 : Int32} (h_x27_7 : m0 2707 = .int x27_7) {x27_8 : Int32} (h_x27_8 : m0 2708 = .int x27_8) {x28_2 : Int32} (h_x28_2 : m0 2802 = .int x28_2) {x28_3 : Int32} (h_x28_3 : m0 2803 = .int x28_3) {x31_1 : Int32} (h_x31_1 : m0 3101 = .int x31_1) {x31_2 : Int32} (h_x31_2 : m0 3102 = .int x31_2) {A30 : Nat → Int32} (h_A30 : a0 30 = (6001, .inl A30)) {A33 : Nat → Int32} (h_A33 : a0 33 = (10, .inl A33)) {A35 : Nat → Int32} (h_A35 : a0 35 = (60000, .inl A35)) {A37 : Nat → Int32} (h_A37 : a0 37 = (16384, .inl A37)) {A38 : Nat → Int64} (h_A38 : a0 38 = (6000, .inr (.inl A38))) {AN : Nat → UInt64} (h_AN : a0 kn = (6000, .inr (.inr (.inr (.inl AN))))) {AT : Nat → UInt64} (h_AT : a0 kt = (6000, .inr (.inr (.inr (.inl AT))))) (F : Nat) (p1 : Int32) {X0 : Int64 × Int64 × Int32 × Int32 × Int32 × Int32 × Int32 × Int32 × (Nat → Int32) × (Nat → Int32) × (Nat → Int32) × (Nat → Int32) × (Nat → Int64)} (hs0 : fX11_odds F x0_8 xkr_0 xkr_1 xkr_2 xkr_3 x27_6 x27_7 x27_8 x28_2 x28_3 x31_1 x31_2 A30 A33 A35 A37 A38 AN AT p1 = some X0) : gMl l yX11_odds cX11_odds 2 (some .long) ({ frames := 7, cells := 0, slots := 0, locals := 200 } : Room) D cy N q m0 a0 sz [.ref (q 0), .int p1] (fun r m' a' => r = X0.1 ∧ m' 2706 = .long X0.2.1 ∧ m' 2707 = .int X0.2.2.1 ∧ m' 2708 = .int X0.2.2.2.1 ∧ m' 2802 = .int X0.2.2.2.2.1 ∧ m' 2803 = .int X0.2.2.2.2.2.1 ∧ m' 3101 = .int X0.2.2.2.2.2.2.1 ∧ m' 3102 = .int X0.2.2.2.2.2.2.2.1 ∧ a' 30 = (6001, .inl X0.2.2.2.2.2.2.2.2.1) ∧ a' 33 = (10, .inl X0.2.2.2.2.2.2.2.2.2.1) ∧ a' 35 = (60000, .inl X0.2.2.2.2.2.2.2.2.2.2.1) ∧ a' 37 = (16384, .inl X0.2.2.2.2.2.2.2.2.2.2.2.1) ∧ a' 38 = (6000, .inr (.inl X0.2.2.2.2.2.2.2.2.2.2.2.2)) ∧ OD q m' a' ∧ (∀ j, nel j [2706, 2707, 2708, 2802, 2803, 3101, 3102, 3900, 3901] = false → m' j = m0 j) ∧ (∀ j, nel j [30, 33, 35, 37, 38, 40, 41] = false → a' j = a0 j)) := by
  refine g_ofl (by decide) (Nat.le_of_ble_eq_true rfl) ?_
  intro p e s M args below meth c hx hb hr hG hown hin hlocks hml hW hS ls hl
  unfold fX11_odds at hs0
  refine lv_iload_n hx hb dX11_odds_0 rfl (lv_at hl 1 rfl) ?_
  refine lv_iconst (v := 1) hx hb dX11_odds_1 (by decide) ?_
  refine lv_icmp_lt (tgt := 11) hx hb dX11_odds_2 (by decide) (fun c1 => ?_) (fun c1 => ?_)
  · rw [if_pos c1] at hs0
    have hs0 := Option.some.inj hs0
    subst hs0
    refine lv_ldc2 (v := (-1)) hx hb hown (hG _ gx930) dX11_odds_11 ?_
    exact W.lret hx hb hr (fun t ht hw => ⟨⟨_, (m0, a0), rfl, ⟨rfl, h_x27_6, h_x27_7, h_x27_8, h_x28_2, h_x28_3, h_x31_1, h_x31_2, h_A30, h_A33, h_A35, h_A37, h_A38, ⟨kn, kt, hkk, hnow, hthen, AN, AT, h_AN, h_AT⟩, off0, off0⟩, g_end hW ht hw⟩, hS.F ht⟩) hS.2.2 dX11_odds_14 hlocks
  · rw [if_neg c1] at hs0
    refine lv_iload_n hx hb dX11_odds_5 rfl (lv_at hl 1 rfl) ?_
    refine lv_bipush (v := 40) hx hb dX11_odds_6 (by decide) ?_
    refine lv_icmp_le (tgt := 15) hx hb dX11_odds_8 (by decide) (fun c2 => ?_) (fun c2 => ?_)
    · rw [if_pos c2] at hs0
      obtain ⟨r1, hf1, hs0⟩ := obind hs0
      refine lv_aload_n hx hb dX11_odds_15 rfl (lv_at hl 0 rfl) ?_
      refine gf11_6 hx hb hG hown hW (o := 0) (ltN hN 0 rfl) gk0 (v := .ref (q 27)) (sh0_6 hsh) gx36 dX11_odds_16 ?_
      refine lv_aload_n hx hb dX11_odds_19 rfl (lv_at hl 0 rfl) ?_
      refine gf11_7 hx hb hG hown hW (o := 0) (ltN hN 0 rfl) gk0 (v := .ref (q kr)) hrf gx40 dX11_odds_20 ?_
      refine lv_aload_n hx hb dX11_odds_23 rfl (lv_at hl 0 rfl) ?_
      refine gf11_8 hx hb hG hown hW (o := 0) (ltN hN 0 rfl) gk0 (v := .long x0_8) h_x0_8 gx41 dX11_odds_24 ?_
      refine g_Vi (n := 2) hx hb hml hown hG hW hS [.ref (q kr), .long x0_8] (kX9_covers hN hsh hkr hgk h_xkr_0 h_xkr_1 h_xkr_2 h_xkr_3 h_x27_6 h_x27_7 h_x27_8 h_x28_2 h_x28_3 h_x31_1 h_x31_2 h_A30 h_A33 h_A35 h_A37 h_A38 F x0_8 hf1) (ltN hN 27 rfl) gk27 (by decide) rfl rfl (gd_V gx659 gx660 gx661 gx35 gx662) rfl rfl (by decide) ⟨Nat.le_of_ble_eq_true rfl, Nat.le_of_ble_eq_true rfl⟩ rfl hl (Nat.le_of_ble_eq_true rfl) ⟨Nat.zero_le _, Nat.zero_le _⟩ dX11_odds_27 (fun x1 m1 a1 H locs hp1 hW hS => ?_)
      obtain ⟨hx1, w_x27_6, w_x27_7, w_x27_8, w_x28_2, w_x28_3, w_x31_1, w_x31_2, ho1, w_A30, w_A33, w_A35, w_A37, w_A38, hoa1⟩ := hp1
      subst hx1
      have hnow1 : m1 3900 = .ref (q kn) := (ho1 3900 rfl).trans hnow
      have hthen1 : m1 3901 = .ref (q kt) := (ho1 3901 rfl).trans hthen
      have h_AN1 : a1 kn = (6000, .inr (.inr (.inr (.inl AN)))) := (hoa1 kn (by rcases hkk with ⟨rfl, rfl⟩ | ⟨rfl, rfl⟩ <;> rfl)).trans h_AN
      have h_AT1 : a1 kt = (6000, .inr (.inr (.inr (.inl AT)))) := (hoa1 kt (by rcases hkk with ⟨rfl, rfl⟩ | ⟨rfl, rfl⟩ <;> rfl)).trans h_AT
      have hom1 : ∀ j, nel j [2706, 2707, 2708, 2802, 2803, 3101, 3102, 3900, 3901] = false → m1 j = m0 j := offm off0 ho1 (by decide +kernel)
      have hoA1 : ∀ j, nel j [30, 33, 35, 37, 38, 40, 41] = false → a1 j = a0 j := offm off0 hoa1 (by decide +kernel)
      refine lv_if_eq (tgt := 44) hx hb dX11_odds_30 (by decide) (fun c3 => ?_) (fun c3 => ?_)
      · rw [if_pos c3] at hs0
        have hs0 := Option.some.inj hs0
        subst hs0
        refine lv_ldc2 (v := (-3)) hx hb hown (hG _ gx931) dX11_odds_44 ?_
        exact W.lret hx hb hr (fun t ht hw => ⟨⟨_, (m1, a1), rfl, ⟨rfl, w_x27_6, w_x27_7, w_x27_8, w_x28_2, w_x28_3, w_x31_1, w_x31_2, w_A30, w_A33, w_A35, w_A37, w_A38, ⟨kn, kt, hkk, hnow1, hthen1, AN, AT, h_AN1, h_AT1⟩, hom1, hoA1⟩, g_end hW ht hw⟩, hS.F ht⟩) hS.2.2 dX11_odds_47 hlocks
      · rw [if_neg c3] at hs0
        obtain ⟨v2, hf2, hs0⟩ := obind hs0
        have hs0 := Option.some.inj hs0
        subst hs0
        refine lv_aload_n hx hb dX11_odds_33 rfl (lv_at hl 0 rfl) ?_
        refine gf11_6 hx hb hG hown hW (o := 0) (ltN hN 0 rfl) gk0 (v := .ref (q 27)) (sh0_6 (SH.off hsh ho1 (by decide +kernel))) gx36 dX11_odds_34 ?_
        refine lv_iload_n hx hb dX11_odds_37 rfl (lv_at hl 1 rfl) ?_
        refine g_Vl (n := 1) hx hb hml hown hG hW hS [.int p1] (kX9_oddsBits hN (SH.off hsh ho1 (by decide +kernel)) hkk hnow1 hthen1 w_x28_2 w_A30 w_A35 h_AN1 h_AT1 F p1 hf2) (ltN hN 27 rfl) gk27 (by decide) rfl rfl (gd_V gx932 gx933 gx934 gx35 gx935) rfl rfl (by decide) ⟨Nat.le_of_ble_eq_true rfl, Nat.le_of_ble_eq_true rfl⟩ rfl hl (Nat.le_of_ble_eq_true rfl) ⟨Nat.zero_le _, Nat.zero_le _⟩ dX11_odds_38 (fun x2 m2 a2 H locs hp2 hW hS => ?_)
        obtain ⟨hx2, hOD, ho2, hoa2⟩ := hp2
        subst hx2
        refine lv_goto (tgt := 47) hx hb dX11_odds_41 (by decide) ?_
        exact W.lret hx hb hr (fun t ht hw => ⟨⟨_, (m2, a2), rfl, ⟨rfl, ((ho2 2706 rfl).trans w_x27_6), ((ho2 2707 rfl).trans w_x27_7), ((ho2 2708 rfl).trans w_x27_8), ((ho2 2802 rfl).trans w_x28_2), ((ho2 2803 rfl).trans w_x28_3), ((ho2 3101 rfl).trans w_x31_1), ((ho2 3102 rfl).trans w_x31_2), ((hoa2 30 rfl).trans w_A30), ((hoa2 33 rfl).trans w_A33), ((hoa2 35 rfl).trans w_A35), ((hoa2 37 rfl).trans w_A37), ((hoa2 38 rfl).trans w_A38), hOD, offm hom1 ho2 (by decide +kernel), offm hoA1 hoa2 (by decide +kernel)⟩, g_end hW ht hw⟩, hS.F ht⟩) hS.2.2 dX11_odds_47 hlocks
    · rw [if_neg c2] at hs0
      have hs0 := Option.some.inj hs0
      subst hs0
      refine lv_ldc2 (v := (-1)) hx hb hown (hG _ gx930) dX11_odds_11 ?_
      exact W.lret hx hb hr (fun t ht hw => ⟨⟨_, (m0, a0), rfl, ⟨rfl, h_x27_6, h_x27_7, h_x27_8, h_x28_2, h_x28_3, h_x31_1, h_x31_2, h_A30, h_A33, h_A35, h_A37, h_A38, ⟨kn, kt, hkk, hnow, hthen, AN, AT, h_AN, h_AT⟩, off0, off0⟩, g_end hW ht hw⟩, hS.F ht⟩) hS.2.2 dX11_odds_14 hlocks
