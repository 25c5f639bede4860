/-! part 9zj: enough, odds, script -/
section CALLY
theorem cw_enough {F N : Nat} {q : Nat → Nat} {m0 : Nat → Value} {a0 : Nat → vp_A} (hF : 800000 ≤ F) (hI : INV F N q m0 a0)  {l : Launch} {D : va_G} {cy : Nat → ClassId} {sz : Nat} : ∃ (out : Int32) (Q : (Nat → Value) → (Nat → vp_A) → Prop), gMia l yX11_enough cX11_enough 1 (some .int) ({ frames := 7, cells := 7, slots := 28, locals := 173 } : Room) D cy N q m0 a0 sz [.ref (q 0)] 7 28 (fun r m' a' => r = out ∧ Q m' a') ∧ ∀ (m1 : Nat → Value) (a1 : Nat → vp_A) (sz1 : Nat), Q m1 a1 → gMi l yX12_enough cX12_enough 3 (some .int) ({ frames := 8, cells := 0, slots := 0, locals := 188 } : Room) D cy N q m1 a1 sz1 [.ref (q 69)] (fun r m' a' => r = out ∧ INV F N q m' a') := by
  obtain ⟨hN, hsh, hty, hta, hod, kr, cap, lab, ack, cop, hst, hs, hD, hX, hT, hV, hE, hC⟩ := hI
  obtain ⟨⟨hkr, hgk, hrf⟩, ⟨b0, b1, b2, b3⟩, c0, c1, c2, c3⟩ := id hst
  have hb0 := hs.1
  have hb1 := hs.2.1
  have hb2 := hs.2.2.1
  have hb3 := hs.2.2.2
  have hc : Good cap (lv m0 8) := ⟨hD.2.1, _, hD.1⟩
  obtain ⟨out, ch', en', size', known', y311, y312, y426, y427, B30, B33, B35, B37, B38, B44, B46, B48, B50, B52, B54, rr, e1, e2, hV', hE'⟩ := enough_call hs hc hD.1 (show 70000 ≤ F by omega) hV hE (iv m0 3101) (iv m0 3102) (iv m0 4206) (iv m0 4207) (ai a0 33) (ai a0 37) (ai a0 46) (ai a0 48) (ai a0 50) (ai a0 52) (ai a0 54) (iv m0 6918) (lv m0 6919) (iv m0 6920) (iv m0 6921) (iv m0 6922) (iv m0 6927) (iv m0 6935) (iv m0 6943) (iv m0 6944) (iv m0 6945) (ai a0 76) (ai a0 77) (ai a0 78) (al a0 79) (ai a0 80) (ai a0 81) (ai a0 82) (ai a0 83) (ai a0 84) (ai a0 85) (ai a0 86) (ai a0 87) (ai a0 88) (ai a0 89) (ai a0 90) (ai a0 91) (ai a0 92) (ai a0 93) (ai a0 94) (ai a0 95) (ai a0 96)
  have k1 := kX11_enough (m0 := m0) (a0 := a0) (q := q) (l := l) (D := D) (cy := cy) (sz := sz) (hN := hN) (hsh := hsh) (hkr := hkr) (hgk := hgk) (hrf := hrf) (h_x0_8 := hty.2 8 rfl) (h_xkr_0 := b0) (h_xkr_1 := b1) (h_xkr_2 := b2) (h_xkr_3 := b3) (h_x27_6 := hty.2 2706 rfl) (h_x27_9 := hty.2 2709 rfl) (h_x27_10 := hty.1 2710 rfl) (h_x28_2 := hty.1 2802 rfl) (h_x28_3 := hty.1 2803 rfl) (h_x31_1 := hty.1 3101 rfl) (h_x31_2 := hty.1 3102 rfl) (h_x42_6 := hty.1 4206 rfl) (h_x42_7 := hty.1 4207 rfl) (h_A30 := hta.1 (30, 6001) (by decide)) (h_A33 := hta.1 (33, 10) (by decide)) (h_A35 := hta.1 (35, 60000) (by decide)) (h_A37 := hta.1 (37, 16384) (by decide)) (h_A38 := hta.2.1 (38, 6000) (by decide)) (h_A44 := hta.1 (44, 6000) (by decide)) (h_A46 := hta.1 (46, 6000) (by decide)) (h_A48 := hta.1 (48, 6000) (by decide)) (h_A50 := hta.1 (50, 6000) (by decide)) (h_A52 := hta.1 (52, 6000) (by decide)) (h_A54 := hta.1 (54, 6000) (by decide)) (F := F)  (hs0 := e1)
  refine ⟨_, _, k1, ?_⟩
  intro m1 a1 sz1 hQ
  obtain ⟨p2706, p2709, p2710, p2802, p2803, p3101, p3102, p4206, p4207, f1, r30, r33, r35, r37, r38, r44, r46, r48, r50, r52, r54, g1⟩ := hQ
  have d0 := (f1 6900 rfl).trans c0
  have d1 := (f1 6901 rfl).trans c1
  have d2 := (f1 6902 rfl).trans c2
  have d3 := (f1 6903 rfl).trans c3
  have hsh1 := hsh.off f1 rfl
  have k2 := kX12_enough (m0 := m1) (a0 := a1) (q := q) (l := l) (D := D) (cy := cy) (sz := sz1) (hN := hN) (hsh := hsh1) (h_x69_0 := d0) (h_x69_1 := d1) (h_x69_3 := d3) (h_x69_4 := (f1 6904 rfl).trans (hty.2 6904 rfl)) (h_x69_18 := (f1 6918 rfl).trans (hty.1 6918 rfl)) (h_x69_19 := (f1 6919 rfl).trans (hty.2 6919 rfl)) (h_x69_20 := (f1 6920 rfl).trans (hty.1 6920 rfl)) (h_x69_21 := (f1 6921 rfl).trans (hty.1 6921 rfl)) (h_x69_22 := (f1 6922 rfl).trans (hty.1 6922 rfl)) (h_x69_27 := (f1 6927 rfl).trans (hty.1 6927 rfl)) (h_x69_35 := (f1 6935 rfl).trans (hty.1 6935 rfl)) (h_x69_43 := (f1 6943 rfl).trans (hty.1 6943 rfl)) (h_x69_44 := (f1 6944 rfl).trans (hty.1 6944 rfl)) (h_x69_45 := (f1 6945 rfl).trans (hty.1 6945 rfl)) (h_A76 := (g1 76 rfl).trans (hta.1 (76, 40) (by decide))) (h_A77 := (g1 77 rfl).trans (hta.1 (77, 40) (by decide))) (h_A78 := (g1 78 rfl).trans (hta.1 (78, 40) (by decide))) (h_A79 := (g1 79 rfl).trans (hta.2.1 (79, 6001) (by decide))) (h_A80 := (g1 80 rfl).trans (hta.1 (80, 16384) (by decide))) (h_A81 := (g1 81 rfl).trans (hta.1 (81, 6002) (by decide))) (h_A82 := (g1 82 rfl).trans (hta.1 (82, 84000) (by decide))) (h_A83 := (g1 83 rfl).trans (hta.1 (83, 84000) (by decide))) (h_A84 := (g1 84 rfl).trans (hta.1 (84, 84000) (by decide))) (h_A85 := (g1 85 rfl).trans (hta.1 (85, 84000) (by decide))) (h_A86 := (g1 86 rfl).trans (hta.1 (86, 84000) (by decide))) (h_A87 := (g1 87 rfl).trans (hta.1 (87, 6001) (by decide))) (h_A88 := (g1 88 rfl).trans (hta.1 (88, 6001) (by decide))) (h_A89 := (g1 89 rfl).trans (hta.1 (89, 6001) (by decide))) (h_A90 := (g1 90 rfl).trans (hta.1 (90, 6001) (by decide))) (h_A91 := (g1 91 rfl).trans (hta.1 (91, 6001) (by decide))) (h_A92 := (g1 92 rfl).trans (hta.1 (92, 6001) (by decide))) (h_A93 := (g1 93 rfl).trans (hta.1 (93, 6001) (by decide))) (h_A94 := (g1 94 rfl).trans (hta.1 (94, 6001) (by decide))) (h_A95 := (g1 95 rfl).trans (hta.1 (95, 6001) (by decide))) (h_A96 := (g1 96 rfl).trans (hta.1 (96, 6002) (by decide))) (F := F)  (hs0 := e2)
  refine gMi_mono k2 (fun r m2 a2 h => ?_)
  obtain ⟨hr, p6918, p6919, p6920, p6921, p6922, p6927, p6935, p6943, p6944, p6945, f2, r76, r77, r78, r79, r80, r81, r82, r83, r84, r85, r86, r87, r88, r89, r90, r91, r92, r93, r94, r95, r96, g2⟩ := h
  refine ⟨hr, hN, hsh1.off f2 rfl, ?_, ?_, od_off (od_off hod f1 g1 rfl rfl rfl rfl) f2 g2 rfl rfl rfl rfl, kr, cap, lab, ack, cop, stw_off (stw_off hst f1 rfl rfl rfl rfl rfl rfl) f2 rfl rfl rfl rfl rfl rfl, hs, ?_, ?_, ?_, ?_, ?_, ?_⟩
  · have t1 : TYM m1 := (tym_off hty f1 (fun j hj => by
      simp only [List.mem_cons, List.not_mem_nil, or_false] at hj
      rcases hj with rfl | rfl | rfl | rfl | rfl | rfl | rfl | rfl | rfl
      · exact ⟨fun z => absurd z (by decide), fun _ => ⟨_, p2706⟩⟩
      · exact ⟨fun z => absurd z (by decide), fun _ => ⟨_, p2709⟩⟩
      · exact ⟨fun _ => ⟨_, p2710⟩, fun z => absurd z (by decide)⟩
      · exact ⟨fun _ => ⟨_, p2802⟩, fun z => absurd z (by decide)⟩
      · exact ⟨fun _ => ⟨_, p2803⟩, fun z => absurd z (by decide)⟩
      · exact ⟨fun _ => ⟨_, p3101⟩, fun z => absurd z (by decide)⟩
      · exact ⟨fun _ => ⟨_, p3102⟩, fun z => absurd z (by decide)⟩
      · exact ⟨fun _ => ⟨_, p4206⟩, fun z => absurd z (by decide)⟩
      · exact ⟨fun _ => ⟨_, p4207⟩, fun z => absurd z (by decide)⟩))
    exact (tym_off t1 f2 (fun j hj => by
      simp only [List.mem_cons, List.not_mem_nil, or_false] at hj
      rcases hj with rfl | rfl | rfl | rfl | rfl | rfl | rfl | rfl | rfl | rfl
      · exact ⟨fun _ => ⟨_, p6918⟩, fun z => absurd z (by decide)⟩
      · exact ⟨fun z => absurd z (by decide), fun _ => ⟨_, p6919⟩⟩
      · exact ⟨fun _ => ⟨_, p6920⟩, fun z => absurd z (by decide)⟩
      · exact ⟨fun _ => ⟨_, p6921⟩, fun z => absurd z (by decide)⟩
      · exact ⟨fun _ => ⟨_, p6922⟩, fun z => absurd z (by decide)⟩
      · exact ⟨fun _ => ⟨_, p6927⟩, fun z => absurd z (by decide)⟩
      · exact ⟨fun _ => ⟨_, p6935⟩, fun z => absurd z (by decide)⟩
      · exact ⟨fun _ => ⟨_, p6943⟩, fun z => absurd z (by decide)⟩
      · exact ⟨fun _ => ⟨_, p6944⟩, fun z => absurd z (by decide)⟩
      · exact ⟨fun _ => ⟨_, p6945⟩, fun z => absurd z (by decide)⟩))
  · have t1 : TYA a1 := (tya_off hta g1 (fun j hj => by
      simp only [List.mem_cons, List.not_mem_nil, or_false] at hj
      rcases hj with rfl | rfl | rfl | rfl | rfl | rfl | rfl | rfl | rfl | rfl | rfl
      · exact ⟨fun n hn => ⟨_, arr_i (tlen_i hn (show (30, 6001) ∈ aiT by decide)) r30⟩, fun n hn => absurd hn (tno_l 30 rfl n), fun n hn => absurd hn (tno_d 30 rfl n)⟩
      · exact ⟨fun n hn => ⟨_, arr_i (tlen_i hn (show (33, 10) ∈ aiT by decide)) r33⟩, fun n hn => absurd hn (tno_l 33 rfl n), fun n hn => absurd hn (tno_d 33 rfl n)⟩
      · exact ⟨fun n hn => ⟨_, arr_i (tlen_i hn (show (35, 60000) ∈ aiT by decide)) r35⟩, fun n hn => absurd hn (tno_l 35 rfl n), fun n hn => absurd hn (tno_d 35 rfl n)⟩
      · exact ⟨fun n hn => ⟨_, arr_i (tlen_i hn (show (37, 16384) ∈ aiT by decide)) r37⟩, fun n hn => absurd hn (tno_l 37 rfl n), fun n hn => absurd hn (tno_d 37 rfl n)⟩
      · exact ⟨fun n hn => absurd hn (tno_i 38 rfl n), fun n hn => ⟨_, arr_l (tlen_l hn (show (38, 6000) ∈ alT by decide)) r38⟩, fun n hn => absurd hn (tno_d 38 rfl n)⟩
      · exact ⟨fun n hn => ⟨_, arr_i (tlen_i hn (show (44, 6000) ∈ aiT by decide)) r44⟩, fun n hn => absurd hn (tno_l 44 rfl n), fun n hn => absurd hn (tno_d 44 rfl n)⟩
      · exact ⟨fun n hn => ⟨_, arr_i (tlen_i hn (show (46, 6000) ∈ aiT by decide)) r46⟩, fun n hn => absurd hn (tno_l 46 rfl n), fun n hn => absurd hn (tno_d 46 rfl n)⟩
      · exact ⟨fun n hn => ⟨_, arr_i (tlen_i hn (show (48, 6000) ∈ aiT by decide)) r48⟩, fun n hn => absurd hn (tno_l 48 rfl n), fun n hn => absurd hn (tno_d 48 rfl n)⟩
      · exact ⟨fun n hn => ⟨_, arr_i (tlen_i hn (show (50, 6000) ∈ aiT by decide)) r50⟩, fun n hn => absurd hn (tno_l 50 rfl n), fun n hn => absurd hn (tno_d 50 rfl n)⟩
      · exact ⟨fun n hn => ⟨_, arr_i (tlen_i hn (show (52, 6000) ∈ aiT by decide)) r52⟩, fun n hn => absurd hn (tno_l 52 rfl n), fun n hn => absurd hn (tno_d 52 rfl n)⟩
      · exact ⟨fun n hn => ⟨_, arr_i (tlen_i hn (show (54, 6000) ∈ aiT by decide)) r54⟩, fun n hn => absurd hn (tno_l 54 rfl n), fun n hn => absurd hn (tno_d 54 rfl n)⟩))
    exact (tya_off t1 g2 (fun j hj => by
      simp only [List.mem_cons, List.not_mem_nil, or_false] at hj
      rcases hj with rfl | rfl | rfl | rfl | rfl | rfl | rfl | rfl | rfl | rfl | rfl | rfl | rfl | rfl | rfl | rfl | rfl | rfl | rfl | rfl | rfl
      · exact ⟨fun n hn => ⟨_, arr_i (tlen_i hn (show (76, 40) ∈ aiT by decide)) r76⟩, fun n hn => absurd hn (tno_l 76 rfl n), fun n hn => absurd hn (tno_d 76 rfl n)⟩
      · exact ⟨fun n hn => ⟨_, arr_i (tlen_i hn (show (77, 40) ∈ aiT by decide)) r77⟩, fun n hn => absurd hn (tno_l 77 rfl n), fun n hn => absurd hn (tno_d 77 rfl n)⟩
      · exact ⟨fun n hn => ⟨_, arr_i (tlen_i hn (show (78, 40) ∈ aiT by decide)) r78⟩, fun n hn => absurd hn (tno_l 78 rfl n), fun n hn => absurd hn (tno_d 78 rfl n)⟩
      · exact ⟨fun n hn => absurd hn (tno_i 79 rfl n), fun n hn => ⟨_, arr_l (tlen_l hn (show (79, 6001) ∈ alT by decide)) r79⟩, fun n hn => absurd hn (tno_d 79 rfl n)⟩
      · exact ⟨fun n hn => ⟨_, arr_i (tlen_i hn (show (80, 16384) ∈ aiT by decide)) r80⟩, fun n hn => absurd hn (tno_l 80 rfl n), fun n hn => absurd hn (tno_d 80 rfl n)⟩
      · exact ⟨fun n hn => ⟨_, arr_i (tlen_i hn (show (81, 6002) ∈ aiT by decide)) r81⟩, fun n hn => absurd hn (tno_l 81 rfl n), fun n hn => absurd hn (tno_d 81 rfl n)⟩
      · exact ⟨fun n hn => ⟨_, arr_i (tlen_i hn (show (82, 84000) ∈ aiT by decide)) r82⟩, fun n hn => absurd hn (tno_l 82 rfl n), fun n hn => absurd hn (tno_d 82 rfl n)⟩
      · exact ⟨fun n hn => ⟨_, arr_i (tlen_i hn (show (83, 84000) ∈ aiT by decide)) r83⟩, fun n hn => absurd hn (tno_l 83 rfl n), fun n hn => absurd hn (tno_d 83 rfl n)⟩
      · exact ⟨fun n hn => ⟨_, arr_i (tlen_i hn (show (84, 84000) ∈ aiT by decide)) r84⟩, fun n hn => absurd hn (tno_l 84 rfl n), fun n hn => absurd hn (tno_d 84 rfl n)⟩
      · exact ⟨fun n hn => ⟨_, arr_i (tlen_i hn (show (85, 84000) ∈ aiT by decide)) r85⟩, fun n hn => absurd hn (tno_l 85 rfl n), fun n hn => absurd hn (tno_d 85 rfl n)⟩
      · exact ⟨fun n hn => ⟨_, arr_i (tlen_i hn (show (86, 84000) ∈ aiT by decide)) r86⟩, fun n hn => absurd hn (tno_l 86 rfl n), fun n hn => absurd hn (tno_d 86 rfl n)⟩
      · exact ⟨fun n hn => ⟨_, arr_i (tlen_i hn (show (87, 6001) ∈ aiT by decide)) r87⟩, fun n hn => absurd hn (tno_l 87 rfl n), fun n hn => absurd hn (tno_d 87 rfl n)⟩
      · exact ⟨fun n hn => ⟨_, arr_i (tlen_i hn (show (88, 6001) ∈ aiT by decide)) r88⟩, fun n hn => absurd hn (tno_l 88 rfl n), fun n hn => absurd hn (tno_d 88 rfl n)⟩
      · exact ⟨fun n hn => ⟨_, arr_i (tlen_i hn (show (89, 6001) ∈ aiT by decide)) r89⟩, fun n hn => absurd hn (tno_l 89 rfl n), fun n hn => absurd hn (tno_d 89 rfl n)⟩
      · exact ⟨fun n hn => ⟨_, arr_i (tlen_i hn (show (90, 6001) ∈ aiT by decide)) r90⟩, fun n hn => absurd hn (tno_l 90 rfl n), fun n hn => absurd hn (tno_d 90 rfl n)⟩
      · exact ⟨fun n hn => ⟨_, arr_i (tlen_i hn (show (91, 6001) ∈ aiT by decide)) r91⟩, fun n hn => absurd hn (tno_l 91 rfl n), fun n hn => absurd hn (tno_d 91 rfl n)⟩
      · exact ⟨fun n hn => ⟨_, arr_i (tlen_i hn (show (92, 6001) ∈ aiT by decide)) r92⟩, fun n hn => absurd hn (tno_l 92 rfl n), fun n hn => absurd hn (tno_d 92 rfl n)⟩
      · exact ⟨fun n hn => ⟨_, arr_i (tlen_i hn (show (93, 6001) ∈ aiT by decide)) r93⟩, fun n hn => absurd hn (tno_l 93 rfl n), fun n hn => absurd hn (tno_d 93 rfl n)⟩
      · exact ⟨fun n hn => ⟨_, arr_i (tlen_i hn (show (94, 6001) ∈ aiT by decide)) r94⟩, fun n hn => absurd hn (tno_l 94 rfl n), fun n hn => absurd hn (tno_d 94 rfl n)⟩
      · exact ⟨fun n hn => ⟨_, arr_i (tlen_i hn (show (95, 6001) ∈ aiT by decide)) r95⟩, fun n hn => absurd hn (tno_l 95 rfl n), fun n hn => absurd hn (tno_d 95 rfl n)⟩
      · exact ⟨fun n hn => ⟨_, arr_i (tlen_i hn (show (96, 6002) ∈ aiT by decide)) r96⟩, fun n hn => absurd hn (tno_l 96 rfl n), fun n hn => absurd hn (tno_d 96 rfl n)⟩))
  · unfold DXw
    rw [lv_same ((f2 8 rfl).trans (f1 8 rfl)), iv_same ((f2 9 rfl).trans (f1 9 rfl)), iv_same ((f2 10 rfl).trans (f1 10 rfl)), iv_same ((f2 200 rfl).trans (f1 200 rfl)), lv_same ((f2 201 rfl).trans (f1 201 rfl)), iv_same ((f2 500 rfl).trans (f1 500 rfl)), lv_same ((f2 501 rfl).trans (f1 501 rfl)), ai_same ((g2 1 rfl).trans (g1 1 rfl)), lv_same ((f2 6904 rfl).trans (f1 6904 rfl)), iv_same ((f2 6906 rfl).trans (f1 6906 rfl)), iv_same ((f2 6909 rfl).trans (f1 6909 rfl)), iv_same ((f2 6911 rfl).trans (f1 6911 rfl)), ai_same ((g2 70 rfl).trans (g1 70 rfl)), ai_same ((g2 71 rfl).trans (g1 71 rfl)), ai_same ((g2 72 rfl).trans (g1 72 rfl)), ai_same ((g2 73 rfl).trans (g1 73 rfl))]
    exact hD
  · unfold IXw
    rw [iv_same ((f2 11 rfl).trans (f1 11 rfl)), lv_same ((f2 12 rfl).trans (f1 12 rfl)), iv_same ((f2 13 rfl).trans (f1 13 rfl)), iv_same ((f2 14 rfl).trans (f1 14 rfl)), iv_same ((f2 6912 rfl).trans (f1 6912 rfl)), lv_same ((f2 6913 rfl).trans (f1 6913 rfl)), iv_same ((f2 6915 rfl).trans (f1 6915 rfl)), ai_same ((g2 74 rfl).trans (g1 74 rfl))]
    exact hX
  · unfold TXw
    rw [iv_same ((f2 2400 rfl).trans (f1 2400 rfl)), ai_same ((g2 26 rfl).trans (g1 26 rfl)), iv_same ((f2 6917 rfl).trans (f1 6917 rfl)), ai_same ((g2 75 rfl).trans (g1 75 rfl))]
    exact hT
  · unfold SVw
    rw [lv_eq ((f2 2706 rfl).trans p2706), iv_same ((f2 2707 rfl).trans (f1 2707 rfl)), iv_same ((f2 2708 rfl).trans (f1 2708 rfl)), iv_eq ((f2 2802 rfl).trans p2802), iv_eq ((f2 2803 rfl).trans p2803), ai_eq ((g2 30 rfl).trans r30), ai_eq ((g2 35 rfl).trans r35), al_eq ((g2 38 rfl).trans r38), ai_eq ((g2 44 rfl).trans r44), ai_same ((g2 57 rfl).trans (g1 57 rfl)), ai_same ((g2 59 rfl).trans (g1 59 rfl))]
    exact hV'
  · unfold ENw
    rw [lv_eq ((f2 2709 rfl).trans p2709), iv_eq ((f2 2710 rfl).trans p2710)]
    exact hE'
  · unfold CEw
    rw [iv_same ((f2 2705 rfl).trans (f1 2705 rfl)), ai_same ((g2 67 rfl).trans (g1 67 rfl))]
    exact hC
theorem cw_odds {F N : Nat} {q : Nat → Nat} {m0 : Nat → Value} {a0 : Nat → vp_A} (hF : 800000 ≤ F) (hI : INV F N q m0 a0) (p1 : Int32) {l : Launch} {D : va_G} {cy : Nat → ClassId} {sz : Nat} : ∃ (out : Int64) (Q : (Nat → Value) → (Nat → vp_A) → Prop), gMl l yX11_odds cX11_odds 2 (some .long) ({ frames := 7, cells := 0, slots := 0, locals := 200 } : Room) D cy N q m0 a0 sz [.ref (q 0), .int p1] (fun r m' a' => r = out ∧ Q m' a') ∧ ∀ (m1 : Nat → Value) (a1 : Nat → vp_A) (sz1 : Nat), Q m1 a1 → gMl l yX12_odds cX12_odds 5 (some .long) ({ frames := 8, cells := 0, slots := 0, locals := 188 } : Room) D cy N q m1 a1 sz1 [.ref (q 69), .int p1] (fun r m' a' => r = out ∧ INV F N q m' a') := by
  obtain ⟨hN, hsh, hty, hta, hod, kr, cap, lab, ack, cop, hst, hs, hD, hX, hT, hV, hE, hC⟩ := hI
  obtain ⟨⟨hkr, hgk, hrf⟩, ⟨b0, b1, b2, b3⟩, c0, c1, c2, c3⟩ := id hst
  have hb0 := hs.1
  have hb1 := hs.2.1
  have hb2 := hs.2.2.1
  have hb3 := hs.2.2.2
  obtain ⟨kn, kt, hkk, hnow, hthen, AN, AT, hAN, hAT⟩ := id hod
  have hc : Good cap (lv m0 8) := ⟨hD.2.1, _, hD.1⟩
  obtain ⟨out, ch', me', ra', size', known', y311, y312, B30, B33, B35, B37, B38, rr, e1, e2, hV'⟩ := odds_call hs hc hD.1 (show 70000 ≤ F by omega) hV (iv m0 3101) (iv m0 3102) (ai a0 33) (ai a0 37) AN AT p1 (iv m0 6918) (lv m0 6919) (iv m0 6920) (iv m0 6921) (iv m0 6922) (iv m0 6927) (iv m0 6935) (ai a0 76) (ai a0 77) (ai a0 78) (al a0 79) (ai a0 80) (ai a0 81) (ai a0 82) (ai a0 83) (ai a0 84) (ai a0 85) (ai a0 86) (ad a0 98) (ad a0 99)
  have k1 := kX11_odds (m0 := m0) (a0 := a0) (q := q) (l := l) (D := D) (cy := cy) (sz := sz) (hN := hN) (hsh := hsh) (hkr := hkr) (hgk := hgk) (hrf := hrf) (h_x0_8 := hty.2 8 rfl) (h_xkr_0 := b0) (h_xkr_1 := b1) (h_xkr_2 := b2) (h_xkr_3 := b3) (h_x27_6 := hty.2 2706 rfl) (h_x27_7 := hty.1 2707 rfl) (h_x27_8 := hty.1 2708 rfl) (h_x28_2 := hty.1 2802 rfl) (h_x28_3 := hty.1 2803 rfl) (h_x31_1 := hty.1 3101 rfl) (h_x31_2 := hty.1 3102 rfl) (h_A30 := hta.1 (30, 6001) (by decide)) (h_A33 := hta.1 (33, 10) (by decide)) (h_A35 := hta.1 (35, 60000) (by decide)) (h_A37 := hta.1 (37, 16384) (by decide)) (h_A38 := hta.2.1 (38, 6000) (by decide)) (F := F) (p1 := p1) (hs0 := e1) (hkk := hkk) (hnow := hnow) (hthen := hthen) (h_AN := hAN) (h_AT := hAT)
  refine ⟨_, _, k1, ?_⟩
  intro m1 a1 sz1 hQ
  obtain ⟨p2706, p2707, p2708, p2802, p2803, p3101, p3102, r30, r33, r35, r37, r38, hod1, f1, g1⟩ := hQ
  have d0 := (f1 6900 rfl).trans c0
  have d1 := (f1 6901 rfl).trans c1
  have d2 := (f1 6902 rfl).trans c2
  have d3 := (f1 6903 rfl).trans c3
  have hsh1 := hsh.off f1 rfl
  have k2 := kX12_odds (m0 := m1) (a0 := a1) (q := q) (l := l) (D := D) (cy := cy) (sz := sz1) (hN := hN) (hsh := hsh1) (h_x69_0 := d0) (h_x69_1 := d1) (h_x69_2 := d2) (h_x69_3 := d3) (h_x69_4 := (f1 6904 rfl).trans (hty.2 6904 rfl)) (h_x69_18 := (f1 6918 rfl).trans (hty.1 6918 rfl)) (h_x69_19 := (f1 6919 rfl).trans (hty.2 6919 rfl)) (h_x69_20 := (f1 6920 rfl).trans (hty.1 6920 rfl)) (h_x69_21 := (f1 6921 rfl).trans (hty.1 6921 rfl)) (h_x69_22 := (f1 6922 rfl).trans (hty.1 6922 rfl)) (h_x69_27 := (f1 6927 rfl).trans (hty.1 6927 rfl)) (h_x69_35 := (f1 6935 rfl).trans (hty.1 6935 rfl)) (h_A76 := (g1 76 rfl).trans (hta.1 (76, 40) (by decide))) (h_A77 := (g1 77 rfl).trans (hta.1 (77, 40) (by decide))) (h_A78 := (g1 78 rfl).trans (hta.1 (78, 40) (by decide))) (h_A79 := (g1 79 rfl).trans (hta.2.1 (79, 6001) (by decide))) (h_A80 := (g1 80 rfl).trans (hta.1 (80, 16384) (by decide))) (h_A81 := (g1 81 rfl).trans (hta.1 (81, 6002) (by decide))) (h_A82 := (g1 82 rfl).trans (hta.1 (82, 84000) (by decide))) (h_A83 := (g1 83 rfl).trans (hta.1 (83, 84000) (by decide))) (h_A84 := (g1 84 rfl).trans (hta.1 (84, 84000) (by decide))) (h_A85 := (g1 85 rfl).trans (hta.1 (85, 84000) (by decide))) (h_A86 := (g1 86 rfl).trans (hta.1 (86, 84000) (by decide))) (h_A98 := (g1 98 rfl).trans (hta.2.2 (98, 6001) (by decide))) (h_A99 := (g1 99 rfl).trans (hta.2.2 (99, 6001) (by decide))) (F := F) (p1 := p1) (hs0 := e2)
  refine gMl_mono k2 (fun r m2 a2 h => ?_)
  obtain ⟨hr, p6918, p6919, p6920, p6921, p6922, p6927, p6935, f2, r76, r77, r78, r79, r80, r81, r82, r83, r84, r85, r86, r98, r99, g2⟩ := h
  refine ⟨hr, hN, hsh1.off f2 rfl, ?_, ?_, od_off hod1 f2 g2 rfl rfl rfl rfl, kr, cap, lab, ack, cop, stw_off (stw_off hst f1 rfl rfl rfl rfl rfl rfl) f2 rfl rfl rfl rfl rfl rfl, hs, ?_, ?_, ?_, ?_, ?_, ?_⟩
  · have t1 : TYM m1 := (tym_off hty f1 (fun j hj => by
      simp only [List.mem_cons, List.not_mem_nil, or_false] at hj
      rcases hj with rfl | rfl | rfl | rfl | rfl | rfl | rfl | rfl | rfl
      · exact ⟨fun z => absurd z (by decide), fun _ => ⟨_, p2706⟩⟩
      · exact ⟨fun _ => ⟨_, p2707⟩, fun z => absurd z (by decide)⟩
      · exact ⟨fun _ => ⟨_, p2708⟩, fun z => absurd z (by decide)⟩
      · exact ⟨fun _ => ⟨_, p2802⟩, fun z => absurd z (by decide)⟩
      · exact ⟨fun _ => ⟨_, p2803⟩, fun z => absurd z (by decide)⟩
      · exact ⟨fun _ => ⟨_, p3101⟩, fun z => absurd z (by decide)⟩
      · exact ⟨fun _ => ⟨_, p3102⟩, fun z => absurd z (by decide)⟩
      · exact ⟨fun z => absurd z (by decide), fun z => absurd z (by decide)⟩
      · exact ⟨fun z => absurd z (by decide), fun z => absurd z (by decide)⟩))
    exact (tym_off t1 f2 (fun j hj => by
      simp only [List.mem_cons, List.not_mem_nil, or_false] at hj
      rcases hj with rfl | rfl | rfl | rfl | rfl | rfl | rfl
      · exact ⟨fun _ => ⟨_, p6918⟩, fun z => absurd z (by decide)⟩
      · exact ⟨fun z => absurd z (by decide), fun _ => ⟨_, p6919⟩⟩
      · exact ⟨fun _ => ⟨_, p6920⟩, fun z => absurd z (by decide)⟩
      · exact ⟨fun _ => ⟨_, p6921⟩, fun z => absurd z (by decide)⟩
      · exact ⟨fun _ => ⟨_, p6922⟩, fun z => absurd z (by decide)⟩
      · exact ⟨fun _ => ⟨_, p6927⟩, fun z => absurd z (by decide)⟩
      · exact ⟨fun _ => ⟨_, p6935⟩, fun z => absurd z (by decide)⟩))
  · have t1 : TYA a1 := (tya_off hta g1 (fun j hj => by
      simp only [List.mem_cons, List.not_mem_nil, or_false] at hj
      rcases hj with rfl | rfl | rfl | rfl | rfl | rfl | rfl
      · exact ⟨fun n hn => ⟨_, arr_i (tlen_i hn (show (30, 6001) ∈ aiT by decide)) r30⟩, fun n hn => absurd hn (tno_l 30 rfl n), fun n hn => absurd hn (tno_d 30 rfl n)⟩
      · exact ⟨fun n hn => ⟨_, arr_i (tlen_i hn (show (33, 10) ∈ aiT by decide)) r33⟩, fun n hn => absurd hn (tno_l 33 rfl n), fun n hn => absurd hn (tno_d 33 rfl n)⟩
      · exact ⟨fun n hn => ⟨_, arr_i (tlen_i hn (show (35, 60000) ∈ aiT by decide)) r35⟩, fun n hn => absurd hn (tno_l 35 rfl n), fun n hn => absurd hn (tno_d 35 rfl n)⟩
      · exact ⟨fun n hn => ⟨_, arr_i (tlen_i hn (show (37, 16384) ∈ aiT by decide)) r37⟩, fun n hn => absurd hn (tno_l 37 rfl n), fun n hn => absurd hn (tno_d 37 rfl n)⟩
      · exact ⟨fun n hn => absurd hn (tno_i 38 rfl n), fun n hn => ⟨_, arr_l (tlen_l hn (show (38, 6000) ∈ alT by decide)) r38⟩, fun n hn => absurd hn (tno_d 38 rfl n)⟩
      · exact ⟨fun n hn => absurd hn (tno_i 40 rfl n), fun n hn => absurd hn (tno_l 40 rfl n), fun n hn => absurd hn (tno_d 40 rfl n)⟩
      · exact ⟨fun n hn => absurd hn (tno_i 41 rfl n), fun n hn => absurd hn (tno_l 41 rfl n), fun n hn => absurd hn (tno_d 41 rfl n)⟩))
    exact (tya_off t1 g2 (fun j hj => by
      simp only [List.mem_cons, List.not_mem_nil, or_false] at hj
      rcases hj with rfl | rfl | rfl | rfl | rfl | rfl | rfl | rfl | rfl | rfl | rfl | rfl | rfl
      · exact ⟨fun n hn => ⟨_, arr_i (tlen_i hn (show (76, 40) ∈ aiT by decide)) r76⟩, fun n hn => absurd hn (tno_l 76 rfl n), fun n hn => absurd hn (tno_d 76 rfl n)⟩
      · exact ⟨fun n hn => ⟨_, arr_i (tlen_i hn (show (77, 40) ∈ aiT by decide)) r77⟩, fun n hn => absurd hn (tno_l 77 rfl n), fun n hn => absurd hn (tno_d 77 rfl n)⟩
      · exact ⟨fun n hn => ⟨_, arr_i (tlen_i hn (show (78, 40) ∈ aiT by decide)) r78⟩, fun n hn => absurd hn (tno_l 78 rfl n), fun n hn => absurd hn (tno_d 78 rfl n)⟩
      · exact ⟨fun n hn => absurd hn (tno_i 79 rfl n), fun n hn => ⟨_, arr_l (tlen_l hn (show (79, 6001) ∈ alT by decide)) r79⟩, fun n hn => absurd hn (tno_d 79 rfl n)⟩
      · exact ⟨fun n hn => ⟨_, arr_i (tlen_i hn (show (80, 16384) ∈ aiT by decide)) r80⟩, fun n hn => absurd hn (tno_l 80 rfl n), fun n hn => absurd hn (tno_d 80 rfl n)⟩
      · exact ⟨fun n hn => ⟨_, arr_i (tlen_i hn (show (81, 6002) ∈ aiT by decide)) r81⟩, fun n hn => absurd hn (tno_l 81 rfl n), fun n hn => absurd hn (tno_d 81 rfl n)⟩
      · exact ⟨fun n hn => ⟨_, arr_i (tlen_i hn (show (82, 84000) ∈ aiT by decide)) r82⟩, fun n hn => absurd hn (tno_l 82 rfl n), fun n hn => absurd hn (tno_d 82 rfl n)⟩
      · exact ⟨fun n hn => ⟨_, arr_i (tlen_i hn (show (83, 84000) ∈ aiT by decide)) r83⟩, fun n hn => absurd hn (tno_l 83 rfl n), fun n hn => absurd hn (tno_d 83 rfl n)⟩
      · exact ⟨fun n hn => ⟨_, arr_i (tlen_i hn (show (84, 84000) ∈ aiT by decide)) r84⟩, fun n hn => absurd hn (tno_l 84 rfl n), fun n hn => absurd hn (tno_d 84 rfl n)⟩
      · exact ⟨fun n hn => ⟨_, arr_i (tlen_i hn (show (85, 84000) ∈ aiT by decide)) r85⟩, fun n hn => absurd hn (tno_l 85 rfl n), fun n hn => absurd hn (tno_d 85 rfl n)⟩
      · exact ⟨fun n hn => ⟨_, arr_i (tlen_i hn (show (86, 84000) ∈ aiT by decide)) r86⟩, fun n hn => absurd hn (tno_l 86 rfl n), fun n hn => absurd hn (tno_d 86 rfl n)⟩
      · exact ⟨fun n hn => absurd hn (tno_i 98 rfl n), fun n hn => absurd hn (tno_l 98 rfl n), fun n hn => ⟨_, arr_d (tlen_d hn (show (98, 6001) ∈ adT by decide)) r98⟩⟩
      · exact ⟨fun n hn => absurd hn (tno_i 99 rfl n), fun n hn => absurd hn (tno_l 99 rfl n), fun n hn => ⟨_, arr_d (tlen_d hn (show (99, 6001) ∈ adT by decide)) r99⟩⟩))
  · unfold DXw
    rw [lv_same ((f2 8 rfl).trans (f1 8 rfl)), iv_same ((f2 9 rfl).trans (f1 9 rfl)), iv_same ((f2 10 rfl).trans (f1 10 rfl)), iv_same ((f2 200 rfl).trans (f1 200 rfl)), lv_same ((f2 201 rfl).trans (f1 201 rfl)), iv_same ((f2 500 rfl).trans (f1 500 rfl)), lv_same ((f2 501 rfl).trans (f1 501 rfl)), ai_same ((g2 1 rfl).trans (g1 1 rfl)), lv_same ((f2 6904 rfl).trans (f1 6904 rfl)), iv_same ((f2 6906 rfl).trans (f1 6906 rfl)), iv_same ((f2 6909 rfl).trans (f1 6909 rfl)), iv_same ((f2 6911 rfl).trans (f1 6911 rfl)), ai_same ((g2 70 rfl).trans (g1 70 rfl)), ai_same ((g2 71 rfl).trans (g1 71 rfl)), ai_same ((g2 72 rfl).trans (g1 72 rfl)), ai_same ((g2 73 rfl).trans (g1 73 rfl))]
    exact hD
  · unfold IXw
    rw [iv_same ((f2 11 rfl).trans (f1 11 rfl)), lv_same ((f2 12 rfl).trans (f1 12 rfl)), iv_same ((f2 13 rfl).trans (f1 13 rfl)), iv_same ((f2 14 rfl).trans (f1 14 rfl)), iv_same ((f2 6912 rfl).trans (f1 6912 rfl)), lv_same ((f2 6913 rfl).trans (f1 6913 rfl)), iv_same ((f2 6915 rfl).trans (f1 6915 rfl)), ai_same ((g2 74 rfl).trans (g1 74 rfl))]
    exact hX
  · unfold TXw
    rw [iv_same ((f2 2400 rfl).trans (f1 2400 rfl)), ai_same ((g2 26 rfl).trans (g1 26 rfl)), iv_same ((f2 6917 rfl).trans (f1 6917 rfl)), ai_same ((g2 75 rfl).trans (g1 75 rfl))]
    exact hT
  · unfold SVw
    rw [lv_eq ((f2 2706 rfl).trans p2706), iv_eq ((f2 2707 rfl).trans p2707), iv_eq ((f2 2708 rfl).trans p2708), iv_eq ((f2 2802 rfl).trans p2802), iv_eq ((f2 2803 rfl).trans p2803), ai_eq ((g2 30 rfl).trans r30), ai_eq ((g2 35 rfl).trans r35), al_eq ((g2 38 rfl).trans r38), ai_same ((g2 44 rfl).trans (g1 44 rfl)), ai_same ((g2 57 rfl).trans (g1 57 rfl)), ai_same ((g2 59 rfl).trans (g1 59 rfl))]
    exact hV'
  · unfold ENw
    rw [lv_same ((f2 2709 rfl).trans (f1 2709 rfl)), iv_same ((f2 2710 rfl).trans (f1 2710 rfl))]
    exact hE
  · unfold CEw
    rw [iv_same ((f2 2705 rfl).trans (f1 2705 rfl)), ai_same ((g2 67 rfl).trans (g1 67 rfl))]
    exact hC
theorem cw_script {F N : Nat} {q : Nat → Nat} {m0 : Nat → Value} {a0 : Nat → vp_A} (hF : 800000 ≤ F) (hI : INV F N q m0 a0)  {sa sv : Nat → Nat} {l : Launch} {D : va_G} {cy : Nat → ClassId} {sz : Nat} : ∃ (out : Int32) (Q : (Nat → Value) → (Nat → vp_A) → Prop), eMi l yX11_script cX11_script 3 (some .int) ({ frames := 8, cells := 0, slots := 0, locals := 177 } : Room) D cy N q m0 a0 sz [.ref (q 0)] (XS sa sv) (fun r m' a' => r = out ∧ Q m' a') ∧ ∀ (m1 : Nat → Value) (a1 : Nat → vp_A) (sz1 : Nat), Q m1 a1 → eMi l yX12_script cX12_script 1 (some .int) ({ frames := 254, cells := 0, slots := 0, locals := 10542 } : Room) D cy N q m1 a1 sz1 [.ref (q 69)] (XS sa sv) (fun r m' a' => r = out ∧ INV F N q m' a') := by
  obtain ⟨hN, hsh, hty, hta, hod, kr, cap, lab, ack, cop, hst, hs, hD, hX, hT, hV, hE, hC⟩ := hI
  obtain ⟨⟨hkr, hgk, hrf⟩, ⟨b0, b1, b2, b3⟩, c0, c1, c2, c3⟩ := id hst
  have hb0 := hs.1
  have hb1 := hs.2.1
  have hb2 := hs.2.2.1
  have hb3 := hs.2.2.2
  obtain ⟨out, c', qb', qs', s2', b2', s5', b5', y6, y7, y8, z2, z3, z4, A1', B13, B15, B17, B19, B21, B23, m', mq', mf', md', w19, w20, w21, w22, w57, w58, w59, w60, w61, w62, w63, w64, w65, w66, A70', A71', A72', A73', e1, e2, hD'⟩ := script_call hs hD hT (show 700000 ≤ F by omega) (iv m0 1106) (iv m0 1107) (iv m0 1108) (iv m0 2402) (iv m0 2403) (iv m0 2404) (ai a0 13) (ai a0 15) (ai a0 17) (ai a0 19) (ai a0 21) (ai a0 23) (iv m0 6918) (lv m0 6919) (iv m0 6920) (iv m0 6921) (iv m0 6922) (iv m0 6957) (iv m0 6958) (iv m0 6959) (iv m0 6960) (lv m0 6961) (iv m0 6962) (iv m0 6963) (iv m0 6964) (iv m0 6965) (iv m0 6966)
  have k1 := kX11_script (m0 := m0) (a0 := a0) (q := q) (l := l) (D := D) (cy := cy) (sz := sz) (hN := hN) (hsh := hsh) (hkr := hkr) (hgk := hgk) (hrf := hrf) (h_xkr_0 := b0) (h_xkr_1 := b1) (h_xkr_2 := b2) (h_xkr_3 := b3) (h_x0_8 := hty.2 8 rfl) (h_x0_9 := hty.1 9 rfl) (h_x0_10 := hty.1 10 rfl) (h_x2_0 := hty.1 200 rfl) (h_x2_1 := hty.2 201 rfl) (h_x5_0 := hty.1 500 rfl) (h_x5_1 := hty.2 501 rfl) (h_x11_6 := hty.1 1106 rfl) (h_x11_7 := hty.1 1107 rfl) (h_x11_8 := hty.1 1108 rfl) (h_x24_0 := hty.1 2400 rfl) (h_x24_2 := hty.1 2402 rfl) (h_x24_3 := hty.1 2403 rfl) (h_x24_4 := hty.1 2404 rfl) (h_A26 := hta.1 (26, 264) (by decide)) (h_A1 := hta.1 (1, 8) (by decide)) (h_A13 := hta.1 (13, 64) (by decide)) (h_A15 := hta.1 (15, 64) (by decide)) (h_A17 := hta.1 (17, 64) (by decide)) (h_A19 := hta.1 (19, 4) (by decide)) (h_A21 := hta.1 (21, 4) (by decide)) (h_A23 := hta.1 (23, 4) (by decide)) (F := F)  (hs0 := e1) (sa := sa) (sv := sv)
  refine ⟨_, _, k1, ?_⟩
  intro m1 a1 sz1 hQ
  obtain ⟨p8, p9, p10, p200, p201, p500, p501, p1106, p1107, p1108, p2400, p2402, p2403, p2404, f1, r1, r13, r15, r17, r19, r21, r23, g1⟩ := hQ
  have d0 := (f1 6900 rfl).trans c0
  have d1 := (f1 6901 rfl).trans c1
  have d2 := (f1 6902 rfl).trans c2
  have d3 := (f1 6903 rfl).trans c3
  have hsh1 := hsh.off f1 rfl
  have k2 := kX12_script (m0 := m1) (a0 := a1) (q := q) (l := l) (D := D) (cy := cy) (sz := sz1) (hN := hN) (hsh := hsh1) (h_x69_0 := d0) (h_x69_1 := d1) (h_x69_2 := d2) (h_x69_3 := d3) (h_x69_4 := (f1 6904 rfl).trans (hty.2 6904 rfl)) (h_x69_6 := (f1 6906 rfl).trans (hty.1 6906 rfl)) (h_x69_9 := (f1 6909 rfl).trans (hty.1 6909 rfl)) (h_x69_11 := (f1 6911 rfl).trans (hty.1 6911 rfl)) (h_x69_17 := (f1 6917 rfl).trans (hty.1 6917 rfl)) (h_x69_18 := (f1 6918 rfl).trans (hty.1 6918 rfl)) (h_x69_19 := (f1 6919 rfl).trans (hty.2 6919 rfl)) (h_x69_20 := (f1 6920 rfl).trans (hty.1 6920 rfl)) (h_x69_21 := (f1 6921 rfl).trans (hty.1 6921 rfl)) (h_x69_22 := (f1 6922 rfl).trans (hty.1 6922 rfl)) (h_x69_57 := (f1 6957 rfl).trans (hty.1 6957 rfl)) (h_x69_58 := (f1 6958 rfl).trans (hty.1 6958 rfl)) (h_x69_59 := (f1 6959 rfl).trans (hty.1 6959 rfl)) (h_x69_60 := (f1 6960 rfl).trans (hty.1 6960 rfl)) (h_x69_61 := (f1 6961 rfl).trans (hty.2 6961 rfl)) (h_x69_62 := (f1 6962 rfl).trans (hty.1 6962 rfl)) (h_x69_63 := (f1 6963 rfl).trans (hty.1 6963 rfl)) (h_x69_64 := (f1 6964 rfl).trans (hty.1 6964 rfl)) (h_x69_65 := (f1 6965 rfl).trans (hty.1 6965 rfl)) (h_x69_66 := (f1 6966 rfl).trans (hty.1 6966 rfl)) (h_A75 := (g1 75 rfl).trans (hta.1 (75, 264) (by decide))) (h_A70 := (g1 70 rfl).trans (hta.1 (70, 30) (by decide))) (h_A71 := (g1 71 rfl).trans (hta.1 (71, 8) (by decide))) (h_A72 := (g1 72 rfl).trans (hta.1 (72, 40) (by decide))) (h_A73 := (g1 73 rfl).trans (hta.1 (73, 40) (by decide))) (F := F)  (hs0 := e2) (sa := sa) (sv := sv)
  refine eMi_mono k2 (fun r m2 a2 h => ?_)
  obtain ⟨hr, p6904, p6906, p6909, p6911, p6917, p6918, p6919, p6920, p6921, p6922, p6957, p6958, p6959, p6960, p6961, p6962, p6963, p6964, p6965, p6966, f2, r70, r71, r72, r73, g2⟩ := h
  refine ⟨hr, hN, hsh1.off f2 rfl, ?_, ?_, od_off (od_off hod f1 g1 rfl rfl rfl rfl) f2 g2 rfl rfl rfl rfl, kr, cap, lab, ack, cop, stw_off (stw_off hst f1 rfl rfl rfl rfl rfl rfl) f2 rfl rfl rfl rfl rfl rfl, hs, ?_, ?_, ?_, ?_, ?_, ?_⟩
  · have t1 : TYM m1 := (tym_off hty f1 (fun j hj => by
      simp only [List.mem_cons, List.not_mem_nil, or_false] at hj
      rcases hj with rfl | rfl | rfl | rfl | rfl | rfl | rfl | rfl | rfl | rfl | rfl | rfl | rfl | rfl
      · exact ⟨fun z => absurd z (by decide), fun _ => ⟨_, p8⟩⟩
      · exact ⟨fun _ => ⟨_, p9⟩, fun z => absurd z (by decide)⟩
      · exact ⟨fun _ => ⟨_, p10⟩, fun z => absurd z (by decide)⟩
      · exact ⟨fun _ => ⟨_, p200⟩, fun z => absurd z (by decide)⟩
      · exact ⟨fun z => absurd z (by decide), fun _ => ⟨_, p201⟩⟩
      · exact ⟨fun _ => ⟨_, p500⟩, fun z => absurd z (by decide)⟩
      · exact ⟨fun z => absurd z (by decide), fun _ => ⟨_, p501⟩⟩
      · exact ⟨fun _ => ⟨_, p1106⟩, fun z => absurd z (by decide)⟩
      · exact ⟨fun _ => ⟨_, p1107⟩, fun z => absurd z (by decide)⟩
      · exact ⟨fun _ => ⟨_, p1108⟩, fun z => absurd z (by decide)⟩
      · exact ⟨fun _ => ⟨_, p2400⟩, fun z => absurd z (by decide)⟩
      · exact ⟨fun _ => ⟨_, p2402⟩, fun z => absurd z (by decide)⟩
      · exact ⟨fun _ => ⟨_, p2403⟩, fun z => absurd z (by decide)⟩
      · exact ⟨fun _ => ⟨_, p2404⟩, fun z => absurd z (by decide)⟩))
    exact (tym_off t1 f2 (fun j hj => by
      simp only [List.mem_cons, List.not_mem_nil, or_false] at hj
      rcases hj with rfl | rfl | rfl | rfl | rfl | rfl | rfl | rfl | rfl | rfl | rfl | rfl | rfl | rfl | rfl | rfl | rfl | rfl | rfl | rfl
      · exact ⟨fun z => absurd z (by decide), fun _ => ⟨_, p6904⟩⟩
      · exact ⟨fun _ => ⟨_, p6906⟩, fun z => absurd z (by decide)⟩
      · exact ⟨fun _ => ⟨_, p6909⟩, fun z => absurd z (by decide)⟩
      · exact ⟨fun _ => ⟨_, p6911⟩, fun z => absurd z (by decide)⟩
      · exact ⟨fun _ => ⟨_, p6917⟩, fun z => absurd z (by decide)⟩
      · exact ⟨fun _ => ⟨_, p6918⟩, fun z => absurd z (by decide)⟩
      · exact ⟨fun z => absurd z (by decide), fun _ => ⟨_, p6919⟩⟩
      · exact ⟨fun _ => ⟨_, p6920⟩, fun z => absurd z (by decide)⟩
      · exact ⟨fun _ => ⟨_, p6921⟩, fun z => absurd z (by decide)⟩
      · exact ⟨fun _ => ⟨_, p6922⟩, fun z => absurd z (by decide)⟩
      · exact ⟨fun _ => ⟨_, p6957⟩, fun z => absurd z (by decide)⟩
      · exact ⟨fun _ => ⟨_, p6958⟩, fun z => absurd z (by decide)⟩
      · exact ⟨fun _ => ⟨_, p6959⟩, fun z => absurd z (by decide)⟩
      · exact ⟨fun _ => ⟨_, p6960⟩, fun z => absurd z (by decide)⟩
      · exact ⟨fun z => absurd z (by decide), fun _ => ⟨_, p6961⟩⟩
      · exact ⟨fun _ => ⟨_, p6962⟩, fun z => absurd z (by decide)⟩
      · exact ⟨fun _ => ⟨_, p6963⟩, fun z => absurd z (by decide)⟩
      · exact ⟨fun _ => ⟨_, p6964⟩, fun z => absurd z (by decide)⟩
      · exact ⟨fun _ => ⟨_, p6965⟩, fun z => absurd z (by decide)⟩
      · exact ⟨fun _ => ⟨_, p6966⟩, fun z => absurd z (by decide)⟩))
  · have t1 : TYA a1 := (tya_off hta g1 (fun j hj => by
      simp only [List.mem_cons, List.not_mem_nil, or_false] at hj
      rcases hj with rfl | rfl | rfl | rfl | rfl | rfl | rfl
      · exact ⟨fun n hn => ⟨_, arr_i (tlen_i hn (show (1, 8) ∈ aiT by decide)) r1⟩, fun n hn => absurd hn (tno_l 1 rfl n), fun n hn => absurd hn (tno_d 1 rfl n)⟩
      · exact ⟨fun n hn => ⟨_, arr_i (tlen_i hn (show (13, 64) ∈ aiT by decide)) r13⟩, fun n hn => absurd hn (tno_l 13 rfl n), fun n hn => absurd hn (tno_d 13 rfl n)⟩
      · exact ⟨fun n hn => ⟨_, arr_i (tlen_i hn (show (15, 64) ∈ aiT by decide)) r15⟩, fun n hn => absurd hn (tno_l 15 rfl n), fun n hn => absurd hn (tno_d 15 rfl n)⟩
      · exact ⟨fun n hn => ⟨_, arr_i (tlen_i hn (show (17, 64) ∈ aiT by decide)) r17⟩, fun n hn => absurd hn (tno_l 17 rfl n), fun n hn => absurd hn (tno_d 17 rfl n)⟩
      · exact ⟨fun n hn => ⟨_, arr_i (tlen_i hn (show (19, 4) ∈ aiT by decide)) r19⟩, fun n hn => absurd hn (tno_l 19 rfl n), fun n hn => absurd hn (tno_d 19 rfl n)⟩
      · exact ⟨fun n hn => ⟨_, arr_i (tlen_i hn (show (21, 4) ∈ aiT by decide)) r21⟩, fun n hn => absurd hn (tno_l 21 rfl n), fun n hn => absurd hn (tno_d 21 rfl n)⟩
      · exact ⟨fun n hn => ⟨_, arr_i (tlen_i hn (show (23, 4) ∈ aiT by decide)) r23⟩, fun n hn => absurd hn (tno_l 23 rfl n), fun n hn => absurd hn (tno_d 23 rfl n)⟩))
    exact (tya_off t1 g2 (fun j hj => by
      simp only [List.mem_cons, List.not_mem_nil, or_false] at hj
      rcases hj with rfl | rfl | rfl | rfl
      · exact ⟨fun n hn => ⟨_, arr_i (tlen_i hn (show (70, 30) ∈ aiT by decide)) r70⟩, fun n hn => absurd hn (tno_l 70 rfl n), fun n hn => absurd hn (tno_d 70 rfl n)⟩
      · exact ⟨fun n hn => ⟨_, arr_i (tlen_i hn (show (71, 8) ∈ aiT by decide)) r71⟩, fun n hn => absurd hn (tno_l 71 rfl n), fun n hn => absurd hn (tno_d 71 rfl n)⟩
      · exact ⟨fun n hn => ⟨_, arr_i (tlen_i hn (show (72, 40) ∈ aiT by decide)) r72⟩, fun n hn => absurd hn (tno_l 72 rfl n), fun n hn => absurd hn (tno_d 72 rfl n)⟩
      · exact ⟨fun n hn => ⟨_, arr_i (tlen_i hn (show (73, 40) ∈ aiT by decide)) r73⟩, fun n hn => absurd hn (tno_l 73 rfl n), fun n hn => absurd hn (tno_d 73 rfl n)⟩))
  · unfold DXw
    rw [lv_eq ((f2 8 rfl).trans p8), iv_eq ((f2 9 rfl).trans p9), iv_eq ((f2 10 rfl).trans p10), iv_eq ((f2 200 rfl).trans p200), lv_eq ((f2 201 rfl).trans p201), iv_eq ((f2 500 rfl).trans p500), lv_eq ((f2 501 rfl).trans p501), ai_eq ((g2 1 rfl).trans r1), lv_eq p6904, iv_eq p6906, iv_eq p6909, iv_eq p6911, ai_eq r70, ai_eq r71, ai_eq r72, ai_eq r73]
    exact hD'
  · unfold IXw
    rw [iv_same ((f2 11 rfl).trans (f1 11 rfl)), lv_same ((f2 12 rfl).trans (f1 12 rfl)), iv_same ((f2 13 rfl).trans (f1 13 rfl)), iv_same ((f2 14 rfl).trans (f1 14 rfl)), iv_same ((f2 6912 rfl).trans (f1 6912 rfl)), lv_same ((f2 6913 rfl).trans (f1 6913 rfl)), iv_same ((f2 6915 rfl).trans (f1 6915 rfl)), ai_same ((g2 74 rfl).trans (g1 74 rfl))]
    exact hX
  · unfold TXw
    rw [iv_eq ((f2 2400 rfl).trans p2400), ai_same ((g2 26 rfl).trans (g1 26 rfl)), iv_eq p6917, ai_same ((g2 75 rfl).trans (g1 75 rfl))]
    exact ⟨0, by decide, rfl, rfl, fun i hi => absurd hi (Nat.not_lt_zero _)⟩
  · unfold SVw
    rw [lv_same ((f2 2706 rfl).trans (f1 2706 rfl)), iv_same ((f2 2707 rfl).trans (f1 2707 rfl)), iv_same ((f2 2708 rfl).trans (f1 2708 rfl)), iv_same ((f2 2802 rfl).trans (f1 2802 rfl)), iv_same ((f2 2803 rfl).trans (f1 2803 rfl)), ai_same ((g2 30 rfl).trans (g1 30 rfl)), ai_same ((g2 35 rfl).trans (g1 35 rfl)), al_same ((g2 38 rfl).trans (g1 38 rfl)), ai_same ((g2 44 rfl).trans (g1 44 rfl)), ai_same ((g2 57 rfl).trans (g1 57 rfl)), ai_same ((g2 59 rfl).trans (g1 59 rfl))]
    exact hV
  · unfold ENw
    rw [lv_same ((f2 2709 rfl).trans (f1 2709 rfl)), iv_same ((f2 2710 rfl).trans (f1 2710 rfl))]
    exact hE
  · unfold CEw
    rw [iv_same ((f2 2705 rfl).trans (f1 2705 rfl)), ai_same ((g2 67 rfl).trans (g1 67 rfl))]
    exact hC
end CALLY
