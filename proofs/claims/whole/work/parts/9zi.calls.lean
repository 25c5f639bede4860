/-! part 9zi: more calls of the law -/
section CALLX
theorem cw_of {F N : Nat} {q : Nat → Nat} {m0 : Nat → Value} {a0 : Nat → vp_A} (hF : 800000 ≤ F) (hI : INV F N q m0 a0) (p1 : Int32) {l : Launch} {D : va_G} {cy : Nat → ClassId} {sz : Nat} : ∃ (out : Int32) (Q : (Nat → Value) → (Nat → vp_A) → Prop), gMi l yX11_of cX11_of 2 (some .int) ({ frames := 2, cells := 0, slots := 0, locals := 44 } : Room) D cy N q m0 a0 sz [.ref (q 0), .int p1] (fun r m' a' => r = out ∧ Q m' a') ∧ ∀ (m1 : Nat → Value) (a1 : Nat → vp_A) (sz1 : Nat), Q m1 a1 → gMi l yX12_of cX12_of 2 (some .int) ({ frames := 2, cells := 0, slots := 0, locals := 46 } : Room) D cy N q m1 a1 sz1 [.ref (q 69), .int p1] (fun r m' a' => r = out ∧ INV F N q m' a') := by
  obtain ⟨hN, hsh, hty, hta, hod, kr, cap, lab, ack, cop, hst, hs, hD, hX, hT, hV, hE, hC⟩ := hI
  obtain ⟨⟨hkr, hgk, hrf⟩, ⟨b0, b1, b2, b3⟩, c0, c1, c2, c3⟩ := id hst
  have hb0 := hs.1
  have hb1 := hs.2.1
  have hb2 := hs.2.2.1
  have hb3 := hs.2.2.2
  have hq : iv m0 6906 = iv m0 10 := by
    obtain ⟨n, _, h1, h2, _⟩ := hD.2.2.1
    exact h2.trans h1.symm
  have ht : iv m0 6917 = iv m0 2400 := by
    obtain ⟨n, _, h1, h2, _⟩ := hT
    exact h2.trans h1.symm
  have e2 : fX12_of F (Int32.ofNat cap) (Int32.ofNat lab) (Int32.ofNat ack) (Int32.ofNat cop) (lv m0 6904) (iv m0 6906) (iv m0 6917) (iv m0 6918) p1 = some (fX11_of (lv m0 8) (iv m0 10) (iv m0 2400) (Int32.ofNat cap) (Int32.ofNat lab) (Int32.ofNat ack) (Int32.ofNat cop) p1, 0) := by
    rw [hq, ht]
    exact of_eq hD.1 (by omega)
  have k1 := kX11_of (m0 := m0) (a0 := a0) (q := q) (l := l) (D := D) (cy := cy) (sz := sz) (hN := hN) (hsh := hsh) (hkr := hkr) (hgk := hgk) (hrf := hrf) (h_x0_8 := hty.2 8 rfl) (h_x0_10 := hty.1 10 rfl) (h_x24_0 := hty.1 2400 rfl) (h_xkr_0 := b0) (h_xkr_1 := b1) (h_xkr_2 := b2) (h_xkr_3 := b3)  (p1 := p1)
  refine ⟨_, _, k1, ?_⟩
  intro m1 a1 sz1 hQ
  obtain ⟨f1, g1⟩ := hQ
  replace f1 : ∀ j, nel j [] = false → m1 j = m0 j := fun j _ => congrFun f1 j
  replace g1 : ∀ j, nel j [] = false → a1 j = a0 j := fun j _ => congrFun g1 j
  have d0 := (f1 6900 rfl).trans c0
  have d1 := (f1 6901 rfl).trans c1
  have d2 := (f1 6902 rfl).trans c2
  have d3 := (f1 6903 rfl).trans c3
  have hsh1 := hsh.off f1 rfl
  have k2 := kX12_of (m0 := m1) (a0 := a1) (q := q) (l := l) (D := D) (cy := cy) (sz := sz1) (hN := hN) (hsh := hsh1) (h_x69_0 := d0) (h_x69_1 := d1) (h_x69_2 := d2) (h_x69_3 := d3) (h_x69_4 := (f1 6904 rfl).trans (hty.2 6904 rfl)) (h_x69_6 := (f1 6906 rfl).trans (hty.1 6906 rfl)) (h_x69_17 := (f1 6917 rfl).trans (hty.1 6917 rfl)) (h_x69_18 := (f1 6918 rfl).trans (hty.1 6918 rfl)) (F := F) (p1 := p1) (hs0 := e2)
  refine gMi_mono k2 (fun r m2 a2 h => ?_)
  obtain ⟨hr, p6918, f2, g2⟩ := h
  replace g2 : ∀ j, nel j [] = false → a2 j = a1 j := fun j _ => congrFun g2 j
  refine ⟨hr, hN, hsh1.off f2 rfl, ?_, ?_, od_off (od_off hod f1 g1 rfl rfl rfl rfl) f2 g2 rfl rfl rfl rfl, kr, cap, lab, ack, cop, stw_off (stw_off hst f1 rfl rfl rfl rfl rfl rfl) f2 rfl rfl rfl rfl rfl rfl, hs, ?_, ?_, ?_, ?_, ?_, ?_⟩
  · have t1 : TYM m1 := (tym_off hty f1 (fun j hj => absurd hj List.not_mem_nil))
    exact (tym_off t1 f2 (fun j hj => by
      simp only [List.mem_cons, List.not_mem_nil, or_false] at hj
      rcases hj with rfl
      · exact ⟨fun _ => ⟨_, p6918⟩, fun z => absurd z (by decide)⟩))
  · have t1 : TYA a1 := (tya_off hta g1 (fun j hj => absurd hj List.not_mem_nil))
    exact (tya_off t1 g2 (fun j hj => absurd hj List.not_mem_nil))
  · unfold DXw
    rw [lv_same ((f2 8 rfl).trans (f1 8 rfl)), iv_same ((f2 9 rfl).trans (f1 9 rfl)), iv_same ((f2 10 rfl).trans (f1 10 rfl)), iv_same ((f2 200 rfl).trans (f1 200 rfl)), lv_same ((f2 201 rfl).trans (f1 201 rfl)), iv_same ((f2 500 rfl).trans (f1 500 rfl)), lv_same ((f2 501 rfl).trans (f1 501 rfl)), ai_same ((g2 1 rfl).trans (g1 1 rfl)), lv_same ((f2 6904 rfl).trans (f1 6904 rfl)), iv_same ((f2 6906 rfl).trans (f1 6906 rfl)), iv_same ((f2 6909 rfl).trans (f1 6909 rfl)), iv_same ((f2 6911 rfl).trans (f1 6911 rfl)), ai_same ((g2 70 rfl).trans (g1 70 rfl)), ai_same ((g2 71 rfl).trans (g1 71 rfl)), ai_same ((g2 72 rfl).trans (g1 72 rfl)), ai_same ((g2 73 rfl).trans (g1 73 rfl))]
    exact hD
  · unfold IXw
    rw [iv_same ((f2 11 rfl).trans (f1 11 rfl)), lv_same ((f2 12 rfl).trans (f1 12 rfl)), iv_same ((f2 13 rfl).trans (f1 13 rfl)), iv_same ((f2 14 rfl).trans (f1 14 rfl)), iv_same ((f2 6912 rfl).trans (f1 6912 rfl)), lv_same ((f2 6913 rfl).trans (f1 6913 rfl)), iv_same ((f2 6915 rfl).trans (f1 6915 rfl)), ai_same ((g2 74 rfl).trans (g1 74 rfl))]
    exact hX
  · unfold TXw
    rw [iv_same ((f2 2400 rfl).trans (f1 2400 rfl)), ai_same ((g2 26 rfl).trans (g1 26 rfl)), iv_same ((f2 6917 rfl).trans (f1 6917 rfl)), ai_same ((g2 75 rfl).trans (g1 75 rfl))]
    exact hT
  · unfold SVw
    rw [lv_same ((f2 2706 rfl).trans (f1 2706 rfl)), iv_same ((f2 2707 rfl).trans (f1 2707 rfl)), iv_same ((f2 2708 rfl).trans (f1 2708 rfl)), iv_same ((f2 2802 rfl).trans (f1 2802 rfl)), iv_same ((f2 2803 rfl).trans (f1 2803 rfl)), ai_same ((g2 30 rfl).trans (g1 30 rfl)), ai_same ((g2 35 rfl).trans (g1 35 rfl)), al_same ((g2 38 rfl).trans (g1 38 rfl)), ai_same ((g2 44 rfl).trans (g1 44 rfl)), ai_same ((g2 57 rfl).trans (g1 57 rfl)), ai_same ((g2 59 rfl).trans (g1 59 rfl))]
    exact hV
  · unfold ENw
    rw [lv_same ((f2 2709 rfl).trans (f1 2709 rfl)), iv_same ((f2 2710 rfl).trans (f1 2710 rfl))]
    exact hE
  · unfold CEw
    rw [iv_same ((f2 2705 rfl).trans (f1 2705 rfl)), ai_same ((g2 67 rfl).trans (g1 67 rfl))]
    exact hC
theorem cw_row {F N : Nat} {q : Nat → Nat} {m0 : Nat → Value} {a0 : Nat → vp_A} (hF : 800000 ≤ F) (hI : INV F N q m0 a0) (p1 : Int32) (p2 : Int32) {l : Launch} {D : va_G} {cy : Nat → ClassId} {sz : Nat} : ∃ (out : Int32) (Q : (Nat → Value) → (Nat → vp_A) → Prop), gMi l yX11_row cX11_row 4 (some .int) ({ frames := 1, cells := 0, slots := 0, locals := 21 } : Room) D cy N q m0 a0 sz [.ref (q 0), .int p1, .int p2] (fun r m' a' => r = out ∧ Q m' a') ∧ ∀ (m1 : Nat → Value) (a1 : Nat → vp_A) (sz1 : Nat), Q m1 a1 → gMi l yX12_row cX12_row 4 (some .int) ({ frames := 1, cells := 0, slots := 0, locals := 22 } : Room) D cy N q m1 a1 sz1 [.ref (q 69), .int p1, .int p2] (fun r m' a' => r = out ∧ INV F N q m' a') := by
  obtain ⟨hN, hsh, hty, hta, hod, kr, cap, lab, ack, cop, hst, hs, hD, hX, hT, hV, hE, hC⟩ := hI
  obtain ⟨⟨hkr, hgk, hrf⟩, ⟨b0, b1, b2, b3⟩, c0, c1, c2, c3⟩ := id hst
  have hb0 := hs.1
  have hb1 := hs.2.1
  have hb2 := hs.2.2.1
  have hb3 := hs.2.2.2
  have e2 := row_call hD.2.2.2.1 hD.2.2.2.2.1 (iv m0 6918) p1 p2
  have k1 := kX11_row (m0 := m0) (a0 := a0) (q := q) (l := l) (D := D) (cy := cy) (sz := sz) (hN := hN) (hsh := hsh)  (h_x2_0 := hty.1 200 rfl) (h_x2_1 := hty.2 201 rfl) (h_x5_0 := hty.1 500 rfl) (h_x5_1 := hty.2 501 rfl)  (p1 := p1) (p2 := p2)
  refine ⟨_, _, k1, ?_⟩
  intro m1 a1 sz1 hQ
  obtain ⟨f1, g1⟩ := hQ
  replace f1 : ∀ j, nel j [] = false → m1 j = m0 j := fun j _ => congrFun f1 j
  replace g1 : ∀ j, nel j [] = false → a1 j = a0 j := fun j _ => congrFun g1 j
  have d0 := (f1 6900 rfl).trans c0
  have d1 := (f1 6901 rfl).trans c1
  have d2 := (f1 6902 rfl).trans c2
  have d3 := (f1 6903 rfl).trans c3
  have hsh1 := hsh.off f1 rfl
  have k2 := kX12_row (m0 := m1) (a0 := a1) (q := q) (l := l) (D := D) (cy := cy) (sz := sz1) (hN := hN) (hsh := hsh1) (h_x69_9 := (f1 6909 rfl).trans (hty.1 6909 rfl)) (h_x69_11 := (f1 6911 rfl).trans (hty.1 6911 rfl)) (h_x69_18 := (f1 6918 rfl).trans (hty.1 6918 rfl)) (h_A72 := (g1 72 rfl).trans (hta.1 (72, 40) (by decide))) (h_A73 := (g1 73 rfl).trans (hta.1 (73, 40) (by decide)))  (p1 := p1) (p2 := p2) (hs0 := e2)
  refine gMi_mono k2 (fun r m2 a2 h => ?_)
  obtain ⟨hr, p6918, f2, g2⟩ := h
  replace g2 : ∀ j, nel j [] = false → a2 j = a1 j := fun j _ => congrFun g2 j
  refine ⟨hr, hN, hsh1.off f2 rfl, ?_, ?_, od_off (od_off hod f1 g1 rfl rfl rfl rfl) f2 g2 rfl rfl rfl rfl, kr, cap, lab, ack, cop, stw_off (stw_off hst f1 rfl rfl rfl rfl rfl rfl) f2 rfl rfl rfl rfl rfl rfl, hs, ?_, ?_, ?_, ?_, ?_, ?_⟩
  · have t1 : TYM m1 := (tym_off hty f1 (fun j hj => absurd hj List.not_mem_nil))
    exact (tym_off t1 f2 (fun j hj => by
      simp only [List.mem_cons, List.not_mem_nil, or_false] at hj
      rcases hj with rfl
      · exact ⟨fun _ => ⟨_, p6918⟩, fun z => absurd z (by decide)⟩))
  · have t1 : TYA a1 := (tya_off hta g1 (fun j hj => absurd hj List.not_mem_nil))
    exact (tya_off t1 g2 (fun j hj => absurd hj List.not_mem_nil))
  · unfold DXw
    rw [lv_same ((f2 8 rfl).trans (f1 8 rfl)), iv_same ((f2 9 rfl).trans (f1 9 rfl)), iv_same ((f2 10 rfl).trans (f1 10 rfl)), iv_same ((f2 200 rfl).trans (f1 200 rfl)), lv_same ((f2 201 rfl).trans (f1 201 rfl)), iv_same ((f2 500 rfl).trans (f1 500 rfl)), lv_same ((f2 501 rfl).trans (f1 501 rfl)), ai_same ((g2 1 rfl).trans (g1 1 rfl)), lv_same ((f2 6904 rfl).trans (f1 6904 rfl)), iv_same ((f2 6906 rfl).trans (f1 6906 rfl)), iv_same ((f2 6909 rfl).trans (f1 6909 rfl)), iv_same ((f2 6911 rfl).trans (f1 6911 rfl)), ai_same ((g2 70 rfl).trans (g1 70 rfl)), ai_same ((g2 71 rfl).trans (g1 71 rfl)), ai_same ((g2 72 rfl).trans (g1 72 rfl)), ai_same ((g2 73 rfl).trans (g1 73 rfl))]
    exact hD
  · unfold IXw
    rw [iv_same ((f2 11 rfl).trans (f1 11 rfl)), lv_same ((f2 12 rfl).trans (f1 12 rfl)), iv_same ((f2 13 rfl).trans (f1 13 rfl)), iv_same ((f2 14 rfl).trans (f1 14 rfl)), iv_same ((f2 6912 rfl).trans (f1 6912 rfl)), lv_same ((f2 6913 rfl).trans (f1 6913 rfl)), iv_same ((f2 6915 rfl).trans (f1 6915 rfl)), ai_same ((g2 74 rfl).trans (g1 74 rfl))]
    exact hX
  · unfold TXw
    rw [iv_same ((f2 2400 rfl).trans (f1 2400 rfl)), ai_same ((g2 26 rfl).trans (g1 26 rfl)), iv_same ((f2 6917 rfl).trans (f1 6917 rfl)), ai_same ((g2 75 rfl).trans (g1 75 rfl))]
    exact hT
  · unfold SVw
    rw [lv_same ((f2 2706 rfl).trans (f1 2706 rfl)), iv_same ((f2 2707 rfl).trans (f1 2707 rfl)), iv_same ((f2 2708 rfl).trans (f1 2708 rfl)), iv_same ((f2 2802 rfl).trans (f1 2802 rfl)), iv_same ((f2 2803 rfl).trans (f1 2803 rfl)), ai_same ((g2 30 rfl).trans (g1 30 rfl)), ai_same ((g2 35 rfl).trans (g1 35 rfl)), al_same ((g2 38 rfl).trans (g1 38 rfl)), ai_same ((g2 44 rfl).trans (g1 44 rfl)), ai_same ((g2 57 rfl).trans (g1 57 rfl)), ai_same ((g2 59 rfl).trans (g1 59 rfl))]
    exact hV
  · unfold ENw
    rw [lv_same ((f2 2709 rfl).trans (f1 2709 rfl)), iv_same ((f2 2710 rfl).trans (f1 2710 rfl))]
    exact hE
  · unfold CEw
    rw [iv_same ((f2 2705 rfl).trans (f1 2705 rfl)), ai_same ((g2 67 rfl).trans (g1 67 rfl))]
    exact hC
theorem cw_struck {F N : Nat} {q : Nat → Nat} {m0 : Nat → Value} {a0 : Nat → vp_A} (hF : 800000 ≤ F) (hI : INV F N q m0 a0)  {l : Launch} {D : va_G} {cy : Nat → ClassId} {sz : Nat} : ∃ (out : Int32) (Q : (Nat → Value) → (Nat → vp_A) → Prop), gMi l yX11_struck cX11_struck 1 (some .int) ({ frames := 3, cells := 0, slots := 0, locals := 69 } : Room) D cy N q m0 a0 sz [.ref (q 0)] (fun r m' a' => r = out ∧ Q m' a') ∧ ∀ (m1 : Nat → Value) (a1 : Nat → vp_A) (sz1 : Nat), Q m1 a1 → gMi l yX12_struck cX12_struck 4 (some .int) ({ frames := 0, cells := 0, slots := 0, locals := 0 } : Room) D cy N q m1 a1 sz1 [.ref (q 69)] (fun r m' a' => r = out ∧ INV F N q m' a') := by
  obtain ⟨hN, hsh, hty, hta, hod, kr, cap, lab, ack, cop, hst, hs, hD, hX, hT, hV, hE, hC⟩ := hI
  obtain ⟨⟨hkr, hgk, hrf⟩, ⟨b0, b1, b2, b3⟩, c0, c1, c2, c3⟩ := id hst
  have hb0 := hs.1
  have hb1 := hs.2.1
  have hb2 := hs.2.2.1
  have hb3 := hs.2.2.2
  obtain ⟨out, B4, B103, e1, e2⟩ := struck_call hD.2.2.2.1 hD.2.2.2.2.1 (show 100 ≤ F by omega) (ai a0 4) (ai a0 103) (iv m0 6918)
  have k1 := kX11_struck (m0 := m0) (a0 := a0) (q := q) (l := l) (D := D) (cy := cy) (sz := sz) (hN := hN) (hsh := hsh)  (h_x2_0 := hty.1 200 rfl) (h_x2_1 := hty.2 201 rfl) (h_x5_0 := hty.1 500 rfl) (h_x5_1 := hty.2 501 rfl) (h_A4 := hta.1 (4, 41) (by decide)) (F := F)  (hs0 := e1)
  refine ⟨_, _, k1, ?_⟩
  intro m1 a1 sz1 hQ
  obtain ⟨f1, r4, g1⟩ := hQ
  replace f1 : ∀ j, nel j [] = false → m1 j = m0 j := fun j _ => congrFun f1 j
  have d0 := (f1 6900 rfl).trans c0
  have d1 := (f1 6901 rfl).trans c1
  have d2 := (f1 6902 rfl).trans c2
  have d3 := (f1 6903 rfl).trans c3
  have hsh1 := hsh.off f1 rfl
  have k2 := kX12_struck (m0 := m1) (a0 := a1) (q := q) (l := l) (D := D) (cy := cy) (sz := sz1) (hN := hN) (hsh := hsh1) (h_x69_9 := (f1 6909 rfl).trans (hty.1 6909 rfl)) (h_x69_11 := (f1 6911 rfl).trans (hty.1 6911 rfl)) (h_x69_18 := (f1 6918 rfl).trans (hty.1 6918 rfl)) (h_A72 := (g1 72 rfl).trans (hta.1 (72, 40) (by decide))) (h_A73 := (g1 73 rfl).trans (hta.1 (73, 40) (by decide))) (h_A103 := (g1 103 rfl).trans (hta.1 (103, 1681) (by decide))) (F := F)  (hs0 := e2)
  refine gMi_mono k2 (fun r m2 a2 h => ?_)
  obtain ⟨hr, p6918, f2, r103, g2⟩ := h
  refine ⟨hr, hN, hsh1.off f2 rfl, ?_, ?_, od_off (od_off hod f1 g1 rfl rfl rfl rfl) f2 g2 rfl rfl rfl rfl, kr, cap, lab, ack, cop, stw_off (stw_off hst f1 rfl rfl rfl rfl rfl rfl) f2 rfl rfl rfl rfl rfl rfl, hs, ?_, ?_, ?_, ?_, ?_, ?_⟩
  · have t1 : TYM m1 := (tym_off hty f1 (fun j hj => absurd hj List.not_mem_nil))
    exact (tym_off t1 f2 (fun j hj => by
      simp only [List.mem_cons, List.not_mem_nil, or_false] at hj
      rcases hj with rfl
      · exact ⟨fun _ => ⟨_, p6918⟩, fun z => absurd z (by decide)⟩))
  · have t1 : TYA a1 := (tya_off hta g1 (fun j hj => by
      simp only [List.mem_cons, List.not_mem_nil, or_false] at hj
      rcases hj with rfl
      · exact ⟨fun n hn => ⟨_, arr_i (tlen_i hn (show (4, 41) ∈ aiT by decide)) r4⟩, fun n hn => absurd hn (tno_l 4 rfl n), fun n hn => absurd hn (tno_d 4 rfl n)⟩))
    exact (tya_off t1 g2 (fun j hj => by
      simp only [List.mem_cons, List.not_mem_nil, or_false] at hj
      rcases hj with rfl
      · exact ⟨fun n hn => ⟨_, arr_i (tlen_i hn (show (103, 1681) ∈ aiT by decide)) r103⟩, fun n hn => absurd hn (tno_l 103 rfl n), fun n hn => absurd hn (tno_d 103 rfl n)⟩))
  · unfold DXw
    rw [lv_same ((f2 8 rfl).trans (f1 8 rfl)), iv_same ((f2 9 rfl).trans (f1 9 rfl)), iv_same ((f2 10 rfl).trans (f1 10 rfl)), iv_same ((f2 200 rfl).trans (f1 200 rfl)), lv_same ((f2 201 rfl).trans (f1 201 rfl)), iv_same ((f2 500 rfl).trans (f1 500 rfl)), lv_same ((f2 501 rfl).trans (f1 501 rfl)), ai_same ((g2 1 rfl).trans (g1 1 rfl)), lv_same ((f2 6904 rfl).trans (f1 6904 rfl)), iv_same ((f2 6906 rfl).trans (f1 6906 rfl)), iv_same ((f2 6909 rfl).trans (f1 6909 rfl)), iv_same ((f2 6911 rfl).trans (f1 6911 rfl)), ai_same ((g2 70 rfl).trans (g1 70 rfl)), ai_same ((g2 71 rfl).trans (g1 71 rfl)), ai_same ((g2 72 rfl).trans (g1 72 rfl)), ai_same ((g2 73 rfl).trans (g1 73 rfl))]
    exact hD
  · unfold IXw
    rw [iv_same ((f2 11 rfl).trans (f1 11 rfl)), lv_same ((f2 12 rfl).trans (f1 12 rfl)), iv_same ((f2 13 rfl).trans (f1 13 rfl)), iv_same ((f2 14 rfl).trans (f1 14 rfl)), iv_same ((f2 6912 rfl).trans (f1 6912 rfl)), lv_same ((f2 6913 rfl).trans (f1 6913 rfl)), iv_same ((f2 6915 rfl).trans (f1 6915 rfl)), ai_same ((g2 74 rfl).trans (g1 74 rfl))]
    exact hX
  · unfold TXw
    rw [iv_same ((f2 2400 rfl).trans (f1 2400 rfl)), ai_same ((g2 26 rfl).trans (g1 26 rfl)), iv_same ((f2 6917 rfl).trans (f1 6917 rfl)), ai_same ((g2 75 rfl).trans (g1 75 rfl))]
    exact hT
  · unfold SVw
    rw [lv_same ((f2 2706 rfl).trans (f1 2706 rfl)), iv_same ((f2 2707 rfl).trans (f1 2707 rfl)), iv_same ((f2 2708 rfl).trans (f1 2708 rfl)), iv_same ((f2 2802 rfl).trans (f1 2802 rfl)), iv_same ((f2 2803 rfl).trans (f1 2803 rfl)), ai_same ((g2 30 rfl).trans (g1 30 rfl)), ai_same ((g2 35 rfl).trans (g1 35 rfl)), al_same ((g2 38 rfl).trans (g1 38 rfl)), ai_same ((g2 44 rfl).trans (g1 44 rfl)), ai_same ((g2 57 rfl).trans (g1 57 rfl)), ai_same ((g2 59 rfl).trans (g1 59 rfl))]
    exact hV
  · unfold ENw
    rw [lv_same ((f2 2709 rfl).trans (f1 2709 rfl)), iv_same ((f2 2710 rfl).trans (f1 2710 rfl))]
    exact hE
  · unfold CEw
    rw [iv_same ((f2 2705 rfl).trans (f1 2705 rfl)), ai_same ((g2 67 rfl).trans (g1 67 rfl))]
    exact hC
theorem cw_image {F N : Nat} {q : Nat → Nat} {m0 : Nat → Value} {a0 : Nat → vp_A} (hF : 800000 ≤ F) (hI : INV F N q m0 a0)  {l : Launch} {D : va_G} {cy : Nat → ClassId} {sz : Nat} : ∃ (out : Int32) (Q : (Nat → Value) → (Nat → vp_A) → Prop), gMi l yX11_image cX11_image 1 (some .boolean) ({ frames := 0, cells := 0, slots := 0, locals := 0 } : Room) D cy N q m0 a0 sz [.ref (q 0)] (fun r m' a' => r = out ∧ Q m' a') ∧ ∀ (m1 : Nat → Value) (a1 : Nat → vp_A) (sz1 : Nat), Q m1 a1 → gMi l yX12_image cX12_image 2 (some .boolean) ({ frames := 0, cells := 0, slots := 0, locals := 0 } : Room) D cy N q m1 a1 sz1 [.ref (q 69)] (fun r m' a' => r = out ∧ INV F N q m' a') := by
  obtain ⟨hN, hsh, hty, hta, hod, kr, cap, lab, ack, cop, hst, hs, hD, hX, hT, hV, hE, hC⟩ := hI
  obtain ⟨⟨hkr, hgk, hrf⟩, ⟨b0, b1, b2, b3⟩, c0, c1, c2, c3⟩ := id hst
  have hb0 := hs.1
  have hb1 := hs.2.1
  have hb2 := hs.2.2.1
  have hb3 := hs.2.2.2
  obtain ⟨mk, km, kmq, A', e2, e1, hX'⟩ := image_call (cap := cap) hD.1 hD.2.1 hD.2.2.1 (iv m0 11) (lv m0 12) (iv m0 13) (iv m0 14) (iv m0 6912) (lv m0 6913) (iv m0 6915) (iv m0 6918) (ai a0 74) (F := F) (by omega)
  have k1 := kX11_image (m0 := m0) (a0 := a0) (q := q) (l := l) (D := D) (cy := cy) (sz := sz) (hN := hN) (hsh := hsh)  (h_x0_8 := hty.2 8 rfl) (h_x0_9 := hty.1 9 rfl) (h_x0_10 := hty.1 10 rfl) (h_x0_11 := hty.1 11 rfl) (h_x0_12 := hty.2 12 rfl) (h_x0_13 := hty.1 13 rfl) (h_x0_14 := hty.1 14 rfl)   (hs0 := e1)
  refine ⟨_, _, k1, ?_⟩
  intro m1 a1 sz1 hQ
  obtain ⟨p11, p12, p13, p14, f1, g1⟩ := hQ
  replace g1 : ∀ j, nel j [] = false → a1 j = a0 j := fun j _ => congrFun g1 j
  have d0 := (f1 6900 rfl).trans c0
  have d1 := (f1 6901 rfl).trans c1
  have d2 := (f1 6902 rfl).trans c2
  have d3 := (f1 6903 rfl).trans c3
  have hsh1 := hsh.off f1 rfl
  have k2 := kX12_image (m0 := m1) (a0 := a1) (q := q) (l := l) (D := D) (cy := cy) (sz := sz1) (hN := hN) (hsh := hsh1) (h_x69_4 := (f1 6904 rfl).trans (hty.2 6904 rfl)) (h_x69_6 := (f1 6906 rfl).trans (hty.1 6906 rfl)) (h_x69_12 := (f1 6912 rfl).trans (hty.1 6912 rfl)) (h_x69_13 := (f1 6913 rfl).trans (hty.2 6913 rfl)) (h_x69_15 := (f1 6915 rfl).trans (hty.1 6915 rfl)) (h_x69_18 := (f1 6918 rfl).trans (hty.1 6918 rfl)) (h_A70 := (g1 70 rfl).trans (hta.1 (70, 30) (by decide))) (h_A74 := (g1 74 rfl).trans (hta.1 (74, 30) (by decide))) (F := F)  (hs0 := e2)
  refine gMi_mono k2 (fun r m2 a2 h => ?_)
  obtain ⟨hr, p6912, p6913, p6915, p6918, f2, r74, g2⟩ := h
  refine ⟨hr, hN, hsh1.off f2 rfl, ?_, ?_, od_off (od_off hod f1 g1 rfl rfl rfl rfl) f2 g2 rfl rfl rfl rfl, kr, cap, lab, ack, cop, stw_off (stw_off hst f1 rfl rfl rfl rfl rfl rfl) f2 rfl rfl rfl rfl rfl rfl, hs, ?_, ?_, ?_, ?_, ?_, ?_⟩
  · have t1 : TYM m1 := (tym_off hty f1 (fun j hj => by
      simp only [List.mem_cons, List.not_mem_nil, or_false] at hj
      rcases hj with rfl | rfl | rfl | rfl
      · exact ⟨fun _ => ⟨_, p11⟩, fun z => absurd z (by decide)⟩
      · exact ⟨fun z => absurd z (by decide), fun _ => ⟨_, p12⟩⟩
      · exact ⟨fun _ => ⟨_, p13⟩, fun z => absurd z (by decide)⟩
      · exact ⟨fun _ => ⟨_, p14⟩, fun z => absurd z (by decide)⟩))
    exact (tym_off t1 f2 (fun j hj => by
      simp only [List.mem_cons, List.not_mem_nil, or_false] at hj
      rcases hj with rfl | rfl | rfl | rfl
      · exact ⟨fun _ => ⟨_, p6912⟩, fun z => absurd z (by decide)⟩
      · exact ⟨fun z => absurd z (by decide), fun _ => ⟨_, p6913⟩⟩
      · exact ⟨fun _ => ⟨_, p6915⟩, fun z => absurd z (by decide)⟩
      · exact ⟨fun _ => ⟨_, p6918⟩, fun z => absurd z (by decide)⟩))
  · have t1 : TYA a1 := (tya_off hta g1 (fun j hj => absurd hj List.not_mem_nil))
    exact (tya_off t1 g2 (fun j hj => by
      simp only [List.mem_cons, List.not_mem_nil, or_false] at hj
      rcases hj with rfl
      · exact ⟨fun n hn => ⟨_, arr_i (tlen_i hn (show (74, 30) ∈ aiT by decide)) r74⟩, fun n hn => absurd hn (tno_l 74 rfl n), fun n hn => absurd hn (tno_d 74 rfl n)⟩))
  · unfold DXw
    rw [lv_same ((f2 8 rfl).trans (f1 8 rfl)), iv_same ((f2 9 rfl).trans (f1 9 rfl)), iv_same ((f2 10 rfl).trans (f1 10 rfl)), iv_same ((f2 200 rfl).trans (f1 200 rfl)), lv_same ((f2 201 rfl).trans (f1 201 rfl)), iv_same ((f2 500 rfl).trans (f1 500 rfl)), lv_same ((f2 501 rfl).trans (f1 501 rfl)), ai_same ((g2 1 rfl).trans (g1 1 rfl)), lv_same ((f2 6904 rfl).trans (f1 6904 rfl)), iv_same ((f2 6906 rfl).trans (f1 6906 rfl)), iv_same ((f2 6909 rfl).trans (f1 6909 rfl)), iv_same ((f2 6911 rfl).trans (f1 6911 rfl)), ai_same ((g2 70 rfl).trans (g1 70 rfl)), ai_same ((g2 71 rfl).trans (g1 71 rfl)), ai_same ((g2 72 rfl).trans (g1 72 rfl)), ai_same ((g2 73 rfl).trans (g1 73 rfl))]
    exact hD
  · unfold IXw
    rw [iv_eq ((f2 11 rfl).trans p11), lv_eq ((f2 12 rfl).trans p12), iv_eq ((f2 13 rfl).trans p13), iv_eq ((f2 14 rfl).trans p14), iv_eq p6912, lv_eq p6913, iv_eq p6915, ai_eq r74]
    exact hX'
  · unfold TXw
    rw [iv_same ((f2 2400 rfl).trans (f1 2400 rfl)), ai_same ((g2 26 rfl).trans (g1 26 rfl)), iv_same ((f2 6917 rfl).trans (f1 6917 rfl)), ai_same ((g2 75 rfl).trans (g1 75 rfl))]
    exact hT
  · unfold SVw
    rw [lv_same ((f2 2706 rfl).trans (f1 2706 rfl)), iv_same ((f2 2707 rfl).trans (f1 2707 rfl)), iv_same ((f2 2708 rfl).trans (f1 2708 rfl)), iv_same ((f2 2802 rfl).trans (f1 2802 rfl)), iv_same ((f2 2803 rfl).trans (f1 2803 rfl)), ai_same ((g2 30 rfl).trans (g1 30 rfl)), ai_same ((g2 35 rfl).trans (g1 35 rfl)), al_same ((g2 38 rfl).trans (g1 38 rfl)), ai_same ((g2 44 rfl).trans (g1 44 rfl)), ai_same ((g2 57 rfl).trans (g1 57 rfl)), ai_same ((g2 59 rfl).trans (g1 59 rfl))]
    exact hV
  · unfold ENw
    rw [lv_same ((f2 2709 rfl).trans (f1 2709 rfl)), iv_same ((f2 2710 rfl).trans (f1 2710 rfl))]
    exact hE
  · unfold CEw
    rw [iv_same ((f2 2705 rfl).trans (f1 2705 rfl)), ai_same ((g2 67 rfl).trans (g1 67 rfl))]
    exact hC
theorem cw_back {F N : Nat} {q : Nat → Nat} {m0 : Nat → Value} {a0 : Nat → vp_A} (hF : 800000 ≤ F) (hI : INV F N q m0 a0)  {l : Launch} {D : va_G} {cy : Nat → ClassId} {sz : Nat} : ∃ (out : Int32) (Q : (Nat → Value) → (Nat → vp_A) → Prop), gMi l yX11_back cX11_back 1 (some .boolean) ({ frames := 0, cells := 0, slots := 0, locals := 0 } : Room) D cy N q m0 a0 sz [.ref (q 0)] (fun r m' a' => r = out ∧ Q m' a') ∧ ∀ (m1 : Nat → Value) (a1 : Nat → vp_A) (sz1 : Nat), Q m1 a1 → gMi l yX12_back cX12_back 2 (some .boolean) ({ frames := 0, cells := 0, slots := 0, locals := 0 } : Room) D cy N q m1 a1 sz1 [.ref (q 69)] (fun r m' a' => r = out ∧ INV F N q m' a') := by
  obtain ⟨hN, hsh, hty, hta, hod, kr, cap, lab, ack, cop, hst, hs, hD, hX, hT, hV, hE, hC⟩ := hI
  obtain ⟨⟨hkr, hgk, hrf⟩, ⟨b0, b1, b2, b3⟩, c0, c1, c2, c3⟩ := id hst
  have hb0 := hs.1
  have hb1 := hs.2.1
  have hb2 := hs.2.2.1
  have hb3 := hs.2.2.2
  obtain ⟨m', mq', A', e2, hS', hL', hQ'⟩ := back_call hD.1 hD.2.1 hD.2.2.1 hX (iv m0 6918) (F := F) (by omega)
  have k1 := kX11_back (m0 := m0) (a0 := a0) (q := q) (l := l) (D := D) (cy := cy) (sz := sz) (hN := hN) (hsh := hsh)  (h_x0_11 := hty.1 11 rfl) (h_x0_12 := hty.2 12 rfl) (h_x0_13 := hty.1 13 rfl) (h_x0_14 := hty.1 14 rfl) (h_x0_8 := hty.2 8 rfl) (h_x0_9 := hty.1 9 rfl) (h_x0_10 := hty.1 10 rfl)  
  refine ⟨_, _, k1, ?_⟩
  intro m1 a1 sz1 hQ
  obtain ⟨p8, p9, p10, f1, g1⟩ := hQ
  replace g1 : ∀ j, nel j [] = false → a1 j = a0 j := fun j _ => congrFun g1 j
  have d0 := (f1 6900 rfl).trans c0
  have d1 := (f1 6901 rfl).trans c1
  have d2 := (f1 6902 rfl).trans c2
  have d3 := (f1 6903 rfl).trans c3
  have hsh1 := hsh.off f1 rfl
  have k2 := kX12_back (m0 := m1) (a0 := a1) (q := q) (l := l) (D := D) (cy := cy) (sz := sz1) (hN := hN) (hsh := hsh1) (h_x69_12 := (f1 6912 rfl).trans (hty.1 6912 rfl)) (h_x69_13 := (f1 6913 rfl).trans (hty.2 6913 rfl)) (h_x69_15 := (f1 6915 rfl).trans (hty.1 6915 rfl)) (h_x69_4 := (f1 6904 rfl).trans (hty.2 6904 rfl)) (h_x69_6 := (f1 6906 rfl).trans (hty.1 6906 rfl)) (h_x69_18 := (f1 6918 rfl).trans (hty.1 6918 rfl)) (h_A74 := (g1 74 rfl).trans (hta.1 (74, 30) (by decide))) (h_A70 := (g1 70 rfl).trans (hta.1 (70, 30) (by decide))) (F := F)  (hs0 := e2)
  refine gMi_mono k2 (fun r m2 a2 h => ?_)
  obtain ⟨hr, p6904, p6906, p6918, f2, r70, g2⟩ := h
  refine ⟨hr, hN, hsh1.off f2 rfl, ?_, ?_, od_off (od_off hod f1 g1 rfl rfl rfl rfl) f2 g2 rfl rfl rfl rfl, kr, cap, lab, ack, cop, stw_off (stw_off hst f1 rfl rfl rfl rfl rfl rfl) f2 rfl rfl rfl rfl rfl rfl, hs, ?_, ?_, ?_, ?_, ?_, ?_⟩
  · have t1 : TYM m1 := (tym_off hty f1 (fun j hj => by
      simp only [List.mem_cons, List.not_mem_nil, or_false] at hj
      rcases hj with rfl | rfl | rfl
      · exact ⟨fun z => absurd z (by decide), fun _ => ⟨_, p8⟩⟩
      · exact ⟨fun _ => ⟨_, p9⟩, fun z => absurd z (by decide)⟩
      · exact ⟨fun _ => ⟨_, p10⟩, fun z => absurd z (by decide)⟩))
    exact (tym_off t1 f2 (fun j hj => by
      simp only [List.mem_cons, List.not_mem_nil, or_false] at hj
      rcases hj with rfl | rfl | rfl
      · exact ⟨fun z => absurd z (by decide), fun _ => ⟨_, p6904⟩⟩
      · exact ⟨fun _ => ⟨_, p6906⟩, fun z => absurd z (by decide)⟩
      · exact ⟨fun _ => ⟨_, p6918⟩, fun z => absurd z (by decide)⟩))
  · have t1 : TYA a1 := (tya_off hta g1 (fun j hj => absurd hj List.not_mem_nil))
    exact (tya_off t1 g2 (fun j hj => by
      simp only [List.mem_cons, List.not_mem_nil, or_false] at hj
      rcases hj with rfl
      · exact ⟨fun n hn => ⟨_, arr_i (tlen_i hn (show (70, 30) ∈ aiT by decide)) r70⟩, fun n hn => absurd hn (tno_l 70 rfl n), fun n hn => absurd hn (tno_d 70 rfl n)⟩))
  · unfold DXw
    rw [lv_eq ((f2 8 rfl).trans p8), iv_eq ((f2 9 rfl).trans p9), iv_eq ((f2 10 rfl).trans p10), iv_same ((f2 200 rfl).trans (f1 200 rfl)), lv_same ((f2 201 rfl).trans (f1 201 rfl)), iv_same ((f2 500 rfl).trans (f1 500 rfl)), lv_same ((f2 501 rfl).trans (f1 501 rfl)), ai_same ((g2 1 rfl).trans (g1 1 rfl)), lv_eq p6904, iv_eq p6906, iv_same ((f2 6909 rfl).trans (f1 6909 rfl)), iv_same ((f2 6911 rfl).trans (f1 6911 rfl)), ai_eq r70, ai_same ((g2 71 rfl).trans (g1 71 rfl)), ai_same ((g2 72 rfl).trans (g1 72 rfl)), ai_same ((g2 73 rfl).trans (g1 73 rfl))]
    exact ⟨hS', hL', hQ', hD.2.2.2⟩
  · unfold IXw
    rw [iv_same ((f2 11 rfl).trans (f1 11 rfl)), lv_same ((f2 12 rfl).trans (f1 12 rfl)), iv_same ((f2 13 rfl).trans (f1 13 rfl)), iv_same ((f2 14 rfl).trans (f1 14 rfl)), iv_same ((f2 6912 rfl).trans (f1 6912 rfl)), lv_same ((f2 6913 rfl).trans (f1 6913 rfl)), iv_same ((f2 6915 rfl).trans (f1 6915 rfl)), ai_same ((g2 74 rfl).trans (g1 74 rfl))]
    exact hX
  · unfold TXw
    rw [iv_same ((f2 2400 rfl).trans (f1 2400 rfl)), ai_same ((g2 26 rfl).trans (g1 26 rfl)), iv_same ((f2 6917 rfl).trans (f1 6917 rfl)), ai_same ((g2 75 rfl).trans (g1 75 rfl))]
    exact hT
  · unfold SVw
    rw [lv_same ((f2 2706 rfl).trans (f1 2706 rfl)), iv_same ((f2 2707 rfl).trans (f1 2707 rfl)), iv_same ((f2 2708 rfl).trans (f1 2708 rfl)), iv_same ((f2 2802 rfl).trans (f1 2802 rfl)), iv_same ((f2 2803 rfl).trans (f1 2803 rfl)), ai_same ((g2 30 rfl).trans (g1 30 rfl)), ai_same ((g2 35 rfl).trans (g1 35 rfl)), al_same ((g2 38 rfl).trans (g1 38 rfl)), ai_same ((g2 44 rfl).trans (g1 44 rfl)), ai_same ((g2 57 rfl).trans (g1 57 rfl)), ai_same ((g2 59 rfl).trans (g1 59 rfl))]
    exact hV
  · unfold ENw
    rw [lv_same ((f2 2709 rfl).trans (f1 2709 rfl)), iv_same ((f2 2710 rfl).trans (f1 2710 rfl))]
    exact hE
  · unfold CEw
    rw [iv_same ((f2 2705 rfl).trans (f1 2705 rfl)), ai_same ((g2 67 rfl).trans (g1 67 rfl))]
    exact hC
theorem cw_end {F N : Nat} {q : Nat → Nat} {m0 : Nat → Value} {a0 : Nat → vp_A} (hF : 800000 ≤ F) (hI : INV F N q m0 a0) (p1 : Int32) {l : Launch} {D : va_G} {cy : Nat → ClassId} {sz : Nat} : ∃ (out : Int32) (Q : (Nat → Value) → (Nat → vp_A) → Prop), gMi l yX11_end cX11_end 2 (some .int) ({ frames := 0, cells := 0, slots := 0, locals := 0 } : Room) D cy N q m0 a0 sz [.ref (q 0), .int p1] (fun r m' a' => r = out ∧ Q m' a') ∧ ∀ (m1 : Nat → Value) (a1 : Nat → vp_A) (sz1 : Nat), Q m1 a1 → gMi l yX12_end cX12_end 2 (some .int) ({ frames := 1, cells := 0, slots := 0, locals := 22 } : Room) D cy N q m1 a1 sz1 [.ref (q 69), .int p1] (fun r m' a' => r = out ∧ INV F N q m' a') := by
  obtain ⟨hN, hsh, hty, hta, hod, kr, cap, lab, ack, cop, hst, hs, hD, hX, hT, hV, hE, hC⟩ := hI
  obtain ⟨⟨hkr, hgk, hrf⟩, ⟨b0, b1, b2, b3⟩, c0, c1, c2, c3⟩ := id hst
  have hb0 := hs.1
  have hb1 := hs.2.1
  have hb2 := hs.2.2.1
  have hb3 := hs.2.2.2
  obtain ⟨ml', ee, hT'⟩ := end_call hT (iv m0 6918) p1
  have k1 := kX11_end (m0 := m0) (a0 := a0) (q := q) (l := l) (D := D) (cy := cy) (sz := sz) (hN := hN) (hsh := hsh)  (h_x24_0 := hty.1 2400 rfl)  (p1 := p1)
  refine ⟨_, _, k1, ?_⟩
  intro m1 a1 sz1 hQ
  obtain ⟨p2400, f1, g1⟩ := hQ
  replace g1 : ∀ j, nel j [] = false → a1 j = a0 j := fun j _ => congrFun g1 j
  have d0 := (f1 6900 rfl).trans c0
  have d1 := (f1 6901 rfl).trans c1
  have d2 := (f1 6902 rfl).trans c2
  have d3 := (f1 6903 rfl).trans c3
  have hsh1 := hsh.off f1 rfl
  have k2 := kX12_end (m0 := m1) (a0 := a1) (q := q) (l := l) (D := D) (cy := cy) (sz := sz1) (hN := hN) (hsh := hsh1) (h_x69_17 := (f1 6917 rfl).trans (hty.1 6917 rfl)) (h_x69_18 := (f1 6918 rfl).trans (hty.1 6918 rfl))  (p1 := p1)
  refine gMi_mono k2 (fun r m2 a2 h => ?_)
  obtain ⟨hr, p6917, p6918, f2, g2⟩ := h
  replace g2 : ∀ j, nel j [] = false → a2 j = a1 j := fun j _ => congrFun g2 j
  refine ⟨hr.trans (congrArg Prod.fst ee), hN, hsh1.off f2 rfl, ?_, ?_, od_off (od_off hod f1 g1 rfl rfl rfl rfl) f2 g2 rfl rfl rfl rfl, kr, cap, lab, ack, cop, stw_off (stw_off hst f1 rfl rfl rfl rfl rfl rfl) f2 rfl rfl rfl rfl rfl rfl, hs, ?_, ?_, ?_, ?_, ?_, ?_⟩
  · have t1 : TYM m1 := (tym_off hty f1 (fun j hj => by
      simp only [List.mem_cons, List.not_mem_nil, or_false] at hj
      rcases hj with rfl
      · exact ⟨fun _ => ⟨_, p2400⟩, fun z => absurd z (by decide)⟩))
    exact (tym_off t1 f2 (fun j hj => by
      simp only [List.mem_cons, List.not_mem_nil, or_false] at hj
      rcases hj with rfl | rfl
      · exact ⟨fun _ => ⟨_, p6917⟩, fun z => absurd z (by decide)⟩
      · exact ⟨fun _ => ⟨_, p6918⟩, fun z => absurd z (by decide)⟩))
  · have t1 : TYA a1 := (tya_off hta g1 (fun j hj => absurd hj List.not_mem_nil))
    exact (tya_off t1 g2 (fun j hj => absurd hj List.not_mem_nil))
  · unfold DXw
    rw [lv_same ((f2 8 rfl).trans (f1 8 rfl)), iv_same ((f2 9 rfl).trans (f1 9 rfl)), iv_same ((f2 10 rfl).trans (f1 10 rfl)), iv_same ((f2 200 rfl).trans (f1 200 rfl)), lv_same ((f2 201 rfl).trans (f1 201 rfl)), iv_same ((f2 500 rfl).trans (f1 500 rfl)), lv_same ((f2 501 rfl).trans (f1 501 rfl)), ai_same ((g2 1 rfl).trans (g1 1 rfl)), lv_same ((f2 6904 rfl).trans (f1 6904 rfl)), iv_same ((f2 6906 rfl).trans (f1 6906 rfl)), iv_same ((f2 6909 rfl).trans (f1 6909 rfl)), iv_same ((f2 6911 rfl).trans (f1 6911 rfl)), ai_same ((g2 70 rfl).trans (g1 70 rfl)), ai_same ((g2 71 rfl).trans (g1 71 rfl)), ai_same ((g2 72 rfl).trans (g1 72 rfl)), ai_same ((g2 73 rfl).trans (g1 73 rfl))]
    exact hD
  · unfold IXw
    rw [iv_same ((f2 11 rfl).trans (f1 11 rfl)), lv_same ((f2 12 rfl).trans (f1 12 rfl)), iv_same ((f2 13 rfl).trans (f1 13 rfl)), iv_same ((f2 14 rfl).trans (f1 14 rfl)), iv_same ((f2 6912 rfl).trans (f1 6912 rfl)), lv_same ((f2 6913 rfl).trans (f1 6913 rfl)), iv_same ((f2 6915 rfl).trans (f1 6915 rfl)), ai_same ((g2 74 rfl).trans (g1 74 rfl))]
    exact hX
  · unfold TXw
    rw [iv_eq ((f2 2400 rfl).trans p2400), ai_same ((g2 26 rfl).trans (g1 26 rfl)), iv_eq p6917, ai_same ((g2 75 rfl).trans (g1 75 rfl))]
    exact by rw [ee]; exact hT'
  · unfold SVw
    rw [lv_same ((f2 2706 rfl).trans (f1 2706 rfl)), iv_same ((f2 2707 rfl).trans (f1 2707 rfl)), iv_same ((f2 2708 rfl).trans (f1 2708 rfl)), iv_same ((f2 2802 rfl).trans (f1 2802 rfl)), iv_same ((f2 2803 rfl).trans (f1 2803 rfl)), ai_same ((g2 30 rfl).trans (g1 30 rfl)), ai_same ((g2 35 rfl).trans (g1 35 rfl)), al_same ((g2 38 rfl).trans (g1 38 rfl)), ai_same ((g2 44 rfl).trans (g1 44 rfl)), ai_same ((g2 57 rfl).trans (g1 57 rfl)), ai_same ((g2 59 rfl).trans (g1 59 rfl))]
    exact hV
  · unfold ENw
    rw [lv_same ((f2 2709 rfl).trans (f1 2709 rfl)), iv_same ((f2 2710 rfl).trans (f1 2710 rfl))]
    exact hE
  · unfold CEw
    rw [iv_same ((f2 2705 rfl).trans (f1 2705 rfl)), ai_same ((g2 67 rfl).trans (g1 67 rfl))]
    exact hC
theorem cw_feed {F N : Nat} {q : Nat → Nat} {m0 : Nat → Value} {a0 : Nat → vp_A} (hF : 800000 ≤ F) (hI : INV F N q m0 a0) (p1 : Int64) (p3 : Int64) (p5 : Int64) {l : Launch} {D : va_G} {cy : Nat → ClassId} {sz : Nat} : ∃ (out : Int32) (Q : (Nat → Value) → (Nat → vp_A) → Prop), gMi l yX11_feed cX11_feed 7 (some .int) ({ frames := 2, cells := 0, slots := 0, locals := 45 } : Room) D cy N q m0 a0 sz [.ref (q 0), .long p1, .long p3, .long p5] (fun r m' a' => r = out ∧ Q m' a') ∧ ∀ (m1 : Nat → Value) (a1 : Nat → vp_A) (sz1 : Nat), Q m1 a1 → gMi l yX12_feed cX12_feed 7 (some .int) ({ frames := 1, cells := 0, slots := 0, locals := 23 } : Room) D cy N q m1 a1 sz1 [.ref (q 69), .long p1, .long p3, .long p5] (fun r m' a' => r = out ∧ INV F N q m' a') := by
  obtain ⟨hN, hsh, hty, hta, hod, kr, cap, lab, ack, cop, hst, hs, hD, hX, hT, hV, hE, hC⟩ := hI
  obtain ⟨⟨hkr, hgk, hrf⟩, ⟨b0, b1, b2, b3⟩, c0, c1, c2, c3⟩ := id hst
  have hb0 := hs.1
  have hb1 := hs.2.1
  have hb2 := hs.2.2.1
  have hb3 := hs.2.2.2
  obtain ⟨r0, tl', A', ml', B', e1, e2, hT'⟩ := feed_call hT (iv m0 6918) p1 p3 p5 (F := F) (by omega)
  have k1 := kX11_feed (m0 := m0) (a0 := a0) (q := q) (l := l) (D := D) (cy := cy) (sz := sz) (hN := hN) (hsh := hsh)  (h_x24_0 := hty.1 2400 rfl) (h_A26 := hta.1 (26, 264) (by decide)) (F := F) (p1 := p1) (p3 := p3) (p5 := p5) (hs0 := e1)
  refine ⟨_, _, k1, ?_⟩
  intro m1 a1 sz1 hQ
  obtain ⟨p2400, f1, r26, g1⟩ := hQ
  have d0 := (f1 6900 rfl).trans c0
  have d1 := (f1 6901 rfl).trans c1
  have d2 := (f1 6902 rfl).trans c2
  have d3 := (f1 6903 rfl).trans c3
  have hsh1 := hsh.off f1 rfl
  have k2 := kX12_feed (m0 := m1) (a0 := a1) (q := q) (l := l) (D := D) (cy := cy) (sz := sz1) (hN := hN) (hsh := hsh1) (h_x69_17 := (f1 6917 rfl).trans (hty.1 6917 rfl)) (h_x69_18 := (f1 6918 rfl).trans (hty.1 6918 rfl)) (h_A75 := (g1 75 rfl).trans (hta.1 (75, 264) (by decide))) (F := F) (p1 := p1) (p3 := p3) (p5 := p5) (hs0 := e2)
  refine gMi_mono k2 (fun r m2 a2 h => ?_)
  obtain ⟨hr, p6917, p6918, f2, r75, g2⟩ := h
  refine ⟨hr, hN, hsh1.off f2 rfl, ?_, ?_, od_off (od_off hod f1 g1 rfl rfl rfl rfl) f2 g2 rfl rfl rfl rfl, kr, cap, lab, ack, cop, stw_off (stw_off hst f1 rfl rfl rfl rfl rfl rfl) f2 rfl rfl rfl rfl rfl rfl, hs, ?_, ?_, ?_, ?_, ?_, ?_⟩
  · have t1 : TYM m1 := (tym_off hty f1 (fun j hj => by
      simp only [List.mem_cons, List.not_mem_nil, or_false] at hj
      rcases hj with rfl
      · exact ⟨fun _ => ⟨_, p2400⟩, fun z => absurd z (by decide)⟩))
    exact (tym_off t1 f2 (fun j hj => by
      simp only [List.mem_cons, List.not_mem_nil, or_false] at hj
      rcases hj with rfl | rfl
      · exact ⟨fun _ => ⟨_, p6917⟩, fun z => absurd z (by decide)⟩
      · exact ⟨fun _ => ⟨_, p6918⟩, fun z => absurd z (by decide)⟩))
  · have t1 : TYA a1 := (tya_off hta g1 (fun j hj => by
      simp only [List.mem_cons, List.not_mem_nil, or_false] at hj
      rcases hj with rfl
      · exact ⟨fun n hn => ⟨_, arr_i (tlen_i hn (show (26, 264) ∈ aiT by decide)) r26⟩, fun n hn => absurd hn (tno_l 26 rfl n), fun n hn => absurd hn (tno_d 26 rfl n)⟩))
    exact (tya_off t1 g2 (fun j hj => by
      simp only [List.mem_cons, List.not_mem_nil, or_false] at hj
      rcases hj with rfl
      · exact ⟨fun n hn => ⟨_, arr_i (tlen_i hn (show (75, 264) ∈ aiT by decide)) r75⟩, fun n hn => absurd hn (tno_l 75 rfl n), fun n hn => absurd hn (tno_d 75 rfl n)⟩))
  · unfold DXw
    rw [lv_same ((f2 8 rfl).trans (f1 8 rfl)), iv_same ((f2 9 rfl).trans (f1 9 rfl)), iv_same ((f2 10 rfl).trans (f1 10 rfl)), iv_same ((f2 200 rfl).trans (f1 200 rfl)), lv_same ((f2 201 rfl).trans (f1 201 rfl)), iv_same ((f2 500 rfl).trans (f1 500 rfl)), lv_same ((f2 501 rfl).trans (f1 501 rfl)), ai_same ((g2 1 rfl).trans (g1 1 rfl)), lv_same ((f2 6904 rfl).trans (f1 6904 rfl)), iv_same ((f2 6906 rfl).trans (f1 6906 rfl)), iv_same ((f2 6909 rfl).trans (f1 6909 rfl)), iv_same ((f2 6911 rfl).trans (f1 6911 rfl)), ai_same ((g2 70 rfl).trans (g1 70 rfl)), ai_same ((g2 71 rfl).trans (g1 71 rfl)), ai_same ((g2 72 rfl).trans (g1 72 rfl)), ai_same ((g2 73 rfl).trans (g1 73 rfl))]
    exact hD
  · unfold IXw
    rw [iv_same ((f2 11 rfl).trans (f1 11 rfl)), lv_same ((f2 12 rfl).trans (f1 12 rfl)), iv_same ((f2 13 rfl).trans (f1 13 rfl)), iv_same ((f2 14 rfl).trans (f1 14 rfl)), iv_same ((f2 6912 rfl).trans (f1 6912 rfl)), lv_same ((f2 6913 rfl).trans (f1 6913 rfl)), iv_same ((f2 6915 rfl).trans (f1 6915 rfl)), ai_same ((g2 74 rfl).trans (g1 74 rfl))]
    exact hX
  · unfold TXw
    rw [iv_eq ((f2 2400 rfl).trans p2400), ai_eq ((g2 26 rfl).trans r26), iv_eq p6917, ai_eq r75]
    exact hT'
  · unfold SVw
    rw [lv_same ((f2 2706 rfl).trans (f1 2706 rfl)), iv_same ((f2 2707 rfl).trans (f1 2707 rfl)), iv_same ((f2 2708 rfl).trans (f1 2708 rfl)), iv_same ((f2 2802 rfl).trans (f1 2802 rfl)), iv_same ((f2 2803 rfl).trans (f1 2803 rfl)), ai_same ((g2 30 rfl).trans (g1 30 rfl)), ai_same ((g2 35 rfl).trans (g1 35 rfl)), al_same ((g2 38 rfl).trans (g1 38 rfl)), ai_same ((g2 44 rfl).trans (g1 44 rfl)), ai_same ((g2 57 rfl).trans (g1 57 rfl)), ai_same ((g2 59 rfl).trans (g1 59 rfl))]
    exact hV
  · unfold ENw
    rw [lv_same ((f2 2709 rfl).trans (f1 2709 rfl)), iv_same ((f2 2710 rfl).trans (f1 2710 rfl))]
    exact hE
  · unfold CEw
    rw [iv_same ((f2 2705 rfl).trans (f1 2705 rfl)), ai_same ((g2 67 rfl).trans (g1 67 rfl))]
    exact hC
theorem cw_reached {F N : Nat} {q : Nat → Nat} {m0 : Nat → Value} {a0 : Nat → vp_A} (hF : 800000 ≤ F) (hI : INV F N q m0 a0)  {l : Launch} {D : va_G} {cy : Nat → ClassId} {sz : Nat} : ∃ (out : Int32) (Q : (Nat → Value) → (Nat → vp_A) → Prop), gMi l yX11_reached cX11_reached 1 (some .int) ({ frames := 7, cells := 0, slots := 0, locals := 170 } : Room) D cy N q m0 a0 sz [.ref (q 0)] (fun r m' a' => r = out ∧ Q m' a') ∧ ∀ (m1 : Nat → Value) (a1 : Nat → vp_A) (sz1 : Nat), Q m1 a1 → gMi l yX12_reached cX12_reached 1 (some .int) ({ frames := 8, cells := 0, slots := 0, locals := 188 } : Room) D cy N q m1 a1 sz1 [.ref (q 69)] (fun r m' a' => r = out ∧ INV F N q m' a') := by
  obtain ⟨hN, hsh, hty, hta, hod, kr, cap, lab, ack, cop, hst, hs, hD, hX, hT, hV, hE, hC⟩ := hI
  obtain ⟨⟨hkr, hgk, hrf⟩, ⟨b0, b1, b2, b3⟩, c0, c1, c2, c3⟩ := id hst
  have hb0 := hs.1
  have hb1 := hs.2.1
  have hb2 := hs.2.2.1
  have hb3 := hs.2.2.2
  have hc : Good cap (lv m0 8) := ⟨hD.2.1, _, hD.1⟩
  obtain ⟨out, me', ra', size', known', y311, y312, B30, B33, B35, B37, B38, rr, e1, e2, hV'⟩ := reached_call hs hc hD.1 (show 70000 ≤ F by omega) hV (iv m0 3101) (iv m0 3102) (ai a0 33) (ai a0 37) (iv m0 6918) (lv m0 6919) (iv m0 6920) (iv m0 6921) (iv m0 6922) (iv m0 6927) (iv m0 6935) (ai a0 76) (ai a0 77) (ai a0 78) (al a0 79) (ai a0 80) (ai a0 81) (ai a0 82) (ai a0 83) (ai a0 84) (ai a0 85) (ai a0 86)
  have k1 := kX11_reached (m0 := m0) (a0 := a0) (q := q) (l := l) (D := D) (cy := cy) (sz := sz) (hN := hN) (hsh := hsh) (hkr := hkr) (hgk := hgk) (hrf := hrf) (h_x0_8 := hty.2 8 rfl) (h_xkr_0 := b0) (h_xkr_1 := b1) (h_xkr_2 := b2) (h_xkr_3 := b3) (h_x27_6 := hty.2 2706 rfl) (h_x27_7 := hty.1 2707 rfl) (h_x27_8 := hty.1 2708 rfl) (h_x28_2 := hty.1 2802 rfl) (h_x28_3 := hty.1 2803 rfl) (h_x31_1 := hty.1 3101 rfl) (h_x31_2 := hty.1 3102 rfl) (h_A30 := hta.1 (30, 6001) (by decide)) (h_A33 := hta.1 (33, 10) (by decide)) (h_A35 := hta.1 (35, 60000) (by decide)) (h_A37 := hta.1 (37, 16384) (by decide)) (h_A38 := hta.2.1 (38, 6000) (by decide)) (F := F)  (hs0 := e1)
  refine ⟨_, _, k1, ?_⟩
  intro m1 a1 sz1 hQ
  obtain ⟨p2706, p2707, p2708, p2802, p2803, p3101, p3102, f1, r30, r33, r35, r37, r38, g1⟩ := hQ
  have d0 := (f1 6900 rfl).trans c0
  have d1 := (f1 6901 rfl).trans c1
  have d2 := (f1 6902 rfl).trans c2
  have d3 := (f1 6903 rfl).trans c3
  have hsh1 := hsh.off f1 rfl
  have k2 := kX12_reached (m0 := m1) (a0 := a1) (q := q) (l := l) (D := D) (cy := cy) (sz := sz1) (hN := hN) (hsh := hsh1) (h_x69_0 := d0) (h_x69_1 := d1) (h_x69_2 := d2) (h_x69_3 := d3) (h_x69_4 := (f1 6904 rfl).trans (hty.2 6904 rfl)) (h_x69_18 := (f1 6918 rfl).trans (hty.1 6918 rfl)) (h_x69_19 := (f1 6919 rfl).trans (hty.2 6919 rfl)) (h_x69_20 := (f1 6920 rfl).trans (hty.1 6920 rfl)) (h_x69_21 := (f1 6921 rfl).trans (hty.1 6921 rfl)) (h_x69_22 := (f1 6922 rfl).trans (hty.1 6922 rfl)) (h_x69_27 := (f1 6927 rfl).trans (hty.1 6927 rfl)) (h_x69_35 := (f1 6935 rfl).trans (hty.1 6935 rfl)) (h_A76 := (g1 76 rfl).trans (hta.1 (76, 40) (by decide))) (h_A77 := (g1 77 rfl).trans (hta.1 (77, 40) (by decide))) (h_A78 := (g1 78 rfl).trans (hta.1 (78, 40) (by decide))) (h_A79 := (g1 79 rfl).trans (hta.2.1 (79, 6001) (by decide))) (h_A80 := (g1 80 rfl).trans (hta.1 (80, 16384) (by decide))) (h_A81 := (g1 81 rfl).trans (hta.1 (81, 6002) (by decide))) (h_A82 := (g1 82 rfl).trans (hta.1 (82, 84000) (by decide))) (h_A83 := (g1 83 rfl).trans (hta.1 (83, 84000) (by decide))) (h_A84 := (g1 84 rfl).trans (hta.1 (84, 84000) (by decide))) (h_A85 := (g1 85 rfl).trans (hta.1 (85, 84000) (by decide))) (h_A86 := (g1 86 rfl).trans (hta.1 (86, 84000) (by decide))) (F := F)  (hs0 := e2)
  refine gMi_mono k2 (fun r m2 a2 h => ?_)
  obtain ⟨hr, p6918, p6919, p6920, p6921, p6922, p6927, p6935, f2, r76, r77, r78, r79, r80, r81, r82, r83, r84, r85, r86, g2⟩ := h
  refine ⟨hr, hN, hsh1.off f2 rfl, ?_, ?_, od_off (od_off hod f1 g1 rfl rfl rfl rfl) f2 g2 rfl rfl rfl rfl, kr, cap, lab, ack, cop, stw_off (stw_off hst f1 rfl rfl rfl rfl rfl rfl) f2 rfl rfl rfl rfl rfl rfl, hs, ?_, ?_, ?_, ?_, ?_, ?_⟩
  · have t1 : TYM m1 := (tym_off hty f1 (fun j hj => by
      simp only [List.mem_cons, List.not_mem_nil, or_false] at hj
      rcases hj with rfl | rfl | rfl | rfl | rfl | rfl | rfl
      · exact ⟨fun z => absurd z (by decide), fun _ => ⟨_, p2706⟩⟩
      · exact ⟨fun _ => ⟨_, p2707⟩, fun z => absurd z (by decide)⟩
      · exact ⟨fun _ => ⟨_, p2708⟩, fun z => absurd z (by decide)⟩
      · exact ⟨fun _ => ⟨_, p2802⟩, fun z => absurd z (by decide)⟩
      · exact ⟨fun _ => ⟨_, p2803⟩, fun z => absurd z (by decide)⟩
      · exact ⟨fun _ => ⟨_, p3101⟩, fun z => absurd z (by decide)⟩
      · exact ⟨fun _ => ⟨_, p3102⟩, fun z => absurd z (by decide)⟩))
    exact (tym_off t1 f2 (fun j hj => by
      simp only [List.mem_cons, List.not_mem_nil, or_false] at hj
      rcases hj with rfl | rfl | rfl | rfl | rfl | rfl | rfl
      · exact ⟨fun _ => ⟨_, p6918⟩, fun z => absurd z (by decide)⟩
      · exact ⟨fun z => absurd z (by decide), fun _ => ⟨_, p6919⟩⟩
      · exact ⟨fun _ => ⟨_, p6920⟩, fun z => absurd z (by decide)⟩
      · exact ⟨fun _ => ⟨_, p6921⟩, fun z => absurd z (by decide)⟩
      · exact ⟨fun _ => ⟨_, p6922⟩, fun z => absurd z (by decide)⟩
      · exact ⟨fun _ => ⟨_, p6927⟩, fun z => absurd z (by decide)⟩
      · exact ⟨fun _ => ⟨_, p6935⟩, fun z => absurd z (by decide)⟩))
  · have t1 : TYA a1 := (tya_off hta g1 (fun j hj => by
      simp only [List.mem_cons, List.not_mem_nil, or_false] at hj
      rcases hj with rfl | rfl | rfl | rfl | rfl
      · exact ⟨fun n hn => ⟨_, arr_i (tlen_i hn (show (30, 6001) ∈ aiT by decide)) r30⟩, fun n hn => absurd hn (tno_l 30 rfl n), fun n hn => absurd hn (tno_d 30 rfl n)⟩
      · exact ⟨fun n hn => ⟨_, arr_i (tlen_i hn (show (33, 10) ∈ aiT by decide)) r33⟩, fun n hn => absurd hn (tno_l 33 rfl n), fun n hn => absurd hn (tno_d 33 rfl n)⟩
      · exact ⟨fun n hn => ⟨_, arr_i (tlen_i hn (show (35, 60000) ∈ aiT by decide)) r35⟩, fun n hn => absurd hn (tno_l 35 rfl n), fun n hn => absurd hn (tno_d 35 rfl n)⟩
      · exact ⟨fun n hn => ⟨_, arr_i (tlen_i hn (show (37, 16384) ∈ aiT by decide)) r37⟩, fun n hn => absurd hn (tno_l 37 rfl n), fun n hn => absurd hn (tno_d 37 rfl n)⟩
      · exact ⟨fun n hn => absurd hn (tno_i 38 rfl n), fun n hn => ⟨_, arr_l (tlen_l hn (show (38, 6000) ∈ alT by decide)) r38⟩, fun n hn => absurd hn (tno_d 38 rfl n)⟩))
    exact (tya_off t1 g2 (fun j hj => by
      simp only [List.mem_cons, List.not_mem_nil, or_false] at hj
      rcases hj with rfl | rfl | rfl | rfl | rfl | rfl | rfl | rfl | rfl | rfl | rfl
      · exact ⟨fun n hn => ⟨_, arr_i (tlen_i hn (show (76, 40) ∈ aiT by decide)) r76⟩, fun n hn => absurd hn (tno_l 76 rfl n), fun n hn => absurd hn (tno_d 76 rfl n)⟩
      · exact ⟨fun n hn => ⟨_, arr_i (tlen_i hn (show (77, 40) ∈ aiT by decide)) r77⟩, fun n hn => absurd hn (tno_l 77 rfl n), fun n hn => absurd hn (tno_d 77 rfl n)⟩
      · exact ⟨fun n hn => ⟨_, arr_i (tlen_i hn (show (78, 40) ∈ aiT by decide)) r78⟩, fun n hn => absurd hn (tno_l 78 rfl n), fun n hn => absurd hn (tno_d 78 rfl n)⟩
      · exact ⟨fun n hn => absurd hn (tno_i 79 rfl n), fun n hn => ⟨_, arr_l (tlen_l hn (show (79, 6001) ∈ alT by decide)) r79⟩, fun n hn => absurd hn (tno_d 79 rfl n)⟩
      · exact ⟨fun n hn => ⟨_, arr_i (tlen_i hn (show (80, 16384) ∈ aiT by decide)) r80⟩, fun n hn => absurd hn (tno_l 80 rfl n), fun n hn => absurd hn (tno_d 80 rfl n)⟩
      · exact ⟨fun n hn => ⟨_, arr_i (tlen_i hn (show (81, 6002) ∈ aiT by decide)) r81⟩, fun n hn => absurd hn (tno_l 81 rfl n), fun n hn => absurd hn (tno_d 81 rfl n)⟩
      · exact ⟨fun n hn => ⟨_, arr_i (tlen_i hn (show (82, 84000) ∈ aiT by decide)) r82⟩, fun n hn => absurd hn (tno_l 82 rfl n), fun n hn => absurd hn (tno_d 82 rfl n)⟩
      · exact ⟨fun n hn => ⟨_, arr_i (tlen_i hn (show (83, 84000) ∈ aiT by decide)) r83⟩, fun n hn => absurd hn (tno_l 83 rfl n), fun n hn => absurd hn (tno_d 83 rfl n)⟩
      · exact ⟨fun n hn => ⟨_, arr_i (tlen_i hn (show (84, 84000) ∈ aiT by decide)) r84⟩, fun n hn => absurd hn (tno_l 84 rfl n), fun n hn => absurd hn (tno_d 84 rfl n)⟩
      · exact ⟨fun n hn => ⟨_, arr_i (tlen_i hn (show (85, 84000) ∈ aiT by decide)) r85⟩, fun n hn => absurd hn (tno_l 85 rfl n), fun n hn => absurd hn (tno_d 85 rfl n)⟩
      · exact ⟨fun n hn => ⟨_, arr_i (tlen_i hn (show (86, 84000) ∈ aiT by decide)) r86⟩, fun n hn => absurd hn (tno_l 86 rfl n), fun n hn => absurd hn (tno_d 86 rfl n)⟩))
  · unfold DXw
    rw [lv_same ((f2 8 rfl).trans (f1 8 rfl)), iv_same ((f2 9 rfl).trans (f1 9 rfl)), iv_same ((f2 10 rfl).trans (f1 10 rfl)), iv_same ((f2 200 rfl).trans (f1 200 rfl)), lv_same ((f2 201 rfl).trans (f1 201 rfl)), iv_same ((f2 500 rfl).trans (f1 500 rfl)), lv_same ((f2 501 rfl).trans (f1 501 rfl)), ai_same ((g2 1 rfl).trans (g1 1 rfl)), lv_same ((f2 6904 rfl).trans (f1 6904 rfl)), iv_same ((f2 6906 rfl).trans (f1 6906 rfl)), iv_same ((f2 6909 rfl).trans (f1 6909 rfl)), iv_same ((f2 6911 rfl).trans (f1 6911 rfl)), ai_same ((g2 70 rfl).trans (g1 70 rfl)), ai_same ((g2 71 rfl).trans (g1 71 rfl)), ai_same ((g2 72 rfl).trans (g1 72 rfl)), ai_same ((g2 73 rfl).trans (g1 73 rfl))]
    exact hD
  · unfold IXw
    rw [iv_same ((f2 11 rfl).trans (f1 11 rfl)), lv_same ((f2 12 rfl).trans (f1 12 rfl)), iv_same ((f2 13 rfl).trans (f1 13 rfl)), iv_same ((f2 14 rfl).trans (f1 14 rfl)), iv_same ((f2 6912 rfl).trans (f1 6912 rfl)), lv_same ((f2 6913 rfl).trans (f1 6913 rfl)), iv_same ((f2 6915 rfl).trans (f1 6915 rfl)), ai_same ((g2 74 rfl).trans (g1 74 rfl))]
    exact hX
  · unfold TXw
    rw [iv_same ((f2 2400 rfl).trans (f1 2400 rfl)), ai_same ((g2 26 rfl).trans (g1 26 rfl)), iv_same ((f2 6917 rfl).trans (f1 6917 rfl)), ai_same ((g2 75 rfl).trans (g1 75 rfl))]
    exact hT
  · unfold SVw
    rw [lv_eq ((f2 2706 rfl).trans p2706), iv_eq ((f2 2707 rfl).trans p2707), iv_eq ((f2 2708 rfl).trans p2708), iv_eq ((f2 2802 rfl).trans p2802), iv_eq ((f2 2803 rfl).trans p2803), ai_eq ((g2 30 rfl).trans r30), ai_eq ((g2 35 rfl).trans r35), al_eq ((g2 38 rfl).trans r38), ai_same ((g2 44 rfl).trans (g1 44 rfl)), ai_same ((g2 57 rfl).trans (g1 57 rfl)), ai_same ((g2 59 rfl).trans (g1 59 rfl))]
    exact Or.inr hV'
  · unfold ENw
    rw [lv_same ((f2 2709 rfl).trans (f1 2709 rfl)), iv_same ((f2 2710 rfl).trans (f1 2710 rfl))]
    exact hE
  · unfold CEw
    rw [iv_same ((f2 2705 rfl).trans (f1 2705 rfl)), ai_same ((g2 67 rfl).trans (g1 67 rfl))]
    exact hC
theorem cw_soonest {F N : Nat} {q : Nat → Nat} {m0 : Nat → Value} {a0 : Nat → vp_A} (hF : 800000 ≤ F) (hI : INV F N q m0 a0)  {l : Launch} {D : va_G} {cy : Nat → ClassId} {sz : Nat} : ∃ (out : Int32) (Q : (Nat → Value) → (Nat → vp_A) → Prop), gMi l yX11_soonest cX11_soonest 1 (some .int) ({ frames := 7, cells := 0, slots := 0, locals := 170 } : Room) D cy N q m0 a0 sz [.ref (q 0)] (fun r m' a' => r = out ∧ Q m' a') ∧ ∀ (m1 : Nat → Value) (a1 : Nat → vp_A) (sz1 : Nat), Q m1 a1 → gMi l yX12_soonest cX12_soonest 1 (some .int) ({ frames := 8, cells := 0, slots := 0, locals := 188 } : Room) D cy N q m1 a1 sz1 [.ref (q 69)] (fun r m' a' => r = out ∧ INV F N q m' a') := by
  obtain ⟨hN, hsh, hty, hta, hod, kr, cap, lab, ack, cop, hst, hs, hD, hX, hT, hV, hE, hC⟩ := hI
  obtain ⟨⟨hkr, hgk, hrf⟩, ⟨b0, b1, b2, b3⟩, c0, c1, c2, c3⟩ := id hst
  have hb0 := hs.1
  have hb1 := hs.2.1
  have hb2 := hs.2.2.1
  have hb3 := hs.2.2.2
  have hc : Good cap (lv m0 8) := ⟨hD.2.1, _, hD.1⟩
  obtain ⟨out, me', ra', size', known', y311, y312, B30, B33, B35, B37, B38, B57, B59, B61, B63, B65, rr, e1, e2, hV'⟩ := soonest_call hs hc hD.1 (show 70000 ≤ F by omega) hV (iv m0 3101) (iv m0 3102) (ai a0 33) (ai a0 37) (ai a0 61) (ai a0 63) (ai a0 65) (iv m0 6918) (lv m0 6919) (iv m0 6920) (iv m0 6921) (iv m0 6922) (iv m0 6927) (iv m0 6935) (ai a0 76) (ai a0 77) (ai a0 78) (al a0 79) (ai a0 80) (ai a0 81) (ai a0 82) (ai a0 83) (ai a0 84) (ai a0 85) (ai a0 86) (ai a0 97)
  have k1 := kX11_soonest (m0 := m0) (a0 := a0) (q := q) (l := l) (D := D) (cy := cy) (sz := sz) (hN := hN) (hsh := hsh) (hkr := hkr) (hgk := hgk) (hrf := hrf) (h_x0_8 := hty.2 8 rfl) (h_xkr_0 := b0) (h_xkr_1 := b1) (h_xkr_2 := b2) (h_xkr_3 := b3) (h_x27_6 := hty.2 2706 rfl) (h_x27_7 := hty.1 2707 rfl) (h_x27_8 := hty.1 2708 rfl) (h_x28_2 := hty.1 2802 rfl) (h_x28_3 := hty.1 2803 rfl) (h_x31_1 := hty.1 3101 rfl) (h_x31_2 := hty.1 3102 rfl) (h_A30 := hta.1 (30, 6001) (by decide)) (h_A33 := hta.1 (33, 10) (by decide)) (h_A35 := hta.1 (35, 60000) (by decide)) (h_A37 := hta.1 (37, 16384) (by decide)) (h_A38 := hta.2.1 (38, 6000) (by decide)) (h_A57 := hta.1 (57, 6000) (by decide)) (h_A59 := hta.1 (59, 6000) (by decide)) (h_A61 := hta.1 (61, 6000) (by decide)) (h_A63 := hta.1 (63, 6001) (by decide)) (h_A65 := hta.1 (65, 60000) (by decide)) (F := F)  (hs0 := e1)
  refine ⟨_, _, k1, ?_⟩
  intro m1 a1 sz1 hQ
  obtain ⟨p2706, p2707, p2708, p2802, p2803, p3101, p3102, f1, r30, r33, r35, r37, r38, r57, r59, r61, r63, r65, g1⟩ := hQ
  have d0 := (f1 6900 rfl).trans c0
  have d1 := (f1 6901 rfl).trans c1
  have d2 := (f1 6902 rfl).trans c2
  have d3 := (f1 6903 rfl).trans c3
  have hsh1 := hsh.off f1 rfl
  have k2 := kX12_soonest (m0 := m1) (a0 := a1) (q := q) (l := l) (D := D) (cy := cy) (sz := sz1) (hN := hN) (hsh := hsh1) (h_x69_0 := d0) (h_x69_1 := d1) (h_x69_2 := d2) (h_x69_3 := d3) (h_x69_4 := (f1 6904 rfl).trans (hty.2 6904 rfl)) (h_x69_18 := (f1 6918 rfl).trans (hty.1 6918 rfl)) (h_x69_19 := (f1 6919 rfl).trans (hty.2 6919 rfl)) (h_x69_20 := (f1 6920 rfl).trans (hty.1 6920 rfl)) (h_x69_21 := (f1 6921 rfl).trans (hty.1 6921 rfl)) (h_x69_22 := (f1 6922 rfl).trans (hty.1 6922 rfl)) (h_x69_27 := (f1 6927 rfl).trans (hty.1 6927 rfl)) (h_x69_35 := (f1 6935 rfl).trans (hty.1 6935 rfl)) (h_A76 := (g1 76 rfl).trans (hta.1 (76, 40) (by decide))) (h_A77 := (g1 77 rfl).trans (hta.1 (77, 40) (by decide))) (h_A78 := (g1 78 rfl).trans (hta.1 (78, 40) (by decide))) (h_A79 := (g1 79 rfl).trans (hta.2.1 (79, 6001) (by decide))) (h_A80 := (g1 80 rfl).trans (hta.1 (80, 16384) (by decide))) (h_A81 := (g1 81 rfl).trans (hta.1 (81, 6002) (by decide))) (h_A82 := (g1 82 rfl).trans (hta.1 (82, 84000) (by decide))) (h_A83 := (g1 83 rfl).trans (hta.1 (83, 84000) (by decide))) (h_A84 := (g1 84 rfl).trans (hta.1 (84, 84000) (by decide))) (h_A85 := (g1 85 rfl).trans (hta.1 (85, 84000) (by decide))) (h_A86 := (g1 86 rfl).trans (hta.1 (86, 84000) (by decide))) (h_A97 := (g1 97 rfl).trans (hta.1 (97, 6001) (by decide))) (F := F)  (hs0 := e2)
  refine gMi_mono k2 (fun r m2 a2 h => ?_)
  obtain ⟨hr, p6918, p6919, p6920, p6921, p6922, p6927, p6935, f2, r76, r77, r78, r79, r80, r81, r82, r83, r84, r85, r86, r97, g2⟩ := h
  refine ⟨hr, hN, hsh1.off f2 rfl, ?_, ?_, od_off (od_off hod f1 g1 rfl rfl rfl rfl) f2 g2 rfl rfl rfl rfl, kr, cap, lab, ack, cop, stw_off (stw_off hst f1 rfl rfl rfl rfl rfl rfl) f2 rfl rfl rfl rfl rfl rfl, hs, ?_, ?_, ?_, ?_, ?_, ?_⟩
  · have t1 : TYM m1 := (tym_off hty f1 (fun j hj => by
      simp only [List.mem_cons, List.not_mem_nil, or_false] at hj
      rcases hj with rfl | rfl | rfl | rfl | rfl | rfl | rfl
      · exact ⟨fun z => absurd z (by decide), fun _ => ⟨_, p2706⟩⟩
      · exact ⟨fun _ => ⟨_, p2707⟩, fun z => absurd z (by decide)⟩
      · exact ⟨fun _ => ⟨_, p2708⟩, fun z => absurd z (by decide)⟩
      · exact ⟨fun _ => ⟨_, p2802⟩, fun z => absurd z (by decide)⟩
      · exact ⟨fun _ => ⟨_, p2803⟩, fun z => absurd z (by decide)⟩
      · exact ⟨fun _ => ⟨_, p3101⟩, fun z => absurd z (by decide)⟩
      · exact ⟨fun _ => ⟨_, p3102⟩, fun z => absurd z (by decide)⟩))
    exact (tym_off t1 f2 (fun j hj => by
      simp only [List.mem_cons, List.not_mem_nil, or_false] at hj
      rcases hj with rfl | rfl | rfl | rfl | rfl | rfl | rfl
      · exact ⟨fun _ => ⟨_, p6918⟩, fun z => absurd z (by decide)⟩
      · exact ⟨fun z => absurd z (by decide), fun _ => ⟨_, p6919⟩⟩
      · exact ⟨fun _ => ⟨_, p6920⟩, fun z => absurd z (by decide)⟩
      · exact ⟨fun _ => ⟨_, p6921⟩, fun z => absurd z (by decide)⟩
      · exact ⟨fun _ => ⟨_, p6922⟩, fun z => absurd z (by decide)⟩
      · exact ⟨fun _ => ⟨_, p6927⟩, fun z => absurd z (by decide)⟩
      · exact ⟨fun _ => ⟨_, p6935⟩, fun z => absurd z (by decide)⟩))
  · have t1 : TYA a1 := (tya_off hta g1 (fun j hj => by
      simp only [List.mem_cons, List.not_mem_nil, or_false] at hj
      rcases hj with rfl | rfl | rfl | rfl | rfl | rfl | rfl | rfl | rfl | rfl
      · exact ⟨fun n hn => ⟨_, arr_i (tlen_i hn (show (30, 6001) ∈ aiT by decide)) r30⟩, fun n hn => absurd hn (tno_l 30 rfl n), fun n hn => absurd hn (tno_d 30 rfl n)⟩
      · exact ⟨fun n hn => ⟨_, arr_i (tlen_i hn (show (33, 10) ∈ aiT by decide)) r33⟩, fun n hn => absurd hn (tno_l 33 rfl n), fun n hn => absurd hn (tno_d 33 rfl n)⟩
      · exact ⟨fun n hn => ⟨_, arr_i (tlen_i hn (show (35, 60000) ∈ aiT by decide)) r35⟩, fun n hn => absurd hn (tno_l 35 rfl n), fun n hn => absurd hn (tno_d 35 rfl n)⟩
      · exact ⟨fun n hn => ⟨_, arr_i (tlen_i hn (show (37, 16384) ∈ aiT by decide)) r37⟩, fun n hn => absurd hn (tno_l 37 rfl n), fun n hn => absurd hn (tno_d 37 rfl n)⟩
      · exact ⟨fun n hn => absurd hn (tno_i 38 rfl n), fun n hn => ⟨_, arr_l (tlen_l hn (show (38, 6000) ∈ alT by decide)) r38⟩, fun n hn => absurd hn (tno_d 38 rfl n)⟩
      · exact ⟨fun n hn => ⟨_, arr_i (tlen_i hn (show (57, 6000) ∈ aiT by decide)) r57⟩, fun n hn => absurd hn (tno_l 57 rfl n), fun n hn => absurd hn (tno_d 57 rfl n)⟩
      · exact ⟨fun n hn => ⟨_, arr_i (tlen_i hn (show (59, 6000) ∈ aiT by decide)) r59⟩, fun n hn => absurd hn (tno_l 59 rfl n), fun n hn => absurd hn (tno_d 59 rfl n)⟩
      · exact ⟨fun n hn => ⟨_, arr_i (tlen_i hn (show (61, 6000) ∈ aiT by decide)) r61⟩, fun n hn => absurd hn (tno_l 61 rfl n), fun n hn => absurd hn (tno_d 61 rfl n)⟩
      · exact ⟨fun n hn => ⟨_, arr_i (tlen_i hn (show (63, 6001) ∈ aiT by decide)) r63⟩, fun n hn => absurd hn (tno_l 63 rfl n), fun n hn => absurd hn (tno_d 63 rfl n)⟩
      · exact ⟨fun n hn => ⟨_, arr_i (tlen_i hn (show (65, 60000) ∈ aiT by decide)) r65⟩, fun n hn => absurd hn (tno_l 65 rfl n), fun n hn => absurd hn (tno_d 65 rfl n)⟩))
    exact (tya_off t1 g2 (fun j hj => by
      simp only [List.mem_cons, List.not_mem_nil, or_false] at hj
      rcases hj with rfl | rfl | rfl | rfl | rfl | rfl | rfl | rfl | rfl | rfl | rfl | rfl
      · exact ⟨fun n hn => ⟨_, arr_i (tlen_i hn (show (76, 40) ∈ aiT by decide)) r76⟩, fun n hn => absurd hn (tno_l 76 rfl n), fun n hn => absurd hn (tno_d 76 rfl n)⟩
      · exact ⟨fun n hn => ⟨_, arr_i (tlen_i hn (show (77, 40) ∈ aiT by decide)) r77⟩, fun n hn => absurd hn (tno_l 77 rfl n), fun n hn => absurd hn (tno_d 77 rfl n)⟩
      · exact ⟨fun n hn => ⟨_, arr_i (tlen_i hn (show (78, 40) ∈ aiT by decide)) r78⟩, fun n hn => absurd hn (tno_l 78 rfl n), fun n hn => absurd hn (tno_d 78 rfl n)⟩
      · exact ⟨fun n hn => absurd hn (tno_i 79 rfl n), fun n hn => ⟨_, arr_l (tlen_l hn (show (79, 6001) ∈ alT by decide)) r79⟩, fun n hn => absurd hn (tno_d 79 rfl n)⟩
      · exact ⟨fun n hn => ⟨_, arr_i (tlen_i hn (show (80, 16384) ∈ aiT by decide)) r80⟩, fun n hn => absurd hn (tno_l 80 rfl n), fun n hn => absurd hn (tno_d 80 rfl n)⟩
      · exact ⟨fun n hn => ⟨_, arr_i (tlen_i hn (show (81, 6002) ∈ aiT by decide)) r81⟩, fun n hn => absurd hn (tno_l 81 rfl n), fun n hn => absurd hn (tno_d 81 rfl n)⟩
      · exact ⟨fun n hn => ⟨_, arr_i (tlen_i hn (show (82, 84000) ∈ aiT by decide)) r82⟩, fun n hn => absurd hn (tno_l 82 rfl n), fun n hn => absurd hn (tno_d 82 rfl n)⟩
      · exact ⟨fun n hn => ⟨_, arr_i (tlen_i hn (show (83, 84000) ∈ aiT by decide)) r83⟩, fun n hn => absurd hn (tno_l 83 rfl n), fun n hn => absurd hn (tno_d 83 rfl n)⟩
      · exact ⟨fun n hn => ⟨_, arr_i (tlen_i hn (show (84, 84000) ∈ aiT by decide)) r84⟩, fun n hn => absurd hn (tno_l 84 rfl n), fun n hn => absurd hn (tno_d 84 rfl n)⟩
      · exact ⟨fun n hn => ⟨_, arr_i (tlen_i hn (show (85, 84000) ∈ aiT by decide)) r85⟩, fun n hn => absurd hn (tno_l 85 rfl n), fun n hn => absurd hn (tno_d 85 rfl n)⟩
      · exact ⟨fun n hn => ⟨_, arr_i (tlen_i hn (show (86, 84000) ∈ aiT by decide)) r86⟩, fun n hn => absurd hn (tno_l 86 rfl n), fun n hn => absurd hn (tno_d 86 rfl n)⟩
      · exact ⟨fun n hn => ⟨_, arr_i (tlen_i hn (show (97, 6001) ∈ aiT by decide)) r97⟩, fun n hn => absurd hn (tno_l 97 rfl n), fun n hn => absurd hn (tno_d 97 rfl n)⟩))
  · unfold DXw
    rw [lv_same ((f2 8 rfl).trans (f1 8 rfl)), iv_same ((f2 9 rfl).trans (f1 9 rfl)), iv_same ((f2 10 rfl).trans (f1 10 rfl)), iv_same ((f2 200 rfl).trans (f1 200 rfl)), lv_same ((f2 201 rfl).trans (f1 201 rfl)), iv_same ((f2 500 rfl).trans (f1 500 rfl)), lv_same ((f2 501 rfl).trans (f1 501 rfl)), ai_same ((g2 1 rfl).trans (g1 1 rfl)), lv_same ((f2 6904 rfl).trans (f1 6904 rfl)), iv_same ((f2 6906 rfl).trans (f1 6906 rfl)), iv_same ((f2 6909 rfl).trans (f1 6909 rfl)), iv_same ((f2 6911 rfl).trans (f1 6911 rfl)), ai_same ((g2 70 rfl).trans (g1 70 rfl)), ai_same ((g2 71 rfl).trans (g1 71 rfl)), ai_same ((g2 72 rfl).trans (g1 72 rfl)), ai_same ((g2 73 rfl).trans (g1 73 rfl))]
    exact hD
  · unfold IXw
    rw [iv_same ((f2 11 rfl).trans (f1 11 rfl)), lv_same ((f2 12 rfl).trans (f1 12 rfl)), iv_same ((f2 13 rfl).trans (f1 13 rfl)), iv_same ((f2 14 rfl).trans (f1 14 rfl)), iv_same ((f2 6912 rfl).trans (f1 6912 rfl)), lv_same ((f2 6913 rfl).trans (f1 6913 rfl)), iv_same ((f2 6915 rfl).trans (f1 6915 rfl)), ai_same ((g2 74 rfl).trans (g1 74 rfl))]
    exact hX
  · unfold TXw
    rw [iv_same ((f2 2400 rfl).trans (f1 2400 rfl)), ai_same ((g2 26 rfl).trans (g1 26 rfl)), iv_same ((f2 6917 rfl).trans (f1 6917 rfl)), ai_same ((g2 75 rfl).trans (g1 75 rfl))]
    exact hT
  · unfold SVw
    rw [lv_eq ((f2 2706 rfl).trans p2706), iv_eq ((f2 2707 rfl).trans p2707), iv_eq ((f2 2708 rfl).trans p2708), iv_eq ((f2 2802 rfl).trans p2802), iv_eq ((f2 2803 rfl).trans p2803), ai_eq ((g2 30 rfl).trans r30), ai_eq ((g2 35 rfl).trans r35), al_eq ((g2 38 rfl).trans r38), ai_same ((g2 44 rfl).trans (g1 44 rfl)), ai_eq ((g2 57 rfl).trans r57), ai_eq ((g2 59 rfl).trans r59)]
    exact Or.inr hV'
  · unfold ENw
    rw [lv_same ((f2 2709 rfl).trans (f1 2709 rfl)), iv_same ((f2 2710 rfl).trans (f1 2710 rfl))]
    exact hE
  · unfold CEw
    rw [iv_same ((f2 2705 rfl).trans (f1 2705 rfl)), ai_same ((g2 67 rfl).trans (g1 67 rfl))]
    exact hC
theorem cw_barren {F N : Nat} {q : Nat → Nat} {m0 : Nat → Value} {a0 : Nat → vp_A} (hF : 800000 ≤ F) (hI : INV F N q m0 a0)  {l : Launch} {D : va_G} {cy : Nat → ClassId} {sz : Nat} : ∃ (out : Int32) (Q : (Nat → Value) → (Nat → vp_A) → Prop), gMi l yX11_barren cX11_barren 1 (some .int) ({ frames := 7, cells := 0, slots := 0, locals := 170 } : Room) D cy N q m0 a0 sz [.ref (q 0)] (fun r m' a' => r = out ∧ Q m' a') ∧ ∀ (m1 : Nat → Value) (a1 : Nat → vp_A) (sz1 : Nat), Q m1 a1 → gMi l yX12_barren cX12_barren 3 (some .int) ({ frames := 8, cells := 0, slots := 0, locals := 188 } : Room) D cy N q m1 a1 sz1 [.ref (q 69)] (fun r m' a' => r = out ∧ INV F N q m' a') := by
  obtain ⟨hN, hsh, hty, hta, hod, kr, cap, lab, ack, cop, hst, hs, hD, hX, hT, hV, hE, hC⟩ := hI
  obtain ⟨⟨hkr, hgk, hrf⟩, ⟨b0, b1, b2, b3⟩, c0, c1, c2, c3⟩ := id hst
  have hb0 := hs.1
  have hb1 := hs.2.1
  have hb2 := hs.2.2.1
  have hb3 := hs.2.2.2
  have hc : Good cap (lv m0 8) := ⟨hD.2.1, _, hD.1⟩
  obtain ⟨out, me', ra', size', known', y311, y312, B30, B33, B35, B37, B38, B57, B59, B61, B63, B65, rr, e1, e2, hV'⟩ := barren_call hs hc hD.1 (show 70000 ≤ F by omega) hV (iv m0 3101) (iv m0 3102) (ai a0 33) (ai a0 37) (ai a0 61) (ai a0 63) (ai a0 65) (iv m0 6918) (lv m0 6919) (iv m0 6920) (iv m0 6921) (iv m0 6922) (iv m0 6927) (iv m0 6935) (ai a0 76) (ai a0 77) (ai a0 78) (al a0 79) (ai a0 80) (ai a0 81) (ai a0 82) (ai a0 83) (ai a0 84) (ai a0 85) (ai a0 86) (ai a0 97)
  have k1 := kX11_barren (m0 := m0) (a0 := a0) (q := q) (l := l) (D := D) (cy := cy) (sz := sz) (hN := hN) (hsh := hsh) (hkr := hkr) (hgk := hgk) (hrf := hrf) (h_x0_8 := hty.2 8 rfl) (h_xkr_0 := b0) (h_xkr_1 := b1) (h_xkr_2 := b2) (h_xkr_3 := b3) (h_x27_6 := hty.2 2706 rfl) (h_x27_7 := hty.1 2707 rfl) (h_x27_8 := hty.1 2708 rfl) (h_x28_2 := hty.1 2802 rfl) (h_x28_3 := hty.1 2803 rfl) (h_x31_1 := hty.1 3101 rfl) (h_x31_2 := hty.1 3102 rfl) (h_A30 := hta.1 (30, 6001) (by decide)) (h_A33 := hta.1 (33, 10) (by decide)) (h_A35 := hta.1 (35, 60000) (by decide)) (h_A37 := hta.1 (37, 16384) (by decide)) (h_A38 := hta.2.1 (38, 6000) (by decide)) (h_A57 := hta.1 (57, 6000) (by decide)) (h_A59 := hta.1 (59, 6000) (by decide)) (h_A61 := hta.1 (61, 6000) (by decide)) (h_A63 := hta.1 (63, 6001) (by decide)) (h_A65 := hta.1 (65, 60000) (by decide)) (F := F)  (hs0 := e1)
  refine ⟨_, _, k1, ?_⟩
  intro m1 a1 sz1 hQ
  obtain ⟨p2706, p2707, p2708, p2802, p2803, p3101, p3102, f1, r30, r33, r35, r37, r38, r57, r59, r61, r63, r65, g1⟩ := hQ
  have d0 := (f1 6900 rfl).trans c0
  have d1 := (f1 6901 rfl).trans c1
  have d2 := (f1 6902 rfl).trans c2
  have d3 := (f1 6903 rfl).trans c3
  have hsh1 := hsh.off f1 rfl
  have k2 := kX12_barren (m0 := m1) (a0 := a1) (q := q) (l := l) (D := D) (cy := cy) (sz := sz1) (hN := hN) (hsh := hsh1) (h_x69_0 := d0) (h_x69_1 := d1) (h_x69_2 := d2) (h_x69_3 := d3) (h_x69_4 := (f1 6904 rfl).trans (hty.2 6904 rfl)) (h_x69_18 := (f1 6918 rfl).trans (hty.1 6918 rfl)) (h_x69_19 := (f1 6919 rfl).trans (hty.2 6919 rfl)) (h_x69_20 := (f1 6920 rfl).trans (hty.1 6920 rfl)) (h_x69_21 := (f1 6921 rfl).trans (hty.1 6921 rfl)) (h_x69_22 := (f1 6922 rfl).trans (hty.1 6922 rfl)) (h_x69_27 := (f1 6927 rfl).trans (hty.1 6927 rfl)) (h_x69_35 := (f1 6935 rfl).trans (hty.1 6935 rfl)) (h_A76 := (g1 76 rfl).trans (hta.1 (76, 40) (by decide))) (h_A77 := (g1 77 rfl).trans (hta.1 (77, 40) (by decide))) (h_A78 := (g1 78 rfl).trans (hta.1 (78, 40) (by decide))) (h_A79 := (g1 79 rfl).trans (hta.2.1 (79, 6001) (by decide))) (h_A80 := (g1 80 rfl).trans (hta.1 (80, 16384) (by decide))) (h_A81 := (g1 81 rfl).trans (hta.1 (81, 6002) (by decide))) (h_A82 := (g1 82 rfl).trans (hta.1 (82, 84000) (by decide))) (h_A83 := (g1 83 rfl).trans (hta.1 (83, 84000) (by decide))) (h_A84 := (g1 84 rfl).trans (hta.1 (84, 84000) (by decide))) (h_A85 := (g1 85 rfl).trans (hta.1 (85, 84000) (by decide))) (h_A86 := (g1 86 rfl).trans (hta.1 (86, 84000) (by decide))) (h_A97 := (g1 97 rfl).trans (hta.1 (97, 6001) (by decide))) (F := F)  (hs0 := e2)
  refine gMi_mono k2 (fun r m2 a2 h => ?_)
  obtain ⟨hr, p6918, p6919, p6920, p6921, p6922, p6927, p6935, f2, r76, r77, r78, r79, r80, r81, r82, r83, r84, r85, r86, r97, g2⟩ := h
  refine ⟨hr, hN, hsh1.off f2 rfl, ?_, ?_, od_off (od_off hod f1 g1 rfl rfl rfl rfl) f2 g2 rfl rfl rfl rfl, kr, cap, lab, ack, cop, stw_off (stw_off hst f1 rfl rfl rfl rfl rfl rfl) f2 rfl rfl rfl rfl rfl rfl, hs, ?_, ?_, ?_, ?_, ?_, ?_⟩
  · have t1 : TYM m1 := (tym_off hty f1 (fun j hj => by
      simp only [List.mem_cons, List.not_mem_nil, or_false] at hj
      rcases hj with rfl | rfl | rfl | rfl | rfl | rfl | rfl
      · exact ⟨fun z => absurd z (by decide), fun _ => ⟨_, p2706⟩⟩
      · exact ⟨fun _ => ⟨_, p2707⟩, fun z => absurd z (by decide)⟩
      · exact ⟨fun _ => ⟨_, p2708⟩, fun z => absurd z (by decide)⟩
      · exact ⟨fun _ => ⟨_, p2802⟩, fun z => absurd z (by decide)⟩
      · exact ⟨fun _ => ⟨_, p2803⟩, fun z => absurd z (by decide)⟩
      · exact ⟨fun _ => ⟨_, p3101⟩, fun z => absurd z (by decide)⟩
      · exact ⟨fun _ => ⟨_, p3102⟩, fun z => absurd z (by decide)⟩))
    exact (tym_off t1 f2 (fun j hj => by
      simp only [List.mem_cons, List.not_mem_nil, or_false] at hj
      rcases hj with rfl | rfl | rfl | rfl | rfl | rfl | rfl
      · exact ⟨fun _ => ⟨_, p6918⟩, fun z => absurd z (by decide)⟩
      · exact ⟨fun z => absurd z (by decide), fun _ => ⟨_, p6919⟩⟩
      · exact ⟨fun _ => ⟨_, p6920⟩, fun z => absurd z (by decide)⟩
      · exact ⟨fun _ => ⟨_, p6921⟩, fun z => absurd z (by decide)⟩
      · exact ⟨fun _ => ⟨_, p6922⟩, fun z => absurd z (by decide)⟩
      · exact ⟨fun _ => ⟨_, p6927⟩, fun z => absurd z (by decide)⟩
      · exact ⟨fun _ => ⟨_, p6935⟩, fun z => absurd z (by decide)⟩))
  · have t1 : TYA a1 := (tya_off hta g1 (fun j hj => by
      simp only [List.mem_cons, List.not_mem_nil, or_false] at hj
      rcases hj with rfl | rfl | rfl | rfl | rfl | rfl | rfl | rfl | rfl | rfl
      · exact ⟨fun n hn => ⟨_, arr_i (tlen_i hn (show (30, 6001) ∈ aiT by decide)) r30⟩, fun n hn => absurd hn (tno_l 30 rfl n), fun n hn => absurd hn (tno_d 30 rfl n)⟩
      · exact ⟨fun n hn => ⟨_, arr_i (tlen_i hn (show (33, 10) ∈ aiT by decide)) r33⟩, fun n hn => absurd hn (tno_l 33 rfl n), fun n hn => absurd hn (tno_d 33 rfl n)⟩
      · exact ⟨fun n hn => ⟨_, arr_i (tlen_i hn (show (35, 60000) ∈ aiT by decide)) r35⟩, fun n hn => absurd hn (tno_l 35 rfl n), fun n hn => absurd hn (tno_d 35 rfl n)⟩
      · exact ⟨fun n hn => ⟨_, arr_i (tlen_i hn (show (37, 16384) ∈ aiT by decide)) r37⟩, fun n hn => absurd hn (tno_l 37 rfl n), fun n hn => absurd hn (tno_d 37 rfl n)⟩
      · exact ⟨fun n hn => absurd hn (tno_i 38 rfl n), fun n hn => ⟨_, arr_l (tlen_l hn (show (38, 6000) ∈ alT by decide)) r38⟩, fun n hn => absurd hn (tno_d 38 rfl n)⟩
      · exact ⟨fun n hn => ⟨_, arr_i (tlen_i hn (show (57, 6000) ∈ aiT by decide)) r57⟩, fun n hn => absurd hn (tno_l 57 rfl n), fun n hn => absurd hn (tno_d 57 rfl n)⟩
      · exact ⟨fun n hn => ⟨_, arr_i (tlen_i hn (show (59, 6000) ∈ aiT by decide)) r59⟩, fun n hn => absurd hn (tno_l 59 rfl n), fun n hn => absurd hn (tno_d 59 rfl n)⟩
      · exact ⟨fun n hn => ⟨_, arr_i (tlen_i hn (show (61, 6000) ∈ aiT by decide)) r61⟩, fun n hn => absurd hn (tno_l 61 rfl n), fun n hn => absurd hn (tno_d 61 rfl n)⟩
      · exact ⟨fun n hn => ⟨_, arr_i (tlen_i hn (show (63, 6001) ∈ aiT by decide)) r63⟩, fun n hn => absurd hn (tno_l 63 rfl n), fun n hn => absurd hn (tno_d 63 rfl n)⟩
      · exact ⟨fun n hn => ⟨_, arr_i (tlen_i hn (show (65, 60000) ∈ aiT by decide)) r65⟩, fun n hn => absurd hn (tno_l 65 rfl n), fun n hn => absurd hn (tno_d 65 rfl n)⟩))
    exact (tya_off t1 g2 (fun j hj => by
      simp only [List.mem_cons, List.not_mem_nil, or_false] at hj
      rcases hj with rfl | rfl | rfl | rfl | rfl | rfl | rfl | rfl | rfl | rfl | rfl | rfl
      · exact ⟨fun n hn => ⟨_, arr_i (tlen_i hn (show (76, 40) ∈ aiT by decide)) r76⟩, fun n hn => absurd hn (tno_l 76 rfl n), fun n hn => absurd hn (tno_d 76 rfl n)⟩
      · exact ⟨fun n hn => ⟨_, arr_i (tlen_i hn (show (77, 40) ∈ aiT by decide)) r77⟩, fun n hn => absurd hn (tno_l 77 rfl n), fun n hn => absurd hn (tno_d 77 rfl n)⟩
      · exact ⟨fun n hn => ⟨_, arr_i (tlen_i hn (show (78, 40) ∈ aiT by decide)) r78⟩, fun n hn => absurd hn (tno_l 78 rfl n), fun n hn => absurd hn (tno_d 78 rfl n)⟩
      · exact ⟨fun n hn => absurd hn (tno_i 79 rfl n), fun n hn => ⟨_, arr_l (tlen_l hn (show (79, 6001) ∈ alT by decide)) r79⟩, fun n hn => absurd hn (tno_d 79 rfl n)⟩
      · exact ⟨fun n hn => ⟨_, arr_i (tlen_i hn (show (80, 16384) ∈ aiT by decide)) r80⟩, fun n hn => absurd hn (tno_l 80 rfl n), fun n hn => absurd hn (tno_d 80 rfl n)⟩
      · exact ⟨fun n hn => ⟨_, arr_i (tlen_i hn (show (81, 6002) ∈ aiT by decide)) r81⟩, fun n hn => absurd hn (tno_l 81 rfl n), fun n hn => absurd hn (tno_d 81 rfl n)⟩
      · exact ⟨fun n hn => ⟨_, arr_i (tlen_i hn (show (82, 84000) ∈ aiT by decide)) r82⟩, fun n hn => absurd hn (tno_l 82 rfl n), fun n hn => absurd hn (tno_d 82 rfl n)⟩
      · exact ⟨fun n hn => ⟨_, arr_i (tlen_i hn (show (83, 84000) ∈ aiT by decide)) r83⟩, fun n hn => absurd hn (tno_l 83 rfl n), fun n hn => absurd hn (tno_d 83 rfl n)⟩
      · exact ⟨fun n hn => ⟨_, arr_i (tlen_i hn (show (84, 84000) ∈ aiT by decide)) r84⟩, fun n hn => absurd hn (tno_l 84 rfl n), fun n hn => absurd hn (tno_d 84 rfl n)⟩
      · exact ⟨fun n hn => ⟨_, arr_i (tlen_i hn (show (85, 84000) ∈ aiT by decide)) r85⟩, fun n hn => absurd hn (tno_l 85 rfl n), fun n hn => absurd hn (tno_d 85 rfl n)⟩
      · exact ⟨fun n hn => ⟨_, arr_i (tlen_i hn (show (86, 84000) ∈ aiT by decide)) r86⟩, fun n hn => absurd hn (tno_l 86 rfl n), fun n hn => absurd hn (tno_d 86 rfl n)⟩
      · exact ⟨fun n hn => ⟨_, arr_i (tlen_i hn (show (97, 6001) ∈ aiT by decide)) r97⟩, fun n hn => absurd hn (tno_l 97 rfl n), fun n hn => absurd hn (tno_d 97 rfl n)⟩))
  · unfold DXw
    rw [lv_same ((f2 8 rfl).trans (f1 8 rfl)), iv_same ((f2 9 rfl).trans (f1 9 rfl)), iv_same ((f2 10 rfl).trans (f1 10 rfl)), iv_same ((f2 200 rfl).trans (f1 200 rfl)), lv_same ((f2 201 rfl).trans (f1 201 rfl)), iv_same ((f2 500 rfl).trans (f1 500 rfl)), lv_same ((f2 501 rfl).trans (f1 501 rfl)), ai_same ((g2 1 rfl).trans (g1 1 rfl)), lv_same ((f2 6904 rfl).trans (f1 6904 rfl)), iv_same ((f2 6906 rfl).trans (f1 6906 rfl)), iv_same ((f2 6909 rfl).trans (f1 6909 rfl)), iv_same ((f2 6911 rfl).trans (f1 6911 rfl)), ai_same ((g2 70 rfl).trans (g1 70 rfl)), ai_same ((g2 71 rfl).trans (g1 71 rfl)), ai_same ((g2 72 rfl).trans (g1 72 rfl)), ai_same ((g2 73 rfl).trans (g1 73 rfl))]
    exact hD
  · unfold IXw
    rw [iv_same ((f2 11 rfl).trans (f1 11 rfl)), lv_same ((f2 12 rfl).trans (f1 12 rfl)), iv_same ((f2 13 rfl).trans (f1 13 rfl)), iv_same ((f2 14 rfl).trans (f1 14 rfl)), iv_same ((f2 6912 rfl).trans (f1 6912 rfl)), lv_same ((f2 6913 rfl).trans (f1 6913 rfl)), iv_same ((f2 6915 rfl).trans (f1 6915 rfl)), ai_same ((g2 74 rfl).trans (g1 74 rfl))]
    exact hX
  · unfold TXw
    rw [iv_same ((f2 2400 rfl).trans (f1 2400 rfl)), ai_same ((g2 26 rfl).trans (g1 26 rfl)), iv_same ((f2 6917 rfl).trans (f1 6917 rfl)), ai_same ((g2 75 rfl).trans (g1 75 rfl))]
    exact hT
  · unfold SVw
    rw [lv_eq ((f2 2706 rfl).trans p2706), iv_eq ((f2 2707 rfl).trans p2707), iv_eq ((f2 2708 rfl).trans p2708), iv_eq ((f2 2802 rfl).trans p2802), iv_eq ((f2 2803 rfl).trans p2803), ai_eq ((g2 30 rfl).trans r30), ai_eq ((g2 35 rfl).trans r35), al_eq ((g2 38 rfl).trans r38), ai_same ((g2 44 rfl).trans (g1 44 rfl)), ai_eq ((g2 57 rfl).trans r57), ai_eq ((g2 59 rfl).trans r59)]
    exact Or.inr hV'
  · unfold ENw
    rw [lv_same ((f2 2709 rfl).trans (f1 2709 rfl)), iv_same ((f2 2710 rfl).trans (f1 2710 rfl))]
    exact hE
  · unfold CEw
    rw [iv_same ((f2 2705 rfl).trans (f1 2705 rfl)), ai_same ((g2 67 rfl).trans (g1 67 rfl))]
    exact hC
theorem cw_steps {F N : Nat} {q : Nat → Nat} {m0 : Nat → Value} {a0 : Nat → vp_A} (hF : 800000 ≤ F) (hI : INV F N q m0 a0)  {l : Launch} {D : va_G} {cy : Nat → ClassId} {sz : Nat} : ∃ (out : Int32) (Q : (Nat → Value) → (Nat → vp_A) → Prop), gMi l yX11_steps cX11_steps 1 (some .int) ({ frames := 7, cells := 0, slots := 0, locals := 170 } : Room) D cy N q m0 a0 sz [.ref (q 0)] (fun r m' a' => r = out ∧ Q m' a') ∧ ∀ (m1 : Nat → Value) (a1 : Nat → vp_A) (sz1 : Nat), Q m1 a1 → gMi l yX12_steps cX12_steps 1 (some .int) ({ frames := 8, cells := 0, slots := 0, locals := 188 } : Room) D cy N q m1 a1 sz1 [.ref (q 69)] (fun r m' a' => r = out ∧ INV F N q m' a') := by
  obtain ⟨hN, hsh, hty, hta, hod, kr, cap, lab, ack, cop, hst, hs, hD, hX, hT, hV, hE, hC⟩ := hI
  obtain ⟨⟨hkr, hgk, hrf⟩, ⟨b0, b1, b2, b3⟩, c0, c1, c2, c3⟩ := id hst
  have hb0 := hs.1
  have hb1 := hs.2.1
  have hb2 := hs.2.2.1
  have hb3 := hs.2.2.2
  have hc : Good cap (lv m0 8) := ⟨hD.2.1, _, hD.1⟩
  obtain ⟨out, me', ra', size', known', y311, y312, B30, B33, B35, B37, B38, B57, B59, B61, B63, B65, rr, e1, e2, hV'⟩ := steps_call hs hc hD.1 (show 70000 ≤ F by omega) hV (iv m0 3101) (iv m0 3102) (ai a0 33) (ai a0 37) (ai a0 61) (ai a0 63) (ai a0 65) (iv m0 6918) (lv m0 6919) (iv m0 6920) (iv m0 6921) (iv m0 6922) (iv m0 6927) (iv m0 6935) (ai a0 76) (ai a0 77) (ai a0 78) (al a0 79) (ai a0 80) (ai a0 81) (ai a0 82) (ai a0 83) (ai a0 84) (ai a0 85) (ai a0 86) (ai a0 97)
  have k1 := kX11_steps (m0 := m0) (a0 := a0) (q := q) (l := l) (D := D) (cy := cy) (sz := sz) (hN := hN) (hsh := hsh) (hkr := hkr) (hgk := hgk) (hrf := hrf) (h_x0_8 := hty.2 8 rfl) (h_xkr_0 := b0) (h_xkr_1 := b1) (h_xkr_2 := b2) (h_xkr_3 := b3) (h_x27_6 := hty.2 2706 rfl) (h_x27_7 := hty.1 2707 rfl) (h_x27_8 := hty.1 2708 rfl) (h_x28_2 := hty.1 2802 rfl) (h_x28_3 := hty.1 2803 rfl) (h_x31_1 := hty.1 3101 rfl) (h_x31_2 := hty.1 3102 rfl) (h_A30 := hta.1 (30, 6001) (by decide)) (h_A33 := hta.1 (33, 10) (by decide)) (h_A35 := hta.1 (35, 60000) (by decide)) (h_A37 := hta.1 (37, 16384) (by decide)) (h_A38 := hta.2.1 (38, 6000) (by decide)) (h_A57 := hta.1 (57, 6000) (by decide)) (h_A59 := hta.1 (59, 6000) (by decide)) (h_A61 := hta.1 (61, 6000) (by decide)) (h_A63 := hta.1 (63, 6001) (by decide)) (h_A65 := hta.1 (65, 60000) (by decide)) (F := F)  (hs0 := e1)
  refine ⟨_, _, k1, ?_⟩
  intro m1 a1 sz1 hQ
  obtain ⟨p2706, p2707, p2708, p2802, p2803, p3101, p3102, f1, r30, r33, r35, r37, r38, r57, r59, r61, r63, r65, g1⟩ := hQ
  have d0 := (f1 6900 rfl).trans c0
  have d1 := (f1 6901 rfl).trans c1
  have d2 := (f1 6902 rfl).trans c2
  have d3 := (f1 6903 rfl).trans c3
  have hsh1 := hsh.off f1 rfl
  have k2 := kX12_steps (m0 := m1) (a0 := a1) (q := q) (l := l) (D := D) (cy := cy) (sz := sz1) (hN := hN) (hsh := hsh1) (h_x69_0 := d0) (h_x69_1 := d1) (h_x69_2 := d2) (h_x69_3 := d3) (h_x69_4 := (f1 6904 rfl).trans (hty.2 6904 rfl)) (h_x69_18 := (f1 6918 rfl).trans (hty.1 6918 rfl)) (h_x69_19 := (f1 6919 rfl).trans (hty.2 6919 rfl)) (h_x69_20 := (f1 6920 rfl).trans (hty.1 6920 rfl)) (h_x69_21 := (f1 6921 rfl).trans (hty.1 6921 rfl)) (h_x69_22 := (f1 6922 rfl).trans (hty.1 6922 rfl)) (h_x69_27 := (f1 6927 rfl).trans (hty.1 6927 rfl)) (h_x69_35 := (f1 6935 rfl).trans (hty.1 6935 rfl)) (h_A76 := (g1 76 rfl).trans (hta.1 (76, 40) (by decide))) (h_A77 := (g1 77 rfl).trans (hta.1 (77, 40) (by decide))) (h_A78 := (g1 78 rfl).trans (hta.1 (78, 40) (by decide))) (h_A79 := (g1 79 rfl).trans (hta.2.1 (79, 6001) (by decide))) (h_A80 := (g1 80 rfl).trans (hta.1 (80, 16384) (by decide))) (h_A81 := (g1 81 rfl).trans (hta.1 (81, 6002) (by decide))) (h_A82 := (g1 82 rfl).trans (hta.1 (82, 84000) (by decide))) (h_A83 := (g1 83 rfl).trans (hta.1 (83, 84000) (by decide))) (h_A84 := (g1 84 rfl).trans (hta.1 (84, 84000) (by decide))) (h_A85 := (g1 85 rfl).trans (hta.1 (85, 84000) (by decide))) (h_A86 := (g1 86 rfl).trans (hta.1 (86, 84000) (by decide))) (h_A97 := (g1 97 rfl).trans (hta.1 (97, 6001) (by decide))) (F := F)  (hs0 := e2)
  refine gMi_mono k2 (fun r m2 a2 h => ?_)
  obtain ⟨hr, p6918, p6919, p6920, p6921, p6922, p6927, p6935, f2, r76, r77, r78, r79, r80, r81, r82, r83, r84, r85, r86, r97, g2⟩ := h
  refine ⟨hr, hN, hsh1.off f2 rfl, ?_, ?_, od_off (od_off hod f1 g1 rfl rfl rfl rfl) f2 g2 rfl rfl rfl rfl, kr, cap, lab, ack, cop, stw_off (stw_off hst f1 rfl rfl rfl rfl rfl rfl) f2 rfl rfl rfl rfl rfl rfl, hs, ?_, ?_, ?_, ?_, ?_, ?_⟩
  · have t1 : TYM m1 := (tym_off hty f1 (fun j hj => by
      simp only [List.mem_cons, List.not_mem_nil, or_false] at hj
      rcases hj with rfl | rfl | rfl | rfl | rfl | rfl | rfl
      · exact ⟨fun z => absurd z (by decide), fun _ => ⟨_, p2706⟩⟩
      · exact ⟨fun _ => ⟨_, p2707⟩, fun z => absurd z (by decide)⟩
      · exact ⟨fun _ => ⟨_, p2708⟩, fun z => absurd z (by decide)⟩
      · exact ⟨fun _ => ⟨_, p2802⟩, fun z => absurd z (by decide)⟩
      · exact ⟨fun _ => ⟨_, p2803⟩, fun z => absurd z (by decide)⟩
      · exact ⟨fun _ => ⟨_, p3101⟩, fun z => absurd z (by decide)⟩
      · exact ⟨fun _ => ⟨_, p3102⟩, fun z => absurd z (by decide)⟩))
    exact (tym_off t1 f2 (fun j hj => by
      simp only [List.mem_cons, List.not_mem_nil, or_false] at hj
      rcases hj with rfl | rfl | rfl | rfl | rfl | rfl | rfl
      · exact ⟨fun _ => ⟨_, p6918⟩, fun z => absurd z (by decide)⟩
      · exact ⟨fun z => absurd z (by decide), fun _ => ⟨_, p6919⟩⟩
      · exact ⟨fun _ => ⟨_, p6920⟩, fun z => absurd z (by decide)⟩
      · exact ⟨fun _ => ⟨_, p6921⟩, fun z => absurd z (by decide)⟩
      · exact ⟨fun _ => ⟨_, p6922⟩, fun z => absurd z (by decide)⟩
      · exact ⟨fun _ => ⟨_, p6927⟩, fun z => absurd z (by decide)⟩
      · exact ⟨fun _ => ⟨_, p6935⟩, fun z => absurd z (by decide)⟩))
  · have t1 : TYA a1 := (tya_off hta g1 (fun j hj => by
      simp only [List.mem_cons, List.not_mem_nil, or_false] at hj
      rcases hj with rfl | rfl | rfl | rfl | rfl | rfl | rfl | rfl | rfl | rfl
      · exact ⟨fun n hn => ⟨_, arr_i (tlen_i hn (show (30, 6001) ∈ aiT by decide)) r30⟩, fun n hn => absurd hn (tno_l 30 rfl n), fun n hn => absurd hn (tno_d 30 rfl n)⟩
      · exact ⟨fun n hn => ⟨_, arr_i (tlen_i hn (show (33, 10) ∈ aiT by decide)) r33⟩, fun n hn => absurd hn (tno_l 33 rfl n), fun n hn => absurd hn (tno_d 33 rfl n)⟩
      · exact ⟨fun n hn => ⟨_, arr_i (tlen_i hn (show (35, 60000) ∈ aiT by decide)) r35⟩, fun n hn => absurd hn (tno_l 35 rfl n), fun n hn => absurd hn (tno_d 35 rfl n)⟩
      · exact ⟨fun n hn => ⟨_, arr_i (tlen_i hn (show (37, 16384) ∈ aiT by decide)) r37⟩, fun n hn => absurd hn (tno_l 37 rfl n), fun n hn => absurd hn (tno_d 37 rfl n)⟩
      · exact ⟨fun n hn => absurd hn (tno_i 38 rfl n), fun n hn => ⟨_, arr_l (tlen_l hn (show (38, 6000) ∈ alT by decide)) r38⟩, fun n hn => absurd hn (tno_d 38 rfl n)⟩
      · exact ⟨fun n hn => ⟨_, arr_i (tlen_i hn (show (57, 6000) ∈ aiT by decide)) r57⟩, fun n hn => absurd hn (tno_l 57 rfl n), fun n hn => absurd hn (tno_d 57 rfl n)⟩
      · exact ⟨fun n hn => ⟨_, arr_i (tlen_i hn (show (59, 6000) ∈ aiT by decide)) r59⟩, fun n hn => absurd hn (tno_l 59 rfl n), fun n hn => absurd hn (tno_d 59 rfl n)⟩
      · exact ⟨fun n hn => ⟨_, arr_i (tlen_i hn (show (61, 6000) ∈ aiT by decide)) r61⟩, fun n hn => absurd hn (tno_l 61 rfl n), fun n hn => absurd hn (tno_d 61 rfl n)⟩
      · exact ⟨fun n hn => ⟨_, arr_i (tlen_i hn (show (63, 6001) ∈ aiT by decide)) r63⟩, fun n hn => absurd hn (tno_l 63 rfl n), fun n hn => absurd hn (tno_d 63 rfl n)⟩
      · exact ⟨fun n hn => ⟨_, arr_i (tlen_i hn (show (65, 60000) ∈ aiT by decide)) r65⟩, fun n hn => absurd hn (tno_l 65 rfl n), fun n hn => absurd hn (tno_d 65 rfl n)⟩))
    exact (tya_off t1 g2 (fun j hj => by
      simp only [List.mem_cons, List.not_mem_nil, or_false] at hj
      rcases hj with rfl | rfl | rfl | rfl | rfl | rfl | rfl | rfl | rfl | rfl | rfl | rfl
      · exact ⟨fun n hn => ⟨_, arr_i (tlen_i hn (show (76, 40) ∈ aiT by decide)) r76⟩, fun n hn => absurd hn (tno_l 76 rfl n), fun n hn => absurd hn (tno_d 76 rfl n)⟩
      · exact ⟨fun n hn => ⟨_, arr_i (tlen_i hn (show (77, 40) ∈ aiT by decide)) r77⟩, fun n hn => absurd hn (tno_l 77 rfl n), fun n hn => absurd hn (tno_d 77 rfl n)⟩
      · exact ⟨fun n hn => ⟨_, arr_i (tlen_i hn (show (78, 40) ∈ aiT by decide)) r78⟩, fun n hn => absurd hn (tno_l 78 rfl n), fun n hn => absurd hn (tno_d 78 rfl n)⟩
      · exact ⟨fun n hn => absurd hn (tno_i 79 rfl n), fun n hn => ⟨_, arr_l (tlen_l hn (show (79, 6001) ∈ alT by decide)) r79⟩, fun n hn => absurd hn (tno_d 79 rfl n)⟩
      · exact ⟨fun n hn => ⟨_, arr_i (tlen_i hn (show (80, 16384) ∈ aiT by decide)) r80⟩, fun n hn => absurd hn (tno_l 80 rfl n), fun n hn => absurd hn (tno_d 80 rfl n)⟩
      · exact ⟨fun n hn => ⟨_, arr_i (tlen_i hn (show (81, 6002) ∈ aiT by decide)) r81⟩, fun n hn => absurd hn (tno_l 81 rfl n), fun n hn => absurd hn (tno_d 81 rfl n)⟩
      · exact ⟨fun n hn => ⟨_, arr_i (tlen_i hn (show (82, 84000) ∈ aiT by decide)) r82⟩, fun n hn => absurd hn (tno_l 82 rfl n), fun n hn => absurd hn (tno_d 82 rfl n)⟩
      · exact ⟨fun n hn => ⟨_, arr_i (tlen_i hn (show (83, 84000) ∈ aiT by decide)) r83⟩, fun n hn => absurd hn (tno_l 83 rfl n), fun n hn => absurd hn (tno_d 83 rfl n)⟩
      · exact ⟨fun n hn => ⟨_, arr_i (tlen_i hn (show (84, 84000) ∈ aiT by decide)) r84⟩, fun n hn => absurd hn (tno_l 84 rfl n), fun n hn => absurd hn (tno_d 84 rfl n)⟩
      · exact ⟨fun n hn => ⟨_, arr_i (tlen_i hn (show (85, 84000) ∈ aiT by decide)) r85⟩, fun n hn => absurd hn (tno_l 85 rfl n), fun n hn => absurd hn (tno_d 85 rfl n)⟩
      · exact ⟨fun n hn => ⟨_, arr_i (tlen_i hn (show (86, 84000) ∈ aiT by decide)) r86⟩, fun n hn => absurd hn (tno_l 86 rfl n), fun n hn => absurd hn (tno_d 86 rfl n)⟩
      · exact ⟨fun n hn => ⟨_, arr_i (tlen_i hn (show (97, 6001) ∈ aiT by decide)) r97⟩, fun n hn => absurd hn (tno_l 97 rfl n), fun n hn => absurd hn (tno_d 97 rfl n)⟩))
  · unfold DXw
    rw [lv_same ((f2 8 rfl).trans (f1 8 rfl)), iv_same ((f2 9 rfl).trans (f1 9 rfl)), iv_same ((f2 10 rfl).trans (f1 10 rfl)), iv_same ((f2 200 rfl).trans (f1 200 rfl)), lv_same ((f2 201 rfl).trans (f1 201 rfl)), iv_same ((f2 500 rfl).trans (f1 500 rfl)), lv_same ((f2 501 rfl).trans (f1 501 rfl)), ai_same ((g2 1 rfl).trans (g1 1 rfl)), lv_same ((f2 6904 rfl).trans (f1 6904 rfl)), iv_same ((f2 6906 rfl).trans (f1 6906 rfl)), iv_same ((f2 6909 rfl).trans (f1 6909 rfl)), iv_same ((f2 6911 rfl).trans (f1 6911 rfl)), ai_same ((g2 70 rfl).trans (g1 70 rfl)), ai_same ((g2 71 rfl).trans (g1 71 rfl)), ai_same ((g2 72 rfl).trans (g1 72 rfl)), ai_same ((g2 73 rfl).trans (g1 73 rfl))]
    exact hD
  · unfold IXw
    rw [iv_same ((f2 11 rfl).trans (f1 11 rfl)), lv_same ((f2 12 rfl).trans (f1 12 rfl)), iv_same ((f2 13 rfl).trans (f1 13 rfl)), iv_same ((f2 14 rfl).trans (f1 14 rfl)), iv_same ((f2 6912 rfl).trans (f1 6912 rfl)), lv_same ((f2 6913 rfl).trans (f1 6913 rfl)), iv_same ((f2 6915 rfl).trans (f1 6915 rfl)), ai_same ((g2 74 rfl).trans (g1 74 rfl))]
    exact hX
  · unfold TXw
    rw [iv_same ((f2 2400 rfl).trans (f1 2400 rfl)), ai_same ((g2 26 rfl).trans (g1 26 rfl)), iv_same ((f2 6917 rfl).trans (f1 6917 rfl)), ai_same ((g2 75 rfl).trans (g1 75 rfl))]
    exact hT
  · unfold SVw
    rw [lv_eq ((f2 2706 rfl).trans p2706), iv_eq ((f2 2707 rfl).trans p2707), iv_eq ((f2 2708 rfl).trans p2708), iv_eq ((f2 2802 rfl).trans p2802), iv_eq ((f2 2803 rfl).trans p2803), ai_eq ((g2 30 rfl).trans r30), ai_eq ((g2 35 rfl).trans r35), al_eq ((g2 38 rfl).trans r38), ai_same ((g2 44 rfl).trans (g1 44 rfl)), ai_eq ((g2 57 rfl).trans r57), ai_eq ((g2 59 rfl).trans r59)]
    exact Or.inr hV'
  · unfold ENw
    rw [lv_same ((f2 2709 rfl).trans (f1 2709 rfl)), iv_same ((f2 2710 rfl).trans (f1 2710 rfl))]
    exact hE
  · unfold CEw
    rw [iv_same ((f2 2705 rfl).trans (f1 2705 rfl)), ai_same ((g2 67 rfl).trans (g1 67 rfl))]
    exact hC
theorem cw_way {F N : Nat} {q : Nat → Nat} {m0 : Nat → Value} {a0 : Nat → vp_A} (hF : 800000 ≤ F) (hI : INV F N q m0 a0) (p1 : Int32) (p2 : Int32) {l : Launch} {D : va_G} {cy : Nat → ClassId} {sz : Nat} : ∃ (out : Int32) (Q : (Nat → Value) → (Nat → vp_A) → Prop), gMi l yX11_way cX11_way 4 (some .int) ({ frames := 7, cells := 0, slots := 0, locals := 170 } : Room) D cy N q m0 a0 sz [.ref (q 0), .int p1, .int p2] (fun r m' a' => r = out ∧ Q m' a') ∧ ∀ (m1 : Nat → Value) (a1 : Nat → vp_A) (sz1 : Nat), Q m1 a1 → gMi l yX12_way cX12_way 7 (some .int) ({ frames := 8, cells := 0, slots := 0, locals := 188 } : Room) D cy N q m1 a1 sz1 [.ref (q 69), .int p1, .int p2] (fun r m' a' => r = out ∧ INV F N q m' a') := by
  obtain ⟨hN, hsh, hty, hta, hod, kr, cap, lab, ack, cop, hst, hs, hD, hX, hT, hV, hE, hC⟩ := hI
  obtain ⟨⟨hkr, hgk, hrf⟩, ⟨b0, b1, b2, b3⟩, c0, c1, c2, c3⟩ := id hst
  have hb0 := hs.1
  have hb1 := hs.2.1
  have hb2 := hs.2.2.1
  have hb3 := hs.2.2.2
  have hc : Good cap (lv m0 8) := ⟨hD.2.1, _, hD.1⟩
  obtain ⟨out, me', ra', size', known', y311, y312, B30, B33, B35, B37, B38, B57, B59, B61, B63, B65, rr, e1, e2, hV'⟩ := way_call hs hc hD.1 (show 70000 ≤ F by omega) hV (iv m0 3101) (iv m0 3102) (ai a0 33) (ai a0 37) (ai a0 61) (ai a0 63) (ai a0 65) (iv m0 6918) (lv m0 6919) (iv m0 6920) (iv m0 6921) (iv m0 6922) (iv m0 6927) (iv m0 6935) (ai a0 76) (ai a0 77) (ai a0 78) (al a0 79) (ai a0 80) (ai a0 81) (ai a0 82) (ai a0 83) (ai a0 84) (ai a0 85) (ai a0 86) (ai a0 97) p1 p2
  have k1 := kX11_way (m0 := m0) (a0 := a0) (q := q) (l := l) (D := D) (cy := cy) (sz := sz) (hN := hN) (hsh := hsh) (hkr := hkr) (hgk := hgk) (hrf := hrf) (h_x0_8 := hty.2 8 rfl) (h_xkr_0 := b0) (h_xkr_1 := b1) (h_xkr_2 := b2) (h_xkr_3 := b3) (h_x27_6 := hty.2 2706 rfl) (h_x27_7 := hty.1 2707 rfl) (h_x27_8 := hty.1 2708 rfl) (h_x28_2 := hty.1 2802 rfl) (h_x28_3 := hty.1 2803 rfl) (h_x31_1 := hty.1 3101 rfl) (h_x31_2 := hty.1 3102 rfl) (h_A30 := hta.1 (30, 6001) (by decide)) (h_A33 := hta.1 (33, 10) (by decide)) (h_A35 := hta.1 (35, 60000) (by decide)) (h_A37 := hta.1 (37, 16384) (by decide)) (h_A38 := hta.2.1 (38, 6000) (by decide)) (h_A57 := hta.1 (57, 6000) (by decide)) (h_A59 := hta.1 (59, 6000) (by decide)) (h_A61 := hta.1 (61, 6000) (by decide)) (h_A63 := hta.1 (63, 6001) (by decide)) (h_A65 := hta.1 (65, 60000) (by decide)) (F := F) (p1 := p1) (p2 := p2) (hs0 := e1)
  refine ⟨_, _, k1, ?_⟩
  intro m1 a1 sz1 hQ
  obtain ⟨p2706, p2707, p2708, p2802, p2803, p3101, p3102, f1, r30, r33, r35, r37, r38, r57, r59, r61, r63, r65, g1⟩ := hQ
  have d0 := (f1 6900 rfl).trans c0
  have d1 := (f1 6901 rfl).trans c1
  have d2 := (f1 6902 rfl).trans c2
  have d3 := (f1 6903 rfl).trans c3
  have hsh1 := hsh.off f1 rfl
  have k2 := kX12_way (m0 := m1) (a0 := a1) (q := q) (l := l) (D := D) (cy := cy) (sz := sz1) (hN := hN) (hsh := hsh1) (h_x69_0 := d0) (h_x69_1 := d1) (h_x69_2 := d2) (h_x69_3 := d3) (h_x69_4 := (f1 6904 rfl).trans (hty.2 6904 rfl)) (h_x69_18 := (f1 6918 rfl).trans (hty.1 6918 rfl)) (h_x69_19 := (f1 6919 rfl).trans (hty.2 6919 rfl)) (h_x69_20 := (f1 6920 rfl).trans (hty.1 6920 rfl)) (h_x69_21 := (f1 6921 rfl).trans (hty.1 6921 rfl)) (h_x69_22 := (f1 6922 rfl).trans (hty.1 6922 rfl)) (h_x69_27 := (f1 6927 rfl).trans (hty.1 6927 rfl)) (h_x69_35 := (f1 6935 rfl).trans (hty.1 6935 rfl)) (h_A76 := (g1 76 rfl).trans (hta.1 (76, 40) (by decide))) (h_A77 := (g1 77 rfl).trans (hta.1 (77, 40) (by decide))) (h_A78 := (g1 78 rfl).trans (hta.1 (78, 40) (by decide))) (h_A79 := (g1 79 rfl).trans (hta.2.1 (79, 6001) (by decide))) (h_A80 := (g1 80 rfl).trans (hta.1 (80, 16384) (by decide))) (h_A81 := (g1 81 rfl).trans (hta.1 (81, 6002) (by decide))) (h_A82 := (g1 82 rfl).trans (hta.1 (82, 84000) (by decide))) (h_A83 := (g1 83 rfl).trans (hta.1 (83, 84000) (by decide))) (h_A84 := (g1 84 rfl).trans (hta.1 (84, 84000) (by decide))) (h_A85 := (g1 85 rfl).trans (hta.1 (85, 84000) (by decide))) (h_A86 := (g1 86 rfl).trans (hta.1 (86, 84000) (by decide))) (h_A97 := (g1 97 rfl).trans (hta.1 (97, 6001) (by decide))) (F := F) (p1 := p1) (p2 := p2) (hs0 := e2)
  refine gMi_mono k2 (fun r m2 a2 h => ?_)
  obtain ⟨hr, p6918, p6919, p6920, p6921, p6922, p6927, p6935, f2, r76, r77, r78, r79, r80, r81, r82, r83, r84, r85, r86, r97, g2⟩ := h
  refine ⟨hr, hN, hsh1.off f2 rfl, ?_, ?_, od_off (od_off hod f1 g1 rfl rfl rfl rfl) f2 g2 rfl rfl rfl rfl, kr, cap, lab, ack, cop, stw_off (stw_off hst f1 rfl rfl rfl rfl rfl rfl) f2 rfl rfl rfl rfl rfl rfl, hs, ?_, ?_, ?_, ?_, ?_, ?_⟩
  · have t1 : TYM m1 := (tym_off hty f1 (fun j hj => by
      simp only [List.mem_cons, List.not_mem_nil, or_false] at hj
      rcases hj with rfl | rfl | rfl | rfl | rfl | rfl | rfl
      · exact ⟨fun z => absurd z (by decide), fun _ => ⟨_, p2706⟩⟩
      · exact ⟨fun _ => ⟨_, p2707⟩, fun z => absurd z (by decide)⟩
      · exact ⟨fun _ => ⟨_, p2708⟩, fun z => absurd z (by decide)⟩
      · exact ⟨fun _ => ⟨_, p2802⟩, fun z => absurd z (by decide)⟩
      · exact ⟨fun _ => ⟨_, p2803⟩, fun z => absurd z (by decide)⟩
      · exact ⟨fun _ => ⟨_, p3101⟩, fun z => absurd z (by decide)⟩
      · exact ⟨fun _ => ⟨_, p3102⟩, fun z => absurd z (by decide)⟩))
    exact (tym_off t1 f2 (fun j hj => by
      simp only [List.mem_cons, List.not_mem_nil, or_false] at hj
      rcases hj with rfl | rfl | rfl | rfl | rfl | rfl | rfl
      · exact ⟨fun _ => ⟨_, p6918⟩, fun z => absurd z (by decide)⟩
      · exact ⟨fun z => absurd z (by decide), fun _ => ⟨_, p6919⟩⟩
      · exact ⟨fun _ => ⟨_, p6920⟩, fun z => absurd z (by decide)⟩
      · exact ⟨fun _ => ⟨_, p6921⟩, fun z => absurd z (by decide)⟩
      · exact ⟨fun _ => ⟨_, p6922⟩, fun z => absurd z (by decide)⟩
      · exact ⟨fun _ => ⟨_, p6927⟩, fun z => absurd z (by decide)⟩
      · exact ⟨fun _ => ⟨_, p6935⟩, fun z => absurd z (by decide)⟩))
  · have t1 : TYA a1 := (tya_off hta g1 (fun j hj => by
      simp only [List.mem_cons, List.not_mem_nil, or_false] at hj
      rcases hj with rfl | rfl | rfl | rfl | rfl | rfl | rfl | rfl | rfl | rfl
      · exact ⟨fun n hn => ⟨_, arr_i (tlen_i hn (show (30, 6001) ∈ aiT by decide)) r30⟩, fun n hn => absurd hn (tno_l 30 rfl n), fun n hn => absurd hn (tno_d 30 rfl n)⟩
      · exact ⟨fun n hn => ⟨_, arr_i (tlen_i hn (show (33, 10) ∈ aiT by decide)) r33⟩, fun n hn => absurd hn (tno_l 33 rfl n), fun n hn => absurd hn (tno_d 33 rfl n)⟩
      · exact ⟨fun n hn => ⟨_, arr_i (tlen_i hn (show (35, 60000) ∈ aiT by decide)) r35⟩, fun n hn => absurd hn (tno_l 35 rfl n), fun n hn => absurd hn (tno_d 35 rfl n)⟩
      · exact ⟨fun n hn => ⟨_, arr_i (tlen_i hn (show (37, 16384) ∈ aiT by decide)) r37⟩, fun n hn => absurd hn (tno_l 37 rfl n), fun n hn => absurd hn (tno_d 37 rfl n)⟩
      · exact ⟨fun n hn => absurd hn (tno_i 38 rfl n), fun n hn => ⟨_, arr_l (tlen_l hn (show (38, 6000) ∈ alT by decide)) r38⟩, fun n hn => absurd hn (tno_d 38 rfl n)⟩
      · exact ⟨fun n hn => ⟨_, arr_i (tlen_i hn (show (57, 6000) ∈ aiT by decide)) r57⟩, fun n hn => absurd hn (tno_l 57 rfl n), fun n hn => absurd hn (tno_d 57 rfl n)⟩
      · exact ⟨fun n hn => ⟨_, arr_i (tlen_i hn (show (59, 6000) ∈ aiT by decide)) r59⟩, fun n hn => absurd hn (tno_l 59 rfl n), fun n hn => absurd hn (tno_d 59 rfl n)⟩
      · exact ⟨fun n hn => ⟨_, arr_i (tlen_i hn (show (61, 6000) ∈ aiT by decide)) r61⟩, fun n hn => absurd hn (tno_l 61 rfl n), fun n hn => absurd hn (tno_d 61 rfl n)⟩
      · exact ⟨fun n hn => ⟨_, arr_i (tlen_i hn (show (63, 6001) ∈ aiT by decide)) r63⟩, fun n hn => absurd hn (tno_l 63 rfl n), fun n hn => absurd hn (tno_d 63 rfl n)⟩
      · exact ⟨fun n hn => ⟨_, arr_i (tlen_i hn (show (65, 60000) ∈ aiT by decide)) r65⟩, fun n hn => absurd hn (tno_l 65 rfl n), fun n hn => absurd hn (tno_d 65 rfl n)⟩))
    exact (tya_off t1 g2 (fun j hj => by
      simp only [List.mem_cons, List.not_mem_nil, or_false] at hj
      rcases hj with rfl | rfl | rfl | rfl | rfl | rfl | rfl | rfl | rfl | rfl | rfl | rfl
      · exact ⟨fun n hn => ⟨_, arr_i (tlen_i hn (show (76, 40) ∈ aiT by decide)) r76⟩, fun n hn => absurd hn (tno_l 76 rfl n), fun n hn => absurd hn (tno_d 76 rfl n)⟩
      · exact ⟨fun n hn => ⟨_, arr_i (tlen_i hn (show (77, 40) ∈ aiT by decide)) r77⟩, fun n hn => absurd hn (tno_l 77 rfl n), fun n hn => absurd hn (tno_d 77 rfl n)⟩
      · exact ⟨fun n hn => ⟨_, arr_i (tlen_i hn (show (78, 40) ∈ aiT by decide)) r78⟩, fun n hn => absurd hn (tno_l 78 rfl n), fun n hn => absurd hn (tno_d 78 rfl n)⟩
      · exact ⟨fun n hn => absurd hn (tno_i 79 rfl n), fun n hn => ⟨_, arr_l (tlen_l hn (show (79, 6001) ∈ alT by decide)) r79⟩, fun n hn => absurd hn (tno_d 79 rfl n)⟩
      · exact ⟨fun n hn => ⟨_, arr_i (tlen_i hn (show (80, 16384) ∈ aiT by decide)) r80⟩, fun n hn => absurd hn (tno_l 80 rfl n), fun n hn => absurd hn (tno_d 80 rfl n)⟩
      · exact ⟨fun n hn => ⟨_, arr_i (tlen_i hn (show (81, 6002) ∈ aiT by decide)) r81⟩, fun n hn => absurd hn (tno_l 81 rfl n), fun n hn => absurd hn (tno_d 81 rfl n)⟩
      · exact ⟨fun n hn => ⟨_, arr_i (tlen_i hn (show (82, 84000) ∈ aiT by decide)) r82⟩, fun n hn => absurd hn (tno_l 82 rfl n), fun n hn => absurd hn (tno_d 82 rfl n)⟩
      · exact ⟨fun n hn => ⟨_, arr_i (tlen_i hn (show (83, 84000) ∈ aiT by decide)) r83⟩, fun n hn => absurd hn (tno_l 83 rfl n), fun n hn => absurd hn (tno_d 83 rfl n)⟩
      · exact ⟨fun n hn => ⟨_, arr_i (tlen_i hn (show (84, 84000) ∈ aiT by decide)) r84⟩, fun n hn => absurd hn (tno_l 84 rfl n), fun n hn => absurd hn (tno_d 84 rfl n)⟩
      · exact ⟨fun n hn => ⟨_, arr_i (tlen_i hn (show (85, 84000) ∈ aiT by decide)) r85⟩, fun n hn => absurd hn (tno_l 85 rfl n), fun n hn => absurd hn (tno_d 85 rfl n)⟩
      · exact ⟨fun n hn => ⟨_, arr_i (tlen_i hn (show (86, 84000) ∈ aiT by decide)) r86⟩, fun n hn => absurd hn (tno_l 86 rfl n), fun n hn => absurd hn (tno_d 86 rfl n)⟩
      · exact ⟨fun n hn => ⟨_, arr_i (tlen_i hn (show (97, 6001) ∈ aiT by decide)) r97⟩, fun n hn => absurd hn (tno_l 97 rfl n), fun n hn => absurd hn (tno_d 97 rfl n)⟩))
  · unfold DXw
    rw [lv_same ((f2 8 rfl).trans (f1 8 rfl)), iv_same ((f2 9 rfl).trans (f1 9 rfl)), iv_same ((f2 10 rfl).trans (f1 10 rfl)), iv_same ((f2 200 rfl).trans (f1 200 rfl)), lv_same ((f2 201 rfl).trans (f1 201 rfl)), iv_same ((f2 500 rfl).trans (f1 500 rfl)), lv_same ((f2 501 rfl).trans (f1 501 rfl)), ai_same ((g2 1 rfl).trans (g1 1 rfl)), lv_same ((f2 6904 rfl).trans (f1 6904 rfl)), iv_same ((f2 6906 rfl).trans (f1 6906 rfl)), iv_same ((f2 6909 rfl).trans (f1 6909 rfl)), iv_same ((f2 6911 rfl).trans (f1 6911 rfl)), ai_same ((g2 70 rfl).trans (g1 70 rfl)), ai_same ((g2 71 rfl).trans (g1 71 rfl)), ai_same ((g2 72 rfl).trans (g1 72 rfl)), ai_same ((g2 73 rfl).trans (g1 73 rfl))]
    exact hD
  · unfold IXw
    rw [iv_same ((f2 11 rfl).trans (f1 11 rfl)), lv_same ((f2 12 rfl).trans (f1 12 rfl)), iv_same ((f2 13 rfl).trans (f1 13 rfl)), iv_same ((f2 14 rfl).trans (f1 14 rfl)), iv_same ((f2 6912 rfl).trans (f1 6912 rfl)), lv_same ((f2 6913 rfl).trans (f1 6913 rfl)), iv_same ((f2 6915 rfl).trans (f1 6915 rfl)), ai_same ((g2 74 rfl).trans (g1 74 rfl))]
    exact hX
  · unfold TXw
    rw [iv_same ((f2 2400 rfl).trans (f1 2400 rfl)), ai_same ((g2 26 rfl).trans (g1 26 rfl)), iv_same ((f2 6917 rfl).trans (f1 6917 rfl)), ai_same ((g2 75 rfl).trans (g1 75 rfl))]
    exact hT
  · unfold SVw
    rw [lv_eq ((f2 2706 rfl).trans p2706), iv_eq ((f2 2707 rfl).trans p2707), iv_eq ((f2 2708 rfl).trans p2708), iv_eq ((f2 2802 rfl).trans p2802), iv_eq ((f2 2803 rfl).trans p2803), ai_eq ((g2 30 rfl).trans r30), ai_eq ((g2 35 rfl).trans r35), al_eq ((g2 38 rfl).trans r38), ai_same ((g2 44 rfl).trans (g1 44 rfl)), ai_eq ((g2 57 rfl).trans r57), ai_eq ((g2 59 rfl).trans r59)]
    exact Or.inr hV'
  · unfold ENw
    rw [lv_same ((f2 2709 rfl).trans (f1 2709 rfl)), iv_same ((f2 2710 rfl).trans (f1 2710 rfl))]
    exact hE
  · unfold CEw
    rw [iv_same ((f2 2705 rfl).trans (f1 2705 rfl)), ai_same ((g2 67 rfl).trans (g1 67 rfl))]
    exact hC
theorem cw_worst {F N : Nat} {q : Nat → Nat} {m0 : Nat → Value} {a0 : Nat → vp_A} (hF : 800000 ≤ F) (hI : INV F N q m0 a0)  {l : Launch} {D : va_G} {cy : Nat → ClassId} {sz : Nat} : ∃ (out : Int32) (Q : (Nat → Value) → (Nat → vp_A) → Prop), gMi l yX11_worst cX11_worst 1 (some .int) ({ frames := 7, cells := 0, slots := 0, locals := 170 } : Room) D cy N q m0 a0 sz [.ref (q 0)] (fun r m' a' => r = out ∧ Q m' a') ∧ ∀ (m1 : Nat → Value) (a1 : Nat → vp_A) (sz1 : Nat), Q m1 a1 → gMi l yX12_worst cX12_worst 1 (some .int) ({ frames := 8, cells := 0, slots := 0, locals := 188 } : Room) D cy N q m1 a1 sz1 [.ref (q 69)] (fun r m' a' => r = out ∧ INV F N q m' a') := by
  obtain ⟨hN, hsh, hty, hta, hod, kr, cap, lab, ack, cop, hst, hs, hD, hX, hT, hV, hE, hC⟩ := hI
  obtain ⟨⟨hkr, hgk, hrf⟩, ⟨b0, b1, b2, b3⟩, c0, c1, c2, c3⟩ := id hst
  have hb0 := hs.1
  have hb1 := hs.2.1
  have hb2 := hs.2.2.1
  have hb3 := hs.2.2.2
  have hc : Good cap (lv m0 8) := ⟨hD.2.1, _, hD.1⟩
  obtain ⟨out, me', ra', size', known', y311, y312, y426, y427, B30, B33, B35, B37, B38, B44, B46, B48, B50, B52, B54, rr, e1, e2, hV'⟩ := worst_call hs hc hD.1 (show 70000 ≤ F by omega) hV (iv m0 3101) (iv m0 3102) (iv m0 4206) (iv m0 4207) (ai a0 33) (ai a0 37) (ai a0 46) (ai a0 48) (ai a0 50) (ai a0 52) (ai a0 54) (iv m0 6918) (lv m0 6919) (iv m0 6920) (iv m0 6921) (iv m0 6922) (iv m0 6927) (iv m0 6935) (iv m0 6943) (iv m0 6944) (iv m0 6945) (ai a0 76) (ai a0 77) (ai a0 78) (al a0 79) (ai a0 80) (ai a0 81) (ai a0 82) (ai a0 83) (ai a0 84) (ai a0 85) (ai a0 86) (ai a0 87) (ai a0 88) (ai a0 89) (ai a0 90) (ai a0 91) (ai a0 92) (ai a0 93) (ai a0 94) (ai a0 95) (ai a0 96)
  have k1 := kX11_worst (m0 := m0) (a0 := a0) (q := q) (l := l) (D := D) (cy := cy) (sz := sz) (hN := hN) (hsh := hsh) (hkr := hkr) (hgk := hgk) (hrf := hrf) (h_x0_8 := hty.2 8 rfl) (h_xkr_0 := b0) (h_xkr_1 := b1) (h_xkr_2 := b2) (h_xkr_3 := b3) (h_x27_6 := hty.2 2706 rfl) (h_x27_7 := hty.1 2707 rfl) (h_x27_8 := hty.1 2708 rfl) (h_x28_2 := hty.1 2802 rfl) (h_x28_3 := hty.1 2803 rfl) (h_x31_1 := hty.1 3101 rfl) (h_x31_2 := hty.1 3102 rfl) (h_x42_6 := hty.1 4206 rfl) (h_x42_7 := hty.1 4207 rfl) (h_A30 := hta.1 (30, 6001) (by decide)) (h_A33 := hta.1 (33, 10) (by decide)) (h_A35 := hta.1 (35, 60000) (by decide)) (h_A37 := hta.1 (37, 16384) (by decide)) (h_A38 := hta.2.1 (38, 6000) (by decide)) (h_A44 := hta.1 (44, 6000) (by decide)) (h_A46 := hta.1 (46, 6000) (by decide)) (h_A48 := hta.1 (48, 6000) (by decide)) (h_A50 := hta.1 (50, 6000) (by decide)) (h_A52 := hta.1 (52, 6000) (by decide)) (h_A54 := hta.1 (54, 6000) (by decide)) (F := F)  (hs0 := e1)
  refine ⟨_, _, k1, ?_⟩
  intro m1 a1 sz1 hQ
  obtain ⟨p2706, p2707, p2708, p2802, p2803, p3101, p3102, p4206, p4207, f1, r30, r33, r35, r37, r38, r44, r46, r48, r50, r52, r54, g1⟩ := hQ
  have d0 := (f1 6900 rfl).trans c0
  have d1 := (f1 6901 rfl).trans c1
  have d2 := (f1 6902 rfl).trans c2
  have d3 := (f1 6903 rfl).trans c3
  have hsh1 := hsh.off f1 rfl
  have k2 := kX12_worst (m0 := m1) (a0 := a1) (q := q) (l := l) (D := D) (cy := cy) (sz := sz1) (hN := hN) (hsh := hsh1) (h_x69_0 := d0) (h_x69_1 := d1) (h_x69_2 := d2) (h_x69_3 := d3) (h_x69_4 := (f1 6904 rfl).trans (hty.2 6904 rfl)) (h_x69_18 := (f1 6918 rfl).trans (hty.1 6918 rfl)) (h_x69_19 := (f1 6919 rfl).trans (hty.2 6919 rfl)) (h_x69_20 := (f1 6920 rfl).trans (hty.1 6920 rfl)) (h_x69_21 := (f1 6921 rfl).trans (hty.1 6921 rfl)) (h_x69_22 := (f1 6922 rfl).trans (hty.1 6922 rfl)) (h_x69_27 := (f1 6927 rfl).trans (hty.1 6927 rfl)) (h_x69_35 := (f1 6935 rfl).trans (hty.1 6935 rfl)) (h_x69_43 := (f1 6943 rfl).trans (hty.1 6943 rfl)) (h_x69_44 := (f1 6944 rfl).trans (hty.1 6944 rfl)) (h_x69_45 := (f1 6945 rfl).trans (hty.1 6945 rfl)) (h_A76 := (g1 76 rfl).trans (hta.1 (76, 40) (by decide))) (h_A77 := (g1 77 rfl).trans (hta.1 (77, 40) (by decide))) (h_A78 := (g1 78 rfl).trans (hta.1 (78, 40) (by decide))) (h_A79 := (g1 79 rfl).trans (hta.2.1 (79, 6001) (by decide))) (h_A80 := (g1 80 rfl).trans (hta.1 (80, 16384) (by decide))) (h_A81 := (g1 81 rfl).trans (hta.1 (81, 6002) (by decide))) (h_A82 := (g1 82 rfl).trans (hta.1 (82, 84000) (by decide))) (h_A83 := (g1 83 rfl).trans (hta.1 (83, 84000) (by decide))) (h_A84 := (g1 84 rfl).trans (hta.1 (84, 84000) (by decide))) (h_A85 := (g1 85 rfl).trans (hta.1 (85, 84000) (by decide))) (h_A86 := (g1 86 rfl).trans (hta.1 (86, 84000) (by decide))) (h_A87 := (g1 87 rfl).trans (hta.1 (87, 6001) (by decide))) (h_A88 := (g1 88 rfl).trans (hta.1 (88, 6001) (by decide))) (h_A89 := (g1 89 rfl).trans (hta.1 (89, 6001) (by decide))) (h_A90 := (g1 90 rfl).trans (hta.1 (90, 6001) (by decide))) (h_A91 := (g1 91 rfl).trans (hta.1 (91, 6001) (by decide))) (h_A92 := (g1 92 rfl).trans (hta.1 (92, 6001) (by decide))) (h_A93 := (g1 93 rfl).trans (hta.1 (93, 6001) (by decide))) (h_A94 := (g1 94 rfl).trans (hta.1 (94, 6001) (by decide))) (h_A95 := (g1 95 rfl).trans (hta.1 (95, 6001) (by decide))) (h_A96 := (g1 96 rfl).trans (hta.1 (96, 6002) (by decide))) (F := F)  (hs0 := e2)
  refine gMi_mono k2 (fun r m2 a2 h => ?_)
  obtain ⟨hr, p6918, p6919, p6920, p6921, p6922, p6927, p6935, p6943, p6944, p6945, f2, r76, r77, r78, r79, r80, r81, r82, r83, r84, r85, r86, r87, r88, r89, r90, r91, r92, r93, r94, r95, r96, g2⟩ := h
  refine ⟨hr, hN, hsh1.off f2 rfl, ?_, ?_, od_off (od_off hod f1 g1 rfl rfl rfl rfl) f2 g2 rfl rfl rfl rfl, kr, cap, lab, ack, cop, stw_off (stw_off hst f1 rfl rfl rfl rfl rfl rfl) f2 rfl rfl rfl rfl rfl rfl, hs, ?_, ?_, ?_, ?_, ?_, ?_⟩
  · have t1 : TYM m1 := (tym_off hty f1 (fun j hj => by
      simp only [List.mem_cons, List.not_mem_nil, or_false] at hj
      rcases hj with rfl | rfl | rfl | rfl | rfl | rfl | rfl | rfl | rfl
      · exact ⟨fun z => absurd z (by decide), fun _ => ⟨_, p2706⟩⟩
      · exact ⟨fun _ => ⟨_, p2707⟩, fun z => absurd z (by decide)⟩
      · exact ⟨fun _ => ⟨_, p2708⟩, fun z => absurd z (by decide)⟩
      · exact ⟨fun _ => ⟨_, p2802⟩, fun z => absurd z (by decide)⟩
      · exact ⟨fun _ => ⟨_, p2803⟩, fun z => absurd z (by decide)⟩
      · exact ⟨fun _ => ⟨_, p3101⟩, fun z => absurd z (by decide)⟩
      · exact ⟨fun _ => ⟨_, p3102⟩, fun z => absurd z (by decide)⟩
      · exact ⟨fun _ => ⟨_, p4206⟩, fun z => absurd z (by decide)⟩
      · exact ⟨fun _ => ⟨_, p4207⟩, fun z => absurd z (by decide)⟩))
    exact (tym_off t1 f2 (fun j hj => by
      simp only [List.mem_cons, List.not_mem_nil, or_false] at hj
      rcases hj with rfl | rfl | rfl | rfl | rfl | rfl | rfl | rfl | rfl | rfl
      · exact ⟨fun _ => ⟨_, p6918⟩, fun z => absurd z (by decide)⟩
      · exact ⟨fun z => absurd z (by decide), fun _ => ⟨_, p6919⟩⟩
      · exact ⟨fun _ => ⟨_, p6920⟩, fun z => absurd z (by decide)⟩
      · exact ⟨fun _ => ⟨_, p6921⟩, fun z => absurd z (by decide)⟩
      · exact ⟨fun _ => ⟨_, p6922⟩, fun z => absurd z (by decide)⟩
      · exact ⟨fun _ => ⟨_, p6927⟩, fun z => absurd z (by decide)⟩
      · exact ⟨fun _ => ⟨_, p6935⟩, fun z => absurd z (by decide)⟩
      · exact ⟨fun _ => ⟨_, p6943⟩, fun z => absurd z (by decide)⟩
      · exact ⟨fun _ => ⟨_, p6944⟩, fun z => absurd z (by decide)⟩
      · exact ⟨fun _ => ⟨_, p6945⟩, fun z => absurd z (by decide)⟩))
  · have t1 : TYA a1 := (tya_off hta g1 (fun j hj => by
      simp only [List.mem_cons, List.not_mem_nil, or_false] at hj
      rcases hj with rfl | rfl | rfl | rfl | rfl | rfl | rfl | rfl | rfl | rfl | rfl
      · exact ⟨fun n hn => ⟨_, arr_i (tlen_i hn (show (30, 6001) ∈ aiT by decide)) r30⟩, fun n hn => absurd hn (tno_l 30 rfl n), fun n hn => absurd hn (tno_d 30 rfl n)⟩
      · exact ⟨fun n hn => ⟨_, arr_i (tlen_i hn (show (33, 10) ∈ aiT by decide)) r33⟩, fun n hn => absurd hn (tno_l 33 rfl n), fun n hn => absurd hn (tno_d 33 rfl n)⟩
      · exact ⟨fun n hn => ⟨_, arr_i (tlen_i hn (show (35, 60000) ∈ aiT by decide)) r35⟩, fun n hn => absurd hn (tno_l 35 rfl n), fun n hn => absurd hn (tno_d 35 rfl n)⟩
      · exact ⟨fun n hn => ⟨_, arr_i (tlen_i hn (show (37, 16384) ∈ aiT by decide)) r37⟩, fun n hn => absurd hn (tno_l 37 rfl n), fun n hn => absurd hn (tno_d 37 rfl n)⟩
      · exact ⟨fun n hn => absurd hn (tno_i 38 rfl n), fun n hn => ⟨_, arr_l (tlen_l hn (show (38, 6000) ∈ alT by decide)) r38⟩, fun n hn => absurd hn (tno_d 38 rfl n)⟩
      · exact ⟨fun n hn => ⟨_, arr_i (tlen_i hn (show (44, 6000) ∈ aiT by decide)) r44⟩, fun n hn => absurd hn (tno_l 44 rfl n), fun n hn => absurd hn (tno_d 44 rfl n)⟩
      · exact ⟨fun n hn => ⟨_, arr_i (tlen_i hn (show (46, 6000) ∈ aiT by decide)) r46⟩, fun n hn => absurd hn (tno_l 46 rfl n), fun n hn => absurd hn (tno_d 46 rfl n)⟩
      · exact ⟨fun n hn => ⟨_, arr_i (tlen_i hn (show (48, 6000) ∈ aiT by decide)) r48⟩, fun n hn => absurd hn (tno_l 48 rfl n), fun n hn => absurd hn (tno_d 48 rfl n)⟩
      · exact ⟨fun n hn => ⟨_, arr_i (tlen_i hn (show (50, 6000) ∈ aiT by decide)) r50⟩, fun n hn => absurd hn (tno_l 50 rfl n), fun n hn => absurd hn (tno_d 50 rfl n)⟩
      · exact ⟨fun n hn => ⟨_, arr_i (tlen_i hn (show (52, 6000) ∈ aiT by decide)) r52⟩, fun n hn => absurd hn (tno_l 52 rfl n), fun n hn => absurd hn (tno_d 52 rfl n)⟩
      · exact ⟨fun n hn => ⟨_, arr_i (tlen_i hn (show (54, 6000) ∈ aiT by decide)) r54⟩, fun n hn => absurd hn (tno_l 54 rfl n), fun n hn => absurd hn (tno_d 54 rfl n)⟩))
    exact (tya_off t1 g2 (fun j hj => by
      simp only [List.mem_cons, List.not_mem_nil, or_false] at hj
      rcases hj with rfl | rfl | rfl | rfl | rfl | rfl | rfl | rfl | rfl | rfl | rfl | rfl | rfl | rfl | rfl | rfl | rfl | rfl | rfl | rfl | rfl
      · exact ⟨fun n hn => ⟨_, arr_i (tlen_i hn (show (76, 40) ∈ aiT by decide)) r76⟩, fun n hn => absurd hn (tno_l 76 rfl n), fun n hn => absurd hn (tno_d 76 rfl n)⟩
      · exact ⟨fun n hn => ⟨_, arr_i (tlen_i hn (show (77, 40) ∈ aiT by decide)) r77⟩, fun n hn => absurd hn (tno_l 77 rfl n), fun n hn => absurd hn (tno_d 77 rfl n)⟩
      · exact ⟨fun n hn => ⟨_, arr_i (tlen_i hn (show (78, 40) ∈ aiT by decide)) r78⟩, fun n hn => absurd hn (tno_l 78 rfl n), fun n hn => absurd hn (tno_d 78 rfl n)⟩
      · exact ⟨fun n hn => absurd hn (tno_i 79 rfl n), fun n hn => ⟨_, arr_l (tlen_l hn (show (79, 6001) ∈ alT by decide)) r79⟩, fun n hn => absurd hn (tno_d 79 rfl n)⟩
      · exact ⟨fun n hn => ⟨_, arr_i (tlen_i hn (show (80, 16384) ∈ aiT by decide)) r80⟩, fun n hn => absurd hn (tno_l 80 rfl n), fun n hn => absurd hn (tno_d 80 rfl n)⟩
      · exact ⟨fun n hn => ⟨_, arr_i (tlen_i hn (show (81, 6002) ∈ aiT by decide)) r81⟩, fun n hn => absurd hn (tno_l 81 rfl n), fun n hn => absurd hn (tno_d 81 rfl n)⟩
      · exact ⟨fun n hn => ⟨_, arr_i (tlen_i hn (show (82, 84000) ∈ aiT by decide)) r82⟩, fun n hn => absurd hn (tno_l 82 rfl n), fun n hn => absurd hn (tno_d 82 rfl n)⟩
      · exact ⟨fun n hn => ⟨_, arr_i (tlen_i hn (show (83, 84000) ∈ aiT by decide)) r83⟩, fun n hn => absurd hn (tno_l 83 rfl n), fun n hn => absurd hn (tno_d 83 rfl n)⟩
      · exact ⟨fun n hn => ⟨_, arr_i (tlen_i hn (show (84, 84000) ∈ aiT by decide)) r84⟩, fun n hn => absurd hn (tno_l 84 rfl n), fun n hn => absurd hn (tno_d 84 rfl n)⟩
      · exact ⟨fun n hn => ⟨_, arr_i (tlen_i hn (show (85, 84000) ∈ aiT by decide)) r85⟩, fun n hn => absurd hn (tno_l 85 rfl n), fun n hn => absurd hn (tno_d 85 rfl n)⟩
      · exact ⟨fun n hn => ⟨_, arr_i (tlen_i hn (show (86, 84000) ∈ aiT by decide)) r86⟩, fun n hn => absurd hn (tno_l 86 rfl n), fun n hn => absurd hn (tno_d 86 rfl n)⟩
      · exact ⟨fun n hn => ⟨_, arr_i (tlen_i hn (show (87, 6001) ∈ aiT by decide)) r87⟩, fun n hn => absurd hn (tno_l 87 rfl n), fun n hn => absurd hn (tno_d 87 rfl n)⟩
      · exact ⟨fun n hn => ⟨_, arr_i (tlen_i hn (show (88, 6001) ∈ aiT by decide)) r88⟩, fun n hn => absurd hn (tno_l 88 rfl n), fun n hn => absurd hn (tno_d 88 rfl n)⟩
      · exact ⟨fun n hn => ⟨_, arr_i (tlen_i hn (show (89, 6001) ∈ aiT by decide)) r89⟩, fun n hn => absurd hn (tno_l 89 rfl n), fun n hn => absurd hn (tno_d 89 rfl n)⟩
      · exact ⟨fun n hn => ⟨_, arr_i (tlen_i hn (show (90, 6001) ∈ aiT by decide)) r90⟩, fun n hn => absurd hn (tno_l 90 rfl n), fun n hn => absurd hn (tno_d 90 rfl n)⟩
      · exact ⟨fun n hn => ⟨_, arr_i (tlen_i hn (show (91, 6001) ∈ aiT by decide)) r91⟩, fun n hn => absurd hn (tno_l 91 rfl n), fun n hn => absurd hn (tno_d 91 rfl n)⟩
      · exact ⟨fun n hn => ⟨_, arr_i (tlen_i hn (show (92, 6001) ∈ aiT by decide)) r92⟩, fun n hn => absurd hn (tno_l 92 rfl n), fun n hn => absurd hn (tno_d 92 rfl n)⟩
      · exact ⟨fun n hn => ⟨_, arr_i (tlen_i hn (show (93, 6001) ∈ aiT by decide)) r93⟩, fun n hn => absurd hn (tno_l 93 rfl n), fun n hn => absurd hn (tno_d 93 rfl n)⟩
      · exact ⟨fun n hn => ⟨_, arr_i (tlen_i hn (show (94, 6001) ∈ aiT by decide)) r94⟩, fun n hn => absurd hn (tno_l 94 rfl n), fun n hn => absurd hn (tno_d 94 rfl n)⟩
      · exact ⟨fun n hn => ⟨_, arr_i (tlen_i hn (show (95, 6001) ∈ aiT by decide)) r95⟩, fun n hn => absurd hn (tno_l 95 rfl n), fun n hn => absurd hn (tno_d 95 rfl n)⟩
      · exact ⟨fun n hn => ⟨_, arr_i (tlen_i hn (show (96, 6002) ∈ aiT by decide)) r96⟩, fun n hn => absurd hn (tno_l 96 rfl n), fun n hn => absurd hn (tno_d 96 rfl n)⟩))
  · unfold DXw
    rw [lv_same ((f2 8 rfl).trans (f1 8 rfl)), iv_same ((f2 9 rfl).trans (f1 9 rfl)), iv_same ((f2 10 rfl).trans (f1 10 rfl)), iv_same ((f2 200 rfl).trans (f1 200 rfl)), lv_same ((f2 201 rfl).trans (f1 201 rfl)), iv_same ((f2 500 rfl).trans (f1 500 rfl)), lv_same ((f2 501 rfl).trans (f1 501 rfl)), ai_same ((g2 1 rfl).trans (g1 1 rfl)), lv_same ((f2 6904 rfl).trans (f1 6904 rfl)), iv_same ((f2 6906 rfl).trans (f1 6906 rfl)), iv_same ((f2 6909 rfl).trans (f1 6909 rfl)), iv_same ((f2 6911 rfl).trans (f1 6911 rfl)), ai_same ((g2 70 rfl).trans (g1 70 rfl)), ai_same ((g2 71 rfl).trans (g1 71 rfl)), ai_same ((g2 72 rfl).trans (g1 72 rfl)), ai_same ((g2 73 rfl).trans (g1 73 rfl))]
    exact hD
  · unfold IXw
    rw [iv_same ((f2 11 rfl).trans (f1 11 rfl)), lv_same ((f2 12 rfl).trans (f1 12 rfl)), iv_same ((f2 13 rfl).trans (f1 13 rfl)), iv_same ((f2 14 rfl).trans (f1 14 rfl)), iv_same ((f2 6912 rfl).trans (f1 6912 rfl)), lv_same ((f2 6913 rfl).trans (f1 6913 rfl)), iv_same ((f2 6915 rfl).trans (f1 6915 rfl)), ai_same ((g2 74 rfl).trans (g1 74 rfl))]
    exact hX
  · unfold TXw
    rw [iv_same ((f2 2400 rfl).trans (f1 2400 rfl)), ai_same ((g2 26 rfl).trans (g1 26 rfl)), iv_same ((f2 6917 rfl).trans (f1 6917 rfl)), ai_same ((g2 75 rfl).trans (g1 75 rfl))]
    exact hT
  · unfold SVw
    rw [lv_eq ((f2 2706 rfl).trans p2706), iv_eq ((f2 2707 rfl).trans p2707), iv_eq ((f2 2708 rfl).trans p2708), iv_eq ((f2 2802 rfl).trans p2802), iv_eq ((f2 2803 rfl).trans p2803), ai_eq ((g2 30 rfl).trans r30), ai_eq ((g2 35 rfl).trans r35), al_eq ((g2 38 rfl).trans r38), ai_eq ((g2 44 rfl).trans r44), ai_same ((g2 57 rfl).trans (g1 57 rfl)), ai_same ((g2 59 rfl).trans (g1 59 rfl))]
    exact Or.inr hV'
  · unfold ENw
    rw [lv_same ((f2 2709 rfl).trans (f1 2709 rfl)), iv_same ((f2 2710 rfl).trans (f1 2710 rfl))]
    exact hE
  · unfold CEw
    rw [iv_same ((f2 2705 rfl).trans (f1 2705 rfl)), ai_same ((g2 67 rfl).trans (g1 67 rfl))]
    exact hC
theorem cw_every {F N : Nat} {q : Nat → Nat} {m0 : Nat → Value} {a0 : Nat → vp_A} (hF : 800000 ≤ F) (hI : INV F N q m0 a0) (p1 : Int32) {l : Launch} {D : va_G} {cy : Nat → ClassId} {sz : Nat} : ∃ (out : Int32) (Q : (Nat → Value) → (Nat → vp_A) → Prop), gMi l yX11_every cX11_every 2 (some .int) ({ frames := 7, cells := 0, slots := 0, locals := 172 } : Room) D cy N q m0 a0 sz [.ref (q 0), .int p1] (fun r m' a' => r = out ∧ Q m' a') ∧ ∀ (m1 : Nat → Value) (a1 : Nat → vp_A) (sz1 : Nat), Q m1 a1 → gMi l yX12_every cX12_every 7 (some .int) ({ frames := 314, cells := 0, slots := 0, locals := 2647 } : Room) D cy N q m1 a1 sz1 [.ref (q 69), .int p1] (fun r m' a' => r = out ∧ INV F N q m' a') := by
  obtain ⟨hN, hsh, hty, hta, hod, kr, cap, lab, ack, cop, hst, hs, hD, hX, hT, hV, hE, hC⟩ := hI
  obtain ⟨⟨hkr, hgk, hrf⟩, ⟨b0, b1, b2, b3⟩, c0, c1, c2, c3⟩ := id hst
  have hb0 := hs.1
  have hb1 := hs.2.1
  have hb2 := hs.2.2.1
  have hb3 := hs.2.2.2
  obtain ⟨out, counted', ch', size', known', y311, y312, y426, y427, B30, B33, B35, B37, B38, B44, B46, B48, B50, B52, B54, B67, rr, e1, e2, hV', hC'⟩ := every_call hs (show 70000 ≤ F by omega) hV hC (iv m0 3101) (iv m0 3102) (iv m0 4206) (iv m0 4207) (ai a0 33) (ai a0 37) (ai a0 46) (ai a0 48) (ai a0 50) (ai a0 52) (ai a0 54) p1 (iv m0 6918) (lv m0 6919) (iv m0 6920) (iv m0 6921) (iv m0 6922) (iv m0 6927) (iv m0 6935) (iv m0 6943) (iv m0 6944) (iv m0 6945) (iv m0 6955) (ai a0 76) (ai a0 77) (ai a0 78) (al a0 79) (ai a0 80) (ai a0 81) (ai a0 82) (ai a0 83) (ai a0 84) (ai a0 85) (ai a0 86) (ai a0 87) (ai a0 88) (ai a0 89) (ai a0 90) (ai a0 91) (ai a0 92) (ai a0 93) (ai a0 94) (ai a0 95) (ai a0 96) (ai a0 100) (ai a0 101) (ai a0 102)
  have k1 := kX11_every (m0 := m0) (a0 := a0) (q := q) (l := l) (D := D) (cy := cy) (sz := sz) (hN := hN) (hsh := hsh) (hkr := hkr) (hgk := hgk) (hrf := hrf) (h_xkr_0 := b0) (h_xkr_1 := b1) (h_xkr_2 := b2) (h_xkr_3 := b3) (h_x27_5 := hty.1 2705 rfl) (h_x27_6 := hty.2 2706 rfl) (h_x28_2 := hty.1 2802 rfl) (h_x28_3 := hty.1 2803 rfl) (h_x31_1 := hty.1 3101 rfl) (h_x31_2 := hty.1 3102 rfl) (h_x42_6 := hty.1 4206 rfl) (h_x42_7 := hty.1 4207 rfl) (h_A30 := hta.1 (30, 6001) (by decide)) (h_A33 := hta.1 (33, 10) (by decide)) (h_A35 := hta.1 (35, 60000) (by decide)) (h_A37 := hta.1 (37, 16384) (by decide)) (h_A38 := hta.2.1 (38, 6000) (by decide)) (h_A44 := hta.1 (44, 6000) (by decide)) (h_A46 := hta.1 (46, 6000) (by decide)) (h_A48 := hta.1 (48, 6000) (by decide)) (h_A50 := hta.1 (50, 6000) (by decide)) (h_A52 := hta.1 (52, 6000) (by decide)) (h_A54 := hta.1 (54, 6000) (by decide)) (h_A67 := hta.1 (67, 10) (by decide)) (F := F) (p1 := p1) (hs0 := e1)
  refine ⟨_, _, k1, ?_⟩
  intro m1 a1 sz1 hQ
  obtain ⟨p2705, p2706, p2802, p2803, p3101, p3102, p4206, p4207, f1, r30, r33, r35, r37, r38, r44, r46, r48, r50, r52, r54, r67, g1⟩ := hQ
  have d0 := (f1 6900 rfl).trans c0
  have d1 := (f1 6901 rfl).trans c1
  have d2 := (f1 6902 rfl).trans c2
  have d3 := (f1 6903 rfl).trans c3
  have hsh1 := hsh.off f1 rfl
  have k2 := kX12_every (m0 := m1) (a0 := a1) (q := q) (l := l) (D := D) (cy := cy) (sz := sz1) (hN := hN) (hsh := hsh1) (h_x69_0 := d0) (h_x69_1 := d1) (h_x69_2 := d2) (h_x69_3 := d3) (h_x69_18 := (f1 6918 rfl).trans (hty.1 6918 rfl)) (h_x69_19 := (f1 6919 rfl).trans (hty.2 6919 rfl)) (h_x69_20 := (f1 6920 rfl).trans (hty.1 6920 rfl)) (h_x69_21 := (f1 6921 rfl).trans (hty.1 6921 rfl)) (h_x69_22 := (f1 6922 rfl).trans (hty.1 6922 rfl)) (h_x69_27 := (f1 6927 rfl).trans (hty.1 6927 rfl)) (h_x69_35 := (f1 6935 rfl).trans (hty.1 6935 rfl)) (h_x69_43 := (f1 6943 rfl).trans (hty.1 6943 rfl)) (h_x69_44 := (f1 6944 rfl).trans (hty.1 6944 rfl)) (h_x69_45 := (f1 6945 rfl).trans (hty.1 6945 rfl)) (h_x69_55 := (f1 6955 rfl).trans (hty.1 6955 rfl)) (h_A76 := (g1 76 rfl).trans (hta.1 (76, 40) (by decide))) (h_A77 := (g1 77 rfl).trans (hta.1 (77, 40) (by decide))) (h_A78 := (g1 78 rfl).trans (hta.1 (78, 40) (by decide))) (h_A79 := (g1 79 rfl).trans (hta.2.1 (79, 6001) (by decide))) (h_A80 := (g1 80 rfl).trans (hta.1 (80, 16384) (by decide))) (h_A81 := (g1 81 rfl).trans (hta.1 (81, 6002) (by decide))) (h_A82 := (g1 82 rfl).trans (hta.1 (82, 84000) (by decide))) (h_A83 := (g1 83 rfl).trans (hta.1 (83, 84000) (by decide))) (h_A84 := (g1 84 rfl).trans (hta.1 (84, 84000) (by decide))) (h_A85 := (g1 85 rfl).trans (hta.1 (85, 84000) (by decide))) (h_A86 := (g1 86 rfl).trans (hta.1 (86, 84000) (by decide))) (h_A87 := (g1 87 rfl).trans (hta.1 (87, 6001) (by decide))) (h_A88 := (g1 88 rfl).trans (hta.1 (88, 6001) (by decide))) (h_A89 := (g1 89 rfl).trans (hta.1 (89, 6001) (by decide))) (h_A90 := (g1 90 rfl).trans (hta.1 (90, 6001) (by decide))) (h_A91 := (g1 91 rfl).trans (hta.1 (91, 6001) (by decide))) (h_A92 := (g1 92 rfl).trans (hta.1 (92, 6001) (by decide))) (h_A93 := (g1 93 rfl).trans (hta.1 (93, 6001) (by decide))) (h_A94 := (g1 94 rfl).trans (hta.1 (94, 6001) (by decide))) (h_A95 := (g1 95 rfl).trans (hta.1 (95, 6001) (by decide))) (h_A96 := (g1 96 rfl).trans (hta.1 (96, 6002) (by decide))) (h_A100 := (g1 100 rfl).trans (hta.1 (100, 25) (by decide))) (h_A101 := (g1 101 rfl).trans (hta.1 (101, 25) (by decide))) (h_A102 := (g1 102 rfl).trans (hta.1 (102, 25) (by decide))) (F := F) (p1 := p1) (hs0 := e2)
  refine gMi_mono k2 (fun r m2 a2 h => ?_)
  obtain ⟨hr, p6918, p6919, p6920, p6921, p6922, p6927, p6935, p6943, p6944, p6945, p6955, f2, r76, r77, r78, r79, r80, r81, r82, r83, r84, r85, r86, r87, r88, r89, r90, r91, r92, r93, r94, r95, r96, r100, r101, r102, g2⟩ := h
  refine ⟨hr, hN, hsh1.off f2 rfl, ?_, ?_, od_off (od_off hod f1 g1 rfl rfl rfl rfl) f2 g2 rfl rfl rfl rfl, kr, cap, lab, ack, cop, stw_off (stw_off hst f1 rfl rfl rfl rfl rfl rfl) f2 rfl rfl rfl rfl rfl rfl, hs, ?_, ?_, ?_, ?_, ?_, ?_⟩
  · have t1 : TYM m1 := (tym_off hty f1 (fun j hj => by
      simp only [List.mem_cons, List.not_mem_nil, or_false] at hj
      rcases hj with rfl | rfl | rfl | rfl | rfl | rfl | rfl | rfl
      · exact ⟨fun _ => ⟨_, p2705⟩, fun z => absurd z (by decide)⟩
      · exact ⟨fun z => absurd z (by decide), fun _ => ⟨_, p2706⟩⟩
      · exact ⟨fun _ => ⟨_, p2802⟩, fun z => absurd z (by decide)⟩
      · exact ⟨fun _ => ⟨_, p2803⟩, fun z => absurd z (by decide)⟩
      · exact ⟨fun _ => ⟨_, p3101⟩, fun z => absurd z (by decide)⟩
      · exact ⟨fun _ => ⟨_, p3102⟩, fun z => absurd z (by decide)⟩
      · exact ⟨fun _ => ⟨_, p4206⟩, fun z => absurd z (by decide)⟩
      · exact ⟨fun _ => ⟨_, p4207⟩, fun z => absurd z (by decide)⟩))
    exact (tym_off t1 f2 (fun j hj => by
      simp only [List.mem_cons, List.not_mem_nil, or_false] at hj
      rcases hj with rfl | rfl | rfl | rfl | rfl | rfl | rfl | rfl | rfl | rfl | rfl
      · exact ⟨fun _ => ⟨_, p6918⟩, fun z => absurd z (by decide)⟩
      · exact ⟨fun z => absurd z (by decide), fun _ => ⟨_, p6919⟩⟩
      · exact ⟨fun _ => ⟨_, p6920⟩, fun z => absurd z (by decide)⟩
      · exact ⟨fun _ => ⟨_, p6921⟩, fun z => absurd z (by decide)⟩
      · exact ⟨fun _ => ⟨_, p6922⟩, fun z => absurd z (by decide)⟩
      · exact ⟨fun _ => ⟨_, p6927⟩, fun z => absurd z (by decide)⟩
      · exact ⟨fun _ => ⟨_, p6935⟩, fun z => absurd z (by decide)⟩
      · exact ⟨fun _ => ⟨_, p6943⟩, fun z => absurd z (by decide)⟩
      · exact ⟨fun _ => ⟨_, p6944⟩, fun z => absurd z (by decide)⟩
      · exact ⟨fun _ => ⟨_, p6945⟩, fun z => absurd z (by decide)⟩
      · exact ⟨fun _ => ⟨_, p6955⟩, fun z => absurd z (by decide)⟩))
  · have t1 : TYA a1 := (tya_off hta g1 (fun j hj => by
      simp only [List.mem_cons, List.not_mem_nil, or_false] at hj
      rcases hj with rfl | rfl | rfl | rfl | rfl | rfl | rfl | rfl | rfl | rfl | rfl | rfl
      · exact ⟨fun n hn => ⟨_, arr_i (tlen_i hn (show (30, 6001) ∈ aiT by decide)) r30⟩, fun n hn => absurd hn (tno_l 30 rfl n), fun n hn => absurd hn (tno_d 30 rfl n)⟩
      · exact ⟨fun n hn => ⟨_, arr_i (tlen_i hn (show (33, 10) ∈ aiT by decide)) r33⟩, fun n hn => absurd hn (tno_l 33 rfl n), fun n hn => absurd hn (tno_d 33 rfl n)⟩
      · exact ⟨fun n hn => ⟨_, arr_i (tlen_i hn (show (35, 60000) ∈ aiT by decide)) r35⟩, fun n hn => absurd hn (tno_l 35 rfl n), fun n hn => absurd hn (tno_d 35 rfl n)⟩
      · exact ⟨fun n hn => ⟨_, arr_i (tlen_i hn (show (37, 16384) ∈ aiT by decide)) r37⟩, fun n hn => absurd hn (tno_l 37 rfl n), fun n hn => absurd hn (tno_d 37 rfl n)⟩
      · exact ⟨fun n hn => absurd hn (tno_i 38 rfl n), fun n hn => ⟨_, arr_l (tlen_l hn (show (38, 6000) ∈ alT by decide)) r38⟩, fun n hn => absurd hn (tno_d 38 rfl n)⟩
      · exact ⟨fun n hn => ⟨_, arr_i (tlen_i hn (show (44, 6000) ∈ aiT by decide)) r44⟩, fun n hn => absurd hn (tno_l 44 rfl n), fun n hn => absurd hn (tno_d 44 rfl n)⟩
      · exact ⟨fun n hn => ⟨_, arr_i (tlen_i hn (show (46, 6000) ∈ aiT by decide)) r46⟩, fun n hn => absurd hn (tno_l 46 rfl n), fun n hn => absurd hn (tno_d 46 rfl n)⟩
      · exact ⟨fun n hn => ⟨_, arr_i (tlen_i hn (show (48, 6000) ∈ aiT by decide)) r48⟩, fun n hn => absurd hn (tno_l 48 rfl n), fun n hn => absurd hn (tno_d 48 rfl n)⟩
      · exact ⟨fun n hn => ⟨_, arr_i (tlen_i hn (show (50, 6000) ∈ aiT by decide)) r50⟩, fun n hn => absurd hn (tno_l 50 rfl n), fun n hn => absurd hn (tno_d 50 rfl n)⟩
      · exact ⟨fun n hn => ⟨_, arr_i (tlen_i hn (show (52, 6000) ∈ aiT by decide)) r52⟩, fun n hn => absurd hn (tno_l 52 rfl n), fun n hn => absurd hn (tno_d 52 rfl n)⟩
      · exact ⟨fun n hn => ⟨_, arr_i (tlen_i hn (show (54, 6000) ∈ aiT by decide)) r54⟩, fun n hn => absurd hn (tno_l 54 rfl n), fun n hn => absurd hn (tno_d 54 rfl n)⟩
      · exact ⟨fun n hn => ⟨_, arr_i (tlen_i hn (show (67, 10) ∈ aiT by decide)) r67⟩, fun n hn => absurd hn (tno_l 67 rfl n), fun n hn => absurd hn (tno_d 67 rfl n)⟩))
    exact (tya_off t1 g2 (fun j hj => by
      simp only [List.mem_cons, List.not_mem_nil, or_false] at hj
      rcases hj with rfl | rfl | rfl | rfl | rfl | rfl | rfl | rfl | rfl | rfl | rfl | rfl | rfl | rfl | rfl | rfl | rfl | rfl | rfl | rfl | rfl | rfl | rfl | rfl
      · exact ⟨fun n hn => ⟨_, arr_i (tlen_i hn (show (76, 40) ∈ aiT by decide)) r76⟩, fun n hn => absurd hn (tno_l 76 rfl n), fun n hn => absurd hn (tno_d 76 rfl n)⟩
      · exact ⟨fun n hn => ⟨_, arr_i (tlen_i hn (show (77, 40) ∈ aiT by decide)) r77⟩, fun n hn => absurd hn (tno_l 77 rfl n), fun n hn => absurd hn (tno_d 77 rfl n)⟩
      · exact ⟨fun n hn => ⟨_, arr_i (tlen_i hn (show (78, 40) ∈ aiT by decide)) r78⟩, fun n hn => absurd hn (tno_l 78 rfl n), fun n hn => absurd hn (tno_d 78 rfl n)⟩
      · exact ⟨fun n hn => absurd hn (tno_i 79 rfl n), fun n hn => ⟨_, arr_l (tlen_l hn (show (79, 6001) ∈ alT by decide)) r79⟩, fun n hn => absurd hn (tno_d 79 rfl n)⟩
      · exact ⟨fun n hn => ⟨_, arr_i (tlen_i hn (show (80, 16384) ∈ aiT by decide)) r80⟩, fun n hn => absurd hn (tno_l 80 rfl n), fun n hn => absurd hn (tno_d 80 rfl n)⟩
      · exact ⟨fun n hn => ⟨_, arr_i (tlen_i hn (show (81, 6002) ∈ aiT by decide)) r81⟩, fun n hn => absurd hn (tno_l 81 rfl n), fun n hn => absurd hn (tno_d 81 rfl n)⟩
      · exact ⟨fun n hn => ⟨_, arr_i (tlen_i hn (show (82, 84000) ∈ aiT by decide)) r82⟩, fun n hn => absurd hn (tno_l 82 rfl n), fun n hn => absurd hn (tno_d 82 rfl n)⟩
      · exact ⟨fun n hn => ⟨_, arr_i (tlen_i hn (show (83, 84000) ∈ aiT by decide)) r83⟩, fun n hn => absurd hn (tno_l 83 rfl n), fun n hn => absurd hn (tno_d 83 rfl n)⟩
      · exact ⟨fun n hn => ⟨_, arr_i (tlen_i hn (show (84, 84000) ∈ aiT by decide)) r84⟩, fun n hn => absurd hn (tno_l 84 rfl n), fun n hn => absurd hn (tno_d 84 rfl n)⟩
      · exact ⟨fun n hn => ⟨_, arr_i (tlen_i hn (show (85, 84000) ∈ aiT by decide)) r85⟩, fun n hn => absurd hn (tno_l 85 rfl n), fun n hn => absurd hn (tno_d 85 rfl n)⟩
      · exact ⟨fun n hn => ⟨_, arr_i (tlen_i hn (show (86, 84000) ∈ aiT by decide)) r86⟩, fun n hn => absurd hn (tno_l 86 rfl n), fun n hn => absurd hn (tno_d 86 rfl n)⟩
      · exact ⟨fun n hn => ⟨_, arr_i (tlen_i hn (show (87, 6001) ∈ aiT by decide)) r87⟩, fun n hn => absurd hn (tno_l 87 rfl n), fun n hn => absurd hn (tno_d 87 rfl n)⟩
      · exact ⟨fun n hn => ⟨_, arr_i (tlen_i hn (show (88, 6001) ∈ aiT by decide)) r88⟩, fun n hn => absurd hn (tno_l 88 rfl n), fun n hn => absurd hn (tno_d 88 rfl n)⟩
      · exact ⟨fun n hn => ⟨_, arr_i (tlen_i hn (show (89, 6001) ∈ aiT by decide)) r89⟩, fun n hn => absurd hn (tno_l 89 rfl n), fun n hn => absurd hn (tno_d 89 rfl n)⟩
      · exact ⟨fun n hn => ⟨_, arr_i (tlen_i hn (show (90, 6001) ∈ aiT by decide)) r90⟩, fun n hn => absurd hn (tno_l 90 rfl n), fun n hn => absurd hn (tno_d 90 rfl n)⟩
      · exact ⟨fun n hn => ⟨_, arr_i (tlen_i hn (show (91, 6001) ∈ aiT by decide)) r91⟩, fun n hn => absurd hn (tno_l 91 rfl n), fun n hn => absurd hn (tno_d 91 rfl n)⟩
      · exact ⟨fun n hn => ⟨_, arr_i (tlen_i hn (show (92, 6001) ∈ aiT by decide)) r92⟩, fun n hn => absurd hn (tno_l 92 rfl n), fun n hn => absurd hn (tno_d 92 rfl n)⟩
      · exact ⟨fun n hn => ⟨_, arr_i (tlen_i hn (show (93, 6001) ∈ aiT by decide)) r93⟩, fun n hn => absurd hn (tno_l 93 rfl n), fun n hn => absurd hn (tno_d 93 rfl n)⟩
      · exact ⟨fun n hn => ⟨_, arr_i (tlen_i hn (show (94, 6001) ∈ aiT by decide)) r94⟩, fun n hn => absurd hn (tno_l 94 rfl n), fun n hn => absurd hn (tno_d 94 rfl n)⟩
      · exact ⟨fun n hn => ⟨_, arr_i (tlen_i hn (show (95, 6001) ∈ aiT by decide)) r95⟩, fun n hn => absurd hn (tno_l 95 rfl n), fun n hn => absurd hn (tno_d 95 rfl n)⟩
      · exact ⟨fun n hn => ⟨_, arr_i (tlen_i hn (show (96, 6002) ∈ aiT by decide)) r96⟩, fun n hn => absurd hn (tno_l 96 rfl n), fun n hn => absurd hn (tno_d 96 rfl n)⟩
      · exact ⟨fun n hn => ⟨_, arr_i (tlen_i hn (show (100, 25) ∈ aiT by decide)) r100⟩, fun n hn => absurd hn (tno_l 100 rfl n), fun n hn => absurd hn (tno_d 100 rfl n)⟩
      · exact ⟨fun n hn => ⟨_, arr_i (tlen_i hn (show (101, 25) ∈ aiT by decide)) r101⟩, fun n hn => absurd hn (tno_l 101 rfl n), fun n hn => absurd hn (tno_d 101 rfl n)⟩
      · exact ⟨fun n hn => ⟨_, arr_i (tlen_i hn (show (102, 25) ∈ aiT by decide)) r102⟩, fun n hn => absurd hn (tno_l 102 rfl n), fun n hn => absurd hn (tno_d 102 rfl n)⟩))
  · unfold DXw
    rw [lv_same ((f2 8 rfl).trans (f1 8 rfl)), iv_same ((f2 9 rfl).trans (f1 9 rfl)), iv_same ((f2 10 rfl).trans (f1 10 rfl)), iv_same ((f2 200 rfl).trans (f1 200 rfl)), lv_same ((f2 201 rfl).trans (f1 201 rfl)), iv_same ((f2 500 rfl).trans (f1 500 rfl)), lv_same ((f2 501 rfl).trans (f1 501 rfl)), ai_same ((g2 1 rfl).trans (g1 1 rfl)), lv_same ((f2 6904 rfl).trans (f1 6904 rfl)), iv_same ((f2 6906 rfl).trans (f1 6906 rfl)), iv_same ((f2 6909 rfl).trans (f1 6909 rfl)), iv_same ((f2 6911 rfl).trans (f1 6911 rfl)), ai_same ((g2 70 rfl).trans (g1 70 rfl)), ai_same ((g2 71 rfl).trans (g1 71 rfl)), ai_same ((g2 72 rfl).trans (g1 72 rfl)), ai_same ((g2 73 rfl).trans (g1 73 rfl))]
    exact hD
  · unfold IXw
    rw [iv_same ((f2 11 rfl).trans (f1 11 rfl)), lv_same ((f2 12 rfl).trans (f1 12 rfl)), iv_same ((f2 13 rfl).trans (f1 13 rfl)), iv_same ((f2 14 rfl).trans (f1 14 rfl)), iv_same ((f2 6912 rfl).trans (f1 6912 rfl)), lv_same ((f2 6913 rfl).trans (f1 6913 rfl)), iv_same ((f2 6915 rfl).trans (f1 6915 rfl)), ai_same ((g2 74 rfl).trans (g1 74 rfl))]
    exact hX
  · unfold TXw
    rw [iv_same ((f2 2400 rfl).trans (f1 2400 rfl)), ai_same ((g2 26 rfl).trans (g1 26 rfl)), iv_same ((f2 6917 rfl).trans (f1 6917 rfl)), ai_same ((g2 75 rfl).trans (g1 75 rfl))]
    exact hT
  · unfold SVw
    rw [lv_eq ((f2 2706 rfl).trans p2706), iv_same ((f2 2707 rfl).trans (f1 2707 rfl)), iv_same ((f2 2708 rfl).trans (f1 2708 rfl)), iv_eq ((f2 2802 rfl).trans p2802), iv_eq ((f2 2803 rfl).trans p2803), ai_eq ((g2 30 rfl).trans r30), ai_eq ((g2 35 rfl).trans r35), al_eq ((g2 38 rfl).trans r38), ai_eq ((g2 44 rfl).trans r44), ai_same ((g2 57 rfl).trans (g1 57 rfl)), ai_same ((g2 59 rfl).trans (g1 59 rfl))]
    exact hV'
  · unfold ENw
    rw [lv_same ((f2 2709 rfl).trans (f1 2709 rfl)), iv_same ((f2 2710 rfl).trans (f1 2710 rfl))]
    exact hE
  · unfold CEw
    rw [iv_eq ((f2 2705 rfl).trans p2705), ai_eq ((g2 67 rfl).trans r67)]
    exact hC'
end CALLX
