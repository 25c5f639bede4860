/-! part 9zh: the calls of the law, one after the other: both sides answer alike, and INV holds again -/
section CALLW
theorem tno_i (k : Nat) (h : (aiT.map Prod.fst).all (fun j => !(Nat.beq j k)) = true) (n : Nat) : ¬ (k, n) ∈ aiT := fun z => by
  have := List.all_eq_true.mp h k (List.mem_map.mpr ⟨_, z, rfl⟩)
  simp at this
theorem tno_l (k : Nat) (h : (alT.map Prod.fst).all (fun j => !(Nat.beq j k)) = true) (n : Nat) : ¬ (k, n) ∈ alT := fun z => by
  have := List.all_eq_true.mp h k (List.mem_map.mpr ⟨_, z, rfl⟩)
  simp at this
theorem tno_d (k : Nat) (h : (adT.map Prod.fst).all (fun j => !(Nat.beq j k)) = true) (n : Nat) : ¬ (k, n) ∈ adT := fun z => by
  have := List.all_eq_true.mp h k (List.mem_map.mpr ⟨_, z, rfl⟩)
  simp at this
theorem uniq_i : ∀ p, p ∈ aiT → ∀ p', p' ∈ aiT → p.1 = p'.1 → p.2 = p'.2 := by decide +kernel
theorem uniq_l : ∀ p, p ∈ alT → ∀ p', p' ∈ alT → p.1 = p'.1 → p.2 = p'.2 := by decide +kernel
theorem tlen_i {k n n' : Nat} (h : (k, n') ∈ aiT) (h' : (k, n) ∈ aiT) : n = n' := uniq_i _ h' _ h rfl
theorem arr_i {a : Nat → vp_A} {k n n' : Nat} {f : Nat → Int32} (e : n = n') (r : a k = (n, .inl f)) : a k = (n', .inl f) := by
  subst e
  exact r
theorem arr_d {a : Nat → vp_A} {k n n' : Nat} {f : Nat → UInt64} (e : n = n') (r : a k = (n, .inr (.inr (.inr (.inl f))))) : a k = (n', .inr (.inr (.inr (.inl f)))) := by
  subst e
  exact r
theorem uniq_d : ∀ p, p ∈ adT → ∀ p', p' ∈ adT → p.1 = p'.1 → p.2 = p'.2 := by decide +kernel
theorem tlen_d {k n n' : Nat} (h : (k, n') ∈ adT) (h' : (k, n) ∈ adT) : n = n' := uniq_d _ h' _ h rfl
theorem arr_l {a : Nat → vp_A} {k n n' : Nat} {f : Nat → Int64} (e : n = n') (r : a k = (n, .inr (.inl f))) : a k = (n', .inr (.inl f)) := by
  subst e
  exact r
theorem tlen_l {k n n' : Nat} (h : (k, n') ∈ alT) (h' : (k, n) ∈ alT) : n = n' := uniq_l _ h' _ h rfl
theorem cw_sender {F N : Nat} {q : Nat → Nat} {m0 : Nat → Value} {a0 : Nat → vp_A} (hF : 800000 ≤ F) (hI : INV F N q m0 a0) (p1 : Int32) (p2 : Int32) (p3 : Int32) (p4 : Int32) {l : Launch} {D : va_G} {cy : Nat → ClassId} {sz : Nat} : ∃ (out : Int32) (Q : (Nat → Value) → (Nat → vp_A) → Prop), gMi l yX11_sender cX11_sender 5 (some .boolean) ({ frames := 2, cells := 0, slots := 0, locals := 43 } : Room) D cy N q m0 a0 sz [.ref (q 0), .int p1, .int p2, .int p3, .int p4] (fun r m' a' => r = out ∧ Q m' a') ∧ ∀ (m1 : Nat → Value) (a1 : Nat → vp_A) (sz1 : Nat), Q m1 a1 → gMi l yX12_sender cX12_sender 5 (some .boolean) ({ frames := 3, cells := 0, slots := 0, locals := 65 } : Room) D cy N q m1 a1 sz1 [.ref (q 69), .int p1, .int p2, .int p3, .int p4] (fun r m' a' => r = out ∧ INV F N q m' a') := by
  obtain ⟨hN, hsh, hty, hta, hod, kr, cap, lab, ack, cop, hst, hs, hD, hX, hT, hV, hE, hC⟩ := hI
  obtain ⟨⟨hkr, hgk, hrf⟩, ⟨b0, b1, b2, b3⟩, c0, c1, c2, c3⟩ := id hst
  have hb0 := hs.1
  have hb1 := hs.2.1
  have hb2 := hs.2.2.1
  have hb3 := hs.2.2.2
  have hp := sender_eq (n := lab) (w := ack) (by omega) hb1.2 hb2.1 hb2.2 hD.1 (iv m0 6918) p1 p2 p3 p4
  have hl := sender_lg hb1.2 hb2.2 hD.2.1 p1 p2 p3 p4
  have k1 := kX11_sender (m0 := m0) (a0 := a0) (q := q) (l := l) (D := D) (cy := cy) (sz := sz) (hN := hN) (hsh := hsh) (hkr := hkr) (hgk := hgk) (hrf := hrf) (h_xkr_1 := b1) (h_xkr_2 := b2) (h_x0_8 := hty.2 8 rfl)  (p1 := p1) (p2 := p2) (p3 := p3) (p4 := p4)
  refine ⟨_, _, k1, ?_⟩
  intro m1 a1 sz1 hQ
  obtain ⟨p8, f1, g1⟩ := hQ
  replace g1 : ∀ j, nel j [] = false → a1 j = a0 j := fun j _ => congrFun g1 j
  have d0 := (f1 6900 rfl).trans c0
  have d1 := (f1 6901 rfl).trans c1
  have d2 := (f1 6902 rfl).trans c2
  have d3 := (f1 6903 rfl).trans c3
  have hsh1 := hsh.off f1 rfl
  have k2 := kX12_sender (m0 := m1) (a0 := a1) (q := q) (l := l) (D := D) (cy := cy) (sz := sz1) (hN := hN) (hsh := hsh1) (h_x69_1 := d1) (h_x69_2 := d2) (h_x69_4 := (f1 6904 rfl).trans (hty.2 6904 rfl)) (h_x69_18 := (f1 6918 rfl).trans (hty.1 6918 rfl))  (p1 := p1) (p2 := p2) (p3 := p3) (p4 := p4)
  refine gMi_mono k2 (fun r m2 a2 h => ?_)
  obtain ⟨hr, p6904, p6918, f2, g2⟩ := h
  replace g2 : ∀ j, nel j [] = false → a2 j = a1 j := fun j _ => congrFun g2 j
  refine ⟨hr.trans hp.1, hN, hsh1.off f2 rfl, ?_, ?_, od_off (od_off hod f1 g1 rfl rfl rfl rfl) f2 g2 rfl rfl rfl rfl, kr, cap, lab, ack, cop, stw_off (stw_off hst f1 rfl rfl rfl rfl rfl rfl) f2 rfl rfl rfl rfl rfl rfl, hs, ?_, ?_, ?_, ?_, ?_, ?_⟩
  · have t1 : TYM m1 := (tym_off hty f1 (fun j hj => by
      simp only [List.mem_cons, List.not_mem_nil, or_false] at hj
      rcases hj with rfl
      · exact ⟨fun z => absurd z (by decide), fun _ => ⟨_, p8⟩⟩))
    exact (tym_off t1 f2 (fun j hj => by
      simp only [List.mem_cons, List.not_mem_nil, or_false] at hj
      rcases hj with rfl | rfl
      · exact ⟨fun z => absurd z (by decide), fun _ => ⟨_, p6904⟩⟩
      · exact ⟨fun _ => ⟨_, p6918⟩, fun z => absurd z (by decide)⟩))
  · have t1 : TYA a1 := (tya_off hta g1 (fun j hj => absurd hj List.not_mem_nil))
    exact (tya_off t1 g2 (fun j hj => absurd hj List.not_mem_nil))
  · unfold DXw
    rw [lv_eq ((f2 8 rfl).trans p8), iv_same ((f2 9 rfl).trans (f1 9 rfl)), iv_same ((f2 10 rfl).trans (f1 10 rfl)), iv_same ((f2 200 rfl).trans (f1 200 rfl)), lv_same ((f2 201 rfl).trans (f1 201 rfl)), iv_same ((f2 500 rfl).trans (f1 500 rfl)), lv_same ((f2 501 rfl).trans (f1 501 rfl)), ai_same ((g2 1 rfl).trans (g1 1 rfl)), lv_eq p6904, iv_same ((f2 6906 rfl).trans (f1 6906 rfl)), iv_same ((f2 6909 rfl).trans (f1 6909 rfl)), iv_same ((f2 6911 rfl).trans (f1 6911 rfl)), ai_same ((g2 70 rfl).trans (g1 70 rfl)), ai_same ((g2 71 rfl).trans (g1 71 rfl)), ai_same ((g2 72 rfl).trans (g1 72 rfl)), ai_same ((g2 73 rfl).trans (g1 73 rfl))]
    exact ⟨hp.2.1, hl, hD.2.2⟩
  · unfold IXw
    rw [iv_same ((f2 11 rfl).trans (f1 11 rfl)), lv_same ((f2 12 rfl).trans (f1 12 rfl)), iv_same ((f2 13 rfl).trans (f1 13 rfl)), iv_same ((f2 14 rfl).trans (f1 14 rfl)), iv_same ((f2 6912 rfl).trans (f1 6912 rfl)), lv_same ((f2 6913 rfl).trans (f1 6913 rfl)), iv_same ((f2 6915 rfl).trans (f1 6915 rfl)), ai_same ((g2 74 rfl).trans (g1 74 rfl))]
    exact hX
  · unfold TXw
    rw [iv_same ((f2 2400 rfl).trans (f1 2400 rfl)), ai_same ((g2 26 rfl).trans (g1 26 rfl)), iv_same ((f2 6917 rfl).trans (f1 6917 rfl)), ai_same ((g2 75 rfl).trans (g1 75 rfl))]
    exact hT
  · unfold SVw
    rw [lv_same ((f2 2706 rfl).trans (f1 2706 rfl)), iv_same ((f2 2707 rfl).trans (f1 2707 rfl)), iv_same ((f2 2708 rfl).trans (f1 2708 rfl)), iv_same ((f2 2802 rfl).trans (f1 2802 rfl)), iv_same ((f2 2803 rfl).trans (f1 2803 rfl)), ai_same ((g2 30 rfl).trans (g1 30 rfl)), ai_same ((g2 35 rfl).trans (g1 35 rfl)), al_same ((g2 38 rfl).trans (g1 38 rfl)), ai_same ((g2 44 rfl).trans (g1 44 rfl)), ai_same ((g2 57 rfl).trans (g1 57 rfl)), ai_same ((g2 59 rfl).trans (g1 59 rfl))]
    exact hV
  · unfold ENw
    rw [lv_same ((f2 2709 rfl).trans (f1 2709 rfl)), iv_same ((f2 2710 rfl).trans (f1 2710 rfl))]
    exact hE
  · unfold CEw
    rw [iv_same ((f2 2705 rfl).trans (f1 2705 rfl)), ai_same ((g2 67 rfl).trans (g1 67 rfl))]
    exact hC
theorem cw_last {F N : Nat} {q : Nat → Nat} {m0 : Nat → Value} {a0 : Nat → vp_A} (hF : 800000 ≤ F) (hI : INV F N q m0 a0) (p1 : Int32) {l : Launch} {D : va_G} {cy : Nat → ClassId} {sz : Nat} : ∃ (out : Int32) (Q : (Nat → Value) → (Nat → vp_A) → Prop), gMi l yX11_last cX11_last 3 (some .int) ({ frames := 1, cells := 0, slots := 0, locals := 22 } : Room) D cy N q m0 a0 sz [.ref (q 0), .int p1] (fun r m' a' => r = out ∧ Q m' a') ∧ ∀ (m1 : Nat → Value) (a1 : Nat → vp_A) (sz1 : Nat), Q m1 a1 → gMi l yX12_last cX12_last 3 (some .int) ({ frames := 2, cells := 0, slots := 0, locals := 43 } : Room) D cy N q m1 a1 sz1 [.ref (q 69), .int p1] (fun r m' a' => r = out ∧ INV F N q m' a') := by
  obtain ⟨hN, hsh, hty, hta, hod, kr, cap, lab, ack, cop, hst, hs, hD, hX, hT, hV, hE, hC⟩ := hI
  obtain ⟨⟨hkr, hgk, hrf⟩, ⟨b0, b1, b2, b3⟩, c0, c1, c2, c3⟩ := id hst
  have hb0 := hs.1
  have hb1 := hs.2.1
  have hb2 := hs.2.2.1
  have hb3 := hs.2.2.2
  have hp := last_eq (n := lab) (by omega) hb1.2 hD.1 (iv m0 6918) p1
  have hl := last_lg hb1.2 hD.2.1 p1
  have k1 := kX11_last (m0 := m0) (a0 := a0) (q := q) (l := l) (D := D) (cy := cy) (sz := sz) (hN := hN) (hsh := hsh) (hkr := hkr) (hgk := hgk) (hrf := hrf) (h_xkr_1 := b1) (h_x0_8 := hty.2 8 rfl)  (p1 := p1)
  refine ⟨_, _, k1, ?_⟩
  intro m1 a1 sz1 hQ
  obtain ⟨p8, f1, g1⟩ := hQ
  replace g1 : ∀ j, nel j [] = false → a1 j = a0 j := fun j _ => congrFun g1 j
  have d0 := (f1 6900 rfl).trans c0
  have d1 := (f1 6901 rfl).trans c1
  have d2 := (f1 6902 rfl).trans c2
  have d3 := (f1 6903 rfl).trans c3
  have hsh1 := hsh.off f1 rfl
  have k2 := kX12_last (m0 := m1) (a0 := a1) (q := q) (l := l) (D := D) (cy := cy) (sz := sz1) (hN := hN) (hsh := hsh1) (h_x69_1 := d1) (h_x69_4 := (f1 6904 rfl).trans (hty.2 6904 rfl)) (h_x69_18 := (f1 6918 rfl).trans (hty.1 6918 rfl))  (p1 := p1)
  refine gMi_mono k2 (fun r m2 a2 h => ?_)
  obtain ⟨hr, p6904, p6918, f2, g2⟩ := h
  replace g2 : ∀ j, nel j [] = false → a2 j = a1 j := fun j _ => congrFun g2 j
  refine ⟨hr.trans hp.1, hN, hsh1.off f2 rfl, ?_, ?_, od_off (od_off hod f1 g1 rfl rfl rfl rfl) f2 g2 rfl rfl rfl rfl, kr, cap, lab, ack, cop, stw_off (stw_off hst f1 rfl rfl rfl rfl rfl rfl) f2 rfl rfl rfl rfl rfl rfl, hs, ?_, ?_, ?_, ?_, ?_, ?_⟩
  · have t1 : TYM m1 := (tym_off hty f1 (fun j hj => by
      simp only [List.mem_cons, List.not_mem_nil, or_false] at hj
      rcases hj with rfl
      · exact ⟨fun z => absurd z (by decide), fun _ => ⟨_, p8⟩⟩))
    exact (tym_off t1 f2 (fun j hj => by
      simp only [List.mem_cons, List.not_mem_nil, or_false] at hj
      rcases hj with rfl | rfl
      · exact ⟨fun z => absurd z (by decide), fun _ => ⟨_, p6904⟩⟩
      · exact ⟨fun _ => ⟨_, p6918⟩, fun z => absurd z (by decide)⟩))
  · have t1 : TYA a1 := (tya_off hta g1 (fun j hj => absurd hj List.not_mem_nil))
    exact (tya_off t1 g2 (fun j hj => absurd hj List.not_mem_nil))
  · unfold DXw
    rw [lv_eq ((f2 8 rfl).trans p8), iv_same ((f2 9 rfl).trans (f1 9 rfl)), iv_same ((f2 10 rfl).trans (f1 10 rfl)), iv_same ((f2 200 rfl).trans (f1 200 rfl)), lv_same ((f2 201 rfl).trans (f1 201 rfl)), iv_same ((f2 500 rfl).trans (f1 500 rfl)), lv_same ((f2 501 rfl).trans (f1 501 rfl)), ai_same ((g2 1 rfl).trans (g1 1 rfl)), lv_eq p6904, iv_same ((f2 6906 rfl).trans (f1 6906 rfl)), iv_same ((f2 6909 rfl).trans (f1 6909 rfl)), iv_same ((f2 6911 rfl).trans (f1 6911 rfl)), ai_same ((g2 70 rfl).trans (g1 70 rfl)), ai_same ((g2 71 rfl).trans (g1 71 rfl)), ai_same ((g2 72 rfl).trans (g1 72 rfl)), ai_same ((g2 73 rfl).trans (g1 73 rfl))]
    exact ⟨hp.2, hl, hD.2.2⟩
  · unfold IXw
    rw [iv_same ((f2 11 rfl).trans (f1 11 rfl)), lv_same ((f2 12 rfl).trans (f1 12 rfl)), iv_same ((f2 13 rfl).trans (f1 13 rfl)), iv_same ((f2 14 rfl).trans (f1 14 rfl)), iv_same ((f2 6912 rfl).trans (f1 6912 rfl)), lv_same ((f2 6913 rfl).trans (f1 6913 rfl)), iv_same ((f2 6915 rfl).trans (f1 6915 rfl)), ai_same ((g2 74 rfl).trans (g1 74 rfl))]
    exact hX
  · unfold TXw
    rw [iv_same ((f2 2400 rfl).trans (f1 2400 rfl)), ai_same ((g2 26 rfl).trans (g1 26 rfl)), iv_same ((f2 6917 rfl).trans (f1 6917 rfl)), ai_same ((g2 75 rfl).trans (g1 75 rfl))]
    exact hT
  · unfold SVw
    rw [lv_same ((f2 2706 rfl).trans (f1 2706 rfl)), iv_same ((f2 2707 rfl).trans (f1 2707 rfl)), iv_same ((f2 2708 rfl).trans (f1 2708 rfl)), iv_same ((f2 2802 rfl).trans (f1 2802 rfl)), iv_same ((f2 2803 rfl).trans (f1 2803 rfl)), ai_same ((g2 30 rfl).trans (g1 30 rfl)), ai_same ((g2 35 rfl).trans (g1 35 rfl)), al_same ((g2 38 rfl).trans (g1 38 rfl)), ai_same ((g2 44 rfl).trans (g1 44 rfl)), ai_same ((g2 57 rfl).trans (g1 57 rfl)), ai_same ((g2 59 rfl).trans (g1 59 rfl))]
    exact hV
  · unfold ENw
    rw [lv_same ((f2 2709 rfl).trans (f1 2709 rfl)), iv_same ((f2 2710 rfl).trans (f1 2710 rfl))]
    exact hE
  · unfold CEw
    rw [iv_same ((f2 2705 rfl).trans (f1 2705 rfl)), ai_same ((g2 67 rfl).trans (g1 67 rfl))]
    exact hC
theorem cw_seen {F N : Nat} {q : Nat → Nat} {m0 : Nat → Value} {a0 : Nat → vp_A} (hF : 800000 ≤ F) (hI : INV F N q m0 a0) (p1 : Int32) (p2 : Int32) (p3 : Int32) {l : Launch} {D : va_G} {cy : Nat → ClassId} {sz : Nat} : ∃ (out : Int32) (Q : (Nat → Value) → (Nat → vp_A) → Prop), gMi l yX11_seen cX11_seen 4 (some .int) ({ frames := 2, cells := 0, slots := 0, locals := 46 } : Room) D cy N q m0 a0 sz [.ref (q 0), .int p1, .int p2, .int p3] (fun r m' a' => r = out ∧ Q m' a') ∧ ∀ (m1 : Nat → Value) (a1 : Nat → vp_A) (sz1 : Nat), Q m1 a1 → gMi l yX12_seen cX12_seen 5 (some .int) ({ frames := 3, cells := 0, slots := 0, locals := 65 } : Room) D cy N q m1 a1 sz1 [.ref (q 69), .int p1, .int p2, .int p3] (fun r m' a' => r = out ∧ INV F N q m' a') := by
  obtain ⟨hN, hsh, hty, hta, hod, kr, cap, lab, ack, cop, hst, hs, hD, hX, hT, hV, hE, hC⟩ := hI
  obtain ⟨⟨hkr, hgk, hrf⟩, ⟨b0, b1, b2, b3⟩, c0, c1, c2, c3⟩ := id hst
  have hb0 := hs.1
  have hb1 := hs.2.1
  have hb2 := hs.2.2.1
  have hb3 := hs.2.2.2
  have hp := seen_eq (n := lab) (w := cop) (by omega) hb1.2 hb3.1 hb3.2 hD.1 (iv m0 6918) p1 p2 p3
  have hl := seen_lg hb1.2 hb3.2 hD.2.1 p1 p2 p3
  have k1 := kX11_seen (m0 := m0) (a0 := a0) (q := q) (l := l) (D := D) (cy := cy) (sz := sz) (hN := hN) (hsh := hsh) (hkr := hkr) (hgk := hgk) (hrf := hrf) (h_xkr_1 := b1) (h_xkr_3 := b3) (h_x0_8 := hty.2 8 rfl)  (p1 := p1) (p2 := p2) (p3 := p3)
  refine ⟨_, _, k1, ?_⟩
  intro m1 a1 sz1 hQ
  obtain ⟨p8, f1, g1⟩ := hQ
  replace g1 : ∀ j, nel j [] = false → a1 j = a0 j := fun j _ => congrFun g1 j
  have d0 := (f1 6900 rfl).trans c0
  have d1 := (f1 6901 rfl).trans c1
  have d2 := (f1 6902 rfl).trans c2
  have d3 := (f1 6903 rfl).trans c3
  have hsh1 := hsh.off f1 rfl
  have k2 := kX12_seen (m0 := m1) (a0 := a1) (q := q) (l := l) (D := D) (cy := cy) (sz := sz1) (hN := hN) (hsh := hsh1) (h_x69_1 := d1) (h_x69_3 := d3) (h_x69_4 := (f1 6904 rfl).trans (hty.2 6904 rfl)) (h_x69_18 := (f1 6918 rfl).trans (hty.1 6918 rfl))  (p1 := p1) (p2 := p2) (p3 := p3)
  refine gMi_mono k2 (fun r m2 a2 h => ?_)
  obtain ⟨hr, p6904, p6918, f2, g2⟩ := h
  replace g2 : ∀ j, nel j [] = false → a2 j = a1 j := fun j _ => congrFun g2 j
  refine ⟨hr.trans hp.1, hN, hsh1.off f2 rfl, ?_, ?_, od_off (od_off hod f1 g1 rfl rfl rfl rfl) f2 g2 rfl rfl rfl rfl, kr, cap, lab, ack, cop, stw_off (stw_off hst f1 rfl rfl rfl rfl rfl rfl) f2 rfl rfl rfl rfl rfl rfl, hs, ?_, ?_, ?_, ?_, ?_, ?_⟩
  · have t1 : TYM m1 := (tym_off hty f1 (fun j hj => by
      simp only [List.mem_cons, List.not_mem_nil, or_false] at hj
      rcases hj with rfl
      · exact ⟨fun z => absurd z (by decide), fun _ => ⟨_, p8⟩⟩))
    exact (tym_off t1 f2 (fun j hj => by
      simp only [List.mem_cons, List.not_mem_nil, or_false] at hj
      rcases hj with rfl | rfl
      · exact ⟨fun z => absurd z (by decide), fun _ => ⟨_, p6904⟩⟩
      · exact ⟨fun _ => ⟨_, p6918⟩, fun z => absurd z (by decide)⟩))
  · have t1 : TYA a1 := (tya_off hta g1 (fun j hj => absurd hj List.not_mem_nil))
    exact (tya_off t1 g2 (fun j hj => absurd hj List.not_mem_nil))
  · unfold DXw
    rw [lv_eq ((f2 8 rfl).trans p8), iv_same ((f2 9 rfl).trans (f1 9 rfl)), iv_same ((f2 10 rfl).trans (f1 10 rfl)), iv_same ((f2 200 rfl).trans (f1 200 rfl)), lv_same ((f2 201 rfl).trans (f1 201 rfl)), iv_same ((f2 500 rfl).trans (f1 500 rfl)), lv_same ((f2 501 rfl).trans (f1 501 rfl)), ai_same ((g2 1 rfl).trans (g1 1 rfl)), lv_eq p6904, iv_same ((f2 6906 rfl).trans (f1 6906 rfl)), iv_same ((f2 6909 rfl).trans (f1 6909 rfl)), iv_same ((f2 6911 rfl).trans (f1 6911 rfl)), ai_same ((g2 70 rfl).trans (g1 70 rfl)), ai_same ((g2 71 rfl).trans (g1 71 rfl)), ai_same ((g2 72 rfl).trans (g1 72 rfl)), ai_same ((g2 73 rfl).trans (g1 73 rfl))]
    exact ⟨hp.2, hl, hD.2.2⟩
  · unfold IXw
    rw [iv_same ((f2 11 rfl).trans (f1 11 rfl)), lv_same ((f2 12 rfl).trans (f1 12 rfl)), iv_same ((f2 13 rfl).trans (f1 13 rfl)), iv_same ((f2 14 rfl).trans (f1 14 rfl)), iv_same ((f2 6912 rfl).trans (f1 6912 rfl)), lv_same ((f2 6913 rfl).trans (f1 6913 rfl)), iv_same ((f2 6915 rfl).trans (f1 6915 rfl)), ai_same ((g2 74 rfl).trans (g1 74 rfl))]
    exact hX
  · unfold TXw
    rw [iv_same ((f2 2400 rfl).trans (f1 2400 rfl)), ai_same ((g2 26 rfl).trans (g1 26 rfl)), iv_same ((f2 6917 rfl).trans (f1 6917 rfl)), ai_same ((g2 75 rfl).trans (g1 75 rfl))]
    exact hT
  · unfold SVw
    rw [lv_same ((f2 2706 rfl).trans (f1 2706 rfl)), iv_same ((f2 2707 rfl).trans (f1 2707 rfl)), iv_same ((f2 2708 rfl).trans (f1 2708 rfl)), iv_same ((f2 2802 rfl).trans (f1 2802 rfl)), iv_same ((f2 2803 rfl).trans (f1 2803 rfl)), ai_same ((g2 30 rfl).trans (g1 30 rfl)), ai_same ((g2 35 rfl).trans (g1 35 rfl)), al_same ((g2 38 rfl).trans (g1 38 rfl)), ai_same ((g2 44 rfl).trans (g1 44 rfl)), ai_same ((g2 57 rfl).trans (g1 57 rfl)), ai_same ((g2 59 rfl).trans (g1 59 rfl))]
    exact hV
  · unfold ENw
    rw [lv_same ((f2 2709 rfl).trans (f1 2709 rfl)), iv_same ((f2 2710 rfl).trans (f1 2710 rfl))]
    exact hE
  · unfold CEw
    rw [iv_same ((f2 2705 rfl).trans (f1 2705 rfl)), ai_same ((g2 67 rfl).trans (g1 67 rfl))]
    exact hC
theorem cw_packets {F N : Nat} {q : Nat → Nat} {m0 : Nat → Value} {a0 : Nat → vp_A} (hF : 800000 ≤ F) (hI : INV F N q m0 a0) (p1 : Int32) (p2 : Int32) (p3 : Int32) {l : Launch} {D : va_G} {cy : Nat → ClassId} {sz : Nat} : ∃ (out : Int32) (Q : (Nat → Value) → (Nat → vp_A) → Prop), gMi l yX11_packets cX11_packets 6 (some .int) ({ frames := 2, cells := 0, slots := 0, locals := 46 } : Room) D cy N q m0 a0 sz [.ref (q 0), .int p1, .int p2, .int p3] (fun r m' a' => r = out ∧ Q m' a') ∧ ∀ (m1 : Nat → Value) (a1 : Nat → vp_A) (sz1 : Nat), Q m1 a1 → gMi l yX12_packets cX12_packets 5 (some .int) ({ frames := 3, cells := 0, slots := 0, locals := 65 } : Room) D cy N q m1 a1 sz1 [.ref (q 69), .int p1, .int p2, .int p3] (fun r m' a' => r = out ∧ INV F N q m' a') := by
  obtain ⟨hN, hsh, hty, hta, hod, kr, cap, lab, ack, cop, hst, hs, hD, hX, hT, hV, hE, hC⟩ := hI
  obtain ⟨⟨hkr, hgk, hrf⟩, ⟨b0, b1, b2, b3⟩, c0, c1, c2, c3⟩ := id hst
  have hb0 := hs.1
  have hb1 := hs.2.1
  have hb2 := hs.2.2.1
  have hb3 := hs.2.2.2
  obtain ⟨r0, m', e2, ho, hS', hL'⟩ := packets_eq (n := lab) hb0.2 (by omega) hb1.2 hD.1 hD.2.1 (iv m0 6918) p1 p2 p3 (F := F) (by omega)
  have k1 := kX11_packets (m0 := m0) (a0 := a0) (q := q) (l := l) (D := D) (cy := cy) (sz := sz) (hN := hN) (hsh := hsh) (hkr := hkr) (hgk := hgk) (hrf := hrf) (h_xkr_0 := b0) (h_xkr_1 := b1) (h_x0_8 := hty.2 8 rfl)  (p1 := p1) (p2 := p2) (p3 := p3)
  refine ⟨_, _, k1, ?_⟩
  intro m1 a1 sz1 hQ
  obtain ⟨p8, f1, g1⟩ := hQ
  replace g1 : ∀ j, nel j [] = false → a1 j = a0 j := fun j _ => congrFun g1 j
  have d0 := (f1 6900 rfl).trans c0
  have d1 := (f1 6901 rfl).trans c1
  have d2 := (f1 6902 rfl).trans c2
  have d3 := (f1 6903 rfl).trans c3
  have hsh1 := hsh.off f1 rfl
  have k2 := kX12_packets (m0 := m1) (a0 := a1) (q := q) (l := l) (D := D) (cy := cy) (sz := sz1) (hN := hN) (hsh := hsh1) (h_x69_0 := d0) (h_x69_1 := d1) (h_x69_4 := (f1 6904 rfl).trans (hty.2 6904 rfl)) (h_x69_18 := (f1 6918 rfl).trans (hty.1 6918 rfl)) (F := F) (p1 := p1) (p2 := p2) (p3 := p3) (hs0 := e2)
  refine gMi_mono k2 (fun r m2 a2 h => ?_)
  obtain ⟨hr, p6904, p6918, f2, g2⟩ := h
  replace g2 : ∀ j, nel j [] = false → a2 j = a1 j := fun j _ => congrFun g2 j
  refine ⟨hr.trans ho.symm, hN, hsh1.off f2 rfl, ?_, ?_, od_off (od_off hod f1 g1 rfl rfl rfl rfl) f2 g2 rfl rfl rfl rfl, kr, cap, lab, ack, cop, stw_off (stw_off hst f1 rfl rfl rfl rfl rfl rfl) f2 rfl rfl rfl rfl rfl rfl, hs, ?_, ?_, ?_, ?_, ?_, ?_⟩
  · have t1 : TYM m1 := (tym_off hty f1 (fun j hj => by
      simp only [List.mem_cons, List.not_mem_nil, or_false] at hj
      rcases hj with rfl
      · exact ⟨fun z => absurd z (by decide), fun _ => ⟨_, p8⟩⟩))
    exact (tym_off t1 f2 (fun j hj => by
      simp only [List.mem_cons, List.not_mem_nil, or_false] at hj
      rcases hj with rfl | rfl
      · exact ⟨fun z => absurd z (by decide), fun _ => ⟨_, p6904⟩⟩
      · exact ⟨fun _ => ⟨_, p6918⟩, fun z => absurd z (by decide)⟩))
  · have t1 : TYA a1 := (tya_off hta g1 (fun j hj => absurd hj List.not_mem_nil))
    exact (tya_off t1 g2 (fun j hj => absurd hj List.not_mem_nil))
  · unfold DXw
    rw [lv_eq ((f2 8 rfl).trans p8), iv_same ((f2 9 rfl).trans (f1 9 rfl)), iv_same ((f2 10 rfl).trans (f1 10 rfl)), iv_same ((f2 200 rfl).trans (f1 200 rfl)), lv_same ((f2 201 rfl).trans (f1 201 rfl)), iv_same ((f2 500 rfl).trans (f1 500 rfl)), lv_same ((f2 501 rfl).trans (f1 501 rfl)), ai_same ((g2 1 rfl).trans (g1 1 rfl)), lv_eq p6904, iv_same ((f2 6906 rfl).trans (f1 6906 rfl)), iv_same ((f2 6909 rfl).trans (f1 6909 rfl)), iv_same ((f2 6911 rfl).trans (f1 6911 rfl)), ai_same ((g2 70 rfl).trans (g1 70 rfl)), ai_same ((g2 71 rfl).trans (g1 71 rfl)), ai_same ((g2 72 rfl).trans (g1 72 rfl)), ai_same ((g2 73 rfl).trans (g1 73 rfl))]
    exact ⟨hS', hL', hD.2.2⟩
  · unfold IXw
    rw [iv_same ((f2 11 rfl).trans (f1 11 rfl)), lv_same ((f2 12 rfl).trans (f1 12 rfl)), iv_same ((f2 13 rfl).trans (f1 13 rfl)), iv_same ((f2 14 rfl).trans (f1 14 rfl)), iv_same ((f2 6912 rfl).trans (f1 6912 rfl)), lv_same ((f2 6913 rfl).trans (f1 6913 rfl)), iv_same ((f2 6915 rfl).trans (f1 6915 rfl)), ai_same ((g2 74 rfl).trans (g1 74 rfl))]
    exact hX
  · unfold TXw
    rw [iv_same ((f2 2400 rfl).trans (f1 2400 rfl)), ai_same ((g2 26 rfl).trans (g1 26 rfl)), iv_same ((f2 6917 rfl).trans (f1 6917 rfl)), ai_same ((g2 75 rfl).trans (g1 75 rfl))]
    exact hT
  · unfold SVw
    rw [lv_same ((f2 2706 rfl).trans (f1 2706 rfl)), iv_same ((f2 2707 rfl).trans (f1 2707 rfl)), iv_same ((f2 2708 rfl).trans (f1 2708 rfl)), iv_same ((f2 2802 rfl).trans (f1 2802 rfl)), iv_same ((f2 2803 rfl).trans (f1 2803 rfl)), ai_same ((g2 30 rfl).trans (g1 30 rfl)), ai_same ((g2 35 rfl).trans (g1 35 rfl)), al_same ((g2 38 rfl).trans (g1 38 rfl)), ai_same ((g2 44 rfl).trans (g1 44 rfl)), ai_same ((g2 57 rfl).trans (g1 57 rfl)), ai_same ((g2 59 rfl).trans (g1 59 rfl))]
    exact hV
  · unfold ENw
    rw [lv_same ((f2 2709 rfl).trans (f1 2709 rfl)), iv_same ((f2 2710 rfl).trans (f1 2710 rfl))]
    exact hE
  · unfold CEw
    rw [iv_same ((f2 2705 rfl).trans (f1 2705 rfl)), ai_same ((g2 67 rfl).trans (g1 67 rfl))]
    exact hC
theorem cw_letters {F N : Nat} {q : Nat → Nat} {m0 : Nat → Value} {a0 : Nat → vp_A} (hF : 800000 ≤ F) (hI : INV F N q m0 a0) (p1 : Int32) (p2 : Int32) {l : Launch} {D : va_G} {cy : Nat → ClassId} {sz : Nat} : ∃ (out : Int32) (Q : (Nat → Value) → (Nat → vp_A) → Prop), gMi l yX11_letters cX11_letters 5 (some .int) ({ frames := 2, cells := 0, slots := 0, locals := 46 } : Room) D cy N q m0 a0 sz [.ref (q 0), .int p1, .int p2] (fun r m' a' => r = out ∧ Q m' a') ∧ ∀ (m1 : Nat → Value) (a1 : Nat → vp_A) (sz1 : Nat), Q m1 a1 → gMi l yX12_letters cX12_letters 4 (some .int) ({ frames := 2, cells := 0, slots := 0, locals := 46 } : Room) D cy N q m1 a1 sz1 [.ref (q 69), .int p1, .int p2] (fun r m' a' => r = out ∧ INV F N q m' a') := by
  obtain ⟨hN, hsh, hty, hta, hod, kr, cap, lab, ack, cop, hst, hs, hD, hX, hT, hV, hE, hC⟩ := hI
  obtain ⟨⟨hkr, hgk, hrf⟩, ⟨b0, b1, b2, b3⟩, c0, c1, c2, c3⟩ := id hst
  have hb0 := hs.1
  have hb1 := hs.2.1
  have hb2 := hs.2.2.1
  have hb3 := hs.2.2.2
  obtain ⟨r0, m', e2, ho, hS', hL'⟩ := letters_eq (n := lab) hb0.2 (by omega) hb1.2 hD.1 hD.2.1 (iv m0 6918) p1 p2 (F := F) (by omega)
  have k1 := kX11_letters (m0 := m0) (a0 := a0) (q := q) (l := l) (D := D) (cy := cy) (sz := sz) (hN := hN) (hsh := hsh) (hkr := hkr) (hgk := hgk) (hrf := hrf) (h_xkr_0 := b0) (h_xkr_1 := b1) (h_x0_8 := hty.2 8 rfl)  (p1 := p1) (p2 := p2)
  refine ⟨_, _, k1, ?_⟩
  intro m1 a1 sz1 hQ
  obtain ⟨p8, f1, g1⟩ := hQ
  replace g1 : ∀ j, nel j [] = false → a1 j = a0 j := fun j _ => congrFun g1 j
  have d0 := (f1 6900 rfl).trans c0
  have d1 := (f1 6901 rfl).trans c1
  have d2 := (f1 6902 rfl).trans c2
  have d3 := (f1 6903 rfl).trans c3
  have hsh1 := hsh.off f1 rfl
  have k2 := kX12_letters (m0 := m1) (a0 := a1) (q := q) (l := l) (D := D) (cy := cy) (sz := sz1) (hN := hN) (hsh := hsh1) (h_x69_0 := d0) (h_x69_1 := d1) (h_x69_4 := (f1 6904 rfl).trans (hty.2 6904 rfl)) (h_x69_18 := (f1 6918 rfl).trans (hty.1 6918 rfl)) (F := F) (p1 := p1) (p2 := p2) (hs0 := e2)
  refine gMi_mono k2 (fun r m2 a2 h => ?_)
  obtain ⟨hr, p6904, p6918, f2, g2⟩ := h
  replace g2 : ∀ j, nel j [] = false → a2 j = a1 j := fun j _ => congrFun g2 j
  refine ⟨hr.trans ho.symm, hN, hsh1.off f2 rfl, ?_, ?_, od_off (od_off hod f1 g1 rfl rfl rfl rfl) f2 g2 rfl rfl rfl rfl, kr, cap, lab, ack, cop, stw_off (stw_off hst f1 rfl rfl rfl rfl rfl rfl) f2 rfl rfl rfl rfl rfl rfl, hs, ?_, ?_, ?_, ?_, ?_, ?_⟩
  · have t1 : TYM m1 := (tym_off hty f1 (fun j hj => by
      simp only [List.mem_cons, List.not_mem_nil, or_false] at hj
      rcases hj with rfl
      · exact ⟨fun z => absurd z (by decide), fun _ => ⟨_, p8⟩⟩))
    exact (tym_off t1 f2 (fun j hj => by
      simp only [List.mem_cons, List.not_mem_nil, or_false] at hj
      rcases hj with rfl | rfl
      · exact ⟨fun z => absurd z (by decide), fun _ => ⟨_, p6904⟩⟩
      · exact ⟨fun _ => ⟨_, p6918⟩, fun z => absurd z (by decide)⟩))
  · have t1 : TYA a1 := (tya_off hta g1 (fun j hj => absurd hj List.not_mem_nil))
    exact (tya_off t1 g2 (fun j hj => absurd hj List.not_mem_nil))
  · unfold DXw
    rw [lv_eq ((f2 8 rfl).trans p8), iv_same ((f2 9 rfl).trans (f1 9 rfl)), iv_same ((f2 10 rfl).trans (f1 10 rfl)), iv_same ((f2 200 rfl).trans (f1 200 rfl)), lv_same ((f2 201 rfl).trans (f1 201 rfl)), iv_same ((f2 500 rfl).trans (f1 500 rfl)), lv_same ((f2 501 rfl).trans (f1 501 rfl)), ai_same ((g2 1 rfl).trans (g1 1 rfl)), lv_eq p6904, iv_same ((f2 6906 rfl).trans (f1 6906 rfl)), iv_same ((f2 6909 rfl).trans (f1 6909 rfl)), iv_same ((f2 6911 rfl).trans (f1 6911 rfl)), ai_same ((g2 70 rfl).trans (g1 70 rfl)), ai_same ((g2 71 rfl).trans (g1 71 rfl)), ai_same ((g2 72 rfl).trans (g1 72 rfl)), ai_same ((g2 73 rfl).trans (g1 73 rfl))]
    exact ⟨hS', hL', hD.2.2⟩
  · unfold IXw
    rw [iv_same ((f2 11 rfl).trans (f1 11 rfl)), lv_same ((f2 12 rfl).trans (f1 12 rfl)), iv_same ((f2 13 rfl).trans (f1 13 rfl)), iv_same ((f2 14 rfl).trans (f1 14 rfl)), iv_same ((f2 6912 rfl).trans (f1 6912 rfl)), lv_same ((f2 6913 rfl).trans (f1 6913 rfl)), iv_same ((f2 6915 rfl).trans (f1 6915 rfl)), ai_same ((g2 74 rfl).trans (g1 74 rfl))]
    exact hX
  · unfold TXw
    rw [iv_same ((f2 2400 rfl).trans (f1 2400 rfl)), ai_same ((g2 26 rfl).trans (g1 26 rfl)), iv_same ((f2 6917 rfl).trans (f1 6917 rfl)), ai_same ((g2 75 rfl).trans (g1 75 rfl))]
    exact hT
  · unfold SVw
    rw [lv_same ((f2 2706 rfl).trans (f1 2706 rfl)), iv_same ((f2 2707 rfl).trans (f1 2707 rfl)), iv_same ((f2 2708 rfl).trans (f1 2708 rfl)), iv_same ((f2 2802 rfl).trans (f1 2802 rfl)), iv_same ((f2 2803 rfl).trans (f1 2803 rfl)), ai_same ((g2 30 rfl).trans (g1 30 rfl)), ai_same ((g2 35 rfl).trans (g1 35 rfl)), al_same ((g2 38 rfl).trans (g1 38 rfl)), ai_same ((g2 44 rfl).trans (g1 44 rfl)), ai_same ((g2 57 rfl).trans (g1 57 rfl)), ai_same ((g2 59 rfl).trans (g1 59 rfl))]
    exact hV
  · unfold ENw
    rw [lv_same ((f2 2709 rfl).trans (f1 2709 rfl)), iv_same ((f2 2710 rfl).trans (f1 2710 rfl))]
    exact hE
  · unfold CEw
    rw [iv_same ((f2 2705 rfl).trans (f1 2705 rfl)), ai_same ((g2 67 rfl).trans (g1 67 rfl))]
    exact hC
theorem cw_queue {F N : Nat} {q : Nat → Nat} {m0 : Nat → Value} {a0 : Nat → vp_A} (hF : 800000 ≤ F) (hI : INV F N q m0 a0) (p1 : Int32) (p2 : Int32) {l : Launch} {D : va_G} {cy : Nat → ClassId} {sz : Nat} : ∃ (out : Int32) (Q : (Nat → Value) → (Nat → vp_A) → Prop), gMi l yX11_queue cX11_queue 3 (some .int) ({ frames := 0, cells := 0, slots := 0, locals := 0 } : Room) D cy N q m0 a0 sz [.ref (q 0), .int p1, .int p2] (fun r m' a' => r = out ∧ Q m' a') ∧ ∀ (m1 : Nat → Value) (a1 : Nat → vp_A) (sz1 : Nat), Q m1 a1 → gMi l yX12_queue cX12_queue 4 (some .int) ({ frames := 1, cells := 0, slots := 0, locals := 22 } : Room) D cy N q m1 a1 sz1 [.ref (q 69), .int p1, .int p2] (fun r m' a' => r = out ∧ INV F N q m' a') := by
  obtain ⟨hN, hsh, hty, hta, hod, kr, cap, lab, ack, cop, hst, hs, hD, hX, hT, hV, hE, hC⟩ := hI
  obtain ⟨⟨hkr, hgk, hrf⟩, ⟨b0, b1, b2, b3⟩, c0, c1, c2, c3⟩ := id hst
  have hb0 := hs.1
  have hb1 := hs.2.1
  have hb2 := hs.2.2.1
  have hb3 := hs.2.2.2
  obtain ⟨r0, mq', A', e2, ho, hQ'⟩ := queue_eq hD.2.2.1 (iv m0 6918) p1 p2 (F := F) (by omega)
  have k1 := kX11_queue (m0 := m0) (a0 := a0) (q := q) (l := l) (D := D) (cy := cy) (sz := sz) (hN := hN) (hsh := hsh)  (h_x0_9 := hty.1 9 rfl) (h_x0_10 := hty.1 10 rfl)  (p1 := p1) (p2 := p2)
  refine ⟨_, _, k1, ?_⟩
  intro m1 a1 sz1 hQ
  obtain ⟨p9, p10, f1, g1⟩ := hQ
  replace g1 : ∀ j, nel j [] = false → a1 j = a0 j := fun j _ => congrFun g1 j
  have d0 := (f1 6900 rfl).trans c0
  have d1 := (f1 6901 rfl).trans c1
  have d2 := (f1 6902 rfl).trans c2
  have d3 := (f1 6903 rfl).trans c3
  have hsh1 := hsh.off f1 rfl
  have k2 := kX12_queue (m0 := m1) (a0 := a1) (q := q) (l := l) (D := D) (cy := cy) (sz := sz1) (hN := hN) (hsh := hsh1) (h_x69_6 := (f1 6906 rfl).trans (hty.1 6906 rfl)) (h_x69_18 := (f1 6918 rfl).trans (hty.1 6918 rfl)) (h_A70 := (g1 70 rfl).trans (hta.1 (70, 30) (by decide))) (F := F) (p1 := p1) (p2 := p2) (hs0 := e2)
  refine gMi_mono k2 (fun r m2 a2 h => ?_)
  obtain ⟨hr, p6906, p6918, f2, r70, g2⟩ := h
  refine ⟨hr.trans ho.symm, hN, hsh1.off f2 rfl, ?_, ?_, od_off (od_off hod f1 g1 rfl rfl rfl rfl) f2 g2 rfl rfl rfl rfl, kr, cap, lab, ack, cop, stw_off (stw_off hst f1 rfl rfl rfl rfl rfl rfl) f2 rfl rfl rfl rfl rfl rfl, hs, ?_, ?_, ?_, ?_, ?_, ?_⟩
  · have t1 : TYM m1 := (tym_off hty f1 (fun j hj => by
      simp only [List.mem_cons, List.not_mem_nil, or_false] at hj
      rcases hj with rfl | rfl
      · exact ⟨fun _ => ⟨_, p9⟩, fun z => absurd z (by decide)⟩
      · exact ⟨fun _ => ⟨_, p10⟩, fun z => absurd z (by decide)⟩))
    exact (tym_off t1 f2 (fun j hj => by
      simp only [List.mem_cons, List.not_mem_nil, or_false] at hj
      rcases hj with rfl | rfl
      · exact ⟨fun _ => ⟨_, p6906⟩, fun z => absurd z (by decide)⟩
      · exact ⟨fun _ => ⟨_, p6918⟩, fun z => absurd z (by decide)⟩))
  · have t1 : TYA a1 := (tya_off hta g1 (fun j hj => absurd hj List.not_mem_nil))
    exact (tya_off t1 g2 (fun j hj => by
      simp only [List.mem_cons, List.not_mem_nil, or_false] at hj
      rcases hj with rfl
      · exact ⟨fun n hn => ⟨_, arr_i (tlen_i hn (show (70, 30) ∈ aiT by decide)) r70⟩, fun n hn => absurd hn (tno_l 70 rfl n), fun n hn => absurd hn (tno_d 70 rfl n)⟩))
  · unfold DXw
    rw [lv_same ((f2 8 rfl).trans (f1 8 rfl)), iv_eq ((f2 9 rfl).trans p9), iv_eq ((f2 10 rfl).trans p10), iv_same ((f2 200 rfl).trans (f1 200 rfl)), lv_same ((f2 201 rfl).trans (f1 201 rfl)), iv_same ((f2 500 rfl).trans (f1 500 rfl)), lv_same ((f2 501 rfl).trans (f1 501 rfl)), ai_same ((g2 1 rfl).trans (g1 1 rfl)), lv_same ((f2 6904 rfl).trans (f1 6904 rfl)), iv_eq p6906, iv_same ((f2 6909 rfl).trans (f1 6909 rfl)), iv_same ((f2 6911 rfl).trans (f1 6911 rfl)), ai_eq r70, ai_same ((g2 71 rfl).trans (g1 71 rfl)), ai_same ((g2 72 rfl).trans (g1 72 rfl)), ai_same ((g2 73 rfl).trans (g1 73 rfl))]
    exact ⟨hD.1, hD.2.1, hQ', hD.2.2.2⟩
  · unfold IXw
    rw [iv_same ((f2 11 rfl).trans (f1 11 rfl)), lv_same ((f2 12 rfl).trans (f1 12 rfl)), iv_same ((f2 13 rfl).trans (f1 13 rfl)), iv_same ((f2 14 rfl).trans (f1 14 rfl)), iv_same ((f2 6912 rfl).trans (f1 6912 rfl)), lv_same ((f2 6913 rfl).trans (f1 6913 rfl)), iv_same ((f2 6915 rfl).trans (f1 6915 rfl)), ai_same ((g2 74 rfl).trans (g1 74 rfl))]
    exact hX
  · unfold TXw
    rw [iv_same ((f2 2400 rfl).trans (f1 2400 rfl)), ai_same ((g2 26 rfl).trans (g1 26 rfl)), iv_same ((f2 6917 rfl).trans (f1 6917 rfl)), ai_same ((g2 75 rfl).trans (g1 75 rfl))]
    exact hT
  · unfold SVw
    rw [lv_same ((f2 2706 rfl).trans (f1 2706 rfl)), iv_same ((f2 2707 rfl).trans (f1 2707 rfl)), iv_same ((f2 2708 rfl).trans (f1 2708 rfl)), iv_same ((f2 2802 rfl).trans (f1 2802 rfl)), iv_same ((f2 2803 rfl).trans (f1 2803 rfl)), ai_same ((g2 30 rfl).trans (g1 30 rfl)), ai_same ((g2 35 rfl).trans (g1 35 rfl)), al_same ((g2 38 rfl).trans (g1 38 rfl)), ai_same ((g2 44 rfl).trans (g1 44 rfl)), ai_same ((g2 57 rfl).trans (g1 57 rfl)), ai_same ((g2 59 rfl).trans (g1 59 rfl))]
    exact hV
  · unfold ENw
    rw [lv_same ((f2 2709 rfl).trans (f1 2709 rfl)), iv_same ((f2 2710 rfl).trans (f1 2710 rfl))]
    exact hE
  · unfold CEw
    rw [iv_same ((f2 2705 rfl).trans (f1 2705 rfl)), ai_same ((g2 67 rfl).trans (g1 67 rfl))]
    exact hC
theorem cw_act {F N : Nat} {q : Nat → Nat} {m0 : Nat → Value} {a0 : Nat → vp_A} (hF : 800000 ≤ F) (hI : INV F N q m0 a0) (p1 : Int32) (p2 : Int32) (p3 : Int32) {l : Launch} {D : va_G} {cy : Nat → ClassId} {sz : Nat} : ∃ (out : Int32) (Q : (Nat → Value) → (Nat → vp_A) → Prop), gMi l yX11_act cX11_act 4 (some .int) ({ frames := 5, cells := 0, slots := 0, locals := 123 } : Room) D cy N q m0 a0 sz [.ref (q 0), .int p1, .int p2, .int p3] (fun r m' a' => r = out ∧ Q m' a') ∧ ∀ (m1 : Nat → Value) (a1 : Nat → vp_A) (sz1 : Nat), Q m1 a1 → gMi l yX12_act cX12_act 4 (some .int) ({ frames := 4, cells := 0, slots := 0, locals := 100 } : Room) D cy N q m1 a1 sz1 [.ref (q 69), .int p1, .int p2, .int p3] (fun r m' a' => r = out ∧ INV F N q m' a') := by
  obtain ⟨hN, hsh, hty, hta, hod, kr, cap, lab, ack, cop, hst, hs, hD, hX, hT, hV, hE, hC⟩ := hI
  obtain ⟨⟨hkr, hgk, hrf⟩, ⟨b0, b1, b2, b3⟩, c0, c1, c2, c3⟩ := id hst
  have hb0 := hs.1
  have hb1 := hs.2.1
  have hb2 := hs.2.2.1
  have hb3 := hs.2.2.2
  obtain ⟨out, c', qb', qs', s2', b2', s5', b5', A1', m', mq', mf', md', y19, y20, y21, y22, A70', A71', A72', A73', e1, e2, hD'⟩ := act_eq hb0.2 (by omega) hb1.2 hb2.2 hb3.2 hD (F := F) (by omega) (iv m0 6918) (lv m0 6919) (iv m0 6920) (iv m0 6921) (iv m0 6922) p1 p2 p3
  have k1 := kX11_act (m0 := m0) (a0 := a0) (q := q) (l := l) (D := D) (cy := cy) (sz := sz) (hN := hN) (hsh := hsh) (hkr := hkr) (hgk := hgk) (hrf := hrf) (h_xkr_0 := b0) (h_xkr_1 := b1) (h_xkr_2 := b2) (h_xkr_3 := b3) (h_x0_8 := hty.2 8 rfl) (h_x0_9 := hty.1 9 rfl) (h_x0_10 := hty.1 10 rfl) (h_x2_0 := hty.1 200 rfl) (h_x2_1 := hty.2 201 rfl) (h_x5_0 := hty.1 500 rfl) (h_x5_1 := hty.2 501 rfl) (h_A1 := hta.1 (1, 8) (by decide))  (p1 := p1) (p2 := p2) (p3 := p3) (hs0 := e1)
  refine ⟨_, _, k1, ?_⟩
  intro m1 a1 sz1 hQ
  obtain ⟨p8, p9, p10, p200, p201, p500, p501, f1, r1, g1⟩ := hQ
  have d0 := (f1 6900 rfl).trans c0
  have d1 := (f1 6901 rfl).trans c1
  have d2 := (f1 6902 rfl).trans c2
  have d3 := (f1 6903 rfl).trans c3
  have hsh1 := hsh.off f1 rfl
  have k2 := kX12_act (m0 := m1) (a0 := a1) (q := q) (l := l) (D := D) (cy := cy) (sz := sz1) (hN := hN) (hsh := hsh1) (h_x69_0 := d0) (h_x69_1 := d1) (h_x69_2 := d2) (h_x69_3 := d3) (h_x69_4 := (f1 6904 rfl).trans (hty.2 6904 rfl)) (h_x69_6 := (f1 6906 rfl).trans (hty.1 6906 rfl)) (h_x69_9 := (f1 6909 rfl).trans (hty.1 6909 rfl)) (h_x69_11 := (f1 6911 rfl).trans (hty.1 6911 rfl)) (h_x69_18 := (f1 6918 rfl).trans (hty.1 6918 rfl)) (h_x69_19 := (f1 6919 rfl).trans (hty.2 6919 rfl)) (h_x69_20 := (f1 6920 rfl).trans (hty.1 6920 rfl)) (h_x69_21 := (f1 6921 rfl).trans (hty.1 6921 rfl)) (h_x69_22 := (f1 6922 rfl).trans (hty.1 6922 rfl)) (h_A70 := (g1 70 rfl).trans (hta.1 (70, 30) (by decide))) (h_A71 := (g1 71 rfl).trans (hta.1 (71, 8) (by decide))) (h_A72 := (g1 72 rfl).trans (hta.1 (72, 40) (by decide))) (h_A73 := (g1 73 rfl).trans (hta.1 (73, 40) (by decide))) (F := F) (p1 := p1) (p2 := p2) (p3 := p3) (hs0 := e2)
  refine gMi_mono k2 (fun r m2 a2 h => ?_)
  obtain ⟨hr, p6904, p6906, p6909, p6911, p6918, p6919, p6920, p6921, p6922, f2, r70, r71, r72, r73, g2⟩ := h
  refine ⟨hr, hN, hsh1.off f2 rfl, ?_, ?_, od_off (od_off hod f1 g1 rfl rfl rfl rfl) f2 g2 rfl rfl rfl rfl, kr, cap, lab, ack, cop, stw_off (stw_off hst f1 rfl rfl rfl rfl rfl rfl) f2 rfl rfl rfl rfl rfl rfl, hs, ?_, ?_, ?_, ?_, ?_, ?_⟩
  · have t1 : TYM m1 := (tym_off hty f1 (fun j hj => by
      simp only [List.mem_cons, List.not_mem_nil, or_false] at hj
      rcases hj with rfl | rfl | rfl | rfl | rfl | rfl | rfl
      · exact ⟨fun z => absurd z (by decide), fun _ => ⟨_, p8⟩⟩
      · exact ⟨fun _ => ⟨_, p9⟩, fun z => absurd z (by decide)⟩
      · exact ⟨fun _ => ⟨_, p10⟩, fun z => absurd z (by decide)⟩
      · exact ⟨fun _ => ⟨_, p200⟩, fun z => absurd z (by decide)⟩
      · exact ⟨fun z => absurd z (by decide), fun _ => ⟨_, p201⟩⟩
      · exact ⟨fun _ => ⟨_, p500⟩, fun z => absurd z (by decide)⟩
      · exact ⟨fun z => absurd z (by decide), fun _ => ⟨_, p501⟩⟩))
    exact (tym_off t1 f2 (fun j hj => by
      simp only [List.mem_cons, List.not_mem_nil, or_false] at hj
      rcases hj with rfl | rfl | rfl | rfl | rfl | rfl | rfl | rfl | rfl
      · exact ⟨fun z => absurd z (by decide), fun _ => ⟨_, p6904⟩⟩
      · exact ⟨fun _ => ⟨_, p6906⟩, fun z => absurd z (by decide)⟩
      · exact ⟨fun _ => ⟨_, p6909⟩, fun z => absurd z (by decide)⟩
      · exact ⟨fun _ => ⟨_, p6911⟩, fun z => absurd z (by decide)⟩
      · exact ⟨fun _ => ⟨_, p6918⟩, fun z => absurd z (by decide)⟩
      · exact ⟨fun z => absurd z (by decide), fun _ => ⟨_, p6919⟩⟩
      · exact ⟨fun _ => ⟨_, p6920⟩, fun z => absurd z (by decide)⟩
      · exact ⟨fun _ => ⟨_, p6921⟩, fun z => absurd z (by decide)⟩
      · exact ⟨fun _ => ⟨_, p6922⟩, fun z => absurd z (by decide)⟩))
  · have t1 : TYA a1 := (tya_off hta g1 (fun j hj => by
      simp only [List.mem_cons, List.not_mem_nil, or_false] at hj
      rcases hj with rfl
      · exact ⟨fun n hn => ⟨_, arr_i (tlen_i hn (show (1, 8) ∈ aiT by decide)) r1⟩, fun n hn => absurd hn (tno_l 1 rfl n), fun n hn => absurd hn (tno_d 1 rfl n)⟩))
    exact (tya_off t1 g2 (fun j hj => by
      simp only [List.mem_cons, List.not_mem_nil, or_false] at hj
      rcases hj with rfl | rfl | rfl | rfl
      · exact ⟨fun n hn => ⟨_, arr_i (tlen_i hn (show (70, 30) ∈ aiT by decide)) r70⟩, fun n hn => absurd hn (tno_l 70 rfl n), fun n hn => absurd hn (tno_d 70 rfl n)⟩
      · exact ⟨fun n hn => ⟨_, arr_i (tlen_i hn (show (71, 8) ∈ aiT by decide)) r71⟩, fun n hn => absurd hn (tno_l 71 rfl n), fun n hn => absurd hn (tno_d 71 rfl n)⟩
      · exact ⟨fun n hn => ⟨_, arr_i (tlen_i hn (show (72, 40) ∈ aiT by decide)) r72⟩, fun n hn => absurd hn (tno_l 72 rfl n), fun n hn => absurd hn (tno_d 72 rfl n)⟩
      · exact ⟨fun n hn => ⟨_, arr_i (tlen_i hn (show (73, 40) ∈ aiT by decide)) r73⟩, fun n hn => absurd hn (tno_l 73 rfl n), fun n hn => absurd hn (tno_d 73 rfl n)⟩))
  · unfold DXw
    rw [lv_eq ((f2 8 rfl).trans p8), iv_eq ((f2 9 rfl).trans p9), iv_eq ((f2 10 rfl).trans p10), iv_eq ((f2 200 rfl).trans p200), lv_eq ((f2 201 rfl).trans p201), iv_eq ((f2 500 rfl).trans p500), lv_eq ((f2 501 rfl).trans p501), ai_eq ((g2 1 rfl).trans r1), lv_eq p6904, iv_eq p6906, iv_eq p6909, iv_eq p6911, ai_eq r70, ai_eq r71, ai_eq r72, ai_eq r73]
    exact hD'
  · unfold IXw
    rw [iv_same ((f2 11 rfl).trans (f1 11 rfl)), lv_same ((f2 12 rfl).trans (f1 12 rfl)), iv_same ((f2 13 rfl).trans (f1 13 rfl)), iv_same ((f2 14 rfl).trans (f1 14 rfl)), iv_same ((f2 6912 rfl).trans (f1 6912 rfl)), lv_same ((f2 6913 rfl).trans (f1 6913 rfl)), iv_same ((f2 6915 rfl).trans (f1 6915 rfl)), ai_same ((g2 74 rfl).trans (g1 74 rfl))]
    exact hX
  · unfold TXw
    rw [iv_same ((f2 2400 rfl).trans (f1 2400 rfl)), ai_same ((g2 26 rfl).trans (g1 26 rfl)), iv_same ((f2 6917 rfl).trans (f1 6917 rfl)), ai_same ((g2 75 rfl).trans (g1 75 rfl))]
    exact hT
  · unfold SVw
    rw [lv_same ((f2 2706 rfl).trans (f1 2706 rfl)), iv_same ((f2 2707 rfl).trans (f1 2707 rfl)), iv_same ((f2 2708 rfl).trans (f1 2708 rfl)), iv_same ((f2 2802 rfl).trans (f1 2802 rfl)), iv_same ((f2 2803 rfl).trans (f1 2803 rfl)), ai_same ((g2 30 rfl).trans (g1 30 rfl)), ai_same ((g2 35 rfl).trans (g1 35 rfl)), al_same ((g2 38 rfl).trans (g1 38 rfl)), ai_same ((g2 44 rfl).trans (g1 44 rfl)), ai_same ((g2 57 rfl).trans (g1 57 rfl)), ai_same ((g2 59 rfl).trans (g1 59 rfl))]
    exact hV
  · unfold ENw
    rw [lv_same ((f2 2709 rfl).trans (f1 2709 rfl)), iv_same ((f2 2710 rfl).trans (f1 2710 rfl))]
    exact hE
  · unfold CEw
    rw [iv_same ((f2 2705 rfl).trans (f1 2705 rfl)), ai_same ((g2 67 rfl).trans (g1 67 rfl))]
    exact hC
theorem cw_run {F N : Nat} {q : Nat → Nat} {m0 : Nat → Value} {a0 : Nat → vp_A} (hF : 800000 ≤ F) (hI : INV F N q m0 a0) (p1 : Int32) (p2 : Int32) (p3 : Int32) {l : Launch} {D : va_G} {cy : Nat → ClassId} {sz : Nat} : ∃ (out : Int32) (Q : (Nat → Value) → (Nat → vp_A) → Prop), gMi l yX11_run cX11_run 8 (some .int) ({ frames := 5, cells := 0, slots := 0, locals := 123 } : Room) D cy N q m0 a0 sz [.ref (q 0), .int p1, .int p2, .int p3] (fun r m' a' => r = out ∧ Q m' a') ∧ ∀ (m1 : Nat → Value) (a1 : Nat → vp_A) (sz1 : Nat), Q m1 a1 → gMi l yX12_run cX12_run 8 (some .int) ({ frames := 6, cells := 0, slots := 0, locals := 141 } : Room) D cy N q m1 a1 sz1 [.ref (q 69), .int p1, .int p2, .int p3] (fun r m' a' => r = out ∧ INV F N q m' a') := by
  obtain ⟨hN, hsh, hty, hta, hod, kr, cap, lab, ack, cop, hst, hs, hD, hX, hT, hV, hE, hC⟩ := hI
  obtain ⟨⟨hkr, hgk, hrf⟩, ⟨b0, b1, b2, b3⟩, c0, c1, c2, c3⟩ := id hst
  have hb0 := hs.1
  have hb1 := hs.2.1
  have hb2 := hs.2.2.1
  have hb3 := hs.2.2.2
  obtain ⟨out, c', qb', qs', s2', b2', s5', b5', x81', x82', A1', A10', m', mq', mf', md', y19, y20, y21, y22, A70', A71', A72', A73', A76', A77', A78', e1, e2, hD'⟩ := run_eq hb0.2 (by omega) hb1.2 hb2.2 hb3.2 hD (F := F) (by omega) (iv m0 801) (iv m0 802) (ai a0 10) (iv m0 6918) (lv m0 6919) (iv m0 6920) (iv m0 6921) (iv m0 6922) (ai a0 76) (ai a0 77) (ai a0 78) p1 p2 p3
  have k1 := kX11_run (m0 := m0) (a0 := a0) (q := q) (l := l) (D := D) (cy := cy) (sz := sz) (hN := hN) (hsh := hsh) (hkr := hkr) (hgk := hgk) (hrf := hrf) (h_xkr_0 := b0) (h_xkr_1 := b1) (h_xkr_2 := b2) (h_xkr_3 := b3) (h_x0_8 := hty.2 8 rfl) (h_x0_9 := hty.1 9 rfl) (h_x0_10 := hty.1 10 rfl) (h_x2_0 := hty.1 200 rfl) (h_x2_1 := hty.2 201 rfl) (h_x5_0 := hty.1 500 rfl) (h_x5_1 := hty.2 501 rfl) (h_x8_1 := hty.1 801 rfl) (h_x8_2 := hty.1 802 rfl) (h_A1 := hta.1 (1, 8) (by decide)) (h_A10 := hta.1 (10, 10) (by decide)) (F := F) (p1 := p1) (p2 := p2) (p3 := p3) (hs0 := e1)
  refine ⟨_, _, k1, ?_⟩
  intro m1 a1 sz1 hQ
  obtain ⟨p8, p9, p10, p200, p201, p500, p501, p801, p802, f1, r1, r10, g1⟩ := hQ
  have d0 := (f1 6900 rfl).trans c0
  have d1 := (f1 6901 rfl).trans c1
  have d2 := (f1 6902 rfl).trans c2
  have d3 := (f1 6903 rfl).trans c3
  have hsh1 := hsh.off f1 rfl
  have k2 := kX12_run (m0 := m1) (a0 := a1) (q := q) (l := l) (D := D) (cy := cy) (sz := sz1) (hN := hN) (hsh := hsh1) (h_x69_0 := d0) (h_x69_1 := d1) (h_x69_2 := d2) (h_x69_3 := d3) (h_x69_4 := (f1 6904 rfl).trans (hty.2 6904 rfl)) (h_x69_6 := (f1 6906 rfl).trans (hty.1 6906 rfl)) (h_x69_9 := (f1 6909 rfl).trans (hty.1 6909 rfl)) (h_x69_11 := (f1 6911 rfl).trans (hty.1 6911 rfl)) (h_x69_18 := (f1 6918 rfl).trans (hty.1 6918 rfl)) (h_x69_19 := (f1 6919 rfl).trans (hty.2 6919 rfl)) (h_x69_20 := (f1 6920 rfl).trans (hty.1 6920 rfl)) (h_x69_21 := (f1 6921 rfl).trans (hty.1 6921 rfl)) (h_x69_22 := (f1 6922 rfl).trans (hty.1 6922 rfl)) (h_A70 := (g1 70 rfl).trans (hta.1 (70, 30) (by decide))) (h_A71 := (g1 71 rfl).trans (hta.1 (71, 8) (by decide))) (h_A72 := (g1 72 rfl).trans (hta.1 (72, 40) (by decide))) (h_A73 := (g1 73 rfl).trans (hta.1 (73, 40) (by decide))) (h_A76 := (g1 76 rfl).trans (hta.1 (76, 40) (by decide))) (h_A77 := (g1 77 rfl).trans (hta.1 (77, 40) (by decide))) (h_A78 := (g1 78 rfl).trans (hta.1 (78, 40) (by decide))) (F := F) (p1 := p1) (p2 := p2) (p3 := p3) (hs0 := e2)
  refine gMi_mono k2 (fun r m2 a2 h => ?_)
  obtain ⟨hr, p6904, p6906, p6909, p6911, p6918, p6919, p6920, p6921, p6922, f2, r70, r71, r72, r73, r76, r77, r78, g2⟩ := h
  refine ⟨hr, hN, hsh1.off f2 rfl, ?_, ?_, od_off (od_off hod f1 g1 rfl rfl rfl rfl) f2 g2 rfl rfl rfl rfl, kr, cap, lab, ack, cop, stw_off (stw_off hst f1 rfl rfl rfl rfl rfl rfl) f2 rfl rfl rfl rfl rfl rfl, hs, ?_, ?_, ?_, ?_, ?_, ?_⟩
  · have t1 : TYM m1 := (tym_off hty f1 (fun j hj => by
      simp only [List.mem_cons, List.not_mem_nil, or_false] at hj
      rcases hj with rfl | rfl | rfl | rfl | rfl | rfl | rfl | rfl | rfl
      · exact ⟨fun z => absurd z (by decide), fun _ => ⟨_, p8⟩⟩
      · exact ⟨fun _ => ⟨_, p9⟩, fun z => absurd z (by decide)⟩
      · exact ⟨fun _ => ⟨_, p10⟩, fun z => absurd z (by decide)⟩
      · exact ⟨fun _ => ⟨_, p200⟩, fun z => absurd z (by decide)⟩
      · exact ⟨fun z => absurd z (by decide), fun _ => ⟨_, p201⟩⟩
      · exact ⟨fun _ => ⟨_, p500⟩, fun z => absurd z (by decide)⟩
      · exact ⟨fun z => absurd z (by decide), fun _ => ⟨_, p501⟩⟩
      · exact ⟨fun _ => ⟨_, p801⟩, fun z => absurd z (by decide)⟩
      · exact ⟨fun _ => ⟨_, p802⟩, fun z => absurd z (by decide)⟩))
    exact (tym_off t1 f2 (fun j hj => by
      simp only [List.mem_cons, List.not_mem_nil, or_false] at hj
      rcases hj with rfl | rfl | rfl | rfl | rfl | rfl | rfl | rfl | rfl
      · exact ⟨fun z => absurd z (by decide), fun _ => ⟨_, p6904⟩⟩
      · exact ⟨fun _ => ⟨_, p6906⟩, fun z => absurd z (by decide)⟩
      · exact ⟨fun _ => ⟨_, p6909⟩, fun z => absurd z (by decide)⟩
      · exact ⟨fun _ => ⟨_, p6911⟩, fun z => absurd z (by decide)⟩
      · exact ⟨fun _ => ⟨_, p6918⟩, fun z => absurd z (by decide)⟩
      · exact ⟨fun z => absurd z (by decide), fun _ => ⟨_, p6919⟩⟩
      · exact ⟨fun _ => ⟨_, p6920⟩, fun z => absurd z (by decide)⟩
      · exact ⟨fun _ => ⟨_, p6921⟩, fun z => absurd z (by decide)⟩
      · exact ⟨fun _ => ⟨_, p6922⟩, fun z => absurd z (by decide)⟩))
  · have t1 : TYA a1 := (tya_off hta g1 (fun j hj => by
      simp only [List.mem_cons, List.not_mem_nil, or_false] at hj
      rcases hj with rfl | rfl
      · exact ⟨fun n hn => ⟨_, arr_i (tlen_i hn (show (1, 8) ∈ aiT by decide)) r1⟩, fun n hn => absurd hn (tno_l 1 rfl n), fun n hn => absurd hn (tno_d 1 rfl n)⟩
      · exact ⟨fun n hn => ⟨_, arr_i (tlen_i hn (show (10, 10) ∈ aiT by decide)) r10⟩, fun n hn => absurd hn (tno_l 10 rfl n), fun n hn => absurd hn (tno_d 10 rfl n)⟩))
    exact (tya_off t1 g2 (fun j hj => by
      simp only [List.mem_cons, List.not_mem_nil, or_false] at hj
      rcases hj with rfl | rfl | rfl | rfl | rfl | rfl | rfl
      · exact ⟨fun n hn => ⟨_, arr_i (tlen_i hn (show (70, 30) ∈ aiT by decide)) r70⟩, fun n hn => absurd hn (tno_l 70 rfl n), fun n hn => absurd hn (tno_d 70 rfl n)⟩
      · exact ⟨fun n hn => ⟨_, arr_i (tlen_i hn (show (71, 8) ∈ aiT by decide)) r71⟩, fun n hn => absurd hn (tno_l 71 rfl n), fun n hn => absurd hn (tno_d 71 rfl n)⟩
      · exact ⟨fun n hn => ⟨_, arr_i (tlen_i hn (show (72, 40) ∈ aiT by decide)) r72⟩, fun n hn => absurd hn (tno_l 72 rfl n), fun n hn => absurd hn (tno_d 72 rfl n)⟩
      · exact ⟨fun n hn => ⟨_, arr_i (tlen_i hn (show (73, 40) ∈ aiT by decide)) r73⟩, fun n hn => absurd hn (tno_l 73 rfl n), fun n hn => absurd hn (tno_d 73 rfl n)⟩
      · exact ⟨fun n hn => ⟨_, arr_i (tlen_i hn (show (76, 40) ∈ aiT by decide)) r76⟩, fun n hn => absurd hn (tno_l 76 rfl n), fun n hn => absurd hn (tno_d 76 rfl n)⟩
      · exact ⟨fun n hn => ⟨_, arr_i (tlen_i hn (show (77, 40) ∈ aiT by decide)) r77⟩, fun n hn => absurd hn (tno_l 77 rfl n), fun n hn => absurd hn (tno_d 77 rfl n)⟩
      · exact ⟨fun n hn => ⟨_, arr_i (tlen_i hn (show (78, 40) ∈ aiT by decide)) r78⟩, fun n hn => absurd hn (tno_l 78 rfl n), fun n hn => absurd hn (tno_d 78 rfl n)⟩))
  · unfold DXw
    rw [lv_eq ((f2 8 rfl).trans p8), iv_eq ((f2 9 rfl).trans p9), iv_eq ((f2 10 rfl).trans p10), iv_eq ((f2 200 rfl).trans p200), lv_eq ((f2 201 rfl).trans p201), iv_eq ((f2 500 rfl).trans p500), lv_eq ((f2 501 rfl).trans p501), ai_eq ((g2 1 rfl).trans r1), lv_eq p6904, iv_eq p6906, iv_eq p6909, iv_eq p6911, ai_eq r70, ai_eq r71, ai_eq r72, ai_eq r73]
    exact hD'
  · unfold IXw
    rw [iv_same ((f2 11 rfl).trans (f1 11 rfl)), lv_same ((f2 12 rfl).trans (f1 12 rfl)), iv_same ((f2 13 rfl).trans (f1 13 rfl)), iv_same ((f2 14 rfl).trans (f1 14 rfl)), iv_same ((f2 6912 rfl).trans (f1 6912 rfl)), lv_same ((f2 6913 rfl).trans (f1 6913 rfl)), iv_same ((f2 6915 rfl).trans (f1 6915 rfl)), ai_same ((g2 74 rfl).trans (g1 74 rfl))]
    exact hX
  · unfold TXw
    rw [iv_same ((f2 2400 rfl).trans (f1 2400 rfl)), ai_same ((g2 26 rfl).trans (g1 26 rfl)), iv_same ((f2 6917 rfl).trans (f1 6917 rfl)), ai_same ((g2 75 rfl).trans (g1 75 rfl))]
    exact hT
  · unfold SVw
    rw [lv_same ((f2 2706 rfl).trans (f1 2706 rfl)), iv_same ((f2 2707 rfl).trans (f1 2707 rfl)), iv_same ((f2 2708 rfl).trans (f1 2708 rfl)), iv_same ((f2 2802 rfl).trans (f1 2802 rfl)), iv_same ((f2 2803 rfl).trans (f1 2803 rfl)), ai_same ((g2 30 rfl).trans (g1 30 rfl)), ai_same ((g2 35 rfl).trans (g1 35 rfl)), al_same ((g2 38 rfl).trans (g1 38 rfl)), ai_same ((g2 44 rfl).trans (g1 44 rfl)), ai_same ((g2 57 rfl).trans (g1 57 rfl)), ai_same ((g2 59 rfl).trans (g1 59 rfl))]
    exact hV
  · unfold ENw
    rw [lv_same ((f2 2709 rfl).trans (f1 2709 rfl)), iv_same ((f2 2710 rfl).trans (f1 2710 rfl))]
    exact hE
  · unfold CEw
    rw [iv_same ((f2 2705 rfl).trans (f1 2705 rfl)), ai_same ((g2 67 rfl).trans (g1 67 rfl))]
    exact hC
theorem cw_count {F N : Nat} {q : Nat → Nat} {m0 : Nat → Value} {a0 : Nat → vp_A} (hF : 800000 ≤ F) (hI : INV F N q m0 a0) (p1 : Int32) {l : Launch} {D : va_G} {cy : Nat → ClassId} {sz : Nat} : ∃ (out : Int32) (Q : (Nat → Value) → (Nat → vp_A) → Prop), gMi l yX11_count cX11_count 2 (some .int) ({ frames := 0, cells := 0, slots := 0, locals := 0 } : Room) D cy N q m0 a0 sz [.ref (q 0), .int p1] (fun r m' a' => r = out ∧ Q m' a') ∧ ∀ (m1 : Nat → Value) (a1 : Nat → vp_A) (sz1 : Nat), Q m1 a1 → gMi l yX12_count cX12_count 2 (some .int) ({ frames := 1, cells := 0, slots := 0, locals := 22 } : Room) D cy N q m1 a1 sz1 [.ref (q 69), .int p1] (fun r m' a' => r = out ∧ INV F N q m' a') := by
  obtain ⟨hN, hsh, hty, hta, hod, kr, cap, lab, ack, cop, hst, hs, hD, hX, hT, hV, hE, hC⟩ := hI
  obtain ⟨⟨hkr, hgk, hrf⟩, ⟨b0, b1, b2, b3⟩, c0, c1, c2, c3⟩ := id hst
  have hb0 := hs.1
  have hb1 := hs.2.1
  have hb2 := hs.2.2.1
  have hb3 := hs.2.2.2
  obtain ⟨r0, e1, e2⟩ := count_eq hD.2.2.2.2.2 (iv m0 6918) p1
  have k1 := kX11_count (m0 := m0) (a0 := a0) (q := q) (l := l) (D := D) (cy := cy) (sz := sz) (hN := hN) (hsh := hsh)  (h_A1 := hta.1 (1, 8) (by decide))  (p1 := p1) (hs0 := e1)
  refine ⟨_, _, k1, ?_⟩
  intro m1 a1 sz1 hQ
  obtain ⟨f1, g1⟩ := hQ
  replace f1 : ∀ j, nel j [] = false → m1 j = m0 j := fun j _ => congrFun f1 j
  replace g1 : ∀ j, nel j [] = false → a1 j = a0 j := fun j _ => congrFun g1 j
  have d0 := (f1 6900 rfl).trans c0
  have d1 := (f1 6901 rfl).trans c1
  have d2 := (f1 6902 rfl).trans c2
  have d3 := (f1 6903 rfl).trans c3
  have hsh1 := hsh.off f1 rfl
  have k2 := kX12_count (m0 := m1) (a0 := a1) (q := q) (l := l) (D := D) (cy := cy) (sz := sz1) (hN := hN) (hsh := hsh1) (h_x69_18 := (f1 6918 rfl).trans (hty.1 6918 rfl)) (h_A71 := (g1 71 rfl).trans (hta.1 (71, 8) (by decide)))  (p1 := p1) (hs0 := e2)
  refine gMi_mono k2 (fun r m2 a2 h => ?_)
  obtain ⟨hr, p6918, f2, g2⟩ := h
  replace g2 : ∀ j, nel j [] = false → a2 j = a1 j := fun j _ => congrFun g2 j
  refine ⟨hr, hN, hsh1.off f2 rfl, ?_, ?_, od_off (od_off hod f1 g1 rfl rfl rfl rfl) f2 g2 rfl rfl rfl rfl, kr, cap, lab, ack, cop, stw_off (stw_off hst f1 rfl rfl rfl rfl rfl rfl) f2 rfl rfl rfl rfl rfl rfl, hs, ?_, ?_, ?_, ?_, ?_, ?_⟩
  · have t1 : TYM m1 := (tym_off hty f1 (fun j hj => absurd hj List.not_mem_nil))
    exact (tym_off t1 f2 (fun j hj => by
      simp only [List.mem_cons, List.not_mem_nil, or_false] at hj
      rcases hj with rfl
      · exact ⟨fun _ => ⟨_, p6918⟩, fun z => absurd z (by decide)⟩))
  · have t1 : TYA a1 := (tya_off hta g1 (fun j hj => absurd hj List.not_mem_nil))
    exact (tya_off t1 g2 (fun j hj => absurd hj List.not_mem_nil))
  · unfold DXw
    rw [lv_same ((f2 8 rfl).trans (f1 8 rfl)), iv_same ((f2 9 rfl).trans (f1 9 rfl)), iv_same ((f2 10 rfl).trans (f1 10 rfl)), iv_same ((f2 200 rfl).trans (f1 200 rfl)), lv_same ((f2 201 rfl).trans (f1 201 rfl)), iv_same ((f2 500 rfl).trans (f1 500 rfl)), lv_same ((f2 501 rfl).trans (f1 501 rfl)), ai_same ((g2 1 rfl).trans (g1 1 rfl)), lv_same ((f2 6904 rfl).trans (f1 6904 rfl)), iv_same ((f2 6906 rfl).trans (f1 6906 rfl)), iv_same ((f2 6909 rfl).trans (f1 6909 rfl)), iv_same ((f2 6911 rfl).trans (f1 6911 rfl)), ai_same ((g2 70 rfl).trans (g1 70 rfl)), ai_same ((g2 71 rfl).trans (g1 71 rfl)), ai_same ((g2 72 rfl).trans (g1 72 rfl)), ai_same ((g2 73 rfl).trans (g1 73 rfl))]
    exact hD
  · unfold IXw
    rw [iv_same ((f2 11 rfl).trans (f1 11 rfl)), lv_same ((f2 12 rfl).trans (f1 12 rfl)), iv_same ((f2 13 rfl).trans (f1 13 rfl)), iv_same ((f2 14 rfl).trans (f1 14 rfl)), iv_same ((f2 6912 rfl).trans (f1 6912 rfl)), lv_same ((f2 6913 rfl).trans (f1 6913 rfl)), iv_same ((f2 6915 rfl).trans (f1 6915 rfl)), ai_same ((g2 74 rfl).trans (g1 74 rfl))]
    exact hX
  · unfold TXw
    rw [iv_same ((f2 2400 rfl).trans (f1 2400 rfl)), ai_same ((g2 26 rfl).trans (g1 26 rfl)), iv_same ((f2 6917 rfl).trans (f1 6917 rfl)), ai_same ((g2 75 rfl).trans (g1 75 rfl))]
    exact hT
  · unfold SVw
    rw [lv_same ((f2 2706 rfl).trans (f1 2706 rfl)), iv_same ((f2 2707 rfl).trans (f1 2707 rfl)), iv_same ((f2 2708 rfl).trans (f1 2708 rfl)), iv_same ((f2 2802 rfl).trans (f1 2802 rfl)), iv_same ((f2 2803 rfl).trans (f1 2803 rfl)), ai_same ((g2 30 rfl).trans (g1 30 rfl)), ai_same ((g2 35 rfl).trans (g1 35 rfl)), al_same ((g2 38 rfl).trans (g1 38 rfl)), ai_same ((g2 44 rfl).trans (g1 44 rfl)), ai_same ((g2 57 rfl).trans (g1 57 rfl)), ai_same ((g2 59 rfl).trans (g1 59 rfl))]
    exact hV
  · unfold ENw
    rw [lv_same ((f2 2709 rfl).trans (f1 2709 rfl)), iv_same ((f2 2710 rfl).trans (f1 2710 rfl))]
    exact hE
  · unfold CEw
    rw [iv_same ((f2 2705 rfl).trans (f1 2705 rfl)), ai_same ((g2 67 rfl).trans (g1 67 rfl))]
    exact hC
theorem cw_possible {F N : Nat} {q : Nat → Nat} {m0 : Nat → Value} {a0 : Nat → vp_A} (hF : 800000 ≤ F) (hI : INV F N q m0 a0) (p1 : Int32) (p2 : Int32) {l : Launch} {D : va_G} {cy : Nat → ClassId} {sz : Nat} : ∃ (out : Int32) (Q : (Nat → Value) → (Nat → vp_A) → Prop), gMi l yX11_possible cX11_possible 3 (some .int) ({ frames := 4, cells := 0, slots := 0, locals := 93 } : Room) D cy N q m0 a0 sz [.ref (q 0), .int p1, .int p2] (fun r m' a' => r = out ∧ Q m' a') ∧ ∀ (m1 : Nat → Value) (a1 : Nat → vp_A) (sz1 : Nat), Q m1 a1 → gMi l yX12_possible cX12_possible 4 (some .int) ({ frames := 6, cells := 0, slots := 0, locals := 141 } : Room) D cy N q m1 a1 sz1 [.ref (q 69), .int p1, .int p2] (fun r m' a' => r = out ∧ INV F N q m' a') := by
  obtain ⟨hN, hsh, hty, hta, hod, kr, cap, lab, ack, cop, hst, hs, hD, hX, hT, hV, hE, hC⟩ := hI
  obtain ⟨⟨hkr, hgk, hrf⟩, ⟨b0, b1, b2, b3⟩, c0, c1, c2, c3⟩ := id hst
  have hb0 := hs.1
  have hb1 := hs.2.1
  have hb2 := hs.2.2.1
  have hb3 := hs.2.2.2
  obtain ⟨r0, x81', x82', A10', A76', A77', A78', e1, e2⟩ := possible_eq (ack := ack) hb0.2 (by omega) hb1.2 hb2.2 hD.1 hD.2.1 (F := F) (by omega) (iv m0 801) (iv m0 802) (ai a0 10) (iv m0 6918) (ai a0 76) (ai a0 77) (ai a0 78) p1 p2
  have k1 := kX11_possible (m0 := m0) (a0 := a0) (q := q) (l := l) (D := D) (cy := cy) (sz := sz) (hN := hN) (hsh := hsh) (hkr := hkr) (hgk := hgk) (hrf := hrf) (h_x0_8 := hty.2 8 rfl) (h_xkr_1 := b1) (h_xkr_2 := b2) (h_x8_1 := hty.1 801 rfl) (h_x8_2 := hty.1 802 rfl) (h_A10 := hta.1 (10, 10) (by decide)) (F := F) (p1 := p1) (p2 := p2) (hs0 := e1)
  refine ⟨_, _, k1, ?_⟩
  intro m1 a1 sz1 hQ
  obtain ⟨p801, p802, f1, r10, g1⟩ := hQ
  have d0 := (f1 6900 rfl).trans c0
  have d1 := (f1 6901 rfl).trans c1
  have d2 := (f1 6902 rfl).trans c2
  have d3 := (f1 6903 rfl).trans c3
  have hsh1 := hsh.off f1 rfl
  have k2 := kX12_possible (m0 := m1) (a0 := a1) (q := q) (l := l) (D := D) (cy := cy) (sz := sz1) (hN := hN) (hsh := hsh1) (h_x69_1 := d1) (h_x69_4 := (f1 6904 rfl).trans (hty.2 6904 rfl)) (h_x69_18 := (f1 6918 rfl).trans (hty.1 6918 rfl)) (h_A76 := (g1 76 rfl).trans (hta.1 (76, 40) (by decide))) (h_A77 := (g1 77 rfl).trans (hta.1 (77, 40) (by decide))) (h_A78 := (g1 78 rfl).trans (hta.1 (78, 40) (by decide))) (F := F) (p1 := p1) (p2 := p2) (hs0 := e2)
  refine gMi_mono k2 (fun r m2 a2 h => ?_)
  obtain ⟨hr, p6918, f2, r76, r77, r78, g2⟩ := h
  refine ⟨hr, hN, hsh1.off f2 rfl, ?_, ?_, od_off (od_off hod f1 g1 rfl rfl rfl rfl) f2 g2 rfl rfl rfl rfl, kr, cap, lab, ack, cop, stw_off (stw_off hst f1 rfl rfl rfl rfl rfl rfl) f2 rfl rfl rfl rfl rfl rfl, hs, ?_, ?_, ?_, ?_, ?_, ?_⟩
  · have t1 : TYM m1 := (tym_off hty f1 (fun j hj => by
      simp only [List.mem_cons, List.not_mem_nil, or_false] at hj
      rcases hj with rfl | rfl
      · exact ⟨fun _ => ⟨_, p801⟩, fun z => absurd z (by decide)⟩
      · exact ⟨fun _ => ⟨_, p802⟩, fun z => absurd z (by decide)⟩))
    exact (tym_off t1 f2 (fun j hj => by
      simp only [List.mem_cons, List.not_mem_nil, or_false] at hj
      rcases hj with rfl
      · exact ⟨fun _ => ⟨_, p6918⟩, fun z => absurd z (by decide)⟩))
  · have t1 : TYA a1 := (tya_off hta g1 (fun j hj => by
      simp only [List.mem_cons, List.not_mem_nil, or_false] at hj
      rcases hj with rfl
      · exact ⟨fun n hn => ⟨_, arr_i (tlen_i hn (show (10, 10) ∈ aiT by decide)) r10⟩, fun n hn => absurd hn (tno_l 10 rfl n), fun n hn => absurd hn (tno_d 10 rfl n)⟩))
    exact (tya_off t1 g2 (fun j hj => by
      simp only [List.mem_cons, List.not_mem_nil, or_false] at hj
      rcases hj with rfl | rfl | rfl
      · exact ⟨fun n hn => ⟨_, arr_i (tlen_i hn (show (76, 40) ∈ aiT by decide)) r76⟩, fun n hn => absurd hn (tno_l 76 rfl n), fun n hn => absurd hn (tno_d 76 rfl n)⟩
      · exact ⟨fun n hn => ⟨_, arr_i (tlen_i hn (show (77, 40) ∈ aiT by decide)) r77⟩, fun n hn => absurd hn (tno_l 77 rfl n), fun n hn => absurd hn (tno_d 77 rfl n)⟩
      · exact ⟨fun n hn => ⟨_, arr_i (tlen_i hn (show (78, 40) ∈ aiT by decide)) r78⟩, fun n hn => absurd hn (tno_l 78 rfl n), fun n hn => absurd hn (tno_d 78 rfl n)⟩))
  · unfold DXw
    rw [lv_same ((f2 8 rfl).trans (f1 8 rfl)), iv_same ((f2 9 rfl).trans (f1 9 rfl)), iv_same ((f2 10 rfl).trans (f1 10 rfl)), iv_same ((f2 200 rfl).trans (f1 200 rfl)), lv_same ((f2 201 rfl).trans (f1 201 rfl)), iv_same ((f2 500 rfl).trans (f1 500 rfl)), lv_same ((f2 501 rfl).trans (f1 501 rfl)), ai_same ((g2 1 rfl).trans (g1 1 rfl)), lv_same ((f2 6904 rfl).trans (f1 6904 rfl)), iv_same ((f2 6906 rfl).trans (f1 6906 rfl)), iv_same ((f2 6909 rfl).trans (f1 6909 rfl)), iv_same ((f2 6911 rfl).trans (f1 6911 rfl)), ai_same ((g2 70 rfl).trans (g1 70 rfl)), ai_same ((g2 71 rfl).trans (g1 71 rfl)), ai_same ((g2 72 rfl).trans (g1 72 rfl)), ai_same ((g2 73 rfl).trans (g1 73 rfl))]
    exact hD
  · unfold IXw
    rw [iv_same ((f2 11 rfl).trans (f1 11 rfl)), lv_same ((f2 12 rfl).trans (f1 12 rfl)), iv_same ((f2 13 rfl).trans (f1 13 rfl)), iv_same ((f2 14 rfl).trans (f1 14 rfl)), iv_same ((f2 6912 rfl).trans (f1 6912 rfl)), lv_same ((f2 6913 rfl).trans (f1 6913 rfl)), iv_same ((f2 6915 rfl).trans (f1 6915 rfl)), ai_same ((g2 74 rfl).trans (g1 74 rfl))]
    exact hX
  · unfold TXw
    rw [iv_same ((f2 2400 rfl).trans (f1 2400 rfl)), ai_same ((g2 26 rfl).trans (g1 26 rfl)), iv_same ((f2 6917 rfl).trans (f1 6917 rfl)), ai_same ((g2 75 rfl).trans (g1 75 rfl))]
    exact hT
  · unfold SVw
    rw [lv_same ((f2 2706 rfl).trans (f1 2706 rfl)), iv_same ((f2 2707 rfl).trans (f1 2707 rfl)), iv_same ((f2 2708 rfl).trans (f1 2708 rfl)), iv_same ((f2 2802 rfl).trans (f1 2802 rfl)), iv_same ((f2 2803 rfl).trans (f1 2803 rfl)), ai_same ((g2 30 rfl).trans (g1 30 rfl)), ai_same ((g2 35 rfl).trans (g1 35 rfl)), al_same ((g2 38 rfl).trans (g1 38 rfl)), ai_same ((g2 44 rfl).trans (g1 44 rfl)), ai_same ((g2 57 rfl).trans (g1 57 rfl)), ai_same ((g2 59 rfl).trans (g1 59 rfl))]
    exact hV
  · unfold ENw
    rw [lv_same ((f2 2709 rfl).trans (f1 2709 rfl)), iv_same ((f2 2710 rfl).trans (f1 2710 rfl))]
    exact hE
  · unfold CEw
    rw [iv_same ((f2 2705 rfl).trans (f1 2705 rfl)), ai_same ((g2 67 rfl).trans (g1 67 rfl))]
    exact hC
end CALLW
