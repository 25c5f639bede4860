/-! part 9zl: kind, queued -/
section CALLK
theorem inv_th {F N : Nat} {q : Nat → Nat} {m0 m1 : Nat → Value} {a0 a1 : Nat → vp_A} (hI : INV F N q m0 a0) (h18 : ∃ x, m1 6918 = .int x) (hm : ∀ j, nel j [6918] = false → m1 j = m0 j) (h104 : ∃ f, a1 104 = (1, .inr (.inl f))) (ha : ∀ j, nel j [104] = false → a1 j = a0 j) : INV F N q m1 a1 := by
  obtain ⟨hN, hsh, hty, hta, hod, kr, cap, lab, ack, cop, hst, hs, hD, hX, hT, hV, hE, hC⟩ := hI
  have L : ∀ (Z : List Nat), Z.all (fun k => !(nel k [6918])) = true → ∀ j, nel j Z = true → m1 j = m0 j := fun Z hZ => off2 (W1 := []) (m1 := m0) (fun _ _ => rfl) hm (by rw [List.all_eq_true]; intro _ _; rfl) hZ
  have L2 : ∀ (Z : List Nat), Z.all (fun k => !(nel k [104])) = true → ∀ j, nel j Z = true → a1 j = a0 j := fun Z hZ => off2 (W1 := []) (m1 := a0) (fun _ _ => rfl) ha (by rw [List.all_eq_true]; intro _ _; rfl) hZ
  refine ⟨hN, hsh.off hm rfl, tym_off hty hm (fun j hj => ?_), tya_off hta ha (fun j hj => ?_), od_off hod hm ha rfl rfl rfl rfl, kr, cap, lab, ack, cop, stw_off hst hm rfl rfl rfl rfl rfl rfl, hs, dxw_off hD (L _ rfl) (L2 _ rfl), ixw_off hX (L _ rfl) (ha 74 rfl), txw_off hT (L _ rfl) (ha 26 rfl) (ha 75 rfl), svw_off hV (L _ rfl) (L2 _ rfl), enw_off hE (L _ rfl), cew_off hC (hm 2705 rfl) (ha 67 rfl)⟩
  · simp only [List.mem_cons, List.not_mem_nil, or_false] at hj
    subst hj
    exact ⟨fun _ => h18, fun z => absurd z (by decide)⟩
  · simp only [List.mem_cons, List.not_mem_nil, or_false] at hj
    subst hj
    obtain ⟨f, hf⟩ := h104
    exact ⟨fun n hn => absurd hn (tno_i 104 rfl n), fun n hn => ⟨_, arr_l (tlen_l hn (show (104, 1) ∈ alT by decide)) hf⟩, fun n hn => absurd hn (tno_d 104 rfl n)⟩
theorem lk_frame {o : Option Int32} {f : Nat → Int64} {r : Int32} {a0 a1 : Nat → vp_A} (h104 : a0 104 = (1, .inr (.inl f))) (h : LK o f r a0 a1) : (∃ g, a1 104 = (1, .inr (.inl g))) ∧ ∀ j, nel j [104] = false → a1 j = a0 j := by
  rcases h with ⟨_, _, rfl⟩ | ⟨x, _, _, h1, h2⟩
  · exact ⟨⟨_, h104⟩, fun _ _ => rfl⟩
  · exact ⟨⟨_, h1⟩, fun j hj => h2 j (nel1 hj)⟩
theorem cw_kind {F N : Nat} {q : Nat → Nat} {m0 : Nat → Value} {a0 : Nat → vp_A} (hI : INV F N q m0 a0) (p1 p2 p3 : Int32) {l : Launch} (hst0 : l.stackTraces = false) {D : va_G} {cy : Nat → ClassId} {sz k1 k2 : Nat} : ∃ (Q : Int32 → (Nat → vp_A) → Prop), vx_Met l yL_kind (Cond.codeWith yL_kind cL_kind 6 (some .int) [(0, 12, 15, 13)] :: GX) ({ frames := 7, cells := 1, slots := 6, locals := 160 } : Room) (ePc D cy N q m0 a0 sz [.ref (q 0), .int p1, .int p2, .int p3, .ref (q 104)] (KE k1 k2)) (va_Qi (fun (r : Int32) (u : (Nat → Value) × (Nat → vp_A)) => u.1 = m0 ∧ Q r u.2) (gB D cy N q sz) (gA N q sz)) (vx_X (fun _ : Unit => False) (fun _ _ _ => True) (gA N q sz)) 1 6 (gA N q sz) ∧
    ∀ (r : Int32) (a1 : Nat → vp_A) (sz1 : Nat), Q r a1 → ∃ b : Int32, gMi l yX12_kind cX12_kind 4 (some .int) ({ frames := 2, cells := 0, slots := 0, locals := 43 } : Room) D cy N q m0 a1 sz1 [.ref (q 69), .int p1, .int p2, .int p3] (fun r' m' a' => r' = b ∧ m' 6918 = .int r ∧ a' = a1 ∧ INV F N q m' a') ∧ (r = 0 ∨ r = 1) ∧ (r = 0 → ∃ g, a1 104 = (1, .inr (.inl g)) ∧ g 0 = b.toInt64) := by
  obtain ⟨hN, hsh, hty, hta, hod, kr, cap, lab, ack, cop, hst, hs, hD, hX, hT, hV, hE, hC⟩ := id hI
  obtain ⟨⟨hkr, hgk, hrf⟩, ⟨b0, b1, b2, b3⟩, c0, c1, c2, c3⟩ := id hst
  have hb1 := hs.2.1
  have h104 : a0 104 = (1, .inr (.inl (al a0 104))) := hta.2.1 (104, 1) (by decide)
  refine ⟨fun r a1 => LK (fX11_kind (lv m0 8) (Int32.ofNat lab) p1 p2 p3) (al a0 104) r a0 a1, kL_kind hst0 hN hsh hkr hgk hrf (hty.2 8 rfl) b1 h104 p1 p2 p3, ?_⟩
  intro r a1 sz1 hLK
  obtain ⟨h104', ha⟩ := lk_frame h104 hLK
  have hk := kind_call (lab := lab) hD.1 (by omega) hb1.2 (iv m0 6918) p1 p2 p3
  have k2 := kX12_kind (l := l) (D := D) (cy := cy) (N := N) (q := q) (m0 := m0) (a0 := a1) (sz := sz1) hN hsh c1 (hty.2 6904 rfl) (hty.1 6918 rfl) p1 p2 p3
  refine ⟨(fX12_kind (Int32.ofNat lab) (lv m0 6904) (iv m0 6918) p1 p2 p3).1, gMi_mono k2 (fun r' m2 a2 h => ?_), ?_, ?_⟩
  · obtain ⟨hr, p18, f2, g2⟩ := h
    subst g2
    refine ⟨hr, ?_, rfl, inv_th hI ⟨_, p18⟩ f2 h104' ha⟩
    rw [p18]
    rcases hk with ⟨e1, e2⟩ | ⟨e1, e2⟩
    · rcases hLK with ⟨_, rfl, _⟩ | ⟨x, e3, _⟩
      · rw [e2]
      · rw [e1] at e3; exact absurd e3 (by simp)
    · rcases hLK with ⟨e3, _⟩ | ⟨x, _, rfl, _⟩
      · rw [e1] at e3; exact absurd e3 (by simp)
      · rw [e2]
  · rcases hLK with ⟨_, rfl, _⟩ | ⟨x, _, rfl, _⟩
    · exact Or.inr rfl
    · exact Or.inl rfl
  · intro h0
    rcases hLK with ⟨_, h1, _⟩ | ⟨x, e3, _, h5, _⟩
    · rw [h1] at h0; exact absurd h0 (by decide)
    · refine ⟨_, h5, ?_⟩
      rcases hk with ⟨e1, _⟩ | ⟨e1, _⟩
      · rw [e1] at e3; exact absurd e3 (by simp)
      · rw [e1] at e3
        obtain rfl := Option.some.inj e3
        exact if_pos rfl
theorem cw_queued {F N : Nat} {q : Nat → Nat} {m0 : Nat → Value} {a0 : Nat → vp_A} (hI : INV F N q m0 a0) (p1 : Int32) {l : Launch} (hst0 : l.stackTraces = false) {D : va_G} {cy : Nat → ClassId} {sz k1 k2 : Nat} : ∃ (Q : Int32 → (Nat → vp_A) → Prop), vx_Met l yL_queued (Cond.codeWith yL_queued cL_queued 4 (some .int) [(0, 9, 12, 13)] :: GX) ({ frames := 7, cells := 1, slots := 6, locals := 160 } : Room) (ePc D cy N q m0 a0 sz [.ref (q 0), .int p1, .ref (q 104)] (KE k1 k2)) (va_Qi (fun (r : Int32) (u : (Nat → Value) × (Nat → vp_A)) => u.1 = m0 ∧ Q r u.2) (gB D cy N q sz) (gA N q sz)) (vx_X (fun _ : Unit => False) (fun _ _ _ => True) (gA N q sz)) 1 6 (gA N q sz) ∧
    ∀ (r : Int32) (a1 : Nat → vp_A) (sz1 : Nat), Q r a1 → ∃ b : Int32, gMi l yX12_queued cX12_queued 2 (some .int) ({ frames := 1, cells := 0, slots := 0, locals := 22 } : Room) D cy N q m0 a1 sz1 [.ref (q 69), .int p1] (fun r' m' a' => r' = b ∧ m' 6918 = .int r ∧ a' = a1 ∧ INV F N q m' a') ∧ (r = 0 ∨ r = 1) ∧ (r = 0 → ∃ g, a1 104 = (1, .inr (.inl g)) ∧ g 0 = b.toInt64) := by
  obtain ⟨hN, hsh, hty, hta, hod, kr, cap, lab, ack, cop, hst, hs, hD, hX, hT, hV, hE, hC⟩ := id hI
  have h104 : a0 104 = (1, .inr (.inl (al a0 104))) := hta.2.1 (104, 1) (by decide)
  refine ⟨fun r a1 => LK (fX11_queued (iv m0 9) (iv m0 10) p1) (al a0 104) r a0 a1, kL_queued hst0 hN (hty.1 9 rfl) (hty.1 10 rfl) h104 p1, ?_⟩
  intro r a1 sz1 hLK
  obtain ⟨h104', ha⟩ := lk_frame h104 hLK
  obtain ⟨v, t, e0, hk⟩ := queued_call hD.2.2.1 (iv m0 6918) p1
  have k2 := kX12_queued (l := l) (D := D) (cy := cy) (N := N) (q := q) (m0 := m0) (a0 := a1) (sz := sz1) (hN := hN) (hsh := hsh) (h_x69_6 := hty.1 6906 rfl) (h_A70 := (ha 70 rfl).trans (hta.1 (70, 30) (by decide))) (h_x69_18 := hty.1 6918 rfl) (p1 := p1) (hs0 := e0)
  refine ⟨v, gMi_mono k2 (fun r' m2 a2 h => ?_), ?_, ?_⟩
  · obtain ⟨hr, p18, f2, g2⟩ := h
    subst g2
    refine ⟨hr, ?_, rfl, inv_th hI ⟨_, p18⟩ f2 h104' ha⟩
    rw [p18]
    rcases hk with ⟨e1, e2⟩ | ⟨e1, e2⟩
    · rcases hLK with ⟨_, rfl, _⟩ | ⟨x, e3, _⟩
      · rw [e2]
      · rw [e1] at e3; exact absurd e3 (by simp)
    · rcases hLK with ⟨e3, _⟩ | ⟨x, _, rfl, _⟩
      · rw [e1] at e3; exact absurd e3 (by simp)
      · rw [e2]
  · rcases hLK with ⟨_, rfl, _⟩ | ⟨x, _, rfl, _⟩
    · exact Or.inr rfl
    · exact Or.inl rfl
  · intro h0
    rcases hLK with ⟨_, h1, _⟩ | ⟨x, e3, _, h5, _⟩
    · rw [h1] at h0; exact absurd h0 (by decide)
    · refine ⟨_, h5, ?_⟩
      rcases hk with ⟨e1, _⟩ | ⟨e1, _⟩
      · rw [e1] at e3; exact absurd e3 (by simp)
      · rw [e1] at e3
        obtain rfl := Option.some.inj e3
        exact if_pos rfl
end CALLK
