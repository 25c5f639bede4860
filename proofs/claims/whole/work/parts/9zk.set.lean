/-! part 9zk: set -/
section CALLS
theorem first_lg : ∀ n : Fin 5, pkSum (fX7_atFirst (Int32.ofNat n.val)) = 0 ∧ ltSum (fX7_atFirst (Int32.ofNat n.val)) = 0 := by decide +kernel
theorem first_dx {cap lab : Nat} (h1 : 2 ≤ lab ∧ lab ≤ 4) {A1 A70 B A72 A73 : Nat → Int32} (hB : ∀ i, i < 8 → B i = 0) : DX cap (fX7_atFirst (Int32.ofNat lab)) 0 0 0 0 0 0 (cFill 8 A1 0) (fX12_put 0 7 2 (Int32.ofNat lab - 1)) 0 0 0 A70 B A72 A73 := by
  have hl := first_lg ⟨lab, by omega⟩
  refine ⟨first_eq (by omega) h1.2, ⟨by rw [hl.1]; omega, by rw [hl.2]; omega⟩, ⟨0, by decide, rfl, rfl, fun i hi => absurd hi (Nat.not_lt_zero i), fun i _ => ?_⟩, ⟨0, by decide, rfl, rfl, fun i hi => absurd hi (Nat.not_lt_zero i)⟩, ⟨0, by decide, rfl, rfl, fun i hi => absurd hi (Nat.not_lt_zero i)⟩, fun i hi => ?_⟩
  · show (0 : Int32).toBitVec.getLsbD i = false
    exact BitVec.getLsbD_zero
  · unfold cFill
    rw [if_pos hi, hB i hi]
theorem met_mono {S : Type} {l : Launch} {y : MethodName} {ws : List Cond} {rm : Room} {Pc : Array Value → State → Prop} {B : S → State → Prop} {A fr : Nat → Prop} {mc ms : Nat} {post post' : Int32 → S → Prop} (h : Met l y ws rm Pc (va_Qi post B A) mc ms fr) (hp : ∀ r u, post r u → post' r u) : Met l y ws rm Pc (va_Qi post' B A) mc ms fr := by
  intro p e ha hc hk s mm args below hf hap hP hK
  obtain ⟨nn, o, h1, h2, h3, ⟨⟨r1, u, e1, e2, e3⟩, hF⟩, hL⟩ := h p e ha hc hk s mm args below hf hap hP hK
  exact ⟨nn, o, h1, h2, h3, ⟨⟨r1, u, e1, hp r1 u e2, e3⟩, hF⟩, hL⟩
theorem ivL_lt : ∀ j, j ∈ ivL → j < 10500 := by decide +kernel
theorem lvL_lt : ∀ j, j ∈ lvL → j < 10500 := by decide +kernel
theorem tym_lo {m m' : Nat → Value} {W : List Nat} (h : TYM m) (ho : ∀ j, j < 10500 → nel j W = false → m' j = m j) (hw : ∀ j, j ∈ W → (nel j ivL = true → ∃ x, m' j = .int x) ∧ (nel j lvL = true → ∃ x, m' j = .long x)) : TYM m' := by
  refine ⟨fun j hj => ?_, fun j hj => ?_⟩
  · by_cases hW : nel j W = true
    · obtain ⟨x, hx⟩ := (hw j (nel_mem.mp hW)).1 hj
      rw [iv_eq hx]; exact hx
    · have e := ho j (ivL_lt j (nel_mem.mp hj)) (by cases hh : nel j W with | true => exact absurd hh hW | false => rfl)
      rw [iv_same e, e]; exact h.1 j hj
  · by_cases hW : nel j W = true
    · obtain ⟨x, hx⟩ := (hw j (nel_mem.mp hW)).2 hj
      rw [lv_eq hx]; exact hx
    · have e := ho j (lvL_lt j (nel_mem.mp hj)) (by cases hh : nel j W with | true => exact absurd hh hW | false => rfl)
      rw [lv_same e, e]; exact h.2 j hj
theorem cw_set {F N : Nat} {q : Nat → Nat} {m0 : Nat → Value} {a0 : Nat → vp_A} (hF : 800000 ≤ F) (hI : INV F N q m0 a0) (p1 p2 : Int32) {l : Launch} {D : va_G} {cy : Nat → ClassId} {sz : Nat} : ∃ (out : Int32) (Q : Nat → (Nat → Nat) → (Nat → Value) → (Nat → vp_A) → Prop), Met l yX11_set (Cond.code yX11_set cX11_set 4 (some .int) :: GG) ({ frames := 6, cells := 1, slots := 4, locals := 120 } : Room) (gPc D cy N q m0 a0 sz [.ref (q 0), .int p1, .int p2]) (va_Qi (fun (r : Int32) (u : Nat × (Nat → Nat) × (Nat → Value) × (Nat → vp_A)) => r = out ∧ Q u.1 u.2.1 u.2.2.1 u.2.2.2) (setB D cy N q sz) (gA N q sz)) 1 4 (gA N q sz) ∧ ∀ (N1 : Nat) (q1 : Nat → Nat) (m1 : Nat → Value) (a1 : Nat → vp_A) (sz1 : Nat), Q N1 q1 m1 a1 → (N1 = N ∨ N1 = N + 1) ∧ (∀ k, k < N → q1 k = q k) ∧ gMi l yX12_set cX12_set 4 (some .int) ({ frames := 2, cells := 0, slots := 0, locals := 45 } : Room) D cy N1 q1 m1 a1 sz1 [.ref (q1 69), .int p1, .int p2] (fun r m' a' => r = out ∧ INV F N1 q1 m' a') := by
  obtain ⟨hN, hsh, hty, hta, hod, kr, cap, lab, ack, cop, hst, hs, hD, hX, hT, hV, hE, hC⟩ := hI
  obtain ⟨⟨hkr, hgk, hrf⟩, ⟨b0, b1, b2, b3⟩, c0, c1, c2, c3⟩ := id hst
  have hcall := set_call hs (lv m0 6904) (iv m0 6906) (iv m0 6909) (iv m0 6911) (iv m0 6912) (iv m0 6918) (ai a0 71) p1 p2 (F := F) (by omega)
  have k1 := kX11_set (m0 := m0) (a0 := a0) (q := q) (l := l) (D := D) (cy := cy) (sz := sz) (hN := hN) (hsh := hsh) (hkr := hkr) (hgk := hgk) (hrf := hrf) (h0 := b0) (h1 := b1) (h2 := b2) (h3 := b3) (h_x0_8 := hty.2 8 rfl) (h_x0_9 := hty.1 9 rfl) (h_x0_10 := hty.1 10 rfl) (h_x0_11 := hty.1 11 rfl) (h_x2_0 := hty.1 200 rfl) (h_x2_1 := hty.2 201 rfl) (h_x5_0 := hty.1 500 rfl) (h_x5_1 := hty.2 501 rfl) (h_x27_5 := hty.1 2705 rfl) (h_x27_6 := hty.2 2706 rfl) (h_x27_9 := hty.2 2709 rfl) (h_A1 := hta.1 (1, 8) (by decide)) (p1 := p1) (p2 := p2) (hs0 := fun _ => rfl)
  rcases hcall with ⟨hall, e2⟩ | ⟨hall, cap', lab', ack', cop', B, hs', w0, w1, w2, w3, e2, hB⟩
  · refine ⟨-1, fun N1 q1 m1 a1 => N1 = N ∧ q1 = q ∧ m1 = m0 ∧ a1 = a0, met_mono k1 (fun r u hu => ?_), ?_⟩
    · rcases hu with ⟨_, h1, h2⟩ | ⟨h1, _⟩
      · subst h2
        exact ⟨h1, rfl, rfl, rfl, rfl⟩
      · exact absurd hall h1
    · intro N1 q1 m1 a1 sz1 hQ
      obtain ⟨rfl, rfl, rfl, rfl⟩ := hQ
      refine ⟨Or.inl rfl, fun _ _ => rfl, ?_⟩
      have k2 := kX12_set (m0 := m1) (a0 := a1) (q := q1) (l := l) (D := D) (cy := cy) (sz := sz1) (hN := hN) (hsh := hsh) (h_x69_0 := c0) (h_x69_1 := c1) (h_x69_2 := c2) (h_x69_3 := c3) (h_x69_4 := hty.2 6904 rfl) (h_x69_6 := hty.1 6906 rfl) (h_x69_9 := hty.1 6909 rfl) (h_x69_11 := hty.1 6911 rfl) (h_x69_12 := hty.1 6912 rfl) (h_x69_18 := hty.1 6918 rfl) (h_A71 := hta.1 (71, 8) (by decide)) (F := F) (p1 := p1) (p2 := p2) (hs0 := e2)
      refine gMi_mono k2 (fun r m2 a2 h => ?_)
      obtain ⟨hr, p6900, p6901, p6902, p6903, p6904, p6906, p6909, p6911, p6912, p6918, f2, r71, g2⟩ := h
      have same : ∀ j, nel j [6918] = false → m2 j = m1 j := by
        intro j hj
        by_cases hW : nel j [6900, 6901, 6902, 6903, 6904, 6906, 6909, 6911, 6912, 6918] = true
        · have hm := nel_mem.mp hW
          simp only [List.mem_cons, List.not_mem_nil, or_false] at hm
          rcases hm with rfl | rfl | rfl | rfl | rfl | rfl | rfl | rfl | rfl | rfl
          · exact p6900.trans c0.symm
          · exact p6901.trans c1.symm
          · exact p6902.trans c2.symm
          · exact p6903.trans c3.symm
          · exact p6904.trans (hty.2 6904 rfl).symm
          · exact p6906.trans (hty.1 6906 rfl).symm
          · exact p6909.trans (hty.1 6909 rfl).symm
          · exact p6911.trans (hty.1 6911 rfl).symm
          · exact p6912.trans (hty.1 6912 rfl).symm
          · exact absurd hj (by decide)
        · exact f2 j (by cases hh : nel j [6900, 6901, 6902, 6903, 6904, 6906, 6909, 6911, 6912, 6918] with | true => exact absurd hh hW | false => rfl)
      have same2 : ∀ j, nel j [] = false → a2 j = a1 j := by
        intro j _
        by_cases hW : nel j [71] = true
        · have hm := nel_mem.mp hW
          simp only [List.mem_cons, List.not_mem_nil, or_false] at hm
          subst hm
          exact r71.trans (hta.1 (71, 8) (by decide)).symm
        · exact g2 j (by cases hh : nel j [71] with | true => exact absurd hh hW | false => rfl)
      have L : ∀ (Z : List Nat), Z.all (fun k => !(nel k [6918])) = true → ∀ j, nel j Z = true → m2 j = m1 j := fun Z hZ => off2 (W1 := []) (m1 := m1) (fun _ _ => rfl) same (by rw [List.all_eq_true]; intro _ _; rfl) hZ
      have L2 : ∀ (Z : List Nat), ∀ j, nel j Z = true → a2 j = a1 j := fun Z j _ => same2 j rfl
      refine ⟨hr, hN, hsh.off same rfl, tym_off hty same (fun j hj => ?_), tya_off hta same2 (fun j hj => absurd hj List.not_mem_nil), od_off hod same same2 rfl rfl rfl rfl, kr, cap, lab, ack, cop, stw_off hst same rfl rfl rfl rfl rfl rfl, hs, dxw_off hD (L _ rfl) (L2 _), ixw_off hX (L _ rfl) (same2 74 rfl), txw_off hT (L _ rfl) (same2 26 rfl) (same2 75 rfl), svw_off hV (L _ rfl) (L2 _), enw_off hE (L _ rfl), cew_off hC (same 2705 rfl) (same2 67 rfl)⟩
      simp only [List.mem_cons, List.not_mem_nil, or_false] at hj
      subst hj
      exact ⟨fun _ => ⟨_, p6918⟩, fun z => absurd z (by decide)⟩
  · refine ⟨fX7_limit (Int32.ofNat cap) (Int32.ofNat lab) (Int32.ofNat ack) (Int32.ofNat cop) p1, fun N1 q1 m1 a1 => N1 = N + 1 ∧ (∀ k, k < N → q1 k = q k) ∧ SH q1 m1 ∧ m1 7 = .ref (q1 N) ∧ m1 (100 * N + 0) = .int (Int32.ofNat cap') ∧ m1 (100 * N + 1) = .int (Int32.ofNat lab') ∧ m1 (100 * N + 2) = .int (Int32.ofNat ack') ∧ m1 (100 * N + 3) = .int (Int32.ofNat cop') ∧ m1 8 = .long (fX7_atFirst (Int32.ofNat lab')) ∧ m1 9 = .int 0 ∧ m1 10 = .int 0 ∧ m1 11 = .int 0 ∧ m1 200 = .int 0 ∧ m1 201 = .long 0 ∧ m1 500 = .int 0 ∧ m1 501 = .long 0 ∧ m1 2705 = .int 0 ∧ m1 2706 = .long (-1) ∧ m1 2709 = .long (-1) ∧ (∀ j, j < 100 * N → nel j [7, 8, 9, 10, 11, 200, 201, 500, 501, 2705, 2706, 2709] = false → m1 j = m0 j) ∧ a1 1 = (8, .inl (cFill 8 (ai a0 1) 0)) ∧ (∀ j, nel j [1] = false → a1 j = a0 j), met_mono k1 (fun r u hu => ?_), ?_⟩
    · rcases hu with ⟨h1, _⟩ | ⟨_, h2⟩
      · exact absurd h1 hall
      · rw [w0, w1, w2, w3] at h2
        exact h2
    · intro N1 q1 m1 a1 sz1 hQ
      obtain ⟨rfl, hq, hsh1, p7, t0, t1, t2, t3, p8, p9, p10, p11, p200, p201, p500, p501, p2705, p2706, p2709, fl, r1, g1⟩ := hQ
      have f1 : ∀ j, j < 10500 → nel j [7, 8, 9, 10, 11, 200, 201, 500, 501, 2705, 2706, 2709] = false → m1 j = m0 j := fun j hj => fl j (by omega)
      refine ⟨Or.inr rfl, hq, ?_⟩
      have k2 := kX12_set (m0 := m1) (a0 := a1) (q := q1) (N := N + 1) (l := l) (D := D) (cy := cy) (sz := sz1) (hN := by omega) (hsh := hsh1) (h_x69_0 := (f1 6900 (by decide) rfl).trans c0) (h_x69_1 := (f1 6901 (by decide) rfl).trans c1) (h_x69_2 := (f1 6902 (by decide) rfl).trans c2) (h_x69_3 := (f1 6903 (by decide) rfl).trans c3) (h_x69_4 := (f1 6904 (by decide) rfl).trans (hty.2 6904 rfl)) (h_x69_6 := (f1 6906 (by decide) rfl).trans (hty.1 6906 rfl)) (h_x69_9 := (f1 6909 (by decide) rfl).trans (hty.1 6909 rfl)) (h_x69_11 := (f1 6911 (by decide) rfl).trans (hty.1 6911 rfl)) (h_x69_12 := (f1 6912 (by decide) rfl).trans (hty.1 6912 rfl)) (h_x69_18 := (f1 6918 (by decide) rfl).trans (hty.1 6918 rfl)) (h_A71 := (g1 71 rfl).trans (hta.1 (71, 8) (by decide))) (F := F) (p1 := p1) (p2 := p2) (hs0 := e2)
      refine gMi_mono k2 (fun r m2 a2 h => ?_)
      obtain ⟨hr, p6900, p6901, p6902, p6903, p6904, p6906, p6909, p6911, p6912, p6918, f2, r71, g2⟩ := h
      have hty1 : TYM m1 := tym_lo hty f1 (fun j hj => by
        simp only [List.mem_cons, List.not_mem_nil, or_false] at hj
        rcases hj with rfl | rfl | rfl | rfl | rfl | rfl | rfl | rfl | rfl | rfl | rfl | rfl
        · exact ⟨fun z => absurd z (by decide), fun z => absurd z (by decide)⟩
        · exact ⟨fun z => absurd z (by decide), fun _ => ⟨_, p8⟩⟩
        · exact ⟨fun _ => ⟨_, p9⟩, fun z => absurd z (by decide)⟩
        · exact ⟨fun _ => ⟨_, p10⟩, fun z => absurd z (by decide)⟩
        · exact ⟨fun _ => ⟨_, p11⟩, fun z => absurd z (by decide)⟩
        · exact ⟨fun _ => ⟨_, p200⟩, fun z => absurd z (by decide)⟩
        · exact ⟨fun z => absurd z (by decide), fun _ => ⟨_, p201⟩⟩
        · exact ⟨fun _ => ⟨_, p500⟩, fun z => absurd z (by decide)⟩
        · exact ⟨fun z => absurd z (by decide), fun _ => ⟨_, p501⟩⟩
        · exact ⟨fun _ => ⟨_, p2705⟩, fun z => absurd z (by decide)⟩
        · exact ⟨fun z => absurd z (by decide), fun _ => ⟨_, p2706⟩⟩
        · exact ⟨fun z => absurd z (by decide), fun _ => ⟨_, p2709⟩⟩)
      have hty2 : TYM m2 := tym_off hty1 f2 (fun j hj => by
        simp only [List.mem_cons, List.not_mem_nil, or_false] at hj
        rcases hj with rfl | rfl | rfl | rfl | rfl | rfl | rfl | rfl | rfl | rfl
        · exact ⟨fun _ => ⟨_, p6900⟩, fun z => absurd z (by decide)⟩
        · exact ⟨fun _ => ⟨_, p6901⟩, fun z => absurd z (by decide)⟩
        · exact ⟨fun _ => ⟨_, p6902⟩, fun z => absurd z (by decide)⟩
        · exact ⟨fun _ => ⟨_, p6903⟩, fun z => absurd z (by decide)⟩
        · exact ⟨fun z => absurd z (by decide), fun _ => ⟨_, p6904⟩⟩
        · exact ⟨fun _ => ⟨_, p6906⟩, fun z => absurd z (by decide)⟩
        · exact ⟨fun _ => ⟨_, p6909⟩, fun z => absurd z (by decide)⟩
        · exact ⟨fun _ => ⟨_, p6911⟩, fun z => absurd z (by decide)⟩
        · exact ⟨fun _ => ⟨_, p6912⟩, fun z => absurd z (by decide)⟩
        · exact ⟨fun _ => ⟨_, p6918⟩, fun z => absurd z (by decide)⟩)
      have hta1 : TYA a1 := tya_off hta g1 (fun j hj => by
        simp only [List.mem_cons, List.not_mem_nil, or_false] at hj
        subst hj
        exact ⟨fun n hn => ⟨_, arr_i (tlen_i hn (show (1, 8) ∈ aiT by decide)) r1⟩, fun n hn => absurd hn (tno_l 1 rfl n), fun n hn => absurd hn (tno_d 1 rfl n)⟩)
      have hta2 : TYA a2 := tya_off hta1 g2 (fun j hj => by
        simp only [List.mem_cons, List.not_mem_nil, or_false] at hj
        subst hj
        exact ⟨fun n hn => ⟨_, arr_i (tlen_i hn (show (71, 8) ∈ aiT by decide)) r71⟩, fun n hn => absurd hn (tno_l 71 rfl n), fun n hn => absurd hn (tno_d 71 rfl n)⟩)
      have hod1 : OD q1 m1 a1 := by
        obtain ⟨kn, kt, hK, d1, d2, AN, AT, d3, d4⟩ := hod
        refine ⟨kn, kt, hK, ?_, ?_, AN, AT, ?_, ?_⟩
        · rw [f1 3900 (by decide) rfl, d1, hq kn (hK.ln hN)]
        · rw [f1 3901 (by decide) rfl, d2, hq kt (hK.lt hN)]
        · rcases hK with ⟨rfl, rfl⟩ | ⟨rfl, rfl⟩
          · exact (g1 40 rfl).trans d3
          · exact (g1 41 rfl).trans d3
        · rcases hK with ⟨rfl, rfl⟩ | ⟨rfl, rfl⟩
          · exact (g1 41 rfl).trans d4
          · exact (g1 40 rfl).trans d4
      have lo : ∀ j, j < 10500 → nel j [7, 8, 9, 10, 11, 200, 201, 500, 501, 2705, 2706, 2709] = false → nel j [6900, 6901, 6902, 6903, 6904, 6906, 6909, 6911, 6912, 6918] = false → m2 j = m0 j := fun j h1 h2 h3 => (f2 j h3).trans (f1 j h1 h2)
      have up : ∀ i, i < 4 → m2 (100 * N + i) = m1 (100 * N + i) := fun i hi => off_kr (kr := N) f2 (gk_hi hN) i (Nat.ble_eq.mpr (by omega)) rfl
      refine ⟨hr, by omega, hsh1.off f2 rfl, hty2, hta2, od_off hod1 f2 g2 rfl rfl rfl rfl, N, cap', lab', ack', cop', ⟨⟨Nat.lt_succ_self N, gk_hi hN, (f2 7 rfl).trans p7⟩, ⟨(up 0 (by decide)).trans t0, (up 1 (by decide)).trans t1, (up 2 (by decide)).trans t2, (up 3 (by decide)).trans t3⟩, p6900, p6901, p6902, p6903⟩, hs', ?_, ?_, ?_, ?_, ?_, ?_⟩
      · unfold DXw
        rw [lv_eq ((f2 8 rfl).trans p8), iv_eq ((f2 9 rfl).trans p9), iv_eq ((f2 10 rfl).trans p10), iv_eq ((f2 200 rfl).trans p200), lv_eq ((f2 201 rfl).trans p201), iv_eq ((f2 500 rfl).trans p500), lv_eq ((f2 501 rfl).trans p501), ai_eq ((g2 1 rfl).trans r1), lv_eq p6904, iv_eq p6906, iv_eq p6909, iv_eq p6911, ai_eq r71]
        exact first_dx hs'.2.1 hB
      · unfold IXw
        rw [iv_eq ((f2 11 rfl).trans p11), iv_eq p6912]
        exact ⟨rfl, fun z => absurd rfl z⟩
      · exact txw_off hT (fun j hj => by
          have hm := nel_mem.mp hj
          simp only [List.mem_cons, List.not_mem_nil, or_false] at hm
          rcases hm with rfl | rfl
          · exact lo 2400 (by decide) rfl rfl
          · exact lo 6917 (by decide) rfl rfl) ((g2 26 rfl).trans (g1 26 rfl)) ((g2 75 rfl).trans (g1 75 rfl))
      · exact Or.inl (lv_eq ((f2 2706 rfl).trans p2706))
      · exact Or.inl (lv_eq ((f2 2709 rfl).trans p2709))
      · exact Or.inl (iv_eq ((f2 2705 rfl).trans p2705))
end CALLS
