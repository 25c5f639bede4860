/-! part 37: set, from its start, by hand -/
def setB (D : va_G) (cy : Nat → ClassId) (N : Nat) (q : Nat → Nat) (sz : Nat) : Nat × (Nat → Nat) × (Nat → Value) × (Nat → vp_A) → State → Prop := fun u t => GW D cy (gA N q sz) u.1 u.2.1 u.2.2.1 u.2.2.2 t t.heap
theorem dX11_set_0 : decode cX11_set 0 = .ok (.iload_n 1, 1) := by decide +kernel
theorem dX11_set_1 : decode cX11_set 1 = .ok (.iload_n 2, 1) := by decide +kernel
theorem dX11_set_2 : decode cX11_set 2 = .ok (.invokestatic 68, 3) := by decide +kernel
theorem dX11_set_5 : decode cX11_set 5 = .ok (.ifCond .ne 5, 3) := by decide +kernel
theorem dX11_set_8 : decode cX11_set 8 = .ok (.iconst (-1), 1) := by decide +kernel
theorem dX11_set_9 : decode cX11_set 9 = .ok (.ireturn, 1) := by decide +kernel
theorem dX11_set_10 : decode cX11_set 10 = .ok (.aload_n 0, 1) := by decide +kernel
theorem dX11_set_11 : decode cX11_set 11 = .ok (.getfield 56, 3) := by decide +kernel
theorem dX11_set_14 : decode cX11_set 14 = .ok (.iload_n 1, 1) := by decide +kernel
theorem dX11_set_15 : decode cX11_set 15 = .ok (.invokevirtual 72, 3) := by decide +kernel
theorem dX11_set_18 : decode cX11_set 18 = .ok (.istore_n 3, 1) := by decide +kernel
theorem dX11_set_19 : decode cX11_set 19 = .ok (.aload_n 0, 1) := by decide +kernel
theorem dX11_set_20 : decode cX11_set 20 = .ok (.aload_n 0, 1) := by decide +kernel
theorem dX11_set_21 : decode cX11_set 21 = .ok (.getfield 56, 3) := by decide +kernel
theorem dX11_set_24 : decode cX11_set 24 = .ok (.iload_n 1, 1) := by decide +kernel
theorem dX11_set_25 : decode cX11_set 25 = .ok (.iload_n 2, 1) := by decide +kernel
theorem dX11_set_26 : decode cX11_set 26 = .ok (.invokevirtual 76, 3) := by decide +kernel
theorem dX11_set_29 : decode cX11_set 29 = .ok (.putfield 56, 3) := by decide +kernel
set_option maxHeartbeats 4000000 in
set_option maxRecDepth 100000 in
/-- set: a call that is refused changes nothing; else the new rules stand at slot N -/
theorem kX11_set {l : Launch} {D : va_G} {cy : Nat → ClassId} {N : Nat} {q : Nat → Nat} {m0 : Nat → Value} {a0 : Nat → vp_A} {sz : Nat} (hN : 105 ≤ N) (hsh : SH q m0) {kr : Nat} (hkr : kr < N) (hgk : gk kr = 7) (hrf : m0 7 = .ref (q kr)) {x0 x1 x2 x3 : Int32} (h0 : m0 (100 * kr + 0) = .int x0) (h1 : m0 (100 * kr + 1) = .int x1) (h2 : m0 (100 * kr + 2) = .int x2) (h3 : m0 (100 * kr + 3) = .int x3)
    {x0_8 : Int64} (h_x0_8 : m0 8 = .long x0_8) {x0_9 : Int32} (h_x0_9 : m0 9 = .int x0_9) {x0_10 : Int32} (h_x0_10 : m0 10 = .int x0_10) {x0_11 : Int32} (h_x0_11 : m0 11 = .int x0_11) {x2_0 : Int32} (h_x2_0 : m0 200 = .int x2_0) {x2_1 : Int64} (h_x2_1 : m0 201 = .long x2_1) {x5_0 : Int32} (h_x5_0 : m0 500 = .int x5_0) {x5_1 : Int64} (h_x5_1 : m0 501 = .long x5_1) {x27_5 : Int32} (h_x27_5 : m0 2705 = .int x27_5) {x27_6 : Int64} (h_x27_6 : m0 2706 = .long x27_6) {x27_9 : Int64} (h_x27_9 : m0 2709 = .long x27_9) {A1 : Nat → Int32} (h_A1 : a0 1 = (8, .inl A1)) (p1 p2 : Int32)
    {X0 : Int32 × Int64 × Int32 × Int32 × Int32 × Int32 × Int64 × Int32 × Int64 × Int32 × Int64 × Int64 × (Nat → Int32)} (hs0 : ¬ fX7_allows p1 p2 = 0 → fX11_set_T32 (rWith x1 p1 p2 1) x0_8 x0_9 x0_10 x0_11 x2_0 x2_1 x5_0 x5_1 x27_5 x27_6 x27_9 A1 (fX7_limit x0 x1 x2 x3 p1) = some X0) :
    Met l yX11_set (Cond.code yX11_set cX11_set 4 (some .int) :: GG) ({ frames := 6, cells := 1, slots := 4, locals := 120 } : Room) (gPc D cy N q m0 a0 sz [.ref (q 0), .int p1, .int p2]) (va_Qi (fun (r : Int32) (u : Nat × (Nat → Nat) × (Nat → Value) × (Nat → vp_A)) => (fX7_allows p1 p2 = 0 ∧ r = (-1) ∧ u = (N, q, m0, a0)) ∨ (¬ fX7_allows p1 p2 = 0 ∧ r = fX7_limit x0 x1 x2 x3 p1 ∧ u.1 = N + 1 ∧ (∀ k, k < N → u.2.1 k = q k) ∧ SH u.2.1 u.2.2.1 ∧ u.2.2.1 7 = .ref (u.2.1 N) ∧ u.2.2.1 (100 * N + 0) = .int (rWith x0 p1 p2 0) ∧ u.2.2.1 (100 * N + 1) = .int (rWith x1 p1 p2 1) ∧ u.2.2.1 (100 * N + 2) = .int (rWith x2 p1 p2 2) ∧ u.2.2.1 (100 * N + 3) = .int (rWith x3 p1 p2 3) ∧ u.2.2.1 8 = .long X0.2.1 ∧ u.2.2.1 9 = .int X0.2.2.1 ∧ u.2.2.1 10 = .int X0.2.2.2.1 ∧ u.2.2.1 11 = .int X0.2.2.2.2.1 ∧ u.2.2.1 200 = .int X0.2.2.2.2.2.1 ∧ u.2.2.1 201 = .long X0.2.2.2.2.2.2.1 ∧ u.2.2.1 500 = .int X0.2.2.2.2.2.2.2.1 ∧ u.2.2.1 501 = .long X0.2.2.2.2.2.2.2.2.1 ∧ u.2.2.1 2705 = .int X0.2.2.2.2.2.2.2.2.2.1 ∧ u.2.2.1 2706 = .long X0.2.2.2.2.2.2.2.2.2.2.1 ∧ u.2.2.1 2709 = .long X0.2.2.2.2.2.2.2.2.2.2.2.1 ∧ (∀ j, j < 100 * N → nel j [7, 8, 9, 10, 11, 200, 201, 500, 501, 2705, 2706, 2709] = false → u.2.2.1 j = m0 j) ∧ u.2.2.2 1 = (8, .inl X0.2.2.2.2.2.2.2.2.2.2.2.2) ∧ (∀ j, nel j [1] = false → u.2.2.2 j = a0 j))) (setB D cy N q sz) (gA N q sz)) 1 4 (gA N q sz) := by
  generalize hpost : (fun (r : Int32) (u : Nat × (Nat → Nat) × (Nat → Value) × (Nat → vp_A)) => (fX7_allows p1 p2 = 0 ∧ r = (-1) ∧ u = (N, q, m0, a0)) ∨ (¬ fX7_allows p1 p2 = 0 ∧ r = fX7_limit x0 x1 x2 x3 p1 ∧ u.1 = N + 1 ∧ (∀ k, k < N → u.2.1 k = q k) ∧ SH u.2.1 u.2.2.1 ∧ u.2.2.1 7 = .ref (u.2.1 N) ∧ u.2.2.1 (100 * N + 0) = .int (rWith x0 p1 p2 0) ∧ u.2.2.1 (100 * N + 1) = .int (rWith x1 p1 p2 1) ∧ u.2.2.1 (100 * N + 2) = .int (rWith x2 p1 p2 2) ∧ u.2.2.1 (100 * N + 3) = .int (rWith x3 p1 p2 3) ∧ u.2.2.1 8 = .long X0.2.1 ∧ u.2.2.1 9 = .int X0.2.2.1 ∧ u.2.2.1 10 = .int X0.2.2.2.1 ∧ u.2.2.1 11 = .int X0.2.2.2.2.1 ∧ u.2.2.1 200 = .int X0.2.2.2.2.2.1 ∧ u.2.2.1 201 = .long X0.2.2.2.2.2.2.1 ∧ u.2.2.1 500 = .int X0.2.2.2.2.2.2.2.1 ∧ u.2.2.1 501 = .long X0.2.2.2.2.2.2.2.2.1 ∧ u.2.2.1 2705 = .int X0.2.2.2.2.2.2.2.2.2.1 ∧ u.2.2.1 2706 = .long X0.2.2.2.2.2.2.2.2.2.2.1 ∧ u.2.2.1 2709 = .long X0.2.2.2.2.2.2.2.2.2.2.2.1 ∧ (∀ j, j < 100 * N → nel j [7, 8, 9, 10, 11, 200, 201, 500, 501, 2705, 2706, 2709] = false → u.2.2.1 j = m0 j) ∧ u.2.2.2 1 = (8, .inl X0.2.2.2.2.2.2.2.2.2.2.2.2) ∧ (∀ j, nel j [1] = false → u.2.2.2 j = a0 j))) = post
  refine g_of (Qc := fun z => va_Qi post (setB D cy N q z) (gA N q z)) (by decide) (Nat.le_of_ble_eq_true rfl) ?_
  intro p e s M args below meth c hx hb hr hG hown hin hlocks hml hW hS ls hl
  have hl : lv_has ls 4 [(0, .ref (q 0)), (1, .int p1), (2, .int p2)] := hl
  refine lv_iload_n hx hb dX11_set_0 rfl (lv_at hl 1 rfl) ?_
  refine lv_iload_n hx hb dX11_set_1 rfl (lv_at hl 2 rfl) ?_
  refine g_SiR (n := 2) hx hb hml hown hG hW hS [.int p1, .int p2] (kX7_allows hN p1 p2) rfl (gd_S gx214 gx215 gx39 gx216) rfl rfl (by decide) ⟨Nat.le_of_ble_eq_true rfl, Nat.le_of_ble_eq_true rfl⟩ rfl hl (Nat.le_of_ble_eq_true rfl) ⟨Nat.zero_le _, Nat.zero_le _⟩ dX11_set_2 (fun H locs hW hS => ?_)
  refine lv_if_ne (tgt := 10) hx hb dX11_set_5 (by decide) (fun c1 => ?_) (fun c1 => ?_)
  · have hs0 := hs0 c1
    refine lv_aload_n hx hb dX11_set_10 rfl (lv_at hl 0 rfl) ?_
    refine gf11_7 hx hb hG hown hW (o := 0) (ltN hN 0 rfl) gk0 (v := .ref (q kr)) hrf gx40 dX11_set_11 ?_
    refine lv_iload_n hx hb dX11_set_14 rfl (lv_at hl 1 rfl) ?_
    refine g_ViR (n := 1) hx hb hml hown hG hW hS [.int p1] (kX7_limit hN hkr hgk h0 h1 h2 h3 p1) hkr hgk (by decide) rfl rfl (gd_V gx217 gx218 gx219 gx39 gx220) rfl rfl (by decide) ⟨Nat.le_of_ble_eq_true rfl, Nat.le_of_ble_eq_true rfl⟩ rfl hl (Nat.le_of_ble_eq_true rfl) ⟨Nat.zero_le _, Nat.zero_le _⟩ dX11_set_15 (fun H locs hW hS => ?_)
    generalize hv3 : fX7_limit x0 x1 x2 x3 p1 = v3 at hs0 ⊢
    refine lv_istore_n (lv' := [(3, .int v3), (0, .ref (q 0)), (1, .int p1), (2, .int p2)]) hx hb dX11_set_18 rfl hl (by decide) rfl (fun ls hl => ?_)
    refine lv_aload_n hx hb dX11_set_19 rfl (lv_at hl 1 rfl) ?_
    refine lv_aload_n hx hb dX11_set_20 rfl (lv_at hl 1 rfl) ?_
    refine gf11_7 hx hb hG hown hW (o := 0) (ltN hN 0 rfl) gk0 (v := .ref (q kr)) hrf gx40 dX11_set_21 ?_
    refine lv_iload_n hx hb dX11_set_24 rfl (lv_at hl 2 rfl) ?_
    refine lv_iload_n hx hb dX11_set_25 rfl (lv_at hl 3 rfl) ?_
    refine g_Vr (n := 2) (rm := { frames := 2, cells := 1, slots := 4, locals := 44 }) (mc := 1) (ms := 4) (o := kr) (rest := [.ref (q 0)]) hx hb hml hown hG hW hS (fun x hx => Or.inr hx) [.int p1, .int p2] (kX7_with hN hkr hgk h0 h1 h2 h3 p1 p2) hkr hgk (by decide) rfl rfl (gd_V gx221 gx222 gx223 gx39 gx224) rfl rfl (by decide) ⟨Nat.le_of_ble_eq_true rfl, Nat.le_of_ble_eq_true rfl⟩ rfl hl (Nat.le_of_ble_eq_true rfl) ⟨Nat.le_of_ble_eq_true rfl, Nat.le_of_ble_eq_true rfl⟩ dX11_set_26 (fun q1 m1 a1 H locs hp hW hS => ?_)
    dsimp only at hp
    obtain ⟨hq1, hm1, ha1, n0, n1, n2, n3⟩ := hp
    rw [ha1] at hW
    rw [← hq1 0 (by omega)] at hl ⊢
    refine gp11_7 hx hb hG hown hW hS (o := 0) (by omega) gk0 (v := q1 N) gx40 dX11_set_29 (fun m2 H locs hm2 ho2 hW hS => ?_)
    have hAe := gA_grow hq1 hW.2.2
    rw [hAe] at hW hS
    have hsh1 : SH q1 m1 := hsh.grow hN hq1 hm1
    have hsh2 : SH q1 m2 := hsh1.off (off1 ho2) (by decide +kernel)
    have kp : ∀ j, j < 100 * N → Nat.beq j 7 = false → m2 j = m0 j := fun j hj hj7 => (ho2 j hj7).trans (hm1 j hj)
    have kn : ∀ i, i < 100 → m2 (100 * N + i) = m1 (100 * N + i) := fun i hi => ho2 _ (by cases hx : Nat.beq (100 * N + i) (100 * 0 + 7) with | false => rfl | true => have := Nat.eq_of_beq_eq_true hx; omega)
    refine kX11_set_tail (N := N + 1) (q := q1) (kr := N) (by omega) hsh2 (Nat.lt_succ_self N) (gk_hi hN) hm2 ((kn 1 (by omega)).trans n1) ((kp 8 (by omega) rfl).trans h_x0_8) ((kp 9 (by omega) rfl).trans h_x0_9) ((kp 10 (by omega) rfl).trans h_x0_10) ((kp 11 (by omega) rfl).trans h_x0_11) ((kp 200 (by omega) rfl).trans h_x2_0) ((kp 201 (by omega) rfl).trans h_x2_1) ((kp 500 (by omega) rfl).trans h_x5_0) ((kp 501 (by omega) rfl).trans h_x5_1) ((kp 2705 (by omega) rfl).trans h_x27_5) ((kp 2706 (by omega) rfl).trans h_x27_6) ((kp 2709 (by omega) rfl).trans h_x27_9) h_A1 v3 hs0 hx hb hml hown hG hW hS (lv_sub hl [1, 0] rfl) ?_
    intro m a H locs w8 w9 w10 w11 w200 w201 w500 w501 w2705 w2706 w2709 hoff hsh3 wA hoffa ls hW hS
    rw [← hAe] at hW hS
    obtain ⟨hP, hK, hD⟩ := hW
    have knn : ∀ i, i < 4 → m (100 * N + i) = m2 (100 * N + i) := fun i hi => hoff _ (by
      cases hx : nel (100 * N + i) [8, 9, 10, 11, 200, 201, 500, 501, 2705, 2706, 2709] with
      | false => rfl
      | true =>
        have := nel_mem.mp hx
        simp only [List.mem_cons, List.not_mem_nil, or_false] at this
        omega)
    refine W.zret hx hb hr rfl (fun t ht hw => ⟨⟨v3, (N + 1, q1, m, a), rfl, ?_, ?_⟩, hS.F ht⟩) hS.2.2 dX11_set_88 hlocks
    · rw [← hpost]
      refine Or.inr ⟨c1, hv3.symm, rfl, hq1, hsh3, (hoff 7 rfl).trans hm2, (knn 0 (by omega)).trans ((kn 0 (by omega)).trans n0), (knn 1 (by omega)).trans ((kn 1 (by omega)).trans n1), (knn 2 (by omega)).trans ((kn 2 (by omega)).trans n2), (knn 3 (by omega)).trans ((kn 3 (by omega)).trans n3), w8, w9, w10, w11, w200, w201, w500, w501, w2705, w2706, w2709, fun j hj hn => ?_, wA, hoffa⟩
      have hn7 : Nat.beq j 7 = false := by
        cases hx : Nat.beq j 7 with
        | false => rfl
        | true => have := Nat.eq_of_beq_eq_true hx; subst this; cases hn
      have hn2 : nel j [8, 9, 10, 11, 200, 201, 500, 501, 2705, 2706, 2709] = false := nel_all (L := [7, 8, 9, 10, 11, 200, 201, 500, 501, 2705, 2706, 2709]) rfl hn
      exact (hoff j hn2).trans (kp j hj hn7)
    · show va_P _ _ _ t.heap ∧ _ ∧ _
      rw [ht]
      exact ⟨hP, va_K.moved hw.alike hK, hD⟩
  · refine lv_iconst (v := (-1)) hx hb dX11_set_8 (by decide) ?_
    refine W.widen (k := 1) (n := 4) (Nat.zero_le _) (Nat.zero_le _) ?_
    obtain ⟨hP, hK, hD⟩ := hW
    refine W.zret hx hb hr rfl (fun t ht hw => ⟨⟨(-1), (N, q, m0, a0), rfl, ?_, ?_⟩, hS.F ht⟩) hS.2.2 dX11_set_9 hlocks
    · rw [← hpost]
      exact Or.inl ⟨c1, rfl, rfl⟩
    · show va_P _ _ _ t.heap ∧ _ ∧ _
      rw [ht]
      exact ⟨hP, va_K.moved hw.alike hK, hD⟩
