/-! part 32 (by program, but Cells): the constructors -/
theorem VS.putN {L : List (Nat × Value)} {m m' : Nat → Value} {k : Nat} (h : VS L m) (ho : ∀ j, Nat.beq j k = false → m' j = m j) (hL : ∀ e ∈ L, e.1 ≠ k) : VS L m' := fun e he => by
  rw [ho _ (by cases hx : Nat.beq e.1 k with | false => rfl | true => exact absurd (Nat.eq_of_beq_eq_true hx) (hL e he))]
  exact h e he
theorem dX2_init_0 : decode cX2_init 0 = .ok (.aload_n 0, 1) := by decide +kernel
theorem dX2_init_1 : decode cX2_init 1 = .ok (.invokespecial 1, 3) := by decide +kernel
theorem dX2_init_4 : decode cX2_init 4 = .ok (.aload_n 0, 1) := by decide +kernel
theorem dX2_init_5 : decode cX2_init 5 = .ok (.iload_n 1, 1) := by decide +kernel
theorem dX2_init_6 : decode cX2_init 6 = .ok (.iconst 0, 1) := by decide +kernel
theorem dX2_init_7 : decode cX2_init 7 = .ok (.invokestatic 7, 3) := by decide +kernel
theorem dX2_init_10 : decode cX2_init 10 = .ok (.newarray .int, 2) := by decide +kernel
theorem dX2_init_12 : decode cX2_init 12 = .ok (.putfield 13, 3) := by decide +kernel
theorem dX2_init_15 : decode cX2_init 15 = .ok (.return_, 1) := by decide +kernel
set_option maxHeartbeats 4000000 in
set_option maxRecDepth 100000 in
theorem kX2_init {l : Launch} {D : va_G} {cy : Nat → ClassId} {o : Nat} {q : Nat → Nat} {m0 : Nat → Value} {a0 : Nat → vp_A} {sz : Nat} (hk : gk o = 2) (hk2 : gk (o + 1) = 14) {n : Nat} (hn : n ≤ 100000) : gMg l yX2_init cX2_init 2 ({ frames := 1, cells := 1, slots := n, locals := 21 } : Room) D cy (o + 1) (o + 2) q m0 a0 sz [.ref (q o), .int (nI n)] 1 n (MK o (o + 1) q m0 a0 [(100 * o + 0, o + 1)] [(o + 1, zI n)] []) := by
  refine g_ofg (by decide) (Nat.le_of_ble_eq_true rfl) ?_
  intro p e s M args below meth c A hx hb hr hG hown hin hlocks hml hA hNW hW hS hend ls hl
  have hl : lv_has ls 2 [(0, .ref (q o)), (1, .int (nI n))] := hl
  refine lv_aload_n hx hb dX2_init_0 rfl (lv_at hl 0 rfl) ?_
  refine W.objInit hx hb hown (hG _ gx52) (hG _ gx12) (hG _ gx13) rfl (by rw [hml]; exact hl.1) rfl dX2_init_1 (Nat.le_of_ble_eq_true rfl) (Nat.le_of_ble_eq_true rfl) ?_
  refine W.eq (g2 := F0 M 4 ls []) rfl ?_
  refine lv_aload_n hx hb dX2_init_4 rfl (lv_at hl 0 rfl) ?_
  refine lv_iload_n hx hb dX2_init_5 rfl (lv_at hl 1 rfl) ?_
  refine lv_iconst (v := 0) hx hb dX2_init_6 (by decide) ?_
  refine va_mmax hx hb (hml.trans hl.1.symm) hown (hG _ gx53) (hG _ gx54) (hG _ gx55) (hG _ gx56) (Nat.le_refl 1) (Nat.le_of_ble_eq_true rfl) (Nat.zero_le _) (Nat.zero_le _) dX2_init_7 ?_
  rw [if_neg (show ¬ nI n < 0 from nI_pos (by omega))]
  refine g_newa (ty := .int) (t := 1) (N' := n) (a0 := zI n) hx hb rfl hG gx14 hW hS hA hk2 rfl (fun _ _ => rfl) (fun cA => rfl) (nI_pos (by omega)) (nI_clamp (by omega)) (by show n * 4 ≤ _; omega) (Nat.le_refl 1) (by show 0 + n ≤ n; omega) dX2_init_10 (fun q1 a1 H hq1 ha1 ha1n hW hS => ?_)
  rw [← hq1 o (Nat.lt_succ_self o)] at hl ⊢
  refine gp2_0 hx hb hG hown hW hS (o := o) (Nat.lt_of_lt_of_le (Nat.lt_succ_self o) (Nat.le_succ _)) hk (v := q1 (o + 1)) hin gx57 dX2_init_12 (fun m1 H locs hm1 ho1 hW hS => ?_)
  refine W.widen (k := 1) (n := n) (Nat.le_refl 1) (by show 0 + n ≤ n; omega) ?_
  refine hend q1 m1 a1 H locs _ ls hW hS ⟨hq1, fun j hj => ho1 j (by cases hx : Nat.beq j (100 * o + 0) with | false => rfl | true => have := Nat.eq_of_beq_eq_true hx; omega), ha1, FS.nil.cons hm1, AS.nil.cons ha1n, VS.nil⟩ dX2_init_15
theorem dX7_init_0 : decode cX7_init 0 = .ok (.aload_n 0, 1) := by decide +kernel
theorem dX7_init_1 : decode cX7_init 1 = .ok (.invokespecial 5, 3) := by decide +kernel
theorem dX7_init_4 : decode cX7_init 4 = .ok (.aload_n 0, 1) := by decide +kernel
theorem dX7_init_5 : decode cX7_init 5 = .ok (.iload_n 1, 1) := by decide +kernel
theorem dX7_init_6 : decode cX7_init 6 = .ok (.putfield 11, 3) := by decide +kernel
theorem dX7_init_9 : decode cX7_init 9 = .ok (.aload_n 0, 1) := by decide +kernel
theorem dX7_init_10 : decode cX7_init 10 = .ok (.iload_n 2, 1) := by decide +kernel
theorem dX7_init_11 : decode cX7_init 11 = .ok (.putfield 15, 3) := by decide +kernel
theorem dX7_init_14 : decode cX7_init 14 = .ok (.aload_n 0, 1) := by decide +kernel
theorem dX7_init_15 : decode cX7_init 15 = .ok (.iload_n 3, 1) := by decide +kernel
theorem dX7_init_16 : decode cX7_init 16 = .ok (.putfield 18, 3) := by decide +kernel
theorem dX7_init_19 : decode cX7_init 19 = .ok (.aload_n 0, 1) := by decide +kernel
theorem dX7_init_20 : decode cX7_init 20 = .ok (.iload 4, 2) := by decide +kernel
theorem dX7_init_22 : decode cX7_init 22 = .ok (.putfield 21, 3) := by decide +kernel
theorem dX7_init_25 : decode cX7_init 25 = .ok (.return_, 1) := by decide +kernel
set_option maxHeartbeats 4000000 in
set_option maxRecDepth 100000 in
theorem kX7_init {l : Launch} {D : va_G} {cy : Nat → ClassId} {o : Nat} {q : Nat → Nat} {m0 : Nat → Value} {a0 : Nat → vp_A} {sz : Nat} (hk : gk o = 7) (p1 p2 p3 p4 : Int32) : gMg l yX7_init cX7_init 5 ({ frames := 1, cells := 0, slots := 0, locals := 20 } : Room) D cy (o + 1) (o + 1) q m0 a0 sz [.ref (q o), .int p1, .int p2, .int p3, .int p4] 0 0 (MK o (o + 1) q m0 a0 [] [] [(100 * o + 3, .int p4), (100 * o + 2, .int p3), (100 * o + 1, .int p2), (100 * o + 0, .int p1)]) := by
  refine g_ofg (by decide) (Nat.le_of_ble_eq_true rfl) ?_
  intro p e s M args below meth c A hx hb hr hG hown hin hlocks hml hA hNW hW hS hend ls hl
  have hl : lv_has ls 5 [(0, .ref (q o)), (1, .int p1), (2, .int p2), (3, .int p3), (4, .int p4)] := hl
  refine lv_aload_n hx hb dX7_init_0 rfl (lv_at hl 0 rfl) ?_
  refine W.objInit hx hb hown (hG _ gx149) (hG _ gx12) (hG _ gx13) rfl (by rw [hml]; exact hl.1) rfl dX7_init_1 (Nat.le_of_ble_eq_true rfl) (Nat.le_of_ble_eq_true rfl) ?_
  refine W.eq (g2 := F0 M 4 ls []) rfl ?_
  have hv : VS [] m0 := VS.nil
  have hm : ∀ j, j < 100 * o → m0 j = m0 j := fun _ _ => rfl
  refine lv_aload_n hx hb dX7_init_4 rfl (lv_at hl 0 rfl) ?_
  refine lv_iload_n hx hb dX7_init_5 rfl (lv_at hl 1 rfl) ?_
  refine gp7_0 hx hb hG hown hW hS (o := o) (Nat.lt_succ_self o) hk (v := p1) hin gx150 dX7_init_6 (fun m1 H locs hm1 ho1 hW hS => ?_)
  have hv : VS [] m1 := VS.nil
  have hv := hv.cons hm1
  have hm := kepm hm ho1 (by omega)
  refine lv_aload_n hx hb dX7_init_9 rfl (lv_at hl 0 rfl) ?_
  refine lv_iload_n hx hb dX7_init_10 rfl (lv_at hl 2 rfl) ?_
  refine gp7_1 hx hb hG hown hW hS (o := o) (Nat.lt_succ_self o) hk (v := p2) hin gx151 dX7_init_11 (fun m2 H locs hm2 ho2 hW hS => ?_)
  have hv := VS.putN hv ho2 (by intro e he; simp only [List.mem_cons, List.not_mem_nil, or_false] at he; rcases he with rfl <;> (show _ ≠ _; omega))
  have hv := hv.cons hm2
  have hm := kepm hm ho2 (by omega)
  refine lv_aload_n hx hb dX7_init_14 rfl (lv_at hl 0 rfl) ?_
  refine lv_iload_n hx hb dX7_init_15 rfl (lv_at hl 3 rfl) ?_
  refine gp7_2 hx hb hG hown hW hS (o := o) (Nat.lt_succ_self o) hk (v := p3) hin gx152 dX7_init_16 (fun m3 H locs hm3 ho3 hW hS => ?_)
  have hv := VS.putN hv ho3 (by intro e he; simp only [List.mem_cons, List.not_mem_nil, or_false] at he; rcases he with rfl | rfl <;> (show _ ≠ _; omega))
  have hv := hv.cons hm3
  have hm := kepm hm ho3 (by omega)
  refine lv_aload_n hx hb dX7_init_19 rfl (lv_at hl 0 rfl) ?_
  refine lv_iload hx hb dX7_init_20 (lv_at hl 4 rfl) ?_
  refine gp7_3 hx hb hG hown hW hS (o := o) (Nat.lt_succ_self o) hk (v := p4) hin gx153 dX7_init_22 (fun m4 H locs hm4 ho4 hW hS => ?_)
  have hv := VS.putN hv ho4 (by intro e he; simp only [List.mem_cons, List.not_mem_nil, or_false] at he; rcases he with rfl | rfl | rfl <;> (show _ ≠ _; omega))
  have hv := hv.cons hm4
  have hm := kepm hm ho4 (by omega)
  exact hend q m4 a0 H locs _ ls hW hS ⟨fun _ _ => rfl, hm, fun _ _ => rfl, FS.nil, AS.nil, hv⟩ dX7_init_25
/-! the two methods that constructors call, where not all slots stand -/
set_option maxHeartbeats 4000000 in
set_option maxRecDepth 100000 in
theorem kX12_put0 {l : Launch} {D : va_G} {cy : Nat → ClassId} {N : Nat} {q : Nat → Nat} {m0 : Nat → Value} {a0 : Nat → vp_A} {sz : Nat} (p0 : Int64) (p2 : Int32) (p3 : Int32) (p4 : Int32) : gMl l yX12_put cX12_put 5 (some .long) ({ frames := 0, cells := 0, slots := 0, locals := 0 } : Room) D cy N q m0 a0 sz [.long p0, .int p2, .int p3, .int p4] (fun r m' a' => r = (fX12_put p0 p2 p3 p4) ∧ m' = m0 ∧ a' = a0) := by
  generalize hs0 : fX12_put p0 p2 p3 p4 = X0
  refine g_ofl (by decide) (Nat.le_of_ble_eq_true rfl) ?_
  intro p e s M args below meth c hx hb hr hG hown hin hlocks hml hW hS ls hl
  unfold fX12_put at hs0
  refine lv_lload_n hx hb dX12_put_0 rfl (lv_at hl 0 rfl) ?_
  refine lv_lconst (v := 1) hx hb dX12_put_1 (by decide) ?_
  refine lv_iload_n hx hb dX12_put_2 rfl (lv_at hl 2 rfl) ?_
  refine lv_lshl hx hb dX12_put_3 rfl ?_
  refine lv_lconst (v := 1) hx hb dX12_put_4 (by decide) ?_
  refine lv_lsub hx hb dX12_put_5 ?_
  refine lv_iload_n hx hb dX12_put_6 rfl (lv_at hl 1 rfl) ?_
  refine lv_lshl hx hb dX12_put_7 rfl ?_
  refine lv_ldc2 (v := (-1)) hx hb hown (hG _ gx206) dX12_put_8 ?_
  refine lv_lxor hx hb dX12_put_11 ?_
  refine lv_land hx hb dX12_put_12 ?_
  refine lv_iload hx hb dX12_put_13 (lv_at hl 3 rfl) ?_
  refine lv_i2l hx hb dX12_put_15 rfl ?_
  refine lv_iload_n hx hb dX12_put_16 rfl (lv_at hl 1 rfl) ?_
  refine lv_lshl hx hb dX12_put_17 rfl ?_
  refine lv_lor hx hb dX12_put_18 ?_
  subst hs0
  exact W.lret hx hb hr (fun t ht hw => ⟨⟨_, (m0, a0), rfl, ⟨rfl, rfl, rfl⟩, g_end hW ht hw⟩, hS.F ht⟩) hS.2.2 dX12_put_19 hlocks
set_option maxHeartbeats 4000000 in
set_option maxRecDepth 100000 in
theorem kX7_atFirst0 {l : Launch} {D : va_G} {cy : Nat → ClassId} {N : Nat} {q : Nat → Nat} {m0 : Nat → Value} {a0 : Nat → vp_A} {sz : Nat} {o : Nat} (hkr : o < N) (hgk : gk o = 7) {xkr_1 : Int32} (h_xkr_1 : m0 (100 * o + 1) = .int xkr_1) : gMl l yX7_atFirst cX7_atFirst 1 (some .long) ({ frames := 0, cells := 0, slots := 0, locals := 0 } : Room) D cy N q m0 a0 sz [.ref (q o)] (fun r m' a' => r = (fX7_atFirst xkr_1) ∧ m' = m0 ∧ a' = a0) := by
  generalize hs0 : fX7_atFirst xkr_1 = X0
  refine g_ofl (by decide) (Nat.le_of_ble_eq_true rfl) ?_
  intro p e s M args below meth c hx hb hr hG hown hin hlocks hml hW hS ls hl
  unfold fX7_atFirst at hs0
  refine lv_aload_n hx hb dX7_atFirst_0 rfl (lv_at hl 0 rfl) ?_
  refine gf7_1 hx hb hG hown hW (o := o) hkr hgk (v := .int xkr_1) h_xkr_1 gx151 dX7_atFirst_1 ?_
  refine lv_iconst (v := 1) hx hb dX7_atFirst_4 (by decide) ?_
  refine lv_isub hx hb dX7_atFirst_5 ?_
  refine lv_i2l hx hb dX7_atFirst_6 rfl ?_
  refine lv_bipush (v := 40) hx hb dX7_atFirst_7 (by decide) ?_
  refine lv_lshl hx hb dX7_atFirst_9 rfl ?_
  subst hs0
  exact W.lret hx hb hr (fun t ht hw => ⟨⟨_, (m0, a0), rfl, ⟨rfl, rfl, rfl⟩, g_end hW ht hw⟩, hS.F ht⟩) hS.2.2 dX7_atFirst_10 hlocks
theorem dX6_init_0 : decode cX6_init 0 = .ok (.aload_n 0, 1) := by decide +kernel
theorem dX6_init_1 : decode cX6_init 1 = .ok (.invokespecial 3, 3) := by decide +kernel
theorem dX6_init_4 : decode cX6_init 4 = .ok (.aload_n 0, 1) := by decide +kernel
theorem dX6_init_5 : decode cX6_init 5 = .ok (.new 9, 3) := by decide +kernel
theorem dX6_init_8 : decode cX6_init 8 = .ok (.dup, 1) := by decide +kernel
theorem dX6_init_9 : decode cX6_init 9 = .ok (.bipush 41, 2) := by decide +kernel
theorem dX6_init_11 : decode cX6_init 11 = .ok (.invokespecial 13, 3) := by decide +kernel
theorem dX6_init_14 : decode cX6_init 14 = .ok (.putfield 16, 3) := by decide +kernel
theorem dX6_init_17 : decode cX6_init 17 = .ok (.return_, 1) := by decide +kernel
set_option maxHeartbeats 4000000 in
set_option maxRecDepth 100000 in
theorem kX6_init_2 {l : Launch} {D : va_G} {cy : Nat → ClassId} {q : Nat → Nat} {m0 : Nat → Value} {a0 : Nat → vp_A} {sz : Nat} (hdef : ∀ j, j < 3 → m0 (100 * 2 + j) = vp_V [.int 0, .long 0, .null] j) : gMg l yX6_init cX6_init 1 ({ frames := 2, cells := 2, slots := 42, locals := 42 } : Room) D cy 3 5 q m0 a0 sz [.ref (q 2)] 2 42 (MK 2 3 q m0 a0 [(202, 3), (300, 4)] [(4, zI 41)] [(200, .int 0), (201, .long 0)]) := by
  refine g_ofg (by decide) (Nat.le_of_ble_eq_true rfl) ?_
  intro p e s M args below meth c A hx hb hr hG hown hin hlocks hml hA hNW hW hS hend ls hl
  have hl : lv_has ls 1 [(0, .ref (q 2))] := hl
  have hV : VS [(200, .int 0), (201, .long 0)] m0 := ((VS.nil.cons (hdef 1 (by decide))).cons (hdef 0 (by decide)))
  have hF : FS [] q m0 := FS.nil
  have hR : AS [] a0 := AS.nil
  have hq : ∀ k, k < 3 → q k = q k := fun _ _ => rfl
  have hm : ∀ j, j < 100 * 2 → m0 j = m0 j := fun _ _ => rfl
  have ha : ∀ j, j < 3 → a0 j = a0 j := fun _ _ => rfl
  refine lv_aload_n hx hb dX6_init_0 rfl (lv_at hl 0 rfl) ?_
  refine W.objInit hx hb hown (hG _ gx44) (hG _ gx12) (hG _ gx13) rfl (by rw [hml]; exact hl.1) rfl dX6_init_1 (Nat.le_of_ble_eq_true rfl) (Nat.le_of_ble_eq_true rfl) ?_
  refine W.eq (g2 := F0 M 4 ls []) rfl ?_
  refine lv_aload_n hx hb dX6_init_4 rfl (lv_at hl 0 rfl) ?_
  refine g_new (C := RX2) (T := TX2) (n := 1) (ci := 2) (fs := [.null]) hx hb hG gm_wsX20 tyX2 tyX2_ok hown gx45 gx46 gx47 hW hS hA gk3 rfl (by decide) rfl rfl (fun j hj => by rcases (show j = 0 by omega) with rfl <;> rfl) (Nat.le_of_ble_eq_true rfl) (Nat.le_of_ble_eq_true rfl) dX6_init_5 (fun q1 m1 H hq1 hm1 hd1 hW hS => ?_)
  have hF := FS.keep hF hq1 hm1 (by decide)
  have hV := VS.keep hV hm1 (by decide)
  have hm := kept hm hm1 (by decide)
  have hq := kepq hq hq1 (by decide)
  rw [← hq1 2 (by decide)] at hl ⊢
  refine lv_dup hx hb dX6_init_8 rfl ?_
  refine lv_bipush (v := 41) hx hb dX6_init_9 (by decide) ?_
  refine g_In (n := 1) (o := 3) (rest := [.ref (q1 3), .ref (q1 2)]) hx hb hml hown hG hW hS hA hNW [.int (nI 41)] (kX2_init (o := 3) gk3 gk4 (n := 41) (by decide)) rfl gx49 gx50 gx47 gx51 rfl rfl (by decide) ⟨Nat.le_of_ble_eq_true rfl, Nat.le_of_ble_eq_true rfl⟩ rfl hl (Nat.le_of_ble_eq_true rfl) ⟨Nat.le_of_ble_eq_true rfl, Nat.le_of_ble_eq_true rfl⟩ dX6_init_11 (fun q2 m2 a2 H locs hp2 hW hS => ?_)
  obtain ⟨hq2, hm2, ha2, hF2, hR2, hV2⟩ := hp2
  have hF := FS.keep hF hq2 hm2 (by decide)
  have hV := VS.keep hV hm2 (by decide)
  have hm := kept hm hm2 (by decide)
  have hR := AS.keep hR ha2 (by decide)
  have ha := kept ha ha2 (by decide)
  have hq := kepq hq hq2 (by decide)
  have hF := hF2.app hF
  have hR := hR2.app hR
  have hV := hV2.app hV
  rw [← hq2 2 (by decide)] at hl ⊢
  rw [← hq2 3 (by decide)]
  refine gp6_2 hx hb hG hown hW hS (o := 2) (by decide) gk2 (v := q2 3) hin gx48 dX6_init_14 (fun m3 H locs hm3 ho3 hW hS => ?_)
  have hF := FS.put hF ho3 (by decide)
  have hV := VS.put hV ho3 (by decide)
  have hm := kepm hm ho3 (by decide)
  have hF := hF.cons hm3
  refine W.widen (k := 2) (n := 42) (Nat.le_of_ble_eq_true rfl) (Nat.le_of_ble_eq_true rfl) ?_
  exact hend q2 m3 a2 H locs _ ls hW hS ⟨hq, hm, ha, hF, hR, hV⟩ dX6_init_17
set_option maxHeartbeats 4000000 in
set_option maxRecDepth 100000 in
theorem kX6_init_5 {l : Launch} {D : va_G} {cy : Nat → ClassId} {q : Nat → Nat} {m0 : Nat → Value} {a0 : Nat → vp_A} {sz : Nat} (hdef : ∀ j, j < 3 → m0 (100 * 5 + j) = vp_V [.int 0, .long 0, .null] j) : gMg l yX6_init cX6_init 1 ({ frames := 2, cells := 2, slots := 42, locals := 42 } : Room) D cy 6 8 q m0 a0 sz [.ref (q 5)] 2 42 (MK 5 6 q m0 a0 [(502, 6), (600, 7)] [(7, zI 41)] [(500, .int 0), (501, .long 0)]) := by
  refine g_ofg (by decide) (Nat.le_of_ble_eq_true rfl) ?_
  intro p e s M args below meth c A hx hb hr hG hown hin hlocks hml hA hNW hW hS hend ls hl
  have hl : lv_has ls 1 [(0, .ref (q 5))] := hl
  have hV : VS [(500, .int 0), (501, .long 0)] m0 := ((VS.nil.cons (hdef 1 (by decide))).cons (hdef 0 (by decide)))
  have hF : FS [] q m0 := FS.nil
  have hR : AS [] a0 := AS.nil
  have hq : ∀ k, k < 6 → q k = q k := fun _ _ => rfl
  have hm : ∀ j, j < 100 * 5 → m0 j = m0 j := fun _ _ => rfl
  have ha : ∀ j, j < 6 → a0 j = a0 j := fun _ _ => rfl
  refine lv_aload_n hx hb dX6_init_0 rfl (lv_at hl 0 rfl) ?_
  refine W.objInit hx hb hown (hG _ gx44) (hG _ gx12) (hG _ gx13) rfl (by rw [hml]; exact hl.1) rfl dX6_init_1 (Nat.le_of_ble_eq_true rfl) (Nat.le_of_ble_eq_true rfl) ?_
  refine W.eq (g2 := F0 M 4 ls []) rfl ?_
  refine lv_aload_n hx hb dX6_init_4 rfl (lv_at hl 0 rfl) ?_
  refine g_new (C := RX2) (T := TX2) (n := 1) (ci := 2) (fs := [.null]) hx hb hG gm_wsX20 tyX2 tyX2_ok hown gx45 gx46 gx47 hW hS hA gk6 rfl (by decide) rfl rfl (fun j hj => by rcases (show j = 0 by omega) with rfl <;> rfl) (Nat.le_of_ble_eq_true rfl) (Nat.le_of_ble_eq_true rfl) dX6_init_5 (fun q1 m1 H hq1 hm1 hd1 hW hS => ?_)
  have hF := FS.keep hF hq1 hm1 (by decide)
  have hV := VS.keep hV hm1 (by decide)
  have hm := kept hm hm1 (by decide)
  have hq := kepq hq hq1 (by decide)
  rw [← hq1 5 (by decide)] at hl ⊢
  refine lv_dup hx hb dX6_init_8 rfl ?_
  refine lv_bipush (v := 41) hx hb dX6_init_9 (by decide) ?_
  refine g_In (n := 1) (o := 6) (rest := [.ref (q1 6), .ref (q1 5)]) hx hb hml hown hG hW hS hA hNW [.int (nI 41)] (kX2_init (o := 6) gk6 gk7 (n := 41) (by decide)) rfl gx49 gx50 gx47 gx51 rfl rfl (by decide) ⟨Nat.le_of_ble_eq_true rfl, Nat.le_of_ble_eq_true rfl⟩ rfl hl (Nat.le_of_ble_eq_true rfl) ⟨Nat.le_of_ble_eq_true rfl, Nat.le_of_ble_eq_true rfl⟩ dX6_init_11 (fun q2 m2 a2 H locs hp2 hW hS => ?_)
  obtain ⟨hq2, hm2, ha2, hF2, hR2, hV2⟩ := hp2
  have hF := FS.keep hF hq2 hm2 (by decide)
  have hV := VS.keep hV hm2 (by decide)
  have hm := kept hm hm2 (by decide)
  have hR := AS.keep hR ha2 (by decide)
  have ha := kept ha ha2 (by decide)
  have hq := kepq hq hq2 (by decide)
  have hF := hF2.app hF
  have hR := hR2.app hR
  have hV := hV2.app hV
  rw [← hq2 5 (by decide)] at hl ⊢
  rw [← hq2 6 (by decide)]
  refine gp6_2 hx hb hG hown hW hS (o := 5) (by decide) gk5 (v := q2 6) hin gx48 dX6_init_14 (fun m3 H locs hm3 ho3 hW hS => ?_)
  have hF := FS.put hF ho3 (by decide)
  have hV := VS.put hV ho3 (by decide)
  have hm := kepm hm ho3 (by decide)
  have hF := hF.cons hm3
  refine W.widen (k := 2) (n := 42) (Nat.le_of_ble_eq_true rfl) (Nat.le_of_ble_eq_true rfl) ?_
  exact hend q2 m3 a2 H locs _ ls hW hS ⟨hq, hm, ha, hF, hR, hV⟩ dX6_init_17
theorem dX0_init_0 : decode cX0_init 0 = .ok (.aload_n 0, 1) := by decide +kernel
theorem dX0_init_1 : decode cX0_init 1 = .ok (.invokespecial 3, 3) := by decide +kernel
theorem dX0_init_4 : decode cX0_init 4 = .ok (.aload_n 0, 1) := by decide +kernel
theorem dX0_init_5 : decode cX0_init 5 = .ok (.new 9, 3) := by decide +kernel
theorem dX0_init_8 : decode cX0_init 8 = .ok (.dup, 1) := by decide +kernel
theorem dX0_init_9 : decode cX0_init 9 = .ok (.bipush 10, 2) := by decide +kernel
theorem dX0_init_11 : decode cX0_init 11 = .ok (.invokespecial 11, 3) := by decide +kernel
theorem dX0_init_14 : decode cX0_init 14 = .ok (.putfield 14, 3) := by decide +kernel
theorem dX0_init_17 : decode cX0_init 17 = .ok (.return_, 1) := by decide +kernel
set_option maxHeartbeats 4000000 in
set_option maxRecDepth 100000 in
theorem kX0_init_8 {l : Launch} {D : va_G} {cy : Nat → ClassId} {q : Nat → Nat} {m0 : Nat → Value} {a0 : Nat → vp_A} {sz : Nat} (hdef : ∀ j, j < 3 → m0 (100 * 8 + j) = vp_V [.null, .int 0, .int 0] j) : gMg l yX0_init cX0_init 1 ({ frames := 2, cells := 2, slots := 11, locals := 42 } : Room) D cy 9 11 q m0 a0 sz [.ref (q 8)] 2 11 (MK 8 9 q m0 a0 [(800, 9), (900, 10)] [(10, zI 10)] [(801, .int 0), (802, .int 0)]) := by
  refine g_ofg (by decide) (Nat.le_of_ble_eq_true rfl) ?_
  intro p e s M args below meth c A hx hb hr hG hown hin hlocks hml hA hNW hW hS hend ls hl
  have hl : lv_has ls 1 [(0, .ref (q 8))] := hl
  have hV : VS [(801, .int 0), (802, .int 0)] m0 := ((VS.nil.cons (hdef 2 (by decide))).cons (hdef 1 (by decide)))
  have hF : FS [] q m0 := FS.nil
  have hR : AS [] a0 := AS.nil
  have hq : ∀ k, k < 9 → q k = q k := fun _ _ => rfl
  have hm : ∀ j, j < 100 * 8 → m0 j = m0 j := fun _ _ => rfl
  have ha : ∀ j, j < 9 → a0 j = a0 j := fun _ _ => rfl
  refine lv_aload_n hx hb dX0_init_0 rfl (lv_at hl 0 rfl) ?_
  refine W.objInit hx hb hown (hG _ gx60) (hG _ gx12) (hG _ gx13) rfl (by rw [hml]; exact hl.1) rfl dX0_init_1 (Nat.le_of_ble_eq_true rfl) (Nat.le_of_ble_eq_true rfl) ?_
  refine W.eq (g2 := F0 M 4 ls []) rfl ?_
  refine lv_aload_n hx hb dX0_init_4 rfl (lv_at hl 0 rfl) ?_
  refine g_new (C := RX2) (T := TX2) (n := 1) (ci := 2) (fs := [.null]) hx hb hG gm_wsX20 tyX2 tyX2_ok hown gx61 gx46 gx47 hW hS hA gk9 rfl (by decide) rfl rfl (fun j hj => by rcases (show j = 0 by omega) with rfl <;> rfl) (Nat.le_of_ble_eq_true rfl) (Nat.le_of_ble_eq_true rfl) dX0_init_5 (fun q1 m1 H hq1 hm1 hd1 hW hS => ?_)
  have hF := FS.keep hF hq1 hm1 (by decide)
  have hV := VS.keep hV hm1 (by decide)
  have hm := kept hm hm1 (by decide)
  have hq := kepq hq hq1 (by decide)
  rw [← hq1 8 (by decide)] at hl ⊢
  refine lv_dup hx hb dX0_init_8 rfl ?_
  refine lv_bipush (v := 10) hx hb dX0_init_9 (by decide) ?_
  refine g_In (n := 1) (o := 9) (rest := [.ref (q1 9), .ref (q1 8)]) hx hb hml hown hG hW hS hA hNW [.int (nI 10)] (kX2_init (o := 9) gk9 gk10 (n := 10) (by decide)) rfl gx63 gx50 gx47 gx51 rfl rfl (by decide) ⟨Nat.le_of_ble_eq_true rfl, Nat.le_of_ble_eq_true rfl⟩ rfl hl (Nat.le_of_ble_eq_true rfl) ⟨Nat.le_of_ble_eq_true rfl, Nat.le_of_ble_eq_true rfl⟩ dX0_init_11 (fun q2 m2 a2 H locs hp2 hW hS => ?_)
  obtain ⟨hq2, hm2, ha2, hF2, hR2, hV2⟩ := hp2
  have hF := FS.keep hF hq2 hm2 (by decide)
  have hV := VS.keep hV hm2 (by decide)
  have hm := kept hm hm2 (by decide)
  have hR := AS.keep hR ha2 (by decide)
  have ha := kept ha ha2 (by decide)
  have hq := kepq hq hq2 (by decide)
  have hF := hF2.app hF
  have hR := hR2.app hR
  have hV := hV2.app hV
  rw [← hq2 8 (by decide)] at hl ⊢
  rw [← hq2 9 (by decide)]
  refine gp0_0 hx hb hG hown hW hS (o := 8) (by decide) gk8 (v := q2 9) hin gx62 dX0_init_14 (fun m3 H locs hm3 ho3 hW hS => ?_)
  have hF := FS.put hF ho3 (by decide)
  have hV := VS.put hV ho3 (by decide)
  have hm := kepm hm ho3 (by decide)
  have hF := hF.cons hm3
  refine W.widen (k := 2) (n := 11) (Nat.le_of_ble_eq_true rfl) (Nat.le_of_ble_eq_true rfl) ?_
  exact hend q2 m3 a2 H locs _ ls hW hS ⟨hq, hm, ha, hF, hR, hV⟩ dX0_init_17
set_option maxHeartbeats 4000000 in
set_option maxRecDepth 100000 in
theorem kX0_init_31 {l : Launch} {D : va_G} {cy : Nat → ClassId} {q : Nat → Nat} {m0 : Nat → Value} {a0 : Nat → vp_A} {sz : Nat} (hdef : ∀ j, j < 3 → m0 (100 * 31 + j) = vp_V [.null, .int 0, .int 0] j) : gMg l yX0_init cX0_init 1 ({ frames := 2, cells := 2, slots := 11, locals := 42 } : Room) D cy 32 34 q m0 a0 sz [.ref (q 31)] 2 11 (MK 31 32 q m0 a0 [(3100, 32), (3200, 33)] [(33, zI 10)] [(3101, .int 0), (3102, .int 0)]) := by
  refine g_ofg (by decide) (Nat.le_of_ble_eq_true rfl) ?_
  intro p e s M args below meth c A hx hb hr hG hown hin hlocks hml hA hNW hW hS hend ls hl
  have hl : lv_has ls 1 [(0, .ref (q 31))] := hl
  have hV : VS [(3101, .int 0), (3102, .int 0)] m0 := ((VS.nil.cons (hdef 2 (by decide))).cons (hdef 1 (by decide)))
  have hF : FS [] q m0 := FS.nil
  have hR : AS [] a0 := AS.nil
  have hq : ∀ k, k < 32 → q k = q k := fun _ _ => rfl
  have hm : ∀ j, j < 100 * 31 → m0 j = m0 j := fun _ _ => rfl
  have ha : ∀ j, j < 32 → a0 j = a0 j := fun _ _ => rfl
  refine lv_aload_n hx hb dX0_init_0 rfl (lv_at hl 0 rfl) ?_
  refine W.objInit hx hb hown (hG _ gx60) (hG _ gx12) (hG _ gx13) rfl (by rw [hml]; exact hl.1) rfl dX0_init_1 (Nat.le_of_ble_eq_true rfl) (Nat.le_of_ble_eq_true rfl) ?_
  refine W.eq (g2 := F0 M 4 ls []) rfl ?_
  refine lv_aload_n hx hb dX0_init_4 rfl (lv_at hl 0 rfl) ?_
  refine g_new (C := RX2) (T := TX2) (n := 1) (ci := 2) (fs := [.null]) hx hb hG gm_wsX20 tyX2 tyX2_ok hown gx61 gx46 gx47 hW hS hA gk32 rfl (by decide) rfl rfl (fun j hj => by rcases (show j = 0 by omega) with rfl <;> rfl) (Nat.le_of_ble_eq_true rfl) (Nat.le_of_ble_eq_true rfl) dX0_init_5 (fun q1 m1 H hq1 hm1 hd1 hW hS => ?_)
  have hF := FS.keep hF hq1 hm1 (by decide)
  have hV := VS.keep hV hm1 (by decide)
  have hm := kept hm hm1 (by decide)
  have hq := kepq hq hq1 (by decide)
  rw [← hq1 31 (by decide)] at hl ⊢
  refine lv_dup hx hb dX0_init_8 rfl ?_
  refine lv_bipush (v := 10) hx hb dX0_init_9 (by decide) ?_
  refine g_In (n := 1) (o := 32) (rest := [.ref (q1 32), .ref (q1 31)]) hx hb hml hown hG hW hS hA hNW [.int (nI 10)] (kX2_init (o := 32) gk32 gk33 (n := 10) (by decide)) rfl gx63 gx50 gx47 gx51 rfl rfl (by decide) ⟨Nat.le_of_ble_eq_true rfl, Nat.le_of_ble_eq_true rfl⟩ rfl hl (Nat.le_of_ble_eq_true rfl) ⟨Nat.le_of_ble_eq_true rfl, Nat.le_of_ble_eq_true rfl⟩ dX0_init_11 (fun q2 m2 a2 H locs hp2 hW hS => ?_)
  obtain ⟨hq2, hm2, ha2, hF2, hR2, hV2⟩ := hp2
  have hF := FS.keep hF hq2 hm2 (by decide)
  have hV := VS.keep hV hm2 (by decide)
  have hm := kept hm hm2 (by decide)
  have hR := AS.keep hR ha2 (by decide)
  have ha := kept ha ha2 (by decide)
  have hq := kepq hq hq2 (by decide)
  have hF := hF2.app hF
  have hR := hR2.app hR
  have hV := hV2.app hV
  rw [← hq2 31 (by decide)] at hl ⊢
  rw [← hq2 32 (by decide)]
  refine gp0_0 hx hb hG hown hW hS (o := 31) (by decide) gk31 (v := q2 32) hin gx62 dX0_init_14 (fun m3 H locs hm3 ho3 hW hS => ?_)
  have hF := FS.put hF ho3 (by decide)
  have hV := VS.put hV ho3 (by decide)
  have hm := kepm hm ho3 (by decide)
  have hF := hF.cons hm3
  refine W.widen (k := 2) (n := 11) (Nat.le_of_ble_eq_true rfl) (Nat.le_of_ble_eq_true rfl) ?_
  exact hend q2 m3 a2 H locs _ ls hW hS ⟨hq, hm, ha, hF, hR, hV⟩ dX0_init_17
theorem dX8_init_0 : decode cX8_init 0 = .ok (.aload_n 0, 1) := by decide +kernel
theorem dX8_init_1 : decode cX8_init 1 = .ok (.invokespecial 3, 3) := by decide +kernel
theorem dX8_init_4 : decode cX8_init 4 = .ok (.aload_n 0, 1) := by decide +kernel
theorem dX8_init_5 : decode cX8_init 5 = .ok (.new 9, 3) := by decide +kernel
theorem dX8_init_8 : decode cX8_init 8 = .ok (.dup, 1) := by decide +kernel
theorem dX8_init_9 : decode cX8_init 9 = .ok (.bipush 64, 2) := by decide +kernel
theorem dX8_init_11 : decode cX8_init 11 = .ok (.invokespecial 13, 3) := by decide +kernel
theorem dX8_init_14 : decode cX8_init 14 = .ok (.putfield 16, 3) := by decide +kernel
theorem dX8_init_17 : decode cX8_init 17 = .ok (.aload_n 0, 1) := by decide +kernel
theorem dX8_init_18 : decode cX8_init 18 = .ok (.new 9, 3) := by decide +kernel
theorem dX8_init_21 : decode cX8_init 21 = .ok (.dup, 1) := by decide +kernel
theorem dX8_init_22 : decode cX8_init 22 = .ok (.bipush 64, 2) := by decide +kernel
theorem dX8_init_24 : decode cX8_init 24 = .ok (.invokespecial 13, 3) := by decide +kernel
theorem dX8_init_27 : decode cX8_init 27 = .ok (.putfield 20, 3) := by decide +kernel
theorem dX8_init_30 : decode cX8_init 30 = .ok (.aload_n 0, 1) := by decide +kernel
theorem dX8_init_31 : decode cX8_init 31 = .ok (.new 9, 3) := by decide +kernel
theorem dX8_init_34 : decode cX8_init 34 = .ok (.dup, 1) := by decide +kernel
theorem dX8_init_35 : decode cX8_init 35 = .ok (.bipush 64, 2) := by decide +kernel
theorem dX8_init_37 : decode cX8_init 37 = .ok (.invokespecial 13, 3) := by decide +kernel
theorem dX8_init_40 : decode cX8_init 40 = .ok (.putfield 23, 3) := by decide +kernel
theorem dX8_init_43 : decode cX8_init 43 = .ok (.aload_n 0, 1) := by decide +kernel
theorem dX8_init_44 : decode cX8_init 44 = .ok (.new 9, 3) := by decide +kernel
theorem dX8_init_47 : decode cX8_init 47 = .ok (.dup, 1) := by decide +kernel
theorem dX8_init_48 : decode cX8_init 48 = .ok (.iconst 4, 1) := by decide +kernel
theorem dX8_init_49 : decode cX8_init 49 = .ok (.invokespecial 13, 3) := by decide +kernel
theorem dX8_init_52 : decode cX8_init 52 = .ok (.putfield 26, 3) := by decide +kernel
theorem dX8_init_55 : decode cX8_init 55 = .ok (.aload_n 0, 1) := by decide +kernel
theorem dX8_init_56 : decode cX8_init 56 = .ok (.new 9, 3) := by decide +kernel
theorem dX8_init_59 : decode cX8_init 59 = .ok (.dup, 1) := by decide +kernel
theorem dX8_init_60 : decode cX8_init 60 = .ok (.iconst 4, 1) := by decide +kernel
theorem dX8_init_61 : decode cX8_init 61 = .ok (.invokespecial 13, 3) := by decide +kernel
theorem dX8_init_64 : decode cX8_init 64 = .ok (.putfield 29, 3) := by decide +kernel
theorem dX8_init_67 : decode cX8_init 67 = .ok (.aload_n 0, 1) := by decide +kernel
theorem dX8_init_68 : decode cX8_init 68 = .ok (.new 9, 3) := by decide +kernel
theorem dX8_init_71 : decode cX8_init 71 = .ok (.dup, 1) := by decide +kernel
theorem dX8_init_72 : decode cX8_init 72 = .ok (.iconst 4, 1) := by decide +kernel
theorem dX8_init_73 : decode cX8_init 73 = .ok (.invokespecial 13, 3) := by decide +kernel
theorem dX8_init_76 : decode cX8_init 76 = .ok (.putfield 32, 3) := by decide +kernel
theorem dX8_init_79 : decode cX8_init 79 = .ok (.return_, 1) := by decide +kernel
set_option maxHeartbeats 4000000 in
set_option maxRecDepth 100000 in
theorem kX8_init {l : Launch} {D : va_G} {cy : Nat → ClassId} {q : Nat → Nat} {m0 : Nat → Value} {a0 : Nat → vp_A} {sz : Nat} (hdef : ∀ j, j < 9 → m0 (100 * 11 + j) = vp_V [.null, .null, .null, .null, .null, .null, .int 0, .int 0, .int 0] j) : gMg l yX8_init cX8_init 1 ({ frames := 2, cells := 12, slots := 210, locals := 42 } : Room) D cy 12 24 q m0 a0 sz [.ref (q 11)] 12 210 (MK 11 12 q m0 a0 [(1105, 22), (2200, 23), (1104, 20), (2000, 21), (1103, 18), (1800, 19), (1102, 16), (1600, 17), (1101, 14), (1400, 15), (1100, 12), (1200, 13)] [(23, zI 4), (21, zI 4), (19, zI 4), (17, zI 64), (15, zI 64), (13, zI 64)] [(1106, .int 0), (1107, .int 0), (1108, .int 0)]) := by
  refine g_ofg (by decide) (Nat.le_of_ble_eq_true rfl) ?_
  intro p e s M args below meth c A hx hb hr hG hown hin hlocks hml hA hNW hW hS hend ls hl
  have hl : lv_has ls 1 [(0, .ref (q 11))] := hl
  have hV : VS [(1106, .int 0), (1107, .int 0), (1108, .int 0)] m0 := (((VS.nil.cons (hdef 8 (by decide))).cons (hdef 7 (by decide))).cons (hdef 6 (by decide)))
  have hF : FS [] q m0 := FS.nil
  have hR : AS [] a0 := AS.nil
  have hq : ∀ k, k < 12 → q k = q k := fun _ _ => rfl
  have hm : ∀ j, j < 100 * 11 → m0 j = m0 j := fun _ _ => rfl
  have ha : ∀ j, j < 12 → a0 j = a0 j := fun _ _ => rfl
  refine lv_aload_n hx hb dX8_init_0 rfl (lv_at hl 0 rfl) ?_
  refine W.objInit hx hb hown (hG _ gx66) (hG _ gx12) (hG _ gx13) rfl (by rw [hml]; exact hl.1) rfl dX8_init_1 (Nat.le_of_ble_eq_true rfl) (Nat.le_of_ble_eq_true rfl) ?_
  refine W.eq (g2 := F0 M 4 ls []) rfl ?_
  refine lv_aload_n hx hb dX8_init_4 rfl (lv_at hl 0 rfl) ?_
  refine g_new (C := RX2) (T := TX2) (n := 1) (ci := 2) (fs := [.null]) hx hb hG gm_wsX20 tyX2 tyX2_ok hown gx67 gx46 gx47 hW hS hA gk12 rfl (by decide) rfl rfl (fun j hj => by rcases (show j = 0 by omega) with rfl <;> rfl) (Nat.le_of_ble_eq_true rfl) (Nat.le_of_ble_eq_true rfl) dX8_init_5 (fun q1 m1 H hq1 hm1 hd1 hW hS => ?_)
  have hF := FS.keep hF hq1 hm1 (by decide)
  have hV := VS.keep hV hm1 (by decide)
  have hm := kept hm hm1 (by decide)
  have hq := kepq hq hq1 (by decide)
  rw [← hq1 11 (by decide)] at hl ⊢
  refine lv_dup hx hb dX8_init_8 rfl ?_
  refine lv_bipush (v := 64) hx hb dX8_init_9 (by decide) ?_
  refine g_In (n := 1) (o := 12) (rest := [.ref (q1 12), .ref (q1 11)]) hx hb hml hown hG hW hS hA hNW [.int (nI 64)] (kX2_init (o := 12) gk12 gk13 (n := 64) (by decide)) rfl gx74 gx50 gx47 gx51 rfl rfl (by decide) ⟨Nat.le_of_ble_eq_true rfl, Nat.le_of_ble_eq_true rfl⟩ rfl hl (Nat.le_of_ble_eq_true rfl) ⟨Nat.le_of_ble_eq_true rfl, Nat.le_of_ble_eq_true rfl⟩ dX8_init_11 (fun q2 m2 a2 H locs hp2 hW hS => ?_)
  obtain ⟨hq2, hm2, ha2, hF2, hR2, hV2⟩ := hp2
  have hF := FS.keep hF hq2 hm2 (by decide)
  have hV := VS.keep hV hm2 (by decide)
  have hm := kept hm hm2 (by decide)
  have hR := AS.keep hR ha2 (by decide)
  have ha := kept ha ha2 (by decide)
  have hq := kepq hq hq2 (by decide)
  have hF := hF2.app hF
  have hR := hR2.app hR
  have hV := hV2.app hV
  rw [← hq2 11 (by decide)] at hl ⊢
  rw [← hq2 12 (by decide)]
  refine gp8_0 hx hb hG hown hW hS (o := 11) (by decide) gk11 (v := q2 12) hin gx68 dX8_init_14 (fun m3 H locs hm3 ho3 hW hS => ?_)
  have hF := FS.put hF ho3 (by decide)
  have hV := VS.put hV ho3 (by decide)
  have hm := kepm hm ho3 (by decide)
  have hF := hF.cons hm3
  refine lv_aload_n hx hb dX8_init_17 rfl (lv_at hl 0 rfl) ?_
  refine g_new (C := RX2) (T := TX2) (n := 1) (ci := 2) (fs := [.null]) hx hb hG gm_wsX20 tyX2 tyX2_ok hown gx67 gx46 gx47 hW hS hA gk14 rfl (by decide) rfl rfl (fun j hj => by rcases (show j = 0 by omega) with rfl <;> rfl) (Nat.le_of_ble_eq_true rfl) (Nat.le_of_ble_eq_true rfl) dX8_init_18 (fun q4 m4 H hq4 hm4 hd4 hW hS => ?_)
  have hF := FS.keep hF hq4 hm4 (by decide)
  have hV := VS.keep hV hm4 (by decide)
  have hm := kept hm hm4 (by decide)
  have hq := kepq hq hq4 (by decide)
  rw [← hq4 11 (by decide)] at hl ⊢
  refine lv_dup hx hb dX8_init_21 rfl ?_
  refine lv_bipush (v := 64) hx hb dX8_init_22 (by decide) ?_
  refine g_In (n := 1) (o := 14) (rest := [.ref (q4 14), .ref (q4 11)]) hx hb hml hown hG hW hS hA hNW [.int (nI 64)] (kX2_init (o := 14) gk14 gk15 (n := 64) (by decide)) rfl gx74 gx50 gx47 gx51 rfl rfl (by decide) ⟨Nat.le_of_ble_eq_true rfl, Nat.le_of_ble_eq_true rfl⟩ rfl hl (Nat.le_of_ble_eq_true rfl) ⟨Nat.le_of_ble_eq_true rfl, Nat.le_of_ble_eq_true rfl⟩ dX8_init_24 (fun q5 m5 a5 H locs hp5 hW hS => ?_)
  obtain ⟨hq5, hm5, ha5, hF5, hR5, hV5⟩ := hp5
  have hF := FS.keep hF hq5 hm5 (by decide)
  have hV := VS.keep hV hm5 (by decide)
  have hm := kept hm hm5 (by decide)
  have hR := AS.keep hR ha5 (by decide)
  have ha := kept ha ha5 (by decide)
  have hq := kepq hq hq5 (by decide)
  have hF := hF5.app hF
  have hR := hR5.app hR
  have hV := hV5.app hV
  rw [← hq5 11 (by decide)] at hl ⊢
  rw [← hq5 14 (by decide)]
  refine gp8_1 hx hb hG hown hW hS (o := 11) (by decide) gk11 (v := q5 14) hin gx69 dX8_init_27 (fun m6 H locs hm6 ho6 hW hS => ?_)
  have hF := FS.put hF ho6 (by decide)
  have hV := VS.put hV ho6 (by decide)
  have hm := kepm hm ho6 (by decide)
  have hF := hF.cons hm6
  refine lv_aload_n hx hb dX8_init_30 rfl (lv_at hl 0 rfl) ?_
  refine g_new (C := RX2) (T := TX2) (n := 1) (ci := 2) (fs := [.null]) hx hb hG gm_wsX20 tyX2 tyX2_ok hown gx67 gx46 gx47 hW hS hA gk16 rfl (by decide) rfl rfl (fun j hj => by rcases (show j = 0 by omega) with rfl <;> rfl) (Nat.le_of_ble_eq_true rfl) (Nat.le_of_ble_eq_true rfl) dX8_init_31 (fun q7 m7 H hq7 hm7 hd7 hW hS => ?_)
  have hF := FS.keep hF hq7 hm7 (by decide)
  have hV := VS.keep hV hm7 (by decide)
  have hm := kept hm hm7 (by decide)
  have hq := kepq hq hq7 (by decide)
  rw [← hq7 11 (by decide)] at hl ⊢
  refine lv_dup hx hb dX8_init_34 rfl ?_
  refine lv_bipush (v := 64) hx hb dX8_init_35 (by decide) ?_
  refine g_In (n := 1) (o := 16) (rest := [.ref (q7 16), .ref (q7 11)]) hx hb hml hown hG hW hS hA hNW [.int (nI 64)] (kX2_init (o := 16) gk16 gk17 (n := 64) (by decide)) rfl gx74 gx50 gx47 gx51 rfl rfl (by decide) ⟨Nat.le_of_ble_eq_true rfl, Nat.le_of_ble_eq_true rfl⟩ rfl hl (Nat.le_of_ble_eq_true rfl) ⟨Nat.le_of_ble_eq_true rfl, Nat.le_of_ble_eq_true rfl⟩ dX8_init_37 (fun q8 m8 a8 H locs hp8 hW hS => ?_)
  obtain ⟨hq8, hm8, ha8, hF8, hR8, hV8⟩ := hp8
  have hF := FS.keep hF hq8 hm8 (by decide)
  have hV := VS.keep hV hm8 (by decide)
  have hm := kept hm hm8 (by decide)
  have hR := AS.keep hR ha8 (by decide)
  have ha := kept ha ha8 (by decide)
  have hq := kepq hq hq8 (by decide)
  have hF := hF8.app hF
  have hR := hR8.app hR
  have hV := hV8.app hV
  rw [← hq8 11 (by decide)] at hl ⊢
  rw [← hq8 16 (by decide)]
  refine gp8_2 hx hb hG hown hW hS (o := 11) (by decide) gk11 (v := q8 16) hin gx70 dX8_init_40 (fun m9 H locs hm9 ho9 hW hS => ?_)
  have hF := FS.put hF ho9 (by decide)
  have hV := VS.put hV ho9 (by decide)
  have hm := kepm hm ho9 (by decide)
  have hF := hF.cons hm9
  refine lv_aload_n hx hb dX8_init_43 rfl (lv_at hl 0 rfl) ?_
  refine g_new (C := RX2) (T := TX2) (n := 1) (ci := 2) (fs := [.null]) hx hb hG gm_wsX20 tyX2 tyX2_ok hown gx67 gx46 gx47 hW hS hA gk18 rfl (by decide) rfl rfl (fun j hj => by rcases (show j = 0 by omega) with rfl <;> rfl) (Nat.le_of_ble_eq_true rfl) (Nat.le_of_ble_eq_true rfl) dX8_init_44 (fun q10 m10 H hq10 hm10 hd10 hW hS => ?_)
  have hF := FS.keep hF hq10 hm10 (by decide)
  have hV := VS.keep hV hm10 (by decide)
  have hm := kept hm hm10 (by decide)
  have hq := kepq hq hq10 (by decide)
  rw [← hq10 11 (by decide)] at hl ⊢
  refine lv_dup hx hb dX8_init_47 rfl ?_
  refine lv_iconst (v := 4) hx hb dX8_init_48 (by decide) ?_
  refine g_In (n := 1) (o := 18) (rest := [.ref (q10 18), .ref (q10 11)]) hx hb hml hown hG hW hS hA hNW [.int (nI 4)] (kX2_init (o := 18) gk18 gk19 (n := 4) (by decide)) rfl gx74 gx50 gx47 gx51 rfl rfl (by decide) ⟨Nat.le_of_ble_eq_true rfl, Nat.le_of_ble_eq_true rfl⟩ rfl hl (Nat.le_of_ble_eq_true rfl) ⟨Nat.le_of_ble_eq_true rfl, Nat.le_of_ble_eq_true rfl⟩ dX8_init_49 (fun q11 m11 a11 H locs hp11 hW hS => ?_)
  obtain ⟨hq11, hm11, ha11, hF11, hR11, hV11⟩ := hp11
  have hF := FS.keep hF hq11 hm11 (by decide)
  have hV := VS.keep hV hm11 (by decide)
  have hm := kept hm hm11 (by decide)
  have hR := AS.keep hR ha11 (by decide)
  have ha := kept ha ha11 (by decide)
  have hq := kepq hq hq11 (by decide)
  have hF := hF11.app hF
  have hR := hR11.app hR
  have hV := hV11.app hV
  rw [← hq11 11 (by decide)] at hl ⊢
  rw [← hq11 18 (by decide)]
  refine gp8_3 hx hb hG hown hW hS (o := 11) (by decide) gk11 (v := q11 18) hin gx71 dX8_init_52 (fun m12 H locs hm12 ho12 hW hS => ?_)
  have hF := FS.put hF ho12 (by decide)
  have hV := VS.put hV ho12 (by decide)
  have hm := kepm hm ho12 (by decide)
  have hF := hF.cons hm12
  refine lv_aload_n hx hb dX8_init_55 rfl (lv_at hl 0 rfl) ?_
  refine g_new (C := RX2) (T := TX2) (n := 1) (ci := 2) (fs := [.null]) hx hb hG gm_wsX20 tyX2 tyX2_ok hown gx67 gx46 gx47 hW hS hA gk20 rfl (by decide) rfl rfl (fun j hj => by rcases (show j = 0 by omega) with rfl <;> rfl) (Nat.le_of_ble_eq_true rfl) (Nat.le_of_ble_eq_true rfl) dX8_init_56 (fun q13 m13 H hq13 hm13 hd13 hW hS => ?_)
  have hF := FS.keep hF hq13 hm13 (by decide)
  have hV := VS.keep hV hm13 (by decide)
  have hm := kept hm hm13 (by decide)
  have hq := kepq hq hq13 (by decide)
  rw [← hq13 11 (by decide)] at hl ⊢
  refine lv_dup hx hb dX8_init_59 rfl ?_
  refine lv_iconst (v := 4) hx hb dX8_init_60 (by decide) ?_
  refine g_In (n := 1) (o := 20) (rest := [.ref (q13 20), .ref (q13 11)]) hx hb hml hown hG hW hS hA hNW [.int (nI 4)] (kX2_init (o := 20) gk20 gk21 (n := 4) (by decide)) rfl gx74 gx50 gx47 gx51 rfl rfl (by decide) ⟨Nat.le_of_ble_eq_true rfl, Nat.le_of_ble_eq_true rfl⟩ rfl hl (Nat.le_of_ble_eq_true rfl) ⟨Nat.le_of_ble_eq_true rfl, Nat.le_of_ble_eq_true rfl⟩ dX8_init_61 (fun q14 m14 a14 H locs hp14 hW hS => ?_)
  obtain ⟨hq14, hm14, ha14, hF14, hR14, hV14⟩ := hp14
  have hF := FS.keep hF hq14 hm14 (by decide)
  have hV := VS.keep hV hm14 (by decide)
  have hm := kept hm hm14 (by decide)
  have hR := AS.keep hR ha14 (by decide)
  have ha := kept ha ha14 (by decide)
  have hq := kepq hq hq14 (by decide)
  have hF := hF14.app hF
  have hR := hR14.app hR
  have hV := hV14.app hV
  rw [← hq14 11 (by decide)] at hl ⊢
  rw [← hq14 20 (by decide)]
  refine gp8_4 hx hb hG hown hW hS (o := 11) (by decide) gk11 (v := q14 20) hin gx72 dX8_init_64 (fun m15 H locs hm15 ho15 hW hS => ?_)
  have hF := FS.put hF ho15 (by decide)
  have hV := VS.put hV ho15 (by decide)
  have hm := kepm hm ho15 (by decide)
  have hF := hF.cons hm15
  refine lv_aload_n hx hb dX8_init_67 rfl (lv_at hl 0 rfl) ?_
  refine g_new (C := RX2) (T := TX2) (n := 1) (ci := 2) (fs := [.null]) hx hb hG gm_wsX20 tyX2 tyX2_ok hown gx67 gx46 gx47 hW hS hA gk22 rfl (by decide) rfl rfl (fun j hj => by rcases (show j = 0 by omega) with rfl <;> rfl) (Nat.le_of_ble_eq_true rfl) (Nat.le_of_ble_eq_true rfl) dX8_init_68 (fun q16 m16 H hq16 hm16 hd16 hW hS => ?_)
  have hF := FS.keep hF hq16 hm16 (by decide)
  have hV := VS.keep hV hm16 (by decide)
  have hm := kept hm hm16 (by decide)
  have hq := kepq hq hq16 (by decide)
  rw [← hq16 11 (by decide)] at hl ⊢
  refine lv_dup hx hb dX8_init_71 rfl ?_
  refine lv_iconst (v := 4) hx hb dX8_init_72 (by decide) ?_
  refine g_In (n := 1) (o := 22) (rest := [.ref (q16 22), .ref (q16 11)]) hx hb hml hown hG hW hS hA hNW [.int (nI 4)] (kX2_init (o := 22) gk22 gk23 (n := 4) (by decide)) rfl gx74 gx50 gx47 gx51 rfl rfl (by decide) ⟨Nat.le_of_ble_eq_true rfl, Nat.le_of_ble_eq_true rfl⟩ rfl hl (Nat.le_of_ble_eq_true rfl) ⟨Nat.le_of_ble_eq_true rfl, Nat.le_of_ble_eq_true rfl⟩ dX8_init_73 (fun q17 m17 a17 H locs hp17 hW hS => ?_)
  obtain ⟨hq17, hm17, ha17, hF17, hR17, hV17⟩ := hp17
  have hF := FS.keep hF hq17 hm17 (by decide)
  have hV := VS.keep hV hm17 (by decide)
  have hm := kept hm hm17 (by decide)
  have hR := AS.keep hR ha17 (by decide)
  have ha := kept ha ha17 (by decide)
  have hq := kepq hq hq17 (by decide)
  have hF := hF17.app hF
  have hR := hR17.app hR
  have hV := hV17.app hV
  rw [← hq17 11 (by decide)] at hl ⊢
  rw [← hq17 22 (by decide)]
  refine gp8_5 hx hb hG hown hW hS (o := 11) (by decide) gk11 (v := q17 22) hin gx73 dX8_init_76 (fun m18 H locs hm18 ho18 hW hS => ?_)
  have hF := FS.put hF ho18 (by decide)
  have hV := VS.put hV ho18 (by decide)
  have hm := kepm hm ho18 (by decide)
  have hF := hF.cons hm18
  refine W.widen (k := 12) (n := 210) (Nat.le_of_ble_eq_true rfl) (Nat.le_of_ble_eq_true rfl) ?_
  exact hend q17 m18 a17 H locs _ ls hW hS ⟨hq, hm, ha, hF, hR, hV⟩ dX8_init_79
theorem dX10_init_0 : decode cX10_init 0 = .ok (.aload_n 0, 1) := by decide +kernel
theorem dX10_init_1 : decode cX10_init 1 = .ok (.invokespecial 3, 3) := by decide +kernel
theorem dX10_init_4 : decode cX10_init 4 = .ok (.aload_n 0, 1) := by decide +kernel
theorem dX10_init_5 : decode cX10_init 5 = .ok (.new 9, 3) := by decide +kernel
theorem dX10_init_8 : decode cX10_init 8 = .ok (.dup, 1) := by decide +kernel
theorem dX10_init_9 : decode cX10_init 9 = .ok (.sipush 264, 3) := by decide +kernel
theorem dX10_init_12 : decode cX10_init 12 = .ok (.invokespecial 13, 3) := by decide +kernel
theorem dX10_init_15 : decode cX10_init 15 = .ok (.putfield 16, 3) := by decide +kernel
theorem dX10_init_18 : decode cX10_init 18 = .ok (.return_, 1) := by decide +kernel
set_option maxHeartbeats 4000000 in
set_option maxRecDepth 100000 in
theorem kX10_init {l : Launch} {D : va_G} {cy : Nat → ClassId} {q : Nat → Nat} {m0 : Nat → Value} {a0 : Nat → vp_A} {sz : Nat} (hdef : ∀ j, j < 5 → m0 (100 * 24 + j) = vp_V [.int 0, .null, .int 0, .int 0, .int 0] j) : gMg l yX10_init cX10_init 1 ({ frames := 2, cells := 2, slots := 265, locals := 42 } : Room) D cy 25 27 q m0 a0 sz [.ref (q 24)] 2 265 (MK 24 25 q m0 a0 [(2401, 25), (2500, 26)] [(26, zI 264)] [(2400, .int 0), (2402, .int 0), (2403, .int 0), (2404, .int 0)]) := by
  refine g_ofg (by decide) (Nat.le_of_ble_eq_true rfl) ?_
  intro p e s M args below meth c A hx hb hr hG hown hin hlocks hml hA hNW hW hS hend ls hl
  have hl : lv_has ls 1 [(0, .ref (q 24))] := hl
  have hV : VS [(2400, .int 0), (2402, .int 0), (2403, .int 0), (2404, .int 0)] m0 := ((((VS.nil.cons (hdef 4 (by decide))).cons (hdef 3 (by decide))).cons (hdef 2 (by decide))).cons (hdef 0 (by decide)))
  have hF : FS [] q m0 := FS.nil
  have hR : AS [] a0 := AS.nil
  have hq : ∀ k, k < 25 → q k = q k := fun _ _ => rfl
  have hm : ∀ j, j < 100 * 24 → m0 j = m0 j := fun _ _ => rfl
  have ha : ∀ j, j < 25 → a0 j = a0 j := fun _ _ => rfl
  refine lv_aload_n hx hb dX10_init_0 rfl (lv_at hl 0 rfl) ?_
  refine W.objInit hx hb hown (hG _ gx77) (hG _ gx12) (hG _ gx13) rfl (by rw [hml]; exact hl.1) rfl dX10_init_1 (Nat.le_of_ble_eq_true rfl) (Nat.le_of_ble_eq_true rfl) ?_
  refine W.eq (g2 := F0 M 4 ls []) rfl ?_
  refine lv_aload_n hx hb dX10_init_4 rfl (lv_at hl 0 rfl) ?_
  refine g_new (C := RX2) (T := TX2) (n := 1) (ci := 2) (fs := [.null]) hx hb hG gm_wsX20 tyX2 tyX2_ok hown gx78 gx46 gx47 hW hS hA gk25 rfl (by decide) rfl rfl (fun j hj => by rcases (show j = 0 by omega) with rfl <;> rfl) (Nat.le_of_ble_eq_true rfl) (Nat.le_of_ble_eq_true rfl) dX10_init_5 (fun q1 m1 H hq1 hm1 hd1 hW hS => ?_)
  have hF := FS.keep hF hq1 hm1 (by decide)
  have hV := VS.keep hV hm1 (by decide)
  have hm := kept hm hm1 (by decide)
  have hq := kepq hq hq1 (by decide)
  rw [← hq1 24 (by decide)] at hl ⊢
  refine lv_dup hx hb dX10_init_8 rfl ?_
  refine lv_sipush (v := 264) hx hb dX10_init_9 (by decide) ?_
  refine g_In (n := 1) (o := 25) (rest := [.ref (q1 25), .ref (q1 24)]) hx hb hml hown hG hW hS hA hNW [.int (nI 264)] (kX2_init (o := 25) gk25 gk26 (n := 264) (by decide)) rfl gx80 gx50 gx47 gx51 rfl rfl (by decide) ⟨Nat.le_of_ble_eq_true rfl, Nat.le_of_ble_eq_true rfl⟩ rfl hl (Nat.le_of_ble_eq_true rfl) ⟨Nat.le_of_ble_eq_true rfl, Nat.le_of_ble_eq_true rfl⟩ dX10_init_12 (fun q2 m2 a2 H locs hp2 hW hS => ?_)
  obtain ⟨hq2, hm2, ha2, hF2, hR2, hV2⟩ := hp2
  have hF := FS.keep hF hq2 hm2 (by decide)
  have hV := VS.keep hV hm2 (by decide)
  have hm := kept hm hm2 (by decide)
  have hR := AS.keep hR ha2 (by decide)
  have ha := kept ha ha2 (by decide)
  have hq := kepq hq hq2 (by decide)
  have hF := hF2.app hF
  have hR := hR2.app hR
  have hV := hV2.app hV
  rw [← hq2 24 (by decide)] at hl ⊢
  rw [← hq2 25 (by decide)]
  refine gp10_1 hx hb hG hown hW hS (o := 24) (by decide) gk24 (v := q2 25) hin gx79 dX10_init_15 (fun m3 H locs hm3 ho3 hW hS => ?_)
  have hF := FS.put hF ho3 (by decide)
  have hV := VS.put hV ho3 (by decide)
  have hm := kepm hm ho3 (by decide)
  have hF := hF.cons hm3
  refine W.widen (k := 2) (n := 265) (Nat.le_of_ble_eq_true rfl) (Nat.le_of_ble_eq_true rfl) ?_
  exact hend q2 m3 a2 H locs _ ls hW hS ⟨hq, hm, ha, hF, hR, hV⟩ dX10_init_18
theorem dX1_init_0 : decode cX1_init 0 = .ok (.aload_n 0, 1) := by decide +kernel
theorem dX1_init_1 : decode cX1_init 1 = .ok (.invokespecial 3, 3) := by decide +kernel
theorem dX1_init_4 : decode cX1_init 4 = .ok (.aload_n 0, 1) := by decide +kernel
theorem dX1_init_5 : decode cX1_init 5 = .ok (.new 9, 3) := by decide +kernel
theorem dX1_init_8 : decode cX1_init 8 = .ok (.dup, 1) := by decide +kernel
theorem dX1_init_9 : decode cX1_init 9 = .ok (.sipush 6001, 3) := by decide +kernel
theorem dX1_init_12 : decode cX1_init 12 = .ok (.invokespecial 11, 3) := by decide +kernel
theorem dX1_init_15 : decode cX1_init 15 = .ok (.putfield 14, 3) := by decide +kernel
theorem dX1_init_18 : decode cX1_init 18 = .ok (.aload_n 0, 1) := by decide +kernel
theorem dX1_init_19 : decode cX1_init 19 = .ok (.new 20, 3) := by decide +kernel
theorem dX1_init_22 : decode cX1_init 22 = .ok (.dup, 1) := by decide +kernel
theorem dX1_init_23 : decode cX1_init 23 = .ok (.invokespecial 22, 3) := by decide +kernel
theorem dX1_init_26 : decode cX1_init 26 = .ok (.putfield 23, 3) := by decide +kernel
theorem dX1_init_29 : decode cX1_init 29 = .ok (.aload_n 0, 1) := by decide +kernel
theorem dX1_init_30 : decode cX1_init 30 = .ok (.new 9, 3) := by decide +kernel
theorem dX1_init_33 : decode cX1_init 33 = .ok (.dup, 1) := by decide +kernel
theorem dX1_init_34 : decode cX1_init 34 = .ok (.ldc 27, 2) := by decide +kernel
theorem dX1_init_36 : decode cX1_init 36 = .ok (.invokespecial 11, 3) := by decide +kernel
theorem dX1_init_39 : decode cX1_init 39 = .ok (.putfield 28, 3) := by decide +kernel
theorem dX1_init_42 : decode cX1_init 42 = .ok (.aload_n 0, 1) := by decide +kernel
theorem dX1_init_43 : decode cX1_init 43 = .ok (.new 9, 3) := by decide +kernel
theorem dX1_init_46 : decode cX1_init 46 = .ok (.dup, 1) := by decide +kernel
theorem dX1_init_47 : decode cX1_init 47 = .ok (.sipush 16384, 3) := by decide +kernel
theorem dX1_init_50 : decode cX1_init 50 = .ok (.invokespecial 11, 3) := by decide +kernel
theorem dX1_init_53 : decode cX1_init 53 = .ok (.putfield 31, 3) := by decide +kernel
theorem dX1_init_56 : decode cX1_init 56 = .ok (.aload_n 0, 1) := by decide +kernel
theorem dX1_init_57 : decode cX1_init 57 = .ok (.sipush 6000, 3) := by decide +kernel
theorem dX1_init_60 : decode cX1_init 60 = .ok (.newarray .long, 2) := by decide +kernel
theorem dX1_init_62 : decode cX1_init 62 = .ok (.putfield 34, 3) := by decide +kernel
theorem dX1_init_65 : decode cX1_init 65 = .ok (.return_, 1) := by decide +kernel
set_option maxHeartbeats 4000000 in
set_option maxRecDepth 100000 in
theorem kX1_init {l : Launch} {D : va_G} {cy : Nat → ClassId} {q : Nat → Nat} {m0 : Nat → Value} {a0 : Nat → vp_A} {sz : Nat} (hdef : ∀ j, j < 7 → m0 (100 * 28 + j) = vp_V [.null, .null, .int 0, .int 0, .null, .null, .null] j) : gMg l yX1_init cX1_init 1 ({ frames := 3, cells := 10, slots := 88402, locals := 62 } : Room) D cy 29 39 q m0 a0 sz [.ref (q 28)] 10 88402 (MK 28 29 q m0 a0 [(2806, 38), (2805, 36), (3600, 37), (2804, 34), (3400, 35), (2801, 31), (3100, 32), (3200, 33), (2800, 29), (2900, 30)] [(38, zJ 6000), (37, zI 16384), (35, zI 60000), (33, zI 10), (30, zI 6001)] [(3101, .int 0), (3102, .int 0), (2802, .int 0), (2803, .int 0)]) := by
  refine g_ofg (by decide) (Nat.le_of_ble_eq_true rfl) ?_
  intro p e s M args below meth c A hx hb hr hG hown hin hlocks hml hA hNW hW hS hend ls hl
  have hl : lv_has ls 1 [(0, .ref (q 28))] := hl
  have hV : VS [(2802, .int 0), (2803, .int 0)] m0 := ((VS.nil.cons (hdef 3 (by decide))).cons (hdef 2 (by decide)))
  have hF : FS [] q m0 := FS.nil
  have hR : AS [] a0 := AS.nil
  have hq : ∀ k, k < 29 → q k = q k := fun _ _ => rfl
  have hm : ∀ j, j < 100 * 28 → m0 j = m0 j := fun _ _ => rfl
  have ha : ∀ j, j < 29 → a0 j = a0 j := fun _ _ => rfl
  refine lv_aload_n hx hb dX1_init_0 rfl (lv_at hl 0 rfl) ?_
  refine W.objInit hx hb hown (hG _ gx107) (hG _ gx12) (hG _ gx13) rfl (by rw [hml]; exact hl.1) rfl dX1_init_1 (Nat.le_of_ble_eq_true rfl) (Nat.le_of_ble_eq_true rfl) ?_
  refine W.eq (g2 := F0 M 4 ls []) rfl ?_
  refine lv_aload_n hx hb dX1_init_4 rfl (lv_at hl 0 rfl) ?_
  refine g_new (C := RX2) (T := TX2) (n := 1) (ci := 2) (fs := [.null]) hx hb hG gm_wsX20 tyX2 tyX2_ok hown gx108 gx46 gx47 hW hS hA gk29 rfl (by decide) rfl rfl (fun j hj => by rcases (show j = 0 by omega) with rfl <;> rfl) (Nat.le_of_ble_eq_true rfl) (Nat.le_of_ble_eq_true rfl) dX1_init_5 (fun q1 m1 H hq1 hm1 hd1 hW hS => ?_)
  have hF := FS.keep hF hq1 hm1 (by decide)
  have hV := VS.keep hV hm1 (by decide)
  have hm := kept hm hm1 (by decide)
  have hq := kepq hq hq1 (by decide)
  rw [← hq1 28 (by decide)] at hl ⊢
  refine lv_dup hx hb dX1_init_8 rfl ?_
  refine lv_sipush (v := 6001) hx hb dX1_init_9 (by decide) ?_
  refine g_In (n := 1) (o := 29) (rest := [.ref (q1 29), .ref (q1 28)]) hx hb hml hown hG hW hS hA hNW [.int (nI 6001)] (kX2_init (o := 29) gk29 gk30 (n := 6001) (by decide)) rfl gx116 gx50 gx47 gx51 rfl rfl (by decide) ⟨Nat.le_of_ble_eq_true rfl, Nat.le_of_ble_eq_true rfl⟩ rfl hl (Nat.le_of_ble_eq_true rfl) ⟨Nat.le_of_ble_eq_true rfl, Nat.le_of_ble_eq_true rfl⟩ dX1_init_12 (fun q2 m2 a2 H locs hp2 hW hS => ?_)
  obtain ⟨hq2, hm2, ha2, hF2, hR2, hV2⟩ := hp2
  have hF := FS.keep hF hq2 hm2 (by decide)
  have hV := VS.keep hV hm2 (by decide)
  have hm := kept hm hm2 (by decide)
  have hR := AS.keep hR ha2 (by decide)
  have ha := kept ha ha2 (by decide)
  have hq := kepq hq hq2 (by decide)
  have hF := hF2.app hF
  have hR := hR2.app hR
  have hV := hV2.app hV
  rw [← hq2 28 (by decide)] at hl ⊢
  rw [← hq2 29 (by decide)]
  refine gp1_0 hx hb hG hown hW hS (o := 28) (by decide) gk28 (v := q2 29) hin gx109 dX1_init_15 (fun m3 H locs hm3 ho3 hW hS => ?_)
  have hF := FS.put hF ho3 (by decide)
  have hV := VS.put hV ho3 (by decide)
  have hm := kepm hm ho3 (by decide)
  have hF := hF.cons hm3
  refine lv_aload_n hx hb dX1_init_18 rfl (lv_at hl 0 rfl) ?_
  refine g_new (C := RX0) (T := TX0) (n := 3) (ci := 0) (fs := [.null, .int 0, .int 0]) hx hb hG gm_wsX00 tyX0 tyX0_ok hown gx110 gx22 gx23 hW hS hA gk31 rfl (by decide) rfl rfl (fun j hj => by rcases (show j = 0 ∨ j = 1 ∨ j = 2 by omega) with rfl | rfl | rfl <;> rfl) (Nat.le_of_ble_eq_true rfl) (Nat.le_of_ble_eq_true rfl) dX1_init_19 (fun q4 m4 H hq4 hm4 hd4 hW hS => ?_)
  have hF := FS.keep hF hq4 hm4 (by decide)
  have hV := VS.keep hV hm4 (by decide)
  have hm := kept hm hm4 (by decide)
  have hq := kepq hq hq4 (by decide)
  rw [← hq4 28 (by decide)] at hl ⊢
  refine lv_dup hx hb dX1_init_22 rfl ?_
  refine g_InN (n := 0) (o := 31) (rest := [.ref (q4 31), .ref (q4 28)]) hx hb hml hown hG hW hS hA hNW [] (kX0_init_31 hd4) rfl (List.mem_of_getElem? (i := 6) rfl) gx58 gx23 gx59 rfl rfl (by decide) ⟨Nat.le_of_ble_eq_true rfl, Nat.le_of_ble_eq_true rfl⟩ rfl hl (Nat.le_of_ble_eq_true rfl) ⟨Nat.le_of_ble_eq_true rfl, Nat.le_of_ble_eq_true rfl⟩ dX1_init_23 (fun q5 m5 a5 H locs hp5 hW hS => ?_)
  obtain ⟨hq5, hm5, ha5, hF5, hR5, hV5⟩ := hp5
  have hF := FS.keep hF hq5 hm5 (by decide)
  have hV := VS.keep hV hm5 (by decide)
  have hm := kept hm hm5 (by decide)
  have hR := AS.keep hR ha5 (by decide)
  have ha := kept ha ha5 (by decide)
  have hq := kepq hq hq5 (by decide)
  have hF := hF5.app hF
  have hR := hR5.app hR
  have hV := hV5.app hV
  rw [← hq5 28 (by decide)] at hl ⊢
  rw [← hq5 31 (by decide)]
  refine gp1_1 hx hb hG hown hW hS (o := 28) (by decide) gk28 (v := q5 31) hin gx111 dX1_init_26 (fun m6 H locs hm6 ho6 hW hS => ?_)
  have hF := FS.put hF ho6 (by decide)
  have hV := VS.put hV ho6 (by decide)
  have hm := kepm hm ho6 (by decide)
  have hF := hF.cons hm6
  refine lv_aload_n hx hb dX1_init_29 rfl (lv_at hl 0 rfl) ?_
  refine g_new (C := RX2) (T := TX2) (n := 1) (ci := 2) (fs := [.null]) hx hb hG gm_wsX20 tyX2 tyX2_ok hown gx108 gx46 gx47 hW hS hA gk34 rfl (by decide) rfl rfl (fun j hj => by rcases (show j = 0 by omega) with rfl <;> rfl) (Nat.le_of_ble_eq_true rfl) (Nat.le_of_ble_eq_true rfl) dX1_init_30 (fun q7 m7 H hq7 hm7 hd7 hW hS => ?_)
  have hF := FS.keep hF hq7 hm7 (by decide)
  have hV := VS.keep hV hm7 (by decide)
  have hm := kept hm hm7 (by decide)
  have hq := kepq hq hq7 (by decide)
  rw [← hq7 28 (by decide)] at hl ⊢
  refine lv_dup hx hb dX1_init_33 rfl ?_
  refine lv_ldc (v := 60000) hx hb hown (hG _ gx112) dX1_init_34 ?_
  refine g_In (n := 1) (o := 34) (rest := [.ref (q7 34), .ref (q7 28)]) hx hb hml hown hG hW hS hA hNW [.int (nI 60000)] (kX2_init (o := 34) gk34 gk35 (n := 60000) (by decide)) rfl gx116 gx50 gx47 gx51 rfl rfl (by decide) ⟨Nat.le_of_ble_eq_true rfl, Nat.le_of_ble_eq_true rfl⟩ rfl hl (Nat.le_of_ble_eq_true rfl) ⟨Nat.le_of_ble_eq_true rfl, Nat.le_of_ble_eq_true rfl⟩ dX1_init_36 (fun q8 m8 a8 H locs hp8 hW hS => ?_)
  obtain ⟨hq8, hm8, ha8, hF8, hR8, hV8⟩ := hp8
  have hF := FS.keep hF hq8 hm8 (by decide)
  have hV := VS.keep hV hm8 (by decide)
  have hm := kept hm hm8 (by decide)
  have hR := AS.keep hR ha8 (by decide)
  have ha := kept ha ha8 (by decide)
  have hq := kepq hq hq8 (by decide)
  have hF := hF8.app hF
  have hR := hR8.app hR
  have hV := hV8.app hV
  rw [← hq8 28 (by decide)] at hl ⊢
  rw [← hq8 34 (by decide)]
  refine gp1_4 hx hb hG hown hW hS (o := 28) (by decide) gk28 (v := q8 34) hin gx113 dX1_init_39 (fun m9 H locs hm9 ho9 hW hS => ?_)
  have hF := FS.put hF ho9 (by decide)
  have hV := VS.put hV ho9 (by decide)
  have hm := kepm hm ho9 (by decide)
  have hF := hF.cons hm9
  refine lv_aload_n hx hb dX1_init_42 rfl (lv_at hl 0 rfl) ?_
  refine g_new (C := RX2) (T := TX2) (n := 1) (ci := 2) (fs := [.null]) hx hb hG gm_wsX20 tyX2 tyX2_ok hown gx108 gx46 gx47 hW hS hA gk36 rfl (by decide) rfl rfl (fun j hj => by rcases (show j = 0 by omega) with rfl <;> rfl) (Nat.le_of_ble_eq_true rfl) (Nat.le_of_ble_eq_true rfl) dX1_init_43 (fun q10 m10 H hq10 hm10 hd10 hW hS => ?_)
  have hF := FS.keep hF hq10 hm10 (by decide)
  have hV := VS.keep hV hm10 (by decide)
  have hm := kept hm hm10 (by decide)
  have hq := kepq hq hq10 (by decide)
  rw [← hq10 28 (by decide)] at hl ⊢
  refine lv_dup hx hb dX1_init_46 rfl ?_
  refine lv_sipush (v := 16384) hx hb dX1_init_47 (by decide) ?_
  refine g_In (n := 1) (o := 36) (rest := [.ref (q10 36), .ref (q10 28)]) hx hb hml hown hG hW hS hA hNW [.int (nI 16384)] (kX2_init (o := 36) gk36 gk37 (n := 16384) (by decide)) rfl gx116 gx50 gx47 gx51 rfl rfl (by decide) ⟨Nat.le_of_ble_eq_true rfl, Nat.le_of_ble_eq_true rfl⟩ rfl hl (Nat.le_of_ble_eq_true rfl) ⟨Nat.le_of_ble_eq_true rfl, Nat.le_of_ble_eq_true rfl⟩ dX1_init_50 (fun q11 m11 a11 H locs hp11 hW hS => ?_)
  obtain ⟨hq11, hm11, ha11, hF11, hR11, hV11⟩ := hp11
  have hF := FS.keep hF hq11 hm11 (by decide)
  have hV := VS.keep hV hm11 (by decide)
  have hm := kept hm hm11 (by decide)
  have hR := AS.keep hR ha11 (by decide)
  have ha := kept ha ha11 (by decide)
  have hq := kepq hq hq11 (by decide)
  have hF := hF11.app hF
  have hR := hR11.app hR
  have hV := hV11.app hV
  rw [← hq11 28 (by decide)] at hl ⊢
  rw [← hq11 36 (by decide)]
  refine gp1_5 hx hb hG hown hW hS (o := 28) (by decide) gk28 (v := q11 36) hin gx114 dX1_init_53 (fun m12 H locs hm12 ho12 hW hS => ?_)
  have hF := FS.put hF ho12 (by decide)
  have hV := VS.put hV ho12 (by decide)
  have hm := kepm hm ho12 (by decide)
  have hF := hF.cons hm12
  refine lv_aload_n hx hb dX1_init_56 rfl (lv_at hl 0 rfl) ?_
  refine lv_sipush (v := 6000) hx hb dX1_init_57 (by decide) ?_
  refine g_newa (ty := .long) (t := 2) (N' := 6000) (a0 := zJ 6000) hx hb rfl hG gx6 hW hS hA gk38 rfl (fun _ _ => rfl) (fun cA => rfl) (by decide) (by decide) (by decide) (Nat.le_of_ble_eq_true rfl) (Nat.le_of_ble_eq_true rfl) dX1_init_60 (fun q13 a13 H hq13 ha13 han13 hW hS => ?_)
  have hF := FS.keep (m' := _) (B := 100 * 38) hF hq13 (fun _ _ => rfl) (by decide)
  have hR := AS.keep hR ha13 (by decide)
  have ha := kept ha ha13 (by decide)
  have hq := kepq hq hq13 (by decide)
  rw [← hq13 28 (by decide)] at hl ⊢
  have hR := hR.cons han13
  refine gp1_6 hx hb hG hown hW hS (o := 28) (by decide) gk28 (v := q13 38) hin gx115 dX1_init_62 (fun m14 H locs hm14 ho14 hW hS => ?_)
  have hF := FS.put hF ho14 (by decide)
  have hV := VS.put hV ho14 (by decide)
  have hm := kepm hm ho14 (by decide)
  have hF := hF.cons hm14
  refine W.widen (k := 10) (n := 88402) (Nat.le_of_ble_eq_true rfl) (Nat.le_of_ble_eq_true rfl) ?_
  exact hend q13 m14 a13 H locs _ ls hW hS ⟨hq, hm, ha, hF, hR, hV⟩ dX1_init_65
theorem dX3_init_0 : decode cX3_init 0 = .ok (.aload_n 0, 1) := by decide +kernel
theorem dX3_init_1 : decode cX3_init 1 = .ok (.invokespecial 3, 3) := by decide +kernel
theorem dX3_init_4 : decode cX3_init 4 = .ok (.aload_n 0, 1) := by decide +kernel
theorem dX3_init_5 : decode cX3_init 5 = .ok (.sipush 6000, 3) := by decide +kernel
theorem dX3_init_8 : decode cX3_init 8 = .ok (.newarray .double, 2) := by decide +kernel
theorem dX3_init_10 : decode cX3_init 10 = .ok (.putfield 9, 3) := by decide +kernel
theorem dX3_init_13 : decode cX3_init 13 = .ok (.aload_n 0, 1) := by decide +kernel
theorem dX3_init_14 : decode cX3_init 14 = .ok (.sipush 6000, 3) := by decide +kernel
theorem dX3_init_17 : decode cX3_init 17 = .ok (.newarray .double, 2) := by decide +kernel
theorem dX3_init_19 : decode cX3_init 19 = .ok (.putfield 15, 3) := by decide +kernel
theorem dX3_init_22 : decode cX3_init 22 = .ok (.return_, 1) := by decide +kernel
set_option maxHeartbeats 4000000 in
set_option maxRecDepth 100000 in
theorem kX3_init {l : Launch} {D : va_G} {cy : Nat → ClassId} {q : Nat → Nat} {m0 : Nat → Value} {a0 : Nat → vp_A} {sz : Nat} (hdef : ∀ j, j < 2 → m0 (100 * 39 + j) = vp_V [.null, .null] j) : gMg l yX3_init cX3_init 1 ({ frames := 1, cells := 2, slots := 12000, locals := 20 } : Room) D cy 40 42 q m0 a0 sz [.ref (q 39)] 2 12000 (MK 39 40 q m0 a0 [(3901, 41), (3900, 40)] [(41, zD 6000), (40, zD 6000)] []) := by
  refine g_ofg (by decide) (Nat.le_of_ble_eq_true rfl) ?_
  intro p e s M args below meth c A hx hb hr hG hown hin hlocks hml hA hNW hW hS hend ls hl
  have hl : lv_has ls 1 [(0, .ref (q 39))] := hl
  have hV : VS [] m0 := VS.nil
  have hF : FS [] q m0 := FS.nil
  have hR : AS [] a0 := AS.nil
  have hq : ∀ k, k < 40 → q k = q k := fun _ _ => rfl
  have hm : ∀ j, j < 100 * 39 → m0 j = m0 j := fun _ _ => rfl
  have ha : ∀ j, j < 40 → a0 j = a0 j := fun _ _ => rfl
  refine lv_aload_n hx hb dX3_init_0 rfl (lv_at hl 0 rfl) ?_
  refine W.objInit hx hb hown (hG _ gx119) (hG _ gx12) (hG _ gx13) rfl (by rw [hml]; exact hl.1) rfl dX3_init_1 (Nat.le_of_ble_eq_true rfl) (Nat.le_of_ble_eq_true rfl) ?_
  refine W.eq (g2 := F0 M 4 ls []) rfl ?_
  refine lv_aload_n hx hb dX3_init_4 rfl (lv_at hl 0 rfl) ?_
  refine lv_sipush (v := 6000) hx hb dX3_init_5 (by decide) ?_
  refine g_newa (ty := .double) (t := 0) (N' := 6000) (a0 := zD 6000) hx hb rfl hG gx120 hW hS hA gk40 rfl (fun _ _ => rfl) (fun cA => rfl) (by decide) (by decide) (by decide) (Nat.le_of_ble_eq_true rfl) (Nat.le_of_ble_eq_true rfl) dX3_init_8 (fun q1 a1 H hq1 ha1 han1 hW hS => ?_)
  have hF := FS.keep (m' := _) (B := 100 * 40) hF hq1 (fun _ _ => rfl) (by decide)
  have hR := AS.keep hR ha1 (by decide)
  have ha := kept ha ha1 (by decide)
  have hq := kepq hq hq1 (by decide)
  rw [← hq1 39 (by decide)] at hl ⊢
  have hR := hR.cons han1
  refine gp3_0 hx hb hG hown hW hS (o := 39) (by decide) gk39 (v := q1 40) gx121 dX3_init_10 (fun m2 H locs hm2 ho2 hW hS => ?_)
  have hF : FS [] q1 m2 := FS.nil
  have hV : VS [] m2 := VS.nil
  have hm := kepm hm ho2 (by decide)
  have hF := hF.cons hm2
  refine lv_aload_n hx hb dX3_init_13 rfl (lv_at hl 0 rfl) ?_
  refine lv_sipush (v := 6000) hx hb dX3_init_14 (by decide) ?_
  refine g_newa (ty := .double) (t := 0) (N' := 6000) (a0 := zD 6000) hx hb rfl hG gx120 hW hS hA gk41 rfl (fun _ _ => rfl) (fun cA => rfl) (by decide) (by decide) (by decide) (Nat.le_of_ble_eq_true rfl) (Nat.le_of_ble_eq_true rfl) dX3_init_17 (fun q3 a3 H hq3 ha3 han3 hW hS => ?_)
  have hF := FS.keep (m' := _) (B := 100 * 41) hF hq3 (fun _ _ => rfl) (by decide)
  have hR := AS.keep hR ha3 (by decide)
  have ha := kept ha ha3 (by decide)
  have hq := kepq hq hq3 (by decide)
  rw [← hq3 39 (by decide)] at hl ⊢
  have hR := hR.cons han3
  refine gp3_1 hx hb hG hown hW hS (o := 39) (by decide) gk39 (v := q3 41) gx122 dX3_init_19 (fun m4 H locs hm4 ho4 hW hS => ?_)
  have hF := FS.put hF ho4 (by decide)
  have hV : VS [] m4 := VS.nil
  have hm := kepm hm ho4 (by decide)
  have hF := hF.cons hm4
  refine W.widen (k := 2) (n := 12000) (Nat.le_of_ble_eq_true rfl) (Nat.le_of_ble_eq_true rfl) ?_
  exact hend q3 m4 a3 H locs _ ls hW hS ⟨hq, hm, ha, hF, hR, hV⟩ dX3_init_22
theorem dX4_init_0 : decode cX4_init 0 = .ok (.aload_n 0, 1) := by decide +kernel
theorem dX4_init_1 : decode cX4_init 1 = .ok (.invokespecial 3, 3) := by decide +kernel
theorem dX4_init_4 : decode cX4_init 4 = .ok (.aload_n 0, 1) := by decide +kernel
theorem dX4_init_5 : decode cX4_init 5 = .ok (.new 9, 3) := by decide +kernel
theorem dX4_init_8 : decode cX4_init 8 = .ok (.dup, 1) := by decide +kernel
theorem dX4_init_9 : decode cX4_init 9 = .ok (.sipush 6000, 3) := by decide +kernel
theorem dX4_init_12 : decode cX4_init 12 = .ok (.invokespecial 11, 3) := by decide +kernel
theorem dX4_init_15 : decode cX4_init 15 = .ok (.putfield 14, 3) := by decide +kernel
theorem dX4_init_18 : decode cX4_init 18 = .ok (.aload_n 0, 1) := by decide +kernel
theorem dX4_init_19 : decode cX4_init 19 = .ok (.new 9, 3) := by decide +kernel
theorem dX4_init_22 : decode cX4_init 22 = .ok (.dup, 1) := by decide +kernel
theorem dX4_init_23 : decode cX4_init 23 = .ok (.sipush 6000, 3) := by decide +kernel
theorem dX4_init_26 : decode cX4_init 26 = .ok (.invokespecial 11, 3) := by decide +kernel
theorem dX4_init_29 : decode cX4_init 29 = .ok (.putfield 20, 3) := by decide +kernel
theorem dX4_init_32 : decode cX4_init 32 = .ok (.aload_n 0, 1) := by decide +kernel
theorem dX4_init_33 : decode cX4_init 33 = .ok (.new 9, 3) := by decide +kernel
theorem dX4_init_36 : decode cX4_init 36 = .ok (.dup, 1) := by decide +kernel
theorem dX4_init_37 : decode cX4_init 37 = .ok (.sipush 6000, 3) := by decide +kernel
theorem dX4_init_40 : decode cX4_init 40 = .ok (.invokespecial 11, 3) := by decide +kernel
theorem dX4_init_43 : decode cX4_init 43 = .ok (.putfield 23, 3) := by decide +kernel
theorem dX4_init_46 : decode cX4_init 46 = .ok (.aload_n 0, 1) := by decide +kernel
theorem dX4_init_47 : decode cX4_init 47 = .ok (.new 9, 3) := by decide +kernel
theorem dX4_init_50 : decode cX4_init 50 = .ok (.dup, 1) := by decide +kernel
theorem dX4_init_51 : decode cX4_init 51 = .ok (.sipush 6000, 3) := by decide +kernel
theorem dX4_init_54 : decode cX4_init 54 = .ok (.invokespecial 11, 3) := by decide +kernel
theorem dX4_init_57 : decode cX4_init 57 = .ok (.putfield 26, 3) := by decide +kernel
theorem dX4_init_60 : decode cX4_init 60 = .ok (.aload_n 0, 1) := by decide +kernel
theorem dX4_init_61 : decode cX4_init 61 = .ok (.new 9, 3) := by decide +kernel
theorem dX4_init_64 : decode cX4_init 64 = .ok (.dup, 1) := by decide +kernel
theorem dX4_init_65 : decode cX4_init 65 = .ok (.sipush 6000, 3) := by decide +kernel
theorem dX4_init_68 : decode cX4_init 68 = .ok (.invokespecial 11, 3) := by decide +kernel
theorem dX4_init_71 : decode cX4_init 71 = .ok (.putfield 29, 3) := by decide +kernel
theorem dX4_init_74 : decode cX4_init 74 = .ok (.aload_n 0, 1) := by decide +kernel
theorem dX4_init_75 : decode cX4_init 75 = .ok (.new 9, 3) := by decide +kernel
theorem dX4_init_78 : decode cX4_init 78 = .ok (.dup, 1) := by decide +kernel
theorem dX4_init_79 : decode cX4_init 79 = .ok (.sipush 6000, 3) := by decide +kernel
theorem dX4_init_82 : decode cX4_init 82 = .ok (.invokespecial 11, 3) := by decide +kernel
theorem dX4_init_85 : decode cX4_init 85 = .ok (.putfield 32, 3) := by decide +kernel
theorem dX4_init_88 : decode cX4_init 88 = .ok (.return_, 1) := by decide +kernel
set_option maxHeartbeats 4000000 in
set_option maxRecDepth 100000 in
theorem kX4_init {l : Launch} {D : va_G} {cy : Nat → ClassId} {q : Nat → Nat} {m0 : Nat → Value} {a0 : Nat → vp_A} {sz : Nat} (hdef : ∀ j, j < 8 → m0 (100 * 42 + j) = vp_V [.null, .null, .null, .null, .null, .null, .int 0, .int 0] j) : gMg l yX4_init cX4_init 1 ({ frames := 2, cells := 12, slots := 36006, locals := 42 } : Room) D cy 43 55 q m0 a0 sz [.ref (q 42)] 12 36006 (MK 42 43 q m0 a0 [(4205, 53), (5300, 54), (4204, 51), (5100, 52), (4203, 49), (4900, 50), (4202, 47), (4700, 48), (4201, 45), (4500, 46), (4200, 43), (4300, 44)] [(54, zI 6000), (52, zI 6000), (50, zI 6000), (48, zI 6000), (46, zI 6000), (44, zI 6000)] [(4206, .int 0), (4207, .int 0)]) := by
  refine g_ofg (by decide) (Nat.le_of_ble_eq_true rfl) ?_
  intro p e s M args below meth c A hx hb hr hG hown hin hlocks hml hA hNW hW hS hend ls hl
  have hl : lv_has ls 1 [(0, .ref (q 42))] := hl
  have hV : VS [(4206, .int 0), (4207, .int 0)] m0 := ((VS.nil.cons (hdef 7 (by decide))).cons (hdef 6 (by decide)))
  have hF : FS [] q m0 := FS.nil
  have hR : AS [] a0 := AS.nil
  have hq : ∀ k, k < 43 → q k = q k := fun _ _ => rfl
  have hm : ∀ j, j < 100 * 42 → m0 j = m0 j := fun _ _ => rfl
  have ha : ∀ j, j < 43 → a0 j = a0 j := fun _ _ => rfl
  refine lv_aload_n hx hb dX4_init_0 rfl (lv_at hl 0 rfl) ?_
  refine W.objInit hx hb hown (hG _ gx125) (hG _ gx12) (hG _ gx13) rfl (by rw [hml]; exact hl.1) rfl dX4_init_1 (Nat.le_of_ble_eq_true rfl) (Nat.le_of_ble_eq_true rfl) ?_
  refine W.eq (g2 := F0 M 4 ls []) rfl ?_
  refine lv_aload_n hx hb dX4_init_4 rfl (lv_at hl 0 rfl) ?_
  refine g_new (C := RX2) (T := TX2) (n := 1) (ci := 2) (fs := [.null]) hx hb hG gm_wsX20 tyX2 tyX2_ok hown gx126 gx46 gx47 hW hS hA gk43 rfl (by decide) rfl rfl (fun j hj => by rcases (show j = 0 by omega) with rfl <;> rfl) (Nat.le_of_ble_eq_true rfl) (Nat.le_of_ble_eq_true rfl) dX4_init_5 (fun q1 m1 H hq1 hm1 hd1 hW hS => ?_)
  have hF := FS.keep hF hq1 hm1 (by decide)
  have hV := VS.keep hV hm1 (by decide)
  have hm := kept hm hm1 (by decide)
  have hq := kepq hq hq1 (by decide)
  rw [← hq1 42 (by decide)] at hl ⊢
  refine lv_dup hx hb dX4_init_8 rfl ?_
  refine lv_sipush (v := 6000) hx hb dX4_init_9 (by decide) ?_
  refine g_In (n := 1) (o := 43) (rest := [.ref (q1 43), .ref (q1 42)]) hx hb hml hown hG hW hS hA hNW [.int (nI 6000)] (kX2_init (o := 43) gk43 gk44 (n := 6000) (by decide)) rfl gx133 gx50 gx47 gx51 rfl rfl (by decide) ⟨Nat.le_of_ble_eq_true rfl, Nat.le_of_ble_eq_true rfl⟩ rfl hl (Nat.le_of_ble_eq_true rfl) ⟨Nat.le_of_ble_eq_true rfl, Nat.le_of_ble_eq_true rfl⟩ dX4_init_12 (fun q2 m2 a2 H locs hp2 hW hS => ?_)
  obtain ⟨hq2, hm2, ha2, hF2, hR2, hV2⟩ := hp2
  have hF := FS.keep hF hq2 hm2 (by decide)
  have hV := VS.keep hV hm2 (by decide)
  have hm := kept hm hm2 (by decide)
  have hR := AS.keep hR ha2 (by decide)
  have ha := kept ha ha2 (by decide)
  have hq := kepq hq hq2 (by decide)
  have hF := hF2.app hF
  have hR := hR2.app hR
  have hV := hV2.app hV
  rw [← hq2 42 (by decide)] at hl ⊢
  rw [← hq2 43 (by decide)]
  refine gp4_0 hx hb hG hown hW hS (o := 42) (by decide) gk42 (v := q2 43) hin gx127 dX4_init_15 (fun m3 H locs hm3 ho3 hW hS => ?_)
  have hF := FS.put hF ho3 (by decide)
  have hV := VS.put hV ho3 (by decide)
  have hm := kepm hm ho3 (by decide)
  have hF := hF.cons hm3
  refine lv_aload_n hx hb dX4_init_18 rfl (lv_at hl 0 rfl) ?_
  refine g_new (C := RX2) (T := TX2) (n := 1) (ci := 2) (fs := [.null]) hx hb hG gm_wsX20 tyX2 tyX2_ok hown gx126 gx46 gx47 hW hS hA gk45 rfl (by decide) rfl rfl (fun j hj => by rcases (show j = 0 by omega) with rfl <;> rfl) (Nat.le_of_ble_eq_true rfl) (Nat.le_of_ble_eq_true rfl) dX4_init_19 (fun q4 m4 H hq4 hm4 hd4 hW hS => ?_)
  have hF := FS.keep hF hq4 hm4 (by decide)
  have hV := VS.keep hV hm4 (by decide)
  have hm := kept hm hm4 (by decide)
  have hq := kepq hq hq4 (by decide)
  rw [← hq4 42 (by decide)] at hl ⊢
  refine lv_dup hx hb dX4_init_22 rfl ?_
  refine lv_sipush (v := 6000) hx hb dX4_init_23 (by decide) ?_
  refine g_In (n := 1) (o := 45) (rest := [.ref (q4 45), .ref (q4 42)]) hx hb hml hown hG hW hS hA hNW [.int (nI 6000)] (kX2_init (o := 45) gk45 gk46 (n := 6000) (by decide)) rfl gx133 gx50 gx47 gx51 rfl rfl (by decide) ⟨Nat.le_of_ble_eq_true rfl, Nat.le_of_ble_eq_true rfl⟩ rfl hl (Nat.le_of_ble_eq_true rfl) ⟨Nat.le_of_ble_eq_true rfl, Nat.le_of_ble_eq_true rfl⟩ dX4_init_26 (fun q5 m5 a5 H locs hp5 hW hS => ?_)
  obtain ⟨hq5, hm5, ha5, hF5, hR5, hV5⟩ := hp5
  have hF := FS.keep hF hq5 hm5 (by decide)
  have hV := VS.keep hV hm5 (by decide)
  have hm := kept hm hm5 (by decide)
  have hR := AS.keep hR ha5 (by decide)
  have ha := kept ha ha5 (by decide)
  have hq := kepq hq hq5 (by decide)
  have hF := hF5.app hF
  have hR := hR5.app hR
  have hV := hV5.app hV
  rw [← hq5 42 (by decide)] at hl ⊢
  rw [← hq5 45 (by decide)]
  refine gp4_1 hx hb hG hown hW hS (o := 42) (by decide) gk42 (v := q5 45) hin gx128 dX4_init_29 (fun m6 H locs hm6 ho6 hW hS => ?_)
  have hF := FS.put hF ho6 (by decide)
  have hV := VS.put hV ho6 (by decide)
  have hm := kepm hm ho6 (by decide)
  have hF := hF.cons hm6
  refine lv_aload_n hx hb dX4_init_32 rfl (lv_at hl 0 rfl) ?_
  refine g_new (C := RX2) (T := TX2) (n := 1) (ci := 2) (fs := [.null]) hx hb hG gm_wsX20 tyX2 tyX2_ok hown gx126 gx46 gx47 hW hS hA gk47 rfl (by decide) rfl rfl (fun j hj => by rcases (show j = 0 by omega) with rfl <;> rfl) (Nat.le_of_ble_eq_true rfl) (Nat.le_of_ble_eq_true rfl) dX4_init_33 (fun q7 m7 H hq7 hm7 hd7 hW hS => ?_)
  have hF := FS.keep hF hq7 hm7 (by decide)
  have hV := VS.keep hV hm7 (by decide)
  have hm := kept hm hm7 (by decide)
  have hq := kepq hq hq7 (by decide)
  rw [← hq7 42 (by decide)] at hl ⊢
  refine lv_dup hx hb dX4_init_36 rfl ?_
  refine lv_sipush (v := 6000) hx hb dX4_init_37 (by decide) ?_
  refine g_In (n := 1) (o := 47) (rest := [.ref (q7 47), .ref (q7 42)]) hx hb hml hown hG hW hS hA hNW [.int (nI 6000)] (kX2_init (o := 47) gk47 gk48 (n := 6000) (by decide)) rfl gx133 gx50 gx47 gx51 rfl rfl (by decide) ⟨Nat.le_of_ble_eq_true rfl, Nat.le_of_ble_eq_true rfl⟩ rfl hl (Nat.le_of_ble_eq_true rfl) ⟨Nat.le_of_ble_eq_true rfl, Nat.le_of_ble_eq_true rfl⟩ dX4_init_40 (fun q8 m8 a8 H locs hp8 hW hS => ?_)
  obtain ⟨hq8, hm8, ha8, hF8, hR8, hV8⟩ := hp8
  have hF := FS.keep hF hq8 hm8 (by decide)
  have hV := VS.keep hV hm8 (by decide)
  have hm := kept hm hm8 (by decide)
  have hR := AS.keep hR ha8 (by decide)
  have ha := kept ha ha8 (by decide)
  have hq := kepq hq hq8 (by decide)
  have hF := hF8.app hF
  have hR := hR8.app hR
  have hV := hV8.app hV
  rw [← hq8 42 (by decide)] at hl ⊢
  rw [← hq8 47 (by decide)]
  refine gp4_2 hx hb hG hown hW hS (o := 42) (by decide) gk42 (v := q8 47) hin gx129 dX4_init_43 (fun m9 H locs hm9 ho9 hW hS => ?_)
  have hF := FS.put hF ho9 (by decide)
  have hV := VS.put hV ho9 (by decide)
  have hm := kepm hm ho9 (by decide)
  have hF := hF.cons hm9
  refine lv_aload_n hx hb dX4_init_46 rfl (lv_at hl 0 rfl) ?_
  refine g_new (C := RX2) (T := TX2) (n := 1) (ci := 2) (fs := [.null]) hx hb hG gm_wsX20 tyX2 tyX2_ok hown gx126 gx46 gx47 hW hS hA gk49 rfl (by decide) rfl rfl (fun j hj => by rcases (show j = 0 by omega) with rfl <;> rfl) (Nat.le_of_ble_eq_true rfl) (Nat.le_of_ble_eq_true rfl) dX4_init_47 (fun q10 m10 H hq10 hm10 hd10 hW hS => ?_)
  have hF := FS.keep hF hq10 hm10 (by decide)
  have hV := VS.keep hV hm10 (by decide)
  have hm := kept hm hm10 (by decide)
  have hq := kepq hq hq10 (by decide)
  rw [← hq10 42 (by decide)] at hl ⊢
  refine lv_dup hx hb dX4_init_50 rfl ?_
  refine lv_sipush (v := 6000) hx hb dX4_init_51 (by decide) ?_
  refine g_In (n := 1) (o := 49) (rest := [.ref (q10 49), .ref (q10 42)]) hx hb hml hown hG hW hS hA hNW [.int (nI 6000)] (kX2_init (o := 49) gk49 gk50 (n := 6000) (by decide)) rfl gx133 gx50 gx47 gx51 rfl rfl (by decide) ⟨Nat.le_of_ble_eq_true rfl, Nat.le_of_ble_eq_true rfl⟩ rfl hl (Nat.le_of_ble_eq_true rfl) ⟨Nat.le_of_ble_eq_true rfl, Nat.le_of_ble_eq_true rfl⟩ dX4_init_54 (fun q11 m11 a11 H locs hp11 hW hS => ?_)
  obtain ⟨hq11, hm11, ha11, hF11, hR11, hV11⟩ := hp11
  have hF := FS.keep hF hq11 hm11 (by decide)
  have hV := VS.keep hV hm11 (by decide)
  have hm := kept hm hm11 (by decide)
  have hR := AS.keep hR ha11 (by decide)
  have ha := kept ha ha11 (by decide)
  have hq := kepq hq hq11 (by decide)
  have hF := hF11.app hF
  have hR := hR11.app hR
  have hV := hV11.app hV
  rw [← hq11 42 (by decide)] at hl ⊢
  rw [← hq11 49 (by decide)]
  refine gp4_3 hx hb hG hown hW hS (o := 42) (by decide) gk42 (v := q11 49) hin gx130 dX4_init_57 (fun m12 H locs hm12 ho12 hW hS => ?_)
  have hF := FS.put hF ho12 (by decide)
  have hV := VS.put hV ho12 (by decide)
  have hm := kepm hm ho12 (by decide)
  have hF := hF.cons hm12
  refine lv_aload_n hx hb dX4_init_60 rfl (lv_at hl 0 rfl) ?_
  refine g_new (C := RX2) (T := TX2) (n := 1) (ci := 2) (fs := [.null]) hx hb hG gm_wsX20 tyX2 tyX2_ok hown gx126 gx46 gx47 hW hS hA gk51 rfl (by decide) rfl rfl (fun j hj => by rcases (show j = 0 by omega) with rfl <;> rfl) (Nat.le_of_ble_eq_true rfl) (Nat.le_of_ble_eq_true rfl) dX4_init_61 (fun q13 m13 H hq13 hm13 hd13 hW hS => ?_)
  have hF := FS.keep hF hq13 hm13 (by decide)
  have hV := VS.keep hV hm13 (by decide)
  have hm := kept hm hm13 (by decide)
  have hq := kepq hq hq13 (by decide)
  rw [← hq13 42 (by decide)] at hl ⊢
  refine lv_dup hx hb dX4_init_64 rfl ?_
  refine lv_sipush (v := 6000) hx hb dX4_init_65 (by decide) ?_
  refine g_In (n := 1) (o := 51) (rest := [.ref (q13 51), .ref (q13 42)]) hx hb hml hown hG hW hS hA hNW [.int (nI 6000)] (kX2_init (o := 51) gk51 gk52 (n := 6000) (by decide)) rfl gx133 gx50 gx47 gx51 rfl rfl (by decide) ⟨Nat.le_of_ble_eq_true rfl, Nat.le_of_ble_eq_true rfl⟩ rfl hl (Nat.le_of_ble_eq_true rfl) ⟨Nat.le_of_ble_eq_true rfl, Nat.le_of_ble_eq_true rfl⟩ dX4_init_68 (fun q14 m14 a14 H locs hp14 hW hS => ?_)
  obtain ⟨hq14, hm14, ha14, hF14, hR14, hV14⟩ := hp14
  have hF := FS.keep hF hq14 hm14 (by decide)
  have hV := VS.keep hV hm14 (by decide)
  have hm := kept hm hm14 (by decide)
  have hR := AS.keep hR ha14 (by decide)
  have ha := kept ha ha14 (by decide)
  have hq := kepq hq hq14 (by decide)
  have hF := hF14.app hF
  have hR := hR14.app hR
  have hV := hV14.app hV
  rw [← hq14 42 (by decide)] at hl ⊢
  rw [← hq14 51 (by decide)]
  refine gp4_4 hx hb hG hown hW hS (o := 42) (by decide) gk42 (v := q14 51) hin gx131 dX4_init_71 (fun m15 H locs hm15 ho15 hW hS => ?_)
  have hF := FS.put hF ho15 (by decide)
  have hV := VS.put hV ho15 (by decide)
  have hm := kepm hm ho15 (by decide)
  have hF := hF.cons hm15
  refine lv_aload_n hx hb dX4_init_74 rfl (lv_at hl 0 rfl) ?_
  refine g_new (C := RX2) (T := TX2) (n := 1) (ci := 2) (fs := [.null]) hx hb hG gm_wsX20 tyX2 tyX2_ok hown gx126 gx46 gx47 hW hS hA gk53 rfl (by decide) rfl rfl (fun j hj => by rcases (show j = 0 by omega) with rfl <;> rfl) (Nat.le_of_ble_eq_true rfl) (Nat.le_of_ble_eq_true rfl) dX4_init_75 (fun q16 m16 H hq16 hm16 hd16 hW hS => ?_)
  have hF := FS.keep hF hq16 hm16 (by decide)
  have hV := VS.keep hV hm16 (by decide)
  have hm := kept hm hm16 (by decide)
  have hq := kepq hq hq16 (by decide)
  rw [← hq16 42 (by decide)] at hl ⊢
  refine lv_dup hx hb dX4_init_78 rfl ?_
  refine lv_sipush (v := 6000) hx hb dX4_init_79 (by decide) ?_
  refine g_In (n := 1) (o := 53) (rest := [.ref (q16 53), .ref (q16 42)]) hx hb hml hown hG hW hS hA hNW [.int (nI 6000)] (kX2_init (o := 53) gk53 gk54 (n := 6000) (by decide)) rfl gx133 gx50 gx47 gx51 rfl rfl (by decide) ⟨Nat.le_of_ble_eq_true rfl, Nat.le_of_ble_eq_true rfl⟩ rfl hl (Nat.le_of_ble_eq_true rfl) ⟨Nat.le_of_ble_eq_true rfl, Nat.le_of_ble_eq_true rfl⟩ dX4_init_82 (fun q17 m17 a17 H locs hp17 hW hS => ?_)
  obtain ⟨hq17, hm17, ha17, hF17, hR17, hV17⟩ := hp17
  have hF := FS.keep hF hq17 hm17 (by decide)
  have hV := VS.keep hV hm17 (by decide)
  have hm := kept hm hm17 (by decide)
  have hR := AS.keep hR ha17 (by decide)
  have ha := kept ha ha17 (by decide)
  have hq := kepq hq hq17 (by decide)
  have hF := hF17.app hF
  have hR := hR17.app hR
  have hV := hV17.app hV
  rw [← hq17 42 (by decide)] at hl ⊢
  rw [← hq17 53 (by decide)]
  refine gp4_5 hx hb hG hown hW hS (o := 42) (by decide) gk42 (v := q17 53) hin gx132 dX4_init_85 (fun m18 H locs hm18 ho18 hW hS => ?_)
  have hF := FS.put hF ho18 (by decide)
  have hV := VS.put hV ho18 (by decide)
  have hm := kepm hm ho18 (by decide)
  have hF := hF.cons hm18
  refine W.widen (k := 12) (n := 36006) (Nat.le_of_ble_eq_true rfl) (Nat.le_of_ble_eq_true rfl) ?_
  exact hend q17 m18 a17 H locs _ ls hW hS ⟨hq, hm, ha, hF, hR, hV⟩ dX4_init_88
theorem dX5_init_0 : decode cX5_init 0 = .ok (.aload_n 0, 1) := by decide +kernel
theorem dX5_init_1 : decode cX5_init 1 = .ok (.invokespecial 3, 3) := by decide +kernel
theorem dX5_init_4 : decode cX5_init 4 = .ok (.aload_n 0, 1) := by decide +kernel
theorem dX5_init_5 : decode cX5_init 5 = .ok (.new 9, 3) := by decide +kernel
theorem dX5_init_8 : decode cX5_init 8 = .ok (.dup, 1) := by decide +kernel
theorem dX5_init_9 : decode cX5_init 9 = .ok (.sipush 6000, 3) := by decide +kernel
theorem dX5_init_12 : decode cX5_init 12 = .ok (.invokespecial 11, 3) := by decide +kernel
theorem dX5_init_15 : decode cX5_init 15 = .ok (.putfield 14, 3) := by decide +kernel
theorem dX5_init_18 : decode cX5_init 18 = .ok (.aload_n 0, 1) := by decide +kernel
theorem dX5_init_19 : decode cX5_init 19 = .ok (.new 9, 3) := by decide +kernel
theorem dX5_init_22 : decode cX5_init 22 = .ok (.dup, 1) := by decide +kernel
theorem dX5_init_23 : decode cX5_init 23 = .ok (.sipush 6000, 3) := by decide +kernel
theorem dX5_init_26 : decode cX5_init 26 = .ok (.invokespecial 11, 3) := by decide +kernel
theorem dX5_init_29 : decode cX5_init 29 = .ok (.putfield 20, 3) := by decide +kernel
theorem dX5_init_32 : decode cX5_init 32 = .ok (.aload_n 0, 1) := by decide +kernel
theorem dX5_init_33 : decode cX5_init 33 = .ok (.new 9, 3) := by decide +kernel
theorem dX5_init_36 : decode cX5_init 36 = .ok (.dup, 1) := by decide +kernel
theorem dX5_init_37 : decode cX5_init 37 = .ok (.sipush 6000, 3) := by decide +kernel
theorem dX5_init_40 : decode cX5_init 40 = .ok (.invokespecial 11, 3) := by decide +kernel
theorem dX5_init_43 : decode cX5_init 43 = .ok (.putfield 23, 3) := by decide +kernel
theorem dX5_init_46 : decode cX5_init 46 = .ok (.aload_n 0, 1) := by decide +kernel
theorem dX5_init_47 : decode cX5_init 47 = .ok (.new 9, 3) := by decide +kernel
theorem dX5_init_50 : decode cX5_init 50 = .ok (.dup, 1) := by decide +kernel
theorem dX5_init_51 : decode cX5_init 51 = .ok (.sipush 6001, 3) := by decide +kernel
theorem dX5_init_54 : decode cX5_init 54 = .ok (.invokespecial 11, 3) := by decide +kernel
theorem dX5_init_57 : decode cX5_init 57 = .ok (.putfield 26, 3) := by decide +kernel
theorem dX5_init_60 : decode cX5_init 60 = .ok (.aload_n 0, 1) := by decide +kernel
theorem dX5_init_61 : decode cX5_init 61 = .ok (.new 9, 3) := by decide +kernel
theorem dX5_init_64 : decode cX5_init 64 = .ok (.dup, 1) := by decide +kernel
theorem dX5_init_65 : decode cX5_init 65 = .ok (.ldc 29, 2) := by decide +kernel
theorem dX5_init_67 : decode cX5_init 67 = .ok (.invokespecial 11, 3) := by decide +kernel
theorem dX5_init_70 : decode cX5_init 70 = .ok (.putfield 30, 3) := by decide +kernel
theorem dX5_init_73 : decode cX5_init 73 = .ok (.return_, 1) := by decide +kernel
set_option maxHeartbeats 4000000 in
set_option maxRecDepth 100000 in
theorem kX5_init {l : Launch} {D : va_G} {cy : Nat → ClassId} {q : Nat → Nat} {m0 : Nat → Value} {a0 : Nat → vp_A} {sz : Nat} (hdef : ∀ j, j < 5 → m0 (100 * 55 + j) = vp_V [.null, .null, .null, .null, .null] j) : gMg l yX5_init cX5_init 1 ({ frames := 2, cells := 10, slots := 84006, locals := 42 } : Room) D cy 56 66 q m0 a0 sz [.ref (q 55)] 10 84006 (MK 55 56 q m0 a0 [(5504, 64), (6400, 65), (5503, 62), (6200, 63), (5502, 60), (6000, 61), (5501, 58), (5800, 59), (5500, 56), (5600, 57)] [(65, zI 60000), (63, zI 6001), (61, zI 6000), (59, zI 6000), (57, zI 6000)] []) := by
  refine g_ofg (by decide) (Nat.le_of_ble_eq_true rfl) ?_
  intro p e s M args below meth c A hx hb hr hG hown hin hlocks hml hA hNW hW hS hend ls hl
  have hl : lv_has ls 1 [(0, .ref (q 55))] := hl
  have hV : VS [] m0 := VS.nil
  have hF : FS [] q m0 := FS.nil
  have hR : AS [] a0 := AS.nil
  have hq : ∀ k, k < 56 → q k = q k := fun _ _ => rfl
  have hm : ∀ j, j < 100 * 55 → m0 j = m0 j := fun _ _ => rfl
  have ha : ∀ j, j < 56 → a0 j = a0 j := fun _ _ => rfl
  refine lv_aload_n hx hb dX5_init_0 rfl (lv_at hl 0 rfl) ?_
  refine W.objInit hx hb hown (hG _ gx136) (hG _ gx12) (hG _ gx13) rfl (by rw [hml]; exact hl.1) rfl dX5_init_1 (Nat.le_of_ble_eq_true rfl) (Nat.le_of_ble_eq_true rfl) ?_
  refine W.eq (g2 := F0 M 4 ls []) rfl ?_
  refine lv_aload_n hx hb dX5_init_4 rfl (lv_at hl 0 rfl) ?_
  refine g_new (C := RX2) (T := TX2) (n := 1) (ci := 2) (fs := [.null]) hx hb hG gm_wsX20 tyX2 tyX2_ok hown gx137 gx46 gx47 hW hS hA gk56 rfl (by decide) rfl rfl (fun j hj => by rcases (show j = 0 by omega) with rfl <;> rfl) (Nat.le_of_ble_eq_true rfl) (Nat.le_of_ble_eq_true rfl) dX5_init_5 (fun q1 m1 H hq1 hm1 hd1 hW hS => ?_)
  have hF := FS.keep hF hq1 hm1 (by decide)
  have hV := VS.keep hV hm1 (by decide)
  have hm := kept hm hm1 (by decide)
  have hq := kepq hq hq1 (by decide)
  rw [← hq1 55 (by decide)] at hl ⊢
  refine lv_dup hx hb dX5_init_8 rfl ?_
  refine lv_sipush (v := 6000) hx hb dX5_init_9 (by decide) ?_
  refine g_In (n := 1) (o := 56) (rest := [.ref (q1 56), .ref (q1 55)]) hx hb hml hown hG hW hS hA hNW [.int (nI 6000)] (kX2_init (o := 56) gk56 gk57 (n := 6000) (by decide)) rfl gx144 gx50 gx47 gx51 rfl rfl (by decide) ⟨Nat.le_of_ble_eq_true rfl, Nat.le_of_ble_eq_true rfl⟩ rfl hl (Nat.le_of_ble_eq_true rfl) ⟨Nat.le_of_ble_eq_true rfl, Nat.le_of_ble_eq_true rfl⟩ dX5_init_12 (fun q2 m2 a2 H locs hp2 hW hS => ?_)
  obtain ⟨hq2, hm2, ha2, hF2, hR2, hV2⟩ := hp2
  have hF := FS.keep hF hq2 hm2 (by decide)
  have hV := VS.keep hV hm2 (by decide)
  have hm := kept hm hm2 (by decide)
  have hR := AS.keep hR ha2 (by decide)
  have ha := kept ha ha2 (by decide)
  have hq := kepq hq hq2 (by decide)
  have hF := hF2.app hF
  have hR := hR2.app hR
  have hV := hV2.app hV
  rw [← hq2 55 (by decide)] at hl ⊢
  rw [← hq2 56 (by decide)]
  refine gp5_0 hx hb hG hown hW hS (o := 55) (by decide) gk55 (v := q2 56) hin gx138 dX5_init_15 (fun m3 H locs hm3 ho3 hW hS => ?_)
  have hF := FS.put hF ho3 (by decide)
  have hV : VS [] m3 := VS.nil
  have hm := kepm hm ho3 (by decide)
  have hF := hF.cons hm3
  refine lv_aload_n hx hb dX5_init_18 rfl (lv_at hl 0 rfl) ?_
  refine g_new (C := RX2) (T := TX2) (n := 1) (ci := 2) (fs := [.null]) hx hb hG gm_wsX20 tyX2 tyX2_ok hown gx137 gx46 gx47 hW hS hA gk58 rfl (by decide) rfl rfl (fun j hj => by rcases (show j = 0 by omega) with rfl <;> rfl) (Nat.le_of_ble_eq_true rfl) (Nat.le_of_ble_eq_true rfl) dX5_init_19 (fun q4 m4 H hq4 hm4 hd4 hW hS => ?_)
  have hF := FS.keep hF hq4 hm4 (by decide)
  have hV := VS.keep hV hm4 (by decide)
  have hm := kept hm hm4 (by decide)
  have hq := kepq hq hq4 (by decide)
  rw [← hq4 55 (by decide)] at hl ⊢
  refine lv_dup hx hb dX5_init_22 rfl ?_
  refine lv_sipush (v := 6000) hx hb dX5_init_23 (by decide) ?_
  refine g_In (n := 1) (o := 58) (rest := [.ref (q4 58), .ref (q4 55)]) hx hb hml hown hG hW hS hA hNW [.int (nI 6000)] (kX2_init (o := 58) gk58 gk59 (n := 6000) (by decide)) rfl gx144 gx50 gx47 gx51 rfl rfl (by decide) ⟨Nat.le_of_ble_eq_true rfl, Nat.le_of_ble_eq_true rfl⟩ rfl hl (Nat.le_of_ble_eq_true rfl) ⟨Nat.le_of_ble_eq_true rfl, Nat.le_of_ble_eq_true rfl⟩ dX5_init_26 (fun q5 m5 a5 H locs hp5 hW hS => ?_)
  obtain ⟨hq5, hm5, ha5, hF5, hR5, hV5⟩ := hp5
  have hF := FS.keep hF hq5 hm5 (by decide)
  have hV := VS.keep hV hm5 (by decide)
  have hm := kept hm hm5 (by decide)
  have hR := AS.keep hR ha5 (by decide)
  have ha := kept ha ha5 (by decide)
  have hq := kepq hq hq5 (by decide)
  have hF := hF5.app hF
  have hR := hR5.app hR
  have hV := hV5.app hV
  rw [← hq5 55 (by decide)] at hl ⊢
  rw [← hq5 58 (by decide)]
  refine gp5_1 hx hb hG hown hW hS (o := 55) (by decide) gk55 (v := q5 58) hin gx139 dX5_init_29 (fun m6 H locs hm6 ho6 hW hS => ?_)
  have hF := FS.put hF ho6 (by decide)
  have hV : VS [] m6 := VS.nil
  have hm := kepm hm ho6 (by decide)
  have hF := hF.cons hm6
  refine lv_aload_n hx hb dX5_init_32 rfl (lv_at hl 0 rfl) ?_
  refine g_new (C := RX2) (T := TX2) (n := 1) (ci := 2) (fs := [.null]) hx hb hG gm_wsX20 tyX2 tyX2_ok hown gx137 gx46 gx47 hW hS hA gk60 rfl (by decide) rfl rfl (fun j hj => by rcases (show j = 0 by omega) with rfl <;> rfl) (Nat.le_of_ble_eq_true rfl) (Nat.le_of_ble_eq_true rfl) dX5_init_33 (fun q7 m7 H hq7 hm7 hd7 hW hS => ?_)
  have hF := FS.keep hF hq7 hm7 (by decide)
  have hV := VS.keep hV hm7 (by decide)
  have hm := kept hm hm7 (by decide)
  have hq := kepq hq hq7 (by decide)
  rw [← hq7 55 (by decide)] at hl ⊢
  refine lv_dup hx hb dX5_init_36 rfl ?_
  refine lv_sipush (v := 6000) hx hb dX5_init_37 (by decide) ?_
  refine g_In (n := 1) (o := 60) (rest := [.ref (q7 60), .ref (q7 55)]) hx hb hml hown hG hW hS hA hNW [.int (nI 6000)] (kX2_init (o := 60) gk60 gk61 (n := 6000) (by decide)) rfl gx144 gx50 gx47 gx51 rfl rfl (by decide) ⟨Nat.le_of_ble_eq_true rfl, Nat.le_of_ble_eq_true rfl⟩ rfl hl (Nat.le_of_ble_eq_true rfl) ⟨Nat.le_of_ble_eq_true rfl, Nat.le_of_ble_eq_true rfl⟩ dX5_init_40 (fun q8 m8 a8 H locs hp8 hW hS => ?_)
  obtain ⟨hq8, hm8, ha8, hF8, hR8, hV8⟩ := hp8
  have hF := FS.keep hF hq8 hm8 (by decide)
  have hV := VS.keep hV hm8 (by decide)
  have hm := kept hm hm8 (by decide)
  have hR := AS.keep hR ha8 (by decide)
  have ha := kept ha ha8 (by decide)
  have hq := kepq hq hq8 (by decide)
  have hF := hF8.app hF
  have hR := hR8.app hR
  have hV := hV8.app hV
  rw [← hq8 55 (by decide)] at hl ⊢
  rw [← hq8 60 (by decide)]
  refine gp5_2 hx hb hG hown hW hS (o := 55) (by decide) gk55 (v := q8 60) hin gx140 dX5_init_43 (fun m9 H locs hm9 ho9 hW hS => ?_)
  have hF := FS.put hF ho9 (by decide)
  have hV : VS [] m9 := VS.nil
  have hm := kepm hm ho9 (by decide)
  have hF := hF.cons hm9
  refine lv_aload_n hx hb dX5_init_46 rfl (lv_at hl 0 rfl) ?_
  refine g_new (C := RX2) (T := TX2) (n := 1) (ci := 2) (fs := [.null]) hx hb hG gm_wsX20 tyX2 tyX2_ok hown gx137 gx46 gx47 hW hS hA gk62 rfl (by decide) rfl rfl (fun j hj => by rcases (show j = 0 by omega) with rfl <;> rfl) (Nat.le_of_ble_eq_true rfl) (Nat.le_of_ble_eq_true rfl) dX5_init_47 (fun q10 m10 H hq10 hm10 hd10 hW hS => ?_)
  have hF := FS.keep hF hq10 hm10 (by decide)
  have hV := VS.keep hV hm10 (by decide)
  have hm := kept hm hm10 (by decide)
  have hq := kepq hq hq10 (by decide)
  rw [← hq10 55 (by decide)] at hl ⊢
  refine lv_dup hx hb dX5_init_50 rfl ?_
  refine lv_sipush (v := 6001) hx hb dX5_init_51 (by decide) ?_
  refine g_In (n := 1) (o := 62) (rest := [.ref (q10 62), .ref (q10 55)]) hx hb hml hown hG hW hS hA hNW [.int (nI 6001)] (kX2_init (o := 62) gk62 gk63 (n := 6001) (by decide)) rfl gx144 gx50 gx47 gx51 rfl rfl (by decide) ⟨Nat.le_of_ble_eq_true rfl, Nat.le_of_ble_eq_true rfl⟩ rfl hl (Nat.le_of_ble_eq_true rfl) ⟨Nat.le_of_ble_eq_true rfl, Nat.le_of_ble_eq_true rfl⟩ dX5_init_54 (fun q11 m11 a11 H locs hp11 hW hS => ?_)
  obtain ⟨hq11, hm11, ha11, hF11, hR11, hV11⟩ := hp11
  have hF := FS.keep hF hq11 hm11 (by decide)
  have hV := VS.keep hV hm11 (by decide)
  have hm := kept hm hm11 (by decide)
  have hR := AS.keep hR ha11 (by decide)
  have ha := kept ha ha11 (by decide)
  have hq := kepq hq hq11 (by decide)
  have hF := hF11.app hF
  have hR := hR11.app hR
  have hV := hV11.app hV
  rw [← hq11 55 (by decide)] at hl ⊢
  rw [← hq11 62 (by decide)]
  refine gp5_3 hx hb hG hown hW hS (o := 55) (by decide) gk55 (v := q11 62) hin gx141 dX5_init_57 (fun m12 H locs hm12 ho12 hW hS => ?_)
  have hF := FS.put hF ho12 (by decide)
  have hV : VS [] m12 := VS.nil
  have hm := kepm hm ho12 (by decide)
  have hF := hF.cons hm12
  refine lv_aload_n hx hb dX5_init_60 rfl (lv_at hl 0 rfl) ?_
  refine g_new (C := RX2) (T := TX2) (n := 1) (ci := 2) (fs := [.null]) hx hb hG gm_wsX20 tyX2 tyX2_ok hown gx137 gx46 gx47 hW hS hA gk64 rfl (by decide) rfl rfl (fun j hj => by rcases (show j = 0 by omega) with rfl <;> rfl) (Nat.le_of_ble_eq_true rfl) (Nat.le_of_ble_eq_true rfl) dX5_init_61 (fun q13 m13 H hq13 hm13 hd13 hW hS => ?_)
  have hF := FS.keep hF hq13 hm13 (by decide)
  have hV := VS.keep hV hm13 (by decide)
  have hm := kept hm hm13 (by decide)
  have hq := kepq hq hq13 (by decide)
  rw [← hq13 55 (by decide)] at hl ⊢
  refine lv_dup hx hb dX5_init_64 rfl ?_
  refine lv_ldc (v := 60000) hx hb hown (hG _ gx142) dX5_init_65 ?_
  refine g_In (n := 1) (o := 64) (rest := [.ref (q13 64), .ref (q13 55)]) hx hb hml hown hG hW hS hA hNW [.int (nI 60000)] (kX2_init (o := 64) gk64 gk65 (n := 60000) (by decide)) rfl gx144 gx50 gx47 gx51 rfl rfl (by decide) ⟨Nat.le_of_ble_eq_true rfl, Nat.le_of_ble_eq_true rfl⟩ rfl hl (Nat.le_of_ble_eq_true rfl) ⟨Nat.le_of_ble_eq_true rfl, Nat.le_of_ble_eq_true rfl⟩ dX5_init_67 (fun q14 m14 a14 H locs hp14 hW hS => ?_)
  obtain ⟨hq14, hm14, ha14, hF14, hR14, hV14⟩ := hp14
  have hF := FS.keep hF hq14 hm14 (by decide)
  have hV := VS.keep hV hm14 (by decide)
  have hm := kept hm hm14 (by decide)
  have hR := AS.keep hR ha14 (by decide)
  have ha := kept ha ha14 (by decide)
  have hq := kepq hq hq14 (by decide)
  have hF := hF14.app hF
  have hR := hR14.app hR
  have hV := hV14.app hV
  rw [← hq14 55 (by decide)] at hl ⊢
  rw [← hq14 64 (by decide)]
  refine gp5_4 hx hb hG hown hW hS (o := 55) (by decide) gk55 (v := q14 64) hin gx143 dX5_init_70 (fun m15 H locs hm15 ho15 hW hS => ?_)
  have hF := FS.put hF ho15 (by decide)
  have hV : VS [] m15 := VS.nil
  have hm := kepm hm ho15 (by decide)
  have hF := hF.cons hm15
  refine W.widen (k := 10) (n := 84006) (Nat.le_of_ble_eq_true rfl) (Nat.le_of_ble_eq_true rfl) ?_
  exact hend q14 m15 a14 H locs _ ls hW hS ⟨hq, hm, ha, hF, hR, hV⟩ dX5_init_73
theorem dX9_init_0 : decode cX9_init 0 = .ok (.aload_n 0, 1) := by decide +kernel
theorem dX9_init_1 : decode cX9_init 1 = .ok (.invokespecial 3, 3) := by decide +kernel
theorem dX9_init_4 : decode cX9_init 4 = .ok (.aload_n 0, 1) := by decide +kernel
theorem dX9_init_5 : decode cX9_init 5 = .ok (.new 9, 3) := by decide +kernel
theorem dX9_init_8 : decode cX9_init 8 = .ok (.dup, 1) := by decide +kernel
theorem dX9_init_9 : decode cX9_init 9 = .ok (.invokespecial 11, 3) := by decide +kernel
theorem dX9_init_12 : decode cX9_init 12 = .ok (.putfield 12, 3) := by decide +kernel
theorem dX9_init_15 : decode cX9_init 15 = .ok (.aload_n 0, 1) := by decide +kernel
theorem dX9_init_16 : decode cX9_init 16 = .ok (.new 18, 3) := by decide +kernel
theorem dX9_init_19 : decode cX9_init 19 = .ok (.dup, 1) := by decide +kernel
theorem dX9_init_20 : decode cX9_init 20 = .ok (.invokespecial 20, 3) := by decide +kernel
theorem dX9_init_23 : decode cX9_init 23 = .ok (.putfield 21, 3) := by decide +kernel
theorem dX9_init_26 : decode cX9_init 26 = .ok (.aload_n 0, 1) := by decide +kernel
theorem dX9_init_27 : decode cX9_init 27 = .ok (.new 25, 3) := by decide +kernel
theorem dX9_init_30 : decode cX9_init 30 = .ok (.dup, 1) := by decide +kernel
theorem dX9_init_31 : decode cX9_init 31 = .ok (.invokespecial 27, 3) := by decide +kernel
theorem dX9_init_34 : decode cX9_init 34 = .ok (.putfield 28, 3) := by decide +kernel
theorem dX9_init_37 : decode cX9_init 37 = .ok (.aload_n 0, 1) := by decide +kernel
theorem dX9_init_38 : decode cX9_init 38 = .ok (.new 32, 3) := by decide +kernel
theorem dX9_init_41 : decode cX9_init 41 = .ok (.dup, 1) := by decide +kernel
theorem dX9_init_42 : decode cX9_init 42 = .ok (.invokespecial 34, 3) := by decide +kernel
theorem dX9_init_45 : decode cX9_init 45 = .ok (.putfield 35, 3) := by decide +kernel
theorem dX9_init_48 : decode cX9_init 48 = .ok (.aload_n 0, 1) := by decide +kernel
theorem dX9_init_49 : decode cX9_init 49 = .ok (.new 39, 3) := by decide +kernel
theorem dX9_init_52 : decode cX9_init 52 = .ok (.dup, 1) := by decide +kernel
theorem dX9_init_53 : decode cX9_init 53 = .ok (.bipush 10, 2) := by decide +kernel
theorem dX9_init_55 : decode cX9_init 55 = .ok (.invokespecial 41, 3) := by decide +kernel
theorem dX9_init_58 : decode cX9_init 58 = .ok (.putfield 44, 3) := by decide +kernel
theorem dX9_init_61 : decode cX9_init 61 = .ok (.aload_n 0, 1) := by decide +kernel
theorem dX9_init_62 : decode cX9_init 62 = .ok (.ldc2_w 48, 3) := by decide +kernel
theorem dX9_init_65 : decode cX9_init 65 = .ok (.putfield 50, 3) := by decide +kernel
theorem dX9_init_68 : decode cX9_init 68 = .ok (.aload_n 0, 1) := by decide +kernel
theorem dX9_init_69 : decode cX9_init 69 = .ok (.ldc2_w 48, 3) := by decide +kernel
theorem dX9_init_72 : decode cX9_init 72 = .ok (.putfield 54, 3) := by decide +kernel
theorem dX9_init_75 : decode cX9_init 75 = .ok (.return_, 1) := by decide +kernel
set_option maxHeartbeats 4000000 in
set_option maxRecDepth 100000 in
theorem kX9_init {l : Launch} {D : va_G} {cy : Nat → ClassId} {q : Nat → Nat} {m0 : Nat → Value} {a0 : Nat → vp_A} {sz : Nat} (hdef : ∀ j, j < 11 → m0 (100 * 27 + j) = vp_V [.null, .null, .null, .null, .null, .int 0, .long 0, .int 0, .int 0, .long 0, .int 0] j) : gMg l yX9_init cX9_init 1 ({ frames := 4, cells := 40, slots := 220447, locals := 82 } : Room) D cy 28 68 q m0 a0 sz [.ref (q 27)] 40 220447 (MK 27 28 q m0 a0 [(2704, 66), (6600, 67), (2703, 55), (5504, 64), (6400, 65), (5503, 62), (6200, 63), (5502, 60), (6000, 61), (5501, 58), (5800, 59), (5500, 56), (5600, 57), (2702, 42), (4205, 53), (5300, 54), (4204, 51), (5100, 52), (4203, 49), (4900, 50), (4202, 47), (4700, 48), (4201, 45), (4500, 46), (4200, 43), (4300, 44), (2701, 39), (3901, 41), (3900, 40), (2700, 28), (2806, 38), (2805, 36), (3600, 37), (2804, 34), (3400, 35), (2801, 31), (3100, 32), (3200, 33), (2800, 29), (2900, 30)] [(67, zI 10), (65, zI 60000), (63, zI 6001), (61, zI 6000), (59, zI 6000), (57, zI 6000), (54, zI 6000), (52, zI 6000), (50, zI 6000), (48, zI 6000), (46, zI 6000), (44, zI 6000), (41, zD 6000), (40, zD 6000), (38, zJ 6000), (37, zI 16384), (35, zI 60000), (33, zI 10), (30, zI 6001)] [(2709, .long (-1)), (2706, .long (-1)), (4206, .int 0), (4207, .int 0), (3101, .int 0), (3102, .int 0), (2802, .int 0), (2803, .int 0), (2705, .int 0), (2707, .int 0), (2708, .int 0), (2710, .int 0)]) := by
  refine g_ofg (by decide) (Nat.le_of_ble_eq_true rfl) ?_
  intro p e s M args below meth c A hx hb hr hG hown hin hlocks hml hA hNW hW hS hend ls hl
  have hl : lv_has ls 1 [(0, .ref (q 27))] := hl
  have hV : VS [(2705, .int 0), (2707, .int 0), (2708, .int 0), (2710, .int 0)] m0 := ((((VS.nil.cons (hdef 10 (by decide))).cons (hdef 8 (by decide))).cons (hdef 7 (by decide))).cons (hdef 5 (by decide)))
  have hF : FS [] q m0 := FS.nil
  have hR : AS [] a0 := AS.nil
  have hq : ∀ k, k < 28 → q k = q k := fun _ _ => rfl
  have hm : ∀ j, j < 100 * 27 → m0 j = m0 j := fun _ _ => rfl
  have ha : ∀ j, j < 28 → a0 j = a0 j := fun _ _ => rfl
  refine lv_aload_n hx hb dX9_init_0 rfl (lv_at hl 0 rfl) ?_
  refine W.objInit hx hb hown (hG _ gx83) (hG _ gx12) (hG _ gx13) rfl (by rw [hml]; exact hl.1) rfl dX9_init_1 (Nat.le_of_ble_eq_true rfl) (Nat.le_of_ble_eq_true rfl) ?_
  refine W.eq (g2 := F0 M 4 ls []) rfl ?_
  refine lv_aload_n hx hb dX9_init_4 rfl (lv_at hl 0 rfl) ?_
  refine g_new (C := RX1) (T := TX1) (n := 7) (ci := 1) (fs := [.null, .null, .int 0, .int 0, .null, .null, .null]) hx hb hG gm_wsX10 tyX1 tyX1_ok hown gx84 gx85 gx86 hW hS hA gk28 rfl (by decide) rfl rfl (fun j hj => by rcases (show j = 0 ∨ j = 1 ∨ j = 2 ∨ j = 3 ∨ j = 4 ∨ j = 5 ∨ j = 6 by omega) with rfl | rfl | rfl | rfl | rfl | rfl | rfl <;> rfl) (Nat.le_of_ble_eq_true rfl) (Nat.le_of_ble_eq_true rfl) dX9_init_5 (fun q1 m1 H hq1 hm1 hd1 hW hS => ?_)
  have hF := FS.keep hF hq1 hm1 (by decide)
  have hV := VS.keep hV hm1 (by decide)
  have hm := kept hm hm1 (by decide)
  have hq := kepq hq hq1 (by decide)
  rw [← hq1 27 (by decide)] at hl ⊢
  refine lv_dup hx hb dX9_init_8 rfl ?_
  refine g_InN (n := 0) (o := 28) (rest := [.ref (q1 28), .ref (q1 27)]) hx hb hml hown hG hW hS hA hNW [] (kX1_init hd1) rfl (List.mem_of_getElem? (i := 5) rfl) gx105 gx86 gx106 rfl rfl (by decide) ⟨Nat.le_of_ble_eq_true rfl, Nat.le_of_ble_eq_true rfl⟩ rfl hl (Nat.le_of_ble_eq_true rfl) ⟨Nat.le_of_ble_eq_true rfl, Nat.le_of_ble_eq_true rfl⟩ dX9_init_9 (fun q2 m2 a2 H locs hp2 hW hS => ?_)
  obtain ⟨hq2, hm2, ha2, hF2, hR2, hV2⟩ := hp2
  have hF := FS.keep hF hq2 hm2 (by decide)
  have hV := VS.keep hV hm2 (by decide)
  have hm := kept hm hm2 (by decide)
  have hR := AS.keep hR ha2 (by decide)
  have ha := kept ha ha2 (by decide)
  have hq := kepq hq hq2 (by decide)
  have hF := hF2.app hF
  have hR := hR2.app hR
  have hV := hV2.app hV
  rw [← hq2 27 (by decide)] at hl ⊢
  rw [← hq2 28 (by decide)]
  refine gp9_0 hx hb hG hown hW hS (o := 27) (by decide) gk27 (v := q2 28) hin gx87 dX9_init_12 (fun m3 H locs hm3 ho3 hW hS => ?_)
  have hF := FS.put hF ho3 (by decide)
  have hV := VS.put hV ho3 (by decide)
  have hm := kepm hm ho3 (by decide)
  have hF := hF.cons hm3
  refine lv_aload_n hx hb dX9_init_15 rfl (lv_at hl 0 rfl) ?_
  refine g_new (C := RX3) (T := TX3) (n := 2) (ci := 3) (fs := [.null, .null]) hx hb hG gm_wsX30 tyX3 tyX3_ok hown gx88 gx89 gx90 hW hS hA gk39 rfl (by decide) rfl rfl (fun j hj => by rcases (show j = 0 ∨ j = 1 by omega) with rfl | rfl <;> rfl) (Nat.le_of_ble_eq_true rfl) (Nat.le_of_ble_eq_true rfl) dX9_init_16 (fun q4 m4 H hq4 hm4 hd4 hW hS => ?_)
  have hF := FS.keep hF hq4 hm4 (by decide)
  have hV := VS.keep hV hm4 (by decide)
  have hm := kept hm hm4 (by decide)
  have hq := kepq hq hq4 (by decide)
  rw [← hq4 27 (by decide)] at hl ⊢
  refine lv_dup hx hb dX9_init_19 rfl ?_
  refine g_InN (n := 0) (o := 39) (rest := [.ref (q4 39), .ref (q4 27)]) hx hb hml hown hG hW hS hA hNW [] (kX3_init hd4) rfl (List.mem_of_getElem? (i := 7) rfl) gx117 gx90 gx118 rfl rfl (by decide) ⟨Nat.le_of_ble_eq_true rfl, Nat.le_of_ble_eq_true rfl⟩ rfl hl (Nat.le_of_ble_eq_true rfl) ⟨Nat.le_of_ble_eq_true rfl, Nat.le_of_ble_eq_true rfl⟩ dX9_init_20 (fun q5 m5 a5 H locs hp5 hW hS => ?_)
  obtain ⟨hq5, hm5, ha5, hF5, hR5, hV5⟩ := hp5
  have hF := FS.keep hF hq5 hm5 (by decide)
  have hV := VS.keep hV hm5 (by decide)
  have hm := kept hm hm5 (by decide)
  have hR := AS.keep hR ha5 (by decide)
  have ha := kept ha ha5 (by decide)
  have hq := kepq hq hq5 (by decide)
  have hF := hF5.app hF
  have hR := hR5.app hR
  have hV := hV5.app hV
  rw [← hq5 27 (by decide)] at hl ⊢
  rw [← hq5 39 (by decide)]
  refine gp9_1 hx hb hG hown hW hS (o := 27) (by decide) gk27 (v := q5 39) hin gx91 dX9_init_23 (fun m6 H locs hm6 ho6 hW hS => ?_)
  have hF := FS.put hF ho6 (by decide)
  have hV := VS.put hV ho6 (by decide)
  have hm := kepm hm ho6 (by decide)
  have hF := hF.cons hm6
  refine lv_aload_n hx hb dX9_init_26 rfl (lv_at hl 0 rfl) ?_
  refine g_new (C := RX4) (T := TX4) (n := 8) (ci := 4) (fs := [.null, .null, .null, .null, .null, .null, .int 0, .int 0]) hx hb hG gm_wsX40 tyX4 tyX4_ok hown gx92 gx93 gx94 hW hS hA gk42 rfl (by decide) rfl rfl (fun j hj => by rcases (show j = 0 ∨ j = 1 ∨ j = 2 ∨ j = 3 ∨ j = 4 ∨ j = 5 ∨ j = 6 ∨ j = 7 by omega) with rfl | rfl | rfl | rfl | rfl | rfl | rfl | rfl <;> rfl) (Nat.le_of_ble_eq_true rfl) (Nat.le_of_ble_eq_true rfl) dX9_init_27 (fun q7 m7 H hq7 hm7 hd7 hW hS => ?_)
  have hF := FS.keep hF hq7 hm7 (by decide)
  have hV := VS.keep hV hm7 (by decide)
  have hm := kept hm hm7 (by decide)
  have hq := kepq hq hq7 (by decide)
  rw [← hq7 27 (by decide)] at hl ⊢
  refine lv_dup hx hb dX9_init_30 rfl ?_
  refine g_InN (n := 0) (o := 42) (rest := [.ref (q7 42), .ref (q7 27)]) hx hb hml hown hG hW hS hA hNW [] (kX4_init hd7) rfl (List.mem_of_getElem? (i := 8) rfl) gx123 gx94 gx124 rfl rfl (by decide) ⟨Nat.le_of_ble_eq_true rfl, Nat.le_of_ble_eq_true rfl⟩ rfl hl (Nat.le_of_ble_eq_true rfl) ⟨Nat.le_of_ble_eq_true rfl, Nat.le_of_ble_eq_true rfl⟩ dX9_init_31 (fun q8 m8 a8 H locs hp8 hW hS => ?_)
  obtain ⟨hq8, hm8, ha8, hF8, hR8, hV8⟩ := hp8
  have hF := FS.keep hF hq8 hm8 (by decide)
  have hV := VS.keep hV hm8 (by decide)
  have hm := kept hm hm8 (by decide)
  have hR := AS.keep hR ha8 (by decide)
  have ha := kept ha ha8 (by decide)
  have hq := kepq hq hq8 (by decide)
  have hF := hF8.app hF
  have hR := hR8.app hR
  have hV := hV8.app hV
  rw [← hq8 27 (by decide)] at hl ⊢
  rw [← hq8 42 (by decide)]
  refine gp9_2 hx hb hG hown hW hS (o := 27) (by decide) gk27 (v := q8 42) hin gx95 dX9_init_34 (fun m9 H locs hm9 ho9 hW hS => ?_)
  have hF := FS.put hF ho9 (by decide)
  have hV := VS.put hV ho9 (by decide)
  have hm := kepm hm ho9 (by decide)
  have hF := hF.cons hm9
  refine lv_aload_n hx hb dX9_init_37 rfl (lv_at hl 0 rfl) ?_
  refine g_new (C := RX5) (T := TX5) (n := 5) (ci := 5) (fs := [.null, .null, .null, .null, .null]) hx hb hG gm_wsX50 tyX5 tyX5_ok hown gx96 gx97 gx98 hW hS hA gk55 rfl (by decide) rfl rfl (fun j hj => by rcases (show j = 0 ∨ j = 1 ∨ j = 2 ∨ j = 3 ∨ j = 4 by omega) with rfl | rfl | rfl | rfl | rfl <;> rfl) (Nat.le_of_ble_eq_true rfl) (Nat.le_of_ble_eq_true rfl) dX9_init_38 (fun q10 m10 H hq10 hm10 hd10 hW hS => ?_)
  have hF := FS.keep hF hq10 hm10 (by decide)
  have hV := VS.keep hV hm10 (by decide)
  have hm := kept hm hm10 (by decide)
  have hq := kepq hq hq10 (by decide)
  rw [← hq10 27 (by decide)] at hl ⊢
  refine lv_dup hx hb dX9_init_41 rfl ?_
  refine g_InN (n := 0) (o := 55) (rest := [.ref (q10 55), .ref (q10 27)]) hx hb hml hown hG hW hS hA hNW [] (kX5_init hd10) rfl (List.mem_of_getElem? (i := 9) rfl) gx134 gx98 gx135 rfl rfl (by decide) ⟨Nat.le_of_ble_eq_true rfl, Nat.le_of_ble_eq_true rfl⟩ rfl hl (Nat.le_of_ble_eq_true rfl) ⟨Nat.le_of_ble_eq_true rfl, Nat.le_of_ble_eq_true rfl⟩ dX9_init_42 (fun q11 m11 a11 H locs hp11 hW hS => ?_)
  obtain ⟨hq11, hm11, ha11, hF11, hR11, hV11⟩ := hp11
  have hF := FS.keep hF hq11 hm11 (by decide)
  have hV := VS.keep hV hm11 (by decide)
  have hm := kept hm hm11 (by decide)
  have hR := AS.keep hR ha11 (by decide)
  have ha := kept ha ha11 (by decide)
  have hq := kepq hq hq11 (by decide)
  have hF := hF11.app hF
  have hR := hR11.app hR
  have hV := hV11.app hV
  rw [← hq11 27 (by decide)] at hl ⊢
  rw [← hq11 55 (by decide)]
  refine gp9_3 hx hb hG hown hW hS (o := 27) (by decide) gk27 (v := q11 55) hin gx99 dX9_init_45 (fun m12 H locs hm12 ho12 hW hS => ?_)
  have hF := FS.put hF ho12 (by decide)
  have hV := VS.put hV ho12 (by decide)
  have hm := kepm hm ho12 (by decide)
  have hF := hF.cons hm12
  refine lv_aload_n hx hb dX9_init_48 rfl (lv_at hl 0 rfl) ?_
  refine g_new (C := RX2) (T := TX2) (n := 1) (ci := 2) (fs := [.null]) hx hb hG gm_wsX20 tyX2 tyX2_ok hown gx100 gx46 gx47 hW hS hA gk66 rfl (by decide) rfl rfl (fun j hj => by rcases (show j = 0 by omega) with rfl <;> rfl) (Nat.le_of_ble_eq_true rfl) (Nat.le_of_ble_eq_true rfl) dX9_init_49 (fun q13 m13 H hq13 hm13 hd13 hW hS => ?_)
  have hF := FS.keep hF hq13 hm13 (by decide)
  have hV := VS.keep hV hm13 (by decide)
  have hm := kept hm hm13 (by decide)
  have hq := kepq hq hq13 (by decide)
  rw [← hq13 27 (by decide)] at hl ⊢
  refine lv_dup hx hb dX9_init_52 rfl ?_
  refine lv_bipush (v := 10) hx hb dX9_init_53 (by decide) ?_
  refine g_In (n := 1) (o := 66) (rest := [.ref (q13 66), .ref (q13 27)]) hx hb hml hown hG hW hS hA hNW [.int (nI 10)] (kX2_init (o := 66) gk66 gk67 (n := 10) (by decide)) rfl gx145 gx50 gx47 gx51 rfl rfl (by decide) ⟨Nat.le_of_ble_eq_true rfl, Nat.le_of_ble_eq_true rfl⟩ rfl hl (Nat.le_of_ble_eq_true rfl) ⟨Nat.le_of_ble_eq_true rfl, Nat.le_of_ble_eq_true rfl⟩ dX9_init_55 (fun q14 m14 a14 H locs hp14 hW hS => ?_)
  obtain ⟨hq14, hm14, ha14, hF14, hR14, hV14⟩ := hp14
  have hF := FS.keep hF hq14 hm14 (by decide)
  have hV := VS.keep hV hm14 (by decide)
  have hm := kept hm hm14 (by decide)
  have hR := AS.keep hR ha14 (by decide)
  have ha := kept ha ha14 (by decide)
  have hq := kepq hq hq14 (by decide)
  have hF := hF14.app hF
  have hR := hR14.app hR
  have hV := hV14.app hV
  rw [← hq14 27 (by decide)] at hl ⊢
  rw [← hq14 66 (by decide)]
  refine gp9_4 hx hb hG hown hW hS (o := 27) (by decide) gk27 (v := q14 66) hin gx101 dX9_init_58 (fun m15 H locs hm15 ho15 hW hS => ?_)
  have hF := FS.put hF ho15 (by decide)
  have hV := VS.put hV ho15 (by decide)
  have hm := kepm hm ho15 (by decide)
  have hF := hF.cons hm15
  refine lv_aload_n hx hb dX9_init_61 rfl (lv_at hl 0 rfl) ?_
  refine lv_ldc2 (v := (-1)) hx hb hown (hG _ gx102) dX9_init_62 ?_
  refine gp9_6 hx hb hG hown hW hS (o := 27) (by decide) gk27 (v := (-1)) gx103 dX9_init_65 (fun m16 H locs hm16 ho16 hW hS => ?_)
  have hF := FS.put hF ho16 (by decide)
  have hV := VS.put hV ho16 (by decide)
  have hm := kepm hm ho16 (by decide)
  have hV := hV.cons hm16
  refine lv_aload_n hx hb dX9_init_68 rfl (lv_at hl 0 rfl) ?_
  refine lv_ldc2 (v := (-1)) hx hb hown (hG _ gx102) dX9_init_69 ?_
  refine gp9_9 hx hb hG hown hW hS (o := 27) (by decide) gk27 (v := (-1)) gx104 dX9_init_72 (fun m17 H locs hm17 ho17 hW hS => ?_)
  have hF := FS.put hF ho17 (by decide)
  have hV := VS.put hV ho17 (by decide)
  have hm := kepm hm ho17 (by decide)
  have hV := hV.cons hm17
  refine W.widen (k := 40) (n := 220447) (Nat.le_of_ble_eq_true rfl) (Nat.le_of_ble_eq_true rfl) ?_
  exact hend q14 m17 a14 H locs _ ls hW hS ⟨hq, hm, ha, hF, hR, hV⟩ dX9_init_75
theorem dX11_init_0 : decode cX11_init 0 = .ok (.aload_n 0, 1) := by decide +kernel
theorem dX11_init_1 : decode cX11_init 1 = .ok (.invokespecial 1, 3) := by decide +kernel
theorem dX11_init_4 : decode cX11_init 4 = .ok (.aload_n 0, 1) := by decide +kernel
theorem dX11_init_5 : decode cX11_init 5 = .ok (.bipush 8, 2) := by decide +kernel
theorem dX11_init_7 : decode cX11_init 7 = .ok (.newarray .int, 2) := by decide +kernel
theorem dX11_init_9 : decode cX11_init 9 = .ok (.putfield 7, 3) := by decide +kernel
theorem dX11_init_12 : decode cX11_init 12 = .ok (.aload_n 0, 1) := by decide +kernel
theorem dX11_init_13 : decode cX11_init 13 = .ok (.new 13, 3) := by decide +kernel
theorem dX11_init_16 : decode cX11_init 16 = .ok (.dup, 1) := by decide +kernel
theorem dX11_init_17 : decode cX11_init 17 = .ok (.invokespecial 15, 3) := by decide +kernel
theorem dX11_init_20 : decode cX11_init 20 = .ok (.putfield 16, 3) := by decide +kernel
theorem dX11_init_23 : decode cX11_init 23 = .ok (.aload_n 0, 1) := by decide +kernel
theorem dX11_init_24 : decode cX11_init 24 = .ok (.new 13, 3) := by decide +kernel
theorem dX11_init_27 : decode cX11_init 27 = .ok (.dup, 1) := by decide +kernel
theorem dX11_init_28 : decode cX11_init 28 = .ok (.invokespecial 15, 3) := by decide +kernel
theorem dX11_init_31 : decode cX11_init 31 = .ok (.putfield 20, 3) := by decide +kernel
theorem dX11_init_34 : decode cX11_init 34 = .ok (.aload_n 0, 1) := by decide +kernel
theorem dX11_init_35 : decode cX11_init 35 = .ok (.new 23, 3) := by decide +kernel
theorem dX11_init_38 : decode cX11_init 38 = .ok (.dup, 1) := by decide +kernel
theorem dX11_init_39 : decode cX11_init 39 = .ok (.invokespecial 25, 3) := by decide +kernel
theorem dX11_init_42 : decode cX11_init 42 = .ok (.putfield 26, 3) := by decide +kernel
theorem dX11_init_45 : decode cX11_init 45 = .ok (.aload_n 0, 1) := by decide +kernel
theorem dX11_init_46 : decode cX11_init 46 = .ok (.new 30, 3) := by decide +kernel
theorem dX11_init_49 : decode cX11_init 49 = .ok (.dup, 1) := by decide +kernel
theorem dX11_init_50 : decode cX11_init 50 = .ok (.invokespecial 32, 3) := by decide +kernel
theorem dX11_init_53 : decode cX11_init 53 = .ok (.putfield 33, 3) := by decide +kernel
theorem dX11_init_56 : decode cX11_init 56 = .ok (.aload_n 0, 1) := by decide +kernel
theorem dX11_init_57 : decode cX11_init 57 = .ok (.new 37, 3) := by decide +kernel
theorem dX11_init_60 : decode cX11_init 60 = .ok (.dup, 1) := by decide +kernel
theorem dX11_init_61 : decode cX11_init 61 = .ok (.invokespecial 39, 3) := by decide +kernel
theorem dX11_init_64 : decode cX11_init 64 = .ok (.putfield 40, 3) := by decide +kernel
theorem dX11_init_67 : decode cX11_init 67 = .ok (.aload_n 0, 1) := by decide +kernel
theorem dX11_init_68 : decode cX11_init 68 = .ok (.new 44, 3) := by decide +kernel
theorem dX11_init_71 : decode cX11_init 71 = .ok (.dup, 1) := by decide +kernel
theorem dX11_init_72 : decode cX11_init 72 = .ok (.invokespecial 46, 3) := by decide +kernel
theorem dX11_init_75 : decode cX11_init 75 = .ok (.putfield 47, 3) := by decide +kernel
theorem dX11_init_78 : decode cX11_init 78 = .ok (.aload_n 0, 1) := by decide +kernel
theorem dX11_init_79 : decode cX11_init 79 = .ok (.new 51, 3) := by decide +kernel
theorem dX11_init_82 : decode cX11_init 82 = .ok (.dup, 1) := by decide +kernel
theorem dX11_init_83 : decode cX11_init 83 = .ok (.iconst 1, 1) := by decide +kernel
theorem dX11_init_84 : decode cX11_init 84 = .ok (.iconst 3, 1) := by decide +kernel
theorem dX11_init_85 : decode cX11_init 85 = .ok (.iconst 3, 1) := by decide +kernel
theorem dX11_init_86 : decode cX11_init 86 = .ok (.iconst 2, 1) := by decide +kernel
theorem dX11_init_87 : decode cX11_init 87 = .ok (.invokespecial 53, 3) := by decide +kernel
theorem dX11_init_90 : decode cX11_init 90 = .ok (.putfield 56, 3) := by decide +kernel
theorem dX11_init_93 : decode cX11_init 93 = .ok (.aload_n 0, 1) := by decide +kernel
theorem dX11_init_94 : decode cX11_init 94 = .ok (.aload_n 0, 1) := by decide +kernel
theorem dX11_init_95 : decode cX11_init 95 = .ok (.getfield 56, 3) := by decide +kernel
theorem dX11_init_98 : decode cX11_init 98 = .ok (.invokevirtual 60, 3) := by decide +kernel
theorem dX11_init_101 : decode cX11_init 101 = .ok (.putfield 64, 3) := by decide +kernel
theorem dX11_init_104 : decode cX11_init 104 = .ok (.return_, 1) := by decide +kernel
set_option maxHeartbeats 4000000 in
set_option maxRecDepth 100000 in
theorem kX11_init {l : Launch} {D : va_G} {cy : Nat → ClassId} {q : Nat → Nat} {m0 : Nat → Value} {a0 : Nat → vp_A} {sz : Nat} (hdef : ∀ j, j < 15 → m0 (100 * 0 + j) = vp_V [.null, .null, .null, .null, .null, .null, .null, .null, .long 0, .int 0, .int 0, .int 0, .long 0, .int 0, .int 0] j) : gMg l yX11_init cX11_init 1 ({ frames := 5, cells := 68, slots := 221063, locals := 102 } : Room) D cy 1 69 q m0 a0 sz [.ref (q 0)] 68 221063 (MK 0 1 q m0 a0 [(7, 68), (6, 27), (2704, 66), (6600, 67), (2703, 55), (5504, 64), (6400, 65), (5503, 62), (6200, 63), (5502, 60), (6000, 61), (5501, 58), (5800, 59), (5500, 56), (5600, 57), (2702, 42), (4205, 53), (5300, 54), (4204, 51), (5100, 52), (4203, 49), (4900, 50), (4202, 47), (4700, 48), (4201, 45), (4500, 46), (4200, 43), (4300, 44), (2701, 39), (3901, 41), (3900, 40), (2700, 28), (2806, 38), (2805, 36), (3600, 37), (2804, 34), (3400, 35), (2801, 31), (3100, 32), (3200, 33), (2800, 29), (2900, 30), (5, 24), (2401, 25), (2500, 26), (4, 11), (1105, 22), (2200, 23), (1104, 20), (2000, 21), (1103, 18), (1800, 19), (1102, 16), (1600, 17), (1101, 14), (1400, 15), (1100, 12), (1200, 13), (3, 8), (800, 9), (900, 10), (2, 5), (502, 6), (600, 7), (1, 2), (202, 3), (300, 4), (0, 1)] [(67, zI 10), (65, zI 60000), (63, zI 6001), (61, zI 6000), (59, zI 6000), (57, zI 6000), (54, zI 6000), (52, zI 6000), (50, zI 6000), (48, zI 6000), (46, zI 6000), (44, zI 6000), (41, zD 6000), (40, zD 6000), (38, zJ 6000), (37, zI 16384), (35, zI 60000), (33, zI 10), (30, zI 6001), (26, zI 264), (23, zI 4), (21, zI 4), (19, zI 4), (17, zI 64), (15, zI 64), (13, zI 64), (10, zI 10), (7, zI 41), (4, zI 41), (1, zI 8)] [(8, .long (fX7_atFirst 3)), (6803, .int 2), (6802, .int 3), (6801, .int 3), (6800, .int 1), (2709, .long (-1)), (2706, .long (-1)), (4206, .int 0), (4207, .int 0), (3101, .int 0), (3102, .int 0), (2802, .int 0), (2803, .int 0), (2705, .int 0), (2707, .int 0), (2708, .int 0), (2710, .int 0), (2400, .int 0), (2402, .int 0), (2403, .int 0), (2404, .int 0), (1106, .int 0), (1107, .int 0), (1108, .int 0), (801, .int 0), (802, .int 0), (500, .int 0), (501, .long 0), (200, .int 0), (201, .long 0), (9, .int 0), (10, .int 0), (11, .int 0), (12, .long 0), (13, .int 0), (14, .int 0)]) := by
  refine g_ofg (by decide) (Nat.le_of_ble_eq_true rfl) ?_
  intro p e s M args below meth c A hx hb hr hG hown hin hlocks hml hA hNW hW hS hend ls hl
  have hl : lv_has ls 1 [(0, .ref (q 0))] := hl
  have hV : VS [(9, .int 0), (10, .int 0), (11, .int 0), (12, .long 0), (13, .int 0), (14, .int 0)] m0 := ((((((VS.nil.cons (hdef 14 (by decide))).cons (hdef 13 (by decide))).cons (hdef 12 (by decide))).cons (hdef 11 (by decide))).cons (hdef 10 (by decide))).cons (hdef 9 (by decide)))
  have hF : FS [] q m0 := FS.nil
  have hR : AS [] a0 := AS.nil
  have hq : ∀ k, k < 1 → q k = q k := fun _ _ => rfl
  have hm : ∀ j, j < 100 * 0 → m0 j = m0 j := fun _ _ => rfl
  have ha : ∀ j, j < 1 → a0 j = a0 j := fun _ _ => rfl
  refine lv_aload_n hx hb dX11_init_0 rfl (lv_at hl 0 rfl) ?_
  refine W.objInit hx hb hown (hG _ gx11) (hG _ gx12) (hG _ gx13) rfl (by rw [hml]; exact hl.1) rfl dX11_init_1 (Nat.le_of_ble_eq_true rfl) (Nat.le_of_ble_eq_true rfl) ?_
  refine W.eq (g2 := F0 M 4 ls []) rfl ?_
  refine lv_aload_n hx hb dX11_init_4 rfl (lv_at hl 0 rfl) ?_
  refine lv_bipush (v := 8) hx hb dX11_init_5 (by decide) ?_
  refine g_newa (ty := .int) (t := 1) (N' := 8) (a0 := zI 8) hx hb rfl hG gx14 hW hS hA gk1 rfl (fun _ _ => rfl) (fun cA => rfl) (by decide) (by decide) (by decide) (Nat.le_of_ble_eq_true rfl) (Nat.le_of_ble_eq_true rfl) dX11_init_7 (fun q1 a1 H hq1 ha1 han1 hW hS => ?_)
  have hF := FS.keep (m' := _) (B := 100 * 1) hF hq1 (fun _ _ => rfl) (by decide)
  have hR := AS.keep hR ha1 (by decide)
  have ha := kept ha ha1 (by decide)
  have hq := kepq hq hq1 (by decide)
  rw [← hq1 0 (by decide)] at hl ⊢
  have hR := hR.cons han1
  refine gp11_0 hx hb hG hown hW hS (o := 0) (by decide) gk0 (v := q1 1) hin gx15 dX11_init_9 (fun m2 H locs hm2 ho2 hW hS => ?_)
  have hF : FS [] q1 m2 := FS.nil
  have hV := VS.put hV ho2 (by decide)
  have hm := kepm hm ho2 (by decide)
  have hF := hF.cons hm2
  refine lv_aload_n hx hb dX11_init_12 rfl (lv_at hl 0 rfl) ?_
  refine g_new (C := RX6) (T := TX6) (n := 3) (ci := 6) (fs := [.int 0, .long 0, .null]) hx hb hG gm_wsX60 tyX6 tyX6_ok hown gx16 gx17 gx18 hW hS hA gk2 rfl (by decide) rfl rfl (fun j hj => by rcases (show j = 0 ∨ j = 1 ∨ j = 2 by omega) with rfl | rfl | rfl <;> rfl) (Nat.le_of_ble_eq_true rfl) (Nat.le_of_ble_eq_true rfl) dX11_init_13 (fun q3 m3 H hq3 hm3 hd3 hW hS => ?_)
  have hF := FS.keep hF hq3 hm3 (by decide)
  have hV := VS.keep hV hm3 (by decide)
  have hm := kept hm hm3 (by decide)
  have hq := kepq hq hq3 (by decide)
  rw [← hq3 0 (by decide)] at hl ⊢
  refine lv_dup hx hb dX11_init_16 rfl ?_
  refine g_InN (n := 0) (o := 2) (rest := [.ref (q3 2), .ref (q3 0)]) hx hb hml hown hG hW hS hA hNW [] (kX6_init_2 hd3) rfl (List.mem_of_getElem? (i := 0) rfl) gx42 gx18 gx43 rfl rfl (by decide) ⟨Nat.le_of_ble_eq_true rfl, Nat.le_of_ble_eq_true rfl⟩ rfl hl (Nat.le_of_ble_eq_true rfl) ⟨Nat.le_of_ble_eq_true rfl, Nat.le_of_ble_eq_true rfl⟩ dX11_init_17 (fun q4 m4 a4 H locs hp4 hW hS => ?_)
  obtain ⟨hq4, hm4, ha4, hF4, hR4, hV4⟩ := hp4
  have hF := FS.keep hF hq4 hm4 (by decide)
  have hV := VS.keep hV hm4 (by decide)
  have hm := kept hm hm4 (by decide)
  have hR := AS.keep hR ha4 (by decide)
  have ha := kept ha ha4 (by decide)
  have hq := kepq hq hq4 (by decide)
  have hF := hF4.app hF
  have hR := hR4.app hR
  have hV := hV4.app hV
  rw [← hq4 0 (by decide)] at hl ⊢
  rw [← hq4 2 (by decide)]
  refine gp11_1 hx hb hG hown hW hS (o := 0) (by decide) gk0 (v := q4 2) hin gx19 dX11_init_20 (fun m5 H locs hm5 ho5 hW hS => ?_)
  have hF := FS.put hF ho5 (by decide)
  have hV := VS.put hV ho5 (by decide)
  have hm := kepm hm ho5 (by decide)
  have hF := hF.cons hm5
  refine lv_aload_n hx hb dX11_init_23 rfl (lv_at hl 0 rfl) ?_
  refine g_new (C := RX6) (T := TX6) (n := 3) (ci := 6) (fs := [.int 0, .long 0, .null]) hx hb hG gm_wsX60 tyX6 tyX6_ok hown gx16 gx17 gx18 hW hS hA gk5 rfl (by decide) rfl rfl (fun j hj => by rcases (show j = 0 ∨ j = 1 ∨ j = 2 by omega) with rfl | rfl | rfl <;> rfl) (Nat.le_of_ble_eq_true rfl) (Nat.le_of_ble_eq_true rfl) dX11_init_24 (fun q6 m6 H hq6 hm6 hd6 hW hS => ?_)
  have hF := FS.keep hF hq6 hm6 (by decide)
  have hV := VS.keep hV hm6 (by decide)
  have hm := kept hm hm6 (by decide)
  have hq := kepq hq hq6 (by decide)
  rw [← hq6 0 (by decide)] at hl ⊢
  refine lv_dup hx hb dX11_init_27 rfl ?_
  refine g_InN (n := 0) (o := 5) (rest := [.ref (q6 5), .ref (q6 0)]) hx hb hml hown hG hW hS hA hNW [] (kX6_init_5 hd6) rfl (List.mem_of_getElem? (i := 0) rfl) gx42 gx18 gx43 rfl rfl (by decide) ⟨Nat.le_of_ble_eq_true rfl, Nat.le_of_ble_eq_true rfl⟩ rfl hl (Nat.le_of_ble_eq_true rfl) ⟨Nat.le_of_ble_eq_true rfl, Nat.le_of_ble_eq_true rfl⟩ dX11_init_28 (fun q7 m7 a7 H locs hp7 hW hS => ?_)
  obtain ⟨hq7, hm7, ha7, hF7, hR7, hV7⟩ := hp7
  have hF := FS.keep hF hq7 hm7 (by decide)
  have hV := VS.keep hV hm7 (by decide)
  have hm := kept hm hm7 (by decide)
  have hR := AS.keep hR ha7 (by decide)
  have ha := kept ha ha7 (by decide)
  have hq := kepq hq hq7 (by decide)
  have hF := hF7.app hF
  have hR := hR7.app hR
  have hV := hV7.app hV
  rw [← hq7 0 (by decide)] at hl ⊢
  rw [← hq7 5 (by decide)]
  refine gp11_2 hx hb hG hown hW hS (o := 0) (by decide) gk0 (v := q7 5) hin gx20 dX11_init_31 (fun m8 H locs hm8 ho8 hW hS => ?_)
  have hF := FS.put hF ho8 (by decide)
  have hV := VS.put hV ho8 (by decide)
  have hm := kepm hm ho8 (by decide)
  have hF := hF.cons hm8
  refine lv_aload_n hx hb dX11_init_34 rfl (lv_at hl 0 rfl) ?_
  refine g_new (C := RX0) (T := TX0) (n := 3) (ci := 0) (fs := [.null, .int 0, .int 0]) hx hb hG gm_wsX00 tyX0 tyX0_ok hown gx21 gx22 gx23 hW hS hA gk8 rfl (by decide) rfl rfl (fun j hj => by rcases (show j = 0 ∨ j = 1 ∨ j = 2 by omega) with rfl | rfl | rfl <;> rfl) (Nat.le_of_ble_eq_true rfl) (Nat.le_of_ble_eq_true rfl) dX11_init_35 (fun q9 m9 H hq9 hm9 hd9 hW hS => ?_)
  have hF := FS.keep hF hq9 hm9 (by decide)
  have hV := VS.keep hV hm9 (by decide)
  have hm := kept hm hm9 (by decide)
  have hq := kepq hq hq9 (by decide)
  rw [← hq9 0 (by decide)] at hl ⊢
  refine lv_dup hx hb dX11_init_38 rfl ?_
  refine g_InN (n := 0) (o := 8) (rest := [.ref (q9 8), .ref (q9 0)]) hx hb hml hown hG hW hS hA hNW [] (kX0_init_8 hd9) rfl (List.mem_of_getElem? (i := 1) rfl) gx58 gx23 gx59 rfl rfl (by decide) ⟨Nat.le_of_ble_eq_true rfl, Nat.le_of_ble_eq_true rfl⟩ rfl hl (Nat.le_of_ble_eq_true rfl) ⟨Nat.le_of_ble_eq_true rfl, Nat.le_of_ble_eq_true rfl⟩ dX11_init_39 (fun q10 m10 a10 H locs hp10 hW hS => ?_)
  obtain ⟨hq10, hm10, ha10, hF10, hR10, hV10⟩ := hp10
  have hF := FS.keep hF hq10 hm10 (by decide)
  have hV := VS.keep hV hm10 (by decide)
  have hm := kept hm hm10 (by decide)
  have hR := AS.keep hR ha10 (by decide)
  have ha := kept ha ha10 (by decide)
  have hq := kepq hq hq10 (by decide)
  have hF := hF10.app hF
  have hR := hR10.app hR
  have hV := hV10.app hV
  rw [← hq10 0 (by decide)] at hl ⊢
  rw [← hq10 8 (by decide)]
  refine gp11_3 hx hb hG hown hW hS (o := 0) (by decide) gk0 (v := q10 8) hin gx24 dX11_init_42 (fun m11 H locs hm11 ho11 hW hS => ?_)
  have hF := FS.put hF ho11 (by decide)
  have hV := VS.put hV ho11 (by decide)
  have hm := kepm hm ho11 (by decide)
  have hF := hF.cons hm11
  refine lv_aload_n hx hb dX11_init_45 rfl (lv_at hl 0 rfl) ?_
  refine g_new (C := RX8) (T := TX8) (n := 9) (ci := 8) (fs := [.null, .null, .null, .null, .null, .null, .int 0, .int 0, .int 0]) hx hb hG gm_wsX80 tyX8 tyX8_ok hown gx25 gx26 gx27 hW hS hA gk11 rfl (by decide) rfl rfl (fun j hj => by rcases (show j = 0 ∨ j = 1 ∨ j = 2 ∨ j = 3 ∨ j = 4 ∨ j = 5 ∨ j = 6 ∨ j = 7 ∨ j = 8 by omega) with rfl | rfl | rfl | rfl | rfl | rfl | rfl | rfl | rfl <;> rfl) (Nat.le_of_ble_eq_true rfl) (Nat.le_of_ble_eq_true rfl) dX11_init_46 (fun q12 m12 H hq12 hm12 hd12 hW hS => ?_)
  have hF := FS.keep hF hq12 hm12 (by decide)
  have hV := VS.keep hV hm12 (by decide)
  have hm := kept hm hm12 (by decide)
  have hq := kepq hq hq12 (by decide)
  rw [← hq12 0 (by decide)] at hl ⊢
  refine lv_dup hx hb dX11_init_49 rfl ?_
  refine g_InN (n := 0) (o := 11) (rest := [.ref (q12 11), .ref (q12 0)]) hx hb hml hown hG hW hS hA hNW [] (kX8_init hd12) rfl (List.mem_of_getElem? (i := 2) rfl) gx64 gx27 gx65 rfl rfl (by decide) ⟨Nat.le_of_ble_eq_true rfl, Nat.le_of_ble_eq_true rfl⟩ rfl hl (Nat.le_of_ble_eq_true rfl) ⟨Nat.le_of_ble_eq_true rfl, Nat.le_of_ble_eq_true rfl⟩ dX11_init_50 (fun q13 m13 a13 H locs hp13 hW hS => ?_)
  obtain ⟨hq13, hm13, ha13, hF13, hR13, hV13⟩ := hp13
  have hF := FS.keep hF hq13 hm13 (by decide)
  have hV := VS.keep hV hm13 (by decide)
  have hm := kept hm hm13 (by decide)
  have hR := AS.keep hR ha13 (by decide)
  have ha := kept ha ha13 (by decide)
  have hq := kepq hq hq13 (by decide)
  have hF := hF13.app hF
  have hR := hR13.app hR
  have hV := hV13.app hV
  rw [← hq13 0 (by decide)] at hl ⊢
  rw [← hq13 11 (by decide)]
  refine gp11_4 hx hb hG hown hW hS (o := 0) (by decide) gk0 (v := q13 11) hin gx28 dX11_init_53 (fun m14 H locs hm14 ho14 hW hS => ?_)
  have hF := FS.put hF ho14 (by decide)
  have hV := VS.put hV ho14 (by decide)
  have hm := kepm hm ho14 (by decide)
  have hF := hF.cons hm14
  refine lv_aload_n hx hb dX11_init_56 rfl (lv_at hl 0 rfl) ?_
  refine g_new (C := RX10) (T := TX10) (n := 5) (ci := 10) (fs := [.int 0, .null, .int 0, .int 0, .int 0]) hx hb hG gm_wsX100 tyX10 tyX10_ok hown gx29 gx30 gx31 hW hS hA gk24 rfl (by decide) rfl rfl (fun j hj => by rcases (show j = 0 ∨ j = 1 ∨ j = 2 ∨ j = 3 ∨ j = 4 by omega) with rfl | rfl | rfl | rfl | rfl <;> rfl) (Nat.le_of_ble_eq_true rfl) (Nat.le_of_ble_eq_true rfl) dX11_init_57 (fun q15 m15 H hq15 hm15 hd15 hW hS => ?_)
  have hF := FS.keep hF hq15 hm15 (by decide)
  have hV := VS.keep hV hm15 (by decide)
  have hm := kept hm hm15 (by decide)
  have hq := kepq hq hq15 (by decide)
  rw [← hq15 0 (by decide)] at hl ⊢
  refine lv_dup hx hb dX11_init_60 rfl ?_
  refine g_InN (n := 0) (o := 24) (rest := [.ref (q15 24), .ref (q15 0)]) hx hb hml hown hG hW hS hA hNW [] (kX10_init hd15) rfl (List.mem_of_getElem? (i := 3) rfl) gx75 gx31 gx76 rfl rfl (by decide) ⟨Nat.le_of_ble_eq_true rfl, Nat.le_of_ble_eq_true rfl⟩ rfl hl (Nat.le_of_ble_eq_true rfl) ⟨Nat.le_of_ble_eq_true rfl, Nat.le_of_ble_eq_true rfl⟩ dX11_init_61 (fun q16 m16 a16 H locs hp16 hW hS => ?_)
  obtain ⟨hq16, hm16, ha16, hF16, hR16, hV16⟩ := hp16
  have hF := FS.keep hF hq16 hm16 (by decide)
  have hV := VS.keep hV hm16 (by decide)
  have hm := kept hm hm16 (by decide)
  have hR := AS.keep hR ha16 (by decide)
  have ha := kept ha ha16 (by decide)
  have hq := kepq hq hq16 (by decide)
  have hF := hF16.app hF
  have hR := hR16.app hR
  have hV := hV16.app hV
  rw [← hq16 0 (by decide)] at hl ⊢
  rw [← hq16 24 (by decide)]
  refine gp11_5 hx hb hG hown hW hS (o := 0) (by decide) gk0 (v := q16 24) hin gx32 dX11_init_64 (fun m17 H locs hm17 ho17 hW hS => ?_)
  have hF := FS.put hF ho17 (by decide)
  have hV := VS.put hV ho17 (by decide)
  have hm := kepm hm ho17 (by decide)
  have hF := hF.cons hm17
  refine lv_aload_n hx hb dX11_init_67 rfl (lv_at hl 0 rfl) ?_
  refine g_new (C := RX9) (T := TX9) (n := 11) (ci := 9) (fs := [.null, .null, .null, .null, .null, .int 0, .long 0, .int 0, .int 0, .long 0, .int 0]) hx hb hG gm_wsX90 tyX9 tyX9_ok hown gx33 gx34 gx35 hW hS hA gk27 rfl (by decide) rfl rfl (fun j hj => by rcases (show j = 0 ∨ j = 1 ∨ j = 2 ∨ j = 3 ∨ j = 4 ∨ j = 5 ∨ j = 6 ∨ j = 7 ∨ j = 8 ∨ j = 9 ∨ j = 10 by omega) with rfl | rfl | rfl | rfl | rfl | rfl | rfl | rfl | rfl | rfl | rfl <;> rfl) (Nat.le_of_ble_eq_true rfl) (Nat.le_of_ble_eq_true rfl) dX11_init_68 (fun q18 m18 H hq18 hm18 hd18 hW hS => ?_)
  have hF := FS.keep hF hq18 hm18 (by decide)
  have hV := VS.keep hV hm18 (by decide)
  have hm := kept hm hm18 (by decide)
  have hq := kepq hq hq18 (by decide)
  rw [← hq18 0 (by decide)] at hl ⊢
  refine lv_dup hx hb dX11_init_71 rfl ?_
  refine g_InN (n := 0) (o := 27) (rest := [.ref (q18 27), .ref (q18 0)]) hx hb hml hown hG hW hS hA hNW [] (kX9_init hd18) rfl (List.mem_of_getElem? (i := 4) rfl) gx81 gx35 gx82 rfl rfl (by decide) ⟨Nat.le_of_ble_eq_true rfl, Nat.le_of_ble_eq_true rfl⟩ rfl hl (Nat.le_of_ble_eq_true rfl) ⟨Nat.le_of_ble_eq_true rfl, Nat.le_of_ble_eq_true rfl⟩ dX11_init_72 (fun q19 m19 a19 H locs hp19 hW hS => ?_)
  obtain ⟨hq19, hm19, ha19, hF19, hR19, hV19⟩ := hp19
  have hF := FS.keep hF hq19 hm19 (by decide)
  have hV := VS.keep hV hm19 (by decide)
  have hm := kept hm hm19 (by decide)
  have hR := AS.keep hR ha19 (by decide)
  have ha := kept ha ha19 (by decide)
  have hq := kepq hq hq19 (by decide)
  have hF := hF19.app hF
  have hR := hR19.app hR
  have hV := hV19.app hV
  rw [← hq19 0 (by decide)] at hl ⊢
  rw [← hq19 27 (by decide)]
  refine gp11_6 hx hb hG hown hW hS (o := 0) (by decide) gk0 (v := q19 27) hin gx36 dX11_init_75 (fun m20 H locs hm20 ho20 hW hS => ?_)
  have hF := FS.put hF ho20 (by decide)
  have hV := VS.put hV ho20 (by decide)
  have hm := kepm hm ho20 (by decide)
  have hF := hF.cons hm20
  refine lv_aload_n hx hb dX11_init_78 rfl (lv_at hl 0 rfl) ?_
  refine g_new (C := RX7) (T := TX7) (n := 4) (ci := 7) (fs := [.int 0, .int 0, .int 0, .int 0]) hx hb hG gm_wsX70 tyX7 tyX7_ok hown gx37 gx38 gx39 hW hS hA gk68 rfl (by decide) rfl rfl (fun j hj => by rcases (show j = 0 ∨ j = 1 ∨ j = 2 ∨ j = 3 by omega) with rfl | rfl | rfl | rfl <;> rfl) (Nat.le_of_ble_eq_true rfl) (Nat.le_of_ble_eq_true rfl) dX11_init_79 (fun q21 m21 H hq21 hm21 hd21 hW hS => ?_)
  have hF := FS.keep hF hq21 hm21 (by decide)
  have hV := VS.keep hV hm21 (by decide)
  have hm := kept hm hm21 (by decide)
  have hq := kepq hq hq21 (by decide)
  rw [← hq21 0 (by decide)] at hl ⊢
  refine lv_dup hx hb dX11_init_82 rfl ?_
  refine lv_iconst (v := 1) hx hb dX11_init_83 (by decide) ?_
  refine lv_iconst (v := 3) hx hb dX11_init_84 (by decide) ?_
  refine lv_iconst (v := 3) hx hb dX11_init_85 (by decide) ?_
  refine lv_iconst (v := 2) hx hb dX11_init_86 (by decide) ?_
  refine g_In (n := 4) (o := 68) (rest := [.ref (q21 68), .ref (q21 0)]) hx hb hml hown hG hW hS hA hNW [.int 1, .int 3, .int 3, .int 2] (kX7_init (o := 68) gk68 1 3 3 2) rfl gx146 gx147 gx39 gx148 rfl rfl (by decide) ⟨Nat.le_of_ble_eq_true rfl, Nat.le_of_ble_eq_true rfl⟩ rfl hl (Nat.le_of_ble_eq_true rfl) ⟨Nat.le_of_ble_eq_true rfl, Nat.le_of_ble_eq_true rfl⟩ dX11_init_87 (fun q22 m22 a22 H locs hp22 hW hS => ?_)
  obtain ⟨hq22, hm22, ha22, hF22, hR22, hV22⟩ := hp22
  have hF := FS.keep hF hq22 hm22 (by decide)
  have hV := VS.keep hV hm22 (by decide)
  have hm := kept hm hm22 (by decide)
  have hR := AS.keep hR ha22 (by decide)
  have ha := kept ha ha22 (by decide)
  have hq := kepq hq hq22 (by decide)
  have hF := hF22.app hF
  have hR := hR22.app hR
  have hV := hV22.app hV
  rw [← hq22 0 (by decide)] at hl ⊢
  rw [← hq22 68 (by decide)]
  refine gp11_7 hx hb hG hown hW hS (o := 0) (by decide) gk0 (v := q22 68) gx40 dX11_init_90 (fun m23 H locs hm23 ho23 hW hS => ?_)
  have hF := FS.put hF ho23 (by decide)
  have hV := VS.put hV ho23 (by decide)
  have hm := kepm hm ho23 (by decide)
  have hF := hF.cons hm23
  refine lv_aload_n hx hb dX11_init_93 rfl (lv_at hl 0 rfl) ?_
  refine lv_aload_n hx hb dX11_init_94 rfl (lv_at hl 0 rfl) ?_
  refine gf11_7 hx hb hG hown hW (o := 0) (by decide) gk0 (v := .ref (q22 68)) (hF (7, 68) (List.mem_of_getElem? (i := 0) rfl)) gx40 dX11_init_95 ?_
  refine g_VlA (n := 0) (o := 68) (rest := [.ref (q22 0)]) hx hb hml hown hG hW hS hA [] (kX7_atFirst0 (o := 68) (by decide) gk68 (hV (6801, .int 3) (List.mem_of_getElem? (i := 2) rfl))) (by decide) gk68 (by decide) rfl rfl (gd_V gx154 gx155 gx156 gx39 gx157) rfl rfl (by decide) ⟨Nat.le_of_ble_eq_true rfl, Nat.le_of_ble_eq_true rfl⟩ rfl hl (Nat.le_of_ble_eq_true rfl) ⟨Nat.le_of_ble_eq_true rfl, Nat.le_of_ble_eq_true rfl⟩ dX11_init_98 (fun H locs hW hS => ?_)
  refine gp11_8 hx hb hG hown hW hS (o := 0) (by decide) gk0 (v := fX7_atFirst 3) gx41 dX11_init_101 (fun m24 H locs hm24 ho24 hW hS => ?_)
  have hF := FS.put hF ho24 (by decide)
  have hV := VS.put hV ho24 (by decide)
  have hm := kepm hm ho24 (by decide)
  have hV := hV.cons hm24
  refine W.widen (k := 68) (n := 221063) (Nat.le_of_ble_eq_true rfl) (Nat.le_of_ble_eq_true rfl) ?_
  exact hend q22 m24 a22 H locs _ ls hW hS ⟨hq, hm, ha, hF, hR, hV⟩ dX11_init_104
theorem dX12_init_0 : decode cX12_init 0 = .ok (.aload_n 0, 1) := by decide +kernel
theorem dX12_init_1 : decode cX12_init 1 = .ok (.invokespecial 1, 3) := by decide +kernel
theorem dX12_init_4 : decode cX12_init 4 = .ok (.aload_n 0, 1) := by decide +kernel
theorem dX12_init_5 : decode cX12_init 5 = .ok (.iconst 1, 1) := by decide +kernel
theorem dX12_init_6 : decode cX12_init 6 = .ok (.putfield 7, 3) := by decide +kernel
theorem dX12_init_9 : decode cX12_init 9 = .ok (.aload_n 0, 1) := by decide +kernel
theorem dX12_init_10 : decode cX12_init 10 = .ok (.iconst 3, 1) := by decide +kernel
theorem dX12_init_11 : decode cX12_init 11 = .ok (.putfield 13, 3) := by decide +kernel
theorem dX12_init_14 : decode cX12_init 14 = .ok (.aload_n 0, 1) := by decide +kernel
theorem dX12_init_15 : decode cX12_init 15 = .ok (.iconst 3, 1) := by decide +kernel
theorem dX12_init_16 : decode cX12_init 16 = .ok (.putfield 16, 3) := by decide +kernel
theorem dX12_init_19 : decode cX12_init 19 = .ok (.aload_n 0, 1) := by decide +kernel
theorem dX12_init_20 : decode cX12_init 20 = .ok (.iconst 2, 1) := by decide +kernel
theorem dX12_init_21 : decode cX12_init 21 = .ok (.putfield 19, 3) := by decide +kernel
theorem dX12_init_24 : decode cX12_init 24 = .ok (.aload_n 0, 1) := by decide +kernel
theorem dX12_init_25 : decode cX12_init 25 = .ok (.bipush 30, 2) := by decide +kernel
theorem dX12_init_27 : decode cX12_init 27 = .ok (.newarray .int, 2) := by decide +kernel
theorem dX12_init_29 : decode cX12_init 29 = .ok (.putfield 22, 3) := by decide +kernel
theorem dX12_init_32 : decode cX12_init 32 = .ok (.aload_n 0, 1) := by decide +kernel
theorem dX12_init_33 : decode cX12_init 33 = .ok (.bipush 8, 2) := by decide +kernel
theorem dX12_init_35 : decode cX12_init 35 = .ok (.newarray .int, 2) := by decide +kernel
theorem dX12_init_37 : decode cX12_init 37 = .ok (.putfield 26, 3) := by decide +kernel
theorem dX12_init_40 : decode cX12_init 40 = .ok (.aload_n 0, 1) := by decide +kernel
theorem dX12_init_41 : decode cX12_init 41 = .ok (.bipush 40, 2) := by decide +kernel
theorem dX12_init_43 : decode cX12_init 43 = .ok (.newarray .int, 2) := by decide +kernel
theorem dX12_init_45 : decode cX12_init 45 = .ok (.putfield 29, 3) := by decide +kernel
theorem dX12_init_48 : decode cX12_init 48 = .ok (.aload_n 0, 1) := by decide +kernel
theorem dX12_init_49 : decode cX12_init 49 = .ok (.bipush 40, 2) := by decide +kernel
theorem dX12_init_51 : decode cX12_init 51 = .ok (.newarray .int, 2) := by decide +kernel
theorem dX12_init_53 : decode cX12_init 53 = .ok (.putfield 32, 3) := by decide +kernel
theorem dX12_init_56 : decode cX12_init 56 = .ok (.aload_n 0, 1) := by decide +kernel
theorem dX12_init_57 : decode cX12_init 57 = .ok (.bipush 30, 2) := by decide +kernel
theorem dX12_init_59 : decode cX12_init 59 = .ok (.newarray .int, 2) := by decide +kernel
theorem dX12_init_61 : decode cX12_init 61 = .ok (.putfield 35, 3) := by decide +kernel
theorem dX12_init_64 : decode cX12_init 64 = .ok (.aload_n 0, 1) := by decide +kernel
theorem dX12_init_65 : decode cX12_init 65 = .ok (.sipush 264, 3) := by decide +kernel
theorem dX12_init_68 : decode cX12_init 68 = .ok (.newarray .int, 2) := by decide +kernel
theorem dX12_init_70 : decode cX12_init 70 = .ok (.putfield 38, 3) := by decide +kernel
theorem dX12_init_73 : decode cX12_init 73 = .ok (.aload_n 0, 1) := by decide +kernel
theorem dX12_init_74 : decode cX12_init 74 = .ok (.bipush 40, 2) := by decide +kernel
theorem dX12_init_76 : decode cX12_init 76 = .ok (.newarray .int, 2) := by decide +kernel
theorem dX12_init_78 : decode cX12_init 78 = .ok (.putfield 41, 3) := by decide +kernel
theorem dX12_init_81 : decode cX12_init 81 = .ok (.aload_n 0, 1) := by decide +kernel
theorem dX12_init_82 : decode cX12_init 82 = .ok (.bipush 40, 2) := by decide +kernel
theorem dX12_init_84 : decode cX12_init 84 = .ok (.newarray .int, 2) := by decide +kernel
theorem dX12_init_86 : decode cX12_init 86 = .ok (.putfield 44, 3) := by decide +kernel
theorem dX12_init_89 : decode cX12_init 89 = .ok (.aload_n 0, 1) := by decide +kernel
theorem dX12_init_90 : decode cX12_init 90 = .ok (.bipush 40, 2) := by decide +kernel
theorem dX12_init_92 : decode cX12_init 92 = .ok (.newarray .int, 2) := by decide +kernel
theorem dX12_init_94 : decode cX12_init 94 = .ok (.putfield 47, 3) := by decide +kernel
theorem dX12_init_97 : decode cX12_init 97 = .ok (.aload_n 0, 1) := by decide +kernel
theorem dX12_init_98 : decode cX12_init 98 = .ok (.sipush 6001, 3) := by decide +kernel
theorem dX12_init_101 : decode cX12_init 101 = .ok (.newarray .long, 2) := by decide +kernel
theorem dX12_init_103 : decode cX12_init 103 = .ok (.putfield 50, 3) := by decide +kernel
theorem dX12_init_106 : decode cX12_init 106 = .ok (.aload_n 0, 1) := by decide +kernel
theorem dX12_init_107 : decode cX12_init 107 = .ok (.sipush 16384, 3) := by decide +kernel
theorem dX12_init_110 : decode cX12_init 110 = .ok (.newarray .int, 2) := by decide +kernel
theorem dX12_init_112 : decode cX12_init 112 = .ok (.putfield 54, 3) := by decide +kernel
theorem dX12_init_115 : decode cX12_init 115 = .ok (.aload_n 0, 1) := by decide +kernel
theorem dX12_init_116 : decode cX12_init 116 = .ok (.sipush 6002, 3) := by decide +kernel
theorem dX12_init_119 : decode cX12_init 119 = .ok (.newarray .int, 2) := by decide +kernel
theorem dX12_init_121 : decode cX12_init 121 = .ok (.putfield 57, 3) := by decide +kernel
theorem dX12_init_124 : decode cX12_init 124 = .ok (.aload_n 0, 1) := by decide +kernel
theorem dX12_init_125 : decode cX12_init 125 = .ok (.ldc 60, 2) := by decide +kernel
theorem dX12_init_127 : decode cX12_init 127 = .ok (.newarray .int, 2) := by decide +kernel
theorem dX12_init_129 : decode cX12_init 129 = .ok (.putfield 61, 3) := by decide +kernel
theorem dX12_init_132 : decode cX12_init 132 = .ok (.aload_n 0, 1) := by decide +kernel
theorem dX12_init_133 : decode cX12_init 133 = .ok (.ldc 60, 2) := by decide +kernel
theorem dX12_init_135 : decode cX12_init 135 = .ok (.newarray .int, 2) := by decide +kernel
theorem dX12_init_137 : decode cX12_init 137 = .ok (.putfield 64, 3) := by decide +kernel
theorem dX12_init_140 : decode cX12_init 140 = .ok (.aload_n 0, 1) := by decide +kernel
theorem dX12_init_141 : decode cX12_init 141 = .ok (.ldc 60, 2) := by decide +kernel
theorem dX12_init_143 : decode cX12_init 143 = .ok (.newarray .int, 2) := by decide +kernel
theorem dX12_init_145 : decode cX12_init 145 = .ok (.putfield 67, 3) := by decide +kernel
theorem dX12_init_148 : decode cX12_init 148 = .ok (.aload_n 0, 1) := by decide +kernel
theorem dX12_init_149 : decode cX12_init 149 = .ok (.ldc 60, 2) := by decide +kernel
theorem dX12_init_151 : decode cX12_init 151 = .ok (.newarray .int, 2) := by decide +kernel
theorem dX12_init_153 : decode cX12_init 153 = .ok (.putfield 70, 3) := by decide +kernel
theorem dX12_init_156 : decode cX12_init 156 = .ok (.aload_n 0, 1) := by decide +kernel
theorem dX12_init_157 : decode cX12_init 157 = .ok (.ldc 60, 2) := by decide +kernel
theorem dX12_init_159 : decode cX12_init 159 = .ok (.newarray .int, 2) := by decide +kernel
theorem dX12_init_161 : decode cX12_init 161 = .ok (.putfield 73, 3) := by decide +kernel
theorem dX12_init_164 : decode cX12_init 164 = .ok (.aload_n 0, 1) := by decide +kernel
theorem dX12_init_165 : decode cX12_init 165 = .ok (.sipush 6001, 3) := by decide +kernel
theorem dX12_init_168 : decode cX12_init 168 = .ok (.newarray .int, 2) := by decide +kernel
theorem dX12_init_170 : decode cX12_init 170 = .ok (.putfield 76, 3) := by decide +kernel
theorem dX12_init_173 : decode cX12_init 173 = .ok (.aload_n 0, 1) := by decide +kernel
theorem dX12_init_174 : decode cX12_init 174 = .ok (.sipush 6001, 3) := by decide +kernel
theorem dX12_init_177 : decode cX12_init 177 = .ok (.newarray .int, 2) := by decide +kernel
theorem dX12_init_179 : decode cX12_init 179 = .ok (.putfield 79, 3) := by decide +kernel
theorem dX12_init_182 : decode cX12_init 182 = .ok (.aload_n 0, 1) := by decide +kernel
theorem dX12_init_183 : decode cX12_init 183 = .ok (.sipush 6001, 3) := by decide +kernel
theorem dX12_init_186 : decode cX12_init 186 = .ok (.newarray .int, 2) := by decide +kernel
theorem dX12_init_188 : decode cX12_init 188 = .ok (.putfield 82, 3) := by decide +kernel
theorem dX12_init_191 : decode cX12_init 191 = .ok (.aload_n 0, 1) := by decide +kernel
theorem dX12_init_192 : decode cX12_init 192 = .ok (.sipush 6001, 3) := by decide +kernel
theorem dX12_init_195 : decode cX12_init 195 = .ok (.newarray .int, 2) := by decide +kernel
theorem dX12_init_197 : decode cX12_init 197 = .ok (.putfield 85, 3) := by decide +kernel
theorem dX12_init_200 : decode cX12_init 200 = .ok (.aload_n 0, 1) := by decide +kernel
theorem dX12_init_201 : decode cX12_init 201 = .ok (.sipush 6001, 3) := by decide +kernel
theorem dX12_init_204 : decode cX12_init 204 = .ok (.newarray .boolean, 2) := by decide +kernel
theorem dX12_init_206 : decode cX12_init 206 = .ok (.putfield 88, 3) := by decide +kernel
theorem dX12_init_209 : decode cX12_init 209 = .ok (.aload_n 0, 1) := by decide +kernel
theorem dX12_init_210 : decode cX12_init 210 = .ok (.sipush 6001, 3) := by decide +kernel
theorem dX12_init_213 : decode cX12_init 213 = .ok (.newarray .int, 2) := by decide +kernel
theorem dX12_init_215 : decode cX12_init 215 = .ok (.putfield 92, 3) := by decide +kernel
theorem dX12_init_218 : decode cX12_init 218 = .ok (.aload_n 0, 1) := by decide +kernel
theorem dX12_init_219 : decode cX12_init 219 = .ok (.sipush 6001, 3) := by decide +kernel
theorem dX12_init_222 : decode cX12_init 222 = .ok (.newarray .int, 2) := by decide +kernel
theorem dX12_init_224 : decode cX12_init 224 = .ok (.putfield 95, 3) := by decide +kernel
theorem dX12_init_227 : decode cX12_init 227 = .ok (.aload_n 0, 1) := by decide +kernel
theorem dX12_init_228 : decode cX12_init 228 = .ok (.sipush 6001, 3) := by decide +kernel
theorem dX12_init_231 : decode cX12_init 231 = .ok (.newarray .int, 2) := by decide +kernel
theorem dX12_init_233 : decode cX12_init 233 = .ok (.putfield 98, 3) := by decide +kernel
theorem dX12_init_236 : decode cX12_init 236 = .ok (.aload_n 0, 1) := by decide +kernel
theorem dX12_init_237 : decode cX12_init 237 = .ok (.sipush 6001, 3) := by decide +kernel
theorem dX12_init_240 : decode cX12_init 240 = .ok (.newarray .int, 2) := by decide +kernel
theorem dX12_init_242 : decode cX12_init 242 = .ok (.putfield 101, 3) := by decide +kernel
theorem dX12_init_245 : decode cX12_init 245 = .ok (.aload_n 0, 1) := by decide +kernel
theorem dX12_init_246 : decode cX12_init 246 = .ok (.sipush 6002, 3) := by decide +kernel
theorem dX12_init_249 : decode cX12_init 249 = .ok (.newarray .int, 2) := by decide +kernel
theorem dX12_init_251 : decode cX12_init 251 = .ok (.putfield 104, 3) := by decide +kernel
theorem dX12_init_254 : decode cX12_init 254 = .ok (.aload_n 0, 1) := by decide +kernel
theorem dX12_init_255 : decode cX12_init 255 = .ok (.sipush 6001, 3) := by decide +kernel
theorem dX12_init_258 : decode cX12_init 258 = .ok (.newarray .int, 2) := by decide +kernel
theorem dX12_init_260 : decode cX12_init 260 = .ok (.putfield 107, 3) := by decide +kernel
theorem dX12_init_263 : decode cX12_init 263 = .ok (.aload_n 0, 1) := by decide +kernel
theorem dX12_init_264 : decode cX12_init 264 = .ok (.sipush 6001, 3) := by decide +kernel
theorem dX12_init_267 : decode cX12_init 267 = .ok (.newarray .double, 2) := by decide +kernel
theorem dX12_init_269 : decode cX12_init 269 = .ok (.putfield 110, 3) := by decide +kernel
theorem dX12_init_272 : decode cX12_init 272 = .ok (.aload_n 0, 1) := by decide +kernel
theorem dX12_init_273 : decode cX12_init 273 = .ok (.sipush 6001, 3) := by decide +kernel
theorem dX12_init_276 : decode cX12_init 276 = .ok (.newarray .double, 2) := by decide +kernel
theorem dX12_init_278 : decode cX12_init 278 = .ok (.putfield 114, 3) := by decide +kernel
theorem dX12_init_281 : decode cX12_init 281 = .ok (.aload_n 0, 1) := by decide +kernel
theorem dX12_init_282 : decode cX12_init 282 = .ok (.bipush 25, 2) := by decide +kernel
theorem dX12_init_284 : decode cX12_init 284 = .ok (.newarray .int, 2) := by decide +kernel
theorem dX12_init_286 : decode cX12_init 286 = .ok (.putfield 117, 3) := by decide +kernel
theorem dX12_init_289 : decode cX12_init 289 = .ok (.aload_n 0, 1) := by decide +kernel
theorem dX12_init_290 : decode cX12_init 290 = .ok (.bipush 25, 2) := by decide +kernel
theorem dX12_init_292 : decode cX12_init 292 = .ok (.newarray .int, 2) := by decide +kernel
theorem dX12_init_294 : decode cX12_init 294 = .ok (.putfield 120, 3) := by decide +kernel
theorem dX12_init_297 : decode cX12_init 297 = .ok (.aload_n 0, 1) := by decide +kernel
theorem dX12_init_298 : decode cX12_init 298 = .ok (.bipush 25, 2) := by decide +kernel
theorem dX12_init_300 : decode cX12_init 300 = .ok (.newarray .int, 2) := by decide +kernel
theorem dX12_init_302 : decode cX12_init 302 = .ok (.putfield 123, 3) := by decide +kernel
theorem dX12_init_305 : decode cX12_init 305 = .ok (.aload_n 0, 1) := by decide +kernel
theorem dX12_init_306 : decode cX12_init 306 = .ok (.sipush 1681, 3) := by decide +kernel
theorem dX12_init_309 : decode cX12_init 309 = .ok (.newarray .int, 2) := by decide +kernel
theorem dX12_init_311 : decode cX12_init 311 = .ok (.putfield 126, 3) := by decide +kernel
theorem dX12_init_314 : decode cX12_init 314 = .ok (.aload_n 0, 1) := by decide +kernel
theorem dX12_init_315 : decode cX12_init 315 = .ok (.lconst 0, 1) := by decide +kernel
theorem dX12_init_316 : decode cX12_init 316 = .ok (.bipush 7, 2) := by decide +kernel
theorem dX12_init_318 : decode cX12_init 318 = .ok (.iconst 2, 1) := by decide +kernel
theorem dX12_init_319 : decode cX12_init 319 = .ok (.aload_n 0, 1) := by decide +kernel
theorem dX12_init_320 : decode cX12_init 320 = .ok (.getfield 13, 3) := by decide +kernel
theorem dX12_init_323 : decode cX12_init 323 = .ok (.iconst 1, 1) := by decide +kernel
theorem dX12_init_324 : decode cX12_init 324 = .ok (.isub, 1) := by decide +kernel
theorem dX12_init_325 : decode cX12_init 325 = .ok (.invokestatic 129, 3) := by decide +kernel
theorem dX12_init_328 : decode cX12_init 328 = .ok (.putfield 133, 3) := by decide +kernel
theorem dX12_init_331 : decode cX12_init 331 = .ok (.return_, 1) := by decide +kernel
set_option maxHeartbeats 4000000 in
set_option maxRecDepth 100000 in
theorem kX12_init {l : Launch} {D : va_G} {cy : Nat → ClassId} {q : Nat → Nat} {m0 : Nat → Value} {a0 : Nat → vp_A} {sz : Nat} (hdef : ∀ j, j < 67 → m0 (100 * 69 + j) = vp_V [.int 0, .int 0, .int 0, .int 0, .long 0, .null, .int 0, .null, .null, .int 0, .null, .int 0, .int 0, .long 0, .null, .int 0, .null, .int 0, .int 0, .long 0, .int 0, .int 0, .int 0, .null, .null, .null, .null, .int 0, .null, .null, .null, .null, .null, .null, .null, .int 0, .null, .null, .null, .null, .null, .null, .null, .int 0, .int 0, .int 0, .null, .null, .null, .null, .null, .null, .null, .null, .null, .int 0, .null, .int 0, .int 0, .int 0, .int 0, .long 0, .int 0, .int 0, .int 0, .int 0, .int 0] j) : gMg l yX12_init cX12_init 1 ({ frames := 1, cells := 34, slots := 528689, locals := 24 } : Room) D cy 70 104 q m0 a0 sz [.ref (q 69)] 34 528689 (MK 69 70 q m0 a0 [(6956, 103), (6954, 102), (6953, 101), (6952, 100), (6951, 99), (6950, 98), (6949, 97), (6948, 96), (6947, 95), (6946, 94), (6942, 93), (6941, 92), (6940, 91), (6939, 90), (6938, 89), (6937, 88), (6936, 87), (6934, 86), (6933, 85), (6932, 84), (6931, 83), (6930, 82), (6929, 81), (6928, 80), (6926, 79), (6925, 78), (6924, 77), (6923, 76), (6916, 75), (6914, 74), (6910, 73), (6908, 72), (6907, 71), (6905, 70)] [(103, zI 1681), (102, zI 25), (101, zI 25), (100, zI 25), (99, zD 6001), (98, zD 6001), (97, zI 6001), (96, zI 6002), (95, zI 6001), (94, zI 6001), (93, zI 6001), (92, zI 6001), (91, zI 6001), (90, zI 6001), (89, zI 6001), (88, zI 6001), (87, zI 6001), (86, zI 84000), (85, zI 84000), (84, zI 84000), (83, zI 84000), (82, zI 84000), (81, zI 6002), (80, zI 16384), (79, zJ 6001), (78, zI 40), (77, zI 40), (76, zI 40), (75, zI 264), (74, zI 30), (73, zI 40), (72, zI 40), (71, zI 8), (70, zI 30)] [(6904, .long (fX12_put 0 7 2 (3 - 1))), (6903, .int 2), (6902, .int 3), (6901, .int 3), (6900, .int 1), (6906, .int 0), (6909, .int 0), (6911, .int 0), (6912, .int 0), (6913, .long 0), (6915, .int 0), (6917, .int 0), (6918, .int 0), (6919, .long 0), (6920, .int 0), (6921, .int 0), (6922, .int 0), (6927, .int 0), (6935, .int 0), (6943, .int 0), (6944, .int 0), (6945, .int 0), (6955, .int 0), (6957, .int 0), (6958, .int 0), (6959, .int 0), (6960, .int 0), (6961, .long 0), (6962, .int 0), (6963, .int 0), (6964, .int 0), (6965, .int 0), (6966, .int 0)]) := by
  refine g_ofg (by decide) (Nat.le_of_ble_eq_true rfl) ?_
  intro p e s M args below meth c A hx hb hr hG hown hin hlocks hml hA hNW hW hS hend ls hl
  have hl : lv_has ls 1 [(0, .ref (q 69))] := hl
  have hV : VS [(6906, .int 0), (6909, .int 0), (6911, .int 0), (6912, .int 0), (6913, .long 0), (6915, .int 0), (6917, .int 0), (6918, .int 0), (6919, .long 0), (6920, .int 0), (6921, .int 0), (6922, .int 0), (6927, .int 0), (6935, .int 0), (6943, .int 0), (6944, .int 0), (6945, .int 0), (6955, .int 0), (6957, .int 0), (6958, .int 0), (6959, .int 0), (6960, .int 0), (6961, .long 0), (6962, .int 0), (6963, .int 0), (6964, .int 0), (6965, .int 0), (6966, .int 0)] m0 := ((((((((((((((((((((((((((((VS.nil.cons (hdef 66 (by decide))).cons (hdef 65 (by decide))).cons (hdef 64 (by decide))).cons (hdef 63 (by decide))).cons (hdef 62 (by decide))).cons (hdef 61 (by decide))).cons (hdef 60 (by decide))).cons (hdef 59 (by decide))).cons (hdef 58 (by decide))).cons (hdef 57 (by decide))).cons (hdef 55 (by decide))).cons (hdef 45 (by decide))).cons (hdef 44 (by decide))).cons (hdef 43 (by decide))).cons (hdef 35 (by decide))).cons (hdef 27 (by decide))).cons (hdef 22 (by decide))).cons (hdef 21 (by decide))).cons (hdef 20 (by decide))).cons (hdef 19 (by decide))).cons (hdef 18 (by decide))).cons (hdef 17 (by decide))).cons (hdef 15 (by decide))).cons (hdef 13 (by decide))).cons (hdef 12 (by decide))).cons (hdef 11 (by decide))).cons (hdef 9 (by decide))).cons (hdef 6 (by decide)))
  have hF : FS [] q m0 := FS.nil
  have hR : AS [] a0 := AS.nil
  have hq : ∀ k, k < 70 → q k = q k := fun _ _ => rfl
  have hm : ∀ j, j < 100 * 69 → m0 j = m0 j := fun _ _ => rfl
  have ha : ∀ j, j < 70 → a0 j = a0 j := fun _ _ => rfl
  refine lv_aload_n hx hb dX12_init_0 rfl (lv_at hl 0 rfl) ?_
  refine W.objInit hx hb hown (hG _ gx161) (hG _ gx12) (hG _ gx13) rfl (by rw [hml]; exact hl.1) rfl dX12_init_1 (Nat.le_of_ble_eq_true rfl) (Nat.le_of_ble_eq_true rfl) ?_
  refine W.eq (g2 := F0 M 4 ls []) rfl ?_
  refine lv_aload_n hx hb dX12_init_4 rfl (lv_at hl 0 rfl) ?_
  refine lv_iconst (v := 1) hx hb dX12_init_5 (by decide) ?_
  refine gp12_0 hx hb hG hown hW hS (o := 69) (by decide) gk69 (v := 1) gx162 dX12_init_6 (fun m1 H locs hm1 ho1 hW hS => ?_)
  have hF : FS [] q m1 := FS.nil
  have hV := VS.put hV ho1 (by decide)
  have hm := kepm hm ho1 (by decide)
  have hV := hV.cons hm1
  refine lv_aload_n hx hb dX12_init_9 rfl (lv_at hl 0 rfl) ?_
  refine lv_iconst (v := 3) hx hb dX12_init_10 (by decide) ?_
  refine gp12_1 hx hb hG hown hW hS (o := 69) (by decide) gk69 (v := 3) gx163 dX12_init_11 (fun m2 H locs hm2 ho2 hW hS => ?_)
  have hF : FS [] q m2 := FS.nil
  have hV := VS.put hV ho2 (by decide)
  have hm := kepm hm ho2 (by decide)
  have hV := hV.cons hm2
  refine lv_aload_n hx hb dX12_init_14 rfl (lv_at hl 0 rfl) ?_
  refine lv_iconst (v := 3) hx hb dX12_init_15 (by decide) ?_
  refine gp12_2 hx hb hG hown hW hS (o := 69) (by decide) gk69 (v := 3) gx164 dX12_init_16 (fun m3 H locs hm3 ho3 hW hS => ?_)
  have hF : FS [] q m3 := FS.nil
  have hV := VS.put hV ho3 (by decide)
  have hm := kepm hm ho3 (by decide)
  have hV := hV.cons hm3
  refine lv_aload_n hx hb dX12_init_19 rfl (lv_at hl 0 rfl) ?_
  refine lv_iconst (v := 2) hx hb dX12_init_20 (by decide) ?_
  refine gp12_3 hx hb hG hown hW hS (o := 69) (by decide) gk69 (v := 2) gx165 dX12_init_21 (fun m4 H locs hm4 ho4 hW hS => ?_)
  have hF : FS [] q m4 := FS.nil
  have hV := VS.put hV ho4 (by decide)
  have hm := kepm hm ho4 (by decide)
  have hV := hV.cons hm4
  refine lv_aload_n hx hb dX12_init_24 rfl (lv_at hl 0 rfl) ?_
  refine lv_bipush (v := 30) hx hb dX12_init_25 (by decide) ?_
  refine g_newa (ty := .int) (t := 1) (N' := 30) (a0 := zI 30) hx hb rfl hG gx14 hW hS hA gk70 rfl (fun _ _ => rfl) (fun cA => rfl) (by decide) (by decide) (by decide) (Nat.le_of_ble_eq_true rfl) (Nat.le_of_ble_eq_true rfl) dX12_init_27 (fun q5 a5 H hq5 ha5 han5 hW hS => ?_)
  have hF := FS.keep (m' := _) (B := 100 * 70) hF hq5 (fun _ _ => rfl) (by decide)
  have hR := AS.keep hR ha5 (by decide)
  have ha := kept ha ha5 (by decide)
  have hq := kepq hq hq5 (by decide)
  rw [← hq5 69 (by decide)] at hl ⊢
  have hR := hR.cons han5
  refine gp12_5 hx hb hG hown hW hS (o := 69) (by decide) gk69 (v := q5 70) hin gx166 dX12_init_29 (fun m6 H locs hm6 ho6 hW hS => ?_)
  have hF : FS [] q5 m6 := FS.nil
  have hV := VS.put hV ho6 (by decide)
  have hm := kepm hm ho6 (by decide)
  have hF := hF.cons hm6
  refine lv_aload_n hx hb dX12_init_32 rfl (lv_at hl 0 rfl) ?_
  refine lv_bipush (v := 8) hx hb dX12_init_33 (by decide) ?_
  refine g_newa (ty := .int) (t := 1) (N' := 8) (a0 := zI 8) hx hb rfl hG gx14 hW hS hA gk71 rfl (fun _ _ => rfl) (fun cA => rfl) (by decide) (by decide) (by decide) (Nat.le_of_ble_eq_true rfl) (Nat.le_of_ble_eq_true rfl) dX12_init_35 (fun q7 a7 H hq7 ha7 han7 hW hS => ?_)
  have hF := FS.keep (m' := _) (B := 100 * 71) hF hq7 (fun _ _ => rfl) (by decide)
  have hR := AS.keep hR ha7 (by decide)
  have ha := kept ha ha7 (by decide)
  have hq := kepq hq hq7 (by decide)
  rw [← hq7 69 (by decide)] at hl ⊢
  have hR := hR.cons han7
  refine gp12_7 hx hb hG hown hW hS (o := 69) (by decide) gk69 (v := q7 71) hin gx167 dX12_init_37 (fun m8 H locs hm8 ho8 hW hS => ?_)
  have hF := FS.put hF ho8 (by decide)
  have hV := VS.put hV ho8 (by decide)
  have hm := kepm hm ho8 (by decide)
  have hF := hF.cons hm8
  refine lv_aload_n hx hb dX12_init_40 rfl (lv_at hl 0 rfl) ?_
  refine lv_bipush (v := 40) hx hb dX12_init_41 (by decide) ?_
  refine g_newa (ty := .int) (t := 1) (N' := 40) (a0 := zI 40) hx hb rfl hG gx14 hW hS hA gk72 rfl (fun _ _ => rfl) (fun cA => rfl) (by decide) (by decide) (by decide) (Nat.le_of_ble_eq_true rfl) (Nat.le_of_ble_eq_true rfl) dX12_init_43 (fun q9 a9 H hq9 ha9 han9 hW hS => ?_)
  have hF := FS.keep (m' := _) (B := 100 * 72) hF hq9 (fun _ _ => rfl) (by decide)
  have hR := AS.keep hR ha9 (by decide)
  have ha := kept ha ha9 (by decide)
  have hq := kepq hq hq9 (by decide)
  rw [← hq9 69 (by decide)] at hl ⊢
  have hR := hR.cons han9
  refine gp12_8 hx hb hG hown hW hS (o := 69) (by decide) gk69 (v := q9 72) hin gx168 dX12_init_45 (fun m10 H locs hm10 ho10 hW hS => ?_)
  have hF := FS.put hF ho10 (by decide)
  have hV := VS.put hV ho10 (by decide)
  have hm := kepm hm ho10 (by decide)
  have hF := hF.cons hm10
  refine lv_aload_n hx hb dX12_init_48 rfl (lv_at hl 0 rfl) ?_
  refine lv_bipush (v := 40) hx hb dX12_init_49 (by decide) ?_
  refine g_newa (ty := .int) (t := 1) (N' := 40) (a0 := zI 40) hx hb rfl hG gx14 hW hS hA gk73 rfl (fun _ _ => rfl) (fun cA => rfl) (by decide) (by decide) (by decide) (Nat.le_of_ble_eq_true rfl) (Nat.le_of_ble_eq_true rfl) dX12_init_51 (fun q11 a11 H hq11 ha11 han11 hW hS => ?_)
  have hF := FS.keep (m' := _) (B := 100 * 73) hF hq11 (fun _ _ => rfl) (by decide)
  have hR := AS.keep hR ha11 (by decide)
  have ha := kept ha ha11 (by decide)
  have hq := kepq hq hq11 (by decide)
  rw [← hq11 69 (by decide)] at hl ⊢
  have hR := hR.cons han11
  refine gp12_10 hx hb hG hown hW hS (o := 69) (by decide) gk69 (v := q11 73) hin gx169 dX12_init_53 (fun m12 H locs hm12 ho12 hW hS => ?_)
  have hF := FS.put hF ho12 (by decide)
  have hV := VS.put hV ho12 (by decide)
  have hm := kepm hm ho12 (by decide)
  have hF := hF.cons hm12
  refine lv_aload_n hx hb dX12_init_56 rfl (lv_at hl 0 rfl) ?_
  refine lv_bipush (v := 30) hx hb dX12_init_57 (by decide) ?_
  refine g_newa (ty := .int) (t := 1) (N' := 30) (a0 := zI 30) hx hb rfl hG gx14 hW hS hA gk74 rfl (fun _ _ => rfl) (fun cA => rfl) (by decide) (by decide) (by decide) (Nat.le_of_ble_eq_true rfl) (Nat.le_of_ble_eq_true rfl) dX12_init_59 (fun q13 a13 H hq13 ha13 han13 hW hS => ?_)
  have hF := FS.keep (m' := _) (B := 100 * 74) hF hq13 (fun _ _ => rfl) (by decide)
  have hR := AS.keep hR ha13 (by decide)
  have ha := kept ha ha13 (by decide)
  have hq := kepq hq hq13 (by decide)
  rw [← hq13 69 (by decide)] at hl ⊢
  have hR := hR.cons han13
  refine gp12_14 hx hb hG hown hW hS (o := 69) (by decide) gk69 (v := q13 74) hin gx170 dX12_init_61 (fun m14 H locs hm14 ho14 hW hS => ?_)
  have hF := FS.put hF ho14 (by decide)
  have hV := VS.put hV ho14 (by decide)
  have hm := kepm hm ho14 (by decide)
  have hF := hF.cons hm14
  refine lv_aload_n hx hb dX12_init_64 rfl (lv_at hl 0 rfl) ?_
  refine lv_sipush (v := 264) hx hb dX12_init_65 (by decide) ?_
  refine g_newa (ty := .int) (t := 1) (N' := 264) (a0 := zI 264) hx hb rfl hG gx14 hW hS hA gk75 rfl (fun _ _ => rfl) (fun cA => rfl) (by decide) (by decide) (by decide) (Nat.le_of_ble_eq_true rfl) (Nat.le_of_ble_eq_true rfl) dX12_init_68 (fun q15 a15 H hq15 ha15 han15 hW hS => ?_)
  have hF := FS.keep (m' := _) (B := 100 * 75) hF hq15 (fun _ _ => rfl) (by decide)
  have hR := AS.keep hR ha15 (by decide)
  have ha := kept ha ha15 (by decide)
  have hq := kepq hq hq15 (by decide)
  rw [← hq15 69 (by decide)] at hl ⊢
  have hR := hR.cons han15
  refine gp12_16 hx hb hG hown hW hS (o := 69) (by decide) gk69 (v := q15 75) hin gx171 dX12_init_70 (fun m16 H locs hm16 ho16 hW hS => ?_)
  have hF := FS.put hF ho16 (by decide)
  have hV := VS.put hV ho16 (by decide)
  have hm := kepm hm ho16 (by decide)
  have hF := hF.cons hm16
  refine lv_aload_n hx hb dX12_init_73 rfl (lv_at hl 0 rfl) ?_
  refine lv_bipush (v := 40) hx hb dX12_init_74 (by decide) ?_
  refine g_newa (ty := .int) (t := 1) (N' := 40) (a0 := zI 40) hx hb rfl hG gx14 hW hS hA gk76 rfl (fun _ _ => rfl) (fun cA => rfl) (by decide) (by decide) (by decide) (Nat.le_of_ble_eq_true rfl) (Nat.le_of_ble_eq_true rfl) dX12_init_76 (fun q17 a17 H hq17 ha17 han17 hW hS => ?_)
  have hF := FS.keep (m' := _) (B := 100 * 76) hF hq17 (fun _ _ => rfl) (by decide)
  have hR := AS.keep hR ha17 (by decide)
  have ha := kept ha ha17 (by decide)
  have hq := kepq hq hq17 (by decide)
  rw [← hq17 69 (by decide)] at hl ⊢
  have hR := hR.cons han17
  refine gp12_23 hx hb hG hown hW hS (o := 69) (by decide) gk69 (v := q17 76) hin gx172 dX12_init_78 (fun m18 H locs hm18 ho18 hW hS => ?_)
  have hF := FS.put hF ho18 (by decide)
  have hV := VS.put hV ho18 (by decide)
  have hm := kepm hm ho18 (by decide)
  have hF := hF.cons hm18
  refine lv_aload_n hx hb dX12_init_81 rfl (lv_at hl 0 rfl) ?_
  refine lv_bipush (v := 40) hx hb dX12_init_82 (by decide) ?_
  refine g_newa (ty := .int) (t := 1) (N' := 40) (a0 := zI 40) hx hb rfl hG gx14 hW hS hA gk77 rfl (fun _ _ => rfl) (fun cA => rfl) (by decide) (by decide) (by decide) (Nat.le_of_ble_eq_true rfl) (Nat.le_of_ble_eq_true rfl) dX12_init_84 (fun q19 a19 H hq19 ha19 han19 hW hS => ?_)
  have hF := FS.keep (m' := _) (B := 100 * 77) hF hq19 (fun _ _ => rfl) (by decide)
  have hR := AS.keep hR ha19 (by decide)
  have ha := kept ha ha19 (by decide)
  have hq := kepq hq hq19 (by decide)
  rw [← hq19 69 (by decide)] at hl ⊢
  have hR := hR.cons han19
  refine gp12_24 hx hb hG hown hW hS (o := 69) (by decide) gk69 (v := q19 77) hin gx173 dX12_init_86 (fun m20 H locs hm20 ho20 hW hS => ?_)
  have hF := FS.put hF ho20 (by decide)
  have hV := VS.put hV ho20 (by decide)
  have hm := kepm hm ho20 (by decide)
  have hF := hF.cons hm20
  refine lv_aload_n hx hb dX12_init_89 rfl (lv_at hl 0 rfl) ?_
  refine lv_bipush (v := 40) hx hb dX12_init_90 (by decide) ?_
  refine g_newa (ty := .int) (t := 1) (N' := 40) (a0 := zI 40) hx hb rfl hG gx14 hW hS hA gk78 rfl (fun _ _ => rfl) (fun cA => rfl) (by decide) (by decide) (by decide) (Nat.le_of_ble_eq_true rfl) (Nat.le_of_ble_eq_true rfl) dX12_init_92 (fun q21 a21 H hq21 ha21 han21 hW hS => ?_)
  have hF := FS.keep (m' := _) (B := 100 * 78) hF hq21 (fun _ _ => rfl) (by decide)
  have hR := AS.keep hR ha21 (by decide)
  have ha := kept ha ha21 (by decide)
  have hq := kepq hq hq21 (by decide)
  rw [← hq21 69 (by decide)] at hl ⊢
  have hR := hR.cons han21
  refine gp12_25 hx hb hG hown hW hS (o := 69) (by decide) gk69 (v := q21 78) hin gx174 dX12_init_94 (fun m22 H locs hm22 ho22 hW hS => ?_)
  have hF := FS.put hF ho22 (by decide)
  have hV := VS.put hV ho22 (by decide)
  have hm := kepm hm ho22 (by decide)
  have hF := hF.cons hm22
  refine lv_aload_n hx hb dX12_init_97 rfl (lv_at hl 0 rfl) ?_
  refine lv_sipush (v := 6001) hx hb dX12_init_98 (by decide) ?_
  refine g_newa (ty := .long) (t := 2) (N' := 6001) (a0 := zJ 6001) hx hb rfl hG gx6 hW hS hA gk79 rfl (fun _ _ => rfl) (fun cA => rfl) (by decide) (by decide) (by decide) (Nat.le_of_ble_eq_true rfl) (Nat.le_of_ble_eq_true rfl) dX12_init_101 (fun q23 a23 H hq23 ha23 han23 hW hS => ?_)
  have hF := FS.keep (m' := _) (B := 100 * 79) hF hq23 (fun _ _ => rfl) (by decide)
  have hR := AS.keep hR ha23 (by decide)
  have ha := kept ha ha23 (by decide)
  have hq := kepq hq hq23 (by decide)
  rw [← hq23 69 (by decide)] at hl ⊢
  have hR := hR.cons han23
  refine gp12_26 hx hb hG hown hW hS (o := 69) (by decide) gk69 (v := q23 79) hin gx175 dX12_init_103 (fun m24 H locs hm24 ho24 hW hS => ?_)
  have hF := FS.put hF ho24 (by decide)
  have hV := VS.put hV ho24 (by decide)
  have hm := kepm hm ho24 (by decide)
  have hF := hF.cons hm24
  refine lv_aload_n hx hb dX12_init_106 rfl (lv_at hl 0 rfl) ?_
  refine lv_sipush (v := 16384) hx hb dX12_init_107 (by decide) ?_
  refine g_newa (ty := .int) (t := 1) (N' := 16384) (a0 := zI 16384) hx hb rfl hG gx14 hW hS hA gk80 rfl (fun _ _ => rfl) (fun cA => rfl) (by decide) (by decide) (by decide) (Nat.le_of_ble_eq_true rfl) (Nat.le_of_ble_eq_true rfl) dX12_init_110 (fun q25 a25 H hq25 ha25 han25 hW hS => ?_)
  have hF := FS.keep (m' := _) (B := 100 * 80) hF hq25 (fun _ _ => rfl) (by decide)
  have hR := AS.keep hR ha25 (by decide)
  have ha := kept ha ha25 (by decide)
  have hq := kepq hq hq25 (by decide)
  rw [← hq25 69 (by decide)] at hl ⊢
  have hR := hR.cons han25
  refine gp12_28 hx hb hG hown hW hS (o := 69) (by decide) gk69 (v := q25 80) hin gx176 dX12_init_112 (fun m26 H locs hm26 ho26 hW hS => ?_)
  have hF := FS.put hF ho26 (by decide)
  have hV := VS.put hV ho26 (by decide)
  have hm := kepm hm ho26 (by decide)
  have hF := hF.cons hm26
  refine lv_aload_n hx hb dX12_init_115 rfl (lv_at hl 0 rfl) ?_
  refine lv_sipush (v := 6002) hx hb dX12_init_116 (by decide) ?_
  refine g_newa (ty := .int) (t := 1) (N' := 6002) (a0 := zI 6002) hx hb rfl hG gx14 hW hS hA gk81 rfl (fun _ _ => rfl) (fun cA => rfl) (by decide) (by decide) (by decide) (Nat.le_of_ble_eq_true rfl) (Nat.le_of_ble_eq_true rfl) dX12_init_119 (fun q27 a27 H hq27 ha27 han27 hW hS => ?_)
  have hF := FS.keep (m' := _) (B := 100 * 81) hF hq27 (fun _ _ => rfl) (by decide)
  have hR := AS.keep hR ha27 (by decide)
  have ha := kept ha ha27 (by decide)
  have hq := kepq hq hq27 (by decide)
  rw [← hq27 69 (by decide)] at hl ⊢
  have hR := hR.cons han27
  refine gp12_29 hx hb hG hown hW hS (o := 69) (by decide) gk69 (v := q27 81) hin gx177 dX12_init_121 (fun m28 H locs hm28 ho28 hW hS => ?_)
  have hF := FS.put hF ho28 (by decide)
  have hV := VS.put hV ho28 (by decide)
  have hm := kepm hm ho28 (by decide)
  have hF := hF.cons hm28
  refine lv_aload_n hx hb dX12_init_124 rfl (lv_at hl 0 rfl) ?_
  refine lv_ldc (v := 84000) hx hb hown (hG _ gx178) dX12_init_125 ?_
  refine g_newa (ty := .int) (t := 1) (N' := 84000) (a0 := zI 84000) hx hb rfl hG gx14 hW hS hA gk82 rfl (fun _ _ => rfl) (fun cA => rfl) (by decide) (by decide) (by decide) (Nat.le_of_ble_eq_true rfl) (Nat.le_of_ble_eq_true rfl) dX12_init_127 (fun q29 a29 H hq29 ha29 han29 hW hS => ?_)
  have hF := FS.keep (m' := _) (B := 100 * 82) hF hq29 (fun _ _ => rfl) (by decide)
  have hR := AS.keep hR ha29 (by decide)
  have ha := kept ha ha29 (by decide)
  have hq := kepq hq hq29 (by decide)
  rw [← hq29 69 (by decide)] at hl ⊢
  have hR := hR.cons han29
  refine gp12_30 hx hb hG hown hW hS (o := 69) (by decide) gk69 (v := q29 82) hin gx179 dX12_init_129 (fun m30 H locs hm30 ho30 hW hS => ?_)
  have hF := FS.put hF ho30 (by decide)
  have hV := VS.put hV ho30 (by decide)
  have hm := kepm hm ho30 (by decide)
  have hF := hF.cons hm30
  refine lv_aload_n hx hb dX12_init_132 rfl (lv_at hl 0 rfl) ?_
  refine lv_ldc (v := 84000) hx hb hown (hG _ gx178) dX12_init_133 ?_
  refine g_newa (ty := .int) (t := 1) (N' := 84000) (a0 := zI 84000) hx hb rfl hG gx14 hW hS hA gk83 rfl (fun _ _ => rfl) (fun cA => rfl) (by decide) (by decide) (by decide) (Nat.le_of_ble_eq_true rfl) (Nat.le_of_ble_eq_true rfl) dX12_init_135 (fun q31 a31 H hq31 ha31 han31 hW hS => ?_)
  have hF := FS.keep (m' := _) (B := 100 * 83) hF hq31 (fun _ _ => rfl) (by decide)
  have hR := AS.keep hR ha31 (by decide)
  have ha := kept ha ha31 (by decide)
  have hq := kepq hq hq31 (by decide)
  rw [← hq31 69 (by decide)] at hl ⊢
  have hR := hR.cons han31
  refine gp12_31 hx hb hG hown hW hS (o := 69) (by decide) gk69 (v := q31 83) hin gx180 dX12_init_137 (fun m32 H locs hm32 ho32 hW hS => ?_)
  have hF := FS.put hF ho32 (by decide)
  have hV := VS.put hV ho32 (by decide)
  have hm := kepm hm ho32 (by decide)
  have hF := hF.cons hm32
  refine lv_aload_n hx hb dX12_init_140 rfl (lv_at hl 0 rfl) ?_
  refine lv_ldc (v := 84000) hx hb hown (hG _ gx178) dX12_init_141 ?_
  refine g_newa (ty := .int) (t := 1) (N' := 84000) (a0 := zI 84000) hx hb rfl hG gx14 hW hS hA gk84 rfl (fun _ _ => rfl) (fun cA => rfl) (by decide) (by decide) (by decide) (Nat.le_of_ble_eq_true rfl) (Nat.le_of_ble_eq_true rfl) dX12_init_143 (fun q33 a33 H hq33 ha33 han33 hW hS => ?_)
  have hF := FS.keep (m' := _) (B := 100 * 84) hF hq33 (fun _ _ => rfl) (by decide)
  have hR := AS.keep hR ha33 (by decide)
  have ha := kept ha ha33 (by decide)
  have hq := kepq hq hq33 (by decide)
  rw [← hq33 69 (by decide)] at hl ⊢
  have hR := hR.cons han33
  refine gp12_32 hx hb hG hown hW hS (o := 69) (by decide) gk69 (v := q33 84) hin gx181 dX12_init_145 (fun m34 H locs hm34 ho34 hW hS => ?_)
  have hF := FS.put hF ho34 (by decide)
  have hV := VS.put hV ho34 (by decide)
  have hm := kepm hm ho34 (by decide)
  have hF := hF.cons hm34
  refine lv_aload_n hx hb dX12_init_148 rfl (lv_at hl 0 rfl) ?_
  refine lv_ldc (v := 84000) hx hb hown (hG _ gx178) dX12_init_149 ?_
  refine g_newa (ty := .int) (t := 1) (N' := 84000) (a0 := zI 84000) hx hb rfl hG gx14 hW hS hA gk85 rfl (fun _ _ => rfl) (fun cA => rfl) (by decide) (by decide) (by decide) (Nat.le_of_ble_eq_true rfl) (Nat.le_of_ble_eq_true rfl) dX12_init_151 (fun q35 a35 H hq35 ha35 han35 hW hS => ?_)
  have hF := FS.keep (m' := _) (B := 100 * 85) hF hq35 (fun _ _ => rfl) (by decide)
  have hR := AS.keep hR ha35 (by decide)
  have ha := kept ha ha35 (by decide)
  have hq := kepq hq hq35 (by decide)
  rw [← hq35 69 (by decide)] at hl ⊢
  have hR := hR.cons han35
  refine gp12_33 hx hb hG hown hW hS (o := 69) (by decide) gk69 (v := q35 85) hin gx182 dX12_init_153 (fun m36 H locs hm36 ho36 hW hS => ?_)
  have hF := FS.put hF ho36 (by decide)
  have hV := VS.put hV ho36 (by decide)
  have hm := kepm hm ho36 (by decide)
  have hF := hF.cons hm36
  refine lv_aload_n hx hb dX12_init_156 rfl (lv_at hl 0 rfl) ?_
  refine lv_ldc (v := 84000) hx hb hown (hG _ gx178) dX12_init_157 ?_
  refine g_newa (ty := .int) (t := 1) (N' := 84000) (a0 := zI 84000) hx hb rfl hG gx14 hW hS hA gk86 rfl (fun _ _ => rfl) (fun cA => rfl) (by decide) (by decide) (by decide) (Nat.le_of_ble_eq_true rfl) (Nat.le_of_ble_eq_true rfl) dX12_init_159 (fun q37 a37 H hq37 ha37 han37 hW hS => ?_)
  have hF := FS.keep (m' := _) (B := 100 * 86) hF hq37 (fun _ _ => rfl) (by decide)
  have hR := AS.keep hR ha37 (by decide)
  have ha := kept ha ha37 (by decide)
  have hq := kepq hq hq37 (by decide)
  rw [← hq37 69 (by decide)] at hl ⊢
  have hR := hR.cons han37
  refine gp12_34 hx hb hG hown hW hS (o := 69) (by decide) gk69 (v := q37 86) hin gx183 dX12_init_161 (fun m38 H locs hm38 ho38 hW hS => ?_)
  have hF := FS.put hF ho38 (by decide)
  have hV := VS.put hV ho38 (by decide)
  have hm := kepm hm ho38 (by decide)
  have hF := hF.cons hm38
  refine lv_aload_n hx hb dX12_init_164 rfl (lv_at hl 0 rfl) ?_
  refine lv_sipush (v := 6001) hx hb dX12_init_165 (by decide) ?_
  refine g_newa (ty := .int) (t := 1) (N' := 6001) (a0 := zI 6001) hx hb rfl hG gx14 hW hS hA gk87 rfl (fun _ _ => rfl) (fun cA => rfl) (by decide) (by decide) (by decide) (Nat.le_of_ble_eq_true rfl) (Nat.le_of_ble_eq_true rfl) dX12_init_168 (fun q39 a39 H hq39 ha39 han39 hW hS => ?_)
  have hF := FS.keep (m' := _) (B := 100 * 87) hF hq39 (fun _ _ => rfl) (by decide)
  have hR := AS.keep hR ha39 (by decide)
  have ha := kept ha ha39 (by decide)
  have hq := kepq hq hq39 (by decide)
  rw [← hq39 69 (by decide)] at hl ⊢
  have hR := hR.cons han39
  refine gp12_36 hx hb hG hown hW hS (o := 69) (by decide) gk69 (v := q39 87) hin gx184 dX12_init_170 (fun m40 H locs hm40 ho40 hW hS => ?_)
  have hF := FS.put hF ho40 (by decide)
  have hV := VS.put hV ho40 (by decide)
  have hm := kepm hm ho40 (by decide)
  have hF := hF.cons hm40
  refine lv_aload_n hx hb dX12_init_173 rfl (lv_at hl 0 rfl) ?_
  refine lv_sipush (v := 6001) hx hb dX12_init_174 (by decide) ?_
  refine g_newa (ty := .int) (t := 1) (N' := 6001) (a0 := zI 6001) hx hb rfl hG gx14 hW hS hA gk88 rfl (fun _ _ => rfl) (fun cA => rfl) (by decide) (by decide) (by decide) (Nat.le_of_ble_eq_true rfl) (Nat.le_of_ble_eq_true rfl) dX12_init_177 (fun q41 a41 H hq41 ha41 han41 hW hS => ?_)
  have hF := FS.keep (m' := _) (B := 100 * 88) hF hq41 (fun _ _ => rfl) (by decide)
  have hR := AS.keep hR ha41 (by decide)
  have ha := kept ha ha41 (by decide)
  have hq := kepq hq hq41 (by decide)
  rw [← hq41 69 (by decide)] at hl ⊢
  have hR := hR.cons han41
  refine gp12_37 hx hb hG hown hW hS (o := 69) (by decide) gk69 (v := q41 88) hin gx185 dX12_init_179 (fun m42 H locs hm42 ho42 hW hS => ?_)
  have hF := FS.put hF ho42 (by decide)
  have hV := VS.put hV ho42 (by decide)
  have hm := kepm hm ho42 (by decide)
  have hF := hF.cons hm42
  refine lv_aload_n hx hb dX12_init_182 rfl (lv_at hl 0 rfl) ?_
  refine lv_sipush (v := 6001) hx hb dX12_init_183 (by decide) ?_
  refine g_newa (ty := .int) (t := 1) (N' := 6001) (a0 := zI 6001) hx hb rfl hG gx14 hW hS hA gk89 rfl (fun _ _ => rfl) (fun cA => rfl) (by decide) (by decide) (by decide) (Nat.le_of_ble_eq_true rfl) (Nat.le_of_ble_eq_true rfl) dX12_init_186 (fun q43 a43 H hq43 ha43 han43 hW hS => ?_)
  have hF := FS.keep (m' := _) (B := 100 * 89) hF hq43 (fun _ _ => rfl) (by decide)
  have hR := AS.keep hR ha43 (by decide)
  have ha := kept ha ha43 (by decide)
  have hq := kepq hq hq43 (by decide)
  rw [← hq43 69 (by decide)] at hl ⊢
  have hR := hR.cons han43
  refine gp12_38 hx hb hG hown hW hS (o := 69) (by decide) gk69 (v := q43 89) hin gx186 dX12_init_188 (fun m44 H locs hm44 ho44 hW hS => ?_)
  have hF := FS.put hF ho44 (by decide)
  have hV := VS.put hV ho44 (by decide)
  have hm := kepm hm ho44 (by decide)
  have hF := hF.cons hm44
  refine lv_aload_n hx hb dX12_init_191 rfl (lv_at hl 0 rfl) ?_
  refine lv_sipush (v := 6001) hx hb dX12_init_192 (by decide) ?_
  refine g_newa (ty := .int) (t := 1) (N' := 6001) (a0 := zI 6001) hx hb rfl hG gx14 hW hS hA gk90 rfl (fun _ _ => rfl) (fun cA => rfl) (by decide) (by decide) (by decide) (Nat.le_of_ble_eq_true rfl) (Nat.le_of_ble_eq_true rfl) dX12_init_195 (fun q45 a45 H hq45 ha45 han45 hW hS => ?_)
  have hF := FS.keep (m' := _) (B := 100 * 90) hF hq45 (fun _ _ => rfl) (by decide)
  have hR := AS.keep hR ha45 (by decide)
  have ha := kept ha ha45 (by decide)
  have hq := kepq hq hq45 (by decide)
  rw [← hq45 69 (by decide)] at hl ⊢
  have hR := hR.cons han45
  refine gp12_39 hx hb hG hown hW hS (o := 69) (by decide) gk69 (v := q45 90) hin gx187 dX12_init_197 (fun m46 H locs hm46 ho46 hW hS => ?_)
  have hF := FS.put hF ho46 (by decide)
  have hV := VS.put hV ho46 (by decide)
  have hm := kepm hm ho46 (by decide)
  have hF := hF.cons hm46
  refine lv_aload_n hx hb dX12_init_200 rfl (lv_at hl 0 rfl) ?_
  refine lv_sipush (v := 6001) hx hb dX12_init_201 (by decide) ?_
  refine g_newa (ty := .boolean) (t := 3) (N' := 6001) (a0 := zI 6001) hx hb rfl hG gx188 hW hS hA gk91 rfl (fun _ _ => rfl) (fun cA => rfl) (by decide) (by decide) (by decide) (Nat.le_of_ble_eq_true rfl) (Nat.le_of_ble_eq_true rfl) dX12_init_204 (fun q47 a47 H hq47 ha47 han47 hW hS => ?_)
  have hF := FS.keep (m' := _) (B := 100 * 91) hF hq47 (fun _ _ => rfl) (by decide)
  have hR := AS.keep hR ha47 (by decide)
  have ha := kept ha ha47 (by decide)
  have hq := kepq hq hq47 (by decide)
  rw [← hq47 69 (by decide)] at hl ⊢
  have hR := hR.cons han47
  refine gp12_40 hx hb hG hown hW hS (o := 69) (by decide) gk69 (v := q47 91) hin gx189 dX12_init_206 (fun m48 H locs hm48 ho48 hW hS => ?_)
  have hF := FS.put hF ho48 (by decide)
  have hV := VS.put hV ho48 (by decide)
  have hm := kepm hm ho48 (by decide)
  have hF := hF.cons hm48
  refine lv_aload_n hx hb dX12_init_209 rfl (lv_at hl 0 rfl) ?_
  refine lv_sipush (v := 6001) hx hb dX12_init_210 (by decide) ?_
  refine g_newa (ty := .int) (t := 1) (N' := 6001) (a0 := zI 6001) hx hb rfl hG gx14 hW hS hA gk92 rfl (fun _ _ => rfl) (fun cA => rfl) (by decide) (by decide) (by decide) (Nat.le_of_ble_eq_true rfl) (Nat.le_of_ble_eq_true rfl) dX12_init_213 (fun q49 a49 H hq49 ha49 han49 hW hS => ?_)
  have hF := FS.keep (m' := _) (B := 100 * 92) hF hq49 (fun _ _ => rfl) (by decide)
  have hR := AS.keep hR ha49 (by decide)
  have ha := kept ha ha49 (by decide)
  have hq := kepq hq hq49 (by decide)
  rw [← hq49 69 (by decide)] at hl ⊢
  have hR := hR.cons han49
  refine gp12_41 hx hb hG hown hW hS (o := 69) (by decide) gk69 (v := q49 92) hin gx190 dX12_init_215 (fun m50 H locs hm50 ho50 hW hS => ?_)
  have hF := FS.put hF ho50 (by decide)
  have hV := VS.put hV ho50 (by decide)
  have hm := kepm hm ho50 (by decide)
  have hF := hF.cons hm50
  refine lv_aload_n hx hb dX12_init_218 rfl (lv_at hl 0 rfl) ?_
  refine lv_sipush (v := 6001) hx hb dX12_init_219 (by decide) ?_
  refine g_newa (ty := .int) (t := 1) (N' := 6001) (a0 := zI 6001) hx hb rfl hG gx14 hW hS hA gk93 rfl (fun _ _ => rfl) (fun cA => rfl) (by decide) (by decide) (by decide) (Nat.le_of_ble_eq_true rfl) (Nat.le_of_ble_eq_true rfl) dX12_init_222 (fun q51 a51 H hq51 ha51 han51 hW hS => ?_)
  have hF := FS.keep (m' := _) (B := 100 * 93) hF hq51 (fun _ _ => rfl) (by decide)
  have hR := AS.keep hR ha51 (by decide)
  have ha := kept ha ha51 (by decide)
  have hq := kepq hq hq51 (by decide)
  rw [← hq51 69 (by decide)] at hl ⊢
  have hR := hR.cons han51
  refine gp12_42 hx hb hG hown hW hS (o := 69) (by decide) gk69 (v := q51 93) hin gx191 dX12_init_224 (fun m52 H locs hm52 ho52 hW hS => ?_)
  have hF := FS.put hF ho52 (by decide)
  have hV := VS.put hV ho52 (by decide)
  have hm := kepm hm ho52 (by decide)
  have hF := hF.cons hm52
  refine lv_aload_n hx hb dX12_init_227 rfl (lv_at hl 0 rfl) ?_
  refine lv_sipush (v := 6001) hx hb dX12_init_228 (by decide) ?_
  refine g_newa (ty := .int) (t := 1) (N' := 6001) (a0 := zI 6001) hx hb rfl hG gx14 hW hS hA gk94 rfl (fun _ _ => rfl) (fun cA => rfl) (by decide) (by decide) (by decide) (Nat.le_of_ble_eq_true rfl) (Nat.le_of_ble_eq_true rfl) dX12_init_231 (fun q53 a53 H hq53 ha53 han53 hW hS => ?_)
  have hF := FS.keep (m' := _) (B := 100 * 94) hF hq53 (fun _ _ => rfl) (by decide)
  have hR := AS.keep hR ha53 (by decide)
  have ha := kept ha ha53 (by decide)
  have hq := kepq hq hq53 (by decide)
  rw [← hq53 69 (by decide)] at hl ⊢
  have hR := hR.cons han53
  refine gp12_46 hx hb hG hown hW hS (o := 69) (by decide) gk69 (v := q53 94) hin gx192 dX12_init_233 (fun m54 H locs hm54 ho54 hW hS => ?_)
  have hF := FS.put hF ho54 (by decide)
  have hV := VS.put hV ho54 (by decide)
  have hm := kepm hm ho54 (by decide)
  have hF := hF.cons hm54
  refine lv_aload_n hx hb dX12_init_236 rfl (lv_at hl 0 rfl) ?_
  refine lv_sipush (v := 6001) hx hb dX12_init_237 (by decide) ?_
  refine g_newa (ty := .int) (t := 1) (N' := 6001) (a0 := zI 6001) hx hb rfl hG gx14 hW hS hA gk95 rfl (fun _ _ => rfl) (fun cA => rfl) (by decide) (by decide) (by decide) (Nat.le_of_ble_eq_true rfl) (Nat.le_of_ble_eq_true rfl) dX12_init_240 (fun q55 a55 H hq55 ha55 han55 hW hS => ?_)
  have hF := FS.keep (m' := _) (B := 100 * 95) hF hq55 (fun _ _ => rfl) (by decide)
  have hR := AS.keep hR ha55 (by decide)
  have ha := kept ha ha55 (by decide)
  have hq := kepq hq hq55 (by decide)
  rw [← hq55 69 (by decide)] at hl ⊢
  have hR := hR.cons han55
  refine gp12_47 hx hb hG hown hW hS (o := 69) (by decide) gk69 (v := q55 95) hin gx193 dX12_init_242 (fun m56 H locs hm56 ho56 hW hS => ?_)
  have hF := FS.put hF ho56 (by decide)
  have hV := VS.put hV ho56 (by decide)
  have hm := kepm hm ho56 (by decide)
  have hF := hF.cons hm56
  refine lv_aload_n hx hb dX12_init_245 rfl (lv_at hl 0 rfl) ?_
  refine lv_sipush (v := 6002) hx hb dX12_init_246 (by decide) ?_
  refine g_newa (ty := .int) (t := 1) (N' := 6002) (a0 := zI 6002) hx hb rfl hG gx14 hW hS hA gk96 rfl (fun _ _ => rfl) (fun cA => rfl) (by decide) (by decide) (by decide) (Nat.le_of_ble_eq_true rfl) (Nat.le_of_ble_eq_true rfl) dX12_init_249 (fun q57 a57 H hq57 ha57 han57 hW hS => ?_)
  have hF := FS.keep (m' := _) (B := 100 * 96) hF hq57 (fun _ _ => rfl) (by decide)
  have hR := AS.keep hR ha57 (by decide)
  have ha := kept ha ha57 (by decide)
  have hq := kepq hq hq57 (by decide)
  rw [← hq57 69 (by decide)] at hl ⊢
  have hR := hR.cons han57
  refine gp12_48 hx hb hG hown hW hS (o := 69) (by decide) gk69 (v := q57 96) hin gx194 dX12_init_251 (fun m58 H locs hm58 ho58 hW hS => ?_)
  have hF := FS.put hF ho58 (by decide)
  have hV := VS.put hV ho58 (by decide)
  have hm := kepm hm ho58 (by decide)
  have hF := hF.cons hm58
  refine lv_aload_n hx hb dX12_init_254 rfl (lv_at hl 0 rfl) ?_
  refine lv_sipush (v := 6001) hx hb dX12_init_255 (by decide) ?_
  refine g_newa (ty := .int) (t := 1) (N' := 6001) (a0 := zI 6001) hx hb rfl hG gx14 hW hS hA gk97 rfl (fun _ _ => rfl) (fun cA => rfl) (by decide) (by decide) (by decide) (Nat.le_of_ble_eq_true rfl) (Nat.le_of_ble_eq_true rfl) dX12_init_258 (fun q59 a59 H hq59 ha59 han59 hW hS => ?_)
  have hF := FS.keep (m' := _) (B := 100 * 97) hF hq59 (fun _ _ => rfl) (by decide)
  have hR := AS.keep hR ha59 (by decide)
  have ha := kept ha ha59 (by decide)
  have hq := kepq hq hq59 (by decide)
  rw [← hq59 69 (by decide)] at hl ⊢
  have hR := hR.cons han59
  refine gp12_49 hx hb hG hown hW hS (o := 69) (by decide) gk69 (v := q59 97) hin gx195 dX12_init_260 (fun m60 H locs hm60 ho60 hW hS => ?_)
  have hF := FS.put hF ho60 (by decide)
  have hV := VS.put hV ho60 (by decide)
  have hm := kepm hm ho60 (by decide)
  have hF := hF.cons hm60
  refine lv_aload_n hx hb dX12_init_263 rfl (lv_at hl 0 rfl) ?_
  refine lv_sipush (v := 6001) hx hb dX12_init_264 (by decide) ?_
  refine g_newa (ty := .double) (t := 0) (N' := 6001) (a0 := zD 6001) hx hb rfl hG gx120 hW hS hA gk98 rfl (fun _ _ => rfl) (fun cA => rfl) (by decide) (by decide) (by decide) (Nat.le_of_ble_eq_true rfl) (Nat.le_of_ble_eq_true rfl) dX12_init_267 (fun q61 a61 H hq61 ha61 han61 hW hS => ?_)
  have hF := FS.keep (m' := _) (B := 100 * 98) hF hq61 (fun _ _ => rfl) (by decide)
  have hR := AS.keep hR ha61 (by decide)
  have ha := kept ha ha61 (by decide)
  have hq := kepq hq hq61 (by decide)
  rw [← hq61 69 (by decide)] at hl ⊢
  have hR := hR.cons han61
  refine gp12_50 hx hb hG hown hW hS (o := 69) (by decide) gk69 (v := q61 98) hin gx196 dX12_init_269 (fun m62 H locs hm62 ho62 hW hS => ?_)
  have hF := FS.put hF ho62 (by decide)
  have hV := VS.put hV ho62 (by decide)
  have hm := kepm hm ho62 (by decide)
  have hF := hF.cons hm62
  refine lv_aload_n hx hb dX12_init_272 rfl (lv_at hl 0 rfl) ?_
  refine lv_sipush (v := 6001) hx hb dX12_init_273 (by decide) ?_
  refine g_newa (ty := .double) (t := 0) (N' := 6001) (a0 := zD 6001) hx hb rfl hG gx120 hW hS hA gk99 rfl (fun _ _ => rfl) (fun cA => rfl) (by decide) (by decide) (by decide) (Nat.le_of_ble_eq_true rfl) (Nat.le_of_ble_eq_true rfl) dX12_init_276 (fun q63 a63 H hq63 ha63 han63 hW hS => ?_)
  have hF := FS.keep (m' := _) (B := 100 * 99) hF hq63 (fun _ _ => rfl) (by decide)
  have hR := AS.keep hR ha63 (by decide)
  have ha := kept ha ha63 (by decide)
  have hq := kepq hq hq63 (by decide)
  rw [← hq63 69 (by decide)] at hl ⊢
  have hR := hR.cons han63
  refine gp12_51 hx hb hG hown hW hS (o := 69) (by decide) gk69 (v := q63 99) hin gx197 dX12_init_278 (fun m64 H locs hm64 ho64 hW hS => ?_)
  have hF := FS.put hF ho64 (by decide)
  have hV := VS.put hV ho64 (by decide)
  have hm := kepm hm ho64 (by decide)
  have hF := hF.cons hm64
  refine lv_aload_n hx hb dX12_init_281 rfl (lv_at hl 0 rfl) ?_
  refine lv_bipush (v := 25) hx hb dX12_init_282 (by decide) ?_
  refine g_newa (ty := .int) (t := 1) (N' := 25) (a0 := zI 25) hx hb rfl hG gx14 hW hS hA gk100 rfl (fun _ _ => rfl) (fun cA => rfl) (by decide) (by decide) (by decide) (Nat.le_of_ble_eq_true rfl) (Nat.le_of_ble_eq_true rfl) dX12_init_284 (fun q65 a65 H hq65 ha65 han65 hW hS => ?_)
  have hF := FS.keep (m' := _) (B := 100 * 100) hF hq65 (fun _ _ => rfl) (by decide)
  have hR := AS.keep hR ha65 (by decide)
  have ha := kept ha ha65 (by decide)
  have hq := kepq hq hq65 (by decide)
  rw [← hq65 69 (by decide)] at hl ⊢
  have hR := hR.cons han65
  refine gp12_52 hx hb hG hown hW hS (o := 69) (by decide) gk69 (v := q65 100) hin gx198 dX12_init_286 (fun m66 H locs hm66 ho66 hW hS => ?_)
  have hF := FS.put hF ho66 (by decide)
  have hV := VS.put hV ho66 (by decide)
  have hm := kepm hm ho66 (by decide)
  have hF := hF.cons hm66
  refine lv_aload_n hx hb dX12_init_289 rfl (lv_at hl 0 rfl) ?_
  refine lv_bipush (v := 25) hx hb dX12_init_290 (by decide) ?_
  refine g_newa (ty := .int) (t := 1) (N' := 25) (a0 := zI 25) hx hb rfl hG gx14 hW hS hA gk101 rfl (fun _ _ => rfl) (fun cA => rfl) (by decide) (by decide) (by decide) (Nat.le_of_ble_eq_true rfl) (Nat.le_of_ble_eq_true rfl) dX12_init_292 (fun q67 a67 H hq67 ha67 han67 hW hS => ?_)
  have hF := FS.keep (m' := _) (B := 100 * 101) hF hq67 (fun _ _ => rfl) (by decide)
  have hR := AS.keep hR ha67 (by decide)
  have ha := kept ha ha67 (by decide)
  have hq := kepq hq hq67 (by decide)
  rw [← hq67 69 (by decide)] at hl ⊢
  have hR := hR.cons han67
  refine gp12_53 hx hb hG hown hW hS (o := 69) (by decide) gk69 (v := q67 101) hin gx199 dX12_init_294 (fun m68 H locs hm68 ho68 hW hS => ?_)
  have hF := FS.put hF ho68 (by decide)
  have hV := VS.put hV ho68 (by decide)
  have hm := kepm hm ho68 (by decide)
  have hF := hF.cons hm68
  refine lv_aload_n hx hb dX12_init_297 rfl (lv_at hl 0 rfl) ?_
  refine lv_bipush (v := 25) hx hb dX12_init_298 (by decide) ?_
  refine g_newa (ty := .int) (t := 1) (N' := 25) (a0 := zI 25) hx hb rfl hG gx14 hW hS hA gk102 rfl (fun _ _ => rfl) (fun cA => rfl) (by decide) (by decide) (by decide) (Nat.le_of_ble_eq_true rfl) (Nat.le_of_ble_eq_true rfl) dX12_init_300 (fun q69 a69 H hq69 ha69 han69 hW hS => ?_)
  have hF := FS.keep (m' := _) (B := 100 * 102) hF hq69 (fun _ _ => rfl) (by decide)
  have hR := AS.keep hR ha69 (by decide)
  have ha := kept ha ha69 (by decide)
  have hq := kepq hq hq69 (by decide)
  rw [← hq69 69 (by decide)] at hl ⊢
  have hR := hR.cons han69
  refine gp12_54 hx hb hG hown hW hS (o := 69) (by decide) gk69 (v := q69 102) hin gx200 dX12_init_302 (fun m70 H locs hm70 ho70 hW hS => ?_)
  have hF := FS.put hF ho70 (by decide)
  have hV := VS.put hV ho70 (by decide)
  have hm := kepm hm ho70 (by decide)
  have hF := hF.cons hm70
  refine lv_aload_n hx hb dX12_init_305 rfl (lv_at hl 0 rfl) ?_
  refine lv_sipush (v := 1681) hx hb dX12_init_306 (by decide) ?_
  refine g_newa (ty := .int) (t := 1) (N' := 1681) (a0 := zI 1681) hx hb rfl hG gx14 hW hS hA gk103 rfl (fun _ _ => rfl) (fun cA => rfl) (by decide) (by decide) (by decide) (Nat.le_of_ble_eq_true rfl) (Nat.le_of_ble_eq_true rfl) dX12_init_309 (fun q71 a71 H hq71 ha71 han71 hW hS => ?_)
  have hF := FS.keep (m' := _) (B := 100 * 103) hF hq71 (fun _ _ => rfl) (by decide)
  have hR := AS.keep hR ha71 (by decide)
  have ha := kept ha ha71 (by decide)
  have hq := kepq hq hq71 (by decide)
  rw [← hq71 69 (by decide)] at hl ⊢
  have hR := hR.cons han71
  refine gp12_56 hx hb hG hown hW hS (o := 69) (by decide) gk69 (v := q71 103) hin gx201 dX12_init_311 (fun m72 H locs hm72 ho72 hW hS => ?_)
  have hF := FS.put hF ho72 (by decide)
  have hV := VS.put hV ho72 (by decide)
  have hm := kepm hm ho72 (by decide)
  have hF := hF.cons hm72
  refine lv_aload_n hx hb dX12_init_314 rfl (lv_at hl 0 rfl) ?_
  refine lv_lconst (v := 0) hx hb dX12_init_315 (by decide) ?_
  refine lv_bipush (v := 7) hx hb dX12_init_316 (by decide) ?_
  refine lv_iconst (v := 2) hx hb dX12_init_318 (by decide) ?_
  refine lv_aload_n hx hb dX12_init_319 rfl (lv_at hl 0 rfl) ?_
  refine gf12_1 hx hb hG hown hW (o := 69) (by decide) gk69 (v := .int 3) (hV (6901, .int 3) (List.mem_of_getElem? (i := 2) rfl)) gx163 dX12_init_320 ?_
  refine lv_iconst (v := 1) hx hb dX12_init_323 (by decide) ?_
  refine lv_isub hx hb dX12_init_324 ?_
  refine g_SlA (n := 4) hx hb hml hown hG hW hS hA [.long 0, .int 7, .int 2, .int (3 - 1)] (kX12_put0 0 7 2 (3 - 1)) rfl (gd_S gx203 gx204 gx5 gx205) rfl rfl (by decide) ⟨Nat.le_of_ble_eq_true rfl, Nat.le_of_ble_eq_true rfl⟩ rfl hl (Nat.le_of_ble_eq_true rfl) ⟨Nat.le_of_ble_eq_true rfl, Nat.le_of_ble_eq_true rfl⟩ dX12_init_325 (fun H locs hW hS => ?_)
  refine gp12_4 hx hb hG hown hW hS (o := 69) (by decide) gk69 (v := fX12_put 0 7 2 (3 - 1)) gx202 dX12_init_328 (fun m73 H locs hm73 ho73 hW hS => ?_)
  have hF := FS.put hF ho73 (by decide)
  have hV := VS.put hV ho73 (by decide)
  have hm := kepm hm ho73 (by decide)
  have hV := hV.cons hm73
  refine W.widen (k := 34) (n := 528689) (Nat.le_of_ble_eq_true rfl) (Nat.le_of_ble_eq_true rfl) ?_
  exact hend q71 m73 a71 H locs _ ls hW hS ⟨hq, hm, ha, hF, hR, hV⟩ dX12_init_331
