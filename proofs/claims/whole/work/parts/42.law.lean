/-! part 42: the law's two calls that catch -/
theorem atC_nse : Cond.castable "java/util/NoSuchElementException" "java/util/NoSuchElementException" ∈ atC := by decide +kernel
theorem gd_VX {own C : String} {idx : Nat} {y : MethodName} {b : ByteArray} {n : Nat} {r : Option FieldType} (h1 : Cond.methodLink own idx y ∈ GG) (h2 : Cond.instanceMethod y ∈ GG) (h3 : Cond.selects C y y ∈ GG) (h4 : Cond.initialized C ∈ GG) (h5 : Cond.code y b n r ∈ GG) : GoodIn GX (wsV own idx C y (Cond.code y b n r :: GX)) := by
  have hm : ∀ w ∈ wsV own idx C y (Cond.code y b n r :: GX), w ∈ GX := fun w hw => by
    rcases List.mem_append.mp hw with h | h
    · simp only [List.mem_cons, List.not_mem_nil, or_false] at h
      rcases h with rfl | rfl | rfl | rfl
      · exact GG_GX _ h1
      · exact GG_GX _ h2
      · exact GG_GX _ h3
      · exact GG_GX _ h4
    · rcases List.mem_cons.mp h with rfl | h
      · exact GG_GX _ h5
      · exact h
  exact goodIn_sub hm (List.all_eq_true.mpr fun w hw => List.all_eq_true.mp GX_good w (hm w hw))
/-- what the law reads of a call that may throw -/
def LK (o : Option Int32) (f : Nat → Int64) (r : Int32) (a a' : Nat → vp_A) : Prop := (o = none ∧ r = 1 ∧ a' = a) ∨ ∃ x, o = some x ∧ r = 0 ∧ a' 104 = (1, .inr (.inl (vp_updL f 0 x.toInt64))) ∧ ∀ j, Nat.beq j 104 = false → a' j = a j
theorem dL_kind_0 : decode cL_kind 0 = .ok (.aload 4, 2) := by decide +kernel
theorem dL_kind_2 : decode cL_kind 2 = .ok (.iconst 0, 1) := by decide +kernel
theorem dL_kind_3 : decode cL_kind 3 = .ok (.aload_n 0, 1) := by decide +kernel
theorem dL_kind_4 : decode cL_kind 4 = .ok (.iload_n 1, 1) := by decide +kernel
theorem dL_kind_5 : decode cL_kind 5 = .ok (.iload_n 2, 1) := by decide +kernel
theorem dL_kind_6 : decode cL_kind 6 = .ok (.iload_n 3, 1) := by decide +kernel
theorem dL_kind_7 : decode cL_kind 7 = .ok (.invokevirtual 7, 3) := by decide +kernel
theorem dL_kind_10 : decode cL_kind 10 = .ok (.i2l, 1) := by decide +kernel
theorem dL_kind_11 : decode cL_kind 11 = .ok (.lastore, 1) := by decide +kernel
theorem dL_kind_12 : decode cL_kind 12 = .ok (.goto 7, 3) := by decide +kernel
theorem dL_kind_15 : decode cL_kind 15 = .ok (.astore 5, 2) := by decide +kernel
theorem dL_kind_17 : decode cL_kind 17 = .ok (.iconst 1, 1) := by decide +kernel
theorem dL_kind_18 : decode cL_kind 18 = .ok (.ireturn, 1) := by decide +kernel
theorem dL_kind_19 : decode cL_kind 19 = .ok (.iconst 0, 1) := by decide +kernel
theorem dL_kind_20 : decode cL_kind 20 = .ok (.ireturn, 1) := by decide +kernel
set_option maxHeartbeats 4000000 in
set_option maxRecDepth 100000 in
theorem kL_kind {l : Launch} (hst : l.stackTraces = false) {D : va_G} {cy : Nat → ClassId} {N : Nat} {q : Nat → Nat} {m0 : Nat → Value} {a0 : Nat → vp_A} {sz : Nat} {k1 k2 : Nat} (hN : 105 ≤ N) (hsh : SH q m0) {kr : Nat} (hkr : kr < N) (hgk : gk kr = 7) (hrf : m0 7 = .ref (q kr)) {x0_8 : Int64} (h_x0_8 : m0 8 = .long x0_8) {xkr_1 : Int32} (h_xkr_1 : m0 (100 * kr + 1) = .int xkr_1) {f : Nat → Int64} (h104 : a0 104 = (1, .inr (.inl f))) (p1 : Int32) (p2 : Int32) (p3 : Int32) : vx_Met l yL_kind (Cond.codeWith yL_kind cL_kind 6 (some .int) [(0, 12, 15, 13)] :: GX) ({ frames := 7, cells := 1, slots := 6, locals := 160 } : Room) (ePc D cy N q m0 a0 sz [.ref (q 0), .int p1, .int p2, .int p3, .ref (q 104)] (KE k1 k2)) (va_Qi (fun (r : Int32) (u : (Nat → Value) × (Nat → vp_A)) => u.1 = m0 ∧ LK (fX11_kind x0_8 xkr_1 p1 p2 p3) f r a0 u.2) (gB D cy N q sz) (gA N q sz)) (vx_X (fun _ : Unit => False) (fun _ _ _ => True) (gA N q sz)) 1 6 (gA N q sz) := by
  refine vx_ofWH (cc := cL_kind) (maxL := 6) (ret := some .int) (hh := [(0, 12, 15, 13)]) (by decide) rfl ?_
  intro p e s M args below meth c s₁ B hml hv
  obtain ⟨rfl, ⟨hsz, hP, hK, hD⟩, hE⟩ := hv
  subst hsz
  have hts := atoms_spec (ws := Cond.codeWith yL_kind cL_kind 6 (some .int) [(0, 12, 15, 13)] :: GX) B.pre
  have hD' : va_D (gA N q s.heap.size) (gw cy N q m0 a0) := ⟨hD.1, fun k z hk => Or.inl ⟨k, by
    have := (List.getElem?_eq_some_iff.mp hk).1
    rw [gw_len] at this
    exact this, by
    have h1 := (List.getElem?_eq_some_iff.mp hk).1
    rw [gw_len] at h1
    rw [gw_at h1] at hk
    cases hk
    rfl⟩⟩
  have htb : c.exceptionTable.toList = tableOf [(0, 12, 15, 13)] := vx_table (x := yL_kind) B (hts _ List.mem_cons_self)
  have hx := B.exec
  have hb := B.bytes
  have hr := B.returns
  have hGX : ∀ w ∈ GX, w.before _ s = true := fun w hw => hts w (List.mem_cons_of_mem _ hw)
  have hG : ∀ w ∈ GG, w.before _ s = true := fun w hw => hGX w (GG_GX w hw)
  have hown := findClass_of_methodNamed B.named
  have hlocks := B.notSynchronized
  have hW : GW D cy (gA N q s.heap.size) N q m0 a0 s s.heap := ⟨hP, hK, hD'⟩
  have hS : va_S (gA N q s.heap.size) s.heap s.heap [] := va_S.rf
  have hle := hS.1
  rw [lg_entry_eq]
  have hl := lv_entry [.ref (q 0), .int p1, .int p2, .int p3, .ref (q 104)] (n := 6) (Nat.le_of_ble_eq_true rfl)
  generalize (lg_sl [.ref (q 0), .int p1, .int p2, .int p3, .ref (q 104)] ++ List.replicate (6 - (lg_sl [.ref (q 0), .int p1, .int p2, .int p3, .ref (q 104)]).length) Slot.unset).toArray = ls at hl ⊢
  generalize hargs : ([.ref (q 0), .int p1, .int p2, .int p3, .ref (q 104)] : List Value).toArray = args at hG hGX ⊢
  refine lv_aload hx hb dL_kind_0 (lv_at hl 4 rfl) ?_
  refine lv_iconst (v := 0) hx hb dL_kind_2 (by decide) ?_
  refine lv_aload_n hx hb dL_kind_3 rfl (lv_at hl 0 rfl) ?_
  refine lv_iload_n hx hb dL_kind_4 rfl (lv_at hl 1 rfl) ?_
  refine lv_iload_n hx hb dL_kind_5 rfl (lv_at hl 2 rfl) ?_
  refine lv_iload_n hx hb dL_kind_6 rfl (lv_at hl 3 rfl) ?_
  refine vx_calli (vx_runV (C := RX11) (b := q 0) (As := [.int p1, .int p2, .int p3]) (rest := [.int 0, .ref (q 104)]) ⟨hx, hb, hml, hown, hGX⟩ (kX11_kind (sz := s.heap.size) (k1 := k1) (k2 := k2) hst hN hsh hkr hgk hrf h_x0_8 h_xkr_1 p1 p2 p3) (cwV 3 hGX (gd_VX gx606 gx607 gx608 gx2 gx609) rfl rfl rfl (by decide) ⟨Nat.le_of_ble_eq_true rfl, Nat.le_of_ble_eq_true rfl⟩) ⟨ePc.blind KE.ok, g_rv hW (o := 0) (ltN hN 0 rfl) gk0 (by decide) rfl, fun U hU hw => e_pre KE.ok hE hW hS _ U hU hw⟩ rfl rfl hl.1 rfl (lv_room (Nat.le_of_ble_eq_true rfl)) dL_kind_7 ⟨Nat.le_of_ble_eq_true rfl, Nat.le_of_ble_eq_true rfl⟩) hS (fun z _ h => gA_up hle z h) (fun z h => gA_up hle z h) (fun z _ h => gA_up hle z h) (fun E ce q9 u t H1 locs1 ht hvm hp hB hz hk1 hS1 hce hcv hcl => ?_) (fun x u t H1 locs1 ht hvm hp hB hz hk1 hS1 => ?_)
  · obtain ⟨hn0, rfl⟩ := hp
    obtain ⟨rfl, hB⟩ := hB
    have hW1 := g_post hle hW.2.1 ht hB rfl
    refine vx_catch (own := RL) (name := "java/util/NoSuchElementException") hown [] ⟨0, 12, 15, 13⟩ [] htb (fun z hz => nomatch hz) rfl (by decide) (hG _ gx605) (atC_use hE.2.2.2.2 _ atC_nse) hce hcv hcl ?_
    refine lv_astore hx hb dL_kind_15 hl (by decide) rfl (fun ls hl => ?_)
    refine lv_iconst (v := 1) hx hb dL_kind_17 (by decide) ?_
    refine vx_ret ?_
    exact W.zret hx hb hr rfl (fun t ht hw => ⟨⟨_, (m0, a0), rfl, ⟨rfl, Or.inl ⟨hn0, rfl, rfl⟩⟩, g_end hW1 ht hw⟩, hS1.F ht⟩) hS1.2.2 dL_kind_18 hlocks
  · obtain ⟨u1, u2⟩ := u
    obtain ⟨hn0, rfl, rfl⟩ := hp
    have hW1 := g_post hle hW.2.1 ht hB rfl
    refine lv_i2l hx hb dL_kind_10 rfl ?_
    refine g_last hx hb hW1 hS1 (o := 104) (ltN hN 104 rfl) gk104 h104 (vin (by decide)) dL_kind_11 (fun a4 H2 locs2 ha4 ho4 hW2 hS2 => ?_)
    refine lv_goto (tgt := 19) hx hb dL_kind_12 (by decide) ?_
    refine lv_iconst (v := 0) hx hb dL_kind_19 (by decide) ?_
    refine vx_ret ?_
    exact W.zret hx hb hr rfl (fun t ht hw => ⟨⟨_, (_, a4), rfl, ⟨rfl, Or.inr ⟨x, hn0, rfl, ha4, ho4⟩⟩, g_end hW2 ht hw⟩, hS2.F ht⟩) hS2.2.2 dL_kind_20 hlocks
theorem dL_queued_0 : decode cL_queued 0 = .ok (.aload_n 2, 1) := by decide +kernel
theorem dL_queued_1 : decode cL_queued 1 = .ok (.iconst 0, 1) := by decide +kernel
theorem dL_queued_2 : decode cL_queued 2 = .ok (.aload_n 0, 1) := by decide +kernel
theorem dL_queued_3 : decode cL_queued 3 = .ok (.iload_n 1, 1) := by decide +kernel
theorem dL_queued_4 : decode cL_queued 4 = .ok (.invokevirtual 15, 3) := by decide +kernel
theorem dL_queued_7 : decode cL_queued 7 = .ok (.i2l, 1) := by decide +kernel
theorem dL_queued_8 : decode cL_queued 8 = .ok (.lastore, 1) := by decide +kernel
theorem dL_queued_9 : decode cL_queued 9 = .ok (.goto 6, 3) := by decide +kernel
theorem dL_queued_12 : decode cL_queued 12 = .ok (.astore_n 3, 1) := by decide +kernel
theorem dL_queued_13 : decode cL_queued 13 = .ok (.iconst 1, 1) := by decide +kernel
theorem dL_queued_14 : decode cL_queued 14 = .ok (.ireturn, 1) := by decide +kernel
theorem dL_queued_15 : decode cL_queued 15 = .ok (.iconst 0, 1) := by decide +kernel
theorem dL_queued_16 : decode cL_queued 16 = .ok (.ireturn, 1) := by decide +kernel
set_option maxHeartbeats 4000000 in
set_option maxRecDepth 100000 in
theorem kL_queued {l : Launch} (hst : l.stackTraces = false) {D : va_G} {cy : Nat → ClassId} {N : Nat} {q : Nat → Nat} {m0 : Nat → Value} {a0 : Nat → vp_A} {sz : Nat} {k1 k2 : Nat} (hN : 105 ≤ N) {x0_9 : Int32} (h_x0_9 : m0 9 = .int x0_9) {x0_10 : Int32} (h_x0_10 : m0 10 = .int x0_10) {f : Nat → Int64} (h104 : a0 104 = (1, .inr (.inl f))) (p1 : Int32) : vx_Met l yL_queued (Cond.codeWith yL_queued cL_queued 4 (some .int) [(0, 9, 12, 13)] :: GX) ({ frames := 7, cells := 1, slots := 6, locals := 160 } : Room) (ePc D cy N q m0 a0 sz [.ref (q 0), .int p1, .ref (q 104)] (KE k1 k2)) (va_Qi (fun (r : Int32) (u : (Nat → Value) × (Nat → vp_A)) => u.1 = m0 ∧ LK (fX11_queued x0_9 x0_10 p1) f r a0 u.2) (gB D cy N q sz) (gA N q sz)) (vx_X (fun _ : Unit => False) (fun _ _ _ => True) (gA N q sz)) 1 6 (gA N q sz) := by
  refine vx_ofWH (cc := cL_queued) (maxL := 4) (ret := some .int) (hh := [(0, 9, 12, 13)]) (by decide) rfl ?_
  intro p e s M args below meth c s₁ B hml hv
  obtain ⟨rfl, ⟨hsz, hP, hK, hD⟩, hE⟩ := hv
  subst hsz
  have hts := atoms_spec (ws := Cond.codeWith yL_queued cL_queued 4 (some .int) [(0, 9, 12, 13)] :: GX) B.pre
  have hD' : va_D (gA N q s.heap.size) (gw cy N q m0 a0) := ⟨hD.1, fun k z hk => Or.inl ⟨k, by
    have := (List.getElem?_eq_some_iff.mp hk).1
    rw [gw_len] at this
    exact this, by
    have h1 := (List.getElem?_eq_some_iff.mp hk).1
    rw [gw_len] at h1
    rw [gw_at h1] at hk
    cases hk
    rfl⟩⟩
  have htb : c.exceptionTable.toList = tableOf [(0, 9, 12, 13)] := vx_table (x := yL_queued) B (hts _ List.mem_cons_self)
  have hx := B.exec
  have hb := B.bytes
  have hr := B.returns
  have hGX : ∀ w ∈ GX, w.before _ s = true := fun w hw => hts w (List.mem_cons_of_mem _ hw)
  have hG : ∀ w ∈ GG, w.before _ s = true := fun w hw => hGX w (GG_GX w hw)
  have hown := findClass_of_methodNamed B.named
  have hlocks := B.notSynchronized
  have hW : GW D cy (gA N q s.heap.size) N q m0 a0 s s.heap := ⟨hP, hK, hD'⟩
  have hS : va_S (gA N q s.heap.size) s.heap s.heap [] := va_S.rf
  have hle := hS.1
  rw [lg_entry_eq]
  have hl := lv_entry [.ref (q 0), .int p1, .ref (q 104)] (n := 4) (Nat.le_of_ble_eq_true rfl)
  generalize (lg_sl [.ref (q 0), .int p1, .ref (q 104)] ++ List.replicate (4 - (lg_sl [.ref (q 0), .int p1, .ref (q 104)]).length) Slot.unset).toArray = ls at hl ⊢
  generalize hargs : ([.ref (q 0), .int p1, .ref (q 104)] : List Value).toArray = args at hG hGX ⊢
  refine lv_aload_n hx hb dL_queued_0 rfl (lv_at hl 2 rfl) ?_
  refine lv_iconst (v := 0) hx hb dL_queued_1 (by decide) ?_
  refine lv_aload_n hx hb dL_queued_2 rfl (lv_at hl 0 rfl) ?_
  refine lv_iload_n hx hb dL_queued_3 rfl (lv_at hl 1 rfl) ?_
  refine vx_calli (vx_runV (C := RX11) (b := q 0) (As := [.int p1]) (rest := [.int 0, .ref (q 104)]) ⟨hx, hb, hml, hown, hGX⟩ (kX11_queued (sz := s.heap.size) (k1 := k1) (k2 := k2) hst hN h_x0_9 h_x0_10 p1) (cwV 1 hGX (gd_VX gx623 gx624 gx625 gx2 gx626) rfl rfl rfl (by decide) ⟨Nat.le_of_ble_eq_true rfl, Nat.le_of_ble_eq_true rfl⟩) ⟨ePc.blind KE.ok, g_rv hW (o := 0) (ltN hN 0 rfl) gk0 (by decide) rfl, fun U hU hw => e_pre KE.ok hE hW hS _ U hU hw⟩ rfl rfl hl.1 rfl (lv_room (Nat.le_of_ble_eq_true rfl)) dL_queued_4 ⟨Nat.le_of_ble_eq_true rfl, Nat.le_of_ble_eq_true rfl⟩) hS (fun z _ h => gA_up hle z h) (fun z h => gA_up hle z h) (fun z _ h => gA_up hle z h) (fun E ce q9 u t H1 locs1 ht hvm hp hB hz hk1 hS1 hce hcv hcl => ?_) (fun x u t H1 locs1 ht hvm hp hB hz hk1 hS1 => ?_)
  · obtain ⟨hn0, rfl⟩ := hp
    obtain ⟨rfl, hB⟩ := hB
    have hW1 := g_post hle hW.2.1 ht hB rfl
    refine vx_catch (own := RL) (name := "java/util/NoSuchElementException") hown [] ⟨0, 9, 12, 13⟩ [] htb (fun z hz => nomatch hz) rfl (by decide) (hG _ gx605) (atC_use hE.2.2.2.2 _ atC_nse) hce hcv hcl ?_
    refine lv_astore_n hx hb dL_queued_12 rfl hl (by decide) rfl (fun ls hl => ?_)
    refine lv_iconst (v := 1) hx hb dL_queued_13 (by decide) ?_
    refine vx_ret ?_
    exact W.zret hx hb hr rfl (fun t ht hw => ⟨⟨_, (m0, a0), rfl, ⟨rfl, Or.inl ⟨hn0, rfl, rfl⟩⟩, g_end hW1 ht hw⟩, hS1.F ht⟩) hS1.2.2 dL_queued_14 hlocks
  · obtain ⟨u1, u2⟩ := u
    obtain ⟨hn0, rfl, rfl⟩ := hp
    have hW1 := g_post hle hW.2.1 ht hB rfl
    refine lv_i2l hx hb dL_queued_7 rfl ?_
    refine g_last hx hb hW1 hS1 (o := 104) (ltN hN 104 rfl) gk104 h104 (vin (by decide)) dL_queued_8 (fun a4 H2 locs2 ha4 ho4 hW2 hS2 => ?_)
    refine lv_goto (tgt := 15) hx hb dL_queued_9 (by decide) ?_
    refine lv_iconst (v := 0) hx hb dL_queued_15 (by decide) ?_
    refine vx_ret ?_
    exact W.zret hx hb hr rfl (fun t ht hw => ⟨⟨_, (_, a4), rfl, ⟨rfl, Or.inr ⟨x, hn0, rfl, ha4, ho4⟩⟩, g_end hW2 ht hw⟩, hS2.F ht⟩) hS2.2.2 dL_queued_16 hlocks
