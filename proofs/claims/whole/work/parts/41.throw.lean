/-! part 41: the two methods that throw -/
def atX : List Cond := (xkL RX11 212 "java/util/NoSuchElementException" "java/lang/RuntimeException" 13 xkC ["java/lang/Exception"]).filter vx_no
/-- the words, with those of a throw -/
def GX : List Cond := GG ++ atX.filter goodWord
theorem GG_GX : ∀ w ∈ GG, w ∈ GX := fun _ h => List.mem_append_left _ h
theorem GX_good : GX.all goodWord = true := by
  unfold GX
  rw [List.all_append, GG_good, Bool.true_and]
  exact List.all_eq_true.mpr fun w hw => (List.mem_filter.mp hw).2
def xCast : Cond → Bool
  | .castable _ _ => true
  | .declares _ => true
  | _ => false
theorem xCast.is {w : Cond} (h : xCast w = true) : (∃ a b, w = .castable a b) ∨ ∃ x, w = .declares x := by
  unfold xCast at h
  split at h
  · exact Or.inl ⟨_, _, rfl⟩
  · exact Or.inr ⟨_, rfl⟩
  · exact nomatch h
def atC : List Cond := atX.filter (fun w => !goodWord w)
theorem atC_cast : (atC.all xCast) = true := by decide +kernel
theorem atC_warm {s U : State} (hW : s.WarmedH U.vm) (h : ∀ w ∈ atC, va_Nw w s) : ∀ w ∈ atC, va_Nw w U := fun w hw => by
  obtain ⟨a, b, rfl⟩ | ⟨x, rfl⟩ := xCast.is (List.all_eq_true.mp atC_cast w hw)
  · exact va_tabs rfl (rfl : (s.setVm U.vm).vm = U.vm) (by rw [Cond.castable_setVm hW.alike]; exact h _ hw)
  · exact va_Nw.warmD hW (h _ hw)
theorem atC_same {s U : State} (hv : s.vm = U.vm) (h : ∀ w ∈ atC, va_Nw w s) : ∀ w ∈ atC, va_Nw w U := fun w hw => by
  obtain ⟨a, b, rfl⟩ | ⟨x, rfl⟩ := xCast.is (List.all_eq_true.mp atC_cast w hw)
  · exact va_Nw.same rfl hv (h _ hw)
  · exact va_Nw.same rfl hv (h _ hw)
theorem atC_use {args : Array Value} {s : State} (h : ∀ w ∈ atC, va_Nw w s) : ∀ w ∈ atC, w.before args s = true := fun w hw => by
  obtain ⟨a, b, rfl⟩ | ⟨x, rfl⟩ := xCast.is (List.all_eq_true.mp atC_cast w hw)
  · exact va_Nw.use rfl (h _ hw)
  · exact va_Nw.use rfl (h _ hw)
theorem atX_good : ((Cond.classLink RX11 208 "java/util/NoSuchElementException" :: Cond.initialized "java/util/NoSuchElementException" :: atX).all vx_ot) = true := by decide +kernel
/-- what a throw finds -/
def KE (k1 k2 : Nat) (A : Nat → Prop) (U : State) (H : Heap) : Prop := vk_R RX11 210 "no such kind" k1 U ∧ vk_R RX11 215 "not in the queue" k2 U ∧ vx_Zq Bundle.tN "UNASSIGNED_STACK" Bundle.steD A U H ∧ vx_Zq Bundle.tN "SUPPRESSED_SENTINEL" Bundle.listD A U H ∧ ∀ w ∈ atC, va_Nw w U
theorem KE.ok {k1 k2 : Nat} : EOK (KE k1 k2) := ⟨fun A B s U H h hAB hq hw => ⟨vk_R.warm hw h.1, vk_R.warm hw h.2.1, ((h.2.2.1.kept hq).narrow hAB).moved hw.alike, ((h.2.2.2.1.kept hq).narrow hAB).moved hw.alike, atC_warm hw h.2.2.2.2⟩, fun A U g mk z H h => ⟨vk_R.same (u := U) rfl h.1, vk_R.same (u := U) rfl h.2.1, h.2.2.1.moved (U := U.calling g mk z) (Vm.Alike.refl U.vm), h.2.2.2.1.moved (U := U.calling g mk z) (Vm.Alike.refl U.vm), atC_same (s := U) rfl h.2.2.2.2⟩⟩
theorem atX_hat {args : Array Value} {s : State} (h : ∀ w ∈ GX, w.before args s = true) (hc : ∀ w ∈ atC, va_Nw w s) : ∀ w ∈ atX, w.before args s = true := vx_hat (L := atX) (B := atC) (fun w hw => h w (List.mem_append_right _ hw)) (fun _ h => h) (atC_use hc)
theorem xk_x {D : va_G} {cy : Nat → ClassId} {N : Nat} {q : Nat → Nat} {m : Nat → Value} {a : Nat → vp_A} {s t : State} {H : Heap} {locs : List Loc} (hW : GW D cy (gA N q s.heap.size) N q m a s H) (hS : va_S (gA N q s.heap.size) s.heap H locs) (hv : s.vm.Alike t.vm) (h1 : H.size ≤ t.heap.size) (h2 : ∀ x : Nat, x < H.size → t.heap[x]? = H[x]?) : gB D cy N q s.heap.size (m, a) t ∧ va_F (gA N q s.heap.size) s t := by
  obtain ⟨hP, hK, hD⟩ := hW
  refine ⟨⟨hP.kept (fun k x hx => h2 x.1 (hP k x hx).lt), va_K.moved hv hK, hD⟩, Nat.le_trans hS.1 h1, fun x hx1 hx2 => ?_⟩
  rw [h2 x (Nat.lt_of_lt_of_le hx1 hS.1)]
  exact hS.2.1 x hx1 hx2
-- kind
def fX11_kind_J87 (x0_8 : Int64) (xkr_1 : Int32) (s0j14 : Int32) (s1j14 : Int64) : Option Int32 := (some (fX7_digit s1j14 s0j14))
def fX11_kind_J49 (x0_8 : Int64) (xkr_1 : Int32) : Option Int32 := none
def fX11_kind_J28 (x0_8 : Int64) (xkr_1 : Int32) (v1j2 : Int32) (v2j2 : Int32) (v3j2 : Int32) : Option Int32 := (if v3j2 < 0 then fX11_kind_J49 x0_8 xkr_1 else (if 1 < v3j2 then fX11_kind_J49 x0_8 xkr_1 else (if (fX7_hasKind xkr_1 v1j2 v2j2) = 0 then fX11_kind_J49 x0_8 xkr_1 else (if v3j2 = 0 then fX11_kind_J87 x0_8 xkr_1 (fX7_seenAt ((2 * v1j2) + v2j2)) x0_8 else fX11_kind_J87 x0_8 xkr_1 (fX7_packetsAt ((2 * v1j2) + v2j2)) x0_8))))
def fX11_kind (x0_8 : Int64) (xkr_1 : Int32) (p1 : Int32) (p2 : Int32) (p3 : Int32) : Option Int32 := (if p3 = 2 then (if (fX7_hasLabel xkr_1 p1) = 0 then fX11_kind_J28 x0_8 xkr_1 p1 p2 p3 else (some (fX7_digit x0_8 (fX7_lettersAt p1)))) else fX11_kind_J28 x0_8 xkr_1 p1 p2 p3)
theorem dX11_kind_0 : decode cX11_kind 0 = .ok (.iload_n 3, 1) := by decide +kernel
theorem dX11_kind_1 : decode cX11_kind 1 = .ok (.iconst 2, 1) := by decide +kernel
theorem dX11_kind_2 : decode cX11_kind 2 = .ok (.if_icmp .ne 26, 3) := by decide +kernel
theorem dX11_kind_5 : decode cX11_kind 5 = .ok (.aload_n 0, 1) := by decide +kernel
theorem dX11_kind_6 : decode cX11_kind 6 = .ok (.getfield 56, 3) := by decide +kernel
theorem dX11_kind_9 : decode cX11_kind 9 = .ok (.iload_n 1, 1) := by decide +kernel
theorem dX11_kind_10 : decode cX11_kind 10 = .ok (.invokevirtual 113, 3) := by decide +kernel
theorem dX11_kind_13 : decode cX11_kind 13 = .ok (.ifCond .eq 15, 3) := by decide +kernel
theorem dX11_kind_16 : decode cX11_kind 16 = .ok (.aload_n 0, 1) := by decide +kernel
theorem dX11_kind_17 : decode cX11_kind 17 = .ok (.getfield 64, 3) := by decide +kernel
theorem dX11_kind_20 : decode cX11_kind 20 = .ok (.iload_n 1, 1) := by decide +kernel
theorem dX11_kind_21 : decode cX11_kind 21 = .ok (.invokestatic 148, 3) := by decide +kernel
theorem dX11_kind_24 : decode cX11_kind 24 = .ok (.invokestatic 141, 3) := by decide +kernel
theorem dX11_kind_27 : decode cX11_kind 27 = .ok (.ireturn, 1) := by decide +kernel
theorem dX11_kind_28 : decode cX11_kind 28 = .ok (.iload_n 3, 1) := by decide +kernel
theorem dX11_kind_29 : decode cX11_kind 29 = .ok (.ifCond .lt 20, 3) := by decide +kernel
theorem dX11_kind_32 : decode cX11_kind 32 = .ok (.iload_n 3, 1) := by decide +kernel
theorem dX11_kind_33 : decode cX11_kind 33 = .ok (.iconst 1, 1) := by decide +kernel
theorem dX11_kind_34 : decode cX11_kind 34 = .ok (.if_icmp .gt 15, 3) := by decide +kernel
theorem dX11_kind_37 : decode cX11_kind 37 = .ok (.aload_n 0, 1) := by decide +kernel
theorem dX11_kind_38 : decode cX11_kind 38 = .ok (.getfield 56, 3) := by decide +kernel
theorem dX11_kind_41 : decode cX11_kind 41 = .ok (.iload_n 1, 1) := by decide +kernel
theorem dX11_kind_42 : decode cX11_kind 42 = .ok (.iload_n 2, 1) := by decide +kernel
theorem dX11_kind_43 : decode cX11_kind 43 = .ok (.invokevirtual 103, 3) := by decide +kernel
theorem dX11_kind_46 : decode cX11_kind 46 = .ok (.ifCond .ne 13, 3) := by decide +kernel
theorem dX11_kind_49 : decode cX11_kind 49 = .ok (.new 208, 3) := by decide +kernel
theorem dX11_kind_52 : decode cX11_kind 52 = .ok (.dup, 1) := by decide +kernel
theorem dX11_kind_53 : decode cX11_kind 53 = .ok (.ldc 210, 2) := by decide +kernel
theorem dX11_kind_55 : decode cX11_kind 55 = .ok (.invokespecial 212, 3) := by decide +kernel
theorem dX11_kind_58 : decode cX11_kind 58 = .ok (.athrow, 1) := by decide +kernel
theorem dX11_kind_59 : decode cX11_kind 59 = .ok (.iconst 2, 1) := by decide +kernel
theorem dX11_kind_60 : decode cX11_kind 60 = .ok (.iload_n 1, 1) := by decide +kernel
theorem dX11_kind_61 : decode cX11_kind 61 = .ok (.imul, 1) := by decide +kernel
theorem dX11_kind_62 : decode cX11_kind 62 = .ok (.iload_n 2, 1) := by decide +kernel
theorem dX11_kind_63 : decode cX11_kind 63 = .ok (.iadd, 1) := by decide +kernel
theorem dX11_kind_64 : decode cX11_kind 64 = .ok (.istore 4, 2) := by decide +kernel
theorem dX11_kind_66 : decode cX11_kind 66 = .ok (.aload_n 0, 1) := by decide +kernel
theorem dX11_kind_67 : decode cX11_kind 67 = .ok (.getfield 64, 3) := by decide +kernel
theorem dX11_kind_70 : decode cX11_kind 70 = .ok (.iload_n 3, 1) := by decide +kernel
theorem dX11_kind_71 : decode cX11_kind 71 = .ok (.ifCond .ne 11, 3) := by decide +kernel
theorem dX11_kind_74 : decode cX11_kind 74 = .ok (.iload 4, 2) := by decide +kernel
theorem dX11_kind_76 : decode cX11_kind 76 = .ok (.invokestatic 128, 3) := by decide +kernel
theorem dX11_kind_79 : decode cX11_kind 79 = .ok (.goto 8, 3) := by decide +kernel
theorem dX11_kind_82 : decode cX11_kind 82 = .ok (.iload 4, 2) := by decide +kernel
theorem dX11_kind_84 : decode cX11_kind 84 = .ok (.invokestatic 135, 3) := by decide +kernel
theorem dX11_kind_87 : decode cX11_kind 87 = .ok (.invokestatic 141, 3) := by decide +kernel
theorem dX11_kind_90 : decode cX11_kind 90 = .ok (.ireturn, 1) := by decide +kernel
set_option maxHeartbeats 4000000 in
set_option maxRecDepth 100000 in
theorem kX11_kind {l : Launch} (hst : l.stackTraces = false) {D : va_G} {cy : Nat → ClassId} {N : Nat} {q : Nat → Nat} {m0 : Nat → Value} {a0 : Nat → vp_A} {sz : Nat} {k1 k2 : Nat} (hN : 105 ≤ N) (hsh : SH q m0) {kr : Nat} (hkr : kr < N) (hgk : gk kr = 7) (hrf : m0 7 = .ref (q kr)) {x0_8 : Int64} (h_x0_8 : m0 8 = .long x0_8) {xkr_1 : Int32} (h_xkr_1 : m0 (100 * kr + 1) = .int xkr_1) (p1 : Int32) (p2 : Int32) (p3 : Int32) : vx_Met l yX11_kind (Cond.code yX11_kind cX11_kind 5 (some .int) :: GX) ({ frames := 6, cells := 1, slots := 6, locals := 120 } : Room) (ePc D cy N q m0 a0 sz [.ref (q 0), .int p1, .int p2, .int p3] (KE k1 k2)) (va_Qi (fun (r : Int32) (u : (Nat → Value) × (Nat → vp_A)) => (fX11_kind x0_8 xkr_1 p1 p2 p3) = some r ∧ u.1 = m0 ∧ u.2 = a0) (gB D cy N q sz) (gA N q sz)) (vx_X (fun (u : (Nat → Value) × (Nat → vp_A)) => (fX11_kind x0_8 xkr_1 p1 p2 p3) = none ∧ u = (m0, a0)) (fun E u t => E = "java/util/NoSuchElementException" ∧ gB D cy N q sz u t) (gA N q sz)) 1 6 (gA N q sz) := by
  generalize hs0 : fX11_kind x0_8 xkr_1 p1 p2 p3 = X0
  refine vx_ofW (cc := cX11_kind) (maxL := 5) (ret := some .int) (by decide) rfl ?_
  intro p e s M args below meth c s₁ B hml htab hv
  obtain ⟨rfl, ⟨hsz, hP, hK, hD⟩, hE⟩ := hv
  subst hsz
  have hts := atoms_spec (ws := Cond.code yX11_kind cX11_kind 5 (some .int) :: GX) B.pre
  have hD' : va_D (gA N q s.heap.size) (gw cy N q m0 a0) := ⟨hD.1, fun k z hk => Or.inl ⟨k, by
    have := (List.getElem?_eq_some_iff.mp hk).1
    rw [gw_len] at this
    exact this, by
    have h1 := (List.getElem?_eq_some_iff.mp hk).1
    rw [gw_len] at h1
    rw [gw_at h1] at hk
    cases hk
    rfl⟩⟩
  have hx := B.exec
  have hb := B.bytes
  have hr := B.returns
  have hGX : ∀ w ∈ GX, w.before _ s = true := fun w hw => hts w (List.mem_cons_of_mem _ hw)
  have hG : ∀ w ∈ GG, w.before _ s = true := fun w hw => hGX w (GG_GX w hw)
  have hown := findClass_of_methodNamed B.named
  have hlocks := B.notSynchronized
  have hW : GW D cy (gA N q s.heap.size) N q m0 a0 s s.heap := ⟨hP, hK, hD'⟩
  have hS : va_S (gA N q s.heap.size) s.heap s.heap [] := va_S.rf
  rw [lg_entry_eq]
  have hl := lv_entry [.ref (q 0), .int p1, .int p2, .int p3] (n := 5) (Nat.le_of_ble_eq_true rfl)
  generalize (lg_sl [.ref (q 0), .int p1, .int p2, .int p3] ++ List.replicate (5 - (lg_sl [.ref (q 0), .int p1, .int p2, .int p3]).length) Slot.unset).toArray = ls at hl ⊢
  generalize hargs : ([.ref (q 0), .int p1, .int p2, .int p3] : List Value).toArray = args at hG hGX ⊢
  unfold fX11_kind at hs0
  have hJ87_0 : ∀ (s0j14 : Int32) (s1j14 : Int64) (H : Heap) (locs : List Loc) (ls : Array Slot) (hl : lv_has ls 5 []) (hs0 : fX11_kind_J87 x0_8 xkr_1 s0j14 s1j14 = X0) (hW : GW D cy (gA N q s.heap.size) N q m0 a0 s H) (hS : va_S (gA N q s.heap.size) s.heap H locs), W p l e ({ frames := 6, cells := 1, slots := 6, locals := 120 } : Room) s M args below meth c H locs 0 0 (vx_MQ below (va_Qi (fun (r : Int32) (u : (Nat → Value) × (Nat → vp_A)) => X0 = some r ∧ u.1 = m0 ∧ u.2 = a0) (gB D cy N q s.heap.size) (gA N q s.heap.size)) (vx_X (fun (u : (Nat → Value) × (Nat → vp_A)) => X0 = none ∧ u = (m0, a0)) (fun E u t => E = "java/util/NoSuchElementException" ∧ gB D cy N q s.heap.size u t) (gA N q s.heap.size)) args s 1 6 (gA N q s.heap.size)) (F0 M 87 ls [.int s0j14, .long s1j14]) := by
    intro s0j14 s1j14 H locs ls hl hs0 hW hS
    unfold fX11_kind_J87 at hs0
    refine g_SiR (n := 2) hx hb hml hown hG hW hS [.long s1j14, .int s0j14] (kX7_digit hN s1j14 s0j14) rfl (gd_S gx319 gx320 gx39 gx321) rfl rfl (by decide) ⟨Nat.le_of_ble_eq_true rfl, Nat.le_of_ble_eq_true rfl⟩ rfl hl (Nat.le_of_ble_eq_true rfl) ⟨Nat.zero_le _, Nat.zero_le _⟩ dX11_kind_87 (fun H locs hW hS => ?_)
    subst hs0
    refine vx_ret ?_
    refine W.widen (k := 1) (n := 6) (Nat.zero_le _) (Nat.zero_le _) ?_
    exact W.zret hx hb hr rfl (fun t ht hw => ⟨⟨_, (m0, a0), rfl, ⟨rfl, rfl, rfl⟩, g_end hW ht hw⟩, hS.F ht⟩) hS.2.2 dX11_kind_90 hlocks
  have hJ49_0 : ∀  (H : Heap) (locs : List Loc) (ls : Array Slot) (hl : lv_has ls 5 []) (hs0 : fX11_kind_J49 x0_8 xkr_1 = X0) (hW : GW D cy (gA N q s.heap.size) N q m0 a0 s H) (hS : va_S (gA N q s.heap.size) s.heap H locs), W p l e ({ frames := 6, cells := 1, slots := 6, locals := 120 } : Room) s M args below meth c H locs 0 0 (vx_MQ below (va_Qi (fun (r : Int32) (u : (Nat → Value) × (Nat → vp_A)) => X0 = some r ∧ u.1 = m0 ∧ u.2 = a0) (gB D cy N q s.heap.size) (gA N q s.heap.size)) (vx_X (fun (u : (Nat → Value) × (Nat → vp_A)) => X0 = none ∧ u = (m0, a0)) (fun E u t => E = "java/util/NoSuchElementException" ∧ gB D cy N q s.heap.size u t) (gA N q s.heap.size)) args s 1 6 (gA N q s.heap.size)) (F0 M 49 ls []) := by
    intro H locs ls hl hs0 hW hS
    unfold fX11_kind_J49 at hs0
    subst hs0
    exact xk_throwS (names := ["java/lang/Exception"]) (cls := "java/util/NoSuchElementException") (Y := "java/lang/RuntimeException") hx hb hst (own := RX11) hown (by decide) (by decide) (by decide) xkC_0 xkC_1 xkC_2 xkC_5 (hG _ gx610) (hG _ gx611) hE.1 (atX_hat hGX hE.2.2.2.2) (List.all_eq_true.mp atX_good) hE.2.2.1 hE.2.2.2.1 hS (hl.1.trans hml.symm) dX11_kind_49 dX11_kind_52 dX11_kind_53 dX11_kind_55 dX11_kind_58 (fun x hx => (htab x hx).elim) (by decide) (by decide) (by decide) (by decide) hlocks (fun t hv h1 h2 => ⟨(m0, a0), ⟨rfl, rfl⟩, ⟨rfl, (xk_x hW hS hv h1 h2).1⟩, (xk_x hW hS hv h1 h2).2⟩) hS.2.2 (by decide) (by decide)
  have hJ28_0 : ∀ (v1j2 : Int32) (v2j2 : Int32) (v3j2 : Int32) (H : Heap) (locs : List Loc) (ls : Array Slot) (hl : lv_has ls 5 [(0, .ref (q 0)), (1, .int v1j2), (2, .int v2j2), (3, .int v3j2)]) (hs0 : fX11_kind_J28 x0_8 xkr_1 v1j2 v2j2 v3j2 = X0) (hW : GW D cy (gA N q s.heap.size) N q m0 a0 s H) (hS : va_S (gA N q s.heap.size) s.heap H locs), W p l e ({ frames := 6, cells := 1, slots := 6, locals := 120 } : Room) s M args below meth c H locs 0 0 (vx_MQ below (va_Qi (fun (r : Int32) (u : (Nat → Value) × (Nat → vp_A)) => X0 = some r ∧ u.1 = m0 ∧ u.2 = a0) (gB D cy N q s.heap.size) (gA N q s.heap.size)) (vx_X (fun (u : (Nat → Value) × (Nat → vp_A)) => X0 = none ∧ u = (m0, a0)) (fun E u t => E = "java/util/NoSuchElementException" ∧ gB D cy N q s.heap.size u t) (gA N q s.heap.size)) args s 1 6 (gA N q s.heap.size)) (F0 M 28 ls []) := by
    intro v1j2 v2j2 v3j2 H locs ls hl hs0 hW hS
    unfold fX11_kind_J28 at hs0
    refine lv_iload_n hx hb dX11_kind_28 rfl (lv_at hl 3 rfl) ?_
    refine lv_if_lt (tgt := 49) hx hb dX11_kind_29 (by decide) (fun c7 => ?_) (fun c7 => ?_)
    · rw [if_pos c7] at hs0
      exact hJ49_0  _ _ ls (lv_sub hl [] rfl) hs0 hW hS
    · rw [if_neg c7] at hs0
      refine lv_iload_n hx hb dX11_kind_32 rfl (lv_at hl 3 rfl) ?_
      refine lv_iconst (v := 1) hx hb dX11_kind_33 (by decide) ?_
      refine lv_icmp_gt (tgt := 49) hx hb dX11_kind_34 (by decide) (fun c9 => ?_) (fun c9 => ?_)
      · rw [if_pos c9] at hs0
        exact hJ49_0  _ _ ls (lv_sub hl [] rfl) hs0 hW hS
      · rw [if_neg c9] at hs0
        refine lv_aload_n hx hb dX11_kind_37 rfl (lv_at hl 0 rfl) ?_
        refine gf11_7 hx hb hG hown hW (o := 0) (ltN hN 0 rfl) gk0 (v := .ref (q kr)) hrf gx40 dX11_kind_38 ?_
        refine lv_iload_n hx hb dX11_kind_41 rfl (lv_at hl 1 rfl) ?_
        refine lv_iload_n hx hb dX11_kind_42 rfl (lv_at hl 2 rfl) ?_
        refine g_ViR (n := 2) hx hb hml hown hG hW hS [.int v1j2, .int v2j2] (kX7_hasKind hN hkr hgk h_xkr_1 v1j2 v2j2) hkr hgk (by decide) rfl rfl (gd_V gx263 gx264 gx265 gx39 gx266) rfl rfl (by decide) ⟨Nat.le_of_ble_eq_true rfl, Nat.le_of_ble_eq_true rfl⟩ rfl hl (Nat.le_of_ble_eq_true rfl) ⟨Nat.zero_le _, Nat.zero_le _⟩ dX11_kind_43 (fun H locs hW hS => ?_)
        refine lv_if_ne (tgt := 59) hx hb dX11_kind_46 (by decide) (fun c11 => ?_) (fun c11 => ?_)
        · rw [if_neg c11] at hs0
          refine lv_iconst (v := 2) hx hb dX11_kind_59 (by decide) ?_
          refine lv_iload_n hx hb dX11_kind_60 rfl (lv_at hl 1 rfl) ?_
          refine lv_imul hx hb dX11_kind_61 ?_
          refine lv_iload_n hx hb dX11_kind_62 rfl (lv_at hl 2 rfl) ?_
          refine lv_iadd hx hb dX11_kind_63 ?_
          refine lv_istore (lv' := [(4, .int ((2 * v1j2) + v2j2)), (0, .ref (q 0)), (1, .int v1j2), (2, .int v2j2), (3, .int v3j2)]) hx hb dX11_kind_64 hl (by decide) rfl (fun ls hl => ?_)
          refine lv_aload_n hx hb dX11_kind_66 rfl (lv_at hl 1 rfl) ?_
          refine gf11_8 hx hb hG hown hW (o := 0) (ltN hN 0 rfl) gk0 (v := .long x0_8) h_x0_8 gx41 dX11_kind_67 ?_
          refine lv_iload_n hx hb dX11_kind_70 rfl (lv_at hl 4 rfl) ?_
          refine lv_if_ne (tgt := 82) hx hb dX11_kind_71 (by decide) (fun c12 => ?_) (fun c12 => ?_)
          · rw [if_neg c12] at hs0
            refine lv_iload hx hb dX11_kind_82 (lv_at hl 0 rfl) ?_
            refine g_SiR (n := 1) hx hb hml hown hG hW hS [.int ((2 * v1j2) + v2j2)] (kX7_packetsAt hN ((2 * v1j2) + v2j2)) rfl (gd_S gx339 gx340 gx39 gx341) rfl rfl (by decide) ⟨Nat.le_of_ble_eq_true rfl, Nat.le_of_ble_eq_true rfl⟩ rfl hl (Nat.le_of_ble_eq_true rfl) ⟨Nat.zero_le _, Nat.zero_le _⟩ dX11_kind_84 (fun H locs hW hS => ?_)
            exact hJ87_0 (fX7_packetsAt ((2 * v1j2) + v2j2)) x0_8 _ _ ls (lv_sub hl [] rfl) hs0 hW hS
          · rw [if_pos c12] at hs0
            refine lv_iload hx hb dX11_kind_74 (lv_at hl 0 rfl) ?_
            refine g_SiR (n := 1) hx hb hml hown hG hW hS [.int ((2 * v1j2) + v2j2)] (kX7_seenAt hN ((2 * v1j2) + v2j2)) rfl (gd_S gx312 gx313 gx39 gx314) rfl rfl (by decide) ⟨Nat.le_of_ble_eq_true rfl, Nat.le_of_ble_eq_true rfl⟩ rfl hl (Nat.le_of_ble_eq_true rfl) ⟨Nat.zero_le _, Nat.zero_le _⟩ dX11_kind_76 (fun H locs hW hS => ?_)
            refine lv_goto (tgt := 87) hx hb dX11_kind_79 (by decide) ?_
            exact hJ87_0 (fX7_seenAt ((2 * v1j2) + v2j2)) x0_8 _ _ ls (lv_sub hl [] rfl) hs0 hW hS
        · rw [if_pos c11] at hs0
          exact hJ49_0  _ _ ls (lv_sub hl [] rfl) hs0 hW hS
  refine lv_iload_n hx hb dX11_kind_0 rfl (lv_at hl 3 rfl) ?_
  refine lv_iconst (v := 2) hx hb dX11_kind_1 (by decide) ?_
  refine lv_icmp_ne (tgt := 28) hx hb dX11_kind_2 (by decide) (fun c1 => ?_) (fun c1 => ?_)
  · rw [if_neg c1] at hs0
    exact hJ28_0 p1 p2 p3 _ _ ls (lv_sub hl [0, 1, 2, 3] rfl) hs0 hW hS
  · rw [if_pos c1] at hs0
    refine lv_aload_n hx hb dX11_kind_5 rfl (lv_at hl 0 rfl) ?_
    refine gf11_7 hx hb hG hown hW (o := 0) (ltN hN 0 rfl) gk0 (v := .ref (q kr)) hrf gx40 dX11_kind_6 ?_
    refine lv_iload_n hx hb dX11_kind_9 rfl (lv_at hl 1 rfl) ?_
    refine g_ViR (n := 1) hx hb hml hown hG hW hS [.int p1] (kX7_hasLabel hN hkr hgk h_xkr_1 p1) hkr hgk (by decide) rfl rfl (gd_V gx292 gx268 gx269 gx39 gx270) rfl rfl (by decide) ⟨Nat.le_of_ble_eq_true rfl, Nat.le_of_ble_eq_true rfl⟩ rfl hl (Nat.le_of_ble_eq_true rfl) ⟨Nat.zero_le _, Nat.zero_le _⟩ dX11_kind_10 (fun H locs hW hS => ?_)
    refine lv_if_eq (tgt := 28) hx hb dX11_kind_13 (by decide) (fun c4 => ?_) (fun c4 => ?_)
    · rw [if_pos c4] at hs0
      exact hJ28_0 p1 p2 p3 _ _ ls (lv_sub hl [0, 1, 2, 3] rfl) hs0 hW hS
    · rw [if_neg c4] at hs0
      refine lv_aload_n hx hb dX11_kind_16 rfl (lv_at hl 0 rfl) ?_
      refine gf11_8 hx hb hG hown hW (o := 0) (ltN hN 0 rfl) gk0 (v := .long x0_8) h_x0_8 gx41 dX11_kind_17 ?_
      refine lv_iload_n hx hb dX11_kind_20 rfl (lv_at hl 1 rfl) ?_
      refine g_SiR (n := 1) hx hb hml hown hG hW hS [.int p1] (kX7_lettersAt hN p1) rfl (gd_S gx368 gx369 gx39 gx370) rfl rfl (by decide) ⟨Nat.le_of_ble_eq_true rfl, Nat.le_of_ble_eq_true rfl⟩ rfl hl (Nat.le_of_ble_eq_true rfl) ⟨Nat.zero_le _, Nat.zero_le _⟩ dX11_kind_21 (fun H locs hW hS => ?_)
      refine g_SiR (n := 2) hx hb hml hown hG hW hS [.long x0_8, .int (fX7_lettersAt p1)] (kX7_digit hN x0_8 (fX7_lettersAt p1)) rfl (gd_S gx319 gx320 gx39 gx321) rfl rfl (by decide) ⟨Nat.le_of_ble_eq_true rfl, Nat.le_of_ble_eq_true rfl⟩ rfl hl (Nat.le_of_ble_eq_true rfl) ⟨Nat.zero_le _, Nat.zero_le _⟩ dX11_kind_24 (fun H locs hW hS => ?_)
      subst hs0
      refine vx_ret ?_
      refine W.widen (k := 1) (n := 6) (Nat.zero_le _) (Nat.zero_le _) ?_
      exact W.zret hx hb hr rfl (fun t ht hw => ⟨⟨_, (m0, a0), rfl, ⟨rfl, rfl, rfl⟩, g_end hW ht hw⟩, hS.F ht⟩) hS.2.2 dX11_kind_27 hlocks
-- queued
def fX11_queued_J12 (x0_9 : Int32) (x0_10 : Int32) : Option Int32 := none
def fX11_queued (x0_9 : Int32) (x0_10 : Int32) (p1 : Int32) : Option Int32 := (if p1 < 0 then fX11_queued_J12 x0_9 x0_10 else (if p1 < x0_10 then (some (((x0_9.toUInt32 >>> (p1.toUInt32 &&& Int32.toUInt32 31)).toInt32) &&& (1 : Int32))) else fX11_queued_J12 x0_9 x0_10))
theorem dX11_queued_0 : decode cX11_queued 0 = .ok (.iload_n 1, 1) := by decide +kernel
theorem dX11_queued_1 : decode cX11_queued 1 = .ok (.ifCond .lt 11, 3) := by decide +kernel
theorem dX11_queued_4 : decode cX11_queued 4 = .ok (.iload_n 1, 1) := by decide +kernel
theorem dX11_queued_5 : decode cX11_queued 5 = .ok (.aload_n 0, 1) := by decide +kernel
theorem dX11_queued_6 : decode cX11_queued 6 = .ok (.getfield 84, 3) := by decide +kernel
theorem dX11_queued_9 : decode cX11_queued 9 = .ok (.if_icmp .lt 13, 3) := by decide +kernel
theorem dX11_queued_12 : decode cX11_queued 12 = .ok (.new 208, 3) := by decide +kernel
theorem dX11_queued_15 : decode cX11_queued 15 = .ok (.dup, 1) := by decide +kernel
theorem dX11_queued_16 : decode cX11_queued 16 = .ok (.ldc 215, 2) := by decide +kernel
theorem dX11_queued_18 : decode cX11_queued 18 = .ok (.invokespecial 212, 3) := by decide +kernel
theorem dX11_queued_21 : decode cX11_queued 21 = .ok (.athrow, 1) := by decide +kernel
theorem dX11_queued_22 : decode cX11_queued 22 = .ok (.aload_n 0, 1) := by decide +kernel
theorem dX11_queued_23 : decode cX11_queued 23 = .ok (.getfield 80, 3) := by decide +kernel
theorem dX11_queued_26 : decode cX11_queued 26 = .ok (.iload_n 1, 1) := by decide +kernel
theorem dX11_queued_27 : decode cX11_queued 27 = .ok (.iushr, 1) := by decide +kernel
theorem dX11_queued_28 : decode cX11_queued 28 = .ok (.iconst 1, 1) := by decide +kernel
theorem dX11_queued_29 : decode cX11_queued 29 = .ok (.iand, 1) := by decide +kernel
theorem dX11_queued_30 : decode cX11_queued 30 = .ok (.ireturn, 1) := by decide +kernel
set_option maxHeartbeats 4000000 in
set_option maxRecDepth 100000 in
theorem kX11_queued {l : Launch} (hst : l.stackTraces = false) {D : va_G} {cy : Nat → ClassId} {N : Nat} {q : Nat → Nat} {m0 : Nat → Value} {a0 : Nat → vp_A} {sz : Nat} {k1 k2 : Nat} (hN : 105 ≤ N) {x0_9 : Int32} (h_x0_9 : m0 9 = .int x0_9) {x0_10 : Int32} (h_x0_10 : m0 10 = .int x0_10) (p1 : Int32) : vx_Met l yX11_queued (Cond.code yX11_queued cX11_queued 2 (some .int) :: GX) ({ frames := 6, cells := 1, slots := 6, locals := 120 } : Room) (ePc D cy N q m0 a0 sz [.ref (q 0), .int p1] (KE k1 k2)) (va_Qi (fun (r : Int32) (u : (Nat → Value) × (Nat → vp_A)) => (fX11_queued x0_9 x0_10 p1) = some r ∧ u.1 = m0 ∧ u.2 = a0) (gB D cy N q sz) (gA N q sz)) (vx_X (fun (u : (Nat → Value) × (Nat → vp_A)) => (fX11_queued x0_9 x0_10 p1) = none ∧ u = (m0, a0)) (fun E u t => E = "java/util/NoSuchElementException" ∧ gB D cy N q sz u t) (gA N q sz)) 1 6 (gA N q sz) := by
  generalize hs0 : fX11_queued x0_9 x0_10 p1 = X0
  refine vx_ofW (cc := cX11_queued) (maxL := 2) (ret := some .int) (by decide) rfl ?_
  intro p e s M args below meth c s₁ B hml htab hv
  obtain ⟨rfl, ⟨hsz, hP, hK, hD⟩, hE⟩ := hv
  subst hsz
  have hts := atoms_spec (ws := Cond.code yX11_queued cX11_queued 2 (some .int) :: GX) B.pre
  have hD' : va_D (gA N q s.heap.size) (gw cy N q m0 a0) := ⟨hD.1, fun k z hk => Or.inl ⟨k, by
    have := (List.getElem?_eq_some_iff.mp hk).1
    rw [gw_len] at this
    exact this, by
    have h1 := (List.getElem?_eq_some_iff.mp hk).1
    rw [gw_len] at h1
    rw [gw_at h1] at hk
    cases hk
    rfl⟩⟩
  have hx := B.exec
  have hb := B.bytes
  have hr := B.returns
  have hGX : ∀ w ∈ GX, w.before _ s = true := fun w hw => hts w (List.mem_cons_of_mem _ hw)
  have hG : ∀ w ∈ GG, w.before _ s = true := fun w hw => hGX w (GG_GX w hw)
  have hown := findClass_of_methodNamed B.named
  have hlocks := B.notSynchronized
  have hW : GW D cy (gA N q s.heap.size) N q m0 a0 s s.heap := ⟨hP, hK, hD'⟩
  have hS : va_S (gA N q s.heap.size) s.heap s.heap [] := va_S.rf
  rw [lg_entry_eq]
  have hl := lv_entry [.ref (q 0), .int p1] (n := 2) (Nat.le_of_ble_eq_true rfl)
  generalize (lg_sl [.ref (q 0), .int p1] ++ List.replicate (2 - (lg_sl [.ref (q 0), .int p1]).length) Slot.unset).toArray = ls at hl ⊢
  generalize hargs : ([.ref (q 0), .int p1] : List Value).toArray = args at hG hGX ⊢
  unfold fX11_queued at hs0
  have hJ12_0 : ∀  (H : Heap) (locs : List Loc) (ls : Array Slot) (hl : lv_has ls 2 []) (hs0 : fX11_queued_J12 x0_9 x0_10 = X0) (hW : GW D cy (gA N q s.heap.size) N q m0 a0 s H) (hS : va_S (gA N q s.heap.size) s.heap H locs), W p l e ({ frames := 6, cells := 1, slots := 6, locals := 120 } : Room) s M args below meth c H locs 0 0 (vx_MQ below (va_Qi (fun (r : Int32) (u : (Nat → Value) × (Nat → vp_A)) => X0 = some r ∧ u.1 = m0 ∧ u.2 = a0) (gB D cy N q s.heap.size) (gA N q s.heap.size)) (vx_X (fun (u : (Nat → Value) × (Nat → vp_A)) => X0 = none ∧ u = (m0, a0)) (fun E u t => E = "java/util/NoSuchElementException" ∧ gB D cy N q s.heap.size u t) (gA N q s.heap.size)) args s 1 6 (gA N q s.heap.size)) (F0 M 12 ls []) := by
    intro H locs ls hl hs0 hW hS
    unfold fX11_queued_J12 at hs0
    subst hs0
    exact xk_throwS (names := ["java/lang/Exception"]) (cls := "java/util/NoSuchElementException") (Y := "java/lang/RuntimeException") hx hb hst (own := RX11) hown (by decide) (by decide) (by decide) xkC_0 xkC_1 xkC_2 xkC_5 (hG _ gx610) (hG _ gx611) hE.2.1 (atX_hat hGX hE.2.2.2.2) (List.all_eq_true.mp atX_good) hE.2.2.1 hE.2.2.2.1 hS (hl.1.trans hml.symm) dX11_queued_12 dX11_queued_15 dX11_queued_16 dX11_queued_18 dX11_queued_21 (fun x hx => (htab x hx).elim) (by decide) (by decide) (by decide) (by decide) hlocks (fun t hv h1 h2 => ⟨(m0, a0), ⟨rfl, rfl⟩, ⟨rfl, (xk_x hW hS hv h1 h2).1⟩, (xk_x hW hS hv h1 h2).2⟩) hS.2.2 (by decide) (by decide)
  refine lv_iload_n hx hb dX11_queued_0 rfl (lv_at hl 1 rfl) ?_
  refine lv_if_lt (tgt := 12) hx hb dX11_queued_1 (by decide) (fun c1 => ?_) (fun c1 => ?_)
  · rw [if_pos c1] at hs0
    exact hJ12_0  _ _ ls (lv_sub hl [] rfl) hs0 hW hS
  · rw [if_neg c1] at hs0
    refine lv_iload_n hx hb dX11_queued_4 rfl (lv_at hl 1 rfl) ?_
    refine lv_aload_n hx hb dX11_queued_5 rfl (lv_at hl 0 rfl) ?_
    refine gf11_10 hx hb hG hown hW (o := 0) (ltN hN 0 rfl) gk0 (v := .int x0_10) h_x0_10 gx212 dX11_queued_6 ?_
    refine lv_icmp_lt (tgt := 22) hx hb dX11_queued_9 (by decide) (fun c3 => ?_) (fun c3 => ?_)
    · rw [if_pos c3] at hs0
      refine lv_aload_n hx hb dX11_queued_22 rfl (lv_at hl 0 rfl) ?_
      refine gf11_9 hx hb hG hown hW (o := 0) (ltN hN 0 rfl) gk0 (v := .int x0_9) h_x0_9 gx211 dX11_queued_23 ?_
      refine lv_iload_n hx hb dX11_queued_26 rfl (lv_at hl 1 rfl) ?_
      refine lv_iushr hx hb dX11_queued_27 rfl ?_
      refine lv_iconst (v := 1) hx hb dX11_queued_28 (by decide) ?_
      refine lv_iand hx hb dX11_queued_29 ?_
      subst hs0
      refine vx_ret ?_
      refine W.widen (k := 1) (n := 6) (Nat.zero_le _) (Nat.zero_le _) ?_
      exact W.zret hx hb hr rfl (fun t ht hw => ⟨⟨_, (m0, a0), rfl, ⟨rfl, rfl, rfl⟩, g_end hW ht hw⟩, hS.F ht⟩) hS.2.2 dX11_queued_30 hlocks
    · rw [if_neg c3] at hs0
      exact hJ12_0  _ _ ls (lv_sub hl [] rfl) hs0 hW hS
