/-! part 33: Rules made in calls -/
/-- a constructor's contract: from N slots to N' -/
def gMh (l : Launch) (y : MethodName) (b : ByteArray) (n : Nat) (rm : Room) (D : va_G) (cy : Nat → ClassId) (N N' : Nat) (q : Nat → Nat) (m : Nat → Value) (a : Nat → vp_A) (sz : Nat) (av : List Value) (mc ms : Nat) (post : (Nat → Nat) → (Nat → Value) → (Nat → vp_A) → Prop) : Prop := Met l y (Cond.code y b n none :: GG) rm (gPc D cy N q m a sz av) (va_Qv (fun u => post u.1 u.2.1 u.2.2) (gBg D cy N q sz N') (gA N q sz)) mc ms (gA N q sz)
section GH
variable {p : Program} {l : Launch} {e : Env} {R : Room} {s : State} {M : MethodId} {args : Array Value} {below : List Frame} {meth : Method} {c : Code} {H : Heap} {locs : List Loc} {cells slots : Nat} {Q : State → Prop}
variable {cc : ByteArray} {pc : Nat} {ls : Array Slot} {rest st0 : List Value} {D : va_G} {cy : Nat → ClassId} {A : Nat → Prop} {N : Nat} {q : Nat → Nat} {m : Nat → Value} {a : Nat → vp_A}
variable {own : String} {o index n nb nL mc ms : Nat} {y : MethodName} {b : ByteArray} {rm : Room} {As : List Value} {lv : List (Nat × Value)} {N' : Nat}
/-- the call of a constructor that may make cells -/
theorem g_Ih {post : (Nat → Nat) → (Nat → Value) → (Nat → vp_A) → Prop} (hx : p.tables.exec = Jvm.exec) (hb : c.code = cc) (hml : c.maxLocals = nL) (hown : s.vm.findClass own = some M.cls) (hG : ∀ w ∈ GG, w.before args s = true) (hW : GW D cy A N q m a s H) (hS : va_S A s.heap H locs) (hA : ∀ x, s.heap.size ≤ x → A x) (As : List Value)
    (hM : gMh l y b nb rm D cy N N' q m a H.size (.ref (q o) :: As) mc ms post) (hst : st0 = As.reverse ++ .ref (q o) :: rest) (hl1 : Cond.methodLink own index y ∈ GG) (hl2 : Cond.instanceMethod y ∈ GG) (hl3 : Cond.initialized y.cls ∈ GG) (hl4 : Cond.code y b nb none ∈ GG) (hrc : rm.cells = mc) (hrs : rm.slots = ms)
    (hd : y.name = "<init>" ∧ y.cls ≠ "java/lang/invoke/MethodHandle" ∧ y.cls ≠ "java/lang/invoke/VarHandle" ∧ (parseMethodDescriptor y.desc).map (fun d => d.parameters.length) = some n) (hR : rm.frames + 1 ≤ R.frames ∧ 8 + (nb + 11) + rm.locals ≤ R.locals) (hn : As.length = n) (hl : lv_has ls nL lv) (hr8 : (rest.map fun v => v.category).sum ≤ 8) (hf : cells + mc ≤ R.cells ∧ slots + ms ≤ R.slots) (hdg : decode cc pc = .ok (.invokespecial index, 3))
    (kk : ∀ (q' : Nat → Nat) (m' : Nat → Value) (a' : Nat → vp_A) (H1 : Heap) (locs1 : List Loc), post q' m' a' → GW D cy A N' q' m' a' s H1 → va_S A s.heap H1 locs1 → W p l e R s M args below meth c H1 locs1 (cells + mc) (slots + ms) Q (F0 M (pc + 3) ls rest)) : W p l e R s M args below meth c H locs cells slots Q (F0 M pc ls st0) := by
  have hle := hS.1
  have hAA : ∀ x, gA N q H.size x → A x := gA_A hW hS hA
  have hgood : GoodIn GG (Cond.code y b nb none :: GG) := goodIn_sub (fun w h => by
    rcases List.mem_cons.mp h with rfl | h
    · exact hl4
    · exact h) (List.all_eq_true.mpr fun w h => List.all_eq_true.mp GG_good w (by
    rcases List.mem_cons.mp h with rfl | h
    · exact hl4
    · exact h))
  refine va_callv (va_runI (As := As) (rest := rest) ⟨hx, hb, hml, hown, hG⟩ hM (cwI n hG hgood rfl hrc hrs (hG _ hl3) (hG _ hl1) (hG _ hl2) hd.1 hd.2 hR) ⟨GW.blind, fun U hU hw => ?_⟩ rfl hn hl.1 hst (lv_room hr8) hdg hf) hS (fun z _ h => hAA z h) (fun z h => hAA z h) (fun u t H1 locs1 ht hvm hp hB hz hk1 hS1 => ?_)
  · obtain ⟨hP, hK, hD⟩ := hW
    exact ⟨rfl, by rw [hU], by rw [hU]; exact hP, va_K.moved hw.alike hK, hD.weaken (fun _ _ _ _ => trivial)⟩
  · obtain ⟨hP, hK, hD⟩ := hB
    refine kk u.1 u.2.1 u.2.2 H1 locs1 hp ⟨by rw [← ht]; exact hP, hW.2.1, hD.weaken (fun _ _ _ h => hAA _ h)⟩ hS1
theorem gA_grow {q' : Nat → Nat} {sz : Nat} (hq : ∀ k, k < N → q' k = q k) (hD : va_D (gA N q sz) (gw cy (N + 1) q' m a)) : gA N q sz = gA (N + 1) q' sz := by
  funext x
  apply propext
  constructor
  · rintro (⟨k, hk, rfl⟩ | h)
    · exact Or.inl ⟨k, by omega, (hq k hk).symm⟩
    · exact Or.inr h
  · rintro (⟨k, hk, rfl⟩ | h)
    · have h1 := hD.2 k (q' k, gcont cy m a k) (gw_at hk)
      exact h1
    · exact Or.inr h
theorem GW.shrink {q' : Nat → Nat} (h : GW D cy A (N + 1) q' m a s H) (hq : ∀ k, k < N → q' k = q k) : GW D cy A N q m a s H := by
  obtain ⟨hP, hK, hD⟩ := h
  have key : ∀ (k : Nat) (e : Nat × va_E), (gw cy N q m a)[k]? = some e → (gw cy (N + 1) q' m a)[k]? = some e := by
    intro k e he
    have hk : k < N := by
      have := (List.getElem?_eq_some_iff.mp he).1
      rw [gw_len] at this
      exact this
    rw [gw_at hk] at he
    rw [gw_at (by omega), hq k hk]
    exact he
  exact ⟨fun k e he => hP k e (key k e he), hK, ⟨fun i j p q hi hj hpq => hD.1 i j p q (key i p hi) (key j q hj) hpq, fun k e he => hD.2 k e (key k e he)⟩⟩
/-- the call of a method that answers a new object at slot N -/
theorem g_Vr {C : String} {T : u_T} {n0 ci : Nat} {r : Option FieldType} {post : (Nat → Nat) × (Nat → Value) × (Nat → vp_A) → Prop} (hx : p.tables.exec = Jvm.exec) (hb : c.code = cc) (hml : c.maxLocals = nL) (hown : s.vm.findClass own = some M.cls) (hG : ∀ w ∈ GG, w.before args s = true) (hW : GW D cy A N q m a s H) (hS : va_S A s.heap H locs) (hA : ∀ x, s.heap.size ≤ x → A x) (As : List Value)
    (hM : Met l y (Cond.code y b nb r :: GG) rm (gPc D cy N q m a H.size (.ref (q o) :: As)) (va_Qr post (fun u x t => x = u.1 N ∧ gBg D cy N q H.size (N + 1) u t) (gA N q H.size)) mc ms (gA N q H.size)) (ho : o < N) (hk : gk o = ci) (hci : ci < 13) (hc : vwCl[ci]? = some (C, T, n0)) (hst : st0 = As.reverse ++ .ref (q o) :: rest) (hg : GoodIn GG (wsV own index C y (Cond.code y b nb r :: GG))) (hrc : rm.cells = mc) (hrs : rm.slots = ms)
    (hd : y.cls = C ∧ y.cls ≠ "java/lang/invoke/MethodHandle" ∧ y.cls ≠ "java/lang/invoke/VarHandle" ∧ (parseMethodDescriptor y.desc).map (fun d => d.parameters.length) = some n) (hR : rm.frames + 1 ≤ R.frames ∧ 8 + (nb + 11) + rm.locals ≤ R.locals) (hn : As.length = n) (hl : lv_has ls nL lv) (hr8 : (rest.map fun v => v.category).sum ≤ 8) (hf : cells + mc ≤ R.cells ∧ slots + ms ≤ R.slots) (hdg : decode cc pc = .ok (.invokevirtual index, 3))
    (kk : ∀ (q' : Nat → Nat) (m' : Nat → Value) (a' : Nat → vp_A) (H1 : Heap) (locs1 : List Loc), post (q', m', a') → GW D cy A (N + 1) q' m' a' s H1 → va_S A s.heap H1 locs1 → W p l e R s M args below meth c H1 locs1 (cells + mc) (slots + ms) Q (F0 M (pc + 3) ls (.ref (q' N) :: rest))) : W p l e R s M args below meth c H locs cells slots Q (F0 M pc ls st0) := by
  have hAA : ∀ x, gA N q H.size x → A x := gA_A hW hS hA
  have hrv : ∃ cellB : Cell, H[q o]? = some cellB ∧ cellB.vm.isStatics = false ∧ s.vm.findClass C = some cellB.cls := by
    obtain ⟨hP, hK, hD⟩ := hW
    have he : (gw cy N q m a)[o]? = some (q o, .inr (ci, (List.range (gnf ci)).map (fun j => m (100 * o + j)))) := by rw [gw_at ho, gcont_o hk hci rfl]
    exact va_recv hK hP hc he
  refine va_callr (va_runV (As := As) (rest := rest) ⟨hx, hb, hml, hown, hG⟩ hM (cwV n hG hg rfl hrc hrs hd hR) ⟨GW.blind, hrv, fun U hU hw => ?_⟩ rfl hn hl.1 hst (lv_room hr8) hdg hf) hS (fun z _ h => hAA z h) (fun z h => hAA z h) (fun u x t H1 locs1 ht hvm hp hB hz hk1 hS1 => ?_)
  · obtain ⟨hP, hK, hD⟩ := hW
    exact ⟨rfl, by rw [hU], by rw [hU]; exact hP, va_K.moved hw.alike hK, hD.weaken (fun _ _ _ _ => trivial)⟩
  · obtain ⟨rfl, hP, hK, hD⟩ := hB
    exact kk u.1 u.2.1 u.2.2 H1 locs1 hp ⟨by rw [← ht]; exact hP, hW.2.1, hD.weaken (fun _ _ _ h => hAA _ h)⟩ hS1
end GH
/-- a constructor's start -/
theorem g_ofh {l : Launch} {y : MethodName} {b : ByteArray} {n : Nat} {rm : Room} {D : va_G} {cy : Nat → ClassId} {N N' : Nat} {q : Nat → Nat} {m : Nat → Value} {a : Nat → vp_A} {sz : Nat} {av : List Value} {mc ms : Nat} {post : (Nat → Nat) → (Nat → Value) → (Nat → vp_A) → Prop} (hy : plainName y.cls = true) (hlen : (lg_sl av).length ≤ n)
    (body : ∀ (p : Program) (e : Env) (s : State) (M : MethodId) (args : Array Value) (below : List Frame) (meth : Method) (c : Code) (A : Nat → Prop), p.tables.exec = Jvm.exec → c.code = b → meth.sig.returnType = none → (∀ w ∈ GG, w.before args s = true) → s.vm.findClass y.cls = some M.cls → meth.name = y.name → meth.locks = false → c.maxLocals = n → (∀ x, s.heap.size ≤ x → A x) → GW D cy A N q m a s s.heap → va_S A s.heap s.heap [] → (∀ (q' : Nat → Nat) (m' : Nat → Value) (a' : Nat → vp_A) (H : Heap) (locs : List Loc) (pc : Nat) (ls : Array Slot), GW D cy A N' q' m' a' s H → va_S A s.heap H locs → post q' m' a' → decode b pc = .ok (.return_, 1) → W p l e rm s M args below meth c H locs mc ms (MQ below (va_Qv (fun u => post u.1 u.2.1 u.2.2) (gBg D cy N q s.heap.size N') (gA N q s.heap.size)) args s mc ms (gA N q s.heap.size)) (F0 M pc ls [])) → ∀ ls, lv_has ls n (lv_args 0 av) → W p l e rm s M args below meth c s.heap [] 0 0 (MQ below (va_Qv (fun u => post u.1 u.2.1 u.2.2) (gBg D cy N q s.heap.size N') (gA N q s.heap.size)) args s mc ms (gA N q s.heap.size)) (F0 M 0 ls [])) : gMh l y b n rm D cy N N' q m a sz av mc ms post := by
  refine Met.ofW (cc := b) (maxL := n) (ret := none) hy rfl ?_
  intro p e s M args below meth c s₁ B hml hv
  obtain ⟨rfl, hsz, hP, hK, hD⟩ := hv
  subst hsz
  have hts := atoms_spec (ws := Cond.code y b n none :: GG) B.pre
  have hD' : va_D (gA N q s.heap.size) (gw cy N q m a) := ⟨hD.1, fun k z hk => Or.inl ⟨k, by
    have := (List.getElem?_eq_some_iff.mp hk).1
    rw [gw_len] at this
    exact this, by
    have h1 := (List.getElem?_eq_some_iff.mp hk).1
    rw [gw_len] at h1
    rw [gw_at h1] at hk
    cases hk
    rfl⟩⟩
  rw [lg_entry_eq]
  refine body p e s M _ below meth c (gA N q s.heap.size) B.exec B.bytes B.returns (fun w hw => hts w (List.mem_cons_of_mem _ hw)) (findClass_of_methodNamed B.named) (name_of_methodNamed B.named B.method).1 B.notSynchronized hml (fun x hx => Or.inr hx) ⟨hP, hK, hD'⟩ va_S.rf (fun q' m' a' H locs pc ls hW hS hp hdg => ?_) _ (lv_entry av hlen)
  obtain ⟨hP2, hK2, hD2⟩ := hW
  exact W.vret B.exec B.bytes B.returns (fun t ht hw => ⟨⟨(q', m', a'), rfl, hp, by show va_P _ _ _ t.heap; rw [ht]; exact hP2, va_K.moved hw.alike hK2, hD2⟩, hS.F ht⟩) hS.2.2 hdg B.notSynchronized
set_option maxHeartbeats 4000000 in
set_option maxRecDepth 100000 in
theorem kX7_inith {l : Launch} {D : va_G} {cy : Nat → ClassId} {o : Nat} {q : Nat → Nat} {m0 : Nat → Value} {a0 : Nat → vp_A} {sz : Nat} (hk : gk o = 7) (p1 p2 p3 p4 : Int32) : gMh l yX7_init cX7_init 5 ({ frames := 1, cells := 0, slots := 0, locals := 20 } : Room) D cy (o + 1) (o + 1) q m0 a0 sz [.ref (q o), .int p1, .int p2, .int p3, .int p4] 0 0 (MK o (o + 1) q m0 a0 [] [] [(100 * o + 3, .int p4), (100 * o + 2, .int p3), (100 * o + 1, .int p2), (100 * o + 0, .int p1)]) := by
  refine g_ofh (by decide) (Nat.le_of_ble_eq_true rfl) ?_
  intro p e s M args below meth c A hx hb hr hG hown hin hlocks hml hA hW hS hend ls hl
  have hl : lv_has ls 5 [(0, .ref (q o)), (1, .int p1), (2, .int p2), (3, .int p3), (4, .int p4)] := hl
  refine lv_aload_n hx hb dX7_init_0 rfl (lv_at hl 0 rfl) ?_
  refine W.objInit hx hb hown (hG _ gx149) (hG _ gx12) (hG _ gx13) rfl (by rw [hml]; exact hl.1) rfl dX7_init_1 (Nat.le_of_ble_eq_true rfl) (Nat.le_of_ble_eq_true rfl) ?_
  refine W.eq (g2 := F0 M 4 ls []) rfl ?_
  have hv : VS [] m0 := VS.nil
  have hm : ∀ j, j < 100 * o → m0 j = m0 j := fun _ _ => rfl
  refine lv_aload_n hx hb dX7_init_4 rfl (lv_at hl 0 rfl) ?_
  refine lv_iload_n hx hb dX7_init_5 rfl (lv_at hl 1 rfl) ?_
  refine gp7_0 hx hb hG hown hW hS (o := o) (Nat.lt_succ_self o) hk (v := p1) hin gx150 dX7_init_6 (fun m1 H locs hm1 ho1 hW hS => ?_)
  have hv : VS [] m1 := VS.nil
  have hv := hv.cons hm1
  have hm := kepm hm ho1 (by omega)
  refine lv_aload_n hx hb dX7_init_9 rfl (lv_at hl 0 rfl) ?_
  refine lv_iload_n hx hb dX7_init_10 rfl (lv_at hl 2 rfl) ?_
  refine gp7_1 hx hb hG hown hW hS (o := o) (Nat.lt_succ_self o) hk (v := p2) hin gx151 dX7_init_11 (fun m2 H locs hm2 ho2 hW hS => ?_)
  have hv := VS.putN hv ho2 (by intro e he; simp only [List.mem_cons, List.not_mem_nil, or_false] at he; rcases he with rfl <;> (show _ ≠ _; omega))
  have hv := hv.cons hm2
  have hm := kepm hm ho2 (by omega)
  refine lv_aload_n hx hb dX7_init_14 rfl (lv_at hl 0 rfl) ?_
  refine lv_iload_n hx hb dX7_init_15 rfl (lv_at hl 3 rfl) ?_
  refine gp7_2 hx hb hG hown hW hS (o := o) (Nat.lt_succ_self o) hk (v := p3) hin gx152 dX7_init_16 (fun m3 H locs hm3 ho3 hW hS => ?_)
  have hv := VS.putN hv ho3 (by intro e he; simp only [List.mem_cons, List.not_mem_nil, or_false] at he; rcases he with rfl | rfl <;> (show _ ≠ _; omega))
  have hv := hv.cons hm3
  have hm := kepm hm ho3 (by omega)
  refine lv_aload_n hx hb dX7_init_19 rfl (lv_at hl 0 rfl) ?_
  refine lv_iload hx hb dX7_init_20 (lv_at hl 4 rfl) ?_
  refine gp7_3 hx hb hG hown hW hS (o := o) (Nat.lt_succ_self o) hk (v := p4) hin gx153 dX7_init_22 (fun m4 H locs hm4 ho4 hW hS => ?_)
  have hv := VS.putN hv ho4 (by intro e he; simp only [List.mem_cons, List.not_mem_nil, or_false] at he; rcases he with rfl | rfl | rfl <;> (show _ ≠ _; omega))
  have hv := hv.cons hm4
  have hm := kepm hm ho4 (by omega)
  exact hend q m4 a0 H locs _ ls hW hS ⟨fun _ _ => rfl, hm, fun _ _ => rfl, FS.nil, AS.nil, hv⟩ dX7_init_25
theorem dX7_with_0 : decode cX7_with 0 = .ok (.new 1, 3) := by decide +kernel
theorem dX7_with_3 : decode cX7_with 3 = .ok (.dup, 1) := by decide +kernel
theorem dX7_with_4 : decode cX7_with 4 = .ok (.iload_n 1, 1) := by decide +kernel
theorem dX7_with_5 : decode cX7_with 5 = .ok (.ifCond .ne 7, 3) := by decide +kernel
theorem dX7_with_8 : decode cX7_with 8 = .ok (.iload_n 2, 1) := by decide +kernel
theorem dX7_with_9 : decode cX7_with 9 = .ok (.goto 7, 3) := by decide +kernel
theorem dX7_with_12 : decode cX7_with 12 = .ok (.aload_n 0, 1) := by decide +kernel
theorem dX7_with_13 : decode cX7_with 13 = .ok (.getfield 11, 3) := by decide +kernel
theorem dX7_with_16 : decode cX7_with 16 = .ok (.iload_n 1, 1) := by decide +kernel
theorem dX7_with_17 : decode cX7_with 17 = .ok (.iconst 1, 1) := by decide +kernel
theorem dX7_with_18 : decode cX7_with 18 = .ok (.if_icmp .ne 7, 3) := by decide +kernel
theorem dX7_with_21 : decode cX7_with 21 = .ok (.iload_n 2, 1) := by decide +kernel
theorem dX7_with_22 : decode cX7_with 22 = .ok (.goto 7, 3) := by decide +kernel
theorem dX7_with_25 : decode cX7_with 25 = .ok (.aload_n 0, 1) := by decide +kernel
theorem dX7_with_26 : decode cX7_with 26 = .ok (.getfield 15, 3) := by decide +kernel
theorem dX7_with_29 : decode cX7_with 29 = .ok (.iload_n 1, 1) := by decide +kernel
theorem dX7_with_30 : decode cX7_with 30 = .ok (.iconst 2, 1) := by decide +kernel
theorem dX7_with_31 : decode cX7_with 31 = .ok (.if_icmp .ne 7, 3) := by decide +kernel
theorem dX7_with_34 : decode cX7_with 34 = .ok (.iload_n 2, 1) := by decide +kernel
theorem dX7_with_35 : decode cX7_with 35 = .ok (.goto 7, 3) := by decide +kernel
theorem dX7_with_38 : decode cX7_with 38 = .ok (.aload_n 0, 1) := by decide +kernel
theorem dX7_with_39 : decode cX7_with 39 = .ok (.getfield 18, 3) := by decide +kernel
theorem dX7_with_42 : decode cX7_with 42 = .ok (.iload_n 1, 1) := by decide +kernel
theorem dX7_with_43 : decode cX7_with 43 = .ok (.iconst 3, 1) := by decide +kernel
theorem dX7_with_44 : decode cX7_with 44 = .ok (.if_icmp .ne 7, 3) := by decide +kernel
theorem dX7_with_47 : decode cX7_with 47 = .ok (.iload_n 2, 1) := by decide +kernel
theorem dX7_with_48 : decode cX7_with 48 = .ok (.goto 7, 3) := by decide +kernel
theorem dX7_with_51 : decode cX7_with 51 = .ok (.aload_n 0, 1) := by decide +kernel
theorem dX7_with_52 : decode cX7_with 52 = .ok (.getfield 21, 3) := by decide +kernel
theorem dX7_with_55 : decode cX7_with 55 = .ok (.invokespecial 24, 3) := by decide +kernel
theorem dX7_with_58 : decode cX7_with 58 = .ok (.areturn, 1) := by decide +kernel
/-- the rules with one changed -/
def rWith (x p1 p2 : Int32) (i : Int32) : Int32 := if p1 = i then p2 else x
theorem gk_hi {N : Nat} (hN : 105 ≤ N) : gk N = 7 := by
  unfold gk
  rw [List.getD_eq_getElem?_getD, List.getElem?_eq_none (by simpa [gkT] using hN)]
  rfl
set_option maxHeartbeats 4000000 in
set_option maxRecDepth 100000 in
theorem kX7_with {l : Launch} {D : va_G} {cy : Nat → ClassId} {N : Nat} {q : Nat → Nat} {m0 : Nat → Value} {a0 : Nat → vp_A} {sz : Nat} (hN : 105 ≤ N) {kr : Nat} (hkr : kr < N) (hgk : gk kr = 7) {x0 x1 x2 x3 : Int32} (h0 : m0 (100 * kr + 0) = .int x0) (h1 : m0 (100 * kr + 1) = .int x1) (h2 : m0 (100 * kr + 2) = .int x2) (h3 : m0 (100 * kr + 3) = .int x3) (p1 p2 : Int32) : Met l yX7_with (Cond.code yX7_with cX7_with 3 (some (.object "HealLink$Rules")) :: GG) ({ frames := 2, cells := 1, slots := 4, locals := 44 } : Room) (gPc D cy N q m0 a0 sz [.ref (q kr), .int p1, .int p2]) (va_Qr (fun (u : (Nat → Nat) × (Nat → Value) × (Nat → vp_A)) => (∀ k, k < N → u.1 k = q k) ∧ (∀ j, j < 100 * N → u.2.1 j = m0 j) ∧ u.2.2 = a0 ∧ u.2.1 (100 * N + 0) = .int (rWith x0 p1 p2 0) ∧ u.2.1 (100 * N + 1) = .int (rWith x1 p1 p2 1) ∧ u.2.1 (100 * N + 2) = .int (rWith x2 p1 p2 2) ∧ u.2.1 (100 * N + 3) = .int (rWith x3 p1 p2 3)) (fun u x t => x = u.1 N ∧ gBg D cy N q sz (N + 1) u t) (gA N q sz)) 1 4 (gA N q sz) := by
  refine g_of (Qc := fun z => va_Qr (fun (u : (Nat → Nat) × (Nat → Value) × (Nat → vp_A)) => (∀ k, k < N → u.1 k = q k) ∧ (∀ j, j < 100 * N → u.2.1 j = m0 j) ∧ u.2.2 = a0 ∧ u.2.1 (100 * N + 0) = .int (rWith x0 p1 p2 0) ∧ u.2.1 (100 * N + 1) = .int (rWith x1 p1 p2 1) ∧ u.2.1 (100 * N + 2) = .int (rWith x2 p1 p2 2) ∧ u.2.1 (100 * N + 3) = .int (rWith x3 p1 p2 3)) (fun u x t => x = u.1 N ∧ gBg D cy N q z (N + 1) u t) (gA N q z)) (by decide) (Nat.le_of_ble_eq_true rfl) ?_
  intro p e s M args below meth c hx hb hr hG hown hin hlocks hml hW hS ls hl
  have hA : ∀ x, s.heap.size ≤ x → gA N q s.heap.size x := fun x hx => Or.inr hx
  generalize hAe : gA N q s.heap.size = A at hW hS hA ⊢
  have hl : lv_has ls 3 [(0, .ref (q kr)), (1, .int p1), (2, .int p2)] := hl
  refine g_new (C := RX7) (T := TX7) (n := 4) (ci := 7) (fs := [.int 0, .int 0, .int 0, .int 0]) hx hb hG gm_wsX70 tyX7 tyX7_ok hown gx225 gx38 gx39 hW hS hA (gk_hi hN) rfl (by decide) rfl rfl (fun j hj => by rcases (show j = 0 ∨ j = 1 ∨ j = 2 ∨ j = 3 by omega) with rfl | rfl | rfl | rfl <;> rfl) (Nat.le_of_ble_eq_true rfl) (Nat.le_of_ble_eq_true rfl) dX7_with_0 (fun q1 m1 H hq1 hm1 hd1 hW hS => ?_)
  rw [← hq1 kr hkr] at hl
  refine lv_dup hx hb dX7_with_3 rfl ?_
  have e0 : m1 (100 * kr + 0) = .int x0 := (hm1 _ (by omega)).trans h0
  have e1 : m1 (100 * kr + 1) = .int x1 := (hm1 _ (by omega)).trans h1
  have e2 : m1 (100 * kr + 2) = .int x2 := (hm1 _ (by omega)).trans h2
  have e3 : m1 (100 * kr + 3) = .int x3 := (hm1 _ (by omega)).trans h3
  have hkr1 : kr < N + 1 := by omega
  have J55 : W p l e ({ frames := 2, cells := 1, slots := 4, locals := 44 } : Room) s M args below meth c H [] (0 + 1) (0 + 4) (MQ below (va_Qr (fun (u : (Nat → Nat) × (Nat → Value) × (Nat → vp_A)) => (∀ k, k < N → u.1 k = q k) ∧ (∀ j, j < 100 * N → u.2.1 j = m0 j) ∧ u.2.2 = a0 ∧ u.2.1 (100 * N + 0) = .int (rWith x0 p1 p2 0) ∧ u.2.1 (100 * N + 1) = .int (rWith x1 p1 p2 1) ∧ u.2.1 (100 * N + 2) = .int (rWith x2 p1 p2 2) ∧ u.2.1 (100 * N + 3) = .int (rWith x3 p1 p2 3)) (fun u x t => x = u.1 N ∧ gBg D cy N q s.heap.size (N + 1) u t) A) args s 1 4 A) (F0 M 55 ls [.int (rWith x3 p1 p2 3), .int (rWith x2 p1 p2 2), .int (rWith x1 p1 p2 1), .int (rWith x0 p1 p2 0), .ref (q1 N), .ref (q1 N)]) := by
    refine g_Ih (n := 4) (o := N) (rest := [.ref (q1 N)]) hx hb hml hown hG hW hS hA [.int (rWith x0 p1 p2 0), .int (rWith x1 p1 p2 1), .int (rWith x2 p1 p2 2), .int (rWith x3 p1 p2 3)] (kX7_inith (o := N) (gk_hi hN) (rWith x0 p1 p2 0) (rWith x1 p1 p2 1) (rWith x2 p1 p2 2) (rWith x3 p1 p2 3)) rfl gx226 gx147 gx39 gx148 rfl rfl (by decide) ⟨Nat.le_of_ble_eq_true rfl, Nat.le_of_ble_eq_true rfl⟩ rfl hl (Nat.le_of_ble_eq_true rfl) ⟨Nat.le_of_ble_eq_true rfl, Nat.le_of_ble_eq_true rfl⟩ dX7_with_55 (fun q2 m2 a2 H locs hp hW hS => ?_)
    obtain ⟨hq2, hm2, ha2, -, -, hv2⟩ := hp
    rw [← hq2 N (by omega)]
    have g3 := hv2 (100 * N + 3, .int (rWith x3 p1 p2 3)) (List.mem_of_getElem? (i := 0) rfl)
    have g2 := hv2 (100 * N + 2, .int (rWith x2 p1 p2 2)) (List.mem_of_getElem? (i := 1) rfl)
    have g1 := hv2 (100 * N + 1, .int (rWith x1 p1 p2 1)) (List.mem_of_getElem? (i := 2) rfl)
    have g0 := hv2 (100 * N + 0, .int (rWith x0 p1 p2 0)) (List.mem_of_getElem? (i := 3) rfl)
    obtain ⟨hP2, hK2, hD2⟩ := hW
    have hgw : gw cy (N + 1) q2 m2 a2 = gw cy (N + 1) q2 m2 a0 := by
      unfold gw
      refine List.map_congr_left fun k hk => ?_
      have hk2 := List.mem_range.mp hk
      unfold gcont
      rw [ha2 k hk2]
    rw [hgw] at hP2 hD2
    exact W.aret (v := .ref (q2 N)) hx hb hr (Or.inl ⟨_, rfl⟩) (Or.inr ⟨_, rfl⟩) (fun t ht hw => ⟨⟨(q2, m2, a0), q2 N, rfl, ⟨fun k hk => (hq2 k (by omega)).trans (hq1 k hk), fun j hj => (hm2 j hj).trans (hm1 j hj), rfl, g0, g1, g2, g3⟩, rfl, by show va_P _ _ _ t.heap; rw [ht]; exact hP2, va_K.moved hw.alike hK2, by rw [hAe]; exact hD2⟩, hS.F ht⟩) hS.2.2 dX7_with_58 hlocks
  have J42 : W p l e ({ frames := 2, cells := 1, slots := 4, locals := 44 } : Room) s M args below meth c H [] (0 + 1) (0 + 4) (MQ below (va_Qr (fun (u : (Nat → Nat) × (Nat → Value) × (Nat → vp_A)) => (∀ k, k < N → u.1 k = q k) ∧ (∀ j, j < 100 * N → u.2.1 j = m0 j) ∧ u.2.2 = a0 ∧ u.2.1 (100 * N + 0) = .int (rWith x0 p1 p2 0) ∧ u.2.1 (100 * N + 1) = .int (rWith x1 p1 p2 1) ∧ u.2.1 (100 * N + 2) = .int (rWith x2 p1 p2 2) ∧ u.2.1 (100 * N + 3) = .int (rWith x3 p1 p2 3)) (fun u x t => x = u.1 N ∧ gBg D cy N q s.heap.size (N + 1) u t) A) args s 1 4 A) (F0 M 42 ls [.int (rWith x2 p1 p2 2), .int (rWith x1 p1 p2 1), .int (rWith x0 p1 p2 0), .ref (q1 N), .ref (q1 N)]) := by
    refine lv_iload_n hx hb dX7_with_42 rfl (lv_at hl 1 rfl) ?_
    refine lv_iconst (v := 3) hx hb dX7_with_43 (by decide) ?_
    refine lv_icmp_ne (tgt := 51) hx hb dX7_with_44 (by decide) (fun c1 => ?_) (fun c1 => ?_)
    · refine lv_aload_n hx hb dX7_with_51 rfl (lv_at hl 0 rfl) ?_
      refine gf7_3 hx hb hG hown hW (o := kr) hkr1 hgk (v := .int x3) e3 gx153 dX7_with_52 ?_
      exact W.eq (congrArg (fun z => F0 M 55 ls [.int z, .int (rWith x2 p1 p2 2), .int (rWith x1 p1 p2 1), .int (rWith x0 p1 p2 0), .ref (q1 N), .ref (q1 N)]) (if_neg c1 : rWith x3 p1 p2 3 = x3).symm) J55
    · refine lv_iload_n hx hb dX7_with_47 rfl (lv_at hl 2 rfl) ?_
      refine lv_goto (tgt := 55) hx hb dX7_with_48 (by decide) ?_
      exact W.eq (congrArg (fun z => F0 M 55 ls [.int z, .int (rWith x2 p1 p2 2), .int (rWith x1 p1 p2 1), .int (rWith x0 p1 p2 0), .ref (q1 N), .ref (q1 N)]) (if_pos c1 : rWith x3 p1 p2 3 = p2).symm) J55
  have J29 : W p l e ({ frames := 2, cells := 1, slots := 4, locals := 44 } : Room) s M args below meth c H [] (0 + 1) (0 + 4) (MQ below (va_Qr (fun (u : (Nat → Nat) × (Nat → Value) × (Nat → vp_A)) => (∀ k, k < N → u.1 k = q k) ∧ (∀ j, j < 100 * N → u.2.1 j = m0 j) ∧ u.2.2 = a0 ∧ u.2.1 (100 * N + 0) = .int (rWith x0 p1 p2 0) ∧ u.2.1 (100 * N + 1) = .int (rWith x1 p1 p2 1) ∧ u.2.1 (100 * N + 2) = .int (rWith x2 p1 p2 2) ∧ u.2.1 (100 * N + 3) = .int (rWith x3 p1 p2 3)) (fun u x t => x = u.1 N ∧ gBg D cy N q s.heap.size (N + 1) u t) A) args s 1 4 A) (F0 M 29 ls [.int (rWith x1 p1 p2 1), .int (rWith x0 p1 p2 0), .ref (q1 N), .ref (q1 N)]) := by
    refine lv_iload_n hx hb dX7_with_29 rfl (lv_at hl 1 rfl) ?_
    refine lv_iconst (v := 2) hx hb dX7_with_30 (by decide) ?_
    refine lv_icmp_ne (tgt := 38) hx hb dX7_with_31 (by decide) (fun c1 => ?_) (fun c1 => ?_)
    · refine lv_aload_n hx hb dX7_with_38 rfl (lv_at hl 0 rfl) ?_
      refine gf7_2 hx hb hG hown hW (o := kr) hkr1 hgk (v := .int x2) e2 gx152 dX7_with_39 ?_
      exact W.eq (congrArg (fun z => F0 M 42 ls [.int z, .int (rWith x1 p1 p2 1), .int (rWith x0 p1 p2 0), .ref (q1 N), .ref (q1 N)]) (if_neg c1 : rWith x2 p1 p2 2 = x2).symm) J42
    · refine lv_iload_n hx hb dX7_with_34 rfl (lv_at hl 2 rfl) ?_
      refine lv_goto (tgt := 42) hx hb dX7_with_35 (by decide) ?_
      exact W.eq (congrArg (fun z => F0 M 42 ls [.int z, .int (rWith x1 p1 p2 1), .int (rWith x0 p1 p2 0), .ref (q1 N), .ref (q1 N)]) (if_pos c1 : rWith x2 p1 p2 2 = p2).symm) J42
  have J16 : W p l e ({ frames := 2, cells := 1, slots := 4, locals := 44 } : Room) s M args below meth c H [] (0 + 1) (0 + 4) (MQ below (va_Qr (fun (u : (Nat → Nat) × (Nat → Value) × (Nat → vp_A)) => (∀ k, k < N → u.1 k = q k) ∧ (∀ j, j < 100 * N → u.2.1 j = m0 j) ∧ u.2.2 = a0 ∧ u.2.1 (100 * N + 0) = .int (rWith x0 p1 p2 0) ∧ u.2.1 (100 * N + 1) = .int (rWith x1 p1 p2 1) ∧ u.2.1 (100 * N + 2) = .int (rWith x2 p1 p2 2) ∧ u.2.1 (100 * N + 3) = .int (rWith x3 p1 p2 3)) (fun u x t => x = u.1 N ∧ gBg D cy N q s.heap.size (N + 1) u t) A) args s 1 4 A) (F0 M 16 ls [.int (rWith x0 p1 p2 0), .ref (q1 N), .ref (q1 N)]) := by
    refine lv_iload_n hx hb dX7_with_16 rfl (lv_at hl 1 rfl) ?_
    refine lv_iconst (v := 1) hx hb dX7_with_17 (by decide) ?_
    refine lv_icmp_ne (tgt := 25) hx hb dX7_with_18 (by decide) (fun c1 => ?_) (fun c1 => ?_)
    · refine lv_aload_n hx hb dX7_with_25 rfl (lv_at hl 0 rfl) ?_
      refine gf7_1 hx hb hG hown hW (o := kr) hkr1 hgk (v := .int x1) e1 gx151 dX7_with_26 ?_
      exact W.eq (congrArg (fun z => F0 M 29 ls [.int z, .int (rWith x0 p1 p2 0), .ref (q1 N), .ref (q1 N)]) (if_neg c1 : rWith x1 p1 p2 1 = x1).symm) J29
    · refine lv_iload_n hx hb dX7_with_21 rfl (lv_at hl 2 rfl) ?_
      refine lv_goto (tgt := 29) hx hb dX7_with_22 (by decide) ?_
      exact W.eq (congrArg (fun z => F0 M 29 ls [.int z, .int (rWith x0 p1 p2 0), .ref (q1 N), .ref (q1 N)]) (if_pos c1 : rWith x1 p1 p2 1 = p2).symm) J29
  refine lv_iload_n hx hb dX7_with_4 rfl (lv_at hl 1 rfl) ?_
  refine lv_if_ne (tgt := 12) hx hb dX7_with_5 (by decide) (fun c1 => ?_) (fun c1 => ?_)
  · refine lv_aload_n hx hb dX7_with_12 rfl (lv_at hl 0 rfl) ?_
    refine gf7_0 hx hb hG hown hW (o := kr) hkr1 hgk (v := .int x0) e0 gx150 dX7_with_13 ?_
    exact W.eq (congrArg (fun z => F0 M 16 ls [.int z, .ref (q1 N), .ref (q1 N)]) (if_neg c1 : rWith x0 p1 p2 0 = x0).symm) J16
  · refine lv_iload_n hx hb dX7_with_8 rfl (lv_at hl 2 rfl) ?_
    refine lv_goto (tgt := 16) hx hb dX7_with_9 (by decide) ?_
    exact W.eq (congrArg (fun z => F0 M 16 ls [.int z, .ref (q1 N), .ref (q1 N)]) (if_pos c1 : rWith x0 p1 p2 0 = p2).symm) J16
