/-! part 04: calls that change nothing; the cells, by hand -/
section GWC2
variable {p : Program} {l : Launch} {e : Env} {R : Room} {s : State} {M : MethodId} {args : Array Value} {below : List Frame} {meth : Method} {c : Code} {H : Heap} {locs : List Loc} {cells slots : Nat} {Q : State → Prop}
variable {cc : ByteArray} {pc nL : Nat} {ls : Array Slot} {rest st0 : List Value} {D : va_G} {cy : Nat → ClassId} {N : Nat} {q : Nat → Nat} {m : Nat → Value} {a : Nat → vp_A}
variable {own C : String} {T : u_T} {n0 ci o index n nb : Nat} {y : MethodName} {b : ByteArray} {r : Option FieldType} {rm : Room} {As : List Value} {lv : List (Nat × Value)}
theorem g_ViR {x0 : Int32} (hx : p.tables.exec = Jvm.exec) (hb : c.code = cc) (hml : c.maxLocals = nL) (hown : s.vm.findClass own = some M.cls) (hG : ∀ w ∈ GG, w.before args s = true) (hW : GW D cy (gA N q s.heap.size) N q m a s H) (hS : va_S (gA N q s.heap.size) s.heap H locs) (As : List Value)
    (hM : gMi l y b nb r rm D cy N q m a H.size (.ref (q o) :: As) (fun r m' a' => r = x0 ∧ m' = m ∧ a' = a)) (ho : o < N) (hk : gk o = ci) (hci : ci < 13) (hc : vwCl[ci]? = some (C, T, n0)) (hst : st0 = As.reverse ++ .ref (q o) :: rest) (hg : GoodIn GG (wsV own index C y (Cond.code y b nb r :: GG))) (hrc : rm.cells = 0) (hrs : rm.slots = 0)
    (hd : y.cls = C ∧ y.cls ≠ "java/lang/invoke/MethodHandle" ∧ y.cls ≠ "java/lang/invoke/VarHandle" ∧ (parseMethodDescriptor y.desc).map (fun d => d.parameters.length) = some n) (hR : rm.frames + 1 ≤ R.frames ∧ 8 + (nb + 11) + rm.locals ≤ R.locals) (hn : As.length = n) (hl : lv_has ls nL lv) (hr8 : (rest.map fun v => v.category).sum ≤ 8) (hf : cells ≤ R.cells ∧ slots ≤ R.slots) (hdg : decode cc pc = .ok (.invokevirtual index, 3))
    (kk : ∀ (H1 : Heap) (locs1 : List Loc), GW D cy (gA N q s.heap.size) N q m a s H1 → va_S (gA N q s.heap.size) s.heap H1 locs1 → W p l e R s M args below meth c H1 locs1 cells slots Q (F0 M (pc + 3) ls (.int x0 :: rest))) : W p l e R s M args below meth c H locs cells slots Q (F0 M pc ls st0) := g_Vi hx hb hml hown hG hW hS As hM ho hk hci hc hst hg hrc hrs hd hR hn hl hr8 hf hdg (fun x m1 a1 H1 locs1 hp hW1 hS1 => by
  obtain ⟨h1, h2, h3⟩ := hp
  subst h1
  rw [h2, h3] at hW1
  exact kk H1 locs1 hW1 hS1)
theorem g_VlR {x0 : Int64} (hx : p.tables.exec = Jvm.exec) (hb : c.code = cc) (hml : c.maxLocals = nL) (hown : s.vm.findClass own = some M.cls) (hG : ∀ w ∈ GG, w.before args s = true) (hW : GW D cy (gA N q s.heap.size) N q m a s H) (hS : va_S (gA N q s.heap.size) s.heap H locs) (As : List Value)
    (hM : gMl l y b nb r rm D cy N q m a H.size (.ref (q o) :: As) (fun r m' a' => r = x0 ∧ m' = m ∧ a' = a)) (ho : o < N) (hk : gk o = ci) (hci : ci < 13) (hc : vwCl[ci]? = some (C, T, n0)) (hst : st0 = As.reverse ++ .ref (q o) :: rest) (hg : GoodIn GG (wsV own index C y (Cond.code y b nb r :: GG))) (hrc : rm.cells = 0) (hrs : rm.slots = 0)
    (hd : y.cls = C ∧ y.cls ≠ "java/lang/invoke/MethodHandle" ∧ y.cls ≠ "java/lang/invoke/VarHandle" ∧ (parseMethodDescriptor y.desc).map (fun d => d.parameters.length) = some n) (hR : rm.frames + 1 ≤ R.frames ∧ 8 + (nb + 11) + rm.locals ≤ R.locals) (hn : As.length = n) (hl : lv_has ls nL lv) (hr8 : (rest.map fun v => v.category).sum ≤ 8) (hf : cells ≤ R.cells ∧ slots ≤ R.slots) (hdg : decode cc pc = .ok (.invokevirtual index, 3))
    (kk : ∀ (H1 : Heap) (locs1 : List Loc), GW D cy (gA N q s.heap.size) N q m a s H1 → va_S (gA N q s.heap.size) s.heap H1 locs1 → W p l e R s M args below meth c H1 locs1 cells slots Q (F0 M (pc + 3) ls (.long x0 :: rest))) : W p l e R s M args below meth c H locs cells slots Q (F0 M pc ls st0) := g_Vl hx hb hml hown hG hW hS As hM ho hk hci hc hst hg hrc hrs hd hR hn hl hr8 hf hdg (fun x m1 a1 H1 locs1 hp hW1 hS1 => by
  obtain ⟨h1, h2, h3⟩ := hp
  subst h1
  rw [h2, h3] at hW1
  exact kk H1 locs1 hW1 hS1)
theorem g_SiR {x0 : Int32} (hx : p.tables.exec = Jvm.exec) (hb : c.code = cc) (hml : c.maxLocals = nL) (hown : s.vm.findClass own = some M.cls) (hG : ∀ w ∈ GG, w.before args s = true) (hW : GW D cy (gA N q s.heap.size) N q m a s H) (hS : va_S (gA N q s.heap.size) s.heap H locs) (As : List Value)
    (hM : gMi l y b nb r rm D cy N q m a H.size As (fun r m' a' => r = x0 ∧ m' = m ∧ a' = a)) (hst : st0 = As.reverse ++ rest) (hg : GoodIn GG (va_wsS own index y (Cond.code y b nb r :: GG))) (hrc : rm.cells = 0) (hrs : rm.slots = 0)
    (hd : y.cls ≠ "java/lang/invoke/MethodHandle" ∧ y.cls ≠ "java/lang/invoke/VarHandle" ∧ (parseMethodDescriptor y.desc).map (fun d => d.parameters.length) = some n) (hR : rm.frames + 1 ≤ R.frames ∧ 8 + (nb + 11) + rm.locals ≤ R.locals) (hn : As.length = n) (hl : lv_has ls nL lv) (hr8 : (rest.map fun v => v.category).sum ≤ 8) (hf : cells ≤ R.cells ∧ slots ≤ R.slots) (hdg : decode cc pc = .ok (.invokestatic index, 3))
    (kk : ∀ (H1 : Heap) (locs1 : List Loc), GW D cy (gA N q s.heap.size) N q m a s H1 → va_S (gA N q s.heap.size) s.heap H1 locs1 → W p l e R s M args below meth c H1 locs1 cells slots Q (F0 M (pc + 3) ls (.int x0 :: rest))) : W p l e R s M args below meth c H locs cells slots Q (F0 M pc ls st0) := g_Si hx hb hml hown hG hW hS As hM hst hg hrc hrs hd hR hn hl hr8 hf hdg (fun x m1 a1 H1 locs1 hp hW1 hS1 => by
  obtain ⟨h1, h2, h3⟩ := hp
  subst h1
  rw [h2, h3] at hW1
  exact kk H1 locs1 hW1 hS1)
theorem g_SlR {x0 : Int64} (hx : p.tables.exec = Jvm.exec) (hb : c.code = cc) (hml : c.maxLocals = nL) (hown : s.vm.findClass own = some M.cls) (hG : ∀ w ∈ GG, w.before args s = true) (hW : GW D cy (gA N q s.heap.size) N q m a s H) (hS : va_S (gA N q s.heap.size) s.heap H locs) (As : List Value)
    (hM : gMl l y b nb r rm D cy N q m a H.size As (fun r m' a' => r = x0 ∧ m' = m ∧ a' = a)) (hst : st0 = As.reverse ++ rest) (hg : GoodIn GG (va_wsS own index y (Cond.code y b nb r :: GG))) (hrc : rm.cells = 0) (hrs : rm.slots = 0)
    (hd : y.cls ≠ "java/lang/invoke/MethodHandle" ∧ y.cls ≠ "java/lang/invoke/VarHandle" ∧ (parseMethodDescriptor y.desc).map (fun d => d.parameters.length) = some n) (hR : rm.frames + 1 ≤ R.frames ∧ 8 + (nb + 11) + rm.locals ≤ R.locals) (hn : As.length = n) (hl : lv_has ls nL lv) (hr8 : (rest.map fun v => v.category).sum ≤ 8) (hf : cells ≤ R.cells ∧ slots ≤ R.slots) (hdg : decode cc pc = .ok (.invokestatic index, 3))
    (kk : ∀ (H1 : Heap) (locs1 : List Loc), GW D cy (gA N q s.heap.size) N q m a s H1 → va_S (gA N q s.heap.size) s.heap H1 locs1 → W p l e R s M args below meth c H1 locs1 cells slots Q (F0 M (pc + 3) ls (.long x0 :: rest))) : W p l e R s M args below meth c H locs cells slots Q (F0 M pc ls st0) := g_Sl hx hb hml hown hG hW hS As hM hst hg hrc hrs hd hR hn hl hr8 hf hdg (fun x m1 a1 H1 locs1 hp hW1 hS1 => by
  obtain ⟨h1, h2, h3⟩ := hp
  subst h1
  rw [h2, h3] at hW1
  exact kk H1 locs1 hW1 hS1)
end GWC2
/-- the row's word at a place, 0 outside -/
def cAt (n : Nat) (f : Nat → Int32) (i : Int32) : Int32 := if inb i n = true then f i.toNatClampNeg else 0
def cPut (n : Nat) (f : Nat → Int32) (i x : Int32) : Nat → Int32 := if inb i n = true then upd f i.toNatClampNeg x else f
theorem inb_nat {i : Int32} {n : Nat} : inb i n = true ↔ (0 ≤ i.toInt ∧ i.toInt < (n : Int)) := by
  unfold inb
  rw [Bool.and_eq_true, decide_eq_true_eq, decide_eq_true_eq]
theorem inb_lt {i : Int32} {n : Nat} (hn : n < 2 ^ 31) : inb i n = true ↔ (0 ≤ i ∧ i < nI n) := by
  rw [inb_nat, Int32.le_iff_toInt_le, Int32.lt_iff_toInt_lt, nI_toInt hn]
  exact Iff.rfl
theorem g_ofi {l : Launch} {y : MethodName} {b : ByteArray} {n : Nat} {r : Option FieldType} {rm : Room} {D : va_G} {cy : Nat → ClassId} {N : Nat} {q : Nat → Nat} {m : Nat → Value} {a : Nat → vp_A} {sz : Nat} {av : List Value} {post : Int32 → (Nat → Value) → (Nat → vp_A) → Prop} (hy : plainName y.cls = true) (hlen : (lg_sl av).length ≤ n) (body : ∀ (p : Program) (e : Env) (s : State) (M : MethodId) (args : Array Value) (below : List Frame) (meth : Method) (c : Code), p.tables.exec = Jvm.exec → c.code = b → meth.sig.returnType = r → (∀ w ∈ GG, w.before args s = true) → s.vm.findClass y.cls = some M.cls → meth.name = y.name → meth.locks = false → c.maxLocals = n → GW D cy (gA N q s.heap.size) N q m a s s.heap → va_S (gA N q s.heap.size) s.heap s.heap [] → ∀ ls, lv_has ls n (lv_args 0 av) → W p l e rm s M args below meth c s.heap [] 0 0 (MQ below (va_Qi (fun r u => post r u.1 u.2) (gB D cy N q s.heap.size) (gA N q s.heap.size)) args s 0 0 (gA N q s.heap.size)) (F0 M 0 ls [])) : gMi l y b n r rm D cy N q m a sz av post := by unfold gMi; exact g_of (Qc := fun z => va_Qi (fun r u => post r u.1 u.2) (gB D cy N q z) (gA N q z)) hy hlen body
theorem g_ofl {l : Launch} {y : MethodName} {b : ByteArray} {n : Nat} {r : Option FieldType} {rm : Room} {D : va_G} {cy : Nat → ClassId} {N : Nat} {q : Nat → Nat} {m : Nat → Value} {a : Nat → vp_A} {sz : Nat} {av : List Value} {post : Int64 → (Nat → Value) → (Nat → vp_A) → Prop} (hy : plainName y.cls = true) (hlen : (lg_sl av).length ≤ n) (body : ∀ (p : Program) (e : Env) (s : State) (M : MethodId) (args : Array Value) (below : List Frame) (meth : Method) (c : Code), p.tables.exec = Jvm.exec → c.code = b → meth.sig.returnType = r → (∀ w ∈ GG, w.before args s = true) → s.vm.findClass y.cls = some M.cls → meth.name = y.name → meth.locks = false → c.maxLocals = n → GW D cy (gA N q s.heap.size) N q m a s s.heap → va_S (gA N q s.heap.size) s.heap s.heap [] → ∀ ls, lv_has ls n (lv_args 0 av) → W p l e rm s M args below meth c s.heap [] 0 0 (MQ below (va_Ql (fun r u => post r u.1 u.2) (gB D cy N q s.heap.size) (gA N q s.heap.size)) args s 0 0 (gA N q s.heap.size)) (F0 M 0 ls [])) : gMl l y b n r rm D cy N q m a sz av post := by unfold gMl; exact g_of (Qc := fun z => va_Ql (fun r u => post r u.1 u.2) (gB D cy N q z) (gA N q z)) hy hlen body
theorem g_ofv {l : Launch} {y : MethodName} {b : ByteArray} {n : Nat} {r : Option FieldType} {rm : Room} {D : va_G} {cy : Nat → ClassId} {N : Nat} {q : Nat → Nat} {m : Nat → Value} {a : Nat → vp_A} {sz : Nat} {av : List Value} {post : (Nat → Value) → (Nat → vp_A) → Prop} (hy : plainName y.cls = true) (hlen : (lg_sl av).length ≤ n) (body : ∀ (p : Program) (e : Env) (s : State) (M : MethodId) (args : Array Value) (below : List Frame) (meth : Method) (c : Code), p.tables.exec = Jvm.exec → c.code = b → meth.sig.returnType = r → (∀ w ∈ GG, w.before args s = true) → s.vm.findClass y.cls = some M.cls → meth.name = y.name → meth.locks = false → c.maxLocals = n → GW D cy (gA N q s.heap.size) N q m a s s.heap → va_S (gA N q s.heap.size) s.heap s.heap [] → ∀ ls, lv_has ls n (lv_args 0 av) → W p l e rm s M args below meth c s.heap [] 0 0 (MQ below (va_Qv (fun u => post u.1 u.2) (gB D cy N q s.heap.size) (gA N q s.heap.size)) args s 0 0 (gA N q s.heap.size)) (F0 M 0 ls [])) : gMv l y b n r rm D cy N q m a sz av post := by unfold gMv; exact g_of (Qc := fun z => va_Qv (fun u => post u.1 u.2) (gB D cy N q z) (gA N q z)) hy hlen body
theorem dX2_at_0 : decode cX2_at 0 = .ok (.iload_n 1, 1) := by decide +kernel
theorem dX2_at_1 : decode cX2_at 1 = .ok (.ifCond .lt 21, 3) := by decide +kernel
theorem dX2_at_4 : decode cX2_at 4 = .ok (.iload_n 1, 1) := by decide +kernel
theorem dX2_at_5 : decode cX2_at 5 = .ok (.aload_n 0, 1) := by decide +kernel
theorem dX2_at_6 : decode cX2_at 6 = .ok (.getfield 13, 3) := by decide +kernel
theorem dX2_at_9 : decode cX2_at 9 = .ok (.arraylength, 1) := by decide +kernel
theorem dX2_at_10 : decode cX2_at 10 = .ok (.if_icmp .ge 12, 3) := by decide +kernel
theorem dX2_at_13 : decode cX2_at 13 = .ok (.aload_n 0, 1) := by decide +kernel
theorem dX2_at_14 : decode cX2_at 14 = .ok (.getfield 13, 3) := by decide +kernel
theorem dX2_at_17 : decode cX2_at 17 = .ok (.iload_n 1, 1) := by decide +kernel
theorem dX2_at_18 : decode cX2_at 18 = .ok (.iaload, 1) := by decide +kernel
theorem dX2_at_19 : decode cX2_at 19 = .ok (.goto 4, 3) := by decide +kernel
theorem dX2_at_22 : decode cX2_at 22 = .ok (.iconst 0, 1) := by decide +kernel
theorem dX2_at_23 : decode cX2_at 23 = .ok (.ireturn, 1) := by decide +kernel
theorem dX2_put_0 : decode cX2_put 0 = .ok (.iload_n 1, 1) := by decide +kernel
theorem dX2_put_1 : decode cX2_put 1 = .ok (.ifCond .lt 19, 3) := by decide +kernel
theorem dX2_put_4 : decode cX2_put 4 = .ok (.iload_n 1, 1) := by decide +kernel
theorem dX2_put_5 : decode cX2_put 5 = .ok (.aload_n 0, 1) := by decide +kernel
theorem dX2_put_6 : decode cX2_put 6 = .ok (.getfield 13, 3) := by decide +kernel
theorem dX2_put_9 : decode cX2_put 9 = .ok (.arraylength, 1) := by decide +kernel
theorem dX2_put_10 : decode cX2_put 10 = .ok (.if_icmp .ge 10, 3) := by decide +kernel
theorem dX2_put_13 : decode cX2_put 13 = .ok (.aload_n 0, 1) := by decide +kernel
theorem dX2_put_14 : decode cX2_put 14 = .ok (.getfield 13, 3) := by decide +kernel
theorem dX2_put_17 : decode cX2_put 17 = .ok (.iload_n 1, 1) := by decide +kernel
theorem dX2_put_18 : decode cX2_put 18 = .ok (.iload_n 2, 1) := by decide +kernel
theorem dX2_put_19 : decode cX2_put 19 = .ok (.iastore, 1) := by decide +kernel
theorem dX2_put_20 : decode cX2_put 20 = .ok (.return_, 1) := by decide +kernel
set_option maxHeartbeats 4000000 in
set_option maxRecDepth 100000 in
theorem kX2_at {l : Launch} {D : va_G} {cy : Nat → ClassId} {N : Nat} {q : Nat → Nat} {m0 : Nat → Value} {a0 : Nat → vp_A} {sz kc ka : Nat} (hc : kc < N) (hkc : gk kc = 2) (ha : ka < N) (hka : gk ka = 14) (href : m0 (100 * kc + 0) = .ref (q ka)) {n : Nat} (hn : n < 2 ^ 31) {f : Nat → Int32} (hA : a0 ka = (n, .inl f)) (p1 : Int32) : gMi l yX2_at cX2_at 2 (some .int) ({ frames := 0, cells := 0, slots := 0, locals := 0 } : Room) D cy N q m0 a0 sz [.ref (q kc), .int p1] (fun r m' a' => r = cAt n f p1 ∧ m' = m0 ∧ a' = a0) := by
  refine g_ofi (by decide) (Nat.le_of_ble_eq_true rfl) ?_
  intro p e s M args below meth c hx hb hr hG hown hin hlocks hml hW hS ls hl
  have hout : ∀ H locs (hW : GW D cy (gA N q s.heap.size) N q m0 a0 s H) (hS : va_S (gA N q s.heap.size) s.heap H locs) (ls : Array Slot), ¬ inb p1 n = true → W p l e ({ frames := 0, cells := 0, slots := 0, locals := 0 } : Room) s M args below meth c H locs 0 0 (MQ below (va_Qi (fun r u => (fun (r : Int32) m' a' => r = cAt n f p1 ∧ m' = m0 ∧ a' = a0) r u.1 u.2) (gB D cy N q s.heap.size) (gA N q s.heap.size)) args s 0 0 (gA N q s.heap.size)) (F0 M 22 ls []) := by
    intro H locs hW hS ls hi
    refine lv_iconst (v := 0) hx hb dX2_at_22 (by decide) ?_
    exact W.zret hx hb hr rfl (fun t ht hw => ⟨⟨_, (m0, a0), rfl, ⟨by unfold cAt; rw [if_neg hi], rfl, rfl⟩, g_end hW ht hw⟩, hS.F ht⟩) hS.2.2 dX2_at_23 hlocks
  refine lv_iload_n hx hb dX2_at_0 rfl (lv_at hl 1 rfl) ?_
  refine lv_if_lt (tgt := 22) hx hb dX2_at_1 (by decide) (fun c1 => ?_) (fun c1 => ?_)
  · refine hout _ _ hW hS ls (fun hi => ?_)
    have h1 := ((inb_lt hn).mp hi).1
    rw [Int32.le_iff_toInt_le] at h1
    rw [Int32.lt_iff_toInt_lt] at c1
    omega
  · refine lv_iload_n hx hb dX2_at_4 rfl (lv_at hl 1 rfl) ?_
    refine lv_aload_n hx hb dX2_at_5 rfl (lv_at hl 0 rfl) ?_
    refine gf2_0 hx hb hG hown hW hc hkc href gx57 dX2_at_6 ?_
    refine g_alen hx hb hW (t := 1) ha hka (by decide) hA (v := nI n) rfl dX2_at_9 ?_
    refine lv_icmp_ge (tgt := 22) hx hb dX2_at_10 (by decide) (fun c2 => ?_) (fun c2 => ?_)
    · refine hout _ _ hW hS ls (fun hi => ?_)
      have h1 := ((inb_lt hn).mp hi).2
      rw [Int32.le_iff_toInt_le] at c2
      rw [Int32.lt_iff_toInt_lt] at h1
      omega
    · have hi : inb p1 n = true := (inb_lt hn).mpr ⟨by rw [Int32.le_iff_toInt_le]; rw [Int32.lt_iff_toInt_lt] at c1; omega, by rw [Int32.lt_iff_toInt_lt]; rw [Int32.le_iff_toInt_le] at c2; omega⟩
      refine lv_aload_n hx hb dX2_at_13 rfl (lv_at hl 0 rfl) ?_
      refine gf2_0 hx hb hG hown hW hc hkc href gx57 dX2_at_14 ?_
      refine lv_iload_n hx hb dX2_at_17 rfl (lv_at hl 1 rfl) ?_
      refine g_iald hx hb hW ha hka hA (vin hi) dX2_at_18 ?_
      refine lv_goto (tgt := 23) hx hb dX2_at_19 (by decide) ?_
      exact W.zret hx hb hr rfl (fun t ht hw => ⟨⟨_, (m0, a0), rfl, ⟨by unfold cAt; rw [if_pos hi], rfl, rfl⟩, g_end hW ht hw⟩, hS.F ht⟩) hS.2.2 dX2_at_23 hlocks
set_option maxHeartbeats 4000000 in
set_option maxRecDepth 100000 in
theorem kX2_put {l : Launch} {D : va_G} {cy : Nat → ClassId} {N : Nat} {q : Nat → Nat} {m0 : Nat → Value} {a0 : Nat → vp_A} {sz kc ka : Nat} (hc : kc < N) (hkc : gk kc = 2) (ha : ka < N) (hka : gk ka = 14) (href : m0 (100 * kc + 0) = .ref (q ka)) {n : Nat} (hn : n < 2 ^ 31) {f : Nat → Int32} (hA : a0 ka = (n, .inl f)) (p1 p2 : Int32) : gMv l yX2_put cX2_put 3 none ({ frames := 0, cells := 0, slots := 0, locals := 0 } : Room) D cy N q m0 a0 sz [.ref (q kc), .int p1, .int p2] (fun m' a' => m' = m0 ∧ a' ka = (n, .inl (cPut n f p1 p2)) ∧ (∀ j, nel j [ka] = false → a' j = a0 j)) := by
  refine g_ofv (by decide) (Nat.le_of_ble_eq_true rfl) ?_
  intro p e s M args below meth c hx hb hr hG hown hin hlocks hml hW hS ls hl
  have hout : ∀ H locs (hW : GW D cy (gA N q s.heap.size) N q m0 a0 s H) (hS : va_S (gA N q s.heap.size) s.heap H locs) (ls : Array Slot), ¬ inb p1 n = true → W p l e ({ frames := 0, cells := 0, slots := 0, locals := 0 } : Room) s M args below meth c H locs 0 0 (MQ below (va_Qv (fun u => (fun m' a' => m' = m0 ∧ a' ka = (n, .inl (cPut n f p1 p2)) ∧ (∀ j, nel j [ka] = false → a' j = a0 j)) u.1 u.2) (gB D cy N q s.heap.size) (gA N q s.heap.size)) args s 0 0 (gA N q s.heap.size)) (F0 M 20 ls []) := by
    intro H locs hW hS ls hi
    exact W.vret hx hb hr (fun t ht hw => ⟨⟨(m0, a0), rfl, ⟨rfl, by unfold cPut; rw [if_neg hi]; exact hA, fun _ _ => rfl⟩, g_end hW ht hw⟩, hS.F ht⟩) hS.2.2 dX2_put_20 hlocks
  refine lv_iload_n hx hb dX2_put_0 rfl (lv_at hl 1 rfl) ?_
  refine lv_if_lt (tgt := 20) hx hb dX2_put_1 (by decide) (fun c1 => ?_) (fun c1 => ?_)
  · refine hout _ _ hW hS ls (fun hi => ?_)
    have h1 := ((inb_lt hn).mp hi).1
    rw [Int32.le_iff_toInt_le] at h1
    rw [Int32.lt_iff_toInt_lt] at c1
    omega
  · refine lv_iload_n hx hb dX2_put_4 rfl (lv_at hl 1 rfl) ?_
    refine lv_aload_n hx hb dX2_put_5 rfl (lv_at hl 0 rfl) ?_
    refine gf2_0 hx hb hG hown hW hc hkc href gx57 dX2_put_6 ?_
    refine g_alen hx hb hW (t := 1) ha hka (by decide) hA (v := nI n) rfl dX2_put_9 ?_
    refine lv_icmp_ge (tgt := 20) hx hb dX2_put_10 (by decide) (fun c2 => ?_) (fun c2 => ?_)
    · refine hout _ _ hW hS ls (fun hi => ?_)
      have h1 := ((inb_lt hn).mp hi).2
      rw [Int32.le_iff_toInt_le] at c2
      rw [Int32.lt_iff_toInt_lt] at h1
      omega
    · have hi : inb p1 n = true := (inb_lt hn).mpr ⟨by rw [Int32.le_iff_toInt_le]; rw [Int32.lt_iff_toInt_lt] at c1; omega, by rw [Int32.lt_iff_toInt_lt]; rw [Int32.le_iff_toInt_le] at c2; omega⟩
      refine lv_aload_n hx hb dX2_put_13 rfl (lv_at hl 0 rfl) ?_
      refine gf2_0 hx hb hG hown hW hc hkc href gx57 dX2_put_14 ?_
      refine lv_iload_n hx hb dX2_put_17 rfl (lv_at hl 1 rfl) ?_
      refine lv_iload_n hx hb dX2_put_18 rfl (lv_at hl 2 rfl) ?_
      refine g_iast hx hb hW hS ha hka hA (vin hi) dX2_put_19 (fun a1 H locs ha1 ho1 hW hS => ?_)
      exact W.vret hx hb hr (fun t ht hw => ⟨⟨(m0, a1), rfl, ⟨rfl, by unfold cPut; rw [if_pos hi]; exact ha1, off1 ho1⟩, g_end hW ht hw⟩, hS.F ht⟩) hS.2.2 dX2_put_20 hlocks
