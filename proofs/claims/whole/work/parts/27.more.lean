/-! part 27: contracts that find more than the world: E -/
/-- what is found beside the world, and stays -/
def EOK (E : (Nat → Prop) → State → Heap → Prop) : Prop := (∀ (A B : Nat → Prop) (s U : State) (H : Heap), E A s s.heap → (∀ x, B x → A x) → (∀ x : Nat, x < s.heap.size → ¬ A x → H[x]? = s.heap[x]?) → s.WarmedH U.vm → E B U H) ∧ (∀ (A : Nat → Prop) (U : State) (g : JFrame) (mk : MethodId) (z : Array Value) (H : Heap), E A U H → E A (U.calling g mk z) H)
def ePc (D : va_G) (cy : Nat → ClassId) (N : Nat) (q : Nat → Nat) (m : Nat → Value) (a : Nat → vp_A) (sz : Nat) (av : List Value) (E : (Nat → Prop) → State → Heap → Prop) : Array Value → State → Prop := va_Pc av (fun U => (U.heap.size = sz ∧ GW D cy (fun _ => True) N q m a U U.heap) ∧ E (gA N q sz) U U.heap)
def eMi (l : Launch) (y : MethodName) (b : ByteArray) (n : Nat) (r : Option FieldType) (rm : Room) (D : va_G) (cy : Nat → ClassId) (N : Nat) (q : Nat → Nat) (m : Nat → Value) (a : Nat → vp_A) (sz : Nat) (av : List Value) (E : (Nat → Prop) → State → Heap → Prop) (post : Int32 → (Nat → Value) → (Nat → vp_A) → Prop) : Prop := Met l y (Cond.code y b n r :: GG) rm (ePc D cy N q m a sz av E) (va_Qi (fun r u => post r u.1 u.2) (gB D cy N q sz) (gA N q sz)) 0 0 (gA N q sz)
def eMl (l : Launch) (y : MethodName) (b : ByteArray) (n : Nat) (r : Option FieldType) (rm : Room) (D : va_G) (cy : Nat → ClassId) (N : Nat) (q : Nat → Nat) (m : Nat → Value) (a : Nat → vp_A) (sz : Nat) (av : List Value) (E : (Nat → Prop) → State → Heap → Prop) (post : Int64 → (Nat → Value) → (Nat → vp_A) → Prop) : Prop := Met l y (Cond.code y b n r :: GG) rm (ePc D cy N q m a sz av E) (va_Ql (fun r u => post r u.1 u.2) (gB D cy N q sz) (gA N q sz)) 0 0 (gA N q sz)
def eMv (l : Launch) (y : MethodName) (b : ByteArray) (n : Nat) (r : Option FieldType) (rm : Room) (D : va_G) (cy : Nat → ClassId) (N : Nat) (q : Nat → Nat) (m : Nat → Value) (a : Nat → vp_A) (sz : Nat) (av : List Value) (E : (Nat → Prop) → State → Heap → Prop) (post : (Nat → Value) → (Nat → vp_A) → Prop) : Prop := Met l y (Cond.code y b n r :: GG) rm (ePc D cy N q m a sz av E) (va_Qv (fun u => post u.1 u.2) (gB D cy N q sz) (gA N q sz)) 0 0 (gA N q sz)
theorem ePc.blind {D : va_G} {cy : Nat → ClassId} {N : Nat} {q : Nat → Nat} {m : Nat → Value} {a : Nat → vp_A} {sz : Nat} {av : List Value} {E : (Nat → Prop) → State → Heap → Prop} (hE : EOK E) : FrameBlind (ePc D cy N q m a sz av E) := fun a U g mk h => by
  obtain ⟨q0, ⟨q1, qP, qK, qD⟩, q2⟩ := h
  exact ⟨q0, ⟨q1, qP, va_K.moved (u := U) (U := U.calling g mk a) (Vm.Alike.refl U.vm) qK, qD⟩, hE.2 _ U g mk a _ q2⟩
section GWCE
variable {p : Program} {l : Launch} {e : Env} {R : Room} {s : State} {M : MethodId} {args : Array Value} {below : List Frame} {meth : Method} {c : Code} {H : Heap} {locs : List Loc} {cells slots : Nat} {Q : State → Prop}
variable {cc : ByteArray} {pc nL : Nat} {ls : Array Slot} {rest st0 : List Value} {D : va_G} {cy : Nat → ClassId} {N : Nat} {q : Nat → Nat} {m : Nat → Value} {a : Nat → vp_A}
variable {own C : String} {T : u_T} {n0 ci o index n nb : Nat} {y : MethodName} {b : ByteArray} {r : Option FieldType} {rm : Room} {As : List Value} {lv : List (Nat × Value)}
variable {E : (Nat → Prop) → State → Heap → Prop}
theorem e_pre (hok : EOK E) (hE : E (gA N q s.heap.size) s s.heap) (hW : GW D cy (gA N q s.heap.size) N q m a s H) (hS : va_S (gA N q s.heap.size) s.heap H locs) (av : List Value) (U : State) (hU : U.heap = H) (hw : s.WarmedH U.vm) : ePc D cy N q m a H.size av E av.toArray U := by
  obtain ⟨hP, hK, hD⟩ := hW
  refine ⟨rfl, ⟨by rw [hU], by rw [hU]; exact hP, va_K.moved hw.alike hK, hD.weaken (fun _ _ _ _ => trivial)⟩, ?_⟩
  rw [hU]
  exact hok.1 _ _ s U H hE (fun x hx => gA_up hS.1 x hx) (fun x h1 h2 => hS.2.1 x h1 h2) hw
theorem g_Vie {post : Int32 → (Nat → Value) → (Nat → vp_A) → Prop} (hx : p.tables.exec = Jvm.exec) (hb : c.code = cc) (hml : c.maxLocals = nL) (hown : s.vm.findClass own = some M.cls) (hG : ∀ w ∈ GG, w.before args s = true) (hW : GW D cy (gA N q s.heap.size) N q m a s H) (hS : va_S (gA N q s.heap.size) s.heap H locs) (As : List Value) (hok : EOK E) (hE : E (gA N q s.heap.size) s s.heap)
    (hM : eMi l y b nb r rm D cy N q m a H.size (.ref (q o) :: As) E post) (ho : o < N) (hk : gk o = ci) (hci : ci < 13) (hc : vwCl[ci]? = some (C, T, n0)) (hst : st0 = As.reverse ++ .ref (q o) :: rest) (hg : GoodIn GG (wsV own index C y (Cond.code y b nb r :: GG))) (hrc : rm.cells = 0) (hrs : rm.slots = 0)
    (hd : y.cls = C ∧ y.cls ≠ "java/lang/invoke/MethodHandle" ∧ y.cls ≠ "java/lang/invoke/VarHandle" ∧ (parseMethodDescriptor y.desc).map (fun d => d.parameters.length) = some n) (hR : rm.frames + 1 ≤ R.frames ∧ 8 + (nb + 11) + rm.locals ≤ R.locals) (hn : As.length = n) (hl : lv_has ls nL lv) (hr8 : (rest.map fun v => v.category).sum ≤ 8) (hf : cells ≤ R.cells ∧ slots ≤ R.slots) (hdg : decode cc pc = .ok (.invokevirtual index, 3))
    (kk : ∀ (x : Int32) (m' : Nat → Value) (a' : Nat → vp_A) (H1 : Heap) (locs1 : List Loc), post x m' a' → GW D cy (gA N q s.heap.size) N q m' a' s H1 → va_S (gA N q s.heap.size) s.heap H1 locs1 → W p l e R s M args below meth c H1 locs1 cells slots Q (F0 M (pc + 3) ls (.int x :: rest))) : W p l e R s M args below meth c H locs cells slots Q (F0 M pc ls st0) := by
  have hle := hS.1
  refine va_calli (va_runV (As := As) (rest := rest) ⟨hx, hb, hml, hown, hG⟩ hM (cwV n hG hg rfl hrc hrs hd hR) ⟨ePc.blind hok, g_rv hW ho hk hci hc, fun U hU hw => e_pre hok hE hW hS _ U hU hw⟩ rfl hn hl.1 hst (lv_room hr8) hdg hf) hS (fun z _ h => gA_up hle z h) (fun z h => gA_up hle z h) (fun x u t H1 locs1 ht hvm hp hB hz hk1 hS1 => ?_)
  exact kk x u.1 u.2 H1 locs1 hp (g_post hle hW.2.1 ht hB rfl) hS1
theorem g_Vle {post : Int64 → (Nat → Value) → (Nat → vp_A) → Prop} (hx : p.tables.exec = Jvm.exec) (hb : c.code = cc) (hml : c.maxLocals = nL) (hown : s.vm.findClass own = some M.cls) (hG : ∀ w ∈ GG, w.before args s = true) (hW : GW D cy (gA N q s.heap.size) N q m a s H) (hS : va_S (gA N q s.heap.size) s.heap H locs) (As : List Value) (hok : EOK E) (hE : E (gA N q s.heap.size) s s.heap)
    (hM : eMl l y b nb r rm D cy N q m a H.size (.ref (q o) :: As) E post) (ho : o < N) (hk : gk o = ci) (hci : ci < 13) (hc : vwCl[ci]? = some (C, T, n0)) (hst : st0 = As.reverse ++ .ref (q o) :: rest) (hg : GoodIn GG (wsV own index C y (Cond.code y b nb r :: GG))) (hrc : rm.cells = 0) (hrs : rm.slots = 0)
    (hd : y.cls = C ∧ y.cls ≠ "java/lang/invoke/MethodHandle" ∧ y.cls ≠ "java/lang/invoke/VarHandle" ∧ (parseMethodDescriptor y.desc).map (fun d => d.parameters.length) = some n) (hR : rm.frames + 1 ≤ R.frames ∧ 8 + (nb + 11) + rm.locals ≤ R.locals) (hn : As.length = n) (hl : lv_has ls nL lv) (hr8 : (rest.map fun v => v.category).sum ≤ 8) (hf : cells ≤ R.cells ∧ slots ≤ R.slots) (hdg : decode cc pc = .ok (.invokevirtual index, 3))
    (kk : ∀ (x : Int64) (m' : Nat → Value) (a' : Nat → vp_A) (H1 : Heap) (locs1 : List Loc), post x m' a' → GW D cy (gA N q s.heap.size) N q m' a' s H1 → va_S (gA N q s.heap.size) s.heap H1 locs1 → W p l e R s M args below meth c H1 locs1 cells slots Q (F0 M (pc + 3) ls (.long x :: rest))) : W p l e R s M args below meth c H locs cells slots Q (F0 M pc ls st0) := by
  have hle := hS.1
  refine va_calll (va_runV (As := As) (rest := rest) ⟨hx, hb, hml, hown, hG⟩ hM (cwV n hG hg rfl hrc hrs hd hR) ⟨ePc.blind hok, g_rv hW ho hk hci hc, fun U hU hw => e_pre hok hE hW hS _ U hU hw⟩ rfl hn hl.1 hst (lv_room hr8) hdg hf) hS (fun z _ h => gA_up hle z h) (fun z h => gA_up hle z h) (fun x u t H1 locs1 ht hvm hp hB hz hk1 hS1 => ?_)
  exact kk x u.1 u.2 H1 locs1 hp (g_post hle hW.2.1 ht hB rfl) hS1
theorem g_Vve {post : (Nat → Value) → (Nat → vp_A) → Prop} (hx : p.tables.exec = Jvm.exec) (hb : c.code = cc) (hml : c.maxLocals = nL) (hown : s.vm.findClass own = some M.cls) (hG : ∀ w ∈ GG, w.before args s = true) (hW : GW D cy (gA N q s.heap.size) N q m a s H) (hS : va_S (gA N q s.heap.size) s.heap H locs) (As : List Value) (hok : EOK E) (hE : E (gA N q s.heap.size) s s.heap)
    (hM : eMv l y b nb r rm D cy N q m a H.size (.ref (q o) :: As) E post) (ho : o < N) (hk : gk o = ci) (hci : ci < 13) (hc : vwCl[ci]? = some (C, T, n0)) (hst : st0 = As.reverse ++ .ref (q o) :: rest) (hg : GoodIn GG (wsV own index C y (Cond.code y b nb r :: GG))) (hrc : rm.cells = 0) (hrs : rm.slots = 0)
    (hd : y.cls = C ∧ y.cls ≠ "java/lang/invoke/MethodHandle" ∧ y.cls ≠ "java/lang/invoke/VarHandle" ∧ (parseMethodDescriptor y.desc).map (fun d => d.parameters.length) = some n) (hR : rm.frames + 1 ≤ R.frames ∧ 8 + (nb + 11) + rm.locals ≤ R.locals) (hn : As.length = n) (hl : lv_has ls nL lv) (hr8 : (rest.map fun v => v.category).sum ≤ 8) (hf : cells ≤ R.cells ∧ slots ≤ R.slots) (hdg : decode cc pc = .ok (.invokevirtual index, 3))
    (kk : ∀ (m' : Nat → Value) (a' : Nat → vp_A) (H1 : Heap) (locs1 : List Loc), post m' a' → GW D cy (gA N q s.heap.size) N q m' a' s H1 → va_S (gA N q s.heap.size) s.heap H1 locs1 → W p l e R s M args below meth c H1 locs1 cells slots Q (F0 M (pc + 3) ls rest)) : W p l e R s M args below meth c H locs cells slots Q (F0 M pc ls st0) := by
  have hle := hS.1
  refine va_callv (va_runV (As := As) (rest := rest) ⟨hx, hb, hml, hown, hG⟩ hM (cwV n hG hg rfl hrc hrs hd hR) ⟨ePc.blind hok, g_rv hW ho hk hci hc, fun U hU hw => e_pre hok hE hW hS _ U hU hw⟩ rfl hn hl.1 hst (lv_room hr8) hdg hf) hS (fun z _ h => gA_up hle z h) (fun z h => gA_up hle z h) (fun u t H1 locs1 ht hvm hp hB hz hk1 hS1 => ?_)
  exact kk u.1 u.2 H1 locs1 hp (g_post hle hW.2.1 ht hB rfl) hS1
theorem g_Sie {post : Int32 → (Nat → Value) → (Nat → vp_A) → Prop} (hx : p.tables.exec = Jvm.exec) (hb : c.code = cc) (hml : c.maxLocals = nL) (hown : s.vm.findClass own = some M.cls) (hG : ∀ w ∈ GG, w.before args s = true) (hW : GW D cy (gA N q s.heap.size) N q m a s H) (hS : va_S (gA N q s.heap.size) s.heap H locs) (As : List Value) (hok : EOK E) (hE : E (gA N q s.heap.size) s s.heap)
    (hM : eMi l y b nb r rm D cy N q m a H.size As E post) (hst : st0 = As.reverse ++ rest) (hg : GoodIn GG (va_wsS own index y (Cond.code y b nb r :: GG))) (hrc : rm.cells = 0) (hrs : rm.slots = 0)
    (hd : y.cls ≠ "java/lang/invoke/MethodHandle" ∧ y.cls ≠ "java/lang/invoke/VarHandle" ∧ (parseMethodDescriptor y.desc).map (fun d => d.parameters.length) = some n) (hR : rm.frames + 1 ≤ R.frames ∧ 8 + (nb + 11) + rm.locals ≤ R.locals) (hn : As.length = n) (hl : lv_has ls nL lv) (hr8 : (rest.map fun v => v.category).sum ≤ 8) (hf : cells ≤ R.cells ∧ slots ≤ R.slots) (hdg : decode cc pc = .ok (.invokestatic index, 3))
    (kk : ∀ (x : Int32) (m' : Nat → Value) (a' : Nat → vp_A) (H1 : Heap) (locs1 : List Loc), post x m' a' → GW D cy (gA N q s.heap.size) N q m' a' s H1 → va_S (gA N q s.heap.size) s.heap H1 locs1 → W p l e R s M args below meth c H1 locs1 cells slots Q (F0 M (pc + 3) ls (.int x :: rest))) : W p l e R s M args below meth c H locs cells slots Q (F0 M pc ls st0) := by
  have hle := hS.1
  refine va_calli (va_runS (As := As) (rest := rest) ⟨hx, hb, hml, hown, hG⟩ hM (va_cwS n hG hg rfl hrc hrs hd hR) ⟨ePc.blind hok, fun U hU hw => e_pre hok hE hW hS _ U hU hw⟩ rfl hn hl.1 hst (lv_room hr8) hdg hf) hS (fun z _ h => gA_up hle z h) (fun z h => gA_up hle z h) (fun x u t H1 locs1 ht hvm hp hB hz hk1 hS1 => ?_)
  exact kk x u.1 u.2 H1 locs1 hp (g_post hle hW.2.1 ht hB rfl) hS1
theorem g_Sle {post : Int64 → (Nat → Value) → (Nat → vp_A) → Prop} (hx : p.tables.exec = Jvm.exec) (hb : c.code = cc) (hml : c.maxLocals = nL) (hown : s.vm.findClass own = some M.cls) (hG : ∀ w ∈ GG, w.before args s = true) (hW : GW D cy (gA N q s.heap.size) N q m a s H) (hS : va_S (gA N q s.heap.size) s.heap H locs) (As : List Value) (hok : EOK E) (hE : E (gA N q s.heap.size) s s.heap)
    (hM : eMl l y b nb r rm D cy N q m a H.size As E post) (hst : st0 = As.reverse ++ rest) (hg : GoodIn GG (va_wsS own index y (Cond.code y b nb r :: GG))) (hrc : rm.cells = 0) (hrs : rm.slots = 0)
    (hd : y.cls ≠ "java/lang/invoke/MethodHandle" ∧ y.cls ≠ "java/lang/invoke/VarHandle" ∧ (parseMethodDescriptor y.desc).map (fun d => d.parameters.length) = some n) (hR : rm.frames + 1 ≤ R.frames ∧ 8 + (nb + 11) + rm.locals ≤ R.locals) (hn : As.length = n) (hl : lv_has ls nL lv) (hr8 : (rest.map fun v => v.category).sum ≤ 8) (hf : cells ≤ R.cells ∧ slots ≤ R.slots) (hdg : decode cc pc = .ok (.invokestatic index, 3))
    (kk : ∀ (x : Int64) (m' : Nat → Value) (a' : Nat → vp_A) (H1 : Heap) (locs1 : List Loc), post x m' a' → GW D cy (gA N q s.heap.size) N q m' a' s H1 → va_S (gA N q s.heap.size) s.heap H1 locs1 → W p l e R s M args below meth c H1 locs1 cells slots Q (F0 M (pc + 3) ls (.long x :: rest))) : W p l e R s M args below meth c H locs cells slots Q (F0 M pc ls st0) := by
  have hle := hS.1
  refine va_calll (va_runS (As := As) (rest := rest) ⟨hx, hb, hml, hown, hG⟩ hM (va_cwS n hG hg rfl hrc hrs hd hR) ⟨ePc.blind hok, fun U hU hw => e_pre hok hE hW hS _ U hU hw⟩ rfl hn hl.1 hst (lv_room hr8) hdg hf) hS (fun z _ h => gA_up hle z h) (fun z h => gA_up hle z h) (fun x u t H1 locs1 ht hvm hp hB hz hk1 hS1 => ?_)
  exact kk x u.1 u.2 H1 locs1 hp (g_post hle hW.2.1 ht hB rfl) hS1
theorem g_Sve {post : (Nat → Value) → (Nat → vp_A) → Prop} (hx : p.tables.exec = Jvm.exec) (hb : c.code = cc) (hml : c.maxLocals = nL) (hown : s.vm.findClass own = some M.cls) (hG : ∀ w ∈ GG, w.before args s = true) (hW : GW D cy (gA N q s.heap.size) N q m a s H) (hS : va_S (gA N q s.heap.size) s.heap H locs) (As : List Value) (hok : EOK E) (hE : E (gA N q s.heap.size) s s.heap)
    (hM : eMv l y b nb r rm D cy N q m a H.size As E post) (hst : st0 = As.reverse ++ rest) (hg : GoodIn GG (va_wsS own index y (Cond.code y b nb r :: GG))) (hrc : rm.cells = 0) (hrs : rm.slots = 0)
    (hd : y.cls ≠ "java/lang/invoke/MethodHandle" ∧ y.cls ≠ "java/lang/invoke/VarHandle" ∧ (parseMethodDescriptor y.desc).map (fun d => d.parameters.length) = some n) (hR : rm.frames + 1 ≤ R.frames ∧ 8 + (nb + 11) + rm.locals ≤ R.locals) (hn : As.length = n) (hl : lv_has ls nL lv) (hr8 : (rest.map fun v => v.category).sum ≤ 8) (hf : cells ≤ R.cells ∧ slots ≤ R.slots) (hdg : decode cc pc = .ok (.invokestatic index, 3))
    (kk : ∀ (m' : Nat → Value) (a' : Nat → vp_A) (H1 : Heap) (locs1 : List Loc), post m' a' → GW D cy (gA N q s.heap.size) N q m' a' s H1 → va_S (gA N q s.heap.size) s.heap H1 locs1 → W p l e R s M args below meth c H1 locs1 cells slots Q (F0 M (pc + 3) ls rest)) : W p l e R s M args below meth c H locs cells slots Q (F0 M pc ls st0) := by
  have hle := hS.1
  refine va_callv (va_runS (As := As) (rest := rest) ⟨hx, hb, hml, hown, hG⟩ hM (va_cwS n hG hg rfl hrc hrs hd hR) ⟨ePc.blind hok, fun U hU hw => e_pre hok hE hW hS _ U hU hw⟩ rfl hn hl.1 hst (lv_room hr8) hdg hf) hS (fun z _ h => gA_up hle z h) (fun z h => gA_up hle z h) (fun u t H1 locs1 ht hvm hp hB hz hk1 hS1 => ?_)
  exact kk u.1 u.2 H1 locs1 hp (g_post hle hW.2.1 ht hB rfl) hS1
end GWCE
theorem e_ofi {l : Launch} {y : MethodName} {b : ByteArray} {n : Nat} {r : Option FieldType} {rm : Room} {D : va_G} {cy : Nat → ClassId} {N : Nat} {q : Nat → Nat} {m : Nat → Value} {a : Nat → vp_A} {sz : Nat} {av : List Value} {E : (Nat → Prop) → State → Heap → Prop} {post : Int32 → (Nat → Value) → (Nat → vp_A) → Prop} (hy : plainName y.cls = true) (hlen : (lg_sl av).length ≤ n) (body : ∀ (p : Program) (e : Env) (s : State) (M : MethodId) (args : Array Value) (below : List Frame) (meth : Method) (c : Code), p.tables.exec = Jvm.exec → c.code = b → meth.sig.returnType = r → (∀ w ∈ GG, w.before args s = true) → s.vm.findClass y.cls = some M.cls → meth.name = y.name → meth.locks = false → c.maxLocals = n → GW D cy (gA N q s.heap.size) N q m a s s.heap → va_S (gA N q s.heap.size) s.heap s.heap [] → E (gA N q s.heap.size) s s.heap → ∀ ls, lv_has ls n (lv_args 0 av) → W p l e rm s M args below meth c s.heap [] 0 0 (MQ below (va_Qi (fun r u => post r u.1 u.2) (gB D cy N q s.heap.size) (gA N q s.heap.size)) args s 0 0 (gA N q s.heap.size)) (F0 M 0 ls [])) : eMi l y b n r rm D cy N q m a sz av E post := by
  refine Met.ofW (cc := b) (maxL := n) (ret := r) hy rfl ?_
  intro p e s M args below meth c s₁ B hml hv
  obtain ⟨rfl, ⟨hsz, hP, hK, hD⟩, hE⟩ := hv
  subst hsz
  have hts := atoms_spec (ws := Cond.code y b n r :: GG) B.pre
  have hD' : va_D (gA N q s.heap.size) (gw cy N q m a) := ⟨hD.1, fun k z hk => Or.inl ⟨k, by
    have := (List.getElem?_eq_some_iff.mp hk).1
    rw [gw_len] at this
    exact this, by
    have h1 := (List.getElem?_eq_some_iff.mp hk).1
    rw [gw_len] at h1
    rw [gw_at h1] at hk
    cases hk
    rfl⟩⟩
  rw [lg_entry_eq]
  exact body p e s M _ below meth c B.exec B.bytes B.returns (fun w hw => hts w (List.mem_cons_of_mem _ hw)) (findClass_of_methodNamed B.named) (name_of_methodNamed B.named B.method).1 B.notSynchronized hml ⟨hP, hK, hD'⟩ va_S.rf hE _ (lv_entry av hlen)
theorem e_ofl {l : Launch} {y : MethodName} {b : ByteArray} {n : Nat} {r : Option FieldType} {rm : Room} {D : va_G} {cy : Nat → ClassId} {N : Nat} {q : Nat → Nat} {m : Nat → Value} {a : Nat → vp_A} {sz : Nat} {av : List Value} {E : (Nat → Prop) → State → Heap → Prop} {post : Int64 → (Nat → Value) → (Nat → vp_A) → Prop} (hy : plainName y.cls = true) (hlen : (lg_sl av).length ≤ n) (body : ∀ (p : Program) (e : Env) (s : State) (M : MethodId) (args : Array Value) (below : List Frame) (meth : Method) (c : Code), p.tables.exec = Jvm.exec → c.code = b → meth.sig.returnType = r → (∀ w ∈ GG, w.before args s = true) → s.vm.findClass y.cls = some M.cls → meth.name = y.name → meth.locks = false → c.maxLocals = n → GW D cy (gA N q s.heap.size) N q m a s s.heap → va_S (gA N q s.heap.size) s.heap s.heap [] → E (gA N q s.heap.size) s s.heap → ∀ ls, lv_has ls n (lv_args 0 av) → W p l e rm s M args below meth c s.heap [] 0 0 (MQ below (va_Ql (fun r u => post r u.1 u.2) (gB D cy N q s.heap.size) (gA N q s.heap.size)) args s 0 0 (gA N q s.heap.size)) (F0 M 0 ls [])) : eMl l y b n r rm D cy N q m a sz av E post := by
  refine Met.ofW (cc := b) (maxL := n) (ret := r) hy rfl ?_
  intro p e s M args below meth c s₁ B hml hv
  obtain ⟨rfl, ⟨hsz, hP, hK, hD⟩, hE⟩ := hv
  subst hsz
  have hts := atoms_spec (ws := Cond.code y b n r :: GG) B.pre
  have hD' : va_D (gA N q s.heap.size) (gw cy N q m a) := ⟨hD.1, fun k z hk => Or.inl ⟨k, by
    have := (List.getElem?_eq_some_iff.mp hk).1
    rw [gw_len] at this
    exact this, by
    have h1 := (List.getElem?_eq_some_iff.mp hk).1
    rw [gw_len] at h1
    rw [gw_at h1] at hk
    cases hk
    rfl⟩⟩
  rw [lg_entry_eq]
  exact body p e s M _ below meth c B.exec B.bytes B.returns (fun w hw => hts w (List.mem_cons_of_mem _ hw)) (findClass_of_methodNamed B.named) (name_of_methodNamed B.named B.method).1 B.notSynchronized hml ⟨hP, hK, hD'⟩ va_S.rf hE _ (lv_entry av hlen)
theorem e_ofv {l : Launch} {y : MethodName} {b : ByteArray} {n : Nat} {r : Option FieldType} {rm : Room} {D : va_G} {cy : Nat → ClassId} {N : Nat} {q : Nat → Nat} {m : Nat → Value} {a : Nat → vp_A} {sz : Nat} {av : List Value} {E : (Nat → Prop) → State → Heap → Prop} {post : (Nat → Value) → (Nat → vp_A) → Prop} (hy : plainName y.cls = true) (hlen : (lg_sl av).length ≤ n) (body : ∀ (p : Program) (e : Env) (s : State) (M : MethodId) (args : Array Value) (below : List Frame) (meth : Method) (c : Code), p.tables.exec = Jvm.exec → c.code = b → meth.sig.returnType = r → (∀ w ∈ GG, w.before args s = true) → s.vm.findClass y.cls = some M.cls → meth.name = y.name → meth.locks = false → c.maxLocals = n → GW D cy (gA N q s.heap.size) N q m a s s.heap → va_S (gA N q s.heap.size) s.heap s.heap [] → E (gA N q s.heap.size) s s.heap → ∀ ls, lv_has ls n (lv_args 0 av) → W p l e rm s M args below meth c s.heap [] 0 0 (MQ below (va_Qv (fun u => post u.1 u.2) (gB D cy N q s.heap.size) (gA N q s.heap.size)) args s 0 0 (gA N q s.heap.size)) (F0 M 0 ls [])) : eMv l y b n r rm D cy N q m a sz av E post := by
  refine Met.ofW (cc := b) (maxL := n) (ret := r) hy rfl ?_
  intro p e s M args below meth c s₁ B hml hv
  obtain ⟨rfl, ⟨hsz, hP, hK, hD⟩, hE⟩ := hv
  subst hsz
  have hts := atoms_spec (ws := Cond.code y b n r :: GG) B.pre
  have hD' : va_D (gA N q s.heap.size) (gw cy N q m a) := ⟨hD.1, fun k z hk => Or.inl ⟨k, by
    have := (List.getElem?_eq_some_iff.mp hk).1
    rw [gw_len] at this
    exact this, by
    have h1 := (List.getElem?_eq_some_iff.mp hk).1
    rw [gw_len] at h1
    rw [gw_at h1] at hk
    cases hk
    rfl⟩⟩
  rw [lg_entry_eq]
  exact body p e s M _ below meth c B.exec B.bytes B.returns (fun w hw => hts w (List.mem_cons_of_mem _ hw)) (findClass_of_methodNamed B.named) (name_of_methodNamed B.named B.method).1 B.notSynchronized hml ⟨hP, hK, hD'⟩ va_S.rf hE _ (lv_entry av hlen)
def sOwn (i : Nat) : String := ["HealLink$Tape", "HealLink$Tape", "HealLink$Tape", "HealLink$Tape", "HealLink$Tape", "HealLink$Tape", "HealLink$Tape", "HealLinkModel", "HealLinkModel", "HealLinkModel", "HealLinkModel", "HealLinkModel", "HealLinkModel", "HealLinkModel"].getD i ""
def sIdx (i : Nat) : Nat := [96, 102, 104, 106, 108, 110, 112, 417, 423, 425, 430, 432, 434, 439].getD i 0
def sTx (i : Nat) : String := ["send", "arrive", "come", "lose", "drop", "clear", "again", "send", "arrive", "lose", "come", "drop", "again", "clear"].getD i ""
def sLen (i : Nat) : Nat := [4, 6, 4, 4, 4, 5, 5, 4, 6, 4, 4, 4, 5, 5].getD i 0
def sBytes : List (List Int32) := [[115, 101, 110, 100], [97, 114, 114, 105, 118, 101], [99, 111, 109, 101], [108, 111, 115, 101], [100, 114, 111, 112], [99, 108, 101, 97, 114], [97, 103, 97, 105, 110], [115, 101, 110, 100], [97, 114, 114, 105, 118, 101], [108, 111, 115, 101], [99, 111, 109, 101], [100, 114, 111, 112], [97, 103, 97, 105, 110], [99, 108, 101, 97, 114]]
def sByt (i : Nat) : Nat → Int32 := fun j => (sBytes.getD i []).getD j 0
/-- the texts of both sides -/
def XS (sa sv : Nat → Nat) (A : Nat → Prop) (U : State) (H : Heap) : Prop := (∀ i, i < 14 → vk_R (sOwn i) (sIdx i) (sTx i) (sa i) U ∧ Str A (sa i) (sv i) (sLen i) (sByt i) U H) ∧ StrZ A U H
/-- one text -/
def XT (a v n : Nat) (f : Nat → Int32) (A : Nat → Prop) (U : State) (H : Heap) : Prop := Str A a v n f U H ∧ StrZ A U H
theorem XS.ok {sa sv : Nat → Nat} : EOK (XS sa sv) := ⟨fun A B s U H h hAB hq hw => ⟨fun i hi => ⟨vk_R.warm hw (h.1 i hi).1, ((((h.1 i hi).2).kept hq).narrow hAB).moved hw.alike⟩, ((h.2.kept hq).narrow hAB).moved hw.alike⟩, fun A U g mk z H h => ⟨fun i hi => ⟨vk_R.same (u := U) rfl (h.1 i hi).1, (h.1 i hi).2.moved (U := U.calling g mk z) (Vm.Alike.refl U.vm)⟩, h.2.moved (U := U.calling g mk z) (Vm.Alike.refl U.vm)⟩⟩
theorem XT.ok {a v n : Nat} {f : Nat → Int32} : EOK (XT a v n f) := ⟨fun A B s U H h hAB hq hw => ⟨((h.1.kept hq).narrow hAB).moved hw.alike, ((h.2.kept hq).narrow hAB).moved hw.alike⟩, fun A U g mk z H h => ⟨h.1.moved (U := U.calling g mk z) (Vm.Alike.refl U.vm), h.2.moved (U := U.calling g mk z) (Vm.Alike.refl U.vm)⟩⟩
theorem XS.one {sa sv : Nat → Nat} {A : Nat → Prop} {U : State} {H : Heap} (h : XS sa sv A U H) (i : Nat) (hi : i < 14) : XT (sa i) (sv i) (sLen i) (sByt i) A U H := ⟨(h.1 i hi).2, h.2⟩
theorem XT.se {a v n : Nat} {f : Nat → Int32} {A : Nat → Prop} {s U : State} {H : Heap} {locs : List Loc} (h : XT a v n f A s s.heap) (hS : va_S A s.heap H locs) (hU : U.heap = H) (hw : s.WarmedH U.vm) : SE a v n f U := by
  have h1 := XT.ok.1 A nA s U H h (fun x hx => hx.elim) (fun x h1 h2 => hS.2.1 x h1 h2) hw
  unfold SE
  rw [hU]
  exact h1
theorem kJ0_charAtI {l : Launch} {a v n : Nat} {f : Nat → Int32} (hn : n < 2 ^ 31) {i : Int32} (hi : inb i n = true) : Met l yJ0_charAt_5068e (Cond.code yJ0_charAt_5068e cJ0_charAt_5068e 2 (some .char) :: GG) ({ frames := 3, cells := 0, slots := 0, locals := 64 } : Room) (va_Pc [.ref a, .int i] (SE a v n f)) (vp_Si (fun r => r = chAt f i.toNatClampNeg)) 0 0 (fun _ => False) := by
  obtain ⟨j, hj, rfl⟩ := vp_in_of (vin hi) hn
  rw [nI_clamp (by omega)]
  exact kJ0_charAt hn hj
section LW
variable {p : Program} {l : Launch} {e : Env} {R : Room} {s : State} {m : MethodId} {args : Array Value} {below : List Frame} {meth : Method} {c : Code} {H : Heap} {locs : List Loc} {cells slots : Nat} {Q : State → Prop}
variable {cc : ByteArray} {pc : Nat} {ls : Array Slot} {rest : List Value}
theorem ldcwS0 {T : State} (X : Stand p l e R s m args below meth c T locs cells slots) (hexec : p.tables.exec = Jvm.exec) {own text : String} {index : Nat} {a : Addr} (hown : s.vm.findClass own = some m.cls)
    (hconst : (Cond.stringRef own index text).before args s = true) (hev : (Term.string own index).eval args s none [] s = some (.ref a)) {g : JFrame} (hg : g.method = m) (hdg : decode c.code g.pc = .ok (.ldc_w index, 3)) :
    ∀ target, Steps p.tables e below (T.setTop { g with pc := g.pc + 3, stack := .ref a :: g.stack }) target → Steps p.tables e below (T.setTop g) target := by
  obtain ⟨k, cf, i, a', hk, hcf, hcp, -, hr, hev'⟩ := Cond.stringRef_spec hown hconst
  cases hev.symm.trans hev'
  obtain ⟨k', hk', he⟩ := X.warmed.alike.2.2 _ _ hk
  have hr' : k'.resolved[index]? = some (some (.string a)) := by
    rcases X.warmed.entry hk hk' index with h | ⟨h, -⟩
    · rw [h]; exact hr
    · rw [hr] at h; cases h
  intro target hrest
  subst hg
  jvm_step X.here [hexec, hdg, ldc_w.wp_string (e := e) (s := T) (f := g) X.here.top hk' (by rw [he]; exact hcf) hcp hr']
  exact hrest
theorem va_ldcwS (hexec : p.tables.exec = Jvm.exec) (hb : c.code = cc) {own tx : String} {index q : Nat} (hown : s.vm.findClass own = some m.cls) (hZ : vk_R own index tx q s) (hdg : decode cc pc = .ok (.ldc_w index, 3))
    (k : W p l e R s m args below meth c H locs cells slots Q (F0 m (pc + 3) ls (.ref q :: rest))) : W p l e R s m args below meth c H locs cells slots Q (F0 m pc ls rest) := by
  intro T hT X
  obtain ⟨t, a1, b1⟩ := k T hT X
  exact ⟨t, ldcwS0 X hexec hown (text := tx) (a := q) hZ.1 hZ.2 (g := F0 m pc ls rest) rfl (by rw [hb]; exact hdg) t a1, b1⟩
end LW
