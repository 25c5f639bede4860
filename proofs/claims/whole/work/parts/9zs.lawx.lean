/-! part 9zs: the law's walk: what stays, what holds at the head of each call -/
theorem gA_all {N : Nat} {q : Nat → Nat} {sz : Nat} (hq : ∀ k, k < N → sz ≤ q k) : gA N q sz = fun x => sz ≤ x := by
  funext x
  apply propext
  constructor
  · rintro (⟨k, hk, rfl⟩ | h)
    · exact hq k hk
    · exact h
  · exact Or.inr
theorem gA_not {N : Nat} {q : Nat → Nat} {sz b : Nat} (hq : ∀ k, k < N → sz ≤ q k) (hb : b < sz) : ¬ gA N q sz b := by
  rw [gA_all hq]
  exact Nat.not_le.mpr hb
/-- what stays over the whole walk -/
def LCx (F : Nat) (p : Program) (l : Launch) (s : State) (m : MethodId) (c : Code) (b L : Nat) (xs : Nat → Int32) (sa sv : Nat → Nat) (k1 k2 : Nat) : Prop := p.tables.exec = Jvm.exec ∧ c.code = cL_law ∧ c.maxLocals = 7 ∧ s.vm.findClass RL = some m.cls ∧ (∀ w ∈ GX, w.before #[Value.ref b] s = true) ∧ va_X b L xs s s.heap ∧ b < s.heap.size ∧ l.stackTraces = false ∧ XS sa sv (fun x => s.heap.size ≤ x) s s.heap ∧ KE k1 k2 (fun x => s.heap.size ≤ x) s s.heap ∧ 800000 ≤ F
/-- what holds between two calls -/
def LSt (F : Nat) (s : State) (b : Nat) (D : va_G) (cy : Nat → ClassId) (i : Int32) (N : Nat) (q : Nat → Nat) (mm : Nat → Value) (a : Nat → vp_A) (H : Heap) (locs : List Loc) (ls : Array Slot) : Prop := INV F N q mm a ∧ (∀ k, k < N → s.heap.size ≤ q k) ∧ GW D cy (gA N q s.heap.size) N q mm a s H ∧ va_S (gA N q s.heap.size) s.heap H locs ∧ lv_has ls 7 [(0, .ref b), (1, .ref (q 0)), (2, .ref (q 69)), (3, .ref (q 104)), (4, .int i)]
/-- the places of a call's arguments lie in the script -/
def LVi (i : Int32) (L : Nat) : Prop := vp_in (i + 1) L ∧ vp_in (i + 2) L ∧ vp_in (i + 3) L ∧ vp_in (i + 4) L ∧ vp_in (i + 5) L ∧ vp_in (i + 6) L
def bzz (x : Int32) : Int32 := if x = 0 then 0 else 1
section LWH
variable {p : Program} {l : Launch} {e : Env} {R : Room} {s : State} {m : MethodId} {args : Array Value} {below : List Frame} {meth : Method} {c : Code} {H : Heap} {locs : List Loc} {cells slots : Nat} {Q : State → Prop}
variable {cc : ByteArray} {pc nL : Nat} {ls : Array Slot} {rest st0 : List Value} {D : va_G} {cy : Nat → ClassId} {N : Nat} {q : Nat → Nat} {mm : Nat → Value} {a : Nat → vp_A}
variable {own C : String} {T : u_T} {n0 ci o index n nb : Nat} {y : MethodName} {b : ByteArray} {r : Option FieldType} {rm : Room} {lv : List (Nat × Value)}
/-- 'x != 0' as an argument -/
theorem lw_bz (hx : p.tables.exec = Jvm.exec) (hb : c.code = cc) {x : Int32} (d0 : decode cc pc = .ok (.ifCond .eq 7, 3)) (d1 : decode cc (pc + 3) = .ok (.iconst 1, 1)) (d2 : decode cc (pc + 4) = .ok (.goto 4, 3)) (d3 : decode cc (pc + 7) = .ok (.iconst 0, 1))
    (kk : W p l e R s m args below meth c H locs cells slots Q (F0 m (pc + 8) ls (.int (bzz x) :: rest))) : W p l e R s m args below meth c H locs cells slots Q (F0 m pc ls (.int x :: rest)) := by
  refine lv_if_eq (tgt := pc + 7) hx hb d0 (by omega) (fun c1 => ?_) (fun c1 => ?_)
  · refine lv_iconst (v := 0) hx hb d3 (by decide) ?_
    have e1 : bzz x = 0 := if_pos c1
    rw [e1] at kk
    exact kk
  · refine lv_iconst (v := 1) hx hb d1 (by decide) ?_
    refine lv_goto (tgt := pc + 8) hx hb d2 (by omega) ?_
    have e1 : bzz x = 1 := if_neg c1
    rw [e1] at kk
    exact kk
/-- the call of set -/
theorem g_Vset {mc ms : Nat} {post : Int32 → Nat × (Nat → Nat) × (Nat → Value) × (Nat → vp_A) → Prop} (hx : p.tables.exec = Jvm.exec) (hb : c.code = cc) (hml : c.maxLocals = nL) (hown : s.vm.findClass own = some m.cls) (hG : ∀ w ∈ GG, w.before args s = true) (hW : GW D cy (gA N q s.heap.size) N q mm a s H) (hS : va_S (gA N q s.heap.size) s.heap H locs) (As : List Value)
    (hM : Met l y (Cond.code y b nb r :: GG) rm (gPc D cy N q mm a H.size (.ref (q o) :: As)) (va_Qi post (setB D cy N q H.size) (gA N q H.size)) mc ms (gA N q H.size)) (ho : o < N) (hk : gk o = ci) (hci : ci < 13) (hc : vwCl[ci]? = some (C, T, n0)) (hst : st0 = As.reverse ++ .ref (q o) :: rest) (hg : GoodIn GG (wsV own index C y (Cond.code y b nb r :: GG))) (hrc : rm.cells = mc) (hrs : rm.slots = ms)
    (hd : y.cls = C ∧ y.cls ≠ "java/lang/invoke/MethodHandle" ∧ y.cls ≠ "java/lang/invoke/VarHandle" ∧ (parseMethodDescriptor y.desc).map (fun d => d.parameters.length) = some n) (hR : rm.frames + 1 ≤ R.frames ∧ 8 + (nb + 11) + rm.locals ≤ R.locals) (hn : As.length = n) (hl : lv_has ls nL lv) (hr8 : (rest.map fun v => v.category).sum ≤ 8) (hf : cells + mc ≤ R.cells ∧ slots + ms ≤ R.slots) (hdg : decode cc pc = .ok (.invokevirtual index, 3))
    (kk : ∀ (x : Int32) (u : Nat × (Nat → Nat) × (Nat → Value) × (Nat → vp_A)) (H1 : Heap) (locs1 : List Loc), post x u → GW D cy (gA N q s.heap.size) u.1 u.2.1 u.2.2.1 u.2.2.2 s H1 → va_S (gA N q s.heap.size) s.heap H1 locs1 → W p l e R s m args below meth c H1 locs1 (cells + mc) (slots + ms) Q (F0 m (pc + 3) ls (.int x :: rest))) : W p l e R s m args below meth c H locs cells slots Q (F0 m pc ls st0) := by
  have hle := hS.1
  refine va_calli (va_runV (As := As) (rest := rest) ⟨hx, hb, hml, hown, hG⟩ hM (cwV n hG hg rfl hrc hrs hd hR) ⟨GW.blind, g_rv hW ho hk hci hc, fun U hU hw => g_pre hW _ U hU hw⟩ rfl hn hl.1 hst (lv_room hr8) hdg hf) hS (fun z _ h => gA_up hle z h) (fun z h => gA_up hle z h) (fun x u t H1 locs1 ht hvm hp hB hz hk1 hS1 => ?_)
  obtain ⟨hP1, hK1, hD1⟩ := hB
  exact kk x u H1 locs1 hp ⟨by rw [← ht]; exact hP1, hW.2.1, hD1.weaken (fun _ _ _ h => gA_up hle _ h)⟩ hS1
theorem gd_SX {own : String} {idx : Nat} {y : MethodName} {b : ByteArray} {n : Nat} {r : Option FieldType} {hh : List (Nat × Nat × Nat × Nat)} (h1 : Cond.methodLink own idx y ∈ GG) (h2 : Cond.static y ∈ GG) (h4 : Cond.initialized y.cls ∈ GG) (h5 : Cond.codeWith y b n r hh ∈ GG) : GoodIn GX (va_wsS own idx y (Cond.codeWith y b n r hh :: GX)) := by
  have hm : ∀ w ∈ va_wsS own idx y (Cond.codeWith y b n r hh :: GX), w ∈ GX := fun w hw => by
    rcases List.mem_append.mp hw with h | h
    · simp only [List.mem_cons, List.not_mem_nil, or_false] at h
      rcases h with rfl | rfl | rfl
      · exact GG_GX _ h1
      · exact GG_GX _ h2
      · exact GG_GX _ h4
    · rcases List.mem_cons.mp h with rfl | h
      · exact GG_GX _ h5
      · exact h
  exact goodIn_sub hm (List.all_eq_true.mpr fun w hw => List.all_eq_true.mp GX_good w (hm w hw))
/-- the call of one of the law's two that catch -/
theorem g_SX {hh : List (Nat × Nat × Nat × Nat)} {mc ms : Nat} {E : (Nat → Prop) → State → Heap → Prop} {post : Int32 → (Nat → Value) × (Nat → vp_A) → Prop} {BX : String → Unit → State → Prop} (hx : p.tables.exec = Jvm.exec) (hb : c.code = cc) (hml : c.maxLocals = nL) (hown : s.vm.findClass own = some m.cls) (hGX : ∀ w ∈ GX, w.before args s = true) (hW : GW D cy (gA N q s.heap.size) N q mm a s H) (hS : va_S (gA N q s.heap.size) s.heap H locs) (As : List Value) (hok : EOK E) (hE : E (gA N q s.heap.size) s s.heap)
    (hM : vx_Met l y (Cond.codeWith y b nb r hh :: GX) rm (ePc D cy N q mm a H.size As E) (va_Qi post (gB D cy N q H.size) (gA N q H.size)) (vx_X (fun _ : Unit => False) BX (gA N q H.size)) mc ms (gA N q H.size)) (hst : st0 = As.reverse ++ rest) (hg : GoodIn GX (va_wsS own index y (Cond.codeWith y b nb r hh :: GX))) (hrc : rm.cells = mc) (hrs : rm.slots = ms)
    (hd : y.cls ≠ "java/lang/invoke/MethodHandle" ∧ y.cls ≠ "java/lang/invoke/VarHandle" ∧ (parseMethodDescriptor y.desc).map (fun d => d.parameters.length) = some n) (hR : rm.frames + 1 ≤ R.frames ∧ 8 + (nb + 11) + rm.locals ≤ R.locals) (hn : As.length = n) (hl : lv_has ls nL lv) (hr8 : (rest.map fun v => v.category).sum ≤ 8) (hf : cells + mc ≤ R.cells ∧ slots + ms ≤ R.slots) (hdg : decode cc pc = .ok (.invokestatic index, 3))
    (kk : ∀ (x : Int32) (m' : Nat → Value) (a' : Nat → vp_A) (H1 : Heap) (locs1 : List Loc), post x (m', a') → GW D cy (gA N q s.heap.size) N q m' a' s H1 → va_S (gA N q s.heap.size) s.heap H1 locs1 → W p l e R s m args below meth c H1 locs1 (cells + mc) (slots + ms) Q (F0 m (pc + 3) ls (.int x :: rest))) : W p l e R s m args below meth c H locs cells slots Q (F0 m pc ls st0) := by
  have hle := hS.1
  refine vx_calli (vx_runSX (As := As) (rest := rest) (hh := hh) ⟨hx, hb, hml, hown, hGX⟩ hM (vx_cwSW n hGX hg rfl hrc hrs hd hR) ⟨ePc.blind hok, fun U hU hw => e_pre hok hE hW hS _ U hU hw⟩ rfl hn hl.1 hst (lv_room hr8) hdg hf) hS (fun z _ h => gA_up hle z h) (fun z h => gA_up hle z h) (fun z _ h => gA_up hle z h) (fun E ce q9 u t H1 locs1 ht hvm hp hB hz hk1 hS1 hce hcv hcl => hp.elim) (fun x u t H1 locs1 ht hvm hp hB hz hk1 hS1 => ?_)
  exact kk x u.1 u.2 H1 locs1 hp (g_post hle hW.2.1 ht hB rfl) hS1
end LWH
