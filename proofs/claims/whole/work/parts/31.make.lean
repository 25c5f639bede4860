/-! part 31: worlds that grow -/
/-- references, arrays and plain fields, by their lists -/
def FS (L : List (Nat × Nat)) (q : Nat → Nat) (m : Nat → Value) : Prop := ∀ e ∈ L, m e.1 = .ref (q e.2)
def AS (L : List (Nat × vp_A)) (a : Nat → vp_A) : Prop := ∀ e ∈ L, a e.1 = e.2
def VS (L : List (Nat × Value)) (m : Nat → Value) : Prop := ∀ e ∈ L, m e.1 = e.2
def nwL : List Cond := [.methodLinkNest RX11 15 yX6_init RX11, .methodLinkNest RX11 25 yX0_init RX11, .methodLinkNest RX11 32 yX8_init RX11, .methodLinkNest RX11 39 yX10_init RX11, .methodLinkNest RX11 46 yX9_init RX11, .methodLinkNest RX9 11 yX1_init RX11, .methodLinkNest RX1 22 yX0_init RX11, .methodLinkNest RX9 20 yX3_init RX11, .methodLinkNest RX9 27 yX4_init RX11, .methodLinkNest RX9 34 yX5_init RX11]
/-- nest mates' links -/
def NW (U : State) : Prop := ∀ w ∈ nwL, va_Nw w U
theorem NW.warm {s U : State} (h : NW s) (hW : s.WarmedH U.vm) : NW U := by
  intro w hw
  have h1 := h w hw
  simp only [nwL, List.mem_cons, List.not_mem_nil, or_false] at hw
  rcases hw with rfl | rfl | rfl | rfl | rfl | rfl | rfl | rfl | rfl | rfl <;> exact va_Nw.warmM hW h1
def gPn (D : va_G) (cy : Nat → ClassId) (N : Nat) (q : Nat → Nat) (m : Nat → Value) (a : Nat → vp_A) (sz : Nat) (av : List Value) : Array Value → State → Prop := va_Pc av (fun U => (U.heap.size = sz ∧ GW D cy (fun _ => True) N q m a U U.heap) ∧ NW U)
theorem gPn.blind {D : va_G} {cy : Nat → ClassId} {N : Nat} {q : Nat → Nat} {m : Nat → Value} {a : Nat → vp_A} {sz : Nat} {av : List Value} : FrameBlind (gPn D cy N q m a sz av) := fun a U g mk h => by
  obtain ⟨q0, ⟨q1, qP, qK, qD⟩, q2⟩ := h
  exact ⟨q0, ⟨q1, qP, va_K.moved (u := U) (U := U.calling g mk a) (Vm.Alike.refl U.vm) qK, qD⟩, NW.warm (U := U.calling g mk a) q2 (State.WarmedH.refl U)⟩
theorem FS.keep {L : List (Nat × Nat)} {q q' : Nat → Nat} {m m' : Nat → Value} {B N : Nat} (h : FS L q m) (hq : ∀ k, k < N → q' k = q k) (hm : ∀ j, j < B → m' j = m j) (hL : L.all (fun e => Nat.blt e.1 B && Nat.blt e.2 N) = true) : FS L q' m' := fun e he => by
  have h1 := List.all_eq_true.mp hL e he
  rw [Bool.and_eq_true] at h1
  rw [hm _ (Nat.blt_eq.mp h1.1), hq _ (Nat.blt_eq.mp h1.2)]
  exact h e he
theorem FS.put {L : List (Nat × Nat)} {q : Nat → Nat} {m m' : Nat → Value} {k : Nat} (h : FS L q m) (ho : ∀ j, Nat.beq j k = false → m' j = m j) (hL : L.all (fun e => !(Nat.beq e.1 k)) = true) : FS L q m' := fun e he => by
  have h1 := List.all_eq_true.mp hL e he
  rw [ho _ (by cases hx : Nat.beq e.1 k with | false => rfl | true => rw [hx] at h1; cases h1)]
  exact h e he
theorem FS.cons {L : List (Nat × Nat)} {q : Nat → Nat} {m : Nat → Value} {k t : Nat} (h : FS L q m) (h1 : m k = .ref (q t)) : FS ((k, t) :: L) q m := fun e he => by
  rcases List.mem_cons.mp he with rfl | he
  · exact h1
  · exact h e he
theorem FS.app {L1 L2 : List (Nat × Nat)} {q : Nat → Nat} {m : Nat → Value} (h1 : FS L1 q m) (h2 : FS L2 q m) : FS (L1 ++ L2) q m := fun e he => (List.mem_append.mp he).elim (h1 e) (h2 e)
theorem FS.nil {q : Nat → Nat} {m : Nat → Value} : FS [] q m := fun _ h => by cases h
theorem VS.keep {L : List (Nat × Value)} {m m' : Nat → Value} {B : Nat} (h : VS L m) (hm : ∀ j, j < B → m' j = m j) (hL : L.all (fun e => Nat.blt e.1 B) = true) : VS L m' := fun e he => by
  have h1 := List.all_eq_true.mp hL e he
  rw [hm _ (Nat.blt_eq.mp h1)]
  exact h e he
theorem VS.put {L : List (Nat × Value)} {m m' : Nat → Value} {k : Nat} (h : VS L m) (ho : ∀ j, Nat.beq j k = false → m' j = m j) (hL : L.all (fun e => !(Nat.beq e.1 k)) = true) : VS L m' := fun e he => by
  have h1 := List.all_eq_true.mp hL e he
  rw [ho _ (by cases hx : Nat.beq e.1 k with | false => rfl | true => rw [hx] at h1; cases h1)]
  exact h e he
theorem VS.cons {L : List (Nat × Value)} {m : Nat → Value} {k : Nat} {v : Value} (h : VS L m) (h1 : m k = v) : VS ((k, v) :: L) m := fun e he => by
  rcases List.mem_cons.mp he with rfl | he
  · exact h1
  · exact h e he
theorem VS.app {L1 L2 : List (Nat × Value)} {m : Nat → Value} (h1 : VS L1 m) (h2 : VS L2 m) : VS (L1 ++ L2) m := fun e he => (List.mem_append.mp he).elim (h1 e) (h2 e)
theorem VS.nil {m : Nat → Value} : VS [] m := fun _ h => by cases h
theorem AS.keep {L : List (Nat × vp_A)} {a a' : Nat → vp_A} {N : Nat} (h : AS L a) (hm : ∀ j, j < N → a' j = a j) (hL : L.all (fun e => Nat.blt e.1 N) = true) : AS L a' := fun e he => by
  have h1 := List.all_eq_true.mp hL e he
  rw [hm _ (Nat.blt_eq.mp h1)]
  exact h e he
theorem AS.cons {L : List (Nat × vp_A)} {a : Nat → vp_A} {k : Nat} {v : vp_A} (h : AS L a) (h1 : a k = v) : AS ((k, v) :: L) a := fun e he => by
  rcases List.mem_cons.mp he with rfl | he
  · exact h1
  · exact h e he
theorem AS.app {L1 L2 : List (Nat × vp_A)} {a : Nat → vp_A} (h1 : AS L1 a) (h2 : AS L2 a) : AS (L1 ++ L2) a := fun e he => (List.mem_append.mp he).elim (h1 e) (h2 e)
theorem AS.nil {a : Nat → vp_A} : AS [] a := fun _ h => by cases h
/-- what a constructor with the object at slot o, called at N slots, leaves -/
def MK (o N : Nat) (q : Nat → Nat) (m : Nat → Value) (a : Nat → vp_A) (Lr : List (Nat × Nat)) (La : List (Nat × vp_A)) (Lv : List (Nat × Value)) : (Nat → Nat) → (Nat → Value) → (Nat → vp_A) → Prop := fun q' m' a' => (∀ k, k < N → q' k = q k) ∧ (∀ j, j < 100 * o → m' j = m j) ∧ (∀ j, j < N → a' j = a j) ∧ FS Lr q' m' ∧ AS La a' ∧ VS Lv m'
def zI (n : Nat) : vp_A := (n, .inl fun _ => 0)
def zJ (n : Nat) : vp_A := (n, .inr (.inl fun _ => 0))
def zD (n : Nat) : vp_A := (n, .inr (.inr (.inr (.inl fun _ => 0))))
theorem kepq {N N2 : Nat} {q0 q q' : Nat → Nat} (h : ∀ k, k < N → q k = q0 k) (h1 : ∀ k, k < N2 → q' k = q k) (hn : N ≤ N2) : ∀ k, k < N → q' k = q0 k := fun k hk => (h1 k (Nat.lt_of_lt_of_le hk hn)).trans (h k hk)
theorem kepm {B : Nat} {m0 m m' : Nat → Value} {k : Nat} (h : ∀ j, j < B → m j = m0 j) (ho : ∀ j, Nat.beq j k = false → m' j = m j) (hk : B ≤ k) : ∀ j, j < B → m' j = m0 j := fun j hj => (ho j (by cases hx : Nat.beq j k with | false => rfl | true => have := Nat.eq_of_beq_eq_true hx; omega)).trans (h j hj)
theorem kept {α : Type} {B B2 : Nat} {m0 m m' : Nat → α} (h : ∀ j, j < B → m j = m0 j) (ho : ∀ j, j < B2 → m' j = m j) (hk : B ≤ B2) : ∀ j, j < B → m' j = m0 j := fun j hj => (ho j (Nat.lt_of_lt_of_le hj hk)).trans (h j hj)
def gBg (D : va_G) (cy : Nat → ClassId) (N : Nat) (q : Nat → Nat) (sz N' : Nat) : (Nat → Nat) × (Nat → Value) × (Nat → vp_A) → State → Prop := fun u t => GW D cy (gA N q sz) N' u.1 u.2.1 u.2.2 t t.heap
/-- a constructor's contract: from N slots to N' -/
def gMg (l : Launch) (y : MethodName) (b : ByteArray) (n : Nat) (rm : Room) (D : va_G) (cy : Nat → ClassId) (N N' : Nat) (q : Nat → Nat) (m : Nat → Value) (a : Nat → vp_A) (sz : Nat) (av : List Value) (mc ms : Nat) (post : (Nat → Nat) → (Nat → Value) → (Nat → vp_A) → Prop) : Prop := Met l y (Cond.code y b n none :: GG) rm (gPn D cy N q m a sz av) (va_Qv (fun u => post u.1 u.2.1 u.2.2) (gBg D cy N q sz N') (gA N q sz)) mc ms (gA N q sz)
theorem gw_push {cy : Nat → ClassId} {N : Nat} {q q' : Nat → Nat} {m m' : Nat → Value} {a a' : Nat → vp_A} {e : va_E} (hq : ∀ k, k < N → q' k = q k) (hc : ∀ k, k < N → gcont cy m' a' k = gcont cy m a k) (he : gcont cy m' a' N = e) : gw cy N q m a ++ [(q' N, e)] = gw cy (N + 1) q' m' a' := by
  unfold gw
  rw [List.range_succ, List.map_append, List.map_singleton, he]
  congr 1
  exact List.map_congr_left fun k hk => by rw [hq k (List.mem_range.mp hk), hc k (List.mem_range.mp hk)]
section GN
variable {p : Program} {l : Launch} {e : Env} {R : Room} {s : State} {M : MethodId} {args : Array Value} {below : List Frame} {meth : Method} {c : Code} {H : Heap} {locs : List Loc} {cells slots : Nat} {Q : State → Prop}
variable {cc : ByteArray} {pc : Nat} {ls : Array Slot} {rest st0 : List Value} {D : va_G} {cy : Nat → ClassId} {A : Nat → Prop} {N : Nat} {q : Nat → Nat} {m : Nat → Value} {a : Nat → vp_A}
theorem g_new (hx : p.tables.exec = Jvm.exec) (hb : c.code = cc) {own C : String} {T : u_T} {n ci index : Nat} (hG : ∀ w ∈ GG, w.before args s = true) (hin : ∀ w ∈ u_ws C T n, w ∈ GG) (ty0 : Nat → FieldType) (hty : ∀ k, k < n → parseFieldDescriptor (T k).2.2.1 = some (ty0 k)) (hown : s.vm.findClass own = some M.cls) (hcl : Cond.classLink own index C ∈ GG) (hinst : Cond.instantiable C n ∈ GG) (hini : Cond.initialized C ∈ GG) (hW : GW D cy A N q m a s H) (hS : va_S A s.heap H locs) (hA : ∀ x, s.heap.size ≤ x → A x) (hk : gk N = ci) (hc : vwCl[ci]? = some (C, T, n)) (hci : ci < 13) (hn : gnf ci = n) {fs : List Value} (hfl : fs.length = n) (hfs : ∀ j, j < n → defaultValue (ty0 j) = vp_V fs j) (hcells : cells + 1 ≤ R.cells) (hslots : slots + n ≤ R.slots) (hdg : decode cc pc = .ok (.new index, 3))
    (kk : ∀ (q' : Nat → Nat) (m' : Nat → Value) (H1 : Heap), (∀ k, k < N → q' k = q k) → (∀ j, j < 100 * N → m' j = m j) → (∀ j, j < n → m' (100 * N + j) = vp_V fs j) → GW D cy A (N + 1) q' m' a s H1 → va_S A s.heap H1 locs → W p l e R s M args below meth c H1 locs (cells + 1) (slots + n) Q (F0 M (pc + 3) ls (.ref (q' N) :: rest))) : W p l e R s M args below meth c H locs cells slots Q (F0 M pc ls rest) := by
  obtain ⟨hP, hK, hD⟩ := hW
  have h100 : n < 100 := by rw [← hn]; exact gnf_lt ci
  refine va_new (fs := fs) hx hb hG hin ty0 hty hown (hG _ hcl) (hG _ hinst) (hG _ hini) hK hP hD hS hA hc hfs hcells hslots hdg (fun x H1 hP1 hD1 hS1 => ?_)
  have hq : ∀ k, k < N → va_up q N x k = q k := fun k hk2 => va_up_ne _ _ (by omega)
  obtain ⟨m', hm'⟩ : ∃ m' : Nat → Value, m' = fun j => if 100 * N ≤ j then vp_V fs (j - 100 * N) else m j := ⟨_, rfl⟩
  have hm1 : ∀ j, j < 100 * N → m' j = m j := fun j hj => by rw [hm']; exact if_neg (by omega)
  have hm2 : ∀ j, m' (100 * N + j) = vp_V fs j := fun j => by rw [hm']; show (if _ then _ else _) = _; rw [if_pos (by omega), Nat.add_sub_cancel_left]
  have hpush : gw cy N q m a ++ [(x, .inr (ci, fs))] = gw cy (N + 1) (va_up q N x) m' a := by
    have := gw_push (cy := cy) (N := N) (q := q) (q' := va_up q N x) (m := m) (m' := m') (a := a) (a' := a) (e := .inr (ci, fs)) hq (fun k hk2 => ?_) ?_
    · rw [va_up_self] at this; exact this
    · unfold gcont
      by_cases h13 : gk k < 13
      · rw [if_pos h13, if_pos h13]
        congr 2
        refine List.map_congr_left fun i hi => hm1 _ ?_
        have := gnf_lt (gk k)
        have := List.mem_range.mp hi
        omega
      · rw [if_neg h13, if_neg h13]
    · rw [gcont_o hk hci hn]
      congr 2
      apply List.ext_getElem?
      intro i
      by_cases hi : i < n
      · simp [hi, hm2, vp_V, hfl]
      · rw [List.getElem?_eq_none (by simp; omega), List.getElem?_eq_none (by omega)]
  rw [hpush] at hP1 hD1
  have hx2 : (va_up q N x) N = x := va_up_self _ _ _
  have := kk (va_up q N x) m' H1 hq hm1 (fun j _ => hm2 j) ⟨hP1, hK, hD1⟩ hS1
  rw [hx2] at this
  exact this
theorem g_newa (hx : p.tables.exec = Jvm.exec) (hb : c.code = cc) {atype : ArrayType} {ty : FieldType} (hty : newarray.typeOf atype = ty) (hG : ∀ w ∈ GG, w.before args s = true) (harr : Cond.arrayClass ty ∈ GG) (hW : GW D cy A N q m a s H) (hS : va_S A s.heap H locs) (hA : ∀ x, s.heap.size ≤ x → A x) {t : Nat} (hk : gk N = 13 + t) (ht : (gtys cy)[t]? = some (cy (13 + t), ty)) (hob : ∀ U : State, ∀ c1 : ClassId, va_RA U c1 ty = (U.vm.findClass ("[" ++ ty.toString) = some c1)) {n : Int32} {N' : Nat} {a0 : vp_A} (ha : ∀ cA : ClassId, vp_cell cA a0 = arrV cA N' (fun _ => defaultValue ty)) (hn : ¬ n < 0) (hN : n.toNatClampNeg = N') (hbytes : N' * componentBytes ty ≤ 536870912) (hcells : cells + 1 ≤ R.cells) (hslots : slots + N' ≤ R.slots) (hdg : decode cc pc = .ok (.newarray atype, 2))
    (kk : ∀ (q' : Nat → Nat) (a' : Nat → vp_A) (H1 : Heap), (∀ k, k < N → q' k = q k) → (∀ j, j < N → a' j = a j) → a' N = a0 → GW D cy A (N + 1) q' m a' s H1 → va_S A s.heap H1 locs → W p l e R s M args below meth c H1 locs (cells + 1) (slots + N') Q (F0 M (pc + 2) ls (.ref (q' N) :: rest))) : W p l e R s M args below meth c H locs cells slots Q (F0 M pc ls (.int n :: rest)) := by
  obtain ⟨hP, hK, hD⟩ := hW
  refine va_newa hx hb (ty := ty) (by rw [hty]; exact hG _ harr) hty hK hP hD hS hA ha hn hN hbytes hcells hslots hdg (fun x cA H1 hK1 hP1 hD1 hS1 => ?_)
  have hcA : cA = cy (13 + t) := by
    have h1 := (hK1.2 (gtys cy).length (cA, ty) (by simp)).2
    have h2 := (hK.2 t _ ht).2
    rw [hob] at h1 h2
    exact Option.some.inj (h1.symm.trans h2)
  subst hcA
  have hq : ∀ k, k < N → va_up q N x k = q k := fun k hk2 => va_up_ne _ _ (by omega)
  have hpush : gw cy N q m a ++ [(x, .inl (cy (13 + t), a0))] = gw cy (N + 1) (va_up q N x) m (va_up a N a0) := by
    have := gw_push (cy := cy) (N := N) (q := q) (q' := va_up q N x) (m := m) (m' := m) (a := a) (a' := va_up a N a0) (e := .inl (cy (13 + t), a0)) hq (fun k hk2 => gcont_arr a0 k (by omega)) (by rw [gcont_r hk (by omega), va_up_self])
    rw [va_up_self] at this; exact this
  rw [hpush] at hP1 hD1
  have hx2 : (va_up q N x) N = x := va_up_self _ _ _
  have := kk (va_up q N x) (va_up a N a0) H1 hq (fun j hj => va_up_ne _ _ (by omega)) (va_up_self _ _ _) ⟨hP1, hK, hD1⟩ hS1
  rw [hx2] at this
  exact this
theorem gA_A (hW : GW D cy A N q m a s H) (hS : va_S A s.heap H locs) (hA : ∀ x, s.heap.size ≤ x → A x) (x : Nat) (h : gA N q H.size x) : A x := by
  rcases h with ⟨k, hk, rfl⟩ | h
  · have hD := hW.2.2
    have := hD.2 k (q k, gcont cy m a k) (gw_at hk)
    exact this
  · exact hA x (Nat.le_trans hS.1 h)
variable {own : String} {o index n nb nL mc ms : Nat} {y : MethodName} {b : ByteArray} {rm : Room} {As : List Value} {lv : List (Nat × Value)} {N' : Nat}
/-- the call of a constructor that may make cells -/
theorem g_In {post : (Nat → Nat) → (Nat → Value) → (Nat → vp_A) → Prop} (hx : p.tables.exec = Jvm.exec) (hb : c.code = cc) (hml : c.maxLocals = nL) (hown : s.vm.findClass own = some M.cls) (hG : ∀ w ∈ GG, w.before args s = true) (hW : GW D cy A N q m a s H) (hS : va_S A s.heap H locs) (hA : ∀ x, s.heap.size ≤ x → A x) (hNW : NW s) (As : List Value)
    (hM : gMg l y b nb rm D cy N N' q m a H.size (.ref (q o) :: As) mc ms post) (hst : st0 = As.reverse ++ .ref (q o) :: rest) (hl1 : Cond.methodLink own index y ∈ GG) (hl2 : Cond.instanceMethod y ∈ GG) (hl3 : Cond.initialized y.cls ∈ GG) (hl4 : Cond.code y b nb none ∈ GG) (hrc : rm.cells = mc) (hrs : rm.slots = ms)
    (hd : y.name = "<init>" ∧ y.cls ≠ "java/lang/invoke/MethodHandle" ∧ y.cls ≠ "java/lang/invoke/VarHandle" ∧ (parseMethodDescriptor y.desc).map (fun d => d.parameters.length) = some n) (hR : rm.frames + 1 ≤ R.frames ∧ 8 + (nb + 11) + rm.locals ≤ R.locals) (hn : As.length = n) (hl : lv_has ls nL lv) (hr8 : (rest.map fun v => v.category).sum ≤ 8) (hf : cells + mc ≤ R.cells ∧ slots + ms ≤ R.slots) (hdg : decode cc pc = .ok (.invokespecial index, 3))
    (kk : ∀ (q' : Nat → Nat) (m' : Nat → Value) (a' : Nat → vp_A) (H1 : Heap) (locs1 : List Loc), post q' m' a' → GW D cy A N' q' m' a' s H1 → va_S A s.heap H1 locs1 → W p l e R s M args below meth c H1 locs1 (cells + mc) (slots + ms) Q (F0 M (pc + 3) ls rest)) : W p l e R s M args below meth c H locs cells slots Q (F0 M pc ls st0) := by
  have hle := hS.1
  have hAA : ∀ x, gA N q H.size x → A x := gA_A hW hS hA
  have hgood : GoodIn GG (Cond.code y b nb none :: GG) := goodIn_sub (fun w h => by
    rcases List.mem_cons.mp h with rfl | h
    · exact hl4
    · exact h) (List.all_eq_true.mpr fun w h => List.all_eq_true.mp GG_good w (by
    rcases List.mem_cons.mp h with rfl | h
    · exact hl4
    · exact h))
  refine va_callv (va_runI (As := As) (rest := rest) ⟨hx, hb, hml, hown, hG⟩ hM (cwI n hG hgood rfl hrc hrs (hG _ hl3) (hG _ hl1) (hG _ hl2) hd.1 hd.2 hR) ⟨gPn.blind, fun U hU hw => ?_⟩ rfl hn hl.1 hst (lv_room hr8) hdg hf) hS (fun z _ h => hAA z h) (fun z h => hAA z h) (fun u t H1 locs1 ht hvm hp hB hz hk1 hS1 => ?_)
  · obtain ⟨hP, hK, hD⟩ := hW
    exact ⟨rfl, ⟨by rw [hU], by rw [hU]; exact hP, va_K.moved hw.alike hK, hD.weaken (fun _ _ _ _ => trivial)⟩, hNW.warm hw⟩
  · obtain ⟨hP, hK, hD⟩ := hB
    refine kk u.1 u.2.1 u.2.2 H1 locs1 hp ⟨by rw [← ht]; exact hP, hW.2.1, hD.weaken (fun _ _ _ h => hAA _ h)⟩ hS1
/-- the call of a constructor that may make cells -/
theorem g_InN {post : (Nat → Nat) → (Nat → Value) → (Nat → vp_A) → Prop} (hx : p.tables.exec = Jvm.exec) (hb : c.code = cc) (hml : c.maxLocals = nL) (hown : s.vm.findClass own = some M.cls) (hG : ∀ w ∈ GG, w.before args s = true) (hW : GW D cy A N q m a s H) (hS : va_S A s.heap H locs) (hA : ∀ x, s.heap.size ≤ x → A x) (hNW : NW s) (As : List Value)
    (hM : gMg l y b nb rm D cy N N' q m a H.size (.ref (q o) :: As) mc ms post) (hst : st0 = As.reverse ++ .ref (q o) :: rest) {host : String} (hl1 : Cond.methodLinkNest own index y host ∈ nwL) (hl2 : Cond.instanceMethod y ∈ GG) (hl3 : Cond.initialized y.cls ∈ GG) (hl4 : Cond.code y b nb none ∈ GG) (hrc : rm.cells = mc) (hrs : rm.slots = ms)
    (hd : y.name = "<init>" ∧ y.cls ≠ "java/lang/invoke/MethodHandle" ∧ y.cls ≠ "java/lang/invoke/VarHandle" ∧ (parseMethodDescriptor y.desc).map (fun d => d.parameters.length) = some n) (hR : rm.frames + 1 ≤ R.frames ∧ 8 + (nb + 11) + rm.locals ≤ R.locals) (hn : As.length = n) (hl : lv_has ls nL lv) (hr8 : (rest.map fun v => v.category).sum ≤ 8) (hf : cells + mc ≤ R.cells ∧ slots + ms ≤ R.slots) (hdg : decode cc pc = .ok (.invokespecial index, 3))
    (kk : ∀ (q' : Nat → Nat) (m' : Nat → Value) (a' : Nat → vp_A) (H1 : Heap) (locs1 : List Loc), post q' m' a' → GW D cy A N' q' m' a' s H1 → va_S A s.heap H1 locs1 → W p l e R s M args below meth c H1 locs1 (cells + mc) (slots + ms) Q (F0 M (pc + 3) ls rest)) : W p l e R s M args below meth c H locs cells slots Q (F0 M pc ls st0) := by
  have hle := hS.1
  have hAA : ∀ x, gA N q H.size x → A x := gA_A hW hS hA
  have hgood : GoodIn GG (Cond.code y b nb none :: GG) := goodIn_sub (fun w h => by
    rcases List.mem_cons.mp h with rfl | h
    · exact hl4
    · exact h) (List.all_eq_true.mpr fun w h => List.all_eq_true.mp GG_good w (by
    rcases List.mem_cons.mp h with rfl | h
    · exact hl4
    · exact h))
  refine va_callv (va_runIN (As := As) (rest := rest) ⟨hx, hb, hml, hown, hG⟩ hM ⟨va_cnB n hG hgood rfl hrc hrs (hNW _ hl1) (hG _ hl3) hd.2 hR, hd.1, hG _ hl2⟩ ⟨gPn.blind, fun U hU hw => ?_⟩ rfl hn hl.1 hst (lv_room hr8) hdg hf) hS (fun z _ h => hAA z h) (fun z h => hAA z h) (fun u t H1 locs1 ht hvm hp hB hz hk1 hS1 => ?_)
  · obtain ⟨hP, hK, hD⟩ := hW
    exact ⟨rfl, ⟨by rw [hU], by rw [hU]; exact hP, va_K.moved hw.alike hK, hD.weaken (fun _ _ _ _ => trivial)⟩, hNW.warm hw⟩
  · obtain ⟨hP, hK, hD⟩ := hB
    refine kk u.1 u.2.1 u.2.2 H1 locs1 hp ⟨by rw [← ht]; exact hP, hW.2.1, hD.weaken (fun _ _ _ h => hAA _ h)⟩ hS1
theorem g_SlA {x0 : Int64} {r : Option FieldType} (hx : p.tables.exec = Jvm.exec) (hb : c.code = cc) (hml : c.maxLocals = nL) (hown : s.vm.findClass own = some M.cls) (hG : ∀ w ∈ GG, w.before args s = true) (hW : GW D cy A N q m a s H) (hS : va_S A s.heap H locs) (hA : ∀ x, s.heap.size ≤ x → A x) (As : List Value)
    (hM : gMl l y b nb r rm D cy N q m a H.size As (fun r m' a' => r = x0 ∧ m' = m ∧ a' = a)) (hst : st0 = As.reverse ++ rest) (hg : GoodIn GG (va_wsS own index y (Cond.code y b nb r :: GG))) (hrc : rm.cells = 0) (hrs : rm.slots = 0)
    (hd : y.cls ≠ "java/lang/invoke/MethodHandle" ∧ y.cls ≠ "java/lang/invoke/VarHandle" ∧ (parseMethodDescriptor y.desc).map (fun d => d.parameters.length) = some n) (hR : rm.frames + 1 ≤ R.frames ∧ 8 + (nb + 11) + rm.locals ≤ R.locals) (hn : As.length = n) (hl : lv_has ls nL lv) (hr8 : (rest.map fun v => v.category).sum ≤ 8) (hf : cells ≤ R.cells ∧ slots ≤ R.slots) (hdg : decode cc pc = .ok (.invokestatic index, 3))
    (kk : ∀ (H1 : Heap) (locs1 : List Loc), GW D cy A N q m a s H1 → va_S A s.heap H1 locs1 → W p l e R s M args below meth c H1 locs1 cells slots Q (F0 M (pc + 3) ls (.long x0 :: rest))) : W p l e R s M args below meth c H locs cells slots Q (F0 M pc ls st0) := by
  have hAA : ∀ x, gA N q H.size x → A x := gA_A hW hS hA
  refine va_calll (va_runS (As := As) (rest := rest) ⟨hx, hb, hml, hown, hG⟩ hM (va_cwS n hG hg rfl hrc hrs hd hR) ⟨GW.blind, fun U hU hw => ?_⟩ rfl hn hl.1 hst (lv_room hr8) hdg hf) hS (fun z _ h => hAA z h) (fun z h => hAA z h) (fun x u t H1 locs1 ht hvm hp hB hz hk1 hS1 => ?_)
  · obtain ⟨hP, hK, hD⟩ := hW
    exact ⟨rfl, by rw [hU], by rw [hU]; exact hP, va_K.moved hw.alike hK, hD.weaken (fun _ _ _ _ => trivial)⟩
  · obtain ⟨hP, hK, hD⟩ := hB
    obtain ⟨h1, h2, h3⟩ := hp
    subst h1
    rw [h2, h3] at hP hD
    exact kk H1 locs1 ⟨by rw [← ht]; exact hP, hW.2.1, hD.weaken (fun _ _ _ h => hAA _ h)⟩ hS1
theorem g_VlA {x0 : Int64} {r : Option FieldType} {C : String} {T : u_T} {n0 ci : Nat} (hx : p.tables.exec = Jvm.exec) (hb : c.code = cc) (hml : c.maxLocals = nL) (hown : s.vm.findClass own = some M.cls) (hG : ∀ w ∈ GG, w.before args s = true) (hW : GW D cy A N q m a s H) (hS : va_S A s.heap H locs) (hA : ∀ x, s.heap.size ≤ x → A x) (As : List Value)
    (hM : gMl l y b nb r rm D cy N q m a H.size (.ref (q o) :: As) (fun r m' a' => r = x0 ∧ m' = m ∧ a' = a)) (ho : o < N) (hk : gk o = ci) (hci : ci < 13) (hc : vwCl[ci]? = some (C, T, n0)) (hst : st0 = As.reverse ++ .ref (q o) :: rest) (hg : GoodIn GG (wsV own index C y (Cond.code y b nb r :: GG))) (hrc : rm.cells = 0) (hrs : rm.slots = 0)
    (hd : y.cls = C ∧ y.cls ≠ "java/lang/invoke/MethodHandle" ∧ y.cls ≠ "java/lang/invoke/VarHandle" ∧ (parseMethodDescriptor y.desc).map (fun d => d.parameters.length) = some n) (hR : rm.frames + 1 ≤ R.frames ∧ 8 + (nb + 11) + rm.locals ≤ R.locals) (hn : As.length = n) (hl : lv_has ls nL lv) (hr8 : (rest.map fun v => v.category).sum ≤ 8) (hf : cells ≤ R.cells ∧ slots ≤ R.slots) (hdg : decode cc pc = .ok (.invokevirtual index, 3))
    (kk : ∀ (H1 : Heap) (locs1 : List Loc), GW D cy A N q m a s H1 → va_S A s.heap H1 locs1 → W p l e R s M args below meth c H1 locs1 cells slots Q (F0 M (pc + 3) ls (.long x0 :: rest))) : W p l e R s M args below meth c H locs cells slots Q (F0 M pc ls st0) := by
  have hAA : ∀ x, gA N q H.size x → A x := gA_A hW hS hA
  have hrv : ∃ cellB : Cell, H[q o]? = some cellB ∧ cellB.vm.isStatics = false ∧ s.vm.findClass C = some cellB.cls := by
    obtain ⟨hP, hK, hD⟩ := hW
    have he : (gw cy N q m a)[o]? = some (q o, .inr (ci, (List.range (gnf ci)).map (fun j => m (100 * o + j)))) := by rw [gw_at ho, gcont_o hk hci rfl]
    exact va_recv hK hP hc he
  refine va_calll (va_runV (As := As) (rest := rest) ⟨hx, hb, hml, hown, hG⟩ hM (cwV n hG hg rfl hrc hrs hd hR) ⟨GW.blind, hrv, fun U hU hw => ?_⟩ rfl hn hl.1 hst (lv_room hr8) hdg hf) hS (fun z _ h => hAA z h) (fun z h => hAA z h) (fun x u t H1 locs1 ht hvm hp hB hz hk1 hS1 => ?_)
  · obtain ⟨hP, hK, hD⟩ := hW
    exact ⟨rfl, by rw [hU], by rw [hU]; exact hP, va_K.moved hw.alike hK, hD.weaken (fun _ _ _ _ => trivial)⟩
  · obtain ⟨hP, hK, hD⟩ := hB
    obtain ⟨h1, h2, h3⟩ := hp
    subst h1
    rw [h2, h3] at hP hD
    exact kk H1 locs1 ⟨by rw [← ht]; exact hP, hW.2.1, hD.weaken (fun _ _ _ h => hAA _ h)⟩ hS1
end GN
/-- a constructor's start -/
theorem g_ofg {l : Launch} {y : MethodName} {b : ByteArray} {n : Nat} {rm : Room} {D : va_G} {cy : Nat → ClassId} {N N' : Nat} {q : Nat → Nat} {m : Nat → Value} {a : Nat → vp_A} {sz : Nat} {av : List Value} {mc ms : Nat} {post : (Nat → Nat) → (Nat → Value) → (Nat → vp_A) → Prop} (hy : plainName y.cls = true) (hlen : (lg_sl av).length ≤ n)
    (body : ∀ (p : Program) (e : Env) (s : State) (M : MethodId) (args : Array Value) (below : List Frame) (meth : Method) (c : Code) (A : Nat → Prop), p.tables.exec = Jvm.exec → c.code = b → meth.sig.returnType = none → (∀ w ∈ GG, w.before args s = true) → s.vm.findClass y.cls = some M.cls → meth.name = y.name → meth.locks = false → c.maxLocals = n → (∀ x, s.heap.size ≤ x → A x) → NW s → GW D cy A N q m a s s.heap → va_S A s.heap s.heap [] → (∀ (q' : Nat → Nat) (m' : Nat → Value) (a' : Nat → vp_A) (H : Heap) (locs : List Loc) (pc : Nat) (ls : Array Slot), GW D cy A N' q' m' a' s H → va_S A s.heap H locs → post q' m' a' → decode b pc = .ok (.return_, 1) → W p l e rm s M args below meth c H locs mc ms (MQ below (va_Qv (fun u => post u.1 u.2.1 u.2.2) (gBg D cy N q s.heap.size N') (gA N q s.heap.size)) args s mc ms (gA N q s.heap.size)) (F0 M pc ls [])) → ∀ ls, lv_has ls n (lv_args 0 av) → W p l e rm s M args below meth c s.heap [] 0 0 (MQ below (va_Qv (fun u => post u.1 u.2.1 u.2.2) (gBg D cy N q s.heap.size N') (gA N q s.heap.size)) args s mc ms (gA N q s.heap.size)) (F0 M 0 ls [])) : gMg l y b n rm D cy N N' q m a sz av mc ms post := by
  refine Met.ofW (cc := b) (maxL := n) (ret := none) hy rfl ?_
  intro p e s M args below meth c s₁ B hml hv
  obtain ⟨rfl, ⟨hsz, hP, hK, hD⟩, hNW⟩ := hv
  subst hsz
  have hts := atoms_spec (ws := Cond.code y b n none :: GG) B.pre
  have hD' : va_D (gA N q s.heap.size) (gw cy N q m a) := ⟨hD.1, fun k z hk => Or.inl ⟨k, by
    have := (List.getElem?_eq_some_iff.mp hk).1
    rw [gw_len] at this
    exact this, by
    have h1 := (List.getElem?_eq_some_iff.mp hk).1
    rw [gw_len] at h1
    rw [gw_at h1] at hk
    cases hk
    rfl⟩⟩
  rw [lg_entry_eq]
  refine body p e s M _ below meth c (gA N q s.heap.size) B.exec B.bytes B.returns (fun w hw => hts w (List.mem_cons_of_mem _ hw)) (findClass_of_methodNamed B.named) (name_of_methodNamed B.named B.method).1 B.notSynchronized hml (fun x hx => Or.inr hx) hNW ⟨hP, hK, hD'⟩ va_S.rf (fun q' m' a' H locs pc ls hW hS hp hdg => ?_) _ (lv_entry av hlen)
  obtain ⟨hP2, hK2, hD2⟩ := hW
  exact W.vret B.exec B.bytes B.returns (fun t ht hw => ⟨⟨(q', m', a'), rfl, hp, by show va_P _ _ _ t.heap; rw [ht]; exact hP2, va_K.moved hw.alike hK2, hD2⟩, hS.F ht⟩) hS.2.2 hdg B.notSynchronized
