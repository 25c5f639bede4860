/-! part 02: ONE world for all objects of both sides: slots 0 .. N-1 at addresses q; fields are kept by 100 * slot + place, arrays by slot -/
/-- the kinds of the slots, in the order in which they are made; from 105 on Rules -/
def gkT : List Nat := [11, 14, 6, 2, 14, 6, 2, 14, 0, 2, 14, 8, 2, 14, 2, 14, 2, 14, 2, 14, 2, 14, 2, 14, 10, 2, 14, 9, 1, 2, 14, 0, 2, 14, 2, 14, 2, 14, 15, 3, 13, 13, 4, 2, 14, 2, 14, 2, 14, 2, 14, 2, 14, 2, 14, 5, 2, 14, 2, 14, 2, 14, 2, 14, 2, 14, 2, 14, 7, 12, 14, 14, 14, 14, 14, 14, 14, 14, 14, 15, 14, 14, 14, 14, 14, 14, 14, 14, 14, 14, 14, 16, 14, 14, 14, 14, 14, 14, 13, 13, 14, 14, 14, 14, 15]
def gk (k : Nat) : Nat := gkT.getD k 7
def gnf (ci : Nat) : Nat := [3, 7, 1, 2, 8, 5, 3, 4, 9, 11, 5, 15, 67].getD ci 0
def gcont (cy : Nat → ClassId) (m : Nat → Value) (a : Nat → vp_A) (k : Nat) : va_E := if gk k < 13 then .inr (gk k, (List.range (gnf (gk k))).map (fun j => m (100 * k + j))) else .inl (cy (gk k), a k)
def gw (cy : Nat → ClassId) (N : Nat) (q : Nat → Nat) (m : Nat → Value) (a : Nat → vp_A) : va_W := (List.range N).map (fun k => (q k, gcont cy m a k))
def gtys (cy : Nat → ClassId) : List (ClassId × FieldType) := [(cy 13, .double), (cy 14, .int), (cy 15, .long), (cy 16, .boolean)]
def GW (D : va_G) (cy : Nat → ClassId) (A : Nat → Prop) (N : Nat) (q : Nat → Nat) (m : Nat → Value) (a : Nat → vp_A) (s : State) (H : Heap) : Prop := va_P D vwCl (gw cy N q m a) H ∧ va_K D vwCl (gtys cy) s ∧ va_D A (gw cy N q m a)
def gA (N : Nat) (q : Nat → Nat) (sz : Nat) : Nat → Prop := fun x => (∃ k, k < N ∧ x = q k) ∨ sz ≤ x
theorem gA_up {N : Nat} {q : Nat → Nat} {a b : Nat} (h : a ≤ b) (x : Nat) (hx : gA N q b x) : gA N q a x := hx.elim Or.inl (fun z => Or.inr (Nat.le_trans h z))
theorem gnf_lt (ci : Nat) : gnf ci < 100 := by
  unfold gnf
  by_cases h : ci < 13
  · have : ∀ i, i < 13 → [3, 7, 1, 2, 8, 5, 3, 4, 9, 11, 5, 15, 67].getD i 0 < 100 := by decide
    exact this ci h
  · rw [List.getD_eq_getElem?_getD, List.getElem?_eq_none (by simp; omega)]; decide
theorem gw_at {cy : Nat → ClassId} {N : Nat} {q : Nat → Nat} {m : Nat → Value} {a : Nat → vp_A} {k : Nat} (h : k < N) : (gw cy N q m a)[k]? = some (q k, gcont cy m a k) := by
  simp [gw, h]
theorem gw_len {cy : Nat → ClassId} {N : Nat} {q : Nat → Nat} {m : Nat → Value} {a : Nat → vp_A} : (gw cy N q m a).length = N := by simp [gw]
theorem gw_set {cy : Nat → ClassId} {N : Nat} {q : Nat → Nat} {m m' : Nat → Value} {a a' : Nat → vp_A} {k : Nat} {e : va_E} (he : gcont cy m' a' k = e) (ho : ∀ j, j ≠ k → gcont cy m' a' j = gcont cy m a j) : (gw cy N q m a).set k (q k, e) = gw cy N q m' a' := by
  apply List.ext_getElem?
  intro i
  by_cases hi : i < N
  · rw [gw_at hi]
    by_cases hk : k = i
    · subst hk
      rw [List.getElem?_set_self (by rw [gw_len]; exact hi), he]
    · rw [List.getElem?_set_ne hk, gw_at hi, ho i (Ne.symm hk)]
  · rw [List.getElem?_eq_none (by rw [List.length_set, gw_len]; omega), List.getElem?_eq_none (by rw [gw_len]; omega)]
theorem gcont_o {cy : Nat → ClassId} {m : Nat → Value} {a : Nat → vp_A} {o ci n : Nat} (hk : gk o = ci) (hci : ci < 13) (hn : gnf ci = n) : gcont cy m a o = .inr (ci, (List.range n).map (fun j => m (100 * o + j))) := by
  subst hk; subst hn; unfold gcont; rw [if_pos hci]
theorem gcont_r {cy : Nat → ClassId} {m : Nat → Value} {a : Nat → vp_A} {o ci : Nat} (hk : gk o = ci) (hci : ¬ ci < 13) : gcont cy m a o = .inl (cy ci, a o) := by
  subst hk; unfold gcont; rw [if_neg hci]
theorem gcont_put {cy : Nat → ClassId} {m : Nat → Value} {a : Nat → vp_A} {o k : Nat} (v : Value) (hk : k < 100) (j : Nat) (hj : j ≠ o) : gcont cy (va_up m (100 * o + k) v) a j = gcont cy m a j := by
  unfold gcont
  by_cases h : gk j < 13
  · rw [if_pos h, if_pos h]
    congr 2
    apply List.map_congr_left
    intro i hi
    have hi2 := List.mem_range.mp hi
    have := gnf_lt (gk j)
    exact va_up_ne _ _ (by omega)
  · rw [if_neg h, if_neg h]
theorem gcont_puto {m : Nat → Value} {o k n : Nat} (v : Value) : ((List.range n).map (fun j => m (100 * o + j))).set k v = (List.range n).map (fun j => va_up m (100 * o + k) v (100 * o + j)) := by
  apply List.ext_getElem?
  intro i
  by_cases hi : i < n
  · by_cases hk : k = i
    · subst hk
      rw [List.getElem?_set_self (by simpa using hi)]
      simp [hi, va_up]
    · rw [List.getElem?_set_ne hk]
      simp [hi, va_up]
      intro z; omega
  · rw [List.getElem?_eq_none (by simp; omega), List.getElem?_eq_none (by simp; omega)]
theorem gcont_arr {cy : Nat → ClassId} {m : Nat → Value} {a : Nat → vp_A} {o : Nat} (v : vp_A) (j : Nat) (hj : j ≠ o) : gcont cy m (va_up a o v) j = gcont cy m a j := by
  unfold gcont
  rw [va_up_ne _ _ hj]
section GWR
variable {p : Program} {l : Launch} {e : Env} {R : Room} {s : State} {M : MethodId} {args : Array Value} {below : List Frame} {meth : Method} {c : Code} {H : Heap} {locs : List Loc} {cells slots : Nat} {Q : State → Prop}
variable {cc : ByteArray} {pc : Nat} {ls : Array Slot} {rest : List Value} {D : va_G} {cy : Nat → ClassId} {A : Nat → Prop} {N : Nat} {q : Nat → Nat} {m : Nat → Value} {a : Nat → vp_A} {H0 : Heap}
theorem g_get (hx : p.tables.exec = Jvm.exec) (hb : c.code = cc) {own ref C : String} {T : u_T} {n ci index : Nat} (hG : ∀ w ∈ GG, w.before args s = true) (hin : ∀ w ∈ u_ws C T n, w ∈ GG) (hown : s.vm.findClass own = some M.cls) (hW : GW D cy A N q m a s H) {o : Nat} (ho : o < N) (hk : gk o = ci) (hc : vwCl[ci]? = some (C, T, n)) (hci : ci < 13) (hn : gnf ci = n) (k : Nat) (hkn : k < n) (hlink : (Cond.fieldLink own index ref (T k).2.1 (T k).2.2.1) ∈ GG) (hsame : (T k).1 = ref) {v : Value} (hv : m (100 * o + k) = v) (hdg : decode cc pc = .ok (.getfield index, 3))
    (kk : W p l e R s M args below meth c H locs cells slots Q (F0 M (pc + 3) ls (v :: rest))) : W p l e R s M args below meth c H locs cells slots Q (F0 M pc ls (.ref (q o) :: rest)) := by
  obtain ⟨hP, hK, hD⟩ := hW
  have he : (gw cy N q m a)[o]? = some (q o, .inr (ci, (List.range n).map (fun j => m (100 * o + j)))) := by rw [gw_at ho, gcont_o hk hci hn]
  exact va_get (D := D) hx hb hG hin hown hK hP o he hc k hkn (hG _ hlink) (fun x h => by rw [← hsame]; exact h) (by simp [hkn, hv]) hdg kk
theorem g_put (hx : p.tables.exec = Jvm.exec) (hb : c.code = cc) {own ref C : String} {T : u_T} {n ci index : Nat} (hG : ∀ w ∈ GG, w.before args s = true) (hin : ∀ w ∈ u_ws C T n, w ∈ GG) (ty0 : Nat → FieldType) (hty : ∀ k, k < n → parseFieldDescriptor (T k).2.2.1 = some (ty0 k)) (hnm : ∀ a, a < n → ∀ b, b < n → a ≠ b → (T a).2.1 ≠ (T b).2.1) (hown : s.vm.findClass own = some M.cls) (hW : GW D cy A N q m a s H) (hS : va_S A H0 H locs) {o : Nat} (ho : o < N) (hk : gk o = ci) (hc : vwCl[ci]? = some (C, T, n)) (hci : ci < 13) (hn : gnf ci = n) (k : Nat) (hkn : k < n) (hlink : (Cond.fieldLink own index ref (T k).2.1 (T k).2.2.1) ∈ GG) (hsame : (T k).1 = ref) (hfin : (T k).2.2.2 = false) {v : Value} (hnar : narrow (ty0 k) v = v) (hfit : fits (ty0 k) v = true) (hdg : decode cc pc = .ok (.putfield index, 3))
    (kk : ∀ (m' : Nat → Value) (H1 : Heap) (locs1 : List Loc), m' (100 * o + k) = v → (∀ j, Nat.beq j (100 * o + k) = false → m' j = m j) → GW D cy A N q m' a s H1 → va_S A H0 H1 locs1 → W p l e R s M args below meth c H1 locs1 cells slots Q (F0 M (pc + 3) ls rest)) : W p l e R s M args below meth c H locs cells slots Q (F0 M pc ls (v :: .ref (q o) :: rest)) := by
  obtain ⟨hP, hK, hD⟩ := hW
  have he : (gw cy N q m a)[o]? = some (q o, .inr (ci, (List.range n).map (fun j => m (100 * o + j)))) := by rw [gw_at ho, gcont_o hk hci hn]
  have h100 : n < 100 := by rw [← hn]; exact gnf_lt ci
  refine va_put (D := D) hx hb hG hin ty0 hty hnm hown hK hP hD hS o he hc k hkn (hG _ hlink) (fun x h => by rw [← hsame]; exact h) hfin (hty k hkn) hnar hfit (by simpa using hkn) hdg fun H1 locs1 hP1 hD1 hS1 => ?_
  have hset : (gw cy N q m a).set o (q o, .inr (ci, ((List.range n).map (fun j => m (100 * o + j))).set k v)) = gw cy N q (va_up m (100 * o + k) v) a := gw_set (by rw [gcont_o hk hci hn, gcont_puto]) (gcont_put v (by omega))
  rw [hset] at hP1 hD1
  exact kk _ H1 locs1 (va_up_self _ _ _) (fun j hj => va_up_ne _ _ (fun z => by rw [z] at hj; simp at hj)) ⟨hP1, hK, hD1⟩ hS1
theorem g_putF (hx : p.tables.exec = Jvm.exec) (hb : c.code = cc) {own ref C : String} {T : u_T} {n ci index : Nat} (hG : ∀ w ∈ GG, w.before args s = true) (hin : ∀ w ∈ u_ws C T n, w ∈ GG) (ty0 : Nat → FieldType) (hty : ∀ k, k < n → parseFieldDescriptor (T k).2.2.1 = some (ty0 k)) (hnm : ∀ a, a < n → ∀ b, b < n → a ≠ b → (T a).2.1 ≠ (T b).2.1) (hown : s.vm.findClass own = some M.cls) (hW : GW D cy A N q m a s H) (hS : va_S A H0 H locs) {o : Nat} (ho : o < N) (hk : gk o = ci) (hc : vwCl[ci]? = some (C, T, n)) (hci : ci < 13) (hn : gnf ci = n) (k : Nat) (hkn : k < n) (hlink : (Cond.fieldLink own index ref (T k).2.1 (T k).2.2.1) ∈ GG) (hsame : (T k).1 = ref) (hfin : (T k).2.2.2 = true) (hin2 : meth.name = "<init>") (hdecl : (T k).1 = own) {v : Value} (hnar : narrow (ty0 k) v = v) (hfit : fits (ty0 k) v = true) (hdg : decode cc pc = .ok (.putfield index, 3))
    (kk : ∀ (m' : Nat → Value) (H1 : Heap) (locs1 : List Loc), m' (100 * o + k) = v → (∀ j, Nat.beq j (100 * o + k) = false → m' j = m j) → GW D cy A N q m' a s H1 → va_S A H0 H1 locs1 → W p l e R s M args below meth c H1 locs1 cells slots Q (F0 M (pc + 3) ls rest)) : W p l e R s M args below meth c H locs cells slots Q (F0 M pc ls (v :: .ref (q o) :: rest)) := by
  obtain ⟨hP, hK, hD⟩ := hW
  have he : (gw cy N q m a)[o]? = some (q o, .inr (ci, (List.range n).map (fun j => m (100 * o + j)))) := by rw [gw_at ho, gcont_o hk hci hn]
  have h100 : n < 100 := by rw [← hn]; exact gnf_lt ci
  refine va_putF (D := D) hx hb hG hin ty0 hty hnm hown hK hP hD hS o he hc k hkn (hG _ hlink) (fun x h => by rw [← hsame]; exact h) hfin hin2 hdecl (hty k hkn) hnar hfit (by simpa using hkn) hdg fun H1 locs1 hP1 hD1 hS1 => ?_
  have hset : (gw cy N q m a).set o (q o, .inr (ci, ((List.range n).map (fun j => m (100 * o + j))).set k v)) = gw cy N q (va_up m (100 * o + k) v) a := gw_set (by rw [gcont_o hk hci hn, gcont_puto]) (gcont_put v (by omega))
  rw [hset] at hP1 hD1
  exact kk _ H1 locs1 (va_up_self _ _ _) (fun j hj => va_up_ne _ _ (fun z => by rw [z] at hj; simp at hj)) ⟨hP1, hK, hD1⟩ hS1
theorem g_iald (hx : p.tables.exec = Jvm.exec) (hb : c.code = cc) (hW : GW D cy A N q m a s H) {o : Nat} (ho : o < N) (hk : gk o = 14) {n : Nat} {f : Nat → Int32} (hv : a o = (n, .inl f)) {i : Int32} (hin : vp_in i n) (hdg : decode cc pc = .ok (.iaload, 1))
    (kk : W p l e R s M args below meth c H locs cells slots Q (F0 M (pc + 1) ls (.int (f i.toNatClampNeg) :: rest))) : W p l e R s M args below meth c H locs cells slots Q (F0 M pc ls (.int i :: .ref (q o) :: rest)) := by
  obtain ⟨hP, hK, hD⟩ := hW
  have he : (gw cy N q m a)[o]? = some (q o, .inl (cy 14, n, .inl f)) := by rw [gw_at ho, gcont_r hk (by decide), hv]
  exact va_iald (D := D) hx hb hK hP o 1 he rfl hin hdg kk
theorem g_zald (hx : p.tables.exec = Jvm.exec) (hb : c.code = cc) (hW : GW D cy A N q m a s H) {o : Nat} (ho : o < N) (hk : gk o = 16) {n : Nat} {f : Nat → Int32} (hv : a o = (n, .inl f)) {i : Int32} (hin : vp_in i n) (hdg : decode cc pc = .ok (.baload, 1))
    (kk : W p l e R s M args below meth c H locs cells slots Q (F0 M (pc + 1) ls (.int (f i.toNatClampNeg) :: rest))) : W p l e R s M args below meth c H locs cells slots Q (F0 M pc ls (.int i :: .ref (q o) :: rest)) := by
  obtain ⟨hP, hK, hD⟩ := hW
  have he : (gw cy N q m a)[o]? = some (q o, .inl (cy 16, n, .inl f)) := by rw [gw_at ho, gcont_r hk (by decide), hv]
  exact va_zald (D := D) hx hb hK hP o 3 he rfl hin hdg kk
theorem g_lald (hx : p.tables.exec = Jvm.exec) (hb : c.code = cc) (hW : GW D cy A N q m a s H) {o : Nat} (ho : o < N) (hk : gk o = 15) {n : Nat} {f : Nat → Int64} (hv : a o = (n, .inr (.inl f))) {i : Int32} (hin : vp_in i n) (hdg : decode cc pc = .ok (.laload, 1))
    (kk : W p l e R s M args below meth c H locs cells slots Q (F0 M (pc + 1) ls (.long (f i.toNatClampNeg) :: rest))) : W p l e R s M args below meth c H locs cells slots Q (F0 M pc ls (.int i :: .ref (q o) :: rest)) := by
  obtain ⟨hP, hK, hD⟩ := hW
  have he : (gw cy N q m a)[o]? = some (q o, .inl (cy 15, n, .inr (.inl f))) := by rw [gw_at ho, gcont_r hk (by decide), hv]
  exact va_lald (D := D) hx hb hK hP o 2 he rfl hin hdg kk
theorem g_dald (hx : p.tables.exec = Jvm.exec) (hb : c.code = cc) (hW : GW D cy A N q m a s H) {o : Nat} (ho : o < N) (hk : gk o = 13) {n : Nat} {f : Nat → UInt64} (hv : a o = (n, .inr (.inr (.inr (.inl f))))) {i : Int32} (hin : vp_in i n) (hdg : decode cc pc = .ok (.daload, 1))
    (kk : W p l e R s M args below meth c H locs cells slots Q (F0 M (pc + 1) ls (.double (f i.toNatClampNeg) :: rest))) : W p l e R s M args below meth c H locs cells slots Q (F0 M pc ls (.int i :: .ref (q o) :: rest)) := by
  obtain ⟨hP, hK, hD⟩ := hW
  have he : (gw cy N q m a)[o]? = some (q o, .inl (cy 13, n, .inr (.inr (.inr (.inl f))))) := by rw [gw_at ho, gcont_r hk (by decide), hv]
  exact va_dald (D := D) hx hb hK hP o 0 he rfl hin hdg kk
theorem g_alen (hx : p.tables.exec = Jvm.exec) (hb : c.code = cc) (hW : GW D cy A N q m a s H) {o t : Nat} (ho : o < N) (hk : gk o = 13 + t) (ht : t < 4) {n : Nat} {x : (Nat → Int32) ⊕ (Nat → Int64) ⊕ (Nat → UInt32) ⊕ (Nat → UInt64) ⊕ (Nat → Option Nat)} (hv : a o = (n, x)) {v : Int32} (hn : Int32.ofNat n = v) (hdg : decode cc pc = .ok (.arraylength, 1))
    (kk : W p l e R s M args below meth c H locs cells slots Q (F0 M (pc + 1) ls (.int v :: rest))) : W p l e R s M args below meth c H locs cells slots Q (F0 M pc ls (.ref (q o) :: rest)) := by
  obtain ⟨hP, hK, hD⟩ := hW
  have he : (gw cy N q m a)[o]? = some (q o, .inl (cy (13 + t), n, x)) := by rw [gw_at ho, gcont_r hk (by omega), hv]
  have ht2 : ∃ ty, (gtys cy)[t]? = some (cy (13 + t), ty) := by
    rcases (show t = 0 ∨ t = 1 ∨ t = 2 ∨ t = 3 by omega) with rfl | rfl | rfl | rfl <;> exact ⟨_, rfl⟩
  obtain ⟨ty, ht2⟩ := ht2
  exact va_alen (D := D) hx hb hK hP o t he ht2 hn hdg kk
theorem g_arr {o : Nat} {ci : Nat} (hk : gk o = ci) (hci : ¬ ci < 13) {x : vp_A} : (gw cy N q m a).set o (q o, .inl (cy ci, x)) = gw cy N q m (va_up a o x) := gw_set (by rw [gcont_r hk hci, va_up_self]) (gcont_arr x)
theorem g_iast (hx : p.tables.exec = Jvm.exec) (hb : c.code = cc) (hW : GW D cy A N q m a s H) (hS : va_S A H0 H locs) {o : Nat} (ho : o < N) (hk : gk o = 14) {n : Nat} {f : Nat → Int32} (hv : a o = (n, .inl f)) {i x : Int32} (hin : vp_in i n) (hdg : decode cc pc = .ok (.iastore, 1))
    (kk : ∀ (a' : Nat → vp_A) (H1 : Heap) (locs1 : List Loc), a' o = (n, .inl (upd f i.toNatClampNeg x)) → (∀ j, Nat.beq j o = false → a' j = a j) → GW D cy A N q m a' s H1 → va_S A H0 H1 locs1 → W p l e R s M args below meth c H1 locs1 cells slots Q (F0 M (pc + 1) ls rest)) : W p l e R s M args below meth c H locs cells slots Q (F0 M pc ls (.int x :: .int i :: .ref (q o) :: rest)) := by
  obtain ⟨hP, hK, hD⟩ := hW
  have he : (gw cy N q m a)[o]? = some (q o, .inl (cy 14, n, .inl f)) := by rw [gw_at ho, gcont_r hk (by decide), hv]
  refine va_iast (D := D) hx hb hK hP hD hS o 1 he rfl hin hdg fun H1 locs1 hP1 hD1 hS1 => ?_
  rw [g_arr hk (by decide)] at hP1 hD1
  exact kk _ H1 locs1 (va_up_self _ _ _) (fun j hj => va_up_ne _ _ (fun z => by rw [z] at hj; simp at hj)) ⟨hP1, hK, hD1⟩ hS1
theorem g_last (hx : p.tables.exec = Jvm.exec) (hb : c.code = cc) (hW : GW D cy A N q m a s H) (hS : va_S A H0 H locs) {o : Nat} (ho : o < N) (hk : gk o = 15) {n : Nat} {f : Nat → Int64} (hv : a o = (n, .inr (.inl f))) {i : Int32} {x : Int64} (hin : vp_in i n) (hdg : decode cc pc = .ok (.lastore, 1))
    (kk : ∀ (a' : Nat → vp_A) (H1 : Heap) (locs1 : List Loc), a' o = (n, .inr (.inl (vp_updL f i.toNatClampNeg x))) → (∀ j, Nat.beq j o = false → a' j = a j) → GW D cy A N q m a' s H1 → va_S A H0 H1 locs1 → W p l e R s M args below meth c H1 locs1 cells slots Q (F0 M (pc + 1) ls rest)) : W p l e R s M args below meth c H locs cells slots Q (F0 M pc ls (.long x :: .int i :: .ref (q o) :: rest)) := by
  obtain ⟨hP, hK, hD⟩ := hW
  have he : (gw cy N q m a)[o]? = some (q o, .inl (cy 15, n, .inr (.inl f))) := by rw [gw_at ho, gcont_r hk (by decide), hv]
  refine va_last (D := D) hx hb hK hP hD hS o 2 he rfl hin hdg fun H1 locs1 hP1 hD1 hS1 => ?_
  rw [g_arr hk (by decide)] at hP1 hD1
  exact kk _ H1 locs1 (va_up_self _ _ _) (fun j hj => va_up_ne _ _ (fun z => by rw [z] at hj; simp at hj)) ⟨hP1, hK, hD1⟩ hS1
end GWR
/-! contracts over the one world -/
def gPc (D : va_G) (cy : Nat → ClassId) (N : Nat) (q : Nat → Nat) (m : Nat → Value) (a : Nat → vp_A) (sz : Nat) (av : List Value) : Array Value → State → Prop := va_Pc av (fun U => U.heap.size = sz ∧ GW D cy (fun _ => True) N q m a U U.heap)
def gB (D : va_G) (cy : Nat → ClassId) (N : Nat) (q : Nat → Nat) (sz : Nat) : (Nat → Value) × (Nat → vp_A) → State → Prop := fun u t => GW D cy (gA N q sz) N q u.1 u.2 t t.heap
def gMi (l : Launch) (y : MethodName) (b : ByteArray) (n : Nat) (r : Option FieldType) (rm : Room) (D : va_G) (cy : Nat → ClassId) (N : Nat) (q : Nat → Nat) (m : Nat → Value) (a : Nat → vp_A) (sz : Nat) (av : List Value) (post : Int32 → (Nat → Value) → (Nat → vp_A) → Prop) : Prop := Met l y (Cond.code y b n r :: GG) rm (gPc D cy N q m a sz av) (va_Qi (fun r u => post r u.1 u.2) (gB D cy N q sz) (gA N q sz)) 0 0 (gA N q sz)
def gMl (l : Launch) (y : MethodName) (b : ByteArray) (n : Nat) (r : Option FieldType) (rm : Room) (D : va_G) (cy : Nat → ClassId) (N : Nat) (q : Nat → Nat) (m : Nat → Value) (a : Nat → vp_A) (sz : Nat) (av : List Value) (post : Int64 → (Nat → Value) → (Nat → vp_A) → Prop) : Prop := Met l y (Cond.code y b n r :: GG) rm (gPc D cy N q m a sz av) (va_Ql (fun r u => post r u.1 u.2) (gB D cy N q sz) (gA N q sz)) 0 0 (gA N q sz)
def gMv (l : Launch) (y : MethodName) (b : ByteArray) (n : Nat) (r : Option FieldType) (rm : Room) (D : va_G) (cy : Nat → ClassId) (N : Nat) (q : Nat → Nat) (m : Nat → Value) (a : Nat → vp_A) (sz : Nat) (av : List Value) (post : (Nat → Value) → (Nat → vp_A) → Prop) : Prop := Met l y (Cond.code y b n r :: GG) rm (gPc D cy N q m a sz av) (va_Qv (fun u => post u.1 u.2) (gB D cy N q sz) (gA N q sz)) 0 0 (gA N q sz)
theorem GW.blind {D : va_G} {cy : Nat → ClassId} {N : Nat} {q : Nat → Nat} {m : Nat → Value} {a : Nat → vp_A} {sz : Nat} {av : List Value} : FrameBlind (gPc D cy N q m a sz av) := fun a U g mk h => by
  obtain ⟨q0, q1, qP, qK, qD⟩ := h
  exact ⟨q0, q1, qP, va_K.moved (u := U) (U := U.calling g mk a) (Vm.Alike.refl U.vm) qK, qD⟩
theorem gd_V {own C : String} {idx : Nat} {y : MethodName} {b : ByteArray} {n : Nat} {r : Option FieldType} (h1 : Cond.methodLink own idx y ∈ GG) (h2 : Cond.instanceMethod y ∈ GG) (h3 : Cond.selects C y y ∈ GG) (h4 : Cond.initialized C ∈ GG) (h5 : Cond.code y b n r ∈ GG) : GoodIn GG (wsV own idx C y (Cond.code y b n r :: GG)) := goodIn_sub (fun w hw => by
    rcases List.mem_append.mp hw with h | h
    · simp only [List.mem_cons, List.not_mem_nil, or_false] at h
      rcases h with rfl | rfl | rfl | rfl
      · exact h1
      · exact h2
      · exact h3
      · exact h4
    · rcases List.mem_cons.mp h with rfl | h
      · exact h5
      · exact h) (List.all_eq_true.mpr fun w hw => by
    refine List.all_eq_true.mp GG_good w ?_
    rcases List.mem_append.mp hw with h | h
    · simp only [List.mem_cons, List.not_mem_nil, or_false] at h
      rcases h with rfl | rfl | rfl | rfl
      · exact h1
      · exact h2
      · exact h3
      · exact h4
    · rcases List.mem_cons.mp h with rfl | h
      · exact h5
      · exact h)
theorem gd_S {own : String} {idx : Nat} {y : MethodName} {b : ByteArray} {n : Nat} {r : Option FieldType} (h1 : Cond.methodLink own idx y ∈ GG) (h2 : Cond.static y ∈ GG) (h4 : Cond.initialized y.cls ∈ GG) (h5 : Cond.code y b n r ∈ GG) : GoodIn GG (va_wsS own idx y (Cond.code y b n r :: GG)) := goodIn_sub (fun w hw => by
    rcases List.mem_append.mp hw with h | h
    · simp only [List.mem_cons, List.not_mem_nil, or_false] at h
      rcases h with rfl | rfl | rfl
      · exact h1
      · exact h2
      · exact h4
    · rcases List.mem_cons.mp h with rfl | h
      · exact h5
      · exact h) (List.all_eq_true.mpr fun w hw => by
    refine List.all_eq_true.mp GG_good w ?_
    rcases List.mem_append.mp hw with h | h
    · simp only [List.mem_cons, List.not_mem_nil, or_false] at h
      rcases h with rfl | rfl | rfl
      · exact h1
      · exact h2
      · exact h4
    · rcases List.mem_cons.mp h with rfl | h
      · exact h5
      · exact h)
section GWC
variable {p : Program} {l : Launch} {e : Env} {R : Room} {s : State} {M : MethodId} {args : Array Value} {below : List Frame} {meth : Method} {c : Code} {H : Heap} {locs : List Loc} {cells slots : Nat} {Q : State → Prop}
variable {cc : ByteArray} {pc nL : Nat} {ls : Array Slot} {rest st0 : List Value} {D : va_G} {cy : Nat → ClassId} {N : Nat} {q : Nat → Nat} {m : Nat → Value} {a : Nat → vp_A}
variable {own C : String} {T : u_T} {n0 ci o index n nb : Nat} {y : MethodName} {b : ByteArray} {r : Option FieldType} {rm : Room} {As : List Value} {lv : List (Nat × Value)}
theorem g_pre (hW : GW D cy (gA N q s.heap.size) N q m a s H) (av : List Value) (U : State) (hU : U.heap = H) (hw : s.WarmedH U.vm) : gPc D cy N q m a H.size av av.toArray U := by
  obtain ⟨hP, hK, hD⟩ := hW
  exact ⟨rfl, by rw [hU], by rw [hU]; exact hP, va_K.moved hw.alike hK, hD.weaken (fun _ _ _ _ => trivial)⟩
theorem g_post {m' : Nat → Value} {a' : Nat → vp_A} {t : State} {H1 : Heap} {A0 : Nat → Prop} (hle : s.heap.size ≤ H.size) (hK : va_K D vwCl (gtys cy) s) (ht : t.heap = H1) (hB : gB D cy N q H.size (m', a') t) (hA : A0 = gA N q s.heap.size) : GW D cy A0 N q m' a' s H1 := by
  obtain ⟨hP, -, hD⟩ := hB
  subst hA
  rw [ht] at hP
  exact ⟨hP, hK, hD.weaken (fun _ _ _ h => gA_up hle _ h)⟩
theorem g_rv (hW : GW D cy (gA N q s.heap.size) N q m a s H) (ho : o < N) (hk : gk o = ci) (hci : ci < 13) (hc : vwCl[ci]? = some (C, T, n0)) : ∃ cellB : Cell, H[q o]? = some cellB ∧ cellB.vm.isStatics = false ∧ s.vm.findClass C = some cellB.cls := by
  obtain ⟨hP, hK, hD⟩ := hW
  have he : (gw cy N q m a)[o]? = some (q o, .inr (ci, (List.range (gnf ci)).map (fun j => m (100 * o + j)))) := by rw [gw_at ho, gcont_o hk hci rfl]
  exact va_recv hK hP hc he
theorem g_Vi {post : Int32 → (Nat → Value) → (Nat → vp_A) → Prop} (hx : p.tables.exec = Jvm.exec) (hb : c.code = cc) (hml : c.maxLocals = nL) (hown : s.vm.findClass own = some M.cls) (hG : ∀ w ∈ GG, w.before args s = true) (hW : GW D cy (gA N q s.heap.size) N q m a s H) (hS : va_S (gA N q s.heap.size) s.heap H locs) (As : List Value)
    (hM : gMi l y b nb r rm D cy N q m a H.size (.ref (q o) :: As) post) (ho : o < N) (hk : gk o = ci) (hci : ci < 13) (hc : vwCl[ci]? = some (C, T, n0)) (hst : st0 = As.reverse ++ .ref (q o) :: rest) (hg : GoodIn GG (wsV own index C y (Cond.code y b nb r :: GG))) (hrc : rm.cells = 0) (hrs : rm.slots = 0)
    (hd : y.cls = C ∧ y.cls ≠ "java/lang/invoke/MethodHandle" ∧ y.cls ≠ "java/lang/invoke/VarHandle" ∧ (parseMethodDescriptor y.desc).map (fun d => d.parameters.length) = some n) (hR : rm.frames + 1 ≤ R.frames ∧ 8 + (nb + 11) + rm.locals ≤ R.locals) (hn : As.length = n) (hl : lv_has ls nL lv) (hr8 : (rest.map fun v => v.category).sum ≤ 8) (hf : cells ≤ R.cells ∧ slots ≤ R.slots) (hdg : decode cc pc = .ok (.invokevirtual index, 3))
    (kk : ∀ (x : Int32) (m' : Nat → Value) (a' : Nat → vp_A) (H1 : Heap) (locs1 : List Loc), post x m' a' → GW D cy (gA N q s.heap.size) N q m' a' s H1 → va_S (gA N q s.heap.size) s.heap H1 locs1 → W p l e R s M args below meth c H1 locs1 cells slots Q (F0 M (pc + 3) ls (.int x :: rest))) : W p l e R s M args below meth c H locs cells slots Q (F0 M pc ls st0) := by
  have hle := hS.1
  refine va_calli (va_runV (As := As) (rest := rest) ⟨hx, hb, hml, hown, hG⟩ hM (cwV n hG hg rfl hrc hrs hd hR) ⟨GW.blind, g_rv hW ho hk hci hc, fun U hU hw => g_pre hW _ U hU hw⟩ rfl hn hl.1 hst (lv_room hr8) hdg hf) hS (fun z _ h => gA_up hle z h) (fun z h => gA_up hle z h) (fun x u t H1 locs1 ht hvm hp hB hz hk1 hS1 => ?_)
  exact kk x u.1 u.2 H1 locs1 hp (g_post hle hW.2.1 ht hB rfl) hS1
theorem g_Vl {post : Int64 → (Nat → Value) → (Nat → vp_A) → Prop} (hx : p.tables.exec = Jvm.exec) (hb : c.code = cc) (hml : c.maxLocals = nL) (hown : s.vm.findClass own = some M.cls) (hG : ∀ w ∈ GG, w.before args s = true) (hW : GW D cy (gA N q s.heap.size) N q m a s H) (hS : va_S (gA N q s.heap.size) s.heap H locs) (As : List Value)
    (hM : gMl l y b nb r rm D cy N q m a H.size (.ref (q o) :: As) post) (ho : o < N) (hk : gk o = ci) (hci : ci < 13) (hc : vwCl[ci]? = some (C, T, n0)) (hst : st0 = As.reverse ++ .ref (q o) :: rest) (hg : GoodIn GG (wsV own index C y (Cond.code y b nb r :: GG))) (hrc : rm.cells = 0) (hrs : rm.slots = 0)
    (hd : y.cls = C ∧ y.cls ≠ "java/lang/invoke/MethodHandle" ∧ y.cls ≠ "java/lang/invoke/VarHandle" ∧ (parseMethodDescriptor y.desc).map (fun d => d.parameters.length) = some n) (hR : rm.frames + 1 ≤ R.frames ∧ 8 + (nb + 11) + rm.locals ≤ R.locals) (hn : As.length = n) (hl : lv_has ls nL lv) (hr8 : (rest.map fun v => v.category).sum ≤ 8) (hf : cells ≤ R.cells ∧ slots ≤ R.slots) (hdg : decode cc pc = .ok (.invokevirtual index, 3))
    (kk : ∀ (x : Int64) (m' : Nat → Value) (a' : Nat → vp_A) (H1 : Heap) (locs1 : List Loc), post x m' a' → GW D cy (gA N q s.heap.size) N q m' a' s H1 → va_S (gA N q s.heap.size) s.heap H1 locs1 → W p l e R s M args below meth c H1 locs1 cells slots Q (F0 M (pc + 3) ls (.long x :: rest))) : W p l e R s M args below meth c H locs cells slots Q (F0 M pc ls st0) := by
  have hle := hS.1
  refine va_calll (va_runV (As := As) (rest := rest) ⟨hx, hb, hml, hown, hG⟩ hM (cwV n hG hg rfl hrc hrs hd hR) ⟨GW.blind, g_rv hW ho hk hci hc, fun U hU hw => g_pre hW _ U hU hw⟩ rfl hn hl.1 hst (lv_room hr8) hdg hf) hS (fun z _ h => gA_up hle z h) (fun z h => gA_up hle z h) (fun x u t H1 locs1 ht hvm hp hB hz hk1 hS1 => ?_)
  exact kk x u.1 u.2 H1 locs1 hp (g_post hle hW.2.1 ht hB rfl) hS1
theorem g_Vv {post : (Nat → Value) → (Nat → vp_A) → Prop} (hx : p.tables.exec = Jvm.exec) (hb : c.code = cc) (hml : c.maxLocals = nL) (hown : s.vm.findClass own = some M.cls) (hG : ∀ w ∈ GG, w.before args s = true) (hW : GW D cy (gA N q s.heap.size) N q m a s H) (hS : va_S (gA N q s.heap.size) s.heap H locs) (As : List Value)
    (hM : gMv l y b nb r rm D cy N q m a H.size (.ref (q o) :: As) post) (ho : o < N) (hk : gk o = ci) (hci : ci < 13) (hc : vwCl[ci]? = some (C, T, n0)) (hst : st0 = As.reverse ++ .ref (q o) :: rest) (hg : GoodIn GG (wsV own index C y (Cond.code y b nb r :: GG))) (hrc : rm.cells = 0) (hrs : rm.slots = 0)
    (hd : y.cls = C ∧ y.cls ≠ "java/lang/invoke/MethodHandle" ∧ y.cls ≠ "java/lang/invoke/VarHandle" ∧ (parseMethodDescriptor y.desc).map (fun d => d.parameters.length) = some n) (hR : rm.frames + 1 ≤ R.frames ∧ 8 + (nb + 11) + rm.locals ≤ R.locals) (hn : As.length = n) (hl : lv_has ls nL lv) (hr8 : (rest.map fun v => v.category).sum ≤ 8) (hf : cells ≤ R.cells ∧ slots ≤ R.slots) (hdg : decode cc pc = .ok (.invokevirtual index, 3))
    (kk : ∀ (m' : Nat → Value) (a' : Nat → vp_A) (H1 : Heap) (locs1 : List Loc), post m' a' → GW D cy (gA N q s.heap.size) N q m' a' s H1 → va_S (gA N q s.heap.size) s.heap H1 locs1 → W p l e R s M args below meth c H1 locs1 cells slots Q (F0 M (pc + 3) ls rest)) : W p l e R s M args below meth c H locs cells slots Q (F0 M pc ls st0) := by
  have hle := hS.1
  refine va_callv (va_runV (As := As) (rest := rest) ⟨hx, hb, hml, hown, hG⟩ hM (cwV n hG hg rfl hrc hrs hd hR) ⟨GW.blind, g_rv hW ho hk hci hc, fun U hU hw => g_pre hW _ U hU hw⟩ rfl hn hl.1 hst (lv_room hr8) hdg hf) hS (fun z _ h => gA_up hle z h) (fun z h => gA_up hle z h) (fun u t H1 locs1 ht hvm hp hB hz hk1 hS1 => ?_)
  exact kk u.1 u.2 H1 locs1 hp (g_post hle hW.2.1 ht hB rfl) hS1
theorem g_Si {post : Int32 → (Nat → Value) → (Nat → vp_A) → Prop} (hx : p.tables.exec = Jvm.exec) (hb : c.code = cc) (hml : c.maxLocals = nL) (hown : s.vm.findClass own = some M.cls) (hG : ∀ w ∈ GG, w.before args s = true) (hW : GW D cy (gA N q s.heap.size) N q m a s H) (hS : va_S (gA N q s.heap.size) s.heap H locs) (As : List Value)
    (hM : gMi l y b nb r rm D cy N q m a H.size As post) (hst : st0 = As.reverse ++ rest) (hg : GoodIn GG (va_wsS own index y (Cond.code y b nb r :: GG))) (hrc : rm.cells = 0) (hrs : rm.slots = 0)
    (hd : y.cls ≠ "java/lang/invoke/MethodHandle" ∧ y.cls ≠ "java/lang/invoke/VarHandle" ∧ (parseMethodDescriptor y.desc).map (fun d => d.parameters.length) = some n) (hR : rm.frames + 1 ≤ R.frames ∧ 8 + (nb + 11) + rm.locals ≤ R.locals) (hn : As.length = n) (hl : lv_has ls nL lv) (hr8 : (rest.map fun v => v.category).sum ≤ 8) (hf : cells ≤ R.cells ∧ slots ≤ R.slots) (hdg : decode cc pc = .ok (.invokestatic index, 3))
    (kk : ∀ (x : Int32) (m' : Nat → Value) (a' : Nat → vp_A) (H1 : Heap) (locs1 : List Loc), post x m' a' → GW D cy (gA N q s.heap.size) N q m' a' s H1 → va_S (gA N q s.heap.size) s.heap H1 locs1 → W p l e R s M args below meth c H1 locs1 cells slots Q (F0 M (pc + 3) ls (.int x :: rest))) : W p l e R s M args below meth c H locs cells slots Q (F0 M pc ls st0) := by
  have hle := hS.1
  refine va_calli (va_runS (As := As) (rest := rest) ⟨hx, hb, hml, hown, hG⟩ hM (va_cwS n hG hg rfl hrc hrs hd hR) ⟨GW.blind, fun U hU hw => g_pre hW _ U hU hw⟩ rfl hn hl.1 hst (lv_room hr8) hdg hf) hS (fun z _ h => gA_up hle z h) (fun z h => gA_up hle z h) (fun x u t H1 locs1 ht hvm hp hB hz hk1 hS1 => ?_)
  exact kk x u.1 u.2 H1 locs1 hp (g_post hle hW.2.1 ht hB rfl) hS1
theorem g_Sl {post : Int64 → (Nat → Value) → (Nat → vp_A) → Prop} (hx : p.tables.exec = Jvm.exec) (hb : c.code = cc) (hml : c.maxLocals = nL) (hown : s.vm.findClass own = some M.cls) (hG : ∀ w ∈ GG, w.before args s = true) (hW : GW D cy (gA N q s.heap.size) N q m a s H) (hS : va_S (gA N q s.heap.size) s.heap H locs) (As : List Value)
    (hM : gMl l y b nb r rm D cy N q m a H.size As post) (hst : st0 = As.reverse ++ rest) (hg : GoodIn GG (va_wsS own index y (Cond.code y b nb r :: GG))) (hrc : rm.cells = 0) (hrs : rm.slots = 0)
    (hd : y.cls ≠ "java/lang/invoke/MethodHandle" ∧ y.cls ≠ "java/lang/invoke/VarHandle" ∧ (parseMethodDescriptor y.desc).map (fun d => d.parameters.length) = some n) (hR : rm.frames + 1 ≤ R.frames ∧ 8 + (nb + 11) + rm.locals ≤ R.locals) (hn : As.length = n) (hl : lv_has ls nL lv) (hr8 : (rest.map fun v => v.category).sum ≤ 8) (hf : cells ≤ R.cells ∧ slots ≤ R.slots) (hdg : decode cc pc = .ok (.invokestatic index, 3))
    (kk : ∀ (x : Int64) (m' : Nat → Value) (a' : Nat → vp_A) (H1 : Heap) (locs1 : List Loc), post x m' a' → GW D cy (gA N q s.heap.size) N q m' a' s H1 → va_S (gA N q s.heap.size) s.heap H1 locs1 → W p l e R s M args below meth c H1 locs1 cells slots Q (F0 M (pc + 3) ls (.long x :: rest))) : W p l e R s M args below meth c H locs cells slots Q (F0 M pc ls st0) := by
  have hle := hS.1
  refine va_calll (va_runS (As := As) (rest := rest) ⟨hx, hb, hml, hown, hG⟩ hM (va_cwS n hG hg rfl hrc hrs hd hR) ⟨GW.blind, fun U hU hw => g_pre hW _ U hU hw⟩ rfl hn hl.1 hst (lv_room hr8) hdg hf) hS (fun z _ h => gA_up hle z h) (fun z h => gA_up hle z h) (fun x u t H1 locs1 ht hvm hp hB hz hk1 hS1 => ?_)
  exact kk x u.1 u.2 H1 locs1 hp (g_post hle hW.2.1 ht hB rfl) hS1
theorem g_Sv {post : (Nat → Value) → (Nat → vp_A) → Prop} (hx : p.tables.exec = Jvm.exec) (hb : c.code = cc) (hml : c.maxLocals = nL) (hown : s.vm.findClass own = some M.cls) (hG : ∀ w ∈ GG, w.before args s = true) (hW : GW D cy (gA N q s.heap.size) N q m a s H) (hS : va_S (gA N q s.heap.size) s.heap H locs) (As : List Value)
    (hM : gMv l y b nb r rm D cy N q m a H.size As post) (hst : st0 = As.reverse ++ rest) (hg : GoodIn GG (va_wsS own index y (Cond.code y b nb r :: GG))) (hrc : rm.cells = 0) (hrs : rm.slots = 0)
    (hd : y.cls ≠ "java/lang/invoke/MethodHandle" ∧ y.cls ≠ "java/lang/invoke/VarHandle" ∧ (parseMethodDescriptor y.desc).map (fun d => d.parameters.length) = some n) (hR : rm.frames + 1 ≤ R.frames ∧ 8 + (nb + 11) + rm.locals ≤ R.locals) (hn : As.length = n) (hl : lv_has ls nL lv) (hr8 : (rest.map fun v => v.category).sum ≤ 8) (hf : cells ≤ R.cells ∧ slots ≤ R.slots) (hdg : decode cc pc = .ok (.invokestatic index, 3))
    (kk : ∀ (m' : Nat → Value) (a' : Nat → vp_A) (H1 : Heap) (locs1 : List Loc), post m' a' → GW D cy (gA N q s.heap.size) N q m' a' s H1 → va_S (gA N q s.heap.size) s.heap H1 locs1 → W p l e R s M args below meth c H1 locs1 cells slots Q (F0 M (pc + 3) ls rest)) : W p l e R s M args below meth c H locs cells slots Q (F0 M pc ls st0) := by
  have hle := hS.1
  refine va_callv (va_runS (As := As) (rest := rest) ⟨hx, hb, hml, hown, hG⟩ hM (va_cwS n hG hg rfl hrc hrs hd hR) ⟨GW.blind, fun U hU hw => g_pre hW _ U hU hw⟩ rfl hn hl.1 hst (lv_room hr8) hdg hf) hS (fun z _ h => gA_up hle z h) (fun z h => gA_up hle z h) (fun u t H1 locs1 ht hvm hp hB hz hk1 hS1 => ?_)
  exact kk u.1 u.2 H1 locs1 hp (g_post hle hW.2.1 ht hB rfl) hS1
/-- a method's end -/
theorem g_end (hW : GW D cy (gA N q s.heap.size) N q m a s H) {t : State} (ht : t.heap = H) (hw : s.WarmedH t.vm) : gB D cy N q s.heap.size (m, a) t := by
  obtain ⟨hP, hK, hD⟩ := hW
  exact ⟨by rw [ht]; exact hP, va_K.moved hw.alike hK, hD⟩
theorem g_ret_i {post : Int32 → (Nat → Value) → (Nat → vp_A) → Prop} {v : Int32} {ty : FieldType} (hx : p.tables.exec = Jvm.exec) (hb : c.code = cc) (hr : meth.sig.returnType = some ty) (hlocks : meth.locks = false) (hW : GW D cy (gA N q s.heap.size) N q m a s H) (hS : va_S (gA N q s.heap.size) s.heap H locs) (hn : narrow ty (.int v) = .int v) (hp : post v m a) (hdg : decode cc pc = .ok (.ireturn, 1)) : W p l e R s M args below meth c H locs cells slots (MQ below (va_Qi (fun r u => post r u.1 u.2) (gB D cy N q s.heap.size) (gA N q s.heap.size)) args s cells slots (gA N q s.heap.size)) (F0 M pc ls [.int v]) :=
  W.zret hx hb hr hn (fun t ht hw => ⟨⟨v, (m, a), rfl, hp, g_end hW ht hw⟩, hS.F ht⟩) hS.2.2 hdg hlocks
theorem g_ret_l {post : Int64 → (Nat → Value) → (Nat → vp_A) → Prop} {v : Int64} (hx : p.tables.exec = Jvm.exec) (hb : c.code = cc) (hr : meth.sig.returnType = some .long) (hlocks : meth.locks = false) (hW : GW D cy (gA N q s.heap.size) N q m a s H) (hS : va_S (gA N q s.heap.size) s.heap H locs) (hp : post v m a) (hdg : decode cc pc = .ok (.lreturn, 1)) : W p l e R s M args below meth c H locs cells slots (MQ below (va_Ql (fun r u => post r u.1 u.2) (gB D cy N q s.heap.size) (gA N q s.heap.size)) args s cells slots (gA N q s.heap.size)) (F0 M pc ls [.long v]) :=
  W.lret hx hb hr (fun t ht hw => ⟨⟨v, (m, a), rfl, hp, g_end hW ht hw⟩, hS.F ht⟩) hS.2.2 hdg hlocks
theorem g_ret_v {post : (Nat → Value) → (Nat → vp_A) → Prop} (hx : p.tables.exec = Jvm.exec) (hb : c.code = cc) (hr : meth.sig.returnType = none) (hlocks : meth.locks = false) (hW : GW D cy (gA N q s.heap.size) N q m a s H) (hS : va_S (gA N q s.heap.size) s.heap H locs) (hp : post m a) (hdg : decode cc pc = .ok (.return_, 1)) : W p l e R s M args below meth c H locs cells slots (MQ below (va_Qv (fun u => post u.1 u.2) (gB D cy N q s.heap.size) (gA N q s.heap.size)) args s cells slots (gA N q s.heap.size)) (F0 M pc ls []) :=
  W.vret hx hb hr (fun t ht hw => ⟨⟨(m, a), rfl, hp, g_end hW ht hw⟩, hS.F ht⟩) hS.2.2 hdg hlocks
end GWC
/-- a method's start: what is given there, for a post of any kind -/
theorem g_of {l : Launch} {y : MethodName} {b : ByteArray} {n : Nat} {r : Option FieldType} {rm : Room} {D : va_G} {cy : Nat → ClassId} {N : Nat} {q : Nat → Nat} {m : Nat → Value} {a : Nat → vp_A} {sz : Nat} {av : List Value} {Qc : Nat → Array Value → State → Outcome → State → Prop} {mc ms : Nat} (hy : plainName y.cls = true) (hlen : (lg_sl av).length ≤ n)
    (body : ∀ (p : Program) (e : Env) (s : State) (M : MethodId) (args : Array Value) (below : List Frame) (meth : Method) (c : Code), p.tables.exec = Jvm.exec → c.code = b → meth.sig.returnType = r → (∀ w ∈ GG, w.before args s = true) → s.vm.findClass y.cls = some M.cls → meth.name = y.name → meth.locks = false → c.maxLocals = n → GW D cy (gA N q s.heap.size) N q m a s s.heap → va_S (gA N q s.heap.size) s.heap s.heap [] → ∀ ls, lv_has ls n (lv_args 0 av) → W p l e rm s M args below meth c s.heap [] 0 0 (MQ below (Qc s.heap.size) args s mc ms (gA N q s.heap.size)) (F0 M 0 ls [])) :
    Met l y (Cond.code y b n r :: GG) rm (gPc D cy N q m a sz av) (Qc sz) mc ms (gA N q sz) := by
  refine Met.ofW (cc := b) (maxL := n) (ret := r) hy rfl ?_
  intro p e s M args below meth c s₁ B hml hv
  obtain ⟨rfl, hsz, hP, hK, hD⟩ := hv
  subst hsz
  have hts := atoms_spec (ws := Cond.code y b n r :: GG) B.pre
  have hD' : va_D (gA N q s.heap.size) (gw cy N q m a) := ⟨hD.1, fun k z hk => Or.inl ⟨k, by
    have := (List.getElem?_eq_some_iff.mp hk).1
    rw [gw_len] at this
    exact this, by
    have h1 := (List.getElem?_eq_some_iff.mp hk).1
    rw [gw_len] at h1
    rw [gw_at h1] at hk
    cases hk
    rfl⟩⟩
  rw [lg_entry_eq]
  exact body p e s M _ below meth c B.exec B.bytes B.returns (fun w hw => hts w (List.mem_cons_of_mem _ hw)) (findClass_of_methodNamed B.named) (name_of_methodNamed B.named B.method).1 B.notSynchronized hml ⟨hP, hK, hD'⟩ va_S.rf _ (lv_entry av hlen)
