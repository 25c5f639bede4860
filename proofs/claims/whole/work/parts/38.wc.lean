/-! part 38: new rules for one call of chart (leastAcks), by hand -/
theorem dWC_76 : decode cX9_leastAcks 76 = .ok (.invokevirtual 146, 3) := by decide +kernel
theorem dWC_79 : decode cX9_leastAcks 79 = .ok (.lload 5, 2) := by decide +kernel
theorem dWC_81 : decode cX9_leastAcks 81 = .ok (.invokevirtual 61, 3) := by decide +kernel
theorem lk7 {v : Int32} {k : Nat} (h : v = nI (k + 1)) (hk : k ≤ 7) (c : ¬ (7 : Int32) < v) : k + 1 ≤ 7 := by
  rcases Nat.lt_or_ge k 7 with h1 | h1
  · omega
  · have : k = 7 := by omega
    subst this
    subst h
    exact absurd (by decide) c
section WC
variable {p : Program} {l : Launch} {e : Env} {R : Room} {s : State} {M : MethodId} {args : Array Value} {below : List Frame} {meth : Method} {c : Code} {H : Heap} {locs : List Loc} {cells slots : Nat} {Q : State → Prop}
variable {cc : ByteArray} {pc : Nat} {ls : Array Slot} {rest st0 : List Value} {D : va_G} {cy : Nat → ClassId} {A : Nat → Prop} {N : Nat} {q : Nat → Nat} {m : Nat → Value} {a : Nat → vp_A}
variable {own : String} {o index n nb nL mc ms : Nat} {y : MethodName} {b : ByteArray} {rm : Room} {As : List Value} {lv : List (Nat × Value)} {N' : Nat}
theorem g_WC {P : (Nat → Value) → (Nat → Value) → (Nat → vp_A) → Prop} {rmC : Room} {x0 x1 x2 x3 : Int32} {kr : Nat} (hx : p.tables.exec = Jvm.exec) (hb : c.code = cX9_leastAcks) (hml : c.maxLocals = nL) (hown : s.vm.findClass RX9 = some M.cls) (hG : ∀ w ∈ GG, w.before args s = true) (hW : GW D cy (gA N q s.heap.size) N q m a s H) (hS : va_S (gA N q s.heap.size) s.heap H locs) (hN : 105 ≤ N) (hkr : kr < N) (hgk : gk kr = 7) (h0 : m (100 * kr + 0) = .int x0) (h1 : m (100 * kr + 1) = .int x1) (h2 : m (100 * kr + 2) = .int x2) (h3 : m (100 * kr + 3) = .int x3) (v : Int32) (f : Int64) (hl : lv_has ls nL lv) (hl5 : ls[5]? = some (.val (.long f)))
    (hC : ∀ (qw : Nat → Nat) (mw : Nat → Value) (sz : Nat), (∀ k, k < N → qw k = q k) → (∀ j, j < 100 * N → mw j = m j) → mw (100 * N + 0) = .int x0 → mw (100 * N + 1) = .int x1 → mw (100 * N + 2) = .int v → mw (100 * N + 3) = .int x3 → gMv l yX1_chart cX1_chart 4 none rmC D cy (N + 1) qw mw a sz [.ref (qw 28), .ref (qw N), .long f] (P mw))
    (hP : ∀ (mw m' m2 : Nat → Value) (a' : Nat → vp_A), (∀ j, j < 100 * N → mw j = m j) → (∀ j, j < 100 * N → m2 j = m' j) → (∀ j, 100 * N ≤ j → m2 j = m j) → P mw m' a' → P m m2 a')
    (hR1 : rmC.cells = 0 ∧ rmC.slots = 0) (hR2 : (3 ≤ R.frames ∧ 66 ≤ R.locals) ∧ rmC.frames + 1 ≤ R.frames ∧ 8 + (4 + 11) + rmC.locals ≤ R.locals) (hf1 : cells + 1 ≤ R.cells) (hf2 : slots + 4 ≤ R.slots)
    (kk : ∀ (m' : Nat → Value) (a' : Nat → vp_A) (H1 : Heap) (locs1 : List Loc), P m m' a' → GW D cy (gA N q s.heap.size) N q m' a' s H1 → va_S (gA N q s.heap.size) s.heap H1 locs1 → W p l e R s M args below meth c H1 locs1 (cells + 1) (slots + 4) Q (F0 M 84 ls [])) : W p l e R s M args below meth c H locs cells slots Q (F0 M 76 ls [.int v, .int 2, .ref (q kr), .ref (q 28)]) := by
  refine g_Vr (n := 2) (rm := { frames := 2, cells := 1, slots := 4, locals := 44 }) (mc := 1) (ms := 4) (o := kr) (rest := [.ref (q 28)]) hx hb hml hown hG hW hS (fun x hx => Or.inr hx) [.int 2, .int v] (kX7_with hN hkr hgk h0 h1 h2 h3 2 v) hkr hgk (by decide) rfl rfl (gd_V gx996 gx222 gx223 gx39 gx224) rfl rfl (by decide) ⟨hR2.1.1, hR2.1.2⟩ rfl hl (Nat.le_of_ble_eq_true rfl) ⟨hf1, hf2⟩ dWC_76 (fun qw mw aw H locs hp hW hS => ?_)
  dsimp only at hp
  obtain ⟨hqw, hmw, haw, n0, n1, n2, n3⟩ := hp
  rw [haw] at hW
  have n0 : mw (100 * N + 0) = .int x0 := n0
  have n1 : mw (100 * N + 1) = .int x1 := n1
  have n2 : mw (100 * N + 2) = .int v := n2
  have n3 : mw (100 * N + 3) = .int x3 := n3
  have hAe := gA_grow hqw hW.2.2
  rw [hAe] at hW hS
  rw [← hqw 28 (by omega)]
  refine lv_lload hx hb dWC_79 hl5 ?_
  refine g_Vv (n := 2) (o := 28) (rest := []) hx hb hml hown hG hW hS [.ref (qw N), .long f] (hC qw mw H.size hqw hmw n0 n1 n2 n3) (by omega) gk28 (by decide) rfl rfl (gd_V gx666 gx667 gx668 gx86 gx669) hR1.1 hR1.2 (by decide) hR2.2 rfl hl (Nat.le_of_ble_eq_true rfl) ⟨hf1, hf2⟩ dWC_81 (fun m1 a1 H locs hp hW hS => ?_)
  rw [← hAe] at hW hS
  have hW := hW.shrink hqw
  obtain ⟨m2, hm2⟩ : ∃ m2 : Nat → Value, m2 = fun j => if j < 100 * N then m1 j else m j := ⟨_, rfl⟩
  have e1 : ∀ j, j < 100 * N → m2 j = m1 j := fun j hj => by rw [hm2]; exact if_pos hj
  have e2 : ∀ j, 100 * N ≤ j → m2 j = m j := fun j hj => by rw [hm2]; exact if_neg (by omega)
  have hgw : gw cy N q m1 a1 = gw cy N q m2 a1 := by
    unfold gw
    refine List.map_congr_left fun k hk => ?_
    have hk2 := List.mem_range.mp hk
    unfold gcont
    by_cases h13 : gk k < 13
    · rw [if_pos h13, if_pos h13]
      congr 3
      refine List.map_congr_left fun i hi => (e1 _ ?_).symm
      have := gnf_lt (gk k)
      have := List.mem_range.mp hi
      omega
    · rw [if_neg h13, if_neg h13]
  obtain ⟨hP1, hK1, hD1⟩ := hW
  rw [hgw] at hP1 hD1
  exact kk m2 a1 H locs (hP mw m1 m2 a1 hmw e1 e2 hp) ⟨hP1, hK1, hD1⟩ hS
end WC
