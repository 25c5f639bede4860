/-! part 07: filling a row, by hand -/
theorem dJ7_fill_53178_0 : decode cJ7_fill_53178 0 = .ok (.iconst 0, 1) := by decide +kernel
theorem dJ7_fill_53178_1 : decode cJ7_fill_53178 1 = .ok (.istore_n 2, 1) := by decide +kernel
theorem dJ7_fill_53178_2 : decode cJ7_fill_53178 2 = .ok (.aload_n 0, 1) := by decide +kernel
theorem dJ7_fill_53178_3 : decode cJ7_fill_53178 3 = .ok (.arraylength, 1) := by decide +kernel
theorem dJ7_fill_53178_4 : decode cJ7_fill_53178 4 = .ok (.istore_n 3, 1) := by decide +kernel
theorem dJ7_fill_53178_5 : decode cJ7_fill_53178 5 = .ok (.iload_n 2, 1) := by decide +kernel
theorem dJ7_fill_53178_6 : decode cJ7_fill_53178 6 = .ok (.iload_n 3, 1) := by decide +kernel
theorem dJ7_fill_53178_7 : decode cJ7_fill_53178 7 = .ok (.if_icmp .ge 13, 3) := by decide +kernel
theorem dJ7_fill_53178_10 : decode cJ7_fill_53178 10 = .ok (.aload_n 0, 1) := by decide +kernel
theorem dJ7_fill_53178_11 : decode cJ7_fill_53178 11 = .ok (.iload_n 2, 1) := by decide +kernel
theorem dJ7_fill_53178_12 : decode cJ7_fill_53178 12 = .ok (.iload_n 1, 1) := by decide +kernel
theorem dJ7_fill_53178_13 : decode cJ7_fill_53178 13 = .ok (.iastore, 1) := by decide +kernel
theorem dJ7_fill_53178_14 : decode cJ7_fill_53178 14 = .ok (.iinc 2 1, 3) := by decide +kernel
theorem dJ7_fill_53178_17 : decode cJ7_fill_53178 17 = .ok (.goto (-12), 3) := by decide +kernel
theorem dJ7_fill_53178_20 : decode cJ7_fill_53178 20 = .ok (.return_, 1) := by decide +kernel
theorem dX2_fill_0 : decode cX2_fill 0 = .ok (.aload_n 0, 1) := by decide +kernel
theorem dX2_fill_1 : decode cX2_fill 1 = .ok (.getfield 13, 3) := by decide +kernel
theorem dX2_fill_4 : decode cX2_fill 4 = .ok (.iload_n 1, 1) := by decide +kernel
theorem dX2_fill_5 : decode cX2_fill 5 = .ok (.invokestatic 19, 3) := by decide +kernel
theorem dX2_fill_8 : decode cX2_fill 8 = .ok (.return_, 1) := by decide +kernel
def cFill (n : Nat) (f : Nat → Int32) (v : Int32) : Nat → Int32 := fun j => if j < n then v else f j
theorem cFill_0 (f : Nat → Int32) (v : Int32) : cFill 0 f v = f := by funext j; simp [cFill]
theorem cFill_s (i : Nat) (f : Nat → Int32) (v : Int32) : upd (cFill i f v) i v = cFill (i + 1) f v := by
  funext j
  unfold cFill
  by_cases hj : j = i
  · subst hj; simp [upd]
  · rw [pk_un hj]
    by_cases h : j < i
    · rw [if_pos h, if_pos (by omega)]
    · rw [if_neg h, if_neg (by omega)]
set_option maxHeartbeats 4000000 in
set_option maxRecDepth 100000 in
theorem kJ7_fill {l : Launch} {D : va_G} {cy : Nat → ClassId} {N : Nat} {q : Nat → Nat} {m0 : Nat → Value} {a0 : Nat → vp_A} {sz ka : Nat} (ha : ka < N) (hka : gk ka = 14) {n : Nat} (hn : n < 2 ^ 31) {f : Nat → Int32} (hA : a0 ka = (n, .inl f)) (p1 : Int32) : gMv l yJ7_fill_53178 cJ7_fill_53178 4 none ({ frames := 0, cells := 0, slots := 0, locals := 0 } : Room) D cy N q m0 a0 sz [.ref (q ka), .int p1] (fun m' a' => m' = m0 ∧ a' ka = (n, .inl (cFill n f p1)) ∧ (∀ j, nel j [ka] = false → a' j = a0 j)) := by
  refine g_ofv (by decide) (Nat.le_of_ble_eq_true rfl) ?_
  intro p e s M args below meth c hx hb hr hG hown hin hlocks hml hW hS ls hl
  have hL : ∀ (k i : Nat) (a : Nat → vp_A) (H : Heap) (locs : List Loc) (ls : Array Slot), i ≤ n → n ≤ i + k → lv_has ls 4 [(0, .ref (q ka)), (1, .int p1), (2, .int (nI i)), (3, .int (nI n))] → a ka = (n, .inl (cFill i f p1)) → (∀ j, nel j [ka] = false → a j = a0 j) → GW D cy (gA N q s.heap.size) N q m0 a s H → va_S (gA N q s.heap.size) s.heap H locs → W p l e ({ frames := 0, cells := 0, slots := 0, locals := 0 } : Room) s M args below meth c H locs 0 0 (MQ below (va_Qv (fun (u : (Nat → Value) × (Nat → vp_A)) => u.1 = m0 ∧ u.2 ka = (n, .inl (cFill n f p1)) ∧ (∀ j, nel j [ka] = false → u.2 j = a0 j)) (gB D cy N q s.heap.size) (gA N q s.heap.size)) args s 0 0 (gA N q s.heap.size)) (F0 M 5 ls []) := by
    intro k
    induction k with
    | zero =>
      intro i a H locs ls h1 h2 hl hA ho hW hS
      have hi : i = n := by omega
      subst hi
      refine lv_iload_n hx hb dJ7_fill_53178_5 rfl (lv_at hl 2 rfl) ?_
      refine lv_iload_n hx hb dJ7_fill_53178_6 rfl (lv_at hl 3 rfl) ?_
      refine lv_icmp_ge (tgt := 20) hx hb dJ7_fill_53178_7 (by decide) (fun c1 => ?_) (fun c1 => ?_)
      · exact W.vret hx hb hr (fun t ht hw => ⟨⟨(m0, a), rfl, ⟨rfl, hA, ho⟩, g_end hW ht hw⟩, hS.F ht⟩) hS.2.2 dJ7_fill_53178_20 hlocks
      · exact absurd (nI_le (Nat.le_refl i) hn) c1
    | succ k ih =>
      intro i a H locs ls h1 h2 hl hA ho hW hS
      refine lv_iload_n hx hb dJ7_fill_53178_5 rfl (lv_at hl 2 rfl) ?_
      refine lv_iload_n hx hb dJ7_fill_53178_6 rfl (lv_at hl 3 rfl) ?_
      refine lv_icmp_ge (tgt := 20) hx hb dJ7_fill_53178_7 (by decide) (fun c1 => ?_) (fun c1 => ?_)
      · have hi : i = n := by
          rcases Nat.lt_or_ge i n with h | h
          · exact absurd c1 (nI_ge h hn)
          · omega
        subst hi
        exact W.vret hx hb hr (fun t ht hw => ⟨⟨(m0, a), rfl, ⟨rfl, hA, ho⟩, g_end hW ht hw⟩, hS.F ht⟩) hS.2.2 dJ7_fill_53178_20 hlocks
      · have hi : i < n := by
          rcases Nat.lt_or_ge i n with h | h
          · exact h
          · exact absurd (nI_le h (by omega)) c1
        refine lv_aload_n hx hb dJ7_fill_53178_10 rfl (lv_at hl 0 rfl) ?_
        refine lv_iload_n hx hb dJ7_fill_53178_11 rfl (lv_at hl 2 rfl) ?_
        refine lv_iload_n hx hb dJ7_fill_53178_12 rfl (lv_at hl 1 rfl) ?_
        refine g_iast hx hb hW hS ha hka hA (vp_in_nI hi hn) dJ7_fill_53178_13 (fun a1 H locs ha1 ho1 hW hS => ?_)
        have ha1 : a1 ka = (n, .inl (cFill (i + 1) f p1)) := by rw [ha1, nI_clamp (by omega), cFill_s]
        refine lv_iinc (v := nI (i + 1)) (lv' := [(2, .int (nI (i + 1))), (0, .ref (q ka)), (1, .int p1), (3, .int (nI n))]) hx hb dJ7_fill_53178_14 hl (k := 2) rfl (nI_1 i) (by decide) rfl (fun ls hl => ?_)
        refine lv_goto (tgt := 5) hx hb dJ7_fill_53178_17 (by decide) ?_
        exact ih (i + 1) a1 H locs ls hi (by omega) (lv_sub hl [1, 2, 0, 3] rfl) ha1 (offm ho (off1 ho1) (by simp [nel])) hW hS
  refine lv_iconst (v := nI 0) hx hb dJ7_fill_53178_0 (by decide) ?_
  refine lv_istore_n (lv' := [(2, .int (nI 0)), (0, .ref (q ka)), (1, .int p1)]) hx hb dJ7_fill_53178_1 rfl hl (by decide) rfl (fun ls hl => ?_)
  refine lv_aload_n hx hb dJ7_fill_53178_2 rfl (lv_at hl 1 rfl) ?_
  refine g_alen hx hb hW (t := 1) ha hka (by decide) hA (v := nI n) rfl dJ7_fill_53178_3 ?_
  refine lv_istore_n (lv' := [(3, .int (nI n)), (2, .int (nI 0)), (0, .ref (q ka)), (1, .int p1)]) hx hb dJ7_fill_53178_4 rfl hl (by decide) rfl (fun ls hl => ?_)
  exact hL n 0 a0 _ _ ls (Nat.zero_le n) (by omega) (lv_sub hl [2, 3, 1, 0] rfl) (by rw [cFill_0]; exact hA) off0 hW hS
set_option maxHeartbeats 4000000 in
set_option maxRecDepth 100000 in
theorem kX2_fill {l : Launch} {D : va_G} {cy : Nat → ClassId} {N : Nat} {q : Nat → Nat} {m0 : Nat → Value} {a0 : Nat → vp_A} {sz kc ka : Nat} (hc : kc < N) (hkc : gk kc = 2) (ha : ka < N) (hka : gk ka = 14) (href : m0 (100 * kc + 0) = .ref (q ka)) {n : Nat} (hn : n < 2 ^ 31) {f : Nat → Int32} (hA : a0 ka = (n, .inl f)) (p1 : Int32) : gMv l yX2_fill cX2_fill 2 none ({ frames := 1, cells := 0, slots := 0, locals := 23 } : Room) D cy N q m0 a0 sz [.ref (q kc), .int p1] (fun m' a' => m' = m0 ∧ a' ka = (n, .inl (cFill n f p1)) ∧ (∀ j, nel j [ka] = false → a' j = a0 j)) := by
  refine g_ofv (by decide) (Nat.le_of_ble_eq_true rfl) ?_
  intro p e s M args below meth c hx hb hr hG hown hin hlocks hml hW hS ls hl
  refine lv_aload_n hx hb dX2_fill_0 rfl (lv_at hl 0 rfl) ?_
  refine gf2_0 hx hb hG hown hW hc hkc href gx57 dX2_fill_1 ?_
  refine lv_iload_n hx hb dX2_fill_4 rfl (lv_at hl 1 rfl) ?_
  refine g_Sv (n := 2) hx hb hml hown hG hW hS [.ref (q ka), .int p1] (kJ7_fill ha hka hn hA p1) rfl (gd_S gx681 gx228 gx229 gx230) rfl rfl (by decide) ⟨Nat.le_of_ble_eq_true rfl, Nat.le_of_ble_eq_true rfl⟩ rfl hl (Nat.le_of_ble_eq_true rfl) ⟨Nat.zero_le _, Nat.zero_le _⟩ dX2_fill_5 (fun m1 a1 H locs hp hW hS => ?_)
  obtain ⟨hm, ha1, ho⟩ := hp
  rw [hm] at hW
  exact W.vret hx hb hr (fun t ht hw => ⟨⟨(m0, a1), rfl, ⟨rfl, ha1, ho⟩, g_end hW ht hw⟩, hS.F ht⟩) hS.2.2 dX2_fill_8 hlocks
