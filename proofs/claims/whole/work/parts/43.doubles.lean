/-! part 43: doubles (by program, and filling a row by hand) -/
def nn64 (r : UInt64) : Bool := decide (r &&& 0x7fffffffffffffff ≤ 0x7ff0000000000000)
theorem nn64.p {r : UInt64} (h : nn64 r = true) : vf_n64 r := by
  unfold nn64 at h
  unfold vf_n64
  exact of_decide_eq_true h
section GWD
variable {p : Program} {l : Launch} {e : Env} {R : Room} {s : State} {M : MethodId} {args : Array Value} {below : List Frame} {meth : Method} {c : Code} {H H0 : Heap} {locs : List Loc} {cells slots : Nat} {Q : State → Prop}
variable {cc : ByteArray} {pc nL : Nat} {ls : Array Slot} {rest : List Value} {D : va_G} {cy : Nat → ClassId} {A : Nat → Prop} {N : Nat} {q : Nat → Nat} {m : Nat → Value} {a : Nat → vp_A}
theorem g_dast (hx : p.tables.exec = Jvm.exec) (hb : c.code = cc) (hW : GW D cy A N q m a s H) (hS : va_S A H0 H locs) {o : Nat} (ho : o < N) (hk : gk o = 13) {n : Nat} {f : Nat → UInt64} (hv : a o = (n, .inr (.inr (.inr (.inl f))))) {i : Int32} {x : UInt64} (hin : vp_in i n) (hdg : decode cc pc = .ok (.dastore, 1))
    (kk : ∀ (a' : Nat → vp_A) (H1 : Heap) (locs1 : List Loc), a' o = (n, .inr (.inr (.inr (.inl (vf_upd f i.toNatClampNeg x))))) → (∀ j, Nat.beq j o = false → a' j = a j) → GW D cy A N q m a' s H1 → va_S A H0 H1 locs1 → W p l e R s M args below meth c H1 locs1 cells slots Q (F0 M (pc + 1) ls rest)) : W p l e R s M args below meth c H locs cells slots Q (F0 M pc ls (.double x :: .int i :: .ref (q o) :: rest)) := by
  obtain ⟨hP, hK, hD⟩ := hW
  have he : (gw cy N q m a)[o]? = some (q o, .inl (cy 13, n, .inr (.inr (.inr (.inl f))))) := by rw [gw_at ho, gcont_r hk (by decide), hv]
  refine va_dast (D := D) hx hb hK hP hD hS o 0 he rfl hin hdg fun H1 locs1 hP1 hD1 hS1 => ?_
  rw [g_arr hk (by decide)] at hP1 hD1
  exact kk _ H1 locs1 (va_up_self _ _ _) (fun j hj => va_up_ne _ _ (fun z => by rw [z] at hj; simp at hj)) ⟨hP1, hK, hD1⟩ hS1
end GWD
theorem dJ7_fill_7f8df_0 : decode cJ7_fill_7f8df 0 = .ok (.iconst 0, 1) := by decide +kernel
theorem dJ7_fill_7f8df_1 : decode cJ7_fill_7f8df 1 = .ok (.istore_n 3, 1) := by decide +kernel
theorem dJ7_fill_7f8df_2 : decode cJ7_fill_7f8df 2 = .ok (.aload_n 0, 1) := by decide +kernel
theorem dJ7_fill_7f8df_3 : decode cJ7_fill_7f8df 3 = .ok (.arraylength, 1) := by decide +kernel
theorem dJ7_fill_7f8df_4 : decode cJ7_fill_7f8df 4 = .ok (.istore 4, 2) := by decide +kernel
theorem dJ7_fill_7f8df_6 : decode cJ7_fill_7f8df 6 = .ok (.iload_n 3, 1) := by decide +kernel
theorem dJ7_fill_7f8df_7 : decode cJ7_fill_7f8df 7 = .ok (.iload 4, 2) := by decide +kernel
theorem dJ7_fill_7f8df_9 : decode cJ7_fill_7f8df 9 = .ok (.if_icmp .ge 13, 3) := by decide +kernel
theorem dJ7_fill_7f8df_12 : decode cJ7_fill_7f8df 12 = .ok (.aload_n 0, 1) := by decide +kernel
theorem dJ7_fill_7f8df_13 : decode cJ7_fill_7f8df 13 = .ok (.iload_n 3, 1) := by decide +kernel
theorem dJ7_fill_7f8df_14 : decode cJ7_fill_7f8df 14 = .ok (.dload_n 1, 1) := by decide +kernel
theorem dJ7_fill_7f8df_15 : decode cJ7_fill_7f8df 15 = .ok (.dastore, 1) := by decide +kernel
theorem dJ7_fill_7f8df_16 : decode cJ7_fill_7f8df 16 = .ok (.iinc 3 1, 3) := by decide +kernel
theorem dJ7_fill_7f8df_19 : decode cJ7_fill_7f8df 19 = .ok (.goto (-13), 3) := by decide +kernel
theorem dJ7_fill_7f8df_22 : decode cJ7_fill_7f8df 22 = .ok (.return_, 1) := by decide +kernel
def dFill (n : Nat) (f : Nat → UInt64) (v : UInt64) : Nat → UInt64 := fun j => if j < n then v else f j
theorem dFill_0 (f : Nat → UInt64) (v : UInt64) : dFill 0 f v = f := by funext j; simp [dFill]
theorem dFill_s (i : Nat) (f : Nat → UInt64) (v : UInt64) : vf_upd (dFill i f v) i v = dFill (i + 1) f v := by
  funext j
  unfold dFill
  by_cases hj : j = i
  · subst hj; simp [vf_upd]
  · rw [show vf_upd (fun j => if j < i then v else f j) i v j = (if j < i then v else f j) from if_neg hj]
    by_cases h : j < i
    · rw [if_pos h, if_pos (by omega)]
    · rw [if_neg h, if_neg (by omega)]
set_option maxHeartbeats 4000000 in
set_option maxRecDepth 100000 in
theorem kJ7_dfill {l : Launch} {D : va_G} {cy : Nat → ClassId} {N : Nat} {q : Nat → Nat} {m0 : Nat → Value} {a0 : Nat → vp_A} {sz ka : Nat} (ha : ka < N) (hka : gk ka = 13) {n : Nat} (hn : n < 2 ^ 31) {f : Nat → UInt64} (hA : a0 ka = (n, .inr (.inr (.inr (.inl f))))) (p1 : UInt64) : gMv l yJ7_fill_7f8df cJ7_fill_7f8df 5 none ({ frames := 0, cells := 0, slots := 0, locals := 0 } : Room) D cy N q m0 a0 sz [.ref (q ka), .double p1] (fun m' a' => m' = m0 ∧ a' ka = (n, .inr (.inr (.inr (.inl (dFill n f p1))))) ∧ (∀ j, nel j [ka] = false → a' j = a0 j)) := by
  refine g_ofv (by decide) (Nat.le_of_ble_eq_true rfl) ?_
  intro p e s M args below meth c hx hb hr hG hown hin hlocks hml hW hS ls hl
  have hL : ∀ (k i : Nat) (a : Nat → vp_A) (H : Heap) (locs : List Loc) (ls : Array Slot), i ≤ n → n ≤ i + k → lv_has ls 5 [(0, .ref (q ka)), (1, .double p1), (3, .int (nI i)), (4, .int (nI n))] → a ka = (n, .inr (.inr (.inr (.inl (dFill i f p1))))) → (∀ j, nel j [ka] = false → a j = a0 j) → GW D cy (gA N q s.heap.size) N q m0 a s H → va_S (gA N q s.heap.size) s.heap H locs → W p l e ({ frames := 0, cells := 0, slots := 0, locals := 0 } : Room) s M args below meth c H locs 0 0 (MQ below (va_Qv (fun (u : (Nat → Value) × (Nat → vp_A)) => u.1 = m0 ∧ u.2 ka = (n, .inr (.inr (.inr (.inl (dFill n f p1))))) ∧ (∀ j, nel j [ka] = false → u.2 j = a0 j)) (gB D cy N q s.heap.size) (gA N q s.heap.size)) args s 0 0 (gA N q s.heap.size)) (F0 M 6 ls []) := by
    intro k
    induction k with
    | zero =>
      intro i a H locs ls h1 h2 hl hA ho hW hS
      have hi : i = n := by omega
      subst hi
      refine lv_iload_n hx hb dJ7_fill_7f8df_6 rfl (lv_at hl 2 rfl) ?_
      refine lv_iload hx hb dJ7_fill_7f8df_7 (lv_at hl 3 rfl) ?_
      refine lv_icmp_ge (tgt := 22) hx hb dJ7_fill_7f8df_9 (by decide) (fun c1 => ?_) (fun c1 => ?_)
      · exact W.vret hx hb hr (fun t ht hw => ⟨⟨(m0, a), rfl, ⟨rfl, hA, ho⟩, g_end hW ht hw⟩, hS.F ht⟩) hS.2.2 dJ7_fill_7f8df_22 hlocks
      · exact absurd (nI_le (Nat.le_refl i) hn) c1
    | succ k ih =>
      intro i a H locs ls h1 h2 hl hA ho hW hS
      refine lv_iload_n hx hb dJ7_fill_7f8df_6 rfl (lv_at hl 2 rfl) ?_
      refine lv_iload hx hb dJ7_fill_7f8df_7 (lv_at hl 3 rfl) ?_
      refine lv_icmp_ge (tgt := 22) hx hb dJ7_fill_7f8df_9 (by decide) (fun c1 => ?_) (fun c1 => ?_)
      · have hi : i = n := by
          rcases Nat.lt_or_ge i n with h | h
          · exact absurd c1 (nI_ge h hn)
          · omega
        subst hi
        exact W.vret hx hb hr (fun t ht hw => ⟨⟨(m0, a), rfl, ⟨rfl, hA, ho⟩, g_end hW ht hw⟩, hS.F ht⟩) hS.2.2 dJ7_fill_7f8df_22 hlocks
      · have hi : i < n := by
          rcases Nat.lt_or_ge i n with h | h
          · exact h
          · exact absurd (nI_le h (by omega)) c1
        refine lv_aload_n hx hb dJ7_fill_7f8df_12 rfl (lv_at hl 0 rfl) ?_
        refine lv_iload_n hx hb dJ7_fill_7f8df_13 rfl (lv_at hl 2 rfl) ?_
        refine lv_dload_n hx hb dJ7_fill_7f8df_14 rfl (lv_at hl 1 rfl) ?_
        refine g_dast hx hb hW hS ha hka hA (vp_in_nI hi hn) dJ7_fill_7f8df_15 (fun a1 H locs ha1 ho1 hW hS => ?_)
        have ha1 : a1 ka = (n, .inr (.inr (.inr (.inl (dFill (i + 1) f p1))))) := by rw [ha1, nI_clamp (by omega), dFill_s]
        refine lv_iinc (v := nI (i + 1)) (lv' := [(3, .int (nI (i + 1))), (0, .ref (q ka)), (1, .double p1), (4, .int (nI n))]) hx hb dJ7_fill_7f8df_16 hl (k := 2) rfl (nI_1 i) (by decide) rfl (fun ls hl => ?_)
        refine lv_goto (tgt := 6) hx hb dJ7_fill_7f8df_19 (by decide) ?_
        exact ih (i + 1) a1 H locs ls hi (by omega) (lv_sub hl [1, 2, 0, 3] rfl) ha1 (offm ho (off1 ho1) (by simp [nel])) hW hS
  refine lv_iconst (v := nI 0) hx hb dJ7_fill_7f8df_0 (by decide) ?_
  refine lv_istore_n (lv' := [(3, .int (nI 0)), (0, .ref (q ka)), (1, .double p1)]) hx hb dJ7_fill_7f8df_1 rfl hl (by decide) rfl (fun ls hl => ?_)
  refine lv_aload_n hx hb dJ7_fill_7f8df_2 rfl (lv_at hl 1 rfl) ?_
  refine g_alen hx hb hW (t := 0) ha hka (by decide) hA (v := nI n) rfl dJ7_fill_7f8df_3 ?_
  refine lv_istore (lv' := [(4, .int (nI n)), (3, .int (nI 0)), (0, .ref (q ka)), (1, .double p1)]) hx hb dJ7_fill_7f8df_4 hl (by decide) rfl (fun ls hl => ?_)
  exact hL n 0 a0 _ _ ls (Nat.zero_le n) (by omega) (lv_sub hl [2, 3, 1, 0] rfl) (by rw [dFill_0]; exact hA) off0 hW hS

-- java.lang.Double.isNaN (D)Z
def fJxe99ae_isNaN_b9ae7 (p0 : UInt64) : Int32 := (if (Op.cmpValue (FP.dcmp p0 p0) .l) = 0 then 0 else 1)
theorem dJxe99ae_isNaN_b9ae7_0 : decode cJxe99ae_isNaN_b9ae7 0 = .ok (.dload_n 0, 1) := by decide +kernel
theorem dJxe99ae_isNaN_b9ae7_1 : decode cJxe99ae_isNaN_b9ae7 1 = .ok (.dload_n 0, 1) := by decide +kernel
theorem dJxe99ae_isNaN_b9ae7_2 : decode cJxe99ae_isNaN_b9ae7 2 = .ok (.dcmp .l, 1) := by decide +kernel
theorem dJxe99ae_isNaN_b9ae7_3 : decode cJxe99ae_isNaN_b9ae7 3 = .ok (.ifCond .eq 7, 3) := by decide +kernel
theorem dJxe99ae_isNaN_b9ae7_6 : decode cJxe99ae_isNaN_b9ae7 6 = .ok (.iconst 1, 1) := by decide +kernel
theorem dJxe99ae_isNaN_b9ae7_7 : decode cJxe99ae_isNaN_b9ae7 7 = .ok (.goto 4, 3) := by decide +kernel
theorem dJxe99ae_isNaN_b9ae7_10 : decode cJxe99ae_isNaN_b9ae7 10 = .ok (.iconst 0, 1) := by decide +kernel
theorem dJxe99ae_isNaN_b9ae7_11 : decode cJxe99ae_isNaN_b9ae7 11 = .ok (.ireturn, 1) := by decide +kernel
set_option maxHeartbeats 4000000 in
set_option maxRecDepth 100000 in
theorem kJxe99ae_isNaN_b9ae7 {l : Launch} {D : va_G} {cy : Nat → ClassId} {N : Nat} {q : Nat → Nat} {m0 : Nat → Value} {a0 : Nat → vp_A} {sz : Nat} (hN : 105 ≤ N) (p0 : UInt64) : gMi l yJxe99ae_isNaN_b9ae7 cJxe99ae_isNaN_b9ae7 2 (some .boolean) ({ frames := 0, cells := 0, slots := 0, locals := 0 } : Room) D cy N q m0 a0 sz [.double p0] (fun r m' a' => r = (fJxe99ae_isNaN_b9ae7 p0) ∧ m' = m0 ∧ a' = a0) := by
  generalize hs0 : fJxe99ae_isNaN_b9ae7 p0 = X0
  refine g_ofi (by decide) (Nat.le_of_ble_eq_true rfl) ?_
  intro p e s M args below meth c hx hb hr hG hown hin hlocks hml hW hS ls hl
  unfold fJxe99ae_isNaN_b9ae7 at hs0
  refine lv_dload_n hx hb dJxe99ae_isNaN_b9ae7_0 rfl (lv_at hl 0 rfl) ?_
  refine lv_dload_n hx hb dJxe99ae_isNaN_b9ae7_1 rfl (lv_at hl 0 rfl) ?_
  refine lv_dcmp hx hb dJxe99ae_isNaN_b9ae7_2 ?_
  refine lv_if_eq (tgt := 10) hx hb dJxe99ae_isNaN_b9ae7_3 (by decide) (fun c1 => ?_) (fun c1 => ?_)
  · rw [if_pos c1] at hs0
    refine lv_iconst (v := 0) hx hb dJxe99ae_isNaN_b9ae7_10 (by decide) ?_
    subst hs0
    exact W.zret hx hb hr rfl (fun t ht hw => ⟨⟨_, (m0, a0), rfl, ⟨rfl, rfl, rfl⟩, g_end hW ht hw⟩, hS.F ht⟩) hS.2.2 dJxe99ae_isNaN_b9ae7_11 hlocks
  · rw [if_neg c1] at hs0
    refine lv_iconst (v := 1) hx hb dJxe99ae_isNaN_b9ae7_6 (by decide) ?_
    refine lv_goto (tgt := 11) hx hb dJxe99ae_isNaN_b9ae7_7 (by decide) ?_
    subst hs0
    exact W.zret hx hb hr rfl (fun t ht hw => ⟨⟨_, (m0, a0), rfl, ⟨rfl, rfl, rfl⟩, g_end hW ht hw⟩, hS.F ht⟩) hS.2.2 dJxe99ae_isNaN_b9ae7_11 hlocks
-- java.lang.Double.doubleToLongBits (D)J
def fJxe99ae_doubleToLongBits_ccdee (p0 : UInt64) : Int64 := (if (fJxe99ae_isNaN_b9ae7 p0) = 0 then p0.toInt64 else 9221120237041090560)
theorem dJxe99ae_doubleToLongBits_ccdee_0 : decode cJxe99ae_doubleToLongBits_ccdee 0 = .ok (.dload_n 0, 1) := by decide +kernel
theorem dJxe99ae_doubleToLongBits_ccdee_1 : decode cJxe99ae_doubleToLongBits_ccdee 1 = .ok (.invokestatic 122, 3) := by decide +kernel
theorem dJxe99ae_doubleToLongBits_ccdee_4 : decode cJxe99ae_doubleToLongBits_ccdee 4 = .ok (.ifCond .ne 8, 3) := by decide +kernel
theorem dJxe99ae_doubleToLongBits_ccdee_7 : decode cJxe99ae_doubleToLongBits_ccdee 7 = .ok (.dload_n 0, 1) := by decide +kernel
theorem dJxe99ae_doubleToLongBits_ccdee_8 : decode cJxe99ae_doubleToLongBits_ccdee 8 = .ok (.invokestatic 134, 3) := by decide +kernel
theorem dJxe99ae_doubleToLongBits_ccdee_11 : decode cJxe99ae_doubleToLongBits_ccdee 11 = .ok (.lreturn, 1) := by decide +kernel
theorem dJxe99ae_doubleToLongBits_ccdee_12 : decode cJxe99ae_doubleToLongBits_ccdee 12 = .ok (.ldc2_w 137, 3) := by decide +kernel
theorem dJxe99ae_doubleToLongBits_ccdee_15 : decode cJxe99ae_doubleToLongBits_ccdee 15 = .ok (.lreturn, 1) := by decide +kernel
set_option maxHeartbeats 4000000 in
set_option maxRecDepth 100000 in
theorem kJxe99ae_doubleToLongBits_ccdee {l : Launch} {D : va_G} {cy : Nat → ClassId} {N : Nat} {q : Nat → Nat} {m0 : Nat → Value} {a0 : Nat → vp_A} {sz : Nat} (hN : 105 ≤ N) (p0 : UInt64) : gMl l yJxe99ae_doubleToLongBits_ccdee cJxe99ae_doubleToLongBits_ccdee 2 (some .long) ({ frames := 1, cells := 0, slots := 0, locals := 25 } : Room) D cy N q m0 a0 sz [.double p0] (fun r m' a' => r = (fJxe99ae_doubleToLongBits_ccdee p0) ∧ m' = m0 ∧ a' = a0) := by
  generalize hs0 : fJxe99ae_doubleToLongBits_ccdee p0 = X0
  refine g_ofl (by decide) (Nat.le_of_ble_eq_true rfl) ?_
  intro p e s M args below meth c hx hb hr hG hown hin hlocks hml hW hS ls hl
  unfold fJxe99ae_doubleToLongBits_ccdee at hs0
  refine lv_dload_n hx hb dJxe99ae_doubleToLongBits_ccdee_0 rfl (lv_at hl 0 rfl) ?_
  refine g_SiR (n := 1) hx hb hml hown hG hW hS [.double p0] (kJxe99ae_isNaN_b9ae7 hN p0) rfl (gd_S gx979 gx980 gx972 gx981) rfl rfl (by decide) ⟨Nat.le_of_ble_eq_true rfl, Nat.le_of_ble_eq_true rfl⟩ rfl hl (Nat.le_of_ble_eq_true rfl) ⟨Nat.zero_le _, Nat.zero_le _⟩ dJxe99ae_doubleToLongBits_ccdee_1 (fun H locs hW hS => ?_)
  refine lv_if_ne (tgt := 12) hx hb dJxe99ae_doubleToLongBits_ccdee_4 (by decide) (fun c2 => ?_) (fun c2 => ?_)
  · rw [if_neg c2] at hs0
    refine lv_ldc2 (v := 9221120237041090560) hx hb hown (hG _ gx978) dJxe99ae_doubleToLongBits_ccdee_12 ?_
    subst hs0
    exact W.lret hx hb hr (fun t ht hw => ⟨⟨_, (m0, a0), rfl, ⟨rfl, rfl, rfl⟩, g_end hW ht hw⟩, hS.F ht⟩) hS.2.2 dJxe99ae_doubleToLongBits_ccdee_15 hlocks
  · rw [if_pos c2] at hs0
    refine lv_dload_n hx hb dJxe99ae_doubleToLongBits_ccdee_7 rfl (lv_at hl 0 rfl) ?_
    refine vn_d2l hx hb (hml.trans hl.1.symm) hown (hG _ gx974) (hG _ gx975) (hG _ gx976) (hG _ gx977) (Nat.le_of_ble_eq_true rfl) (Nat.le_of_ble_eq_true rfl) dJxe99ae_doubleToLongBits_ccdee_8 ?_
    subst hs0
    exact W.lret hx hb hr (fun t ht hw => ⟨⟨_, (m0, a0), rfl, ⟨rfl, rfl, rfl⟩, g_end hW ht hw⟩, hS.F ht⟩) hS.2.2 dJxe99ae_doubleToLongBits_ccdee_11 hlocks
-- HealLink$Chances.bitsOf (D)J
def fX3_bitsOf_S8 (F : Nat) (v2 : UInt64) (v4 : Int32) (v5 : Int32) : Option ((UInt64 × Int32) ⊕ (UInt64 × Int32 × Int32)) := (if 1100 ≤ v5 then some (Sum.inl (v2, v4)) else (if (Op.cmpValue (FP.dcmp v2 (4611686018427387904 : UInt64)) .l) < 0 then some (Sum.inl (v2, v4)) else (if nn64 (FP.ddiv v2 (4611686018427387904 : UInt64)) = true then some (Sum.inr (FP.ddiv v2 (4611686018427387904 : UInt64), v4 + 1, v5 + 1)) else none)))
def fX3_bitsOf_S42 (F : Nat) (v2 : UInt64) (v4 : Int32) (v5 : Int32) : Option ((UInt64 × Int32) ⊕ (UInt64 × Int32 × Int32)) := (if 1022 ≤ v5 then some (Sum.inl (v2, v4)) else (if 0 ≤ (Op.cmpValue (FP.dcmp v2 FP.dconst1) .g) then some (Sum.inl (v2, v4)) else (if v4 ≤ (-1022) then some (Sum.inl (v2, v4)) else (if nn64 (FP.dmul v2 (4611686018427387904 : UInt64)) = true then some (Sum.inr (FP.dmul v2 (4611686018427387904 : UInt64), v4 + (-1), v5 + 1)) else none))))
def fX3_bitsOf_J79 (F : Nat) (v2j14 : UInt64) (v4j14 : Int32) : Option (Int64) := (if 0 ≤ (Op.cmpValue (FP.dcmp v2j14 FP.dconst1) .g) then (if nn64 (FP.dsub v2j14 FP.dconst1) = true then (if nn64 (FP.dmul (FP.dsub v2j14 FP.dconst1) (4841369599423283200 : UInt64)) = true then some ((((v4j14 + 1023).toInt64) <<< ((52 : Int32).toInt64 &&& 63)) ||| (FP.d2l (FP.dmul (FP.dsub v2j14 FP.dconst1) (4841369599423283200 : UInt64)))) else none) else none) else (if nn64 (FP.dmul v2j14 (4841369599423283200 : UInt64)) = true then some (FP.d2l (FP.dmul v2j14 (4841369599423283200 : UInt64))) else none))
def fX3_bitsOf_J39 (F : Nat) (v2j5 : UInt64) (v4j5 : Int32) : Option (Int64) := (gloop (fun u9 : (UInt64 × Int32 × Int32) => fX3_bitsOf_S42 F u9.1 u9.2.1 u9.2.2) F (v2j5, v4j5, 0)).bind (fun t9_79 => fX3_bitsOf_J79 F t9_79.1 t9_79.2)
def fX3_bitsOf (F : Nat) (p0 : UInt64) : Option (Int64) := (gloop (fun u1 : (UInt64 × Int32 × Int32) => fX3_bitsOf_S8 F u1.1 u1.2.1 u1.2.2) F (p0, 0, 0)).bind (fun t1_39 => fX3_bitsOf_J39 F t1_39.1 t1_39.2)
theorem dX3_bitsOf_0 : decode cX3_bitsOf 0 = .ok (.dload_n 0, 1) := by decide +kernel
theorem dX3_bitsOf_1 : decode cX3_bitsOf 1 = .ok (.dstore_n 2, 1) := by decide +kernel
theorem dX3_bitsOf_2 : decode cX3_bitsOf 2 = .ok (.iconst 0, 1) := by decide +kernel
theorem dX3_bitsOf_3 : decode cX3_bitsOf 3 = .ok (.istore 4, 2) := by decide +kernel
theorem dX3_bitsOf_5 : decode cX3_bitsOf 5 = .ok (.iconst 0, 1) := by decide +kernel
theorem dX3_bitsOf_6 : decode cX3_bitsOf 6 = .ok (.istore 5, 2) := by decide +kernel
theorem dX3_bitsOf_8 : decode cX3_bitsOf 8 = .ok (.iload 5, 2) := by decide +kernel
theorem dX3_bitsOf_10 : decode cX3_bitsOf 10 = .ok (.sipush 1100, 3) := by decide +kernel
theorem dX3_bitsOf_13 : decode cX3_bitsOf 13 = .ok (.if_icmp .ge 26, 3) := by decide +kernel
theorem dX3_bitsOf_16 : decode cX3_bitsOf 16 = .ok (.dload_n 2, 1) := by decide +kernel
theorem dX3_bitsOf_17 : decode cX3_bitsOf 17 = .ok (.ldc2_w 59, 3) := by decide +kernel
theorem dX3_bitsOf_20 : decode cX3_bitsOf 20 = .ok (.dcmp .l, 1) := by decide +kernel
theorem dX3_bitsOf_21 : decode cX3_bitsOf 21 = .ok (.ifCond .lt 18, 3) := by decide +kernel
theorem dX3_bitsOf_24 : decode cX3_bitsOf 24 = .ok (.dload_n 2, 1) := by decide +kernel
theorem dX3_bitsOf_25 : decode cX3_bitsOf 25 = .ok (.ldc2_w 59, 3) := by decide +kernel
theorem dX3_bitsOf_28 : decode cX3_bitsOf 28 = .ok (.ddiv, 1) := by decide +kernel
theorem dX3_bitsOf_29 : decode cX3_bitsOf 29 = .ok (.dstore_n 2, 1) := by decide +kernel
theorem dX3_bitsOf_30 : decode cX3_bitsOf 30 = .ok (.iinc 4 1, 3) := by decide +kernel
theorem dX3_bitsOf_33 : decode cX3_bitsOf 33 = .ok (.iinc 5 1, 3) := by decide +kernel
theorem dX3_bitsOf_36 : decode cX3_bitsOf 36 = .ok (.goto (-28), 3) := by decide +kernel
theorem dX3_bitsOf_39 : decode cX3_bitsOf 39 = .ok (.iconst 0, 1) := by decide +kernel
theorem dX3_bitsOf_40 : decode cX3_bitsOf 40 = .ok (.istore 5, 2) := by decide +kernel
theorem dX3_bitsOf_42 : decode cX3_bitsOf 42 = .ok (.iload 5, 2) := by decide +kernel
theorem dX3_bitsOf_44 : decode cX3_bitsOf 44 = .ok (.sipush 1022, 3) := by decide +kernel
theorem dX3_bitsOf_47 : decode cX3_bitsOf 47 = .ok (.if_icmp .ge 32, 3) := by decide +kernel
theorem dX3_bitsOf_50 : decode cX3_bitsOf 50 = .ok (.dload_n 2, 1) := by decide +kernel
theorem dX3_bitsOf_51 : decode cX3_bitsOf 51 = .ok (.dconst 1, 1) := by decide +kernel
theorem dX3_bitsOf_52 : decode cX3_bitsOf 52 = .ok (.dcmp .g, 1) := by decide +kernel
theorem dX3_bitsOf_53 : decode cX3_bitsOf 53 = .ok (.ifCond .ge 26, 3) := by decide +kernel
theorem dX3_bitsOf_56 : decode cX3_bitsOf 56 = .ok (.iload 4, 2) := by decide +kernel
theorem dX3_bitsOf_58 : decode cX3_bitsOf 58 = .ok (.sipush (-1022), 3) := by decide +kernel
theorem dX3_bitsOf_61 : decode cX3_bitsOf 61 = .ok (.if_icmp .le 18, 3) := by decide +kernel
theorem dX3_bitsOf_64 : decode cX3_bitsOf 64 = .ok (.dload_n 2, 1) := by decide +kernel
theorem dX3_bitsOf_65 : decode cX3_bitsOf 65 = .ok (.ldc2_w 59, 3) := by decide +kernel
theorem dX3_bitsOf_68 : decode cX3_bitsOf 68 = .ok (.dmul, 1) := by decide +kernel
theorem dX3_bitsOf_69 : decode cX3_bitsOf 69 = .ok (.dstore_n 2, 1) := by decide +kernel
theorem dX3_bitsOf_70 : decode cX3_bitsOf 70 = .ok (.iinc 4 (-1), 3) := by decide +kernel
theorem dX3_bitsOf_73 : decode cX3_bitsOf 73 = .ok (.iinc 5 1, 3) := by decide +kernel
theorem dX3_bitsOf_76 : decode cX3_bitsOf 76 = .ok (.goto (-34), 3) := by decide +kernel
theorem dX3_bitsOf_79 : decode cX3_bitsOf 79 = .ok (.dload_n 2, 1) := by decide +kernel
theorem dX3_bitsOf_80 : decode cX3_bitsOf 80 = .ok (.dconst 1, 1) := by decide +kernel
theorem dX3_bitsOf_81 : decode cX3_bitsOf 81 = .ok (.dcmp .g, 1) := by decide +kernel
theorem dX3_bitsOf_82 : decode cX3_bitsOf 82 = .ok (.ifCond .ge 10, 3) := by decide +kernel
theorem dX3_bitsOf_85 : decode cX3_bitsOf 85 = .ok (.dload_n 2, 1) := by decide +kernel
theorem dX3_bitsOf_86 : decode cX3_bitsOf 86 = .ok (.ldc2_w 61, 3) := by decide +kernel
theorem dX3_bitsOf_89 : decode cX3_bitsOf 89 = .ok (.dmul, 1) := by decide +kernel
theorem dX3_bitsOf_90 : decode cX3_bitsOf 90 = .ok (.d2l, 1) := by decide +kernel
theorem dX3_bitsOf_91 : decode cX3_bitsOf 91 = .ok (.lreturn, 1) := by decide +kernel
theorem dX3_bitsOf_92 : decode cX3_bitsOf 92 = .ok (.iload 4, 2) := by decide +kernel
theorem dX3_bitsOf_94 : decode cX3_bitsOf 94 = .ok (.sipush 1023, 3) := by decide +kernel
theorem dX3_bitsOf_97 : decode cX3_bitsOf 97 = .ok (.iadd, 1) := by decide +kernel
theorem dX3_bitsOf_98 : decode cX3_bitsOf 98 = .ok (.i2l, 1) := by decide +kernel
theorem dX3_bitsOf_99 : decode cX3_bitsOf 99 = .ok (.bipush 52, 2) := by decide +kernel
theorem dX3_bitsOf_101 : decode cX3_bitsOf 101 = .ok (.lshl, 1) := by decide +kernel
theorem dX3_bitsOf_102 : decode cX3_bitsOf 102 = .ok (.dload_n 2, 1) := by decide +kernel
theorem dX3_bitsOf_103 : decode cX3_bitsOf 103 = .ok (.dconst 1, 1) := by decide +kernel
theorem dX3_bitsOf_104 : decode cX3_bitsOf 104 = .ok (.dsub, 1) := by decide +kernel
theorem dX3_bitsOf_105 : decode cX3_bitsOf 105 = .ok (.ldc2_w 61, 3) := by decide +kernel
theorem dX3_bitsOf_108 : decode cX3_bitsOf 108 = .ok (.dmul, 1) := by decide +kernel
theorem dX3_bitsOf_109 : decode cX3_bitsOf 109 = .ok (.d2l, 1) := by decide +kernel
theorem dX3_bitsOf_110 : decode cX3_bitsOf 110 = .ok (.lor, 1) := by decide +kernel
theorem dX3_bitsOf_111 : decode cX3_bitsOf 111 = .ok (.lreturn, 1) := by decide +kernel
set_option maxHeartbeats 4000000 in
set_option maxRecDepth 100000 in
theorem kX3_bitsOf {l : Launch} {D : va_G} {cy : Nat → ClassId} {N : Nat} {q : Nat → Nat} {m0 : Nat → Value} {a0 : Nat → vp_A} {sz : Nat} (hN : 105 ≤ N) (F : Nat) (p0 : UInt64) {X0 : Int64} (hs0 : fX3_bitsOf F p0 = some X0) : gMl l yX3_bitsOf cX3_bitsOf 6 (some .long) ({ frames := 0, cells := 0, slots := 0, locals := 0 } : Room) D cy N q m0 a0 sz [.double p0] (fun r m' a' => r = X0 ∧ m' = m0 ∧ a' = a0) := by
  refine g_ofl (by decide) (Nat.le_of_ble_eq_true rfl) ?_
  intro p e s M args below meth c hx hb hr hG hown hin hlocks hml hW hS ls hl
  unfold fX3_bitsOf at hs0
  have hJ79_0 : ∀ (v2j14 : UInt64) (v4j14 : Int32) (H : Heap) (locs : List Loc) (ls : Array Slot) (hl : lv_has ls 6 [(2, .double v2j14), (4, .int v4j14)]) (hs0 : fX3_bitsOf_J79 F v2j14 v4j14 = some X0) (hW : GW D cy (gA N q s.heap.size) N q m0 a0 s H) (hS : va_S (gA N q s.heap.size) s.heap H locs), W p l e ({ frames := 0, cells := 0, slots := 0, locals := 0 } : Room) s M args below meth c H locs 0 0 (MQ below (va_Ql (fun (r : Int64) (u : (Nat → Value) × (Nat → vp_A)) => r = X0 ∧ u.1 = m0 ∧ u.2 = a0) (gB D cy N q s.heap.size) (gA N q s.heap.size)) args s 0 0 (gA N q s.heap.size)) (F0 M 79 ls []) := by
    intro v2j14 v4j14 H locs ls hl hs0 hW hS
    unfold fX3_bitsOf_J79 at hs0
    refine lv_dload_n hx hb dX3_bitsOf_79 rfl (lv_at hl 0 rfl) ?_
    refine lv_dconst1 hx hb dX3_bitsOf_80 ?_
    refine lv_dcmp hx hb dX3_bitsOf_81 ?_
    refine lv_if_ge (tgt := 92) hx hb dX3_bitsOf_82 (by decide) (fun c19 => ?_) (fun c19 => ?_)
    · rw [if_pos c19] at hs0
      refine lv_iload hx hb dX3_bitsOf_92 (lv_at hl 1 rfl) ?_
      refine lv_sipush (v := 1023) hx hb dX3_bitsOf_94 (by decide) ?_
      refine lv_iadd hx hb dX3_bitsOf_97 ?_
      refine lv_i2l hx hb dX3_bitsOf_98 rfl ?_
      refine lv_bipush (v := 52) hx hb dX3_bitsOf_99 (by decide) ?_
      refine lv_lshl hx hb dX3_bitsOf_101 rfl ?_
      refine lv_dload_n hx hb dX3_bitsOf_102 rfl (lv_at hl 0 rfl) ?_
      refine lv_dconst1 hx hb dX3_bitsOf_103 ?_
      obtain ⟨hd20, hs0⟩ := oif hs0
      refine lv_dsub hx hb dX3_bitsOf_104 (nn64.p hd20) ?_
      refine lv_ldc2d (v := 4841369599423283200) hx hb hown (hG _ gx960) dX3_bitsOf_105 ?_
      obtain ⟨hd21, hs0⟩ := oif hs0
      refine lv_dmul hx hb dX3_bitsOf_108 (nn64.p hd21) ?_
      refine lv_d2l hx hb dX3_bitsOf_109 ?_
      refine lv_lor hx hb dX3_bitsOf_110 ?_
      have hs0 := Option.some.inj hs0
      subst hs0
      exact W.lret hx hb hr (fun t ht hw => ⟨⟨_, (m0, a0), rfl, ⟨rfl, rfl, rfl⟩, g_end hW ht hw⟩, hS.F ht⟩) hS.2.2 dX3_bitsOf_111 hlocks
    · rw [if_neg c19] at hs0
      refine lv_dload_n hx hb dX3_bitsOf_85 rfl (lv_at hl 0 rfl) ?_
      refine lv_ldc2d (v := 4841369599423283200) hx hb hown (hG _ gx960) dX3_bitsOf_86 ?_
      obtain ⟨hd22, hs0⟩ := oif hs0
      refine lv_dmul hx hb dX3_bitsOf_89 (nn64.p hd22) ?_
      refine lv_d2l hx hb dX3_bitsOf_90 ?_
      have hs0 := Option.some.inj hs0
      subst hs0
      exact W.lret hx hb hr (fun t ht hw => ⟨⟨_, (m0, a0), rfl, ⟨rfl, rfl, rfl⟩, g_end hW ht hw⟩, hS.F ht⟩) hS.2.2 dX3_bitsOf_91 hlocks
  have hJ39_0 : ∀ (v2j5 : UInt64) (v4j5 : Int32) (H : Heap) (locs : List Loc) (ls : Array Slot) (hl : lv_has ls 6 [(2, .double v2j5), (4, .int v4j5)]) (hs0 : fX3_bitsOf_J39 F v2j5 v4j5 = some X0) (hW : GW D cy (gA N q s.heap.size) N q m0 a0 s H) (hS : va_S (gA N q s.heap.size) s.heap H locs), W p l e ({ frames := 0, cells := 0, slots := 0, locals := 0 } : Room) s M args below meth c H locs 0 0 (MQ below (va_Ql (fun (r : Int64) (u : (Nat → Value) × (Nat → vp_A)) => r = X0 ∧ u.1 = m0 ∧ u.2 = a0) (gB D cy N q s.heap.size) (gA N q s.heap.size)) args s 0 0 (gA N q s.heap.size)) (F0 M 39 ls []) := by
    intro v2j5 v4j5 H locs ls hl hs0 hW hS
    unfold fX3_bitsOf_J39 at hs0
    refine lv_iconst (v := 0) hx hb dX3_bitsOf_39 (by decide) ?_
    refine lv_istore (lv' := [(5, .int 0), (2, .double v2j5), (4, .int v4j5)]) hx hb dX3_bitsOf_40 hl (by decide) rfl (fun ls hl => ?_)
    obtain ⟨r9, hg9, hs0⟩ := obind hs0
    have hE1_79 : ∀ (t9_79 : UInt64 × Int32) (hr9 : t9_79 = r9) (H : Heap) (locs : List Loc) (ls : Array Slot) (hl : lv_has ls 6 [(2, .double t9_79.1), (4, .int t9_79.2)]) (hW : GW D cy (gA N q s.heap.size) N q m0 a0 s H) (hS : va_S (gA N q s.heap.size) s.heap H locs), W p l e ({ frames := 0, cells := 0, slots := 0, locals := 0 } : Room) s M args below meth c H locs 0 0 (MQ below (va_Ql (fun (r : Int64) (u : (Nat → Value) × (Nat → vp_A)) => r = X0 ∧ u.1 = m0 ∧ u.2 = a0) (gB D cy N q s.heap.size) (gA N q s.heap.size)) args s 0 0 (gA N q s.heap.size)) (F0 M 79 ls []) := by
      intro t9_79 hr9 H locs ls hl hW hS
      subst hr9
      exact hJ79_0 t9_79.1 t9_79.2 _ _ ls (lv_sub hl [0, 1] rfl) hs0 hW hS
    have hL1 : ∀ (n : Nat) (v2k9 : UInt64) (v4k9 : Int32) (v5k9 : Int32) (H : Heap) (locs : List Loc) (ls : Array Slot) (hl : lv_has ls 6 [(2, .double v2k9), (4, .int v4k9), (5, .int v5k9)]) (hg9 : gloop (fun u9 : (UInt64 × Int32 × Int32) => fX3_bitsOf_S42 F u9.1 u9.2.1 u9.2.2) n (v2k9, v4k9, v5k9) = some r9) (hW : GW D cy (gA N q s.heap.size) N q m0 a0 s H) (hS : va_S (gA N q s.heap.size) s.heap H locs), W p l e ({ frames := 0, cells := 0, slots := 0, locals := 0 } : Room) s M args below meth c H locs 0 0 (MQ below (va_Ql (fun (r : Int64) (u : (Nat → Value) × (Nat → vp_A)) => r = X0 ∧ u.1 = m0 ∧ u.2 = a0) (gB D cy N q s.heap.size) (gA N q s.heap.size)) args s 0 0 (gA N q s.heap.size)) (F0 M 42 ls []) := by
      intro n
      induction n with
      | zero => intro v2k9 v4k9 v5k9 H locs ls hl hg9 hW hS; exact (gl_zero hg9).elim
      | succ n ih1 =>
        intro v2k9 v4k9 v5k9 H locs ls hl hg9 hW hS
        obtain ⟨X1, hs1, hXl1, hXr1⟩ := gl_succ hg9
        have hs1 : fX3_bitsOf_S42 F v2k9 v4k9 v5k9 = some X1 := hs1
        unfold fX3_bitsOf_S42 at hs1
        refine lv_iload hx hb dX3_bitsOf_42 (lv_at hl 2 rfl) ?_
        refine lv_sipush (v := 1022) hx hb dX3_bitsOf_44 (by decide) ?_
        refine lv_icmp_ge (tgt := 79) hx hb dX3_bitsOf_47 (by decide) (fun c15 => ?_) (fun c15 => ?_)
        · rw [if_pos c15] at hs1
          exact hE1_79 (v2k9, v4k9) (hXl1 _ (Option.some.inj hs1).symm) _ _ ls (lv_sub hl [0, 1] rfl) hW hS
        · rw [if_neg c15] at hs1
          refine lv_dload_n hx hb dX3_bitsOf_50 rfl (lv_at hl 0 rfl) ?_
          refine lv_dconst1 hx hb dX3_bitsOf_51 ?_
          refine lv_dcmp hx hb dX3_bitsOf_52 ?_
          refine lv_if_ge (tgt := 79) hx hb dX3_bitsOf_53 (by decide) (fun c16 => ?_) (fun c16 => ?_)
          · rw [if_pos c16] at hs1
            exact hE1_79 (v2k9, v4k9) (hXl1 _ (Option.some.inj hs1).symm) _ _ ls (lv_sub hl [0, 1] rfl) hW hS
          · rw [if_neg c16] at hs1
            refine lv_iload hx hb dX3_bitsOf_56 (lv_at hl 1 rfl) ?_
            refine lv_sipush (v := (-1022)) hx hb dX3_bitsOf_58 (by decide) ?_
            refine lv_icmp_le (tgt := 79) hx hb dX3_bitsOf_61 (by decide) (fun c17 => ?_) (fun c17 => ?_)
            · rw [if_pos c17] at hs1
              exact hE1_79 (v2k9, v4k9) (hXl1 _ (Option.some.inj hs1).symm) _ _ ls (lv_sub hl [0, 1] rfl) hW hS
            · rw [if_neg c17] at hs1
              refine lv_dload_n hx hb dX3_bitsOf_64 rfl (lv_at hl 0 rfl) ?_
              refine lv_ldc2d (v := 4611686018427387904) hx hb hown (hG _ gx959) dX3_bitsOf_65 ?_
              obtain ⟨hd18, hs1⟩ := oif hs1
              refine lv_dmul hx hb dX3_bitsOf_68 (nn64.p hd18) ?_
              refine lv_dstore_n (lv' := [(2, .double (FP.dmul v2k9 (4611686018427387904 : UInt64))), (4, .int v4k9), (5, .int v5k9)]) hx hb dX3_bitsOf_69 rfl hl (by decide) rfl (fun ls hl => ?_)
              refine lv_iinc (v := v4k9 + (-1)) (lv' := [(4, .int (v4k9 + (-1))), (2, .double (FP.dmul v2k9 (4611686018427387904 : UInt64))), (5, .int v5k9)]) hx hb dX3_bitsOf_70 hl (k := 1) rfl (congrArg (fun z => v4k9 + z) (by decide : Int32.ofInt (-1) = (-1))) (by decide) rfl (fun ls hl => ?_)
              refine lv_iinc (v := v5k9 + 1) (lv' := [(5, .int (v5k9 + 1)), (4, .int (v4k9 + (-1))), (2, .double (FP.dmul v2k9 (4611686018427387904 : UInt64)))]) hx hb dX3_bitsOf_73 hl (k := 2) rfl rfl (by decide) rfl (fun ls hl => ?_)
              refine lv_goto (tgt := 42) hx hb dX3_bitsOf_76 (by decide) ?_
              exact ih1 (FP.dmul v2k9 (4611686018427387904 : UInt64)) (v4k9 + (-1)) (v5k9 + 1) _ _ ls (lv_sub hl [2, 1, 0] rfl) (hXr1 _ (Option.some.inj hs1).symm) hW hS
    exact hL1 F v2j5 v4j5 0 _ _ ls (lv_sub hl [1, 2, 0] rfl) hg9 hW hS
  refine lv_dload_n hx hb dX3_bitsOf_0 rfl (lv_at hl 0 rfl) ?_
  refine lv_dstore_n (lv' := [(2, .double p0), (0, .double p0)]) hx hb dX3_bitsOf_1 rfl hl (by decide) rfl (fun ls hl => ?_)
  refine lv_iconst (v := 0) hx hb dX3_bitsOf_2 (by decide) ?_
  refine lv_istore (lv' := [(4, .int 0), (2, .double p0), (0, .double p0)]) hx hb dX3_bitsOf_3 hl (by decide) rfl (fun ls hl => ?_)
  refine lv_iconst (v := 0) hx hb dX3_bitsOf_5 (by decide) ?_
  refine lv_istore (lv' := [(5, .int 0), (4, .int 0), (2, .double p0), (0, .double p0)]) hx hb dX3_bitsOf_6 hl (by decide) rfl (fun ls hl => ?_)
  obtain ⟨r1, hg1, hs0⟩ := obind hs0
  have hE1_39 : ∀ (t1_39 : UInt64 × Int32) (hr1 : t1_39 = r1) (H : Heap) (locs : List Loc) (ls : Array Slot) (hl : lv_has ls 6 [(2, .double t1_39.1), (4, .int t1_39.2)]) (hW : GW D cy (gA N q s.heap.size) N q m0 a0 s H) (hS : va_S (gA N q s.heap.size) s.heap H locs), W p l e ({ frames := 0, cells := 0, slots := 0, locals := 0 } : Room) s M args below meth c H locs 0 0 (MQ below (va_Ql (fun (r : Int64) (u : (Nat → Value) × (Nat → vp_A)) => r = X0 ∧ u.1 = m0 ∧ u.2 = a0) (gB D cy N q s.heap.size) (gA N q s.heap.size)) args s 0 0 (gA N q s.heap.size)) (F0 M 39 ls []) := by
    intro t1_39 hr1 H locs ls hl hW hS
    subst hr1
    exact hJ39_0 t1_39.1 t1_39.2 _ _ ls (lv_sub hl [0, 1] rfl) hs0 hW hS
  have hL1 : ∀ (n : Nat) (v2k1 : UInt64) (v4k1 : Int32) (v5k1 : Int32) (H : Heap) (locs : List Loc) (ls : Array Slot) (hl : lv_has ls 6 [(2, .double v2k1), (4, .int v4k1), (5, .int v5k1)]) (hg1 : gloop (fun u1 : (UInt64 × Int32 × Int32) => fX3_bitsOf_S8 F u1.1 u1.2.1 u1.2.2) n (v2k1, v4k1, v5k1) = some r1) (hW : GW D cy (gA N q s.heap.size) N q m0 a0 s H) (hS : va_S (gA N q s.heap.size) s.heap H locs), W p l e ({ frames := 0, cells := 0, slots := 0, locals := 0 } : Room) s M args below meth c H locs 0 0 (MQ below (va_Ql (fun (r : Int64) (u : (Nat → Value) × (Nat → vp_A)) => r = X0 ∧ u.1 = m0 ∧ u.2 = a0) (gB D cy N q s.heap.size) (gA N q s.heap.size)) args s 0 0 (gA N q s.heap.size)) (F0 M 8 ls []) := by
    intro n
    induction n with
    | zero => intro v2k1 v4k1 v5k1 H locs ls hl hg1 hW hS; exact (gl_zero hg1).elim
    | succ n ih1 =>
      intro v2k1 v4k1 v5k1 H locs ls hl hg1 hW hS
      obtain ⟨X1, hs1, hXl1, hXr1⟩ := gl_succ hg1
      have hs1 : fX3_bitsOf_S8 F v2k1 v4k1 v5k1 = some X1 := hs1
      unfold fX3_bitsOf_S8 at hs1
      refine lv_iload hx hb dX3_bitsOf_8 (lv_at hl 2 rfl) ?_
      refine lv_sipush (v := 1100) hx hb dX3_bitsOf_10 (by decide) ?_
      refine lv_icmp_ge (tgt := 39) hx hb dX3_bitsOf_13 (by decide) (fun c6 => ?_) (fun c6 => ?_)
      · rw [if_pos c6] at hs1
        exact hE1_39 (v2k1, v4k1) (hXl1 _ (Option.some.inj hs1).symm) _ _ ls (lv_sub hl [0, 1] rfl) hW hS
      · rw [if_neg c6] at hs1
        refine lv_dload_n hx hb dX3_bitsOf_16 rfl (lv_at hl 0 rfl) ?_
        refine lv_ldc2d (v := 4611686018427387904) hx hb hown (hG _ gx959) dX3_bitsOf_17 ?_
        refine lv_dcmp hx hb dX3_bitsOf_20 ?_
        refine lv_if_lt (tgt := 39) hx hb dX3_bitsOf_21 (by decide) (fun c7 => ?_) (fun c7 => ?_)
        · rw [if_pos c7] at hs1
          exact hE1_39 (v2k1, v4k1) (hXl1 _ (Option.some.inj hs1).symm) _ _ ls (lv_sub hl [0, 1] rfl) hW hS
        · rw [if_neg c7] at hs1
          refine lv_dload_n hx hb dX3_bitsOf_24 rfl (lv_at hl 0 rfl) ?_
          refine lv_ldc2d (v := 4611686018427387904) hx hb hown (hG _ gx959) dX3_bitsOf_25 ?_
          obtain ⟨hd8, hs1⟩ := oif hs1
          refine lv_ddiv hx hb dX3_bitsOf_28 (nn64.p hd8) ?_
          refine lv_dstore_n (lv' := [(2, .double (FP.ddiv v2k1 (4611686018427387904 : UInt64))), (4, .int v4k1), (5, .int v5k1)]) hx hb dX3_bitsOf_29 rfl hl (by decide) rfl (fun ls hl => ?_)
          refine lv_iinc (v := v4k1 + 1) (lv' := [(4, .int (v4k1 + 1)), (2, .double (FP.ddiv v2k1 (4611686018427387904 : UInt64))), (5, .int v5k1)]) hx hb dX3_bitsOf_30 hl (k := 1) rfl rfl (by decide) rfl (fun ls hl => ?_)
          refine lv_iinc (v := v5k1 + 1) (lv' := [(5, .int (v5k1 + 1)), (4, .int (v4k1 + 1)), (2, .double (FP.ddiv v2k1 (4611686018427387904 : UInt64)))]) hx hb dX3_bitsOf_33 hl (k := 2) rfl rfl (by decide) rfl (fun ls hl => ?_)
          refine lv_goto (tgt := 8) hx hb dX3_bitsOf_36 (by decide) ?_
          exact ih1 (FP.ddiv v2k1 (4611686018427387904 : UInt64)) (v4k1 + 1) (v5k1 + 1) _ _ ls (lv_sub hl [2, 1, 0] rfl) (hXr1 _ (Option.some.inj hs1).symm) hW hS
  exact hL1 F p0 0 0 _ _ ls (lv_sub hl [2, 1, 0] rfl) hg1 hW hS
-- HealLink$Chances.pass (LHealLink$Atlas;ID)V
def fX3_pass_J69 (F : Nat) (A30 : Nat → Int32) (A35 : Nat → Int32) (v2 : Int32) (v3 : UInt64) (v5j8 : Int32) (A41j8 : Nat → UInt64) : Option (((Nat → UInt64)) ⊕ (Int32 × (Nat → UInt64))) := some (Sum.inr (v5j8 + 1, A41j8))
def fX3_pass_S10 (F : Nat) (A30 : Nat → Int32) (A35 : Nat → Int32) (v2 : Int32) (v3 : UInt64) (v5 : Int32) (A41 : Nat → UInt64) : Option (((Nat → UInt64)) ⊕ (Int32 × (Nat → UInt64))) := (if (cAt 6001 A30 (v2 + 1)) ≤ v5 then some (Sum.inl A41) else (if (fX1_hasMark A35 v5 1) = 0 then (if (fX1_targetOf A35 v5) < 0 then fX3_pass_J69 F A30 A35 v2 v3 v5 A41 else (if 6000 ≤ (fX1_targetOf A35 v5) then fX3_pass_J69 F A30 A35 v2 v3 v5 A41 else (if inb (fX1_targetOf A35 v5) 6000 = true then (if nn64 (FP.dadd (A41 (fX1_targetOf A35 v5).toNatClampNeg) v3) = true then (if inb (fX1_targetOf A35 v5) 6000 = true then fX3_pass_J69 F A30 A35 v2 v3 v5 (vf_upd A41 (fX1_targetOf A35 v5).toNatClampNeg (FP.dadd (A41 (fX1_targetOf A35 v5).toNatClampNeg) v3)) else none) else none) else none))) else fX3_pass_J69 F A30 A35 v2 v3 v5 A41))
def fX3_pass (F : Nat) (A30 : Nat → Int32) (A35 : Nat → Int32) (A41 : Nat → UInt64) (p2 : Int32) (p3 : UInt64) : Option ((Nat → UInt64)) := (gloop (fun u2 : (Int32 × (Nat → UInt64)) => fX3_pass_S10 F A30 A35 p2 p3 u2.1 u2.2) F ((cAt 6001 A30 p2), A41)).bind (fun t2_75 => some t2_75)
theorem dX3_pass_0 : decode cX3_pass 0 = .ok (.aload_n 1, 1) := by decide +kernel
theorem dX3_pass_1 : decode cX3_pass 1 = .ok (.getfield 38, 3) := by decide +kernel
theorem dX3_pass_4 : decode cX3_pass 4 = .ok (.iload_n 2, 1) := by decide +kernel
theorem dX3_pass_5 : decode cX3_pass 5 = .ok (.invokevirtual 42, 3) := by decide +kernel
theorem dX3_pass_8 : decode cX3_pass 8 = .ok (.istore 5, 2) := by decide +kernel
theorem dX3_pass_10 : decode cX3_pass 10 = .ok (.iload 5, 2) := by decide +kernel
theorem dX3_pass_12 : decode cX3_pass 12 = .ok (.aload_n 1, 1) := by decide +kernel
theorem dX3_pass_13 : decode cX3_pass 13 = .ok (.getfield 38, 3) := by decide +kernel
theorem dX3_pass_16 : decode cX3_pass 16 = .ok (.iload_n 2, 1) := by decide +kernel
theorem dX3_pass_17 : decode cX3_pass 17 = .ok (.iconst 1, 1) := by decide +kernel
theorem dX3_pass_18 : decode cX3_pass 18 = .ok (.iadd, 1) := by decide +kernel
theorem dX3_pass_19 : decode cX3_pass 19 = .ok (.invokevirtual 42, 3) := by decide +kernel
theorem dX3_pass_22 : decode cX3_pass 22 = .ok (.if_icmp .ge 53, 3) := by decide +kernel
theorem dX3_pass_25 : decode cX3_pass 25 = .ok (.aload_n 1, 1) := by decide +kernel
theorem dX3_pass_26 : decode cX3_pass 26 = .ok (.iload 5, 2) := by decide +kernel
theorem dX3_pass_28 : decode cX3_pass 28 = .ok (.invokevirtual 52, 3) := by decide +kernel
theorem dX3_pass_31 : decode cX3_pass 31 = .ok (.istore 6, 2) := by decide +kernel
theorem dX3_pass_33 : decode cX3_pass 33 = .ok (.aload_n 1, 1) := by decide +kernel
theorem dX3_pass_34 : decode cX3_pass 34 = .ok (.iload 5, 2) := by decide +kernel
theorem dX3_pass_36 : decode cX3_pass 36 = .ok (.iconst 1, 1) := by decide +kernel
theorem dX3_pass_37 : decode cX3_pass 37 = .ok (.invokevirtual 55, 3) := by decide +kernel
theorem dX3_pass_40 : decode cX3_pass 40 = .ok (.ifCond .ne 29, 3) := by decide +kernel
theorem dX3_pass_43 : decode cX3_pass 43 = .ok (.iload 6, 2) := by decide +kernel
theorem dX3_pass_45 : decode cX3_pass 45 = .ok (.ifCond .lt 24, 3) := by decide +kernel
theorem dX3_pass_48 : decode cX3_pass 48 = .ok (.iload 6, 2) := by decide +kernel
theorem dX3_pass_50 : decode cX3_pass 50 = .ok (.aload_n 0, 1) := by decide +kernel
theorem dX3_pass_51 : decode cX3_pass 51 = .ok (.getfield 15, 3) := by decide +kernel
theorem dX3_pass_54 : decode cX3_pass 54 = .ok (.arraylength, 1) := by decide +kernel
theorem dX3_pass_55 : decode cX3_pass 55 = .ok (.if_icmp .ge 14, 3) := by decide +kernel
theorem dX3_pass_58 : decode cX3_pass 58 = .ok (.aload_n 0, 1) := by decide +kernel
theorem dX3_pass_59 : decode cX3_pass 59 = .ok (.getfield 15, 3) := by decide +kernel
theorem dX3_pass_62 : decode cX3_pass 62 = .ok (.iload 6, 2) := by decide +kernel
theorem dX3_pass_64 : decode cX3_pass 64 = .ok (.dup2, 1) := by decide +kernel
theorem dX3_pass_65 : decode cX3_pass 65 = .ok (.daload, 1) := by decide +kernel
theorem dX3_pass_66 : decode cX3_pass 66 = .ok (.dload_n 3, 1) := by decide +kernel
theorem dX3_pass_67 : decode cX3_pass 67 = .ok (.dadd, 1) := by decide +kernel
theorem dX3_pass_68 : decode cX3_pass 68 = .ok (.dastore, 1) := by decide +kernel
theorem dX3_pass_69 : decode cX3_pass 69 = .ok (.iinc 5 1, 3) := by decide +kernel
theorem dX3_pass_72 : decode cX3_pass 72 = .ok (.goto (-62), 3) := by decide +kernel
theorem dX3_pass_75 : decode cX3_pass 75 = .ok (.return_, 1) := by decide +kernel
set_option maxHeartbeats 4000000 in
set_option maxRecDepth 100000 in
theorem kX3_pass {l : Launch} {D : va_G} {cy : Nat → ClassId} {N : Nat} {q : Nat → Nat} {m0 : Nat → Value} {a0 : Nat → vp_A} {sz : Nat} (hN : 105 ≤ N) (hsh : SH q m0) (hthen : m0 3901 = .ref (q 41)) {A30 : Nat → Int32} (h_A30 : a0 30 = (6001, .inl A30)) {A35 : Nat → Int32} (h_A35 : a0 35 = (60000, .inl A35)) {A41 : Nat → UInt64} (h_A41 : a0 41 = (6000, .inr (.inr (.inr (.inl A41))))) (F : Nat) (p2 : Int32) (p3 : UInt64) {X0 : (Nat → UInt64)} (hs0 : fX3_pass F A30 A35 A41 p2 p3 = some X0) : gMv l yX3_pass cX3_pass 7 none ({ frames := 2, cells := 0, slots := 0, locals := 43 } : Room) D cy N q m0 a0 sz [.ref (q 39), .ref (q 28), .int p2, .double p3] (fun m' a' => m' = m0 ∧ a' 41 = (6000, .inr (.inr (.inr (.inl X0)))) ∧ (∀ j, nel j [41] = false → a' j = a0 j)) := by
  refine g_ofv (by decide) (Nat.le_of_ble_eq_true rfl) ?_
  intro p e s M args below meth c hx hb hr hG hown hin hlocks hml hW hS ls hl
  unfold fX3_pass at hs0
  have hoffa : ∀ j, nel j [41] = false → a0 j = a0 j := off0
  refine lv_aload_n hx hb dX3_pass_0 rfl (lv_at hl 1 rfl) ?_
  refine gf1_0 hx hb hG hown hW (o := 28) (ltN hN 28 rfl) gk28 (v := .ref (q 29)) (sh28_0 hsh) gx948 dX3_pass_1 ?_
  refine lv_iload_n hx hb dX3_pass_4 rfl (lv_at hl 2 rfl) ?_
  refine g_ViR (n := 1) hx hb hml hown hG hW hS [.int p2] (kX2_at (ltN hN 29 rfl) gk29 (ltN hN 30 rfl) gk30 (sh29_0 hsh) (by decide) ((hoffa 30 rfl).trans h_A30) p2) (ltN hN 29 rfl) gk29 (by decide) rfl rfl (gd_V gx949 gx564 gx565 gx47 gx566) rfl rfl (by decide) ⟨Nat.le_of_ble_eq_true rfl, Nat.le_of_ble_eq_true rfl⟩ rfl hl (Nat.le_of_ble_eq_true rfl) ⟨Nat.zero_le _, Nat.zero_le _⟩ dX3_pass_5 (fun H locs hW hS => ?_)
  refine lv_istore (lv' := [(5, .int (cAt 6001 A30 p2)), (0, .ref (q 39)), (1, .ref (q 28)), (2, .int p2), (3, .double p3)]) hx hb dX3_pass_8 hl (by decide) rfl (fun ls hl => ?_)
  obtain ⟨r2, hg2, hs0⟩ := obind hs0
  have hE1_75 : ∀ (t2_75 : (Nat → UInt64)) (hr2 : t2_75 = r2) (a : Nat → vp_A) (H : Heap) (locs : List Loc) (w_A41 : a 41 = (6000, .inr (.inr (.inr (.inl t2_75))))) (hoffa : ∀ j, nel j [41] = false → a j = a0 j) (ls : Array Slot) (hl : lv_has ls 7 []) (hW : GW D cy (gA N q s.heap.size) N q m0 a s H) (hS : va_S (gA N q s.heap.size) s.heap H locs), W p l e ({ frames := 2, cells := 0, slots := 0, locals := 43 } : Room) s M args below meth c H locs 0 0 (MQ below (va_Qv (fun (u : (Nat → Value) × (Nat → vp_A)) => u.1 = m0 ∧ u.2 41 = (6000, .inr (.inr (.inr (.inl X0)))) ∧ (∀ j, nel j [41] = false → u.2 j = a0 j)) (gB D cy N q s.heap.size) (gA N q s.heap.size)) args s 0 0 (gA N q s.heap.size)) (F0 M 75 ls []) := by
    intro t2_75 hr2 a H locs w_A41 hoffa ls hl hW hS
    subst hr2
    have hs0 := Option.some.inj hs0
    subst hs0
    exact W.vret hx hb hr (fun t ht hw => ⟨⟨(m0, a), rfl, ⟨rfl, w_A41, hoffa⟩, g_end hW ht hw⟩, hS.F ht⟩) hS.2.2 dX3_pass_75 hlocks
  have hL1 : ∀ (n : Nat) (v5k2 : Int32) (A41k2 : Nat → UInt64) (a : Nat → vp_A) (H : Heap) (locs : List Loc) (w_A41 : a 41 = (6000, .inr (.inr (.inr (.inl A41k2))))) (hoffa : ∀ j, nel j [41] = false → a j = a0 j) (ls : Array Slot) (hl : lv_has ls 7 [(0, .ref (q 39)), (1, .ref (q 28)), (2, .int p2), (3, .double p3), (5, .int v5k2)]) (hg2 : gloop (fun u2 : (Int32 × (Nat → UInt64)) => fX3_pass_S10 F A30 A35 p2 p3 u2.1 u2.2) n (v5k2, A41k2) = some r2) (hW : GW D cy (gA N q s.heap.size) N q m0 a s H) (hS : va_S (gA N q s.heap.size) s.heap H locs), W p l e ({ frames := 2, cells := 0, slots := 0, locals := 43 } : Room) s M args below meth c H locs 0 0 (MQ below (va_Qv (fun (u : (Nat → Value) × (Nat → vp_A)) => u.1 = m0 ∧ u.2 41 = (6000, .inr (.inr (.inr (.inl X0)))) ∧ (∀ j, nel j [41] = false → u.2 j = a0 j)) (gB D cy N q s.heap.size) (gA N q s.heap.size)) args s 0 0 (gA N q s.heap.size)) (F0 M 10 ls []) := by
    intro n
    induction n with
    | zero => intro v5k2 A41k2 a H locs w_A41 hoffa ls hl hg2 hW hS; exact (gl_zero hg2).elim
    | succ n ih1 =>
      intro v5k2 A41k2 a H locs w_A41 hoffa ls hl hg2 hW hS
      obtain ⟨X1, hs1, hXl1, hXr1⟩ := gl_succ hg2
      have hs1 : fX3_pass_S10 F A30 A35 p2 p3 v5k2 A41k2 = some X1 := hs1
      unfold fX3_pass_S10 at hs1
      have hJ69_1 : ∀ (v5j20 : Int32) (A41j20 : Nat → UInt64) (a : Nat → vp_A) (H : Heap) (locs : List Loc) (w_A41 : a 41 = (6000, .inr (.inr (.inr (.inl A41j20))))) (hoffa : ∀ j, nel j [41] = false → a j = a0 j) (ls : Array Slot) (hl : lv_has ls 7 [(0, .ref (q 39)), (1, .ref (q 28)), (2, .int p2), (3, .double p3), (5, .int v5j20)]) (hs1 : fX3_pass_J69 F A30 A35 p2 p3 v5j20 A41j20 = some X1) (hW : GW D cy (gA N q s.heap.size) N q m0 a s H) (hS : va_S (gA N q s.heap.size) s.heap H locs), W p l e ({ frames := 2, cells := 0, slots := 0, locals := 43 } : Room) s M args below meth c H locs 0 0 (MQ below (va_Qv (fun (u : (Nat → Value) × (Nat → vp_A)) => u.1 = m0 ∧ u.2 41 = (6000, .inr (.inr (.inr (.inl X0)))) ∧ (∀ j, nel j [41] = false → u.2 j = a0 j)) (gB D cy N q s.heap.size) (gA N q s.heap.size)) args s 0 0 (gA N q s.heap.size)) (F0 M 69 ls []) := by
        intro v5j20 A41j20 a H locs w_A41 hoffa ls hl hs1 hW hS
        unfold fX3_pass_J69 at hs1
        refine lv_iinc (v := v5j20 + 1) (lv' := [(5, .int (v5j20 + 1)), (0, .ref (q 39)), (1, .ref (q 28)), (2, .int p2), (3, .double p3)]) hx hb dX3_pass_69 hl (k := 4) rfl rfl (by decide) rfl (fun ls hl => ?_)
        refine lv_goto (tgt := 10) hx hb dX3_pass_72 (by decide) ?_
        exact ih1 (v5j20 + 1) A41j20 a _ _ w_A41 hoffa ls (lv_sub hl [1, 2, 3, 4, 0] rfl) (hXr1 _ (Option.some.inj hs1).symm) hW hS
      refine lv_iload hx hb dX3_pass_10 (lv_at hl 4 rfl) ?_
      refine lv_aload_n hx hb dX3_pass_12 rfl (lv_at hl 1 rfl) ?_
      refine gf1_0 hx hb hG hown hW (o := 28) (ltN hN 28 rfl) gk28 (v := .ref (q 29)) (sh28_0 hsh) gx948 dX3_pass_13 ?_
      refine lv_iload_n hx hb dX3_pass_16 rfl (lv_at hl 2 rfl) ?_
      refine lv_iconst (v := 1) hx hb dX3_pass_17 (by decide) ?_
      refine lv_iadd hx hb dX3_pass_18 ?_
      refine g_ViR (n := 1) hx hb hml hown hG hW hS [.int (p2 + 1)] (kX2_at (ltN hN 29 rfl) gk29 (ltN hN 30 rfl) gk30 (sh29_0 hsh) (by decide) ((hoffa 30 rfl).trans h_A30) (p2 + 1)) (ltN hN 29 rfl) gk29 (by decide) rfl rfl (gd_V gx949 gx564 gx565 gx47 gx566) rfl rfl (by decide) ⟨Nat.le_of_ble_eq_true rfl, Nat.le_of_ble_eq_true rfl⟩ rfl hl (Nat.le_of_ble_eq_true rfl) ⟨Nat.zero_le _, Nat.zero_le _⟩ dX3_pass_19 (fun H locs hW hS => ?_)
      refine lv_icmp_ge (tgt := 75) hx hb dX3_pass_22 (by decide) (fun c16 => ?_) (fun c16 => ?_)
      · rw [if_pos c16] at hs1
        exact hE1_75 A41k2 (hXl1 _ (Option.some.inj hs1).symm) a _ _ w_A41 hoffa ls (lv_sub hl [] rfl) hW hS
      · rw [if_neg c16] at hs1
        refine lv_aload_n hx hb dX3_pass_25 rfl (lv_at hl 1 rfl) ?_
        refine lv_iload hx hb dX3_pass_26 (lv_at hl 4 rfl) ?_
        refine g_ViR (n := 1) hx hb hml hown hG hW hS [.int v5k2] (kX1_targetOf hN hsh ((hoffa 35 rfl).trans h_A35) v5k2) (ltN hN 28 rfl) gk28 (by decide) rfl rfl (gd_V gx954 gx772 gx773 gx86 gx774) rfl rfl (by decide) ⟨Nat.le_of_ble_eq_true rfl, Nat.le_of_ble_eq_true rfl⟩ rfl hl (Nat.le_of_ble_eq_true rfl) ⟨Nat.zero_le _, Nat.zero_le _⟩ dX3_pass_28 (fun H locs hW hS => ?_)
        refine lv_istore (lv' := [(6, .int (fX1_targetOf A35 v5k2)), (0, .ref (q 39)), (1, .ref (q 28)), (2, .int p2), (3, .double p3), (5, .int v5k2)]) hx hb dX3_pass_31 hl (by decide) rfl (fun ls hl => ?_)
        refine lv_aload_n hx hb dX3_pass_33 rfl (lv_at hl 2 rfl) ?_
        refine lv_iload hx hb dX3_pass_34 (lv_at hl 5 rfl) ?_
        refine lv_iconst (v := 1) hx hb dX3_pass_36 (by decide) ?_
        refine g_ViR (n := 2) hx hb hml hown hG hW hS [.int v5k2, .int 1] (kX1_hasMark hN hsh ((hoffa 35 rfl).trans h_A35) v5k2 1) (ltN hN 28 rfl) gk28 (by decide) rfl rfl (gd_V gx955 gx789 gx790 gx86 gx791) rfl rfl (by decide) ⟨Nat.le_of_ble_eq_true rfl, Nat.le_of_ble_eq_true rfl⟩ rfl hl (Nat.le_of_ble_eq_true rfl) ⟨Nat.zero_le _, Nat.zero_le _⟩ dX3_pass_37 (fun H locs hW hS => ?_)
        refine lv_if_ne (tgt := 69) hx hb dX3_pass_40 (by decide) (fun c19 => ?_) (fun c19 => ?_)
        · rw [if_neg c19] at hs1
          exact hJ69_1 v5k2 A41k2 a _ _ w_A41 hoffa ls (lv_sub hl [1, 2, 3, 4, 5] rfl) hs1 hW hS
        · rw [if_pos c19] at hs1
          refine lv_iload hx hb dX3_pass_43 (lv_at hl 0 rfl) ?_
          refine lv_if_lt (tgt := 69) hx hb dX3_pass_45 (by decide) (fun c21 => ?_) (fun c21 => ?_)
          · rw [if_pos c21] at hs1
            exact hJ69_1 v5k2 A41k2 a _ _ w_A41 hoffa ls (lv_sub hl [1, 2, 3, 4, 5] rfl) hs1 hW hS
          · rw [if_neg c21] at hs1
            refine lv_iload hx hb dX3_pass_48 (lv_at hl 0 rfl) ?_
            refine lv_aload_n hx hb dX3_pass_50 rfl (lv_at hl 1 rfl) ?_
            refine gf3_1 hx hb hG hown hW (o := 39) (ltN hN 39 rfl) gk39 (v := .ref (q 41)) hthen gx122 dX3_pass_51 ?_
            refine g_alen hx hb hW (o := 41) (t := 0) (ltN hN 41 rfl) gk41 (by decide) w_A41 (v := 6000) rfl dX3_pass_54 ?_
            refine lv_icmp_ge (tgt := 69) hx hb dX3_pass_55 (by decide) (fun c22 => ?_) (fun c22 => ?_)
            · rw [if_pos c22] at hs1
              exact hJ69_1 v5k2 A41k2 a _ _ w_A41 hoffa ls (lv_sub hl [1, 2, 3, 4, 5] rfl) hs1 hW hS
            · rw [if_neg c22] at hs1
              refine lv_aload_n hx hb dX3_pass_58 rfl (lv_at hl 1 rfl) ?_
              refine gf3_1 hx hb hG hown hW (o := 39) (ltN hN 39 rfl) gk39 (v := .ref (q 41)) hthen gx122 dX3_pass_59 ?_
              refine lv_iload hx hb dX3_pass_62 (lv_at hl 0 rfl) ?_
              refine lv_dup2_11 hx hb dX3_pass_64 rfl rfl ?_
              obtain ⟨hi23, hs1⟩ := oif hs1
              refine g_dald hx hb hW (o := 41) (ltN hN 41 rfl) gk41 w_A41 (vin hi23) dX3_pass_65 ?_
              refine lv_dload_n hx hb dX3_pass_66 rfl (lv_at hl 4 rfl) ?_
              obtain ⟨hd24, hs1⟩ := oif hs1
              refine lv_dadd hx hb dX3_pass_67 (nn64.p hd24) ?_
              obtain ⟨hi25, hs1⟩ := oif hs1
              refine g_dast hx hb hW hS (o := 41) (ltN hN 41 rfl) gk41 w_A41 (vin hi25) dX3_pass_68 (fun a26 H locs ha26 ho26 hW hS => ?_)
              have ho26 := off1 ho26
              have w_A41 : a26 41 = (6000, .inr (.inr (.inr (.inl (vf_upd A41k2 (fX1_targetOf A35 v5k2).toNatClampNeg (FP.dadd (A41k2 (fX1_targetOf A35 v5k2).toNatClampNeg) p3)))))) := ha26
              have hoffa := offm hoffa ho26 (by decide +kernel)
              exact hJ69_1 v5k2 (vf_upd A41k2 (fX1_targetOf A35 v5k2).toNatClampNeg (FP.dadd (A41k2 (fX1_targetOf A35 v5k2).toNatClampNeg) p3)) a26 _ _ w_A41 hoffa ls (lv_sub hl [1, 2, 3, 4, 5] rfl) hs1 hW hS
  exact hL1 F (cAt 6001 A30 p2) A41 a0 _ _ h_A41 hoffa ls (lv_sub hl [1, 2, 3, 4, 0] rfl) hg2 hW hS
-- HealLink$Chances.move (LHealLink$Atlas;)V
def fX3_move_J69 (F : Nat) (x28_2 : Int32) (A30 : Nat → Int32) (A35 : Nat → Int32) (A40 : Nat → UInt64) (v2j8 : Int32) (A41j8 : Nat → UInt64) : Option (((Nat → UInt64)) ⊕ (Int32 × (Nat → UInt64))) := some (Sum.inr (v2j8 + 1, A41j8))
def fX3_move_S2 (F : Nat) (x28_2 : Int32) (A30 : Nat → Int32) (A35 : Nat → Int32) (A40 : Nat → UInt64) (v2 : Int32) (A41 : Nat → UInt64) : Option (((Nat → UInt64)) ⊕ (Int32 × (Nat → UInt64))) := (if x28_2 ≤ v2 then some (Sum.inl A41) else (if 6000 ≤ v2 then some (Sum.inl A41) else (if inb v2 6000 = true then (if (Op.cmpValue (FP.dcmp (A40 v2.toNatClampNeg) FP.dconst0) .l) = 0 then fX3_move_J69 F x28_2 A30 A35 A40 v2 A41 else (if ((cAt 6001 A30 (v2 + 1)) - (cAt 6001 A30 v2)) ≤ 0 then fX3_move_J69 F x28_2 A30 A35 A40 v2 A41 else (if inb v2 6000 = true then (if nn64 (FP.ddiv (A40 v2.toNatClampNeg) (FP.i2d ((cAt 6001 A30 (v2 + 1)) - (cAt 6001 A30 v2)))) = true then ((fX3_pass F A30 A35 A41 v2 (FP.ddiv (A40 v2.toNatClampNeg) (FP.i2d ((cAt 6001 A30 (v2 + 1)) - (cAt 6001 A30 v2))))).bind (fun r12 => fX3_move_J69 F x28_2 A30 A35 A40 v2 r12)) else none) else none))) else none)))
def fX3_move (F : Nat) (x28_2 : Int32) (A30 : Nat → Int32) (A35 : Nat → Int32) (A40 : Nat → UInt64) (A41 : Nat → UInt64) : Option ((Nat → UInt64)) := (gloop (fun u1 : (Int32 × (Nat → UInt64)) => fX3_move_S2 F x28_2 A30 A35 A40 u1.1 u1.2) F (0, A41)).bind (fun t1_75 => some t1_75)
theorem dX3_move_0 : decode cX3_move 0 = .ok (.iconst 0, 1) := by decide +kernel
theorem dX3_move_1 : decode cX3_move 1 = .ok (.istore_n 2, 1) := by decide +kernel
theorem dX3_move_2 : decode cX3_move 2 = .ok (.iload_n 2, 1) := by decide +kernel
theorem dX3_move_3 : decode cX3_move 3 = .ok (.aload_n 1, 1) := by decide +kernel
theorem dX3_move_4 : decode cX3_move 4 = .ok (.getfield 28, 3) := by decide +kernel
theorem dX3_move_7 : decode cX3_move 7 = .ok (.if_icmp .ge 68, 3) := by decide +kernel
theorem dX3_move_10 : decode cX3_move 10 = .ok (.iload_n 2, 1) := by decide +kernel
theorem dX3_move_11 : decode cX3_move 11 = .ok (.aload_n 0, 1) := by decide +kernel
theorem dX3_move_12 : decode cX3_move 12 = .ok (.getfield 9, 3) := by decide +kernel
theorem dX3_move_15 : decode cX3_move 15 = .ok (.arraylength, 1) := by decide +kernel
theorem dX3_move_16 : decode cX3_move 16 = .ok (.if_icmp .ge 59, 3) := by decide +kernel
theorem dX3_move_19 : decode cX3_move 19 = .ok (.aload_n 1, 1) := by decide +kernel
theorem dX3_move_20 : decode cX3_move 20 = .ok (.getfield 38, 3) := by decide +kernel
theorem dX3_move_23 : decode cX3_move 23 = .ok (.iload_n 2, 1) := by decide +kernel
theorem dX3_move_24 : decode cX3_move 24 = .ok (.iconst 1, 1) := by decide +kernel
theorem dX3_move_25 : decode cX3_move 25 = .ok (.iadd, 1) := by decide +kernel
theorem dX3_move_26 : decode cX3_move 26 = .ok (.invokevirtual 42, 3) := by decide +kernel
theorem dX3_move_29 : decode cX3_move 29 = .ok (.aload_n 1, 1) := by decide +kernel
theorem dX3_move_30 : decode cX3_move 30 = .ok (.getfield 38, 3) := by decide +kernel
theorem dX3_move_33 : decode cX3_move 33 = .ok (.iload_n 2, 1) := by decide +kernel
theorem dX3_move_34 : decode cX3_move 34 = .ok (.invokevirtual 42, 3) := by decide +kernel
theorem dX3_move_37 : decode cX3_move 37 = .ok (.isub, 1) := by decide +kernel
theorem dX3_move_38 : decode cX3_move 38 = .ok (.istore_n 3, 1) := by decide +kernel
theorem dX3_move_39 : decode cX3_move 39 = .ok (.aload_n 0, 1) := by decide +kernel
theorem dX3_move_40 : decode cX3_move 40 = .ok (.getfield 9, 3) := by decide +kernel
theorem dX3_move_43 : decode cX3_move 43 = .ok (.iload_n 2, 1) := by decide +kernel
theorem dX3_move_44 : decode cX3_move 44 = .ok (.daload, 1) := by decide +kernel
theorem dX3_move_45 : decode cX3_move 45 = .ok (.dconst 0, 1) := by decide +kernel
theorem dX3_move_46 : decode cX3_move 46 = .ok (.dcmp .l, 1) := by decide +kernel
theorem dX3_move_47 : decode cX3_move 47 = .ok (.ifCond .eq 22, 3) := by decide +kernel
theorem dX3_move_50 : decode cX3_move 50 = .ok (.iload_n 3, 1) := by decide +kernel
theorem dX3_move_51 : decode cX3_move 51 = .ok (.ifCond .le 18, 3) := by decide +kernel
theorem dX3_move_54 : decode cX3_move 54 = .ok (.aload_n 0, 1) := by decide +kernel
theorem dX3_move_55 : decode cX3_move 55 = .ok (.aload_n 1, 1) := by decide +kernel
theorem dX3_move_56 : decode cX3_move 56 = .ok (.iload_n 2, 1) := by decide +kernel
theorem dX3_move_57 : decode cX3_move 57 = .ok (.aload_n 0, 1) := by decide +kernel
theorem dX3_move_58 : decode cX3_move 58 = .ok (.getfield 9, 3) := by decide +kernel
theorem dX3_move_61 : decode cX3_move 61 = .ok (.iload_n 2, 1) := by decide +kernel
theorem dX3_move_62 : decode cX3_move 62 = .ok (.daload, 1) := by decide +kernel
theorem dX3_move_63 : decode cX3_move 63 = .ok (.iload_n 3, 1) := by decide +kernel
theorem dX3_move_64 : decode cX3_move 64 = .ok (.i2d, 1) := by decide +kernel
theorem dX3_move_65 : decode cX3_move 65 = .ok (.ddiv, 1) := by decide +kernel
theorem dX3_move_66 : decode cX3_move 66 = .ok (.invokevirtual 48, 3) := by decide +kernel
theorem dX3_move_69 : decode cX3_move 69 = .ok (.iinc 2 1, 3) := by decide +kernel
theorem dX3_move_72 : decode cX3_move 72 = .ok (.goto (-70), 3) := by decide +kernel
theorem dX3_move_75 : decode cX3_move 75 = .ok (.return_, 1) := by decide +kernel
set_option maxHeartbeats 4000000 in
set_option maxRecDepth 100000 in
theorem kX3_move {l : Launch} {D : va_G} {cy : Nat → ClassId} {N : Nat} {q : Nat → Nat} {m0 : Nat → Value} {a0 : Nat → vp_A} {sz : Nat} (hN : 105 ≤ N) (hsh : SH q m0) (hnow : m0 3900 = .ref (q 40)) (hthen : m0 3901 = .ref (q 41)) {x28_2 : Int32} (h_x28_2 : m0 2802 = .int x28_2) {A30 : Nat → Int32} (h_A30 : a0 30 = (6001, .inl A30)) {A35 : Nat → Int32} (h_A35 : a0 35 = (60000, .inl A35)) {A40 : Nat → UInt64} (h_A40 : a0 40 = (6000, .inr (.inr (.inr (.inl A40))))) {A41 : Nat → UInt64} (h_A41 : a0 41 = (6000, .inr (.inr (.inr (.inl A41))))) (F : Nat) {X0 : (Nat → UInt64)} (hs0 : fX3_move F x28_2 A30 A35 A40 A41 = some X0) : gMv l yX3_move cX3_move 4 none ({ frames := 3, cells := 0, slots := 0, locals := 69 } : Room) D cy N q m0 a0 sz [.ref (q 39), .ref (q 28)] (fun m' a' => m' = m0 ∧ a' 41 = (6000, .inr (.inr (.inr (.inl X0)))) ∧ (∀ j, nel j [41] = false → a' j = a0 j)) := by
  refine g_ofv (by decide) (Nat.le_of_ble_eq_true rfl) ?_
  intro p e s M args below meth c hx hb hr hG hown hin hlocks hml hW hS ls hl
  unfold fX3_move at hs0
  have hoffa : ∀ j, nel j [41] = false → a0 j = a0 j := off0
  refine lv_iconst (v := 0) hx hb dX3_move_0 (by decide) ?_
  refine lv_istore_n (lv' := [(2, .int 0), (0, .ref (q 39)), (1, .ref (q 28))]) hx hb dX3_move_1 rfl hl (by decide) rfl (fun ls hl => ?_)
  obtain ⟨r1, hg1, hs0⟩ := obind hs0
  have hE1_75 : ∀ (t1_75 : (Nat → UInt64)) (hr1 : t1_75 = r1) (a : Nat → vp_A) (H : Heap) (locs : List Loc) (w_A41 : a 41 = (6000, .inr (.inr (.inr (.inl t1_75))))) (hoffa : ∀ j, nel j [41] = false → a j = a0 j) (ls : Array Slot) (hl : lv_has ls 4 []) (hW : GW D cy (gA N q s.heap.size) N q m0 a s H) (hS : va_S (gA N q s.heap.size) s.heap H locs), W p l e ({ frames := 3, cells := 0, slots := 0, locals := 69 } : Room) s M args below meth c H locs 0 0 (MQ below (va_Qv (fun (u : (Nat → Value) × (Nat → vp_A)) => u.1 = m0 ∧ u.2 41 = (6000, .inr (.inr (.inr (.inl X0)))) ∧ (∀ j, nel j [41] = false → u.2 j = a0 j)) (gB D cy N q s.heap.size) (gA N q s.heap.size)) args s 0 0 (gA N q s.heap.size)) (F0 M 75 ls []) := by
    intro t1_75 hr1 a H locs w_A41 hoffa ls hl hW hS
    subst hr1
    have hs0 := Option.some.inj hs0
    subst hs0
    exact W.vret hx hb hr (fun t ht hw => ⟨⟨(m0, a), rfl, ⟨rfl, w_A41, hoffa⟩, g_end hW ht hw⟩, hS.F ht⟩) hS.2.2 dX3_move_75 hlocks
  have hL1 : ∀ (n : Nat) (v2k1 : Int32) (A41k1 : Nat → UInt64) (a : Nat → vp_A) (H : Heap) (locs : List Loc) (w_A41 : a 41 = (6000, .inr (.inr (.inr (.inl A41k1))))) (hoffa : ∀ j, nel j [41] = false → a j = a0 j) (ls : Array Slot) (hl : lv_has ls 4 [(0, .ref (q 39)), (1, .ref (q 28)), (2, .int v2k1)]) (hg1 : gloop (fun u1 : (Int32 × (Nat → UInt64)) => fX3_move_S2 F x28_2 A30 A35 A40 u1.1 u1.2) n (v2k1, A41k1) = some r1) (hW : GW D cy (gA N q s.heap.size) N q m0 a s H) (hS : va_S (gA N q s.heap.size) s.heap H locs), W p l e ({ frames := 3, cells := 0, slots := 0, locals := 69 } : Room) s M args below meth c H locs 0 0 (MQ below (va_Qv (fun (u : (Nat → Value) × (Nat → vp_A)) => u.1 = m0 ∧ u.2 41 = (6000, .inr (.inr (.inr (.inl X0)))) ∧ (∀ j, nel j [41] = false → u.2 j = a0 j)) (gB D cy N q s.heap.size) (gA N q s.heap.size)) args s 0 0 (gA N q s.heap.size)) (F0 M 2 ls []) := by
    intro n
    induction n with
    | zero => intro v2k1 A41k1 a H locs w_A41 hoffa ls hl hg1 hW hS; exact (gl_zero hg1).elim
    | succ n ih1 =>
      intro v2k1 A41k1 a H locs w_A41 hoffa ls hl hg1 hW hS
      obtain ⟨X1, hs1, hXl1, hXr1⟩ := gl_succ hg1
      have hs1 : fX3_move_S2 F x28_2 A30 A35 A40 v2k1 A41k1 = some X1 := hs1
      unfold fX3_move_S2 at hs1
      have hJ69_1 : ∀ (v2j19 : Int32) (A41j19 : Nat → UInt64) (a : Nat → vp_A) (H : Heap) (locs : List Loc) (w_A41 : a 41 = (6000, .inr (.inr (.inr (.inl A41j19))))) (hoffa : ∀ j, nel j [41] = false → a j = a0 j) (ls : Array Slot) (hl : lv_has ls 4 [(0, .ref (q 39)), (1, .ref (q 28)), (2, .int v2j19)]) (hs1 : fX3_move_J69 F x28_2 A30 A35 A40 v2j19 A41j19 = some X1) (hW : GW D cy (gA N q s.heap.size) N q m0 a s H) (hS : va_S (gA N q s.heap.size) s.heap H locs), W p l e ({ frames := 3, cells := 0, slots := 0, locals := 69 } : Room) s M args below meth c H locs 0 0 (MQ below (va_Qv (fun (u : (Nat → Value) × (Nat → vp_A)) => u.1 = m0 ∧ u.2 41 = (6000, .inr (.inr (.inr (.inl X0)))) ∧ (∀ j, nel j [41] = false → u.2 j = a0 j)) (gB D cy N q s.heap.size) (gA N q s.heap.size)) args s 0 0 (gA N q s.heap.size)) (F0 M 69 ls []) := by
        intro v2j19 A41j19 a H locs w_A41 hoffa ls hl hs1 hW hS
        unfold fX3_move_J69 at hs1
        refine lv_iinc (v := v2j19 + 1) (lv' := [(2, .int (v2j19 + 1)), (0, .ref (q 39)), (1, .ref (q 28))]) hx hb dX3_move_69 hl (k := 2) rfl rfl (by decide) rfl (fun ls hl => ?_)
        refine lv_goto (tgt := 2) hx hb dX3_move_72 (by decide) ?_
        exact ih1 (v2j19 + 1) A41j19 a _ _ w_A41 hoffa ls (lv_sub hl [1, 2, 0] rfl) (hXr1 _ (Option.some.inj hs1).symm) hW hS
      refine lv_iload_n hx hb dX3_move_2 rfl (lv_at hl 2 rfl) ?_
      refine lv_aload_n hx hb dX3_move_3 rfl (lv_at hl 1 rfl) ?_
      refine gf1_2 hx hb hG hown hW (o := 28) (ltN hN 28 rfl) gk28 (v := .int x28_2) h_x28_2 gx940 dX3_move_4 ?_
      refine lv_icmp_ge (tgt := 75) hx hb dX3_move_7 (by decide) (fun c13 => ?_) (fun c13 => ?_)
      · rw [if_pos c13] at hs1
        exact hE1_75 A41k1 (hXl1 _ (Option.some.inj hs1).symm) a _ _ w_A41 hoffa ls (lv_sub hl [] rfl) hW hS
      · rw [if_neg c13] at hs1
        refine lv_iload_n hx hb dX3_move_10 rfl (lv_at hl 2 rfl) ?_
        refine lv_aload_n hx hb dX3_move_11 rfl (lv_at hl 0 rfl) ?_
        refine gf3_0 hx hb hG hown hW (o := 39) (ltN hN 39 rfl) gk39 (v := .ref (q 40)) hnow gx121 dX3_move_12 ?_
        refine g_alen hx hb hW (o := 40) (t := 0) (ltN hN 40 rfl) gk40 (by decide) ((hoffa 40 rfl).trans h_A40) (v := 6000) rfl dX3_move_15 ?_
        refine lv_icmp_ge (tgt := 75) hx hb dX3_move_16 (by decide) (fun c14 => ?_) (fun c14 => ?_)
        · rw [if_pos c14] at hs1
          exact hE1_75 A41k1 (hXl1 _ (Option.some.inj hs1).symm) a _ _ w_A41 hoffa ls (lv_sub hl [] rfl) hW hS
        · rw [if_neg c14] at hs1
          refine lv_aload_n hx hb dX3_move_19 rfl (lv_at hl 1 rfl) ?_
          refine gf1_0 hx hb hG hown hW (o := 28) (ltN hN 28 rfl) gk28 (v := .ref (q 29)) (sh28_0 hsh) gx948 dX3_move_20 ?_
          refine lv_iload_n hx hb dX3_move_23 rfl (lv_at hl 2 rfl) ?_
          refine lv_iconst (v := 1) hx hb dX3_move_24 (by decide) ?_
          refine lv_iadd hx hb dX3_move_25 ?_
          refine g_ViR (n := 1) hx hb hml hown hG hW hS [.int (v2k1 + 1)] (kX2_at (ltN hN 29 rfl) gk29 (ltN hN 30 rfl) gk30 (sh29_0 hsh) (by decide) ((hoffa 30 rfl).trans h_A30) (v2k1 + 1)) (ltN hN 29 rfl) gk29 (by decide) rfl rfl (gd_V gx949 gx564 gx565 gx47 gx566) rfl rfl (by decide) ⟨Nat.le_of_ble_eq_true rfl, Nat.le_of_ble_eq_true rfl⟩ rfl hl (Nat.le_of_ble_eq_true rfl) ⟨Nat.zero_le _, Nat.zero_le _⟩ dX3_move_26 (fun H locs hW hS => ?_)
          refine lv_aload_n hx hb dX3_move_29 rfl (lv_at hl 1 rfl) ?_
          refine gf1_0 hx hb hG hown hW (o := 28) (ltN hN 28 rfl) gk28 (v := .ref (q 29)) (sh28_0 hsh) gx948 dX3_move_30 ?_
          refine lv_iload_n hx hb dX3_move_33 rfl (lv_at hl 2 rfl) ?_
          refine g_ViR (n := 1) hx hb hml hown hG hW hS [.int v2k1] (kX2_at (ltN hN 29 rfl) gk29 (ltN hN 30 rfl) gk30 (sh29_0 hsh) (by decide) ((hoffa 30 rfl).trans h_A30) v2k1) (ltN hN 29 rfl) gk29 (by decide) rfl rfl (gd_V gx949 gx564 gx565 gx47 gx566) rfl rfl (by decide) ⟨Nat.le_of_ble_eq_true rfl, Nat.le_of_ble_eq_true rfl⟩ rfl hl (Nat.le_of_ble_eq_true rfl) ⟨Nat.zero_le _, Nat.zero_le _⟩ dX3_move_34 (fun H locs hW hS => ?_)
          refine lv_isub hx hb dX3_move_37 ?_
          refine lv_istore_n (lv' := [(3, .int ((cAt 6001 A30 (v2k1 + 1)) - (cAt 6001 A30 v2k1))), (0, .ref (q 39)), (1, .ref (q 28)), (2, .int v2k1)]) hx hb dX3_move_38 rfl hl (by decide) rfl (fun ls hl => ?_)
          refine lv_aload_n hx hb dX3_move_39 rfl (lv_at hl 1 rfl) ?_
          refine gf3_0 hx hb hG hown hW (o := 39) (ltN hN 39 rfl) gk39 (v := .ref (q 40)) hnow gx121 dX3_move_40 ?_
          refine lv_iload_n hx hb dX3_move_43 rfl (lv_at hl 3 rfl) ?_
          obtain ⟨hi17, hs1⟩ := oif hs1
          refine g_dald hx hb hW (o := 40) (ltN hN 40 rfl) gk40 ((hoffa 40 rfl).trans h_A40) (vin hi17) dX3_move_44 ?_
          refine lv_dconst0 hx hb dX3_move_45 ?_
          refine lv_dcmp hx hb dX3_move_46 ?_
          refine lv_if_eq (tgt := 69) hx hb dX3_move_47 (by decide) (fun c18 => ?_) (fun c18 => ?_)
          · rw [if_pos c18] at hs1
            exact hJ69_1 v2k1 A41k1 a _ _ w_A41 hoffa ls (lv_sub hl [1, 2, 3] rfl) hs1 hW hS
          · rw [if_neg c18] at hs1
            refine lv_iload_n hx hb dX3_move_50 rfl (lv_at hl 0 rfl) ?_
            refine lv_if_le (tgt := 69) hx hb dX3_move_51 (by decide) (fun c20 => ?_) (fun c20 => ?_)
            · rw [if_pos c20] at hs1
              exact hJ69_1 v2k1 A41k1 a _ _ w_A41 hoffa ls (lv_sub hl [1, 2, 3] rfl) hs1 hW hS
            · rw [if_neg c20] at hs1
              refine lv_aload_n hx hb dX3_move_54 rfl (lv_at hl 1 rfl) ?_
              refine lv_aload_n hx hb dX3_move_55 rfl (lv_at hl 2 rfl) ?_
              refine lv_iload_n hx hb dX3_move_56 rfl (lv_at hl 3 rfl) ?_
              refine lv_aload_n hx hb dX3_move_57 rfl (lv_at hl 1 rfl) ?_
              refine gf3_0 hx hb hG hown hW (o := 39) (ltN hN 39 rfl) gk39 (v := .ref (q 40)) hnow gx121 dX3_move_58 ?_
              refine lv_iload_n hx hb dX3_move_61 rfl (lv_at hl 3 rfl) ?_
              obtain ⟨hi21, hs1⟩ := oif hs1
              refine g_dald hx hb hW (o := 40) (ltN hN 40 rfl) gk40 ((hoffa 40 rfl).trans h_A40) (vin hi21) dX3_move_62 ?_
              refine lv_iload_n hx hb dX3_move_63 rfl (lv_at hl 0 rfl) ?_
              refine lv_i2d hx hb dX3_move_64 ?_
              obtain ⟨hd22, hs1⟩ := oif hs1
              refine lv_ddiv hx hb dX3_move_65 (nn64.p hd22) ?_
              obtain ⟨r23, hf23, hs1⟩ := obind hs1
              refine g_Vv (n := 3) hx hb hml hown hG hW hS [.ref (q 28), .int v2k1, .double (FP.ddiv (A40 v2k1.toNatClampNeg) (FP.i2d ((cAt 6001 A30 (v2k1 + 1)) - (cAt 6001 A30 v2k1))))] (kX3_pass hN hsh hthen ((hoffa 30 rfl).trans h_A30) ((hoffa 35 rfl).trans h_A35) w_A41 F v2k1 (FP.ddiv (A40 v2k1.toNatClampNeg) (FP.i2d ((cAt 6001 A30 (v2k1 + 1)) - (cAt 6001 A30 v2k1)))) hf23) (ltN hN 39 rfl) gk39 (by decide) rfl rfl (gd_V gx950 gx951 gx952 gx90 gx953) rfl rfl (by decide) ⟨Nat.le_of_ble_eq_true rfl, Nat.le_of_ble_eq_true rfl⟩ rfl hl (Nat.le_of_ble_eq_true rfl) ⟨Nat.zero_le _, Nat.zero_le _⟩ dX3_move_66 (fun m23 a23 H locs hp23 hW hS => ?_)
              obtain ⟨hm23, hp23_A41, hoa23⟩ := hp23
              rw [hm23] at hW
              have w_A41 : a23 41 = (6000, .inr (.inr (.inr (.inl r23)))) := hp23_A41
              have hoffa := offm hoffa hoa23 (by decide +kernel)
              exact hJ69_1 v2k1 r23 a23 _ _ w_A41 hoffa ls (lv_sub hl [1, 2, 3] rfl) hs1 hW hS
  exact hL1 F 0 A41 a0 _ _ h_A41 hoffa ls (lv_sub hl [1, 2, 0] rfl) hg1 hW hS
-- HealLinkModel.goesOn (I)V
def fX12_goesOn_J86 (F : Nat) (A81 : Nat → Int32) (A82 : Nat → Int32) (A83 : Nat → Int32) (A98 : Nat → UInt64) (v1 : Int32) (v2 : UInt64) (v4j14 : Int32) (A99j14 : Nat → UInt64) : Option (((Nat → UInt64)) ⊕ (Int32 × (Nat → UInt64))) := some (Sum.inr (v4j14 + 1, A99j14))
def fX12_goesOn_S44 (F : Nat) (A81 : Nat → Int32) (A82 : Nat → Int32) (A83 : Nat → Int32) (A98 : Nat → UInt64) (v1 : Int32) (v2 : UInt64) (v4 : Int32) (A99 : Nat → UInt64) : Option (((Nat → UInt64)) ⊕ (Int32 × (Nat → UInt64))) := (if inb (v1 + 1) 6002 = true then (if (A81 (v1 + 1).toNatClampNeg) ≤ v4 then some (Sum.inl A99) else (if inb v4 84000 = true then (if (fX12_isBad (A83 v4.toNatClampNeg)) = 0 then (if inb v4 84000 = true then (if inb (A82 v4.toNatClampNeg) 6001 = true then (if nn64 (FP.dadd (A99 (A82 v4.toNatClampNeg).toNatClampNeg) v2) = true then (if inb (A82 v4.toNatClampNeg) 6001 = true then fX12_goesOn_J86 F A81 A82 A83 A98 v1 v2 v4 (vf_upd A99 (A82 v4.toNatClampNeg).toNatClampNeg (FP.dadd (A99 (A82 v4.toNatClampNeg).toNatClampNeg) v2)) else none) else none) else none) else none) else fX12_goesOn_J86 F A81 A82 A83 A98 v1 v2 v4 A99) else none)) else none)
def fX12_goesOn (F : Nat) (A81 : Nat → Int32) (A82 : Nat → Int32) (A83 : Nat → Int32) (A98 : Nat → UInt64) (A99 : Nat → UInt64) (p1 : Int32) : Option ((Nat → UInt64)) := (if inb p1 6001 = true then (if (Op.cmpValue (FP.dcmp (A98 p1.toNatClampNeg) FP.dconst0) .l) = 0 then some A99 else (if inb p1 6001 = true then (if inb (p1 + 1) 6002 = true then (if inb p1 6002 = true then (if nn64 (FP.ddiv (A98 p1.toNatClampNeg) (FP.i2d ((A81 (p1 + 1).toNatClampNeg) - (A81 p1.toNatClampNeg)))) = true then (if inb p1 6002 = true then (gloop (fun u8 : (Int32 × (Nat → UInt64)) => fX12_goesOn_S44 F A81 A82 A83 A98 p1 (FP.ddiv (A98 p1.toNatClampNeg) (FP.i2d ((A81 (p1 + 1).toNatClampNeg) - (A81 p1.toNatClampNeg)))) u8.1 u8.2) F (A81 p1.toNatClampNeg, A99)).bind (fun t8_92 => some t8_92) else none) else none) else none) else none) else none)) else none)
theorem dX12_goesOn_0 : decode cX12_goesOn 0 = .ok (.aload_n 0, 1) := by decide +kernel
theorem dX12_goesOn_1 : decode cX12_goesOn 1 = .ok (.getfield 110, 3) := by decide +kernel
theorem dX12_goesOn_4 : decode cX12_goesOn 4 = .ok (.iload_n 1, 1) := by decide +kernel
theorem dX12_goesOn_5 : decode cX12_goesOn 5 = .ok (.daload, 1) := by decide +kernel
theorem dX12_goesOn_6 : decode cX12_goesOn 6 = .ok (.dconst 0, 1) := by decide +kernel
theorem dX12_goesOn_7 : decode cX12_goesOn 7 = .ok (.dcmp .l, 1) := by decide +kernel
theorem dX12_goesOn_8 : decode cX12_goesOn 8 = .ok (.ifCond .ne 4, 3) := by decide +kernel
theorem dX12_goesOn_11 : decode cX12_goesOn 11 = .ok (.return_, 1) := by decide +kernel
theorem dX12_goesOn_12 : decode cX12_goesOn 12 = .ok (.aload_n 0, 1) := by decide +kernel
theorem dX12_goesOn_13 : decode cX12_goesOn 13 = .ok (.getfield 110, 3) := by decide +kernel
theorem dX12_goesOn_16 : decode cX12_goesOn 16 = .ok (.iload_n 1, 1) := by decide +kernel
theorem dX12_goesOn_17 : decode cX12_goesOn 17 = .ok (.daload, 1) := by decide +kernel
theorem dX12_goesOn_18 : decode cX12_goesOn 18 = .ok (.aload_n 0, 1) := by decide +kernel
theorem dX12_goesOn_19 : decode cX12_goesOn 19 = .ok (.getfield 57, 3) := by decide +kernel
theorem dX12_goesOn_22 : decode cX12_goesOn 22 = .ok (.iload_n 1, 1) := by decide +kernel
theorem dX12_goesOn_23 : decode cX12_goesOn 23 = .ok (.iconst 1, 1) := by decide +kernel
theorem dX12_goesOn_24 : decode cX12_goesOn 24 = .ok (.iadd, 1) := by decide +kernel
theorem dX12_goesOn_25 : decode cX12_goesOn 25 = .ok (.iaload, 1) := by decide +kernel
theorem dX12_goesOn_26 : decode cX12_goesOn 26 = .ok (.aload_n 0, 1) := by decide +kernel
theorem dX12_goesOn_27 : decode cX12_goesOn 27 = .ok (.getfield 57, 3) := by decide +kernel
theorem dX12_goesOn_30 : decode cX12_goesOn 30 = .ok (.iload_n 1, 1) := by decide +kernel
theorem dX12_goesOn_31 : decode cX12_goesOn 31 = .ok (.iaload, 1) := by decide +kernel
theorem dX12_goesOn_32 : decode cX12_goesOn 32 = .ok (.isub, 1) := by decide +kernel
theorem dX12_goesOn_33 : decode cX12_goesOn 33 = .ok (.i2d, 1) := by decide +kernel
theorem dX12_goesOn_34 : decode cX12_goesOn 34 = .ok (.ddiv, 1) := by decide +kernel
theorem dX12_goesOn_35 : decode cX12_goesOn 35 = .ok (.dstore_n 2, 1) := by decide +kernel
theorem dX12_goesOn_36 : decode cX12_goesOn 36 = .ok (.aload_n 0, 1) := by decide +kernel
theorem dX12_goesOn_37 : decode cX12_goesOn 37 = .ok (.getfield 57, 3) := by decide +kernel
theorem dX12_goesOn_40 : decode cX12_goesOn 40 = .ok (.iload_n 1, 1) := by decide +kernel
theorem dX12_goesOn_41 : decode cX12_goesOn 41 = .ok (.iaload, 1) := by decide +kernel
theorem dX12_goesOn_42 : decode cX12_goesOn 42 = .ok (.istore 4, 2) := by decide +kernel
theorem dX12_goesOn_44 : decode cX12_goesOn 44 = .ok (.iload 4, 2) := by decide +kernel
theorem dX12_goesOn_46 : decode cX12_goesOn 46 = .ok (.aload_n 0, 1) := by decide +kernel
theorem dX12_goesOn_47 : decode cX12_goesOn 47 = .ok (.getfield 57, 3) := by decide +kernel
theorem dX12_goesOn_50 : decode cX12_goesOn 50 = .ok (.iload_n 1, 1) := by decide +kernel
theorem dX12_goesOn_51 : decode cX12_goesOn 51 = .ok (.iconst 1, 1) := by decide +kernel
theorem dX12_goesOn_52 : decode cX12_goesOn 52 = .ok (.iadd, 1) := by decide +kernel
theorem dX12_goesOn_53 : decode cX12_goesOn 53 = .ok (.iaload, 1) := by decide +kernel
theorem dX12_goesOn_54 : decode cX12_goesOn 54 = .ok (.if_icmp .ge 38, 3) := by decide +kernel
theorem dX12_goesOn_57 : decode cX12_goesOn 57 = .ok (.aload_n 0, 1) := by decide +kernel
theorem dX12_goesOn_58 : decode cX12_goesOn 58 = .ok (.getfield 64, 3) := by decide +kernel
theorem dX12_goesOn_61 : decode cX12_goesOn 61 = .ok (.iload 4, 2) := by decide +kernel
theorem dX12_goesOn_63 : decode cX12_goesOn 63 = .ok (.iaload, 1) := by decide +kernel
theorem dX12_goesOn_64 : decode cX12_goesOn 64 = .ok (.invokestatic 244, 3) := by decide +kernel
theorem dX12_goesOn_67 : decode cX12_goesOn 67 = .ok (.ifCond .ne 19, 3) := by decide +kernel
theorem dX12_goesOn_70 : decode cX12_goesOn 70 = .ok (.aload_n 0, 1) := by decide +kernel
theorem dX12_goesOn_71 : decode cX12_goesOn 71 = .ok (.getfield 114, 3) := by decide +kernel
theorem dX12_goesOn_74 : decode cX12_goesOn 74 = .ok (.aload_n 0, 1) := by decide +kernel
theorem dX12_goesOn_75 : decode cX12_goesOn 75 = .ok (.getfield 61, 3) := by decide +kernel
theorem dX12_goesOn_78 : decode cX12_goesOn 78 = .ok (.iload 4, 2) := by decide +kernel
theorem dX12_goesOn_80 : decode cX12_goesOn 80 = .ok (.iaload, 1) := by decide +kernel
theorem dX12_goesOn_81 : decode cX12_goesOn 81 = .ok (.dup2, 1) := by decide +kernel
theorem dX12_goesOn_82 : decode cX12_goesOn 82 = .ok (.daload, 1) := by decide +kernel
theorem dX12_goesOn_83 : decode cX12_goesOn 83 = .ok (.dload_n 2, 1) := by decide +kernel
theorem dX12_goesOn_84 : decode cX12_goesOn 84 = .ok (.dadd, 1) := by decide +kernel
theorem dX12_goesOn_85 : decode cX12_goesOn 85 = .ok (.dastore, 1) := by decide +kernel
theorem dX12_goesOn_86 : decode cX12_goesOn 86 = .ok (.iinc 4 1, 3) := by decide +kernel
theorem dX12_goesOn_89 : decode cX12_goesOn 89 = .ok (.goto (-45), 3) := by decide +kernel
theorem dX12_goesOn_92 : decode cX12_goesOn 92 = .ok (.return_, 1) := by decide +kernel
set_option maxHeartbeats 4000000 in
set_option maxRecDepth 100000 in
theorem kX12_goesOn {l : Launch} {D : va_G} {cy : Nat → ClassId} {N : Nat} {q : Nat → Nat} {m0 : Nat → Value} {a0 : Nat → vp_A} {sz : Nat} (hN : 105 ≤ N) (hsh : SH q m0) {A81 : Nat → Int32} (h_A81 : a0 81 = (6002, .inl A81)) {A82 : Nat → Int32} (h_A82 : a0 82 = (84000, .inl A82)) {A83 : Nat → Int32} (h_A83 : a0 83 = (84000, .inl A83)) {A98 : Nat → UInt64} (h_A98 : a0 98 = (6001, .inr (.inr (.inr (.inl A98))))) {A99 : Nat → UInt64} (h_A99 : a0 99 = (6001, .inr (.inr (.inr (.inl A99))))) (F : Nat) (p1 : Int32) {X0 : (Nat → UInt64)} (hs0 : fX12_goesOn F A81 A82 A83 A98 A99 p1 = some X0) : gMv l yX12_goesOn cX12_goesOn 5 none ({ frames := 1, cells := 0, slots := 0, locals := 20 } : Room) D cy N q m0 a0 sz [.ref (q 69), .int p1] (fun m' a' => m' = m0 ∧ a' 99 = (6001, .inr (.inr (.inr (.inl X0)))) ∧ (∀ j, nel j [99] = false → a' j = a0 j)) := by
  refine g_ofv (by decide) (Nat.le_of_ble_eq_true rfl) ?_
  intro p e s M args below meth c hx hb hr hG hown hin hlocks hml hW hS ls hl
  unfold fX12_goesOn at hs0
  have hoffa : ∀ j, nel j [99] = false → a0 j = a0 j := off0
  refine lv_aload_n hx hb dX12_goesOn_0 rfl (lv_at hl 0 rfl) ?_
  refine gf12_50 hx hb hG hown hW (o := 69) (ltN hN 69 rfl) gk69 (v := .ref (q 98)) (sh69_50 hsh) gx196 dX12_goesOn_1 ?_
  refine lv_iload_n hx hb dX12_goesOn_4 rfl (lv_at hl 1 rfl) ?_
  obtain ⟨hi1, hs0⟩ := oif hs0
  refine g_dald hx hb hW (o := 98) (ltN hN 98 rfl) gk98 ((hoffa 98 rfl).trans h_A98) (vin hi1) dX12_goesOn_5 ?_
  refine lv_dconst0 hx hb dX12_goesOn_6 ?_
  refine lv_dcmp hx hb dX12_goesOn_7 ?_
  refine lv_if_ne (tgt := 12) hx hb dX12_goesOn_8 (by decide) (fun c2 => ?_) (fun c2 => ?_)
  · rw [if_neg c2] at hs0
    refine lv_aload_n hx hb dX12_goesOn_12 rfl (lv_at hl 0 rfl) ?_
    refine gf12_50 hx hb hG hown hW (o := 69) (ltN hN 69 rfl) gk69 (v := .ref (q 98)) (sh69_50 hsh) gx196 dX12_goesOn_13 ?_
    refine lv_iload_n hx hb dX12_goesOn_16 rfl (lv_at hl 1 rfl) ?_
    obtain ⟨hi3, hs0⟩ := oif hs0
    refine g_dald hx hb hW (o := 98) (ltN hN 98 rfl) gk98 ((hoffa 98 rfl).trans h_A98) (vin hi3) dX12_goesOn_17 ?_
    refine lv_aload_n hx hb dX12_goesOn_18 rfl (lv_at hl 0 rfl) ?_
    refine gf12_29 hx hb hG hown hW (o := 69) (ltN hN 69 rfl) gk69 (v := .ref (q 81)) (sh69_29 hsh) gx177 dX12_goesOn_19 ?_
    refine lv_iload_n hx hb dX12_goesOn_22 rfl (lv_at hl 1 rfl) ?_
    refine lv_iconst (v := 1) hx hb dX12_goesOn_23 (by decide) ?_
    refine lv_iadd hx hb dX12_goesOn_24 ?_
    obtain ⟨hi4, hs0⟩ := oif hs0
    refine g_iald hx hb hW (o := 81) (ltN hN 81 rfl) gk81 ((hoffa 81 rfl).trans h_A81) (vin hi4) dX12_goesOn_25 ?_
    refine lv_aload_n hx hb dX12_goesOn_26 rfl (lv_at hl 0 rfl) ?_
    refine gf12_29 hx hb hG hown hW (o := 69) (ltN hN 69 rfl) gk69 (v := .ref (q 81)) (sh69_29 hsh) gx177 dX12_goesOn_27 ?_
    refine lv_iload_n hx hb dX12_goesOn_30 rfl (lv_at hl 1 rfl) ?_
    obtain ⟨hi5, hs0⟩ := oif hs0
    refine g_iald hx hb hW (o := 81) (ltN hN 81 rfl) gk81 ((hoffa 81 rfl).trans h_A81) (vin hi5) dX12_goesOn_31 ?_
    refine lv_isub hx hb dX12_goesOn_32 ?_
    refine lv_i2d hx hb dX12_goesOn_33 ?_
    obtain ⟨hd6, hs0⟩ := oif hs0
    refine lv_ddiv hx hb dX12_goesOn_34 (nn64.p hd6) ?_
    refine lv_dstore_n (lv' := [(2, .double (FP.ddiv (A98 p1.toNatClampNeg) (FP.i2d ((A81 (p1 + 1).toNatClampNeg) - (A81 p1.toNatClampNeg))))), (0, .ref (q 69)), (1, .int p1)]) hx hb dX12_goesOn_35 rfl hl (by decide) rfl (fun ls hl => ?_)
    refine lv_aload_n hx hb dX12_goesOn_36 rfl (lv_at hl 1 rfl) ?_
    refine gf12_29 hx hb hG hown hW (o := 69) (ltN hN 69 rfl) gk69 (v := .ref (q 81)) (sh69_29 hsh) gx177 dX12_goesOn_37 ?_
    refine lv_iload_n hx hb dX12_goesOn_40 rfl (lv_at hl 2 rfl) ?_
    obtain ⟨hi7, hs0⟩ := oif hs0
    refine g_iald hx hb hW (o := 81) (ltN hN 81 rfl) gk81 ((hoffa 81 rfl).trans h_A81) (vin hi7) dX12_goesOn_41 ?_
    refine lv_istore (lv' := [(4, .int (A81 p1.toNatClampNeg)), (2, .double (FP.ddiv (A98 p1.toNatClampNeg) (FP.i2d ((A81 (p1 + 1).toNatClampNeg) - (A81 p1.toNatClampNeg))))), (0, .ref (q 69)), (1, .int p1)]) hx hb dX12_goesOn_42 hl (by decide) rfl (fun ls hl => ?_)
    obtain ⟨r8, hg8, hs0⟩ := obind hs0
    have hE1_92 : ∀ (t8_92 : (Nat → UInt64)) (hr8 : t8_92 = r8) (a : Nat → vp_A) (H : Heap) (locs : List Loc) (w_A99 : a 99 = (6001, .inr (.inr (.inr (.inl t8_92))))) (hoffa : ∀ j, nel j [99] = false → a j = a0 j) (ls : Array Slot) (hl : lv_has ls 5 []) (hW : GW D cy (gA N q s.heap.size) N q m0 a s H) (hS : va_S (gA N q s.heap.size) s.heap H locs), W p l e ({ frames := 1, cells := 0, slots := 0, locals := 20 } : Room) s M args below meth c H locs 0 0 (MQ below (va_Qv (fun (u : (Nat → Value) × (Nat → vp_A)) => u.1 = m0 ∧ u.2 99 = (6001, .inr (.inr (.inr (.inl X0)))) ∧ (∀ j, nel j [99] = false → u.2 j = a0 j)) (gB D cy N q s.heap.size) (gA N q s.heap.size)) args s 0 0 (gA N q s.heap.size)) (F0 M 92 ls []) := by
      intro t8_92 hr8 a H locs w_A99 hoffa ls hl hW hS
      subst hr8
      have hs0 := Option.some.inj hs0
      subst hs0
      exact W.vret hx hb hr (fun t ht hw => ⟨⟨(m0, a), rfl, ⟨rfl, w_A99, hoffa⟩, g_end hW ht hw⟩, hS.F ht⟩) hS.2.2 dX12_goesOn_92 hlocks
    have hL1 : ∀ (n : Nat) (v4k8 : Int32) (A99k8 : Nat → UInt64) (a : Nat → vp_A) (H : Heap) (locs : List Loc) (w_A99 : a 99 = (6001, .inr (.inr (.inr (.inl A99k8))))) (hoffa : ∀ j, nel j [99] = false → a j = a0 j) (ls : Array Slot) (hl : lv_has ls 5 [(0, .ref (q 69)), (1, .int p1), (2, .double (FP.ddiv (A98 p1.toNatClampNeg) (FP.i2d ((A81 (p1 + 1).toNatClampNeg) - (A81 p1.toNatClampNeg))))), (4, .int v4k8)]) (hg8 : gloop (fun u8 : (Int32 × (Nat → UInt64)) => fX12_goesOn_S44 F A81 A82 A83 A98 p1 (FP.ddiv (A98 p1.toNatClampNeg) (FP.i2d ((A81 (p1 + 1).toNatClampNeg) - (A81 p1.toNatClampNeg)))) u8.1 u8.2) n (v4k8, A99k8) = some r8) (hW : GW D cy (gA N q s.heap.size) N q m0 a s H) (hS : va_S (gA N q s.heap.size) s.heap H locs), W p l e ({ frames := 1, cells := 0, slots := 0, locals := 20 } : Room) s M args below meth c H locs 0 0 (MQ below (va_Qv (fun (u : (Nat → Value) × (Nat → vp_A)) => u.1 = m0 ∧ u.2 99 = (6001, .inr (.inr (.inr (.inl X0)))) ∧ (∀ j, nel j [99] = false → u.2 j = a0 j)) (gB D cy N q s.heap.size) (gA N q s.heap.size)) args s 0 0 (gA N q s.heap.size)) (F0 M 44 ls []) := by
      intro n
      induction n with
      | zero => intro v4k8 A99k8 a H locs w_A99 hoffa ls hl hg8 hW hS; exact (gl_zero hg8).elim
      | succ n ih1 =>
        intro v4k8 A99k8 a H locs w_A99 hoffa ls hl hg8 hW hS
        obtain ⟨X1, hs1, hXl1, hXr1⟩ := gl_succ hg8
        have hs1 : fX12_goesOn_S44 F A81 A82 A83 A98 p1 (FP.ddiv (A98 p1.toNatClampNeg) (FP.i2d ((A81 (p1 + 1).toNatClampNeg) - (A81 p1.toNatClampNeg)))) v4k8 A99k8 = some X1 := hs1
        unfold fX12_goesOn_S44 at hs1
        have hJ86_1 : ∀ (v4j25 : Int32) (A99j25 : Nat → UInt64) (a : Nat → vp_A) (H : Heap) (locs : List Loc) (w_A99 : a 99 = (6001, .inr (.inr (.inr (.inl A99j25))))) (hoffa : ∀ j, nel j [99] = false → a j = a0 j) (ls : Array Slot) (hl : lv_has ls 5 [(0, .ref (q 69)), (1, .int p1), (2, .double (FP.ddiv (A98 p1.toNatClampNeg) (FP.i2d ((A81 (p1 + 1).toNatClampNeg) - (A81 p1.toNatClampNeg))))), (4, .int v4j25)]) (hs1 : fX12_goesOn_J86 F A81 A82 A83 A98 p1 (FP.ddiv (A98 p1.toNatClampNeg) (FP.i2d ((A81 (p1 + 1).toNatClampNeg) - (A81 p1.toNatClampNeg)))) v4j25 A99j25 = some X1) (hW : GW D cy (gA N q s.heap.size) N q m0 a s H) (hS : va_S (gA N q s.heap.size) s.heap H locs), W p l e ({ frames := 1, cells := 0, slots := 0, locals := 20 } : Room) s M args below meth c H locs 0 0 (MQ below (va_Qv (fun (u : (Nat → Value) × (Nat → vp_A)) => u.1 = m0 ∧ u.2 99 = (6001, .inr (.inr (.inr (.inl X0)))) ∧ (∀ j, nel j [99] = false → u.2 j = a0 j)) (gB D cy N q s.heap.size) (gA N q s.heap.size)) args s 0 0 (gA N q s.heap.size)) (F0 M 86 ls []) := by
          intro v4j25 A99j25 a H locs w_A99 hoffa ls hl hs1 hW hS
          unfold fX12_goesOn_J86 at hs1
          refine lv_iinc (v := v4j25 + 1) (lv' := [(4, .int (v4j25 + 1)), (0, .ref (q 69)), (1, .int p1), (2, .double (FP.ddiv (A98 p1.toNatClampNeg) (FP.i2d ((A81 (p1 + 1).toNatClampNeg) - (A81 p1.toNatClampNeg)))))]) hx hb dX12_goesOn_86 hl (k := 3) rfl rfl (by decide) rfl (fun ls hl => ?_)
          refine lv_goto (tgt := 44) hx hb dX12_goesOn_89 (by decide) ?_
          exact ih1 (v4j25 + 1) A99j25 a _ _ w_A99 hoffa ls (lv_sub hl [1, 2, 3, 0] rfl) (hXr1 _ (Option.some.inj hs1).symm) hW hS
        refine lv_iload hx hb dX12_goesOn_44 (lv_at hl 3 rfl) ?_
        refine lv_aload_n hx hb dX12_goesOn_46 rfl (lv_at hl 0 rfl) ?_
        refine gf12_29 hx hb hG hown hW (o := 69) (ltN hN 69 rfl) gk69 (v := .ref (q 81)) (sh69_29 hsh) gx177 dX12_goesOn_47 ?_
        refine lv_iload_n hx hb dX12_goesOn_50 rfl (lv_at hl 1 rfl) ?_
        refine lv_iconst (v := 1) hx hb dX12_goesOn_51 (by decide) ?_
        refine lv_iadd hx hb dX12_goesOn_52 ?_
        obtain ⟨hi20, hs1⟩ := oif hs1
        refine g_iald hx hb hW (o := 81) (ltN hN 81 rfl) gk81 ((hoffa 81 rfl).trans h_A81) (vin hi20) dX12_goesOn_53 ?_
        refine lv_icmp_ge (tgt := 92) hx hb dX12_goesOn_54 (by decide) (fun c21 => ?_) (fun c21 => ?_)
        · rw [if_pos c21] at hs1
          exact hE1_92 A99k8 (hXl1 _ (Option.some.inj hs1).symm) a _ _ w_A99 hoffa ls (lv_sub hl [] rfl) hW hS
        · rw [if_neg c21] at hs1
          refine lv_aload_n hx hb dX12_goesOn_57 rfl (lv_at hl 0 rfl) ?_
          refine gf12_31 hx hb hG hown hW (o := 69) (ltN hN 69 rfl) gk69 (v := .ref (q 83)) (sh69_31 hsh) gx180 dX12_goesOn_58 ?_
          refine lv_iload hx hb dX12_goesOn_61 (lv_at hl 3 rfl) ?_
          obtain ⟨hi22, hs1⟩ := oif hs1
          refine g_iald hx hb hW (o := 83) (ltN hN 83 rfl) gk83 ((hoffa 83 rfl).trans h_A83) (vin hi22) dX12_goesOn_63 ?_
          refine g_SiR (n := 1) hx hb hml hown hG hW hS [.int (A83 v4k8.toNatClampNeg)] (kX12_isBad hN (A83 v4k8.toNatClampNeg)) rfl (gd_S gx584 gx585 gx5 gx586) rfl rfl (by decide) ⟨Nat.le_of_ble_eq_true rfl, Nat.le_of_ble_eq_true rfl⟩ rfl hl (Nat.le_of_ble_eq_true rfl) ⟨Nat.zero_le _, Nat.zero_le _⟩ dX12_goesOn_64 (fun H locs hW hS => ?_)
          refine lv_if_ne (tgt := 86) hx hb dX12_goesOn_67 (by decide) (fun c24 => ?_) (fun c24 => ?_)
          · rw [if_neg c24] at hs1
            exact hJ86_1 v4k8 A99k8 a _ _ w_A99 hoffa ls (lv_sub hl [0, 1, 2, 3] rfl) hs1 hW hS
          · rw [if_pos c24] at hs1
            refine lv_aload_n hx hb dX12_goesOn_70 rfl (lv_at hl 0 rfl) ?_
            refine gf12_51 hx hb hG hown hW (o := 69) (ltN hN 69 rfl) gk69 (v := .ref (q 99)) (sh69_51 hsh) gx197 dX12_goesOn_71 ?_
            refine lv_aload_n hx hb dX12_goesOn_74 rfl (lv_at hl 0 rfl) ?_
            refine gf12_30 hx hb hG hown hW (o := 69) (ltN hN 69 rfl) gk69 (v := .ref (q 82)) (sh69_30 hsh) gx179 dX12_goesOn_75 ?_
            refine lv_iload hx hb dX12_goesOn_78 (lv_at hl 3 rfl) ?_
            obtain ⟨hi26, hs1⟩ := oif hs1
            refine g_iald hx hb hW (o := 82) (ltN hN 82 rfl) gk82 ((hoffa 82 rfl).trans h_A82) (vin hi26) dX12_goesOn_80 ?_
            refine lv_dup2_11 hx hb dX12_goesOn_81 rfl rfl ?_
            obtain ⟨hi27, hs1⟩ := oif hs1
            refine g_dald hx hb hW (o := 99) (ltN hN 99 rfl) gk99 w_A99 (vin hi27) dX12_goesOn_82 ?_
            refine lv_dload_n hx hb dX12_goesOn_83 rfl (lv_at hl 2 rfl) ?_
            obtain ⟨hd28, hs1⟩ := oif hs1
            refine lv_dadd hx hb dX12_goesOn_84 (nn64.p hd28) ?_
            obtain ⟨hi29, hs1⟩ := oif hs1
            refine g_dast hx hb hW hS (o := 99) (ltN hN 99 rfl) gk99 w_A99 (vin hi29) dX12_goesOn_85 (fun a30 H locs ha30 ho30 hW hS => ?_)
            have ho30 := off1 ho30
            have w_A99 : a30 99 = (6001, .inr (.inr (.inr (.inl (vf_upd A99k8 (A82 v4k8.toNatClampNeg).toNatClampNeg (FP.dadd (A99k8 (A82 v4k8.toNatClampNeg).toNatClampNeg) (FP.ddiv (A98 p1.toNatClampNeg) (FP.i2d ((A81 (p1 + 1).toNatClampNeg) - (A81 p1.toNatClampNeg)))))))))) := ha30
            have hoffa := offm hoffa ho30 (by decide +kernel)
            exact hJ86_1 v4k8 (vf_upd A99k8 (A82 v4k8.toNatClampNeg).toNatClampNeg (FP.dadd (A99k8 (A82 v4k8.toNatClampNeg).toNatClampNeg) (FP.ddiv (A98 p1.toNatClampNeg) (FP.i2d ((A81 (p1 + 1).toNatClampNeg) - (A81 p1.toNatClampNeg)))))) a30 _ _ w_A99 hoffa ls (lv_sub hl [0, 1, 2, 3] rfl) hs1 hW hS
    exact hL1 F (A81 p1.toNatClampNeg) A99 a0 _ _ h_A99 hoffa ls (lv_sub hl [2, 3, 1, 0] rfl) hg8 hW hS
  · rw [if_pos c2] at hs0
    have hs0 := Option.some.inj hs0
    subst hs0
    exact W.vret hx hb hr (fun t ht hw => ⟨⟨(m0, a0), rfl, ⟨rfl, h_A99, hoffa⟩, g_end hW ht hw⟩, hS.F ht⟩) hS.2.2 dX12_goesOn_11 hlocks
-- HealLinkModel.odds (I)J
def fX12_odds_J62 (F : Nat) (x69_0 : Int32) (x69_1 : Int32) (x69_2 : Int32) (x69_3 : Int32) (x69_4 : Int64) (v1 : Int32) (v2j9 : Int32) (s0j9 : UInt64) (s1j9 : Int32) (x69_18 : Int32) (x69_19 : Int64) (x69_20 : Int32) (x69_21 : Int32) (x69_22 : Int32) (x69_27 : Int32) (x69_35 : Int32) (A76 : Nat → Int32) (A77 : Nat → Int32) (A78 : Nat → Int32) (A79 : Nat → Int64) (A80 : Nat → Int32) (A81 : Nat → Int32) (A82 : Nat → Int32) (A83 : Nat → Int32) (A84 : Nat → Int32) (A85 : Nat → Int32) (A86 : Nat → Int32) (A98j9 : Nat → UInt64) (A99 : Nat → UInt64) : Option (((Nat → UInt64)) ⊕ (Int32 × (Nat → UInt64))) := (if inb s1j9 6001 = true then some (Sum.inr (v2j9 + 1, vf_upd A98j9 s1j9.toNatClampNeg s0j9)) else none)
def fX12_odds_S40 (F : Nat) (x69_0 : Int32) (x69_1 : Int32) (x69_2 : Int32) (x69_3 : Int32) (x69_4 : Int64) (v1 : Int32) (x69_18 : Int32) (x69_19 : Int64) (x69_20 : Int32) (x69_21 : Int32) (x69_22 : Int32) (x69_27 : Int32) (x69_35 : Int32) (A76 : Nat → Int32) (A77 : Nat → Int32) (A78 : Nat → Int32) (A79 : Nat → Int64) (A80 : Nat → Int32) (A81 : Nat → Int32) (A82 : Nat → Int32) (A83 : Nat → Int32) (A84 : Nat → Int32) (A85 : Nat → Int32) (A86 : Nat → Int32) (A99 : Nat → UInt64) (v2 : Int32) (A98 : Nat → UInt64) : Option (((Nat → UInt64)) ⊕ (Int32 × (Nat → UInt64))) := (if x69_27 ≤ v2 then some (Sum.inl A98) else (if v2 = 0 then fX12_odds_J62 F x69_0 x69_1 x69_2 x69_3 x69_4 v1 v2 FP.dconst1 v2 x69_18 x69_19 x69_20 x69_21 x69_22 x69_27 x69_35 A76 A77 A78 A79 A80 A81 A82 A83 A84 A85 A86 A98 A99 else fX12_odds_J62 F x69_0 x69_1 x69_2 x69_3 x69_4 v1 v2 FP.dconst0 v2 x69_18 x69_19 x69_20 x69_21 x69_22 x69_27 x69_35 A76 A77 A78 A79 A80 A81 A82 A83 A84 A85 A86 A98 A99))
def fX12_odds_S78 (F : Nat) (x69_0 : Int32) (x69_1 : Int32) (x69_2 : Int32) (x69_3 : Int32) (x69_4 : Int64) (v1 : Int32) (v2 : Int32) (x69_18 : Int32) (x69_19 : Int64) (x69_20 : Int32) (x69_21 : Int32) (x69_22 : Int32) (x69_27 : Int32) (x69_35 : Int32) (A76 : Nat → Int32) (A77 : Nat → Int32) (A78 : Nat → Int32) (A79 : Nat → Int64) (A80 : Nat → Int32) (A81 : Nat → Int32) (A82 : Nat → Int32) (A83 : Nat → Int32) (A84 : Nat → Int32) (A85 : Nat → Int32) (A86 : Nat → Int32) (A98 : Nat → UInt64) (v3 : Int32) (A99 : Nat → UInt64) : Option (((Nat → UInt64)) ⊕ (Int32 × (Nat → UInt64))) := (if x69_27 ≤ v3 then some (Sum.inl A99) else (if inb v3 6001 = true then some (Sum.inr (v3 + 1, vf_upd A99 v3.toNatClampNeg FP.dconst0)) else none))
def fX12_odds_S101 (F : Nat) (x69_0 : Int32) (x69_1 : Int32) (x69_2 : Int32) (x69_3 : Int32) (x69_4 : Int64) (v1 : Int32) (v2 : Int32) (x69_18 : Int32) (x69_19 : Int64) (x69_20 : Int32) (x69_21 : Int32) (x69_22 : Int32) (x69_27 : Int32) (x69_35 : Int32) (A76 : Nat → Int32) (A77 : Nat → Int32) (A78 : Nat → Int32) (A79 : Nat → Int64) (A80 : Nat → Int32) (A81 : Nat → Int32) (A82 : Nat → Int32) (A83 : Nat → Int32) (A84 : Nat → Int32) (A85 : Nat → Int32) (A86 : Nat → Int32) (A98 : Nat → UInt64) (v3 : Int32) (A99 : Nat → UInt64) : Option (((Nat → UInt64)) ⊕ (Int32 × (Nat → UInt64))) := (if x69_27 ≤ v3 then some (Sum.inl A99) else ((fX12_goesOn F A81 A82 A83 A98 A99 v3).bind (fun r20 => some (Sum.inr (v3 + 1, r20)))))
def fX12_odds_S122 (F : Nat) (x69_0 : Int32) (x69_1 : Int32) (x69_2 : Int32) (x69_3 : Int32) (x69_4 : Int64) (v1 : Int32) (v2 : Int32) (x69_18 : Int32) (x69_19 : Int64) (x69_20 : Int32) (x69_21 : Int32) (x69_22 : Int32) (x69_27 : Int32) (x69_35 : Int32) (A76 : Nat → Int32) (A77 : Nat → Int32) (A78 : Nat → Int32) (A79 : Nat → Int64) (A80 : Nat → Int32) (A81 : Nat → Int32) (A82 : Nat → Int32) (A83 : Nat → Int32) (A84 : Nat → Int32) (A85 : Nat → Int32) (A86 : Nat → Int32) (A99 : Nat → UInt64) (v3 : Int32) (A98 : Nat → UInt64) : Option (((Nat → UInt64)) ⊕ (Int32 × (Nat → UInt64))) := (if x69_27 ≤ v3 then some (Sum.inl A98) else (if inb v3 6001 = true then (if inb v3 6001 = true then some (Sum.inr (v3 + 1, vf_upd A98 v3.toNatClampNeg (A99 v3.toNatClampNeg))) else none) else none))
def fX12_odds_S71 (F : Nat) (x69_0 : Int32) (x69_1 : Int32) (x69_2 : Int32) (x69_3 : Int32) (x69_4 : Int64) (v1 : Int32) (x69_18 : Int32) (x69_19 : Int64) (x69_20 : Int32) (x69_21 : Int32) (x69_22 : Int32) (x69_27 : Int32) (x69_35 : Int32) (A76 : Nat → Int32) (A77 : Nat → Int32) (A78 : Nat → Int32) (A79 : Nat → Int64) (A80 : Nat → Int32) (A81 : Nat → Int32) (A82 : Nat → Int32) (A83 : Nat → Int32) (A84 : Nat → Int32) (A85 : Nat → Int32) (A86 : Nat → Int32) (v2 : Int32) (A98 : Nat → UInt64) (A99 : Nat → UInt64) : Option (((Nat → UInt64) × (Nat → UInt64)) ⊕ (Int32 × (Nat → UInt64) × (Nat → UInt64))) := (if v1 ≤ v2 then some (Sum.inl (A98, A99)) else (gloop (fun u14 : (Int32 × (Nat → UInt64)) => fX12_odds_S78 F x69_0 x69_1 x69_2 x69_3 x69_4 v1 v2 x69_18 x69_19 x69_20 x69_21 x69_22 x69_27 x69_35 A76 A77 A78 A79 A80 A81 A82 A83 A84 A85 A86 A98 u14.1 u14.2) F (0, A99)).bind (fun t14_99 => (gloop (fun u18 : (Int32 × (Nat → UInt64)) => fX12_odds_S101 F x69_0 x69_1 x69_2 x69_3 x69_4 v1 v2 x69_18 x69_19 x69_20 x69_21 x69_22 x69_27 x69_35 A76 A77 A78 A79 A80 A81 A82 A83 A84 A85 A86 A98 u18.1 u18.2) F (0, t14_99)).bind (fun t18_120 => (gloop (fun u21 : (Int32 × (Nat → UInt64)) => fX12_odds_S122 F x69_0 x69_1 x69_2 x69_3 x69_4 v1 v2 x69_18 x69_19 x69_20 x69_21 x69_22 x69_27 x69_35 A76 A77 A78 A79 A80 A81 A82 A83 A84 A85 A86 t18_120 u21.1 u21.2) F (0, A98)).bind (fun t21_148 => some (Sum.inr (v2 + 1, t21_148, t18_120))))))
def fX12_odds_S159 (F : Nat) (x69_0 : Int32) (x69_1 : Int32) (x69_2 : Int32) (x69_3 : Int32) (x69_4 : Int64) (x69_18 : Int32) (x69_19 : Int64) (x69_20 : Int32) (x69_21 : Int32) (x69_22 : Int32) (x69_27 : Int32) (x69_35 : Int32) (A76 : Nat → Int32) (A77 : Nat → Int32) (A78 : Nat → Int32) (A79 : Nat → Int64) (A80 : Nat → Int32) (A81 : Nat → Int32) (A82 : Nat → Int32) (A83 : Nat → Int32) (A84 : Nat → Int32) (A85 : Nat → Int32) (A86 : Nat → Int32) (A98 : Nat → UInt64) (A99 : Nat → UInt64) (v2 : UInt64) (v4 : Int32) : Option ((UInt64) ⊕ (UInt64 × Int32)) := (if x69_27 ≤ v4 then some (Sum.inl v2) else (if inb v4 6001 = true then (if nn64 (FP.dadd v2 (A98 v4.toNatClampNeg)) = true then some (Sum.inr (FP.dadd v2 (A98 v4.toNatClampNeg), v4 + 1)) else none) else none))
def fX12_odds (F : Nat) (x69_0 : Int32) (x69_1 : Int32) (x69_2 : Int32) (x69_3 : Int32) (x69_4 : Int64) (x69_18 : Int32) (x69_19 : Int64) (x69_20 : Int32) (x69_21 : Int32) (x69_22 : Int32) (x69_27 : Int32) (x69_35 : Int32) (A76 : Nat → Int32) (A77 : Nat → Int32) (A78 : Nat → Int32) (A79 : Nat → Int64) (A80 : Nat → Int32) (A81 : Nat → Int32) (A82 : Nat → Int32) (A83 : Nat → Int32) (A84 : Nat → Int32) (A85 : Nat → Int32) (A86 : Nat → Int32) (A98 : Nat → UInt64) (A99 : Nat → UInt64) (p1 : Int32) : Option (Int64 × Int32 × Int64 × Int32 × Int32 × Int32 × Int32 × Int32 × (Nat → Int32) × (Nat → Int32) × (Nat → Int32) × (Nat → Int64) × (Nat → Int32) × (Nat → Int32) × (Nat → Int32) × (Nat → Int32) × (Nat → Int32) × (Nat → Int32) × (Nat → Int32) × (Nat → UInt64) × (Nat → UInt64)) := (if (fX12_within p1 1 40) = 0 then some ((-1), 0, x69_19, x69_20, x69_21, x69_22, x69_27, x69_35, A76, A77, A78, A79, A80, A81, A82, A83, A84, A85, A86, A98, A99) else ((fX12_reaches F x69_0 x69_1 x69_3 x69_19 x69_20 x69_21 x69_22 x69_27 x69_35 A76 A77 A78 A79 A80 A81 A82 A83 A84 A85 A86 x69_4 x69_2).bind (fun r4 => (if r4.1 = 0 then some ((-3), 0, r4.2.1, r4.2.2.1, r4.2.2.2.1, r4.2.2.2.2.1, r4.2.2.2.2.2.1, r4.2.2.2.2.2.2.1, r4.2.2.2.2.2.2.2.1, r4.2.2.2.2.2.2.2.2.1, r4.2.2.2.2.2.2.2.2.2.1, r4.2.2.2.2.2.2.2.2.2.2.1, r4.2.2.2.2.2.2.2.2.2.2.2.1, r4.2.2.2.2.2.2.2.2.2.2.2.2.1, r4.2.2.2.2.2.2.2.2.2.2.2.2.2.1, r4.2.2.2.2.2.2.2.2.2.2.2.2.2.2.1, r4.2.2.2.2.2.2.2.2.2.2.2.2.2.2.2.1, r4.2.2.2.2.2.2.2.2.2.2.2.2.2.2.2.2.1, r4.2.2.2.2.2.2.2.2.2.2.2.2.2.2.2.2.2, A98, A99) else (gloop (fun u6 : (Int32 × (Nat → UInt64)) => fX12_odds_S40 F x69_0 x69_1 x69_2 x69_3 x69_4 p1 0 r4.2.1 r4.2.2.1 r4.2.2.2.1 r4.2.2.2.2.1 r4.2.2.2.2.2.1 r4.2.2.2.2.2.2.1 r4.2.2.2.2.2.2.2.1 r4.2.2.2.2.2.2.2.2.1 r4.2.2.2.2.2.2.2.2.2.1 r4.2.2.2.2.2.2.2.2.2.2.1 r4.2.2.2.2.2.2.2.2.2.2.2.1 r4.2.2.2.2.2.2.2.2.2.2.2.2.1 r4.2.2.2.2.2.2.2.2.2.2.2.2.2.1 r4.2.2.2.2.2.2.2.2.2.2.2.2.2.2.1 r4.2.2.2.2.2.2.2.2.2.2.2.2.2.2.2.1 r4.2.2.2.2.2.2.2.2.2.2.2.2.2.2.2.2.1 r4.2.2.2.2.2.2.2.2.2.2.2.2.2.2.2.2.2 A99 u6.1 u6.2) F (0, A98)).bind (fun t6_69 => (gloop (fun u12 : (Int32 × (Nat → UInt64) × (Nat → UInt64)) => fX12_odds_S71 F x69_0 x69_1 x69_2 x69_3 x69_4 p1 0 r4.2.1 r4.2.2.1 r4.2.2.2.1 r4.2.2.2.2.1 r4.2.2.2.2.2.1 r4.2.2.2.2.2.2.1 r4.2.2.2.2.2.2.2.1 r4.2.2.2.2.2.2.2.2.1 r4.2.2.2.2.2.2.2.2.2.1 r4.2.2.2.2.2.2.2.2.2.2.1 r4.2.2.2.2.2.2.2.2.2.2.2.1 r4.2.2.2.2.2.2.2.2.2.2.2.2.1 r4.2.2.2.2.2.2.2.2.2.2.2.2.2.1 r4.2.2.2.2.2.2.2.2.2.2.2.2.2.2.1 r4.2.2.2.2.2.2.2.2.2.2.2.2.2.2.2.1 r4.2.2.2.2.2.2.2.2.2.2.2.2.2.2.2.2.1 r4.2.2.2.2.2.2.2.2.2.2.2.2.2.2.2.2.2 u12.1 u12.2.1 u12.2.2) F (0, t6_69, A99)).bind (fun t12_154 => (gloop (fun u35 : (UInt64 × Int32) => fX12_odds_S159 F x69_0 x69_1 x69_2 x69_3 x69_4 0 r4.2.1 r4.2.2.1 r4.2.2.2.1 r4.2.2.2.2.1 r4.2.2.2.2.2.1 r4.2.2.2.2.2.2.1 r4.2.2.2.2.2.2.2.1 r4.2.2.2.2.2.2.2.2.1 r4.2.2.2.2.2.2.2.2.2.1 r4.2.2.2.2.2.2.2.2.2.2.1 r4.2.2.2.2.2.2.2.2.2.2.2.1 r4.2.2.2.2.2.2.2.2.2.2.2.2.1 r4.2.2.2.2.2.2.2.2.2.2.2.2.2.1 r4.2.2.2.2.2.2.2.2.2.2.2.2.2.2.1 r4.2.2.2.2.2.2.2.2.2.2.2.2.2.2.2.1 r4.2.2.2.2.2.2.2.2.2.2.2.2.2.2.2.2.1 r4.2.2.2.2.2.2.2.2.2.2.2.2.2.2.2.2.2 t12_154.1 t12_154.2 u35.1 u35.2) F (FP.dconst0, 0)).bind (fun t35_184 => some ((fJxe99ae_doubleToLongBits_ccdee t35_184), 0, r4.2.1, r4.2.2.1, r4.2.2.2.1, r4.2.2.2.2.1, r4.2.2.2.2.2.1, r4.2.2.2.2.2.2.1, r4.2.2.2.2.2.2.2.1, r4.2.2.2.2.2.2.2.2.1, r4.2.2.2.2.2.2.2.2.2.1, r4.2.2.2.2.2.2.2.2.2.2.1, r4.2.2.2.2.2.2.2.2.2.2.2.1, r4.2.2.2.2.2.2.2.2.2.2.2.2.1, r4.2.2.2.2.2.2.2.2.2.2.2.2.2.1, r4.2.2.2.2.2.2.2.2.2.2.2.2.2.2.1, r4.2.2.2.2.2.2.2.2.2.2.2.2.2.2.2.1, r4.2.2.2.2.2.2.2.2.2.2.2.2.2.2.2.2.1, r4.2.2.2.2.2.2.2.2.2.2.2.2.2.2.2.2.2, t12_154.1, t12_154.2))))))))
theorem dX12_odds_0 : decode cX12_odds 0 = .ok (.aload_n 0, 1) := by decide +kernel
theorem dX12_odds_1 : decode cX12_odds 1 = .ok (.iconst 0, 1) := by decide +kernel
theorem dX12_odds_2 : decode cX12_odds 2 = .ok (.putfield 137, 3) := by decide +kernel
theorem dX12_odds_5 : decode cX12_odds 5 = .ok (.iload_n 1, 1) := by decide +kernel
theorem dX12_odds_6 : decode cX12_odds 6 = .ok (.iconst 1, 1) := by decide +kernel
theorem dX12_odds_7 : decode cX12_odds 7 = .ok (.bipush 40, 2) := by decide +kernel
theorem dX12_odds_9 : decode cX12_odds 9 = .ok (.invokestatic 159, 3) := by decide +kernel
theorem dX12_odds_12 : decode cX12_odds 12 = .ok (.ifCond .ne 7, 3) := by decide +kernel
theorem dX12_odds_15 : decode cX12_odds 15 = .ok (.ldc2_w 140, 3) := by decide +kernel
theorem dX12_odds_18 : decode cX12_odds 18 = .ok (.lreturn, 1) := by decide +kernel
theorem dX12_odds_19 : decode cX12_odds 19 = .ok (.aload_n 0, 1) := by decide +kernel
theorem dX12_odds_20 : decode cX12_odds 20 = .ok (.aload_n 0, 1) := by decide +kernel
theorem dX12_odds_21 : decode cX12_odds 21 = .ok (.getfield 133, 3) := by decide +kernel
theorem dX12_odds_24 : decode cX12_odds 24 = .ok (.aload_n 0, 1) := by decide +kernel
theorem dX12_odds_25 : decode cX12_odds 25 = .ok (.getfield 16, 3) := by decide +kernel
theorem dX12_odds_28 : decode cX12_odds 28 = .ok (.invokevirtual 278, 3) := by decide +kernel
theorem dX12_odds_31 : decode cX12_odds 31 = .ok (.ifCond .ne 7, 3) := by decide +kernel
theorem dX12_odds_34 : decode cX12_odds 34 = .ok (.ldc2_w 322, 3) := by decide +kernel
theorem dX12_odds_37 : decode cX12_odds 37 = .ok (.lreturn, 1) := by decide +kernel
theorem dX12_odds_38 : decode cX12_odds 38 = .ok (.iconst 0, 1) := by decide +kernel
theorem dX12_odds_39 : decode cX12_odds 39 = .ok (.istore_n 2, 1) := by decide +kernel
theorem dX12_odds_40 : decode cX12_odds 40 = .ok (.iload_n 2, 1) := by decide +kernel
theorem dX12_odds_41 : decode cX12_odds 41 = .ok (.aload_n 0, 1) := by decide +kernel
theorem dX12_odds_42 : decode cX12_odds 42 = .ok (.getfield 255, 3) := by decide +kernel
theorem dX12_odds_45 : decode cX12_odds 45 = .ok (.if_icmp .ge 24, 3) := by decide +kernel
theorem dX12_odds_48 : decode cX12_odds 48 = .ok (.aload_n 0, 1) := by decide +kernel
theorem dX12_odds_49 : decode cX12_odds 49 = .ok (.getfield 110, 3) := by decide +kernel
theorem dX12_odds_52 : decode cX12_odds 52 = .ok (.iload_n 2, 1) := by decide +kernel
theorem dX12_odds_53 : decode cX12_odds 53 = .ok (.iload_n 2, 1) := by decide +kernel
theorem dX12_odds_54 : decode cX12_odds 54 = .ok (.ifCond .ne 7, 3) := by decide +kernel
theorem dX12_odds_57 : decode cX12_odds 57 = .ok (.dconst 1, 1) := by decide +kernel
theorem dX12_odds_58 : decode cX12_odds 58 = .ok (.goto 4, 3) := by decide +kernel
theorem dX12_odds_61 : decode cX12_odds 61 = .ok (.dconst 0, 1) := by decide +kernel
theorem dX12_odds_62 : decode cX12_odds 62 = .ok (.dastore, 1) := by decide +kernel
theorem dX12_odds_63 : decode cX12_odds 63 = .ok (.iinc 2 1, 3) := by decide +kernel
theorem dX12_odds_66 : decode cX12_odds 66 = .ok (.goto (-26), 3) := by decide +kernel
theorem dX12_odds_69 : decode cX12_odds 69 = .ok (.iconst 0, 1) := by decide +kernel
theorem dX12_odds_70 : decode cX12_odds 70 = .ok (.istore_n 2, 1) := by decide +kernel
theorem dX12_odds_71 : decode cX12_odds 71 = .ok (.iload_n 2, 1) := by decide +kernel
theorem dX12_odds_72 : decode cX12_odds 72 = .ok (.iload_n 1, 1) := by decide +kernel
theorem dX12_odds_73 : decode cX12_odds 73 = .ok (.if_icmp .ge 81, 3) := by decide +kernel
theorem dX12_odds_76 : decode cX12_odds 76 = .ok (.iconst 0, 1) := by decide +kernel
theorem dX12_odds_77 : decode cX12_odds 77 = .ok (.istore_n 3, 1) := by decide +kernel
theorem dX12_odds_78 : decode cX12_odds 78 = .ok (.iload_n 3, 1) := by decide +kernel
theorem dX12_odds_79 : decode cX12_odds 79 = .ok (.aload_n 0, 1) := by decide +kernel
theorem dX12_odds_80 : decode cX12_odds 80 = .ok (.getfield 255, 3) := by decide +kernel
theorem dX12_odds_83 : decode cX12_odds 83 = .ok (.if_icmp .ge 16, 3) := by decide +kernel
theorem dX12_odds_86 : decode cX12_odds 86 = .ok (.aload_n 0, 1) := by decide +kernel
theorem dX12_odds_87 : decode cX12_odds 87 = .ok (.getfield 114, 3) := by decide +kernel
theorem dX12_odds_90 : decode cX12_odds 90 = .ok (.iload_n 3, 1) := by decide +kernel
theorem dX12_odds_91 : decode cX12_odds 91 = .ok (.dconst 0, 1) := by decide +kernel
theorem dX12_odds_92 : decode cX12_odds 92 = .ok (.dastore, 1) := by decide +kernel
theorem dX12_odds_93 : decode cX12_odds 93 = .ok (.iinc 3 1, 3) := by decide +kernel
theorem dX12_odds_96 : decode cX12_odds 96 = .ok (.goto (-18), 3) := by decide +kernel
theorem dX12_odds_99 : decode cX12_odds 99 = .ok (.iconst 0, 1) := by decide +kernel
theorem dX12_odds_100 : decode cX12_odds 100 = .ok (.istore_n 3, 1) := by decide +kernel
theorem dX12_odds_101 : decode cX12_odds 101 = .ok (.iload_n 3, 1) := by decide +kernel
theorem dX12_odds_102 : decode cX12_odds 102 = .ok (.aload_n 0, 1) := by decide +kernel
theorem dX12_odds_103 : decode cX12_odds 103 = .ok (.getfield 255, 3) := by decide +kernel
theorem dX12_odds_106 : decode cX12_odds 106 = .ok (.if_icmp .ge 14, 3) := by decide +kernel
theorem dX12_odds_109 : decode cX12_odds 109 = .ok (.aload_n 0, 1) := by decide +kernel
theorem dX12_odds_110 : decode cX12_odds 110 = .ok (.iload_n 3, 1) := by decide +kernel
theorem dX12_odds_111 : decode cX12_odds 111 = .ok (.invokevirtual 324, 3) := by decide +kernel
theorem dX12_odds_114 : decode cX12_odds 114 = .ok (.iinc 3 1, 3) := by decide +kernel
theorem dX12_odds_117 : decode cX12_odds 117 = .ok (.goto (-16), 3) := by decide +kernel
theorem dX12_odds_120 : decode cX12_odds 120 = .ok (.iconst 0, 1) := by decide +kernel
theorem dX12_odds_121 : decode cX12_odds 121 = .ok (.istore_n 3, 1) := by decide +kernel
theorem dX12_odds_122 : decode cX12_odds 122 = .ok (.iload_n 3, 1) := by decide +kernel
theorem dX12_odds_123 : decode cX12_odds 123 = .ok (.aload_n 0, 1) := by decide +kernel
theorem dX12_odds_124 : decode cX12_odds 124 = .ok (.getfield 255, 3) := by decide +kernel
theorem dX12_odds_127 : decode cX12_odds 127 = .ok (.if_icmp .ge 21, 3) := by decide +kernel
theorem dX12_odds_130 : decode cX12_odds 130 = .ok (.aload_n 0, 1) := by decide +kernel
theorem dX12_odds_131 : decode cX12_odds 131 = .ok (.getfield 110, 3) := by decide +kernel
theorem dX12_odds_134 : decode cX12_odds 134 = .ok (.iload_n 3, 1) := by decide +kernel
theorem dX12_odds_135 : decode cX12_odds 135 = .ok (.aload_n 0, 1) := by decide +kernel
theorem dX12_odds_136 : decode cX12_odds 136 = .ok (.getfield 114, 3) := by decide +kernel
theorem dX12_odds_139 : decode cX12_odds 139 = .ok (.iload_n 3, 1) := by decide +kernel
theorem dX12_odds_140 : decode cX12_odds 140 = .ok (.daload, 1) := by decide +kernel
theorem dX12_odds_141 : decode cX12_odds 141 = .ok (.dastore, 1) := by decide +kernel
theorem dX12_odds_142 : decode cX12_odds 142 = .ok (.iinc 3 1, 3) := by decide +kernel
theorem dX12_odds_145 : decode cX12_odds 145 = .ok (.goto (-23), 3) := by decide +kernel
theorem dX12_odds_148 : decode cX12_odds 148 = .ok (.iinc 2 1, 3) := by decide +kernel
theorem dX12_odds_151 : decode cX12_odds 151 = .ok (.goto (-80), 3) := by decide +kernel
theorem dX12_odds_154 : decode cX12_odds 154 = .ok (.dconst 0, 1) := by decide +kernel
theorem dX12_odds_155 : decode cX12_odds 155 = .ok (.dstore_n 2, 1) := by decide +kernel
theorem dX12_odds_156 : decode cX12_odds 156 = .ok (.iconst 0, 1) := by decide +kernel
theorem dX12_odds_157 : decode cX12_odds 157 = .ok (.istore 4, 2) := by decide +kernel
theorem dX12_odds_159 : decode cX12_odds 159 = .ok (.iload 4, 2) := by decide +kernel
theorem dX12_odds_161 : decode cX12_odds 161 = .ok (.aload_n 0, 1) := by decide +kernel
theorem dX12_odds_162 : decode cX12_odds 162 = .ok (.getfield 255, 3) := by decide +kernel
theorem dX12_odds_165 : decode cX12_odds 165 = .ok (.if_icmp .ge 19, 3) := by decide +kernel
theorem dX12_odds_168 : decode cX12_odds 168 = .ok (.dload_n 2, 1) := by decide +kernel
theorem dX12_odds_169 : decode cX12_odds 169 = .ok (.aload_n 0, 1) := by decide +kernel
theorem dX12_odds_170 : decode cX12_odds 170 = .ok (.getfield 110, 3) := by decide +kernel
theorem dX12_odds_173 : decode cX12_odds 173 = .ok (.iload 4, 2) := by decide +kernel
theorem dX12_odds_175 : decode cX12_odds 175 = .ok (.daload, 1) := by decide +kernel
theorem dX12_odds_176 : decode cX12_odds 176 = .ok (.dadd, 1) := by decide +kernel
theorem dX12_odds_177 : decode cX12_odds 177 = .ok (.dstore_n 2, 1) := by decide +kernel
theorem dX12_odds_178 : decode cX12_odds 178 = .ok (.iinc 4 1, 3) := by decide +kernel
theorem dX12_odds_181 : decode cX12_odds 181 = .ok (.goto (-22), 3) := by decide +kernel
theorem dX12_odds_184 : decode cX12_odds 184 = .ok (.dload_n 2, 1) := by decide +kernel
theorem dX12_odds_185 : decode cX12_odds 185 = .ok (.invokestatic 327, 3) := by decide +kernel
theorem dX12_odds_188 : decode cX12_odds 188 = .ok (.lreturn, 1) := by decide +kernel
set_option maxHeartbeats 4000000 in
set_option maxRecDepth 100000 in
theorem kX12_odds {l : Launch} {D : va_G} {cy : Nat → ClassId} {N : Nat} {q : Nat → Nat} {m0 : Nat → Value} {a0 : Nat → vp_A} {sz : Nat} (hN : 105 ≤ N) (hsh : SH q m0) {x69_0 : Int32} (h_x69_0 : m0 6900 = .int x69_0) {x69_1 : Int32} (h_x69_1 : m0 6901 = .int x69_1) {x69_2 : Int32} (h_x69_2 : m0 6902 = .int x69_2) {x69_3 : Int32} (h_x69_3 : m0 6903 = .int x69_3) {x69_4 : Int64} (h_x69_4 : m0 6904 = .long x69_4) {x69_18 : Int32} (h_x69_18 : m0 6918 = .int x69_18) {x69_19 : Int64} (h_x69_19 : m0 6919 = .long x69_19) {x69_20 : Int32} (h_x69_20 : m0 6920 = .int x69_20) {x69_21 : Int32} (h_x69_21 : m0 6921 = .int x69_21) {x69_22 : Int32} (h_x69_22 : m0 6922 = .int x69_22) {x69_27 : Int32} (h_x69_27 : m0 6927 = .int x69_27) {x69_35 : Int32} (h_x69_35 : m0 6935 = .int x69_35) {A76 : Nat → Int32} (h_A76 : a0 76 = (40, .inl A76)) {A77 : Nat → Int32} (h_A77 : a0 77 = (40, .inl A77)) {A78 : Nat → Int32} (h_A78 : a0 78 = (40, .inl A78)) {A79 : Nat → Int64} (h_A79 : a0 79 = (6001, .inr (.inl A79))) {A80 : Nat → Int32} (h_A80 : a0 80 = (16384, .inl A80)) {A81 : Nat → Int32} (h_A81 : a0 81 = (6002, .inl A81)) {A82 : Nat → Int32} (h_A82 : a0 82 = (84000, .inl A82)) {A83 : Nat → Int32} (h_A83 : a0 83 = (84000, .inl A83)) {A84 : Nat → Int32} (h_A84 : a0 84 = (84000, .inl A84)) {A85 : Nat → Int32} (h_A85 : a0 85 = (84000, .inl A85)) {A86 : Nat → Int32} (h_A86 : a0 86 = (84000, .inl A86)) {A98 : Nat → UInt64} (h_A98 : a0 98 = (6001, .inr (.inr (.inr (.inl A98))))) {A99 : Nat → UInt64} (h_A99 : a0 99 = (6001, .inr (.inr (.inr (.inl A99))))) (F : Nat) (p1 : Int32) {X0 : Int64 × Int32 × Int64 × Int32 × Int32 × Int32 × Int32 × Int32 × (Nat → Int32) × (Nat → Int32) × (Nat → Int32) × (Nat → Int64) × (Nat → Int32) × (Nat → Int32) × (Nat → Int32) × (Nat → Int32) × (Nat → Int32) × (Nat → Int32) × (Nat → Int32) × (Nat → UInt64) × (Nat → UInt64)} (hs0 : fX12_odds F x69_0 x69_1 x69_2 x69_3 x69_4 x69_18 x69_19 x69_20 x69_21 x69_22 x69_27 x69_35 A76 A77 A78 A79 A80 A81 A82 A83 A84 A85 A86 A98 A99 p1 = some X0) : gMl l yX12_odds cX12_odds 5 (some .long) ({ frames := 8, cells := 0, slots := 0, locals := 188 } : Room) D cy N q m0 a0 sz [.ref (q 69), .int p1] (fun r m' a' => r = X0.1 ∧ m' 6918 = .int X0.2.1 ∧ m' 6919 = .long X0.2.2.1 ∧ m' 6920 = .int X0.2.2.2.1 ∧ m' 6921 = .int X0.2.2.2.2.1 ∧ m' 6922 = .int X0.2.2.2.2.2.1 ∧ m' 6927 = .int X0.2.2.2.2.2.2.1 ∧ m' 6935 = .int X0.2.2.2.2.2.2.2.1 ∧ (∀ j, nel j [6918, 6919, 6920, 6921, 6922, 6927, 6935] = false → m' j = m0 j) ∧ a' 76 = (40, .inl X0.2.2.2.2.2.2.2.2.1) ∧ a' 77 = (40, .inl X0.2.2.2.2.2.2.2.2.2.1) ∧ a' 78 = (40, .inl X0.2.2.2.2.2.2.2.2.2.2.1) ∧ a' 79 = (6001, .inr (.inl X0.2.2.2.2.2.2.2.2.2.2.2.1)) ∧ a' 80 = (16384, .inl X0.2.2.2.2.2.2.2.2.2.2.2.2.1) ∧ a' 81 = (6002, .inl X0.2.2.2.2.2.2.2.2.2.2.2.2.2.1) ∧ a' 82 = (84000, .inl X0.2.2.2.2.2.2.2.2.2.2.2.2.2.2.1) ∧ a' 83 = (84000, .inl X0.2.2.2.2.2.2.2.2.2.2.2.2.2.2.2.1) ∧ a' 84 = (84000, .inl X0.2.2.2.2.2.2.2.2.2.2.2.2.2.2.2.2.1) ∧ a' 85 = (84000, .inl X0.2.2.2.2.2.2.2.2.2.2.2.2.2.2.2.2.2.1) ∧ a' 86 = (84000, .inl X0.2.2.2.2.2.2.2.2.2.2.2.2.2.2.2.2.2.2.1) ∧ a' 98 = (6001, .inr (.inr (.inr (.inl X0.2.2.2.2.2.2.2.2.2.2.2.2.2.2.2.2.2.2.2.1)))) ∧ a' 99 = (6001, .inr (.inr (.inr (.inl X0.2.2.2.2.2.2.2.2.2.2.2.2.2.2.2.2.2.2.2.2)))) ∧ (∀ j, nel j [76, 77, 78, 79, 80, 81, 82, 83, 84, 85, 86, 98, 99] = false → a' j = a0 j)) := by
  refine g_ofl (by decide) (Nat.le_of_ble_eq_true rfl) ?_
  intro p e s M args below meth c hx hb hr hG hown hin hlocks hml hW hS ls hl
  unfold fX12_odds at hs0
  have hoff : ∀ j, nel j [6918, 6919, 6920, 6921, 6922, 6927, 6935] = false → m0 j = m0 j := off0
  have hoffa : ∀ j, nel j [76, 77, 78, 79, 80, 81, 82, 83, 84, 85, 86, 98, 99] = false → a0 j = a0 j := off0
  refine lv_aload_n hx hb dX12_odds_0 rfl (lv_at hl 0 rfl) ?_
  refine lv_iconst (v := 0) hx hb dX12_odds_1 (by decide) ?_
  refine gp12_18 hx hb hG hown hW hS (o := 69) (ltN hN 69 rfl) gk69 (v := 0) gx246 dX12_odds_2 (fun m1 H locs hm1 ho1 hW hS => ?_)
  have ho1 := off1 ho1
  have w_x69_18 : m1 6918 = .int 0 := hm1
  have w_x69_19 : m1 6919 = .long x69_19 := (ho1 6919 rfl).trans h_x69_19
  have w_x69_20 : m1 6920 = .int x69_20 := (ho1 6920 rfl).trans h_x69_20
  have w_x69_21 : m1 6921 = .int x69_21 := (ho1 6921 rfl).trans h_x69_21
  have w_x69_22 : m1 6922 = .int x69_22 := (ho1 6922 rfl).trans h_x69_22
  have w_x69_27 : m1 6927 = .int x69_27 := (ho1 6927 rfl).trans h_x69_27
  have w_x69_35 : m1 6935 = .int x69_35 := (ho1 6935 rfl).trans h_x69_35
  have hoff := offm hoff ho1 (by decide +kernel)
  have hsh := SH.off hsh ho1 (by decide +kernel)
  refine lv_iload_n hx hb dX12_odds_5 rfl (lv_at hl 1 rfl) ?_
  refine lv_iconst (v := 1) hx hb dX12_odds_6 (by decide) ?_
  refine lv_bipush (v := 40) hx hb dX12_odds_7 (by decide) ?_
  refine g_SiR (n := 3) hx hb hml hown hG hW hS [.int p1, .int 1, .int 40] (kX12_within hN p1 1 40) rfl (gd_S gx247 gx248 gx5 gx249) rfl rfl (by decide) ⟨Nat.le_of_ble_eq_true rfl, Nat.le_of_ble_eq_true rfl⟩ rfl hl (Nat.le_of_ble_eq_true rfl) ⟨Nat.zero_le _, Nat.zero_le _⟩ dX12_odds_9 (fun H locs hW hS => ?_)
  refine lv_if_ne (tgt := 19) hx hb dX12_odds_12 (by decide) (fun c3 => ?_) (fun c3 => ?_)
  · rw [if_neg c3] at hs0
    refine lv_aload_n hx hb dX12_odds_19 rfl (lv_at hl 0 rfl) ?_
    refine lv_aload_n hx hb dX12_odds_20 rfl (lv_at hl 0 rfl) ?_
    refine gf12_4 hx hb hG hown hW (o := 69) (ltN hN 69 rfl) gk69 (v := .long x69_4) ((hoff 6904 rfl).trans h_x69_4) gx202 dX12_odds_21 ?_
    refine lv_aload_n hx hb dX12_odds_24 rfl (lv_at hl 0 rfl) ?_
    refine gf12_2 hx hb hG hown hW (o := 69) (ltN hN 69 rfl) gk69 (v := .int x69_2) ((hoff 6902 rfl).trans h_x69_2) gx164 dX12_odds_25 ?_
    obtain ⟨r4, hf4, hs0⟩ := obind hs0
    refine g_Vi (n := 2) hx hb hml hown hG hW hS [.long x69_4, .int x69_2] (kX12_reaches hN hsh ((hoff 6900 rfl).trans h_x69_0) ((hoff 6901 rfl).trans h_x69_1) ((hoff 6903 rfl).trans h_x69_3) w_x69_19 w_x69_20 w_x69_21 w_x69_22 w_x69_27 w_x69_35 h_A76 h_A77 h_A78 h_A79 h_A80 h_A81 h_A82 h_A83 h_A84 h_A85 h_A86 F x69_4 x69_2 hf4) (ltN hN 69 rfl) gk69 (by decide) rfl rfl (gd_V gx714 gx715 gx716 gx5 gx717) rfl rfl (by decide) ⟨Nat.le_of_ble_eq_true rfl, Nat.le_of_ble_eq_true rfl⟩ rfl hl (Nat.le_of_ble_eq_true rfl) ⟨Nat.zero_le _, Nat.zero_le _⟩ dX12_odds_28 (fun x4 m4 a4 H locs hp4 hW hS => ?_)
    obtain ⟨hx4, hp4_x69_19, hp4_x69_20, hp4_x69_21, hp4_x69_22, hp4_x69_27, hp4_x69_35, ho4, hp4_A76, hp4_A77, hp4_A78, hp4_A79, hp4_A80, hp4_A81, hp4_A82, hp4_A83, hp4_A84, hp4_A85, hp4_A86, hoa4⟩ := hp4
    subst hx4
    have w_x69_18 : m4 6918 = .int 0 := (ho4 6918 rfl).trans w_x69_18
    have w_x69_19 : m4 6919 = .long r4.2.1 := hp4_x69_19
    have w_x69_20 : m4 6920 = .int r4.2.2.1 := hp4_x69_20
    have w_x69_21 : m4 6921 = .int r4.2.2.2.1 := hp4_x69_21
    have w_x69_22 : m4 6922 = .int r4.2.2.2.2.1 := hp4_x69_22
    have w_x69_27 : m4 6927 = .int r4.2.2.2.2.2.1 := hp4_x69_27
    have w_x69_35 : m4 6935 = .int r4.2.2.2.2.2.2.1 := hp4_x69_35
    have hoff := offm hoff ho4 (by decide +kernel)
    have hsh := SH.off hsh ho4 (by decide +kernel)
    have w_A76 : a4 76 = (40, .inl r4.2.2.2.2.2.2.2.1) := hp4_A76
    have w_A77 : a4 77 = (40, .inl r4.2.2.2.2.2.2.2.2.1) := hp4_A77
    have w_A78 : a4 78 = (40, .inl r4.2.2.2.2.2.2.2.2.2.1) := hp4_A78
    have w_A79 : a4 79 = (6001, .inr (.inl r4.2.2.2.2.2.2.2.2.2.2.1)) := hp4_A79
    have w_A80 : a4 80 = (16384, .inl r4.2.2.2.2.2.2.2.2.2.2.2.1) := hp4_A80
    have w_A81 : a4 81 = (6002, .inl r4.2.2.2.2.2.2.2.2.2.2.2.2.1) := hp4_A81
    have w_A82 : a4 82 = (84000, .inl r4.2.2.2.2.2.2.2.2.2.2.2.2.2.1) := hp4_A82
    have w_A83 : a4 83 = (84000, .inl r4.2.2.2.2.2.2.2.2.2.2.2.2.2.2.1) := hp4_A83
    have w_A84 : a4 84 = (84000, .inl r4.2.2.2.2.2.2.2.2.2.2.2.2.2.2.2.1) := hp4_A84
    have w_A85 : a4 85 = (84000, .inl r4.2.2.2.2.2.2.2.2.2.2.2.2.2.2.2.2.1) := hp4_A85
    have w_A86 : a4 86 = (84000, .inl r4.2.2.2.2.2.2.2.2.2.2.2.2.2.2.2.2.2) := hp4_A86
    have w_A98 : a4 98 = (6001, .inr (.inr (.inr (.inl A98)))) := (hoa4 98 rfl).trans h_A98
    have w_A99 : a4 99 = (6001, .inr (.inr (.inr (.inl A99)))) := (hoa4 99 rfl).trans h_A99
    have hoffa := offm hoffa hoa4 (by decide +kernel)
    refine lv_if_ne (tgt := 38) hx hb dX12_odds_31 (by decide) (fun c5 => ?_) (fun c5 => ?_)
    · rw [if_neg c5] at hs0
      refine lv_iconst (v := 0) hx hb dX12_odds_38 (by decide) ?_
      refine lv_istore_n (lv' := [(2, .int 0), (0, .ref (q 69)), (1, .int p1)]) hx hb dX12_odds_39 rfl hl (by decide) rfl (fun ls hl => ?_)
      obtain ⟨r6, hg6, hs0⟩ := obind hs0
      have hE1_69 : ∀ (t6_69 : (Nat → UInt64)) (hr6 : t6_69 = r6) (m : Nat → Value) (a : Nat → vp_A) (H : Heap) (locs : List Loc) (w_x69_18 : m 6918 = .int 0) (w_x69_19 : m 6919 = .long r4.2.1) (w_x69_20 : m 6920 = .int r4.2.2.1) (w_x69_21 : m 6921 = .int r4.2.2.2.1) (w_x69_22 : m 6922 = .int r4.2.2.2.2.1) (w_x69_27 : m 6927 = .int r4.2.2.2.2.2.1) (w_x69_35 : m 6935 = .int r4.2.2.2.2.2.2.1) (hoff : ∀ j, nel j [6918, 6919, 6920, 6921, 6922, 6927, 6935] = false → m j = m0 j) (hsh : SH q m) (w_A76 : a 76 = (40, .inl r4.2.2.2.2.2.2.2.1)) (w_A77 : a 77 = (40, .inl r4.2.2.2.2.2.2.2.2.1)) (w_A78 : a 78 = (40, .inl r4.2.2.2.2.2.2.2.2.2.1)) (w_A79 : a 79 = (6001, .inr (.inl r4.2.2.2.2.2.2.2.2.2.2.1))) (w_A80 : a 80 = (16384, .inl r4.2.2.2.2.2.2.2.2.2.2.2.1)) (w_A81 : a 81 = (6002, .inl r4.2.2.2.2.2.2.2.2.2.2.2.2.1)) (w_A82 : a 82 = (84000, .inl r4.2.2.2.2.2.2.2.2.2.2.2.2.2.1)) (w_A83 : a 83 = (84000, .inl r4.2.2.2.2.2.2.2.2.2.2.2.2.2.2.1)) (w_A84 : a 84 = (84000, .inl r4.2.2.2.2.2.2.2.2.2.2.2.2.2.2.2.1)) (w_A85 : a 85 = (84000, .inl r4.2.2.2.2.2.2.2.2.2.2.2.2.2.2.2.2.1)) (w_A86 : a 86 = (84000, .inl r4.2.2.2.2.2.2.2.2.2.2.2.2.2.2.2.2.2)) (w_A98 : a 98 = (6001, .inr (.inr (.inr (.inl t6_69))))) (w_A99 : a 99 = (6001, .inr (.inr (.inr (.inl A99))))) (hoffa : ∀ j, nel j [76, 77, 78, 79, 80, 81, 82, 83, 84, 85, 86, 98, 99] = false → a j = a0 j) (ls : Array Slot) (hl : lv_has ls 5 [(0, .ref (q 69)), (1, .int p1)]) (hW : GW D cy (gA N q s.heap.size) N q m a s H) (hS : va_S (gA N q s.heap.size) s.heap H locs), W p l e ({ frames := 8, cells := 0, slots := 0, locals := 188 } : Room) s M args below meth c H locs 0 0 (MQ below (va_Ql (fun (r : Int64) (u : (Nat → Value) × (Nat → vp_A)) => r = X0.1 ∧ u.1 6918 = .int X0.2.1 ∧ u.1 6919 = .long X0.2.2.1 ∧ u.1 6920 = .int X0.2.2.2.1 ∧ u.1 6921 = .int X0.2.2.2.2.1 ∧ u.1 6922 = .int X0.2.2.2.2.2.1 ∧ u.1 6927 = .int X0.2.2.2.2.2.2.1 ∧ u.1 6935 = .int X0.2.2.2.2.2.2.2.1 ∧ (∀ j, nel j [6918, 6919, 6920, 6921, 6922, 6927, 6935] = false → u.1 j = m0 j) ∧ u.2 76 = (40, .inl X0.2.2.2.2.2.2.2.2.1) ∧ u.2 77 = (40, .inl X0.2.2.2.2.2.2.2.2.2.1) ∧ u.2 78 = (40, .inl X0.2.2.2.2.2.2.2.2.2.2.1) ∧ u.2 79 = (6001, .inr (.inl X0.2.2.2.2.2.2.2.2.2.2.2.1)) ∧ u.2 80 = (16384, .inl X0.2.2.2.2.2.2.2.2.2.2.2.2.1) ∧ u.2 81 = (6002, .inl X0.2.2.2.2.2.2.2.2.2.2.2.2.2.1) ∧ u.2 82 = (84000, .inl X0.2.2.2.2.2.2.2.2.2.2.2.2.2.2.1) ∧ u.2 83 = (84000, .inl X0.2.2.2.2.2.2.2.2.2.2.2.2.2.2.2.1) ∧ u.2 84 = (84000, .inl X0.2.2.2.2.2.2.2.2.2.2.2.2.2.2.2.2.1) ∧ u.2 85 = (84000, .inl X0.2.2.2.2.2.2.2.2.2.2.2.2.2.2.2.2.2.1) ∧ u.2 86 = (84000, .inl X0.2.2.2.2.2.2.2.2.2.2.2.2.2.2.2.2.2.2.1) ∧ u.2 98 = (6001, .inr (.inr (.inr (.inl X0.2.2.2.2.2.2.2.2.2.2.2.2.2.2.2.2.2.2.2.1)))) ∧ u.2 99 = (6001, .inr (.inr (.inr (.inl X0.2.2.2.2.2.2.2.2.2.2.2.2.2.2.2.2.2.2.2.2)))) ∧ (∀ j, nel j [76, 77, 78, 79, 80, 81, 82, 83, 84, 85, 86, 98, 99] = false → u.2 j = a0 j)) (gB D cy N q s.heap.size) (gA N q s.heap.size)) args s 0 0 (gA N q s.heap.size)) (F0 M 69 ls []) := by
        intro t6_69 hr6 m a H locs w_x69_18 w_x69_19 w_x69_20 w_x69_21 w_x69_22 w_x69_27 w_x69_35 hoff hsh w_A76 w_A77 w_A78 w_A79 w_A80 w_A81 w_A82 w_A83 w_A84 w_A85 w_A86 w_A98 w_A99 hoffa ls hl hW hS
        subst hr6
        refine lv_iconst (v := 0) hx hb dX12_odds_69 (by decide) ?_
        refine lv_istore_n (lv' := [(2, .int 0), (0, .ref (q 69)), (1, .int p1)]) hx hb dX12_odds_70 rfl hl (by decide) rfl (fun ls hl => ?_)
        obtain ⟨r12, hg12, hs0⟩ := obind hs0
        have hE1_154 : ∀ (t12_154 : (Nat → UInt64) × (Nat → UInt64)) (hr12 : t12_154 = r12) (m : Nat → Value) (a : Nat → vp_A) (H : Heap) (locs : List Loc) (w_x69_18 : m 6918 = .int 0) (w_x69_19 : m 6919 = .long r4.2.1) (w_x69_20 : m 6920 = .int r4.2.2.1) (w_x69_21 : m 6921 = .int r4.2.2.2.1) (w_x69_22 : m 6922 = .int r4.2.2.2.2.1) (w_x69_27 : m 6927 = .int r4.2.2.2.2.2.1) (w_x69_35 : m 6935 = .int r4.2.2.2.2.2.2.1) (hoff : ∀ j, nel j [6918, 6919, 6920, 6921, 6922, 6927, 6935] = false → m j = m0 j) (hsh : SH q m) (w_A76 : a 76 = (40, .inl r4.2.2.2.2.2.2.2.1)) (w_A77 : a 77 = (40, .inl r4.2.2.2.2.2.2.2.2.1)) (w_A78 : a 78 = (40, .inl r4.2.2.2.2.2.2.2.2.2.1)) (w_A79 : a 79 = (6001, .inr (.inl r4.2.2.2.2.2.2.2.2.2.2.1))) (w_A80 : a 80 = (16384, .inl r4.2.2.2.2.2.2.2.2.2.2.2.1)) (w_A81 : a 81 = (6002, .inl r4.2.2.2.2.2.2.2.2.2.2.2.2.1)) (w_A82 : a 82 = (84000, .inl r4.2.2.2.2.2.2.2.2.2.2.2.2.2.1)) (w_A83 : a 83 = (84000, .inl r4.2.2.2.2.2.2.2.2.2.2.2.2.2.2.1)) (w_A84 : a 84 = (84000, .inl r4.2.2.2.2.2.2.2.2.2.2.2.2.2.2.2.1)) (w_A85 : a 85 = (84000, .inl r4.2.2.2.2.2.2.2.2.2.2.2.2.2.2.2.2.1)) (w_A86 : a 86 = (84000, .inl r4.2.2.2.2.2.2.2.2.2.2.2.2.2.2.2.2.2)) (w_A98 : a 98 = (6001, .inr (.inr (.inr (.inl t12_154.1))))) (w_A99 : a 99 = (6001, .inr (.inr (.inr (.inl t12_154.2))))) (hoffa : ∀ j, nel j [76, 77, 78, 79, 80, 81, 82, 83, 84, 85, 86, 98, 99] = false → a j = a0 j) (ls : Array Slot) (hl : lv_has ls 5 [(0, .ref (q 69))]) (hW : GW D cy (gA N q s.heap.size) N q m a s H) (hS : va_S (gA N q s.heap.size) s.heap H locs), W p l e ({ frames := 8, cells := 0, slots := 0, locals := 188 } : Room) s M args below meth c H locs 0 0 (MQ below (va_Ql (fun (r : Int64) (u : (Nat → Value) × (Nat → vp_A)) => r = X0.1 ∧ u.1 6918 = .int X0.2.1 ∧ u.1 6919 = .long X0.2.2.1 ∧ u.1 6920 = .int X0.2.2.2.1 ∧ u.1 6921 = .int X0.2.2.2.2.1 ∧ u.1 6922 = .int X0.2.2.2.2.2.1 ∧ u.1 6927 = .int X0.2.2.2.2.2.2.1 ∧ u.1 6935 = .int X0.2.2.2.2.2.2.2.1 ∧ (∀ j, nel j [6918, 6919, 6920, 6921, 6922, 6927, 6935] = false → u.1 j = m0 j) ∧ u.2 76 = (40, .inl X0.2.2.2.2.2.2.2.2.1) ∧ u.2 77 = (40, .inl X0.2.2.2.2.2.2.2.2.2.1) ∧ u.2 78 = (40, .inl X0.2.2.2.2.2.2.2.2.2.2.1) ∧ u.2 79 = (6001, .inr (.inl X0.2.2.2.2.2.2.2.2.2.2.2.1)) ∧ u.2 80 = (16384, .inl X0.2.2.2.2.2.2.2.2.2.2.2.2.1) ∧ u.2 81 = (6002, .inl X0.2.2.2.2.2.2.2.2.2.2.2.2.2.1) ∧ u.2 82 = (84000, .inl X0.2.2.2.2.2.2.2.2.2.2.2.2.2.2.1) ∧ u.2 83 = (84000, .inl X0.2.2.2.2.2.2.2.2.2.2.2.2.2.2.2.1) ∧ u.2 84 = (84000, .inl X0.2.2.2.2.2.2.2.2.2.2.2.2.2.2.2.2.1) ∧ u.2 85 = (84000, .inl X0.2.2.2.2.2.2.2.2.2.2.2.2.2.2.2.2.2.1) ∧ u.2 86 = (84000, .inl X0.2.2.2.2.2.2.2.2.2.2.2.2.2.2.2.2.2.2.1) ∧ u.2 98 = (6001, .inr (.inr (.inr (.inl X0.2.2.2.2.2.2.2.2.2.2.2.2.2.2.2.2.2.2.2.1)))) ∧ u.2 99 = (6001, .inr (.inr (.inr (.inl X0.2.2.2.2.2.2.2.2.2.2.2.2.2.2.2.2.2.2.2.2)))) ∧ (∀ j, nel j [76, 77, 78, 79, 80, 81, 82, 83, 84, 85, 86, 98, 99] = false → u.2 j = a0 j)) (gB D cy N q s.heap.size) (gA N q s.heap.size)) args s 0 0 (gA N q s.heap.size)) (F0 M 154 ls []) := by
          intro t12_154 hr12 m a H locs w_x69_18 w_x69_19 w_x69_20 w_x69_21 w_x69_22 w_x69_27 w_x69_35 hoff hsh w_A76 w_A77 w_A78 w_A79 w_A80 w_A81 w_A82 w_A83 w_A84 w_A85 w_A86 w_A98 w_A99 hoffa ls hl hW hS
          subst hr12
          refine lv_dconst0 hx hb dX12_odds_154 ?_
          refine lv_dstore_n (lv' := [(2, .double FP.dconst0), (0, .ref (q 69))]) hx hb dX12_odds_155 rfl hl (by decide) rfl (fun ls hl => ?_)
          refine lv_iconst (v := 0) hx hb dX12_odds_156 (by decide) ?_
          refine lv_istore (lv' := [(4, .int 0), (2, .double FP.dconst0), (0, .ref (q 69))]) hx hb dX12_odds_157 hl (by decide) rfl (fun ls hl => ?_)
          obtain ⟨r35, hg35, hs0⟩ := obind hs0
          have hE1_184 : ∀ (t35_184 : UInt64) (hr35 : t35_184 = r35) (m : Nat → Value) (a : Nat → vp_A) (H : Heap) (locs : List Loc) (w_x69_18 : m 6918 = .int 0) (w_x69_19 : m 6919 = .long r4.2.1) (w_x69_20 : m 6920 = .int r4.2.2.1) (w_x69_21 : m 6921 = .int r4.2.2.2.1) (w_x69_22 : m 6922 = .int r4.2.2.2.2.1) (w_x69_27 : m 6927 = .int r4.2.2.2.2.2.1) (w_x69_35 : m 6935 = .int r4.2.2.2.2.2.2.1) (hoff : ∀ j, nel j [6918, 6919, 6920, 6921, 6922, 6927, 6935] = false → m j = m0 j) (hsh : SH q m) (w_A76 : a 76 = (40, .inl r4.2.2.2.2.2.2.2.1)) (w_A77 : a 77 = (40, .inl r4.2.2.2.2.2.2.2.2.1)) (w_A78 : a 78 = (40, .inl r4.2.2.2.2.2.2.2.2.2.1)) (w_A79 : a 79 = (6001, .inr (.inl r4.2.2.2.2.2.2.2.2.2.2.1))) (w_A80 : a 80 = (16384, .inl r4.2.2.2.2.2.2.2.2.2.2.2.1)) (w_A81 : a 81 = (6002, .inl r4.2.2.2.2.2.2.2.2.2.2.2.2.1)) (w_A82 : a 82 = (84000, .inl r4.2.2.2.2.2.2.2.2.2.2.2.2.2.1)) (w_A83 : a 83 = (84000, .inl r4.2.2.2.2.2.2.2.2.2.2.2.2.2.2.1)) (w_A84 : a 84 = (84000, .inl r4.2.2.2.2.2.2.2.2.2.2.2.2.2.2.2.1)) (w_A85 : a 85 = (84000, .inl r4.2.2.2.2.2.2.2.2.2.2.2.2.2.2.2.2.1)) (w_A86 : a 86 = (84000, .inl r4.2.2.2.2.2.2.2.2.2.2.2.2.2.2.2.2.2)) (w_A98 : a 98 = (6001, .inr (.inr (.inr (.inl t12_154.1))))) (w_A99 : a 99 = (6001, .inr (.inr (.inr (.inl t12_154.2))))) (hoffa : ∀ j, nel j [76, 77, 78, 79, 80, 81, 82, 83, 84, 85, 86, 98, 99] = false → a j = a0 j) (ls : Array Slot) (hl : lv_has ls 5 [(2, .double t35_184)]) (hW : GW D cy (gA N q s.heap.size) N q m a s H) (hS : va_S (gA N q s.heap.size) s.heap H locs), W p l e ({ frames := 8, cells := 0, slots := 0, locals := 188 } : Room) s M args below meth c H locs 0 0 (MQ below (va_Ql (fun (r : Int64) (u : (Nat → Value) × (Nat → vp_A)) => r = X0.1 ∧ u.1 6918 = .int X0.2.1 ∧ u.1 6919 = .long X0.2.2.1 ∧ u.1 6920 = .int X0.2.2.2.1 ∧ u.1 6921 = .int X0.2.2.2.2.1 ∧ u.1 6922 = .int X0.2.2.2.2.2.1 ∧ u.1 6927 = .int X0.2.2.2.2.2.2.1 ∧ u.1 6935 = .int X0.2.2.2.2.2.2.2.1 ∧ (∀ j, nel j [6918, 6919, 6920, 6921, 6922, 6927, 6935] = false → u.1 j = m0 j) ∧ u.2 76 = (40, .inl X0.2.2.2.2.2.2.2.2.1) ∧ u.2 77 = (40, .inl X0.2.2.2.2.2.2.2.2.2.1) ∧ u.2 78 = (40, .inl X0.2.2.2.2.2.2.2.2.2.2.1) ∧ u.2 79 = (6001, .inr (.inl X0.2.2.2.2.2.2.2.2.2.2.2.1)) ∧ u.2 80 = (16384, .inl X0.2.2.2.2.2.2.2.2.2.2.2.2.1) ∧ u.2 81 = (6002, .inl X0.2.2.2.2.2.2.2.2.2.2.2.2.2.1) ∧ u.2 82 = (84000, .inl X0.2.2.2.2.2.2.2.2.2.2.2.2.2.2.1) ∧ u.2 83 = (84000, .inl X0.2.2.2.2.2.2.2.2.2.2.2.2.2.2.2.1) ∧ u.2 84 = (84000, .inl X0.2.2.2.2.2.2.2.2.2.2.2.2.2.2.2.2.1) ∧ u.2 85 = (84000, .inl X0.2.2.2.2.2.2.2.2.2.2.2.2.2.2.2.2.2.1) ∧ u.2 86 = (84000, .inl X0.2.2.2.2.2.2.2.2.2.2.2.2.2.2.2.2.2.2.1) ∧ u.2 98 = (6001, .inr (.inr (.inr (.inl X0.2.2.2.2.2.2.2.2.2.2.2.2.2.2.2.2.2.2.2.1)))) ∧ u.2 99 = (6001, .inr (.inr (.inr (.inl X0.2.2.2.2.2.2.2.2.2.2.2.2.2.2.2.2.2.2.2.2)))) ∧ (∀ j, nel j [76, 77, 78, 79, 80, 81, 82, 83, 84, 85, 86, 98, 99] = false → u.2 j = a0 j)) (gB D cy N q s.heap.size) (gA N q s.heap.size)) args s 0 0 (gA N q s.heap.size)) (F0 M 184 ls []) := by
            intro t35_184 hr35 m a H locs w_x69_18 w_x69_19 w_x69_20 w_x69_21 w_x69_22 w_x69_27 w_x69_35 hoff hsh w_A76 w_A77 w_A78 w_A79 w_A80 w_A81 w_A82 w_A83 w_A84 w_A85 w_A86 w_A98 w_A99 hoffa ls hl hW hS
            subst hr35
            refine lv_dload_n hx hb dX12_odds_184 rfl (lv_at hl 0 rfl) ?_
            refine g_SlR (n := 1) hx hb hml hown hG hW hS [.double t35_184] (kJxe99ae_doubleToLongBits_ccdee hN t35_184) rfl (gd_S gx970 gx971 gx972 gx973) rfl rfl (by decide) ⟨Nat.le_of_ble_eq_true rfl, Nat.le_of_ble_eq_true rfl⟩ rfl hl (Nat.le_of_ble_eq_true rfl) ⟨Nat.zero_le _, Nat.zero_le _⟩ dX12_odds_185 (fun H locs hW hS => ?_)
            have hs0 := Option.some.inj hs0
            subst hs0
            exact W.lret hx hb hr (fun t ht hw => ⟨⟨_, (m, a), rfl, ⟨rfl, w_x69_18, w_x69_19, w_x69_20, w_x69_21, w_x69_22, w_x69_27, w_x69_35, hoff, w_A76, w_A77, w_A78, w_A79, w_A80, w_A81, w_A82, w_A83, w_A84, w_A85, w_A86, w_A98, w_A99, hoffa⟩, g_end hW ht hw⟩, hS.F ht⟩) hS.2.2 dX12_odds_188 hlocks
          have hL1 : ∀ (n : Nat) (v2k35 : UInt64) (v4k35 : Int32) (m : Nat → Value) (a : Nat → vp_A) (H : Heap) (locs : List Loc) (w_x69_18 : m 6918 = .int 0) (w_x69_19 : m 6919 = .long r4.2.1) (w_x69_20 : m 6920 = .int r4.2.2.1) (w_x69_21 : m 6921 = .int r4.2.2.2.1) (w_x69_22 : m 6922 = .int r4.2.2.2.2.1) (w_x69_27 : m 6927 = .int r4.2.2.2.2.2.1) (w_x69_35 : m 6935 = .int r4.2.2.2.2.2.2.1) (hoff : ∀ j, nel j [6918, 6919, 6920, 6921, 6922, 6927, 6935] = false → m j = m0 j) (hsh : SH q m) (w_A76 : a 76 = (40, .inl r4.2.2.2.2.2.2.2.1)) (w_A77 : a 77 = (40, .inl r4.2.2.2.2.2.2.2.2.1)) (w_A78 : a 78 = (40, .inl r4.2.2.2.2.2.2.2.2.2.1)) (w_A79 : a 79 = (6001, .inr (.inl r4.2.2.2.2.2.2.2.2.2.2.1))) (w_A80 : a 80 = (16384, .inl r4.2.2.2.2.2.2.2.2.2.2.2.1)) (w_A81 : a 81 = (6002, .inl r4.2.2.2.2.2.2.2.2.2.2.2.2.1)) (w_A82 : a 82 = (84000, .inl r4.2.2.2.2.2.2.2.2.2.2.2.2.2.1)) (w_A83 : a 83 = (84000, .inl r4.2.2.2.2.2.2.2.2.2.2.2.2.2.2.1)) (w_A84 : a 84 = (84000, .inl r4.2.2.2.2.2.2.2.2.2.2.2.2.2.2.2.1)) (w_A85 : a 85 = (84000, .inl r4.2.2.2.2.2.2.2.2.2.2.2.2.2.2.2.2.1)) (w_A86 : a 86 = (84000, .inl r4.2.2.2.2.2.2.2.2.2.2.2.2.2.2.2.2.2)) (w_A98 : a 98 = (6001, .inr (.inr (.inr (.inl t12_154.1))))) (w_A99 : a 99 = (6001, .inr (.inr (.inr (.inl t12_154.2))))) (hoffa : ∀ j, nel j [76, 77, 78, 79, 80, 81, 82, 83, 84, 85, 86, 98, 99] = false → a j = a0 j) (ls : Array Slot) (hl : lv_has ls 5 [(0, .ref (q 69)), (2, .double v2k35), (4, .int v4k35)]) (hg35 : gloop (fun u35 : (UInt64 × Int32) => fX12_odds_S159 F x69_0 x69_1 x69_2 x69_3 x69_4 0 r4.2.1 r4.2.2.1 r4.2.2.2.1 r4.2.2.2.2.1 r4.2.2.2.2.2.1 r4.2.2.2.2.2.2.1 r4.2.2.2.2.2.2.2.1 r4.2.2.2.2.2.2.2.2.1 r4.2.2.2.2.2.2.2.2.2.1 r4.2.2.2.2.2.2.2.2.2.2.1 r4.2.2.2.2.2.2.2.2.2.2.2.1 r4.2.2.2.2.2.2.2.2.2.2.2.2.1 r4.2.2.2.2.2.2.2.2.2.2.2.2.2.1 r4.2.2.2.2.2.2.2.2.2.2.2.2.2.2.1 r4.2.2.2.2.2.2.2.2.2.2.2.2.2.2.2.1 r4.2.2.2.2.2.2.2.2.2.2.2.2.2.2.2.2.1 r4.2.2.2.2.2.2.2.2.2.2.2.2.2.2.2.2.2 t12_154.1 t12_154.2 u35.1 u35.2) n (v2k35, v4k35) = some r35) (hW : GW D cy (gA N q s.heap.size) N q m a s H) (hS : va_S (gA N q s.heap.size) s.heap H locs), W p l e ({ frames := 8, cells := 0, slots := 0, locals := 188 } : Room) s M args below meth c H locs 0 0 (MQ below (va_Ql (fun (r : Int64) (u : (Nat → Value) × (Nat → vp_A)) => r = X0.1 ∧ u.1 6918 = .int X0.2.1 ∧ u.1 6919 = .long X0.2.2.1 ∧ u.1 6920 = .int X0.2.2.2.1 ∧ u.1 6921 = .int X0.2.2.2.2.1 ∧ u.1 6922 = .int X0.2.2.2.2.2.1 ∧ u.1 6927 = .int X0.2.2.2.2.2.2.1 ∧ u.1 6935 = .int X0.2.2.2.2.2.2.2.1 ∧ (∀ j, nel j [6918, 6919, 6920, 6921, 6922, 6927, 6935] = false → u.1 j = m0 j) ∧ u.2 76 = (40, .inl X0.2.2.2.2.2.2.2.2.1) ∧ u.2 77 = (40, .inl X0.2.2.2.2.2.2.2.2.2.1) ∧ u.2 78 = (40, .inl X0.2.2.2.2.2.2.2.2.2.2.1) ∧ u.2 79 = (6001, .inr (.inl X0.2.2.2.2.2.2.2.2.2.2.2.1)) ∧ u.2 80 = (16384, .inl X0.2.2.2.2.2.2.2.2.2.2.2.2.1) ∧ u.2 81 = (6002, .inl X0.2.2.2.2.2.2.2.2.2.2.2.2.2.1) ∧ u.2 82 = (84000, .inl X0.2.2.2.2.2.2.2.2.2.2.2.2.2.2.1) ∧ u.2 83 = (84000, .inl X0.2.2.2.2.2.2.2.2.2.2.2.2.2.2.2.1) ∧ u.2 84 = (84000, .inl X0.2.2.2.2.2.2.2.2.2.2.2.2.2.2.2.2.1) ∧ u.2 85 = (84000, .inl X0.2.2.2.2.2.2.2.2.2.2.2.2.2.2.2.2.2.1) ∧ u.2 86 = (84000, .inl X0.2.2.2.2.2.2.2.2.2.2.2.2.2.2.2.2.2.2.1) ∧ u.2 98 = (6001, .inr (.inr (.inr (.inl X0.2.2.2.2.2.2.2.2.2.2.2.2.2.2.2.2.2.2.2.1)))) ∧ u.2 99 = (6001, .inr (.inr (.inr (.inl X0.2.2.2.2.2.2.2.2.2.2.2.2.2.2.2.2.2.2.2.2)))) ∧ (∀ j, nel j [76, 77, 78, 79, 80, 81, 82, 83, 84, 85, 86, 98, 99] = false → u.2 j = a0 j)) (gB D cy N q s.heap.size) (gA N q s.heap.size)) args s 0 0 (gA N q s.heap.size)) (F0 M 159 ls []) := by
            intro n
            induction n with
            | zero => intro v2k35 v4k35 m a H locs w_x69_18 w_x69_19 w_x69_20 w_x69_21 w_x69_22 w_x69_27 w_x69_35 hoff hsh w_A76 w_A77 w_A78 w_A79 w_A80 w_A81 w_A82 w_A83 w_A84 w_A85 w_A86 w_A98 w_A99 hoffa ls hl hg35 hW hS; exact (gl_zero hg35).elim
            | succ n ih1 =>
              intro v2k35 v4k35 m a H locs w_x69_18 w_x69_19 w_x69_20 w_x69_21 w_x69_22 w_x69_27 w_x69_35 hoff hsh w_A76 w_A77 w_A78 w_A79 w_A80 w_A81 w_A82 w_A83 w_A84 w_A85 w_A86 w_A98 w_A99 hoffa ls hl hg35 hW hS
              obtain ⟨X1, hs1, hXl1, hXr1⟩ := gl_succ hg35
              have hs1 : fX12_odds_S159 F x69_0 x69_1 x69_2 x69_3 x69_4 0 r4.2.1 r4.2.2.1 r4.2.2.2.1 r4.2.2.2.2.1 r4.2.2.2.2.2.1 r4.2.2.2.2.2.2.1 r4.2.2.2.2.2.2.2.1 r4.2.2.2.2.2.2.2.2.1 r4.2.2.2.2.2.2.2.2.2.1 r4.2.2.2.2.2.2.2.2.2.2.1 r4.2.2.2.2.2.2.2.2.2.2.2.1 r4.2.2.2.2.2.2.2.2.2.2.2.2.1 r4.2.2.2.2.2.2.2.2.2.2.2.2.2.1 r4.2.2.2.2.2.2.2.2.2.2.2.2.2.2.1 r4.2.2.2.2.2.2.2.2.2.2.2.2.2.2.2.1 r4.2.2.2.2.2.2.2.2.2.2.2.2.2.2.2.2.1 r4.2.2.2.2.2.2.2.2.2.2.2.2.2.2.2.2.2 t12_154.1 t12_154.2 v2k35 v4k35 = some X1 := hs1
              unfold fX12_odds_S159 at hs1
              refine lv_iload hx hb dX12_odds_159 (lv_at hl 2 rfl) ?_
              refine lv_aload_n hx hb dX12_odds_161 rfl (lv_at hl 0 rfl) ?_
              refine gf12_27 hx hb hG hown hW (o := 69) (ltN hN 69 rfl) gk69 (v := .int r4.2.2.2.2.2.1) w_x69_27 gx713 dX12_odds_162 ?_
              refine lv_icmp_ge (tgt := 184) hx hb dX12_odds_165 (by decide) (fun c40 => ?_) (fun c40 => ?_)
              · rw [if_pos c40] at hs1
                exact hE1_184 v2k35 (hXl1 _ (Option.some.inj hs1).symm) m a _ _ w_x69_18 w_x69_19 w_x69_20 w_x69_21 w_x69_22 w_x69_27 w_x69_35 hoff hsh w_A76 w_A77 w_A78 w_A79 w_A80 w_A81 w_A82 w_A83 w_A84 w_A85 w_A86 w_A98 w_A99 hoffa ls (lv_sub hl [1] rfl) hW hS
              · rw [if_neg c40] at hs1
                refine lv_dload_n hx hb dX12_odds_168 rfl (lv_at hl 1 rfl) ?_
                refine lv_aload_n hx hb dX12_odds_169 rfl (lv_at hl 0 rfl) ?_
                refine gf12_50 hx hb hG hown hW (o := 69) (ltN hN 69 rfl) gk69 (v := .ref (q 98)) (sh69_50 hsh) gx196 dX12_odds_170 ?_
                refine lv_iload hx hb dX12_odds_173 (lv_at hl 2 rfl) ?_
                obtain ⟨hi41, hs1⟩ := oif hs1
                refine g_dald hx hb hW (o := 98) (ltN hN 98 rfl) gk98 w_A98 (vin hi41) dX12_odds_175 ?_
                obtain ⟨hd42, hs1⟩ := oif hs1
                refine lv_dadd hx hb dX12_odds_176 (nn64.p hd42) ?_
                refine lv_dstore_n (lv' := [(2, .double (FP.dadd v2k35 (t12_154.1 v4k35.toNatClampNeg))), (0, .ref (q 69)), (4, .int v4k35)]) hx hb dX12_odds_177 rfl hl (by decide) rfl (fun ls hl => ?_)
                refine lv_iinc (v := v4k35 + 1) (lv' := [(4, .int (v4k35 + 1)), (2, .double (FP.dadd v2k35 (t12_154.1 v4k35.toNatClampNeg))), (0, .ref (q 69))]) hx hb dX12_odds_178 hl (k := 2) rfl rfl (by decide) rfl (fun ls hl => ?_)
                refine lv_goto (tgt := 159) hx hb dX12_odds_181 (by decide) ?_
                exact ih1 (FP.dadd v2k35 (t12_154.1 v4k35.toNatClampNeg)) (v4k35 + 1) m a _ _ w_x69_18 w_x69_19 w_x69_20 w_x69_21 w_x69_22 w_x69_27 w_x69_35 hoff hsh w_A76 w_A77 w_A78 w_A79 w_A80 w_A81 w_A82 w_A83 w_A84 w_A85 w_A86 w_A98 w_A99 hoffa ls (lv_sub hl [2, 1, 0] rfl) (hXr1 _ (Option.some.inj hs1).symm) hW hS
          exact hL1 F FP.dconst0 0 m a _ _ w_x69_18 w_x69_19 w_x69_20 w_x69_21 w_x69_22 w_x69_27 w_x69_35 hoff hsh w_A76 w_A77 w_A78 w_A79 w_A80 w_A81 w_A82 w_A83 w_A84 w_A85 w_A86 w_A98 w_A99 hoffa ls (lv_sub hl [2, 1, 0] rfl) hg35 hW hS
        have hL1 : ∀ (n : Nat) (v2k12 : Int32) (A98k12 : Nat → UInt64) (A99k12 : Nat → UInt64) (m : Nat → Value) (a : Nat → vp_A) (H : Heap) (locs : List Loc) (w_x69_18 : m 6918 = .int 0) (w_x69_19 : m 6919 = .long r4.2.1) (w_x69_20 : m 6920 = .int r4.2.2.1) (w_x69_21 : m 6921 = .int r4.2.2.2.1) (w_x69_22 : m 6922 = .int r4.2.2.2.2.1) (w_x69_27 : m 6927 = .int r4.2.2.2.2.2.1) (w_x69_35 : m 6935 = .int r4.2.2.2.2.2.2.1) (hoff : ∀ j, nel j [6918, 6919, 6920, 6921, 6922, 6927, 6935] = false → m j = m0 j) (hsh : SH q m) (w_A76 : a 76 = (40, .inl r4.2.2.2.2.2.2.2.1)) (w_A77 : a 77 = (40, .inl r4.2.2.2.2.2.2.2.2.1)) (w_A78 : a 78 = (40, .inl r4.2.2.2.2.2.2.2.2.2.1)) (w_A79 : a 79 = (6001, .inr (.inl r4.2.2.2.2.2.2.2.2.2.2.1))) (w_A80 : a 80 = (16384, .inl r4.2.2.2.2.2.2.2.2.2.2.2.1)) (w_A81 : a 81 = (6002, .inl r4.2.2.2.2.2.2.2.2.2.2.2.2.1)) (w_A82 : a 82 = (84000, .inl r4.2.2.2.2.2.2.2.2.2.2.2.2.2.1)) (w_A83 : a 83 = (84000, .inl r4.2.2.2.2.2.2.2.2.2.2.2.2.2.2.1)) (w_A84 : a 84 = (84000, .inl r4.2.2.2.2.2.2.2.2.2.2.2.2.2.2.2.1)) (w_A85 : a 85 = (84000, .inl r4.2.2.2.2.2.2.2.2.2.2.2.2.2.2.2.2.1)) (w_A86 : a 86 = (84000, .inl r4.2.2.2.2.2.2.2.2.2.2.2.2.2.2.2.2.2)) (w_A98 : a 98 = (6001, .inr (.inr (.inr (.inl A98k12))))) (w_A99 : a 99 = (6001, .inr (.inr (.inr (.inl A99k12))))) (hoffa : ∀ j, nel j [76, 77, 78, 79, 80, 81, 82, 83, 84, 85, 86, 98, 99] = false → a j = a0 j) (ls : Array Slot) (hl : lv_has ls 5 [(0, .ref (q 69)), (1, .int p1), (2, .int v2k12)]) (hg12 : gloop (fun u12 : (Int32 × (Nat → UInt64) × (Nat → UInt64)) => fX12_odds_S71 F x69_0 x69_1 x69_2 x69_3 x69_4 p1 0 r4.2.1 r4.2.2.1 r4.2.2.2.1 r4.2.2.2.2.1 r4.2.2.2.2.2.1 r4.2.2.2.2.2.2.1 r4.2.2.2.2.2.2.2.1 r4.2.2.2.2.2.2.2.2.1 r4.2.2.2.2.2.2.2.2.2.1 r4.2.2.2.2.2.2.2.2.2.2.1 r4.2.2.2.2.2.2.2.2.2.2.2.1 r4.2.2.2.2.2.2.2.2.2.2.2.2.1 r4.2.2.2.2.2.2.2.2.2.2.2.2.2.1 r4.2.2.2.2.2.2.2.2.2.2.2.2.2.2.1 r4.2.2.2.2.2.2.2.2.2.2.2.2.2.2.2.1 r4.2.2.2.2.2.2.2.2.2.2.2.2.2.2.2.2.1 r4.2.2.2.2.2.2.2.2.2.2.2.2.2.2.2.2.2 u12.1 u12.2.1 u12.2.2) n (v2k12, A98k12, A99k12) = some r12) (hW : GW D cy (gA N q s.heap.size) N q m a s H) (hS : va_S (gA N q s.heap.size) s.heap H locs), W p l e ({ frames := 8, cells := 0, slots := 0, locals := 188 } : Room) s M args below meth c H locs 0 0 (MQ below (va_Ql (fun (r : Int64) (u : (Nat → Value) × (Nat → vp_A)) => r = X0.1 ∧ u.1 6918 = .int X0.2.1 ∧ u.1 6919 = .long X0.2.2.1 ∧ u.1 6920 = .int X0.2.2.2.1 ∧ u.1 6921 = .int X0.2.2.2.2.1 ∧ u.1 6922 = .int X0.2.2.2.2.2.1 ∧ u.1 6927 = .int X0.2.2.2.2.2.2.1 ∧ u.1 6935 = .int X0.2.2.2.2.2.2.2.1 ∧ (∀ j, nel j [6918, 6919, 6920, 6921, 6922, 6927, 6935] = false → u.1 j = m0 j) ∧ u.2 76 = (40, .inl X0.2.2.2.2.2.2.2.2.1) ∧ u.2 77 = (40, .inl X0.2.2.2.2.2.2.2.2.2.1) ∧ u.2 78 = (40, .inl X0.2.2.2.2.2.2.2.2.2.2.1) ∧ u.2 79 = (6001, .inr (.inl X0.2.2.2.2.2.2.2.2.2.2.2.1)) ∧ u.2 80 = (16384, .inl X0.2.2.2.2.2.2.2.2.2.2.2.2.1) ∧ u.2 81 = (6002, .inl X0.2.2.2.2.2.2.2.2.2.2.2.2.2.1) ∧ u.2 82 = (84000, .inl X0.2.2.2.2.2.2.2.2.2.2.2.2.2.2.1) ∧ u.2 83 = (84000, .inl X0.2.2.2.2.2.2.2.2.2.2.2.2.2.2.2.1) ∧ u.2 84 = (84000, .inl X0.2.2.2.2.2.2.2.2.2.2.2.2.2.2.2.2.1) ∧ u.2 85 = (84000, .inl X0.2.2.2.2.2.2.2.2.2.2.2.2.2.2.2.2.2.1) ∧ u.2 86 = (84000, .inl X0.2.2.2.2.2.2.2.2.2.2.2.2.2.2.2.2.2.2.1) ∧ u.2 98 = (6001, .inr (.inr (.inr (.inl X0.2.2.2.2.2.2.2.2.2.2.2.2.2.2.2.2.2.2.2.1)))) ∧ u.2 99 = (6001, .inr (.inr (.inr (.inl X0.2.2.2.2.2.2.2.2.2.2.2.2.2.2.2.2.2.2.2.2)))) ∧ (∀ j, nel j [76, 77, 78, 79, 80, 81, 82, 83, 84, 85, 86, 98, 99] = false → u.2 j = a0 j)) (gB D cy N q s.heap.size) (gA N q s.heap.size)) args s 0 0 (gA N q s.heap.size)) (F0 M 71 ls []) := by
          intro n
          induction n with
          | zero => intro v2k12 A98k12 A99k12 m a H locs w_x69_18 w_x69_19 w_x69_20 w_x69_21 w_x69_22 w_x69_27 w_x69_35 hoff hsh w_A76 w_A77 w_A78 w_A79 w_A80 w_A81 w_A82 w_A83 w_A84 w_A85 w_A86 w_A98 w_A99 hoffa ls hl hg12 hW hS; exact (gl_zero hg12).elim
          | succ n ih1 =>
            intro v2k12 A98k12 A99k12 m a H locs w_x69_18 w_x69_19 w_x69_20 w_x69_21 w_x69_22 w_x69_27 w_x69_35 hoff hsh w_A76 w_A77 w_A78 w_A79 w_A80 w_A81 w_A82 w_A83 w_A84 w_A85 w_A86 w_A98 w_A99 hoffa ls hl hg12 hW hS
            obtain ⟨X1, hs1, hXl1, hXr1⟩ := gl_succ hg12
            have hs1 : fX12_odds_S71 F x69_0 x69_1 x69_2 x69_3 x69_4 p1 0 r4.2.1 r4.2.2.1 r4.2.2.2.1 r4.2.2.2.2.1 r4.2.2.2.2.2.1 r4.2.2.2.2.2.2.1 r4.2.2.2.2.2.2.2.1 r4.2.2.2.2.2.2.2.2.1 r4.2.2.2.2.2.2.2.2.2.1 r4.2.2.2.2.2.2.2.2.2.2.1 r4.2.2.2.2.2.2.2.2.2.2.2.1 r4.2.2.2.2.2.2.2.2.2.2.2.2.1 r4.2.2.2.2.2.2.2.2.2.2.2.2.2.1 r4.2.2.2.2.2.2.2.2.2.2.2.2.2.2.1 r4.2.2.2.2.2.2.2.2.2.2.2.2.2.2.2.1 r4.2.2.2.2.2.2.2.2.2.2.2.2.2.2.2.2.1 r4.2.2.2.2.2.2.2.2.2.2.2.2.2.2.2.2.2 v2k12 A98k12 A99k12 = some X1 := hs1
            unfold fX12_odds_S71 at hs1
            refine lv_iload_n hx hb dX12_odds_71 rfl (lv_at hl 2 rfl) ?_
            refine lv_iload_n hx hb dX12_odds_72 rfl (lv_at hl 1 rfl) ?_
            refine lv_icmp_ge (tgt := 154) hx hb dX12_odds_73 (by decide) (fun c43 => ?_) (fun c43 => ?_)
            · rw [if_pos c43] at hs1
              exact hE1_154 (A98k12, A99k12) (hXl1 _ (Option.some.inj hs1).symm) m a _ _ w_x69_18 w_x69_19 w_x69_20 w_x69_21 w_x69_22 w_x69_27 w_x69_35 hoff hsh w_A76 w_A77 w_A78 w_A79 w_A80 w_A81 w_A82 w_A83 w_A84 w_A85 w_A86 w_A98 w_A99 hoffa ls (lv_sub hl [0] rfl) hW hS
            · rw [if_neg c43] at hs1
              refine lv_iconst (v := 0) hx hb dX12_odds_76 (by decide) ?_
              refine lv_istore_n (lv' := [(3, .int 0), (0, .ref (q 69)), (1, .int p1), (2, .int v2k12)]) hx hb dX12_odds_77 rfl hl (by decide) rfl (fun ls hl => ?_)
              obtain ⟨r44, hg44, hs1⟩ := obind hs1
              have hE2_99 : ∀ (t44_99 : (Nat → UInt64)) (hr44 : t44_99 = r44) (m : Nat → Value) (a : Nat → vp_A) (H : Heap) (locs : List Loc) (w_x69_18 : m 6918 = .int 0) (w_x69_19 : m 6919 = .long r4.2.1) (w_x69_20 : m 6920 = .int r4.2.2.1) (w_x69_21 : m 6921 = .int r4.2.2.2.1) (w_x69_22 : m 6922 = .int r4.2.2.2.2.1) (w_x69_27 : m 6927 = .int r4.2.2.2.2.2.1) (w_x69_35 : m 6935 = .int r4.2.2.2.2.2.2.1) (hoff : ∀ j, nel j [6918, 6919, 6920, 6921, 6922, 6927, 6935] = false → m j = m0 j) (hsh : SH q m) (w_A76 : a 76 = (40, .inl r4.2.2.2.2.2.2.2.1)) (w_A77 : a 77 = (40, .inl r4.2.2.2.2.2.2.2.2.1)) (w_A78 : a 78 = (40, .inl r4.2.2.2.2.2.2.2.2.2.1)) (w_A79 : a 79 = (6001, .inr (.inl r4.2.2.2.2.2.2.2.2.2.2.1))) (w_A80 : a 80 = (16384, .inl r4.2.2.2.2.2.2.2.2.2.2.2.1)) (w_A81 : a 81 = (6002, .inl r4.2.2.2.2.2.2.2.2.2.2.2.2.1)) (w_A82 : a 82 = (84000, .inl r4.2.2.2.2.2.2.2.2.2.2.2.2.2.1)) (w_A83 : a 83 = (84000, .inl r4.2.2.2.2.2.2.2.2.2.2.2.2.2.2.1)) (w_A84 : a 84 = (84000, .inl r4.2.2.2.2.2.2.2.2.2.2.2.2.2.2.2.1)) (w_A85 : a 85 = (84000, .inl r4.2.2.2.2.2.2.2.2.2.2.2.2.2.2.2.2.1)) (w_A86 : a 86 = (84000, .inl r4.2.2.2.2.2.2.2.2.2.2.2.2.2.2.2.2.2)) (w_A98 : a 98 = (6001, .inr (.inr (.inr (.inl A98k12))))) (w_A99 : a 99 = (6001, .inr (.inr (.inr (.inl t44_99))))) (hoffa : ∀ j, nel j [76, 77, 78, 79, 80, 81, 82, 83, 84, 85, 86, 98, 99] = false → a j = a0 j) (ls : Array Slot) (hl : lv_has ls 5 [(0, .ref (q 69)), (1, .int p1), (2, .int v2k12)]) (hW : GW D cy (gA N q s.heap.size) N q m a s H) (hS : va_S (gA N q s.heap.size) s.heap H locs), W p l e ({ frames := 8, cells := 0, slots := 0, locals := 188 } : Room) s M args below meth c H locs 0 0 (MQ below (va_Ql (fun (r : Int64) (u : (Nat → Value) × (Nat → vp_A)) => r = X0.1 ∧ u.1 6918 = .int X0.2.1 ∧ u.1 6919 = .long X0.2.2.1 ∧ u.1 6920 = .int X0.2.2.2.1 ∧ u.1 6921 = .int X0.2.2.2.2.1 ∧ u.1 6922 = .int X0.2.2.2.2.2.1 ∧ u.1 6927 = .int X0.2.2.2.2.2.2.1 ∧ u.1 6935 = .int X0.2.2.2.2.2.2.2.1 ∧ (∀ j, nel j [6918, 6919, 6920, 6921, 6922, 6927, 6935] = false → u.1 j = m0 j) ∧ u.2 76 = (40, .inl X0.2.2.2.2.2.2.2.2.1) ∧ u.2 77 = (40, .inl X0.2.2.2.2.2.2.2.2.2.1) ∧ u.2 78 = (40, .inl X0.2.2.2.2.2.2.2.2.2.2.1) ∧ u.2 79 = (6001, .inr (.inl X0.2.2.2.2.2.2.2.2.2.2.2.1)) ∧ u.2 80 = (16384, .inl X0.2.2.2.2.2.2.2.2.2.2.2.2.1) ∧ u.2 81 = (6002, .inl X0.2.2.2.2.2.2.2.2.2.2.2.2.2.1) ∧ u.2 82 = (84000, .inl X0.2.2.2.2.2.2.2.2.2.2.2.2.2.2.1) ∧ u.2 83 = (84000, .inl X0.2.2.2.2.2.2.2.2.2.2.2.2.2.2.2.1) ∧ u.2 84 = (84000, .inl X0.2.2.2.2.2.2.2.2.2.2.2.2.2.2.2.2.1) ∧ u.2 85 = (84000, .inl X0.2.2.2.2.2.2.2.2.2.2.2.2.2.2.2.2.2.1) ∧ u.2 86 = (84000, .inl X0.2.2.2.2.2.2.2.2.2.2.2.2.2.2.2.2.2.2.1) ∧ u.2 98 = (6001, .inr (.inr (.inr (.inl X0.2.2.2.2.2.2.2.2.2.2.2.2.2.2.2.2.2.2.2.1)))) ∧ u.2 99 = (6001, .inr (.inr (.inr (.inl X0.2.2.2.2.2.2.2.2.2.2.2.2.2.2.2.2.2.2.2.2)))) ∧ (∀ j, nel j [76, 77, 78, 79, 80, 81, 82, 83, 84, 85, 86, 98, 99] = false → u.2 j = a0 j)) (gB D cy N q s.heap.size) (gA N q s.heap.size)) args s 0 0 (gA N q s.heap.size)) (F0 M 99 ls []) := by
                intro t44_99 hr44 m a H locs w_x69_18 w_x69_19 w_x69_20 w_x69_21 w_x69_22 w_x69_27 w_x69_35 hoff hsh w_A76 w_A77 w_A78 w_A79 w_A80 w_A81 w_A82 w_A83 w_A84 w_A85 w_A86 w_A98 w_A99 hoffa ls hl hW hS
                subst hr44
                refine lv_iconst (v := 0) hx hb dX12_odds_99 (by decide) ?_
                refine lv_istore_n (lv' := [(3, .int 0), (0, .ref (q 69)), (1, .int p1), (2, .int v2k12)]) hx hb dX12_odds_100 rfl hl (by decide) rfl (fun ls hl => ?_)
                obtain ⟨r48, hg48, hs1⟩ := obind hs1
                have hE2_120 : ∀ (t48_120 : (Nat → UInt64)) (hr48 : t48_120 = r48) (m : Nat → Value) (a : Nat → vp_A) (H : Heap) (locs : List Loc) (w_x69_18 : m 6918 = .int 0) (w_x69_19 : m 6919 = .long r4.2.1) (w_x69_20 : m 6920 = .int r4.2.2.1) (w_x69_21 : m 6921 = .int r4.2.2.2.1) (w_x69_22 : m 6922 = .int r4.2.2.2.2.1) (w_x69_27 : m 6927 = .int r4.2.2.2.2.2.1) (w_x69_35 : m 6935 = .int r4.2.2.2.2.2.2.1) (hoff : ∀ j, nel j [6918, 6919, 6920, 6921, 6922, 6927, 6935] = false → m j = m0 j) (hsh : SH q m) (w_A76 : a 76 = (40, .inl r4.2.2.2.2.2.2.2.1)) (w_A77 : a 77 = (40, .inl r4.2.2.2.2.2.2.2.2.1)) (w_A78 : a 78 = (40, .inl r4.2.2.2.2.2.2.2.2.2.1)) (w_A79 : a 79 = (6001, .inr (.inl r4.2.2.2.2.2.2.2.2.2.2.1))) (w_A80 : a 80 = (16384, .inl r4.2.2.2.2.2.2.2.2.2.2.2.1)) (w_A81 : a 81 = (6002, .inl r4.2.2.2.2.2.2.2.2.2.2.2.2.1)) (w_A82 : a 82 = (84000, .inl r4.2.2.2.2.2.2.2.2.2.2.2.2.2.1)) (w_A83 : a 83 = (84000, .inl r4.2.2.2.2.2.2.2.2.2.2.2.2.2.2.1)) (w_A84 : a 84 = (84000, .inl r4.2.2.2.2.2.2.2.2.2.2.2.2.2.2.2.1)) (w_A85 : a 85 = (84000, .inl r4.2.2.2.2.2.2.2.2.2.2.2.2.2.2.2.2.1)) (w_A86 : a 86 = (84000, .inl r4.2.2.2.2.2.2.2.2.2.2.2.2.2.2.2.2.2)) (w_A98 : a 98 = (6001, .inr (.inr (.inr (.inl A98k12))))) (w_A99 : a 99 = (6001, .inr (.inr (.inr (.inl t48_120))))) (hoffa : ∀ j, nel j [76, 77, 78, 79, 80, 81, 82, 83, 84, 85, 86, 98, 99] = false → a j = a0 j) (ls : Array Slot) (hl : lv_has ls 5 [(0, .ref (q 69)), (1, .int p1), (2, .int v2k12)]) (hW : GW D cy (gA N q s.heap.size) N q m a s H) (hS : va_S (gA N q s.heap.size) s.heap H locs), W p l e ({ frames := 8, cells := 0, slots := 0, locals := 188 } : Room) s M args below meth c H locs 0 0 (MQ below (va_Ql (fun (r : Int64) (u : (Nat → Value) × (Nat → vp_A)) => r = X0.1 ∧ u.1 6918 = .int X0.2.1 ∧ u.1 6919 = .long X0.2.2.1 ∧ u.1 6920 = .int X0.2.2.2.1 ∧ u.1 6921 = .int X0.2.2.2.2.1 ∧ u.1 6922 = .int X0.2.2.2.2.2.1 ∧ u.1 6927 = .int X0.2.2.2.2.2.2.1 ∧ u.1 6935 = .int X0.2.2.2.2.2.2.2.1 ∧ (∀ j, nel j [6918, 6919, 6920, 6921, 6922, 6927, 6935] = false → u.1 j = m0 j) ∧ u.2 76 = (40, .inl X0.2.2.2.2.2.2.2.2.1) ∧ u.2 77 = (40, .inl X0.2.2.2.2.2.2.2.2.2.1) ∧ u.2 78 = (40, .inl X0.2.2.2.2.2.2.2.2.2.2.1) ∧ u.2 79 = (6001, .inr (.inl X0.2.2.2.2.2.2.2.2.2.2.2.1)) ∧ u.2 80 = (16384, .inl X0.2.2.2.2.2.2.2.2.2.2.2.2.1) ∧ u.2 81 = (6002, .inl X0.2.2.2.2.2.2.2.2.2.2.2.2.2.1) ∧ u.2 82 = (84000, .inl X0.2.2.2.2.2.2.2.2.2.2.2.2.2.2.1) ∧ u.2 83 = (84000, .inl X0.2.2.2.2.2.2.2.2.2.2.2.2.2.2.2.1) ∧ u.2 84 = (84000, .inl X0.2.2.2.2.2.2.2.2.2.2.2.2.2.2.2.2.1) ∧ u.2 85 = (84000, .inl X0.2.2.2.2.2.2.2.2.2.2.2.2.2.2.2.2.2.1) ∧ u.2 86 = (84000, .inl X0.2.2.2.2.2.2.2.2.2.2.2.2.2.2.2.2.2.2.1) ∧ u.2 98 = (6001, .inr (.inr (.inr (.inl X0.2.2.2.2.2.2.2.2.2.2.2.2.2.2.2.2.2.2.2.1)))) ∧ u.2 99 = (6001, .inr (.inr (.inr (.inl X0.2.2.2.2.2.2.2.2.2.2.2.2.2.2.2.2.2.2.2.2)))) ∧ (∀ j, nel j [76, 77, 78, 79, 80, 81, 82, 83, 84, 85, 86, 98, 99] = false → u.2 j = a0 j)) (gB D cy N q s.heap.size) (gA N q s.heap.size)) args s 0 0 (gA N q s.heap.size)) (F0 M 120 ls []) := by
                  intro t48_120 hr48 m a H locs w_x69_18 w_x69_19 w_x69_20 w_x69_21 w_x69_22 w_x69_27 w_x69_35 hoff hsh w_A76 w_A77 w_A78 w_A79 w_A80 w_A81 w_A82 w_A83 w_A84 w_A85 w_A86 w_A98 w_A99 hoffa ls hl hW hS
                  subst hr48
                  refine lv_iconst (v := 0) hx hb dX12_odds_120 (by decide) ?_
                  refine lv_istore_n (lv' := [(3, .int 0), (0, .ref (q 69)), (1, .int p1), (2, .int v2k12)]) hx hb dX12_odds_121 rfl hl (by decide) rfl (fun ls hl => ?_)
                  obtain ⟨r51, hg51, hs1⟩ := obind hs1
                  have hE2_148 : ∀ (t51_148 : (Nat → UInt64)) (hr51 : t51_148 = r51) (m : Nat → Value) (a : Nat → vp_A) (H : Heap) (locs : List Loc) (w_x69_18 : m 6918 = .int 0) (w_x69_19 : m 6919 = .long r4.2.1) (w_x69_20 : m 6920 = .int r4.2.2.1) (w_x69_21 : m 6921 = .int r4.2.2.2.1) (w_x69_22 : m 6922 = .int r4.2.2.2.2.1) (w_x69_27 : m 6927 = .int r4.2.2.2.2.2.1) (w_x69_35 : m 6935 = .int r4.2.2.2.2.2.2.1) (hoff : ∀ j, nel j [6918, 6919, 6920, 6921, 6922, 6927, 6935] = false → m j = m0 j) (hsh : SH q m) (w_A76 : a 76 = (40, .inl r4.2.2.2.2.2.2.2.1)) (w_A77 : a 77 = (40, .inl r4.2.2.2.2.2.2.2.2.1)) (w_A78 : a 78 = (40, .inl r4.2.2.2.2.2.2.2.2.2.1)) (w_A79 : a 79 = (6001, .inr (.inl r4.2.2.2.2.2.2.2.2.2.2.1))) (w_A80 : a 80 = (16384, .inl r4.2.2.2.2.2.2.2.2.2.2.2.1)) (w_A81 : a 81 = (6002, .inl r4.2.2.2.2.2.2.2.2.2.2.2.2.1)) (w_A82 : a 82 = (84000, .inl r4.2.2.2.2.2.2.2.2.2.2.2.2.2.1)) (w_A83 : a 83 = (84000, .inl r4.2.2.2.2.2.2.2.2.2.2.2.2.2.2.1)) (w_A84 : a 84 = (84000, .inl r4.2.2.2.2.2.2.2.2.2.2.2.2.2.2.2.1)) (w_A85 : a 85 = (84000, .inl r4.2.2.2.2.2.2.2.2.2.2.2.2.2.2.2.2.1)) (w_A86 : a 86 = (84000, .inl r4.2.2.2.2.2.2.2.2.2.2.2.2.2.2.2.2.2)) (w_A98 : a 98 = (6001, .inr (.inr (.inr (.inl t51_148))))) (w_A99 : a 99 = (6001, .inr (.inr (.inr (.inl t48_120))))) (hoffa : ∀ j, nel j [76, 77, 78, 79, 80, 81, 82, 83, 84, 85, 86, 98, 99] = false → a j = a0 j) (ls : Array Slot) (hl : lv_has ls 5 [(0, .ref (q 69)), (1, .int p1), (2, .int v2k12)]) (hW : GW D cy (gA N q s.heap.size) N q m a s H) (hS : va_S (gA N q s.heap.size) s.heap H locs), W p l e ({ frames := 8, cells := 0, slots := 0, locals := 188 } : Room) s M args below meth c H locs 0 0 (MQ below (va_Ql (fun (r : Int64) (u : (Nat → Value) × (Nat → vp_A)) => r = X0.1 ∧ u.1 6918 = .int X0.2.1 ∧ u.1 6919 = .long X0.2.2.1 ∧ u.1 6920 = .int X0.2.2.2.1 ∧ u.1 6921 = .int X0.2.2.2.2.1 ∧ u.1 6922 = .int X0.2.2.2.2.2.1 ∧ u.1 6927 = .int X0.2.2.2.2.2.2.1 ∧ u.1 6935 = .int X0.2.2.2.2.2.2.2.1 ∧ (∀ j, nel j [6918, 6919, 6920, 6921, 6922, 6927, 6935] = false → u.1 j = m0 j) ∧ u.2 76 = (40, .inl X0.2.2.2.2.2.2.2.2.1) ∧ u.2 77 = (40, .inl X0.2.2.2.2.2.2.2.2.2.1) ∧ u.2 78 = (40, .inl X0.2.2.2.2.2.2.2.2.2.2.1) ∧ u.2 79 = (6001, .inr (.inl X0.2.2.2.2.2.2.2.2.2.2.2.1)) ∧ u.2 80 = (16384, .inl X0.2.2.2.2.2.2.2.2.2.2.2.2.1) ∧ u.2 81 = (6002, .inl X0.2.2.2.2.2.2.2.2.2.2.2.2.2.1) ∧ u.2 82 = (84000, .inl X0.2.2.2.2.2.2.2.2.2.2.2.2.2.2.1) ∧ u.2 83 = (84000, .inl X0.2.2.2.2.2.2.2.2.2.2.2.2.2.2.2.1) ∧ u.2 84 = (84000, .inl X0.2.2.2.2.2.2.2.2.2.2.2.2.2.2.2.2.1) ∧ u.2 85 = (84000, .inl X0.2.2.2.2.2.2.2.2.2.2.2.2.2.2.2.2.2.1) ∧ u.2 86 = (84000, .inl X0.2.2.2.2.2.2.2.2.2.2.2.2.2.2.2.2.2.2.1) ∧ u.2 98 = (6001, .inr (.inr (.inr (.inl X0.2.2.2.2.2.2.2.2.2.2.2.2.2.2.2.2.2.2.2.1)))) ∧ u.2 99 = (6001, .inr (.inr (.inr (.inl X0.2.2.2.2.2.2.2.2.2.2.2.2.2.2.2.2.2.2.2.2)))) ∧ (∀ j, nel j [76, 77, 78, 79, 80, 81, 82, 83, 84, 85, 86, 98, 99] = false → u.2 j = a0 j)) (gB D cy N q s.heap.size) (gA N q s.heap.size)) args s 0 0 (gA N q s.heap.size)) (F0 M 148 ls []) := by
                    intro t51_148 hr51 m a H locs w_x69_18 w_x69_19 w_x69_20 w_x69_21 w_x69_22 w_x69_27 w_x69_35 hoff hsh w_A76 w_A77 w_A78 w_A79 w_A80 w_A81 w_A82 w_A83 w_A84 w_A85 w_A86 w_A98 w_A99 hoffa ls hl hW hS
                    subst hr51
                    refine lv_iinc (v := v2k12 + 1) (lv' := [(2, .int (v2k12 + 1)), (0, .ref (q 69)), (1, .int p1)]) hx hb dX12_odds_148 hl (k := 2) rfl rfl (by decide) rfl (fun ls hl => ?_)
                    refine lv_goto (tgt := 71) hx hb dX12_odds_151 (by decide) ?_
                    exact ih1 (v2k12 + 1) t51_148 t48_120 m a _ _ w_x69_18 w_x69_19 w_x69_20 w_x69_21 w_x69_22 w_x69_27 w_x69_35 hoff hsh w_A76 w_A77 w_A78 w_A79 w_A80 w_A81 w_A82 w_A83 w_A84 w_A85 w_A86 w_A98 w_A99 hoffa ls (lv_sub hl [1, 2, 0] rfl) (hXr1 _ (Option.some.inj hs1).symm) hW hS
                  have hL2 : ∀ (n : Nat) (v3k51 : Int32) (A98k51 : Nat → UInt64) (m : Nat → Value) (a : Nat → vp_A) (H : Heap) (locs : List Loc) (w_x69_18 : m 6918 = .int 0) (w_x69_19 : m 6919 = .long r4.2.1) (w_x69_20 : m 6920 = .int r4.2.2.1) (w_x69_21 : m 6921 = .int r4.2.2.2.1) (w_x69_22 : m 6922 = .int r4.2.2.2.2.1) (w_x69_27 : m 6927 = .int r4.2.2.2.2.2.1) (w_x69_35 : m 6935 = .int r4.2.2.2.2.2.2.1) (hoff : ∀ j, nel j [6918, 6919, 6920, 6921, 6922, 6927, 6935] = false → m j = m0 j) (hsh : SH q m) (w_A76 : a 76 = (40, .inl r4.2.2.2.2.2.2.2.1)) (w_A77 : a 77 = (40, .inl r4.2.2.2.2.2.2.2.2.1)) (w_A78 : a 78 = (40, .inl r4.2.2.2.2.2.2.2.2.2.1)) (w_A79 : a 79 = (6001, .inr (.inl r4.2.2.2.2.2.2.2.2.2.2.1))) (w_A80 : a 80 = (16384, .inl r4.2.2.2.2.2.2.2.2.2.2.2.1)) (w_A81 : a 81 = (6002, .inl r4.2.2.2.2.2.2.2.2.2.2.2.2.1)) (w_A82 : a 82 = (84000, .inl r4.2.2.2.2.2.2.2.2.2.2.2.2.2.1)) (w_A83 : a 83 = (84000, .inl r4.2.2.2.2.2.2.2.2.2.2.2.2.2.2.1)) (w_A84 : a 84 = (84000, .inl r4.2.2.2.2.2.2.2.2.2.2.2.2.2.2.2.1)) (w_A85 : a 85 = (84000, .inl r4.2.2.2.2.2.2.2.2.2.2.2.2.2.2.2.2.1)) (w_A86 : a 86 = (84000, .inl r4.2.2.2.2.2.2.2.2.2.2.2.2.2.2.2.2.2)) (w_A98 : a 98 = (6001, .inr (.inr (.inr (.inl A98k51))))) (w_A99 : a 99 = (6001, .inr (.inr (.inr (.inl t48_120))))) (hoffa : ∀ j, nel j [76, 77, 78, 79, 80, 81, 82, 83, 84, 85, 86, 98, 99] = false → a j = a0 j) (ls : Array Slot) (hl : lv_has ls 5 [(0, .ref (q 69)), (1, .int p1), (2, .int v2k12), (3, .int v3k51)]) (hg51 : gloop (fun u51 : (Int32 × (Nat → UInt64)) => fX12_odds_S122 F x69_0 x69_1 x69_2 x69_3 x69_4 p1 v2k12 0 r4.2.1 r4.2.2.1 r4.2.2.2.1 r4.2.2.2.2.1 r4.2.2.2.2.2.1 r4.2.2.2.2.2.2.1 r4.2.2.2.2.2.2.2.1 r4.2.2.2.2.2.2.2.2.1 r4.2.2.2.2.2.2.2.2.2.1 r4.2.2.2.2.2.2.2.2.2.2.1 r4.2.2.2.2.2.2.2.2.2.2.2.1 r4.2.2.2.2.2.2.2.2.2.2.2.2.1 r4.2.2.2.2.2.2.2.2.2.2.2.2.2.1 r4.2.2.2.2.2.2.2.2.2.2.2.2.2.2.1 r4.2.2.2.2.2.2.2.2.2.2.2.2.2.2.2.1 r4.2.2.2.2.2.2.2.2.2.2.2.2.2.2.2.2.1 r4.2.2.2.2.2.2.2.2.2.2.2.2.2.2.2.2.2 t48_120 u51.1 u51.2) n (v3k51, A98k51) = some r51) (hW : GW D cy (gA N q s.heap.size) N q m a s H) (hS : va_S (gA N q s.heap.size) s.heap H locs), W p l e ({ frames := 8, cells := 0, slots := 0, locals := 188 } : Room) s M args below meth c H locs 0 0 (MQ below (va_Ql (fun (r : Int64) (u : (Nat → Value) × (Nat → vp_A)) => r = X0.1 ∧ u.1 6918 = .int X0.2.1 ∧ u.1 6919 = .long X0.2.2.1 ∧ u.1 6920 = .int X0.2.2.2.1 ∧ u.1 6921 = .int X0.2.2.2.2.1 ∧ u.1 6922 = .int X0.2.2.2.2.2.1 ∧ u.1 6927 = .int X0.2.2.2.2.2.2.1 ∧ u.1 6935 = .int X0.2.2.2.2.2.2.2.1 ∧ (∀ j, nel j [6918, 6919, 6920, 6921, 6922, 6927, 6935] = false → u.1 j = m0 j) ∧ u.2 76 = (40, .inl X0.2.2.2.2.2.2.2.2.1) ∧ u.2 77 = (40, .inl X0.2.2.2.2.2.2.2.2.2.1) ∧ u.2 78 = (40, .inl X0.2.2.2.2.2.2.2.2.2.2.1) ∧ u.2 79 = (6001, .inr (.inl X0.2.2.2.2.2.2.2.2.2.2.2.1)) ∧ u.2 80 = (16384, .inl X0.2.2.2.2.2.2.2.2.2.2.2.2.1) ∧ u.2 81 = (6002, .inl X0.2.2.2.2.2.2.2.2.2.2.2.2.2.1) ∧ u.2 82 = (84000, .inl X0.2.2.2.2.2.2.2.2.2.2.2.2.2.2.1) ∧ u.2 83 = (84000, .inl X0.2.2.2.2.2.2.2.2.2.2.2.2.2.2.2.1) ∧ u.2 84 = (84000, .inl X0.2.2.2.2.2.2.2.2.2.2.2.2.2.2.2.2.1) ∧ u.2 85 = (84000, .inl X0.2.2.2.2.2.2.2.2.2.2.2.2.2.2.2.2.2.1) ∧ u.2 86 = (84000, .inl X0.2.2.2.2.2.2.2.2.2.2.2.2.2.2.2.2.2.2.1) ∧ u.2 98 = (6001, .inr (.inr (.inr (.inl X0.2.2.2.2.2.2.2.2.2.2.2.2.2.2.2.2.2.2.2.1)))) ∧ u.2 99 = (6001, .inr (.inr (.inr (.inl X0.2.2.2.2.2.2.2.2.2.2.2.2.2.2.2.2.2.2.2.2)))) ∧ (∀ j, nel j [76, 77, 78, 79, 80, 81, 82, 83, 84, 85, 86, 98, 99] = false → u.2 j = a0 j)) (gB D cy N q s.heap.size) (gA N q s.heap.size)) args s 0 0 (gA N q s.heap.size)) (F0 M 122 ls []) := by
                    intro n
                    induction n with
                    | zero => intro v3k51 A98k51 m a H locs w_x69_18 w_x69_19 w_x69_20 w_x69_21 w_x69_22 w_x69_27 w_x69_35 hoff hsh w_A76 w_A77 w_A78 w_A79 w_A80 w_A81 w_A82 w_A83 w_A84 w_A85 w_A86 w_A98 w_A99 hoffa ls hl hg51 hW hS; exact (gl_zero hg51).elim
                    | succ n ih2 =>
                      intro v3k51 A98k51 m a H locs w_x69_18 w_x69_19 w_x69_20 w_x69_21 w_x69_22 w_x69_27 w_x69_35 hoff hsh w_A76 w_A77 w_A78 w_A79 w_A80 w_A81 w_A82 w_A83 w_A84 w_A85 w_A86 w_A98 w_A99 hoffa ls hl hg51 hW hS
                      obtain ⟨X2, hs2, hXl2, hXr2⟩ := gl_succ hg51
                      have hs2 : fX12_odds_S122 F x69_0 x69_1 x69_2 x69_3 x69_4 p1 v2k12 0 r4.2.1 r4.2.2.1 r4.2.2.2.1 r4.2.2.2.2.1 r4.2.2.2.2.2.1 r4.2.2.2.2.2.2.1 r4.2.2.2.2.2.2.2.1 r4.2.2.2.2.2.2.2.2.1 r4.2.2.2.2.2.2.2.2.2.1 r4.2.2.2.2.2.2.2.2.2.2.1 r4.2.2.2.2.2.2.2.2.2.2.2.1 r4.2.2.2.2.2.2.2.2.2.2.2.2.1 r4.2.2.2.2.2.2.2.2.2.2.2.2.2.1 r4.2.2.2.2.2.2.2.2.2.2.2.2.2.2.1 r4.2.2.2.2.2.2.2.2.2.2.2.2.2.2.2.1 r4.2.2.2.2.2.2.2.2.2.2.2.2.2.2.2.2.1 r4.2.2.2.2.2.2.2.2.2.2.2.2.2.2.2.2.2 t48_120 v3k51 A98k51 = some X2 := hs2
                      unfold fX12_odds_S122 at hs2
                      refine lv_iload_n hx hb dX12_odds_122 rfl (lv_at hl 3 rfl) ?_
                      refine lv_aload_n hx hb dX12_odds_123 rfl (lv_at hl 0 rfl) ?_
                      refine gf12_27 hx hb hG hown hW (o := 69) (ltN hN 69 rfl) gk69 (v := .int r4.2.2.2.2.2.1) w_x69_27 gx713 dX12_odds_124 ?_
                      refine lv_icmp_ge (tgt := 148) hx hb dX12_odds_127 (by decide) (fun c56 => ?_) (fun c56 => ?_)
                      · rw [if_pos c56] at hs2
                        exact hE2_148 A98k51 (hXl2 _ (Option.some.inj hs2).symm) m a _ _ w_x69_18 w_x69_19 w_x69_20 w_x69_21 w_x69_22 w_x69_27 w_x69_35 hoff hsh w_A76 w_A77 w_A78 w_A79 w_A80 w_A81 w_A82 w_A83 w_A84 w_A85 w_A86 w_A98 w_A99 hoffa ls (lv_sub hl [0, 1, 2] rfl) hW hS
                      · rw [if_neg c56] at hs2
                        refine lv_aload_n hx hb dX12_odds_130 rfl (lv_at hl 0 rfl) ?_
                        refine gf12_50 hx hb hG hown hW (o := 69) (ltN hN 69 rfl) gk69 (v := .ref (q 98)) (sh69_50 hsh) gx196 dX12_odds_131 ?_
                        refine lv_iload_n hx hb dX12_odds_134 rfl (lv_at hl 3 rfl) ?_
                        refine lv_aload_n hx hb dX12_odds_135 rfl (lv_at hl 0 rfl) ?_
                        refine gf12_51 hx hb hG hown hW (o := 69) (ltN hN 69 rfl) gk69 (v := .ref (q 99)) (sh69_51 hsh) gx197 dX12_odds_136 ?_
                        refine lv_iload_n hx hb dX12_odds_139 rfl (lv_at hl 3 rfl) ?_
                        obtain ⟨hi57, hs2⟩ := oif hs2
                        refine g_dald hx hb hW (o := 99) (ltN hN 99 rfl) gk99 w_A99 (vin hi57) dX12_odds_140 ?_
                        obtain ⟨hi58, hs2⟩ := oif hs2
                        refine g_dast hx hb hW hS (o := 98) (ltN hN 98 rfl) gk98 w_A98 (vin hi58) dX12_odds_141 (fun a59 H locs ha59 ho59 hW hS => ?_)
                        have ho59 := off1 ho59
                        have w_A76 : a59 76 = (40, .inl r4.2.2.2.2.2.2.2.1) := (ho59 76 rfl).trans w_A76
                        have w_A77 : a59 77 = (40, .inl r4.2.2.2.2.2.2.2.2.1) := (ho59 77 rfl).trans w_A77
                        have w_A78 : a59 78 = (40, .inl r4.2.2.2.2.2.2.2.2.2.1) := (ho59 78 rfl).trans w_A78
                        have w_A79 : a59 79 = (6001, .inr (.inl r4.2.2.2.2.2.2.2.2.2.2.1)) := (ho59 79 rfl).trans w_A79
                        have w_A80 : a59 80 = (16384, .inl r4.2.2.2.2.2.2.2.2.2.2.2.1) := (ho59 80 rfl).trans w_A80
                        have w_A81 : a59 81 = (6002, .inl r4.2.2.2.2.2.2.2.2.2.2.2.2.1) := (ho59 81 rfl).trans w_A81
                        have w_A82 : a59 82 = (84000, .inl r4.2.2.2.2.2.2.2.2.2.2.2.2.2.1) := (ho59 82 rfl).trans w_A82
                        have w_A83 : a59 83 = (84000, .inl r4.2.2.2.2.2.2.2.2.2.2.2.2.2.2.1) := (ho59 83 rfl).trans w_A83
                        have w_A84 : a59 84 = (84000, .inl r4.2.2.2.2.2.2.2.2.2.2.2.2.2.2.2.1) := (ho59 84 rfl).trans w_A84
                        have w_A85 : a59 85 = (84000, .inl r4.2.2.2.2.2.2.2.2.2.2.2.2.2.2.2.2.1) := (ho59 85 rfl).trans w_A85
                        have w_A86 : a59 86 = (84000, .inl r4.2.2.2.2.2.2.2.2.2.2.2.2.2.2.2.2.2) := (ho59 86 rfl).trans w_A86
                        have w_A98 : a59 98 = (6001, .inr (.inr (.inr (.inl (vf_upd A98k51 v3k51.toNatClampNeg (t48_120 v3k51.toNatClampNeg)))))) := ha59
                        have w_A99 : a59 99 = (6001, .inr (.inr (.inr (.inl t48_120)))) := (ho59 99 rfl).trans w_A99
                        have hoffa := offm hoffa ho59 (by decide +kernel)
                        refine lv_iinc (v := v3k51 + 1) (lv' := [(3, .int (v3k51 + 1)), (0, .ref (q 69)), (1, .int p1), (2, .int v2k12)]) hx hb dX12_odds_142 hl (k := 3) rfl rfl (by decide) rfl (fun ls hl => ?_)
                        refine lv_goto (tgt := 122) hx hb dX12_odds_145 (by decide) ?_
                        exact ih2 (v3k51 + 1) (vf_upd A98k51 v3k51.toNatClampNeg (t48_120 v3k51.toNatClampNeg)) m a59 _ _ w_x69_18 w_x69_19 w_x69_20 w_x69_21 w_x69_22 w_x69_27 w_x69_35 hoff hsh w_A76 w_A77 w_A78 w_A79 w_A80 w_A81 w_A82 w_A83 w_A84 w_A85 w_A86 w_A98 w_A99 hoffa ls (lv_sub hl [1, 2, 3, 0] rfl) (hXr2 _ (Option.some.inj hs2).symm) hW hS
                  exact hL2 F 0 A98k12 m a _ _ w_x69_18 w_x69_19 w_x69_20 w_x69_21 w_x69_22 w_x69_27 w_x69_35 hoff hsh w_A76 w_A77 w_A78 w_A79 w_A80 w_A81 w_A82 w_A83 w_A84 w_A85 w_A86 w_A98 w_A99 hoffa ls (lv_sub hl [1, 2, 3, 0] rfl) hg51 hW hS
                have hL2 : ∀ (n : Nat) (v3k48 : Int32) (A99k48 : Nat → UInt64) (m : Nat → Value) (a : Nat → vp_A) (H : Heap) (locs : List Loc) (w_x69_18 : m 6918 = .int 0) (w_x69_19 : m 6919 = .long r4.2.1) (w_x69_20 : m 6920 = .int r4.2.2.1) (w_x69_21 : m 6921 = .int r4.2.2.2.1) (w_x69_22 : m 6922 = .int r4.2.2.2.2.1) (w_x69_27 : m 6927 = .int r4.2.2.2.2.2.1) (w_x69_35 : m 6935 = .int r4.2.2.2.2.2.2.1) (hoff : ∀ j, nel j [6918, 6919, 6920, 6921, 6922, 6927, 6935] = false → m j = m0 j) (hsh : SH q m) (w_A76 : a 76 = (40, .inl r4.2.2.2.2.2.2.2.1)) (w_A77 : a 77 = (40, .inl r4.2.2.2.2.2.2.2.2.1)) (w_A78 : a 78 = (40, .inl r4.2.2.2.2.2.2.2.2.2.1)) (w_A79 : a 79 = (6001, .inr (.inl r4.2.2.2.2.2.2.2.2.2.2.1))) (w_A80 : a 80 = (16384, .inl r4.2.2.2.2.2.2.2.2.2.2.2.1)) (w_A81 : a 81 = (6002, .inl r4.2.2.2.2.2.2.2.2.2.2.2.2.1)) (w_A82 : a 82 = (84000, .inl r4.2.2.2.2.2.2.2.2.2.2.2.2.2.1)) (w_A83 : a 83 = (84000, .inl r4.2.2.2.2.2.2.2.2.2.2.2.2.2.2.1)) (w_A84 : a 84 = (84000, .inl r4.2.2.2.2.2.2.2.2.2.2.2.2.2.2.2.1)) (w_A85 : a 85 = (84000, .inl r4.2.2.2.2.2.2.2.2.2.2.2.2.2.2.2.2.1)) (w_A86 : a 86 = (84000, .inl r4.2.2.2.2.2.2.2.2.2.2.2.2.2.2.2.2.2)) (w_A98 : a 98 = (6001, .inr (.inr (.inr (.inl A98k12))))) (w_A99 : a 99 = (6001, .inr (.inr (.inr (.inl A99k48))))) (hoffa : ∀ j, nel j [76, 77, 78, 79, 80, 81, 82, 83, 84, 85, 86, 98, 99] = false → a j = a0 j) (ls : Array Slot) (hl : lv_has ls 5 [(0, .ref (q 69)), (1, .int p1), (2, .int v2k12), (3, .int v3k48)]) (hg48 : gloop (fun u48 : (Int32 × (Nat → UInt64)) => fX12_odds_S101 F x69_0 x69_1 x69_2 x69_3 x69_4 p1 v2k12 0 r4.2.1 r4.2.2.1 r4.2.2.2.1 r4.2.2.2.2.1 r4.2.2.2.2.2.1 r4.2.2.2.2.2.2.1 r4.2.2.2.2.2.2.2.1 r4.2.2.2.2.2.2.2.2.1 r4.2.2.2.2.2.2.2.2.2.1 r4.2.2.2.2.2.2.2.2.2.2.1 r4.2.2.2.2.2.2.2.2.2.2.2.1 r4.2.2.2.2.2.2.2.2.2.2.2.2.1 r4.2.2.2.2.2.2.2.2.2.2.2.2.2.1 r4.2.2.2.2.2.2.2.2.2.2.2.2.2.2.1 r4.2.2.2.2.2.2.2.2.2.2.2.2.2.2.2.1 r4.2.2.2.2.2.2.2.2.2.2.2.2.2.2.2.2.1 r4.2.2.2.2.2.2.2.2.2.2.2.2.2.2.2.2.2 A98k12 u48.1 u48.2) n (v3k48, A99k48) = some r48) (hW : GW D cy (gA N q s.heap.size) N q m a s H) (hS : va_S (gA N q s.heap.size) s.heap H locs), W p l e ({ frames := 8, cells := 0, slots := 0, locals := 188 } : Room) s M args below meth c H locs 0 0 (MQ below (va_Ql (fun (r : Int64) (u : (Nat → Value) × (Nat → vp_A)) => r = X0.1 ∧ u.1 6918 = .int X0.2.1 ∧ u.1 6919 = .long X0.2.2.1 ∧ u.1 6920 = .int X0.2.2.2.1 ∧ u.1 6921 = .int X0.2.2.2.2.1 ∧ u.1 6922 = .int X0.2.2.2.2.2.1 ∧ u.1 6927 = .int X0.2.2.2.2.2.2.1 ∧ u.1 6935 = .int X0.2.2.2.2.2.2.2.1 ∧ (∀ j, nel j [6918, 6919, 6920, 6921, 6922, 6927, 6935] = false → u.1 j = m0 j) ∧ u.2 76 = (40, .inl X0.2.2.2.2.2.2.2.2.1) ∧ u.2 77 = (40, .inl X0.2.2.2.2.2.2.2.2.2.1) ∧ u.2 78 = (40, .inl X0.2.2.2.2.2.2.2.2.2.2.1) ∧ u.2 79 = (6001, .inr (.inl X0.2.2.2.2.2.2.2.2.2.2.2.1)) ∧ u.2 80 = (16384, .inl X0.2.2.2.2.2.2.2.2.2.2.2.2.1) ∧ u.2 81 = (6002, .inl X0.2.2.2.2.2.2.2.2.2.2.2.2.2.1) ∧ u.2 82 = (84000, .inl X0.2.2.2.2.2.2.2.2.2.2.2.2.2.2.1) ∧ u.2 83 = (84000, .inl X0.2.2.2.2.2.2.2.2.2.2.2.2.2.2.2.1) ∧ u.2 84 = (84000, .inl X0.2.2.2.2.2.2.2.2.2.2.2.2.2.2.2.2.1) ∧ u.2 85 = (84000, .inl X0.2.2.2.2.2.2.2.2.2.2.2.2.2.2.2.2.2.1) ∧ u.2 86 = (84000, .inl X0.2.2.2.2.2.2.2.2.2.2.2.2.2.2.2.2.2.2.1) ∧ u.2 98 = (6001, .inr (.inr (.inr (.inl X0.2.2.2.2.2.2.2.2.2.2.2.2.2.2.2.2.2.2.2.1)))) ∧ u.2 99 = (6001, .inr (.inr (.inr (.inl X0.2.2.2.2.2.2.2.2.2.2.2.2.2.2.2.2.2.2.2.2)))) ∧ (∀ j, nel j [76, 77, 78, 79, 80, 81, 82, 83, 84, 85, 86, 98, 99] = false → u.2 j = a0 j)) (gB D cy N q s.heap.size) (gA N q s.heap.size)) args s 0 0 (gA N q s.heap.size)) (F0 M 101 ls []) := by
                  intro n
                  induction n with
                  | zero => intro v3k48 A99k48 m a H locs w_x69_18 w_x69_19 w_x69_20 w_x69_21 w_x69_22 w_x69_27 w_x69_35 hoff hsh w_A76 w_A77 w_A78 w_A79 w_A80 w_A81 w_A82 w_A83 w_A84 w_A85 w_A86 w_A98 w_A99 hoffa ls hl hg48 hW hS; exact (gl_zero hg48).elim
                  | succ n ih2 =>
                    intro v3k48 A99k48 m a H locs w_x69_18 w_x69_19 w_x69_20 w_x69_21 w_x69_22 w_x69_27 w_x69_35 hoff hsh w_A76 w_A77 w_A78 w_A79 w_A80 w_A81 w_A82 w_A83 w_A84 w_A85 w_A86 w_A98 w_A99 hoffa ls hl hg48 hW hS
                    obtain ⟨X2, hs2, hXl2, hXr2⟩ := gl_succ hg48
                    have hs2 : fX12_odds_S101 F x69_0 x69_1 x69_2 x69_3 x69_4 p1 v2k12 0 r4.2.1 r4.2.2.1 r4.2.2.2.1 r4.2.2.2.2.1 r4.2.2.2.2.2.1 r4.2.2.2.2.2.2.1 r4.2.2.2.2.2.2.2.1 r4.2.2.2.2.2.2.2.2.1 r4.2.2.2.2.2.2.2.2.2.1 r4.2.2.2.2.2.2.2.2.2.2.1 r4.2.2.2.2.2.2.2.2.2.2.2.1 r4.2.2.2.2.2.2.2.2.2.2.2.2.1 r4.2.2.2.2.2.2.2.2.2.2.2.2.2.1 r4.2.2.2.2.2.2.2.2.2.2.2.2.2.2.1 r4.2.2.2.2.2.2.2.2.2.2.2.2.2.2.2.1 r4.2.2.2.2.2.2.2.2.2.2.2.2.2.2.2.2.1 r4.2.2.2.2.2.2.2.2.2.2.2.2.2.2.2.2.2 A98k12 v3k48 A99k48 = some X2 := hs2
                    unfold fX12_odds_S101 at hs2
                    refine lv_iload_n hx hb dX12_odds_101 rfl (lv_at hl 3 rfl) ?_
                    refine lv_aload_n hx hb dX12_odds_102 rfl (lv_at hl 0 rfl) ?_
                    refine gf12_27 hx hb hG hown hW (o := 69) (ltN hN 69 rfl) gk69 (v := .int r4.2.2.2.2.2.1) w_x69_27 gx713 dX12_odds_103 ?_
                    refine lv_icmp_ge (tgt := 120) hx hb dX12_odds_106 (by decide) (fun c60 => ?_) (fun c60 => ?_)
                    · rw [if_pos c60] at hs2
                      exact hE2_120 A99k48 (hXl2 _ (Option.some.inj hs2).symm) m a _ _ w_x69_18 w_x69_19 w_x69_20 w_x69_21 w_x69_22 w_x69_27 w_x69_35 hoff hsh w_A76 w_A77 w_A78 w_A79 w_A80 w_A81 w_A82 w_A83 w_A84 w_A85 w_A86 w_A98 w_A99 hoffa ls (lv_sub hl [0, 1, 2] rfl) hW hS
                    · rw [if_neg c60] at hs2
                      refine lv_aload_n hx hb dX12_odds_109 rfl (lv_at hl 0 rfl) ?_
                      refine lv_iload_n hx hb dX12_odds_110 rfl (lv_at hl 3 rfl) ?_
                      obtain ⟨r61, hf61, hs2⟩ := obind hs2
                      refine g_Vv (n := 1) hx hb hml hown hG hW hS [.int v3k48] (kX12_goesOn hN hsh w_A81 w_A82 w_A83 w_A98 w_A99 F v3k48 hf61) (ltN hN 69 rfl) gk69 (by decide) rfl rfl (gd_V gx966 gx967 gx968 gx5 gx969) rfl rfl (by decide) ⟨Nat.le_of_ble_eq_true rfl, Nat.le_of_ble_eq_true rfl⟩ rfl hl (Nat.le_of_ble_eq_true rfl) ⟨Nat.zero_le _, Nat.zero_le _⟩ dX12_odds_111 (fun m61 a61 H locs hp61 hW hS => ?_)
                      obtain ⟨hm61, hp61_A99, hoa61⟩ := hp61
                      rw [hm61] at hW
                      have w_A76 : a61 76 = (40, .inl r4.2.2.2.2.2.2.2.1) := (hoa61 76 rfl).trans w_A76
                      have w_A77 : a61 77 = (40, .inl r4.2.2.2.2.2.2.2.2.1) := (hoa61 77 rfl).trans w_A77
                      have w_A78 : a61 78 = (40, .inl r4.2.2.2.2.2.2.2.2.2.1) := (hoa61 78 rfl).trans w_A78
                      have w_A79 : a61 79 = (6001, .inr (.inl r4.2.2.2.2.2.2.2.2.2.2.1)) := (hoa61 79 rfl).trans w_A79
                      have w_A80 : a61 80 = (16384, .inl r4.2.2.2.2.2.2.2.2.2.2.2.1) := (hoa61 80 rfl).trans w_A80
                      have w_A81 : a61 81 = (6002, .inl r4.2.2.2.2.2.2.2.2.2.2.2.2.1) := (hoa61 81 rfl).trans w_A81
                      have w_A82 : a61 82 = (84000, .inl r4.2.2.2.2.2.2.2.2.2.2.2.2.2.1) := (hoa61 82 rfl).trans w_A82
                      have w_A83 : a61 83 = (84000, .inl r4.2.2.2.2.2.2.2.2.2.2.2.2.2.2.1) := (hoa61 83 rfl).trans w_A83
                      have w_A84 : a61 84 = (84000, .inl r4.2.2.2.2.2.2.2.2.2.2.2.2.2.2.2.1) := (hoa61 84 rfl).trans w_A84
                      have w_A85 : a61 85 = (84000, .inl r4.2.2.2.2.2.2.2.2.2.2.2.2.2.2.2.2.1) := (hoa61 85 rfl).trans w_A85
                      have w_A86 : a61 86 = (84000, .inl r4.2.2.2.2.2.2.2.2.2.2.2.2.2.2.2.2.2) := (hoa61 86 rfl).trans w_A86
                      have w_A98 : a61 98 = (6001, .inr (.inr (.inr (.inl A98k12)))) := (hoa61 98 rfl).trans w_A98
                      have w_A99 : a61 99 = (6001, .inr (.inr (.inr (.inl r61)))) := hp61_A99
                      have hoffa := offm hoffa hoa61 (by decide +kernel)
                      refine lv_iinc (v := v3k48 + 1) (lv' := [(3, .int (v3k48 + 1)), (0, .ref (q 69)), (1, .int p1), (2, .int v2k12)]) hx hb dX12_odds_114 hl (k := 3) rfl rfl (by decide) rfl (fun ls hl => ?_)
                      refine lv_goto (tgt := 101) hx hb dX12_odds_117 (by decide) ?_
                      exact ih2 (v3k48 + 1) r61 m a61 _ _ w_x69_18 w_x69_19 w_x69_20 w_x69_21 w_x69_22 w_x69_27 w_x69_35 hoff hsh w_A76 w_A77 w_A78 w_A79 w_A80 w_A81 w_A82 w_A83 w_A84 w_A85 w_A86 w_A98 w_A99 hoffa ls (lv_sub hl [1, 2, 3, 0] rfl) (hXr2 _ (Option.some.inj hs2).symm) hW hS
                exact hL2 F 0 t44_99 m a _ _ w_x69_18 w_x69_19 w_x69_20 w_x69_21 w_x69_22 w_x69_27 w_x69_35 hoff hsh w_A76 w_A77 w_A78 w_A79 w_A80 w_A81 w_A82 w_A83 w_A84 w_A85 w_A86 w_A98 w_A99 hoffa ls (lv_sub hl [1, 2, 3, 0] rfl) hg48 hW hS
              have hL2 : ∀ (n : Nat) (v3k44 : Int32) (A99k44 : Nat → UInt64) (m : Nat → Value) (a : Nat → vp_A) (H : Heap) (locs : List Loc) (w_x69_18 : m 6918 = .int 0) (w_x69_19 : m 6919 = .long r4.2.1) (w_x69_20 : m 6920 = .int r4.2.2.1) (w_x69_21 : m 6921 = .int r4.2.2.2.1) (w_x69_22 : m 6922 = .int r4.2.2.2.2.1) (w_x69_27 : m 6927 = .int r4.2.2.2.2.2.1) (w_x69_35 : m 6935 = .int r4.2.2.2.2.2.2.1) (hoff : ∀ j, nel j [6918, 6919, 6920, 6921, 6922, 6927, 6935] = false → m j = m0 j) (hsh : SH q m) (w_A76 : a 76 = (40, .inl r4.2.2.2.2.2.2.2.1)) (w_A77 : a 77 = (40, .inl r4.2.2.2.2.2.2.2.2.1)) (w_A78 : a 78 = (40, .inl r4.2.2.2.2.2.2.2.2.2.1)) (w_A79 : a 79 = (6001, .inr (.inl r4.2.2.2.2.2.2.2.2.2.2.1))) (w_A80 : a 80 = (16384, .inl r4.2.2.2.2.2.2.2.2.2.2.2.1)) (w_A81 : a 81 = (6002, .inl r4.2.2.2.2.2.2.2.2.2.2.2.2.1)) (w_A82 : a 82 = (84000, .inl r4.2.2.2.2.2.2.2.2.2.2.2.2.2.1)) (w_A83 : a 83 = (84000, .inl r4.2.2.2.2.2.2.2.2.2.2.2.2.2.2.1)) (w_A84 : a 84 = (84000, .inl r4.2.2.2.2.2.2.2.2.2.2.2.2.2.2.2.1)) (w_A85 : a 85 = (84000, .inl r4.2.2.2.2.2.2.2.2.2.2.2.2.2.2.2.2.1)) (w_A86 : a 86 = (84000, .inl r4.2.2.2.2.2.2.2.2.2.2.2.2.2.2.2.2.2)) (w_A98 : a 98 = (6001, .inr (.inr (.inr (.inl A98k12))))) (w_A99 : a 99 = (6001, .inr (.inr (.inr (.inl A99k44))))) (hoffa : ∀ j, nel j [76, 77, 78, 79, 80, 81, 82, 83, 84, 85, 86, 98, 99] = false → a j = a0 j) (ls : Array Slot) (hl : lv_has ls 5 [(0, .ref (q 69)), (1, .int p1), (2, .int v2k12), (3, .int v3k44)]) (hg44 : gloop (fun u44 : (Int32 × (Nat → UInt64)) => fX12_odds_S78 F x69_0 x69_1 x69_2 x69_3 x69_4 p1 v2k12 0 r4.2.1 r4.2.2.1 r4.2.2.2.1 r4.2.2.2.2.1 r4.2.2.2.2.2.1 r4.2.2.2.2.2.2.1 r4.2.2.2.2.2.2.2.1 r4.2.2.2.2.2.2.2.2.1 r4.2.2.2.2.2.2.2.2.2.1 r4.2.2.2.2.2.2.2.2.2.2.1 r4.2.2.2.2.2.2.2.2.2.2.2.1 r4.2.2.2.2.2.2.2.2.2.2.2.2.1 r4.2.2.2.2.2.2.2.2.2.2.2.2.2.1 r4.2.2.2.2.2.2.2.2.2.2.2.2.2.2.1 r4.2.2.2.2.2.2.2.2.2.2.2.2.2.2.2.1 r4.2.2.2.2.2.2.2.2.2.2.2.2.2.2.2.2.1 r4.2.2.2.2.2.2.2.2.2.2.2.2.2.2.2.2.2 A98k12 u44.1 u44.2) n (v3k44, A99k44) = some r44) (hW : GW D cy (gA N q s.heap.size) N q m a s H) (hS : va_S (gA N q s.heap.size) s.heap H locs), W p l e ({ frames := 8, cells := 0, slots := 0, locals := 188 } : Room) s M args below meth c H locs 0 0 (MQ below (va_Ql (fun (r : Int64) (u : (Nat → Value) × (Nat → vp_A)) => r = X0.1 ∧ u.1 6918 = .int X0.2.1 ∧ u.1 6919 = .long X0.2.2.1 ∧ u.1 6920 = .int X0.2.2.2.1 ∧ u.1 6921 = .int X0.2.2.2.2.1 ∧ u.1 6922 = .int X0.2.2.2.2.2.1 ∧ u.1 6927 = .int X0.2.2.2.2.2.2.1 ∧ u.1 6935 = .int X0.2.2.2.2.2.2.2.1 ∧ (∀ j, nel j [6918, 6919, 6920, 6921, 6922, 6927, 6935] = false → u.1 j = m0 j) ∧ u.2 76 = (40, .inl X0.2.2.2.2.2.2.2.2.1) ∧ u.2 77 = (40, .inl X0.2.2.2.2.2.2.2.2.2.1) ∧ u.2 78 = (40, .inl X0.2.2.2.2.2.2.2.2.2.2.1) ∧ u.2 79 = (6001, .inr (.inl X0.2.2.2.2.2.2.2.2.2.2.2.1)) ∧ u.2 80 = (16384, .inl X0.2.2.2.2.2.2.2.2.2.2.2.2.1) ∧ u.2 81 = (6002, .inl X0.2.2.2.2.2.2.2.2.2.2.2.2.2.1) ∧ u.2 82 = (84000, .inl X0.2.2.2.2.2.2.2.2.2.2.2.2.2.2.1) ∧ u.2 83 = (84000, .inl X0.2.2.2.2.2.2.2.2.2.2.2.2.2.2.2.1) ∧ u.2 84 = (84000, .inl X0.2.2.2.2.2.2.2.2.2.2.2.2.2.2.2.2.1) ∧ u.2 85 = (84000, .inl X0.2.2.2.2.2.2.2.2.2.2.2.2.2.2.2.2.2.1) ∧ u.2 86 = (84000, .inl X0.2.2.2.2.2.2.2.2.2.2.2.2.2.2.2.2.2.2.1) ∧ u.2 98 = (6001, .inr (.inr (.inr (.inl X0.2.2.2.2.2.2.2.2.2.2.2.2.2.2.2.2.2.2.2.1)))) ∧ u.2 99 = (6001, .inr (.inr (.inr (.inl X0.2.2.2.2.2.2.2.2.2.2.2.2.2.2.2.2.2.2.2.2)))) ∧ (∀ j, nel j [76, 77, 78, 79, 80, 81, 82, 83, 84, 85, 86, 98, 99] = false → u.2 j = a0 j)) (gB D cy N q s.heap.size) (gA N q s.heap.size)) args s 0 0 (gA N q s.heap.size)) (F0 M 78 ls []) := by
                intro n
                induction n with
                | zero => intro v3k44 A99k44 m a H locs w_x69_18 w_x69_19 w_x69_20 w_x69_21 w_x69_22 w_x69_27 w_x69_35 hoff hsh w_A76 w_A77 w_A78 w_A79 w_A80 w_A81 w_A82 w_A83 w_A84 w_A85 w_A86 w_A98 w_A99 hoffa ls hl hg44 hW hS; exact (gl_zero hg44).elim
                | succ n ih2 =>
                  intro v3k44 A99k44 m a H locs w_x69_18 w_x69_19 w_x69_20 w_x69_21 w_x69_22 w_x69_27 w_x69_35 hoff hsh w_A76 w_A77 w_A78 w_A79 w_A80 w_A81 w_A82 w_A83 w_A84 w_A85 w_A86 w_A98 w_A99 hoffa ls hl hg44 hW hS
                  obtain ⟨X2, hs2, hXl2, hXr2⟩ := gl_succ hg44
                  have hs2 : fX12_odds_S78 F x69_0 x69_1 x69_2 x69_3 x69_4 p1 v2k12 0 r4.2.1 r4.2.2.1 r4.2.2.2.1 r4.2.2.2.2.1 r4.2.2.2.2.2.1 r4.2.2.2.2.2.2.1 r4.2.2.2.2.2.2.2.1 r4.2.2.2.2.2.2.2.2.1 r4.2.2.2.2.2.2.2.2.2.1 r4.2.2.2.2.2.2.2.2.2.2.1 r4.2.2.2.2.2.2.2.2.2.2.2.1 r4.2.2.2.2.2.2.2.2.2.2.2.2.1 r4.2.2.2.2.2.2.2.2.2.2.2.2.2.1 r4.2.2.2.2.2.2.2.2.2.2.2.2.2.2.1 r4.2.2.2.2.2.2.2.2.2.2.2.2.2.2.2.1 r4.2.2.2.2.2.2.2.2.2.2.2.2.2.2.2.2.1 r4.2.2.2.2.2.2.2.2.2.2.2.2.2.2.2.2.2 A98k12 v3k44 A99k44 = some X2 := hs2
                  unfold fX12_odds_S78 at hs2
                  refine lv_iload_n hx hb dX12_odds_78 rfl (lv_at hl 3 rfl) ?_
                  refine lv_aload_n hx hb dX12_odds_79 rfl (lv_at hl 0 rfl) ?_
                  refine gf12_27 hx hb hG hown hW (o := 69) (ltN hN 69 rfl) gk69 (v := .int r4.2.2.2.2.2.1) w_x69_27 gx713 dX12_odds_80 ?_
                  refine lv_icmp_ge (tgt := 99) hx hb dX12_odds_83 (by decide) (fun c62 => ?_) (fun c62 => ?_)
                  · rw [if_pos c62] at hs2
                    exact hE2_99 A99k44 (hXl2 _ (Option.some.inj hs2).symm) m a _ _ w_x69_18 w_x69_19 w_x69_20 w_x69_21 w_x69_22 w_x69_27 w_x69_35 hoff hsh w_A76 w_A77 w_A78 w_A79 w_A80 w_A81 w_A82 w_A83 w_A84 w_A85 w_A86 w_A98 w_A99 hoffa ls (lv_sub hl [0, 1, 2] rfl) hW hS
                  · rw [if_neg c62] at hs2
                    refine lv_aload_n hx hb dX12_odds_86 rfl (lv_at hl 0 rfl) ?_
                    refine gf12_51 hx hb hG hown hW (o := 69) (ltN hN 69 rfl) gk69 (v := .ref (q 99)) (sh69_51 hsh) gx197 dX12_odds_87 ?_
                    refine lv_iload_n hx hb dX12_odds_90 rfl (lv_at hl 3 rfl) ?_
                    refine lv_dconst0 hx hb dX12_odds_91 ?_
                    obtain ⟨hi63, hs2⟩ := oif hs2
                    refine g_dast hx hb hW hS (o := 99) (ltN hN 99 rfl) gk99 w_A99 (vin hi63) dX12_odds_92 (fun a64 H locs ha64 ho64 hW hS => ?_)
                    have ho64 := off1 ho64
                    have w_A76 : a64 76 = (40, .inl r4.2.2.2.2.2.2.2.1) := (ho64 76 rfl).trans w_A76
                    have w_A77 : a64 77 = (40, .inl r4.2.2.2.2.2.2.2.2.1) := (ho64 77 rfl).trans w_A77
                    have w_A78 : a64 78 = (40, .inl r4.2.2.2.2.2.2.2.2.2.1) := (ho64 78 rfl).trans w_A78
                    have w_A79 : a64 79 = (6001, .inr (.inl r4.2.2.2.2.2.2.2.2.2.2.1)) := (ho64 79 rfl).trans w_A79
                    have w_A80 : a64 80 = (16384, .inl r4.2.2.2.2.2.2.2.2.2.2.2.1) := (ho64 80 rfl).trans w_A80
                    have w_A81 : a64 81 = (6002, .inl r4.2.2.2.2.2.2.2.2.2.2.2.2.1) := (ho64 81 rfl).trans w_A81
                    have w_A82 : a64 82 = (84000, .inl r4.2.2.2.2.2.2.2.2.2.2.2.2.2.1) := (ho64 82 rfl).trans w_A82
                    have w_A83 : a64 83 = (84000, .inl r4.2.2.2.2.2.2.2.2.2.2.2.2.2.2.1) := (ho64 83 rfl).trans w_A83
                    have w_A84 : a64 84 = (84000, .inl r4.2.2.2.2.2.2.2.2.2.2.2.2.2.2.2.1) := (ho64 84 rfl).trans w_A84
                    have w_A85 : a64 85 = (84000, .inl r4.2.2.2.2.2.2.2.2.2.2.2.2.2.2.2.2.1) := (ho64 85 rfl).trans w_A85
                    have w_A86 : a64 86 = (84000, .inl r4.2.2.2.2.2.2.2.2.2.2.2.2.2.2.2.2.2) := (ho64 86 rfl).trans w_A86
                    have w_A98 : a64 98 = (6001, .inr (.inr (.inr (.inl A98k12)))) := (ho64 98 rfl).trans w_A98
                    have w_A99 : a64 99 = (6001, .inr (.inr (.inr (.inl (vf_upd A99k44 v3k44.toNatClampNeg FP.dconst0))))) := ha64
                    have hoffa := offm hoffa ho64 (by decide +kernel)
                    refine lv_iinc (v := v3k44 + 1) (lv' := [(3, .int (v3k44 + 1)), (0, .ref (q 69)), (1, .int p1), (2, .int v2k12)]) hx hb dX12_odds_93 hl (k := 3) rfl rfl (by decide) rfl (fun ls hl => ?_)
                    refine lv_goto (tgt := 78) hx hb dX12_odds_96 (by decide) ?_
                    exact ih2 (v3k44 + 1) (vf_upd A99k44 v3k44.toNatClampNeg FP.dconst0) m a64 _ _ w_x69_18 w_x69_19 w_x69_20 w_x69_21 w_x69_22 w_x69_27 w_x69_35 hoff hsh w_A76 w_A77 w_A78 w_A79 w_A80 w_A81 w_A82 w_A83 w_A84 w_A85 w_A86 w_A98 w_A99 hoffa ls (lv_sub hl [1, 2, 3, 0] rfl) (hXr2 _ (Option.some.inj hs2).symm) hW hS
              exact hL2 F 0 A99k12 m a _ _ w_x69_18 w_x69_19 w_x69_20 w_x69_21 w_x69_22 w_x69_27 w_x69_35 hoff hsh w_A76 w_A77 w_A78 w_A79 w_A80 w_A81 w_A82 w_A83 w_A84 w_A85 w_A86 w_A98 w_A99 hoffa ls (lv_sub hl [1, 2, 3, 0] rfl) hg44 hW hS
        exact hL1 F 0 t6_69 A99 m a _ _ w_x69_18 w_x69_19 w_x69_20 w_x69_21 w_x69_22 w_x69_27 w_x69_35 hoff hsh w_A76 w_A77 w_A78 w_A79 w_A80 w_A81 w_A82 w_A83 w_A84 w_A85 w_A86 w_A98 w_A99 hoffa ls (lv_sub hl [1, 2, 0] rfl) hg12 hW hS
      have hL1 : ∀ (n : Nat) (v2k6 : Int32) (A98k6 : Nat → UInt64) (m : Nat → Value) (a : Nat → vp_A) (H : Heap) (locs : List Loc) (w_x69_18 : m 6918 = .int 0) (w_x69_19 : m 6919 = .long r4.2.1) (w_x69_20 : m 6920 = .int r4.2.2.1) (w_x69_21 : m 6921 = .int r4.2.2.2.1) (w_x69_22 : m 6922 = .int r4.2.2.2.2.1) (w_x69_27 : m 6927 = .int r4.2.2.2.2.2.1) (w_x69_35 : m 6935 = .int r4.2.2.2.2.2.2.1) (hoff : ∀ j, nel j [6918, 6919, 6920, 6921, 6922, 6927, 6935] = false → m j = m0 j) (hsh : SH q m) (w_A76 : a 76 = (40, .inl r4.2.2.2.2.2.2.2.1)) (w_A77 : a 77 = (40, .inl r4.2.2.2.2.2.2.2.2.1)) (w_A78 : a 78 = (40, .inl r4.2.2.2.2.2.2.2.2.2.1)) (w_A79 : a 79 = (6001, .inr (.inl r4.2.2.2.2.2.2.2.2.2.2.1))) (w_A80 : a 80 = (16384, .inl r4.2.2.2.2.2.2.2.2.2.2.2.1)) (w_A81 : a 81 = (6002, .inl r4.2.2.2.2.2.2.2.2.2.2.2.2.1)) (w_A82 : a 82 = (84000, .inl r4.2.2.2.2.2.2.2.2.2.2.2.2.2.1)) (w_A83 : a 83 = (84000, .inl r4.2.2.2.2.2.2.2.2.2.2.2.2.2.2.1)) (w_A84 : a 84 = (84000, .inl r4.2.2.2.2.2.2.2.2.2.2.2.2.2.2.2.1)) (w_A85 : a 85 = (84000, .inl r4.2.2.2.2.2.2.2.2.2.2.2.2.2.2.2.2.1)) (w_A86 : a 86 = (84000, .inl r4.2.2.2.2.2.2.2.2.2.2.2.2.2.2.2.2.2)) (w_A98 : a 98 = (6001, .inr (.inr (.inr (.inl A98k6))))) (w_A99 : a 99 = (6001, .inr (.inr (.inr (.inl A99))))) (hoffa : ∀ j, nel j [76, 77, 78, 79, 80, 81, 82, 83, 84, 85, 86, 98, 99] = false → a j = a0 j) (ls : Array Slot) (hl : lv_has ls 5 [(0, .ref (q 69)), (1, .int p1), (2, .int v2k6)]) (hg6 : gloop (fun u6 : (Int32 × (Nat → UInt64)) => fX12_odds_S40 F x69_0 x69_1 x69_2 x69_3 x69_4 p1 0 r4.2.1 r4.2.2.1 r4.2.2.2.1 r4.2.2.2.2.1 r4.2.2.2.2.2.1 r4.2.2.2.2.2.2.1 r4.2.2.2.2.2.2.2.1 r4.2.2.2.2.2.2.2.2.1 r4.2.2.2.2.2.2.2.2.2.1 r4.2.2.2.2.2.2.2.2.2.2.1 r4.2.2.2.2.2.2.2.2.2.2.2.1 r4.2.2.2.2.2.2.2.2.2.2.2.2.1 r4.2.2.2.2.2.2.2.2.2.2.2.2.2.1 r4.2.2.2.2.2.2.2.2.2.2.2.2.2.2.1 r4.2.2.2.2.2.2.2.2.2.2.2.2.2.2.2.1 r4.2.2.2.2.2.2.2.2.2.2.2.2.2.2.2.2.1 r4.2.2.2.2.2.2.2.2.2.2.2.2.2.2.2.2.2 A99 u6.1 u6.2) n (v2k6, A98k6) = some r6) (hW : GW D cy (gA N q s.heap.size) N q m a s H) (hS : va_S (gA N q s.heap.size) s.heap H locs), W p l e ({ frames := 8, cells := 0, slots := 0, locals := 188 } : Room) s M args below meth c H locs 0 0 (MQ below (va_Ql (fun (r : Int64) (u : (Nat → Value) × (Nat → vp_A)) => r = X0.1 ∧ u.1 6918 = .int X0.2.1 ∧ u.1 6919 = .long X0.2.2.1 ∧ u.1 6920 = .int X0.2.2.2.1 ∧ u.1 6921 = .int X0.2.2.2.2.1 ∧ u.1 6922 = .int X0.2.2.2.2.2.1 ∧ u.1 6927 = .int X0.2.2.2.2.2.2.1 ∧ u.1 6935 = .int X0.2.2.2.2.2.2.2.1 ∧ (∀ j, nel j [6918, 6919, 6920, 6921, 6922, 6927, 6935] = false → u.1 j = m0 j) ∧ u.2 76 = (40, .inl X0.2.2.2.2.2.2.2.2.1) ∧ u.2 77 = (40, .inl X0.2.2.2.2.2.2.2.2.2.1) ∧ u.2 78 = (40, .inl X0.2.2.2.2.2.2.2.2.2.2.1) ∧ u.2 79 = (6001, .inr (.inl X0.2.2.2.2.2.2.2.2.2.2.2.1)) ∧ u.2 80 = (16384, .inl X0.2.2.2.2.2.2.2.2.2.2.2.2.1) ∧ u.2 81 = (6002, .inl X0.2.2.2.2.2.2.2.2.2.2.2.2.2.1) ∧ u.2 82 = (84000, .inl X0.2.2.2.2.2.2.2.2.2.2.2.2.2.2.1) ∧ u.2 83 = (84000, .inl X0.2.2.2.2.2.2.2.2.2.2.2.2.2.2.2.1) ∧ u.2 84 = (84000, .inl X0.2.2.2.2.2.2.2.2.2.2.2.2.2.2.2.2.1) ∧ u.2 85 = (84000, .inl X0.2.2.2.2.2.2.2.2.2.2.2.2.2.2.2.2.2.1) ∧ u.2 86 = (84000, .inl X0.2.2.2.2.2.2.2.2.2.2.2.2.2.2.2.2.2.2.1) ∧ u.2 98 = (6001, .inr (.inr (.inr (.inl X0.2.2.2.2.2.2.2.2.2.2.2.2.2.2.2.2.2.2.2.1)))) ∧ u.2 99 = (6001, .inr (.inr (.inr (.inl X0.2.2.2.2.2.2.2.2.2.2.2.2.2.2.2.2.2.2.2.2)))) ∧ (∀ j, nel j [76, 77, 78, 79, 80, 81, 82, 83, 84, 85, 86, 98, 99] = false → u.2 j = a0 j)) (gB D cy N q s.heap.size) (gA N q s.heap.size)) args s 0 0 (gA N q s.heap.size)) (F0 M 40 ls []) := by
        intro n
        induction n with
        | zero => intro v2k6 A98k6 m a H locs w_x69_18 w_x69_19 w_x69_20 w_x69_21 w_x69_22 w_x69_27 w_x69_35 hoff hsh w_A76 w_A77 w_A78 w_A79 w_A80 w_A81 w_A82 w_A83 w_A84 w_A85 w_A86 w_A98 w_A99 hoffa ls hl hg6 hW hS; exact (gl_zero hg6).elim
        | succ n ih1 =>
          intro v2k6 A98k6 m a H locs w_x69_18 w_x69_19 w_x69_20 w_x69_21 w_x69_22 w_x69_27 w_x69_35 hoff hsh w_A76 w_A77 w_A78 w_A79 w_A80 w_A81 w_A82 w_A83 w_A84 w_A85 w_A86 w_A98 w_A99 hoffa ls hl hg6 hW hS
          obtain ⟨X1, hs1, hXl1, hXr1⟩ := gl_succ hg6
          have hs1 : fX12_odds_S40 F x69_0 x69_1 x69_2 x69_3 x69_4 p1 0 r4.2.1 r4.2.2.1 r4.2.2.2.1 r4.2.2.2.2.1 r4.2.2.2.2.2.1 r4.2.2.2.2.2.2.1 r4.2.2.2.2.2.2.2.1 r4.2.2.2.2.2.2.2.2.1 r4.2.2.2.2.2.2.2.2.2.1 r4.2.2.2.2.2.2.2.2.2.2.1 r4.2.2.2.2.2.2.2.2.2.2.2.1 r4.2.2.2.2.2.2.2.2.2.2.2.2.1 r4.2.2.2.2.2.2.2.2.2.2.2.2.2.1 r4.2.2.2.2.2.2.2.2.2.2.2.2.2.2.1 r4.2.2.2.2.2.2.2.2.2.2.2.2.2.2.2.1 r4.2.2.2.2.2.2.2.2.2.2.2.2.2.2.2.2.1 r4.2.2.2.2.2.2.2.2.2.2.2.2.2.2.2.2.2 A99 v2k6 A98k6 = some X1 := hs1
          unfold fX12_odds_S40 at hs1
          have hJ62_1 : ∀ (v2j67 : Int32) (s0j67 : UInt64) (s1j67 : Int32) (A98j67 : Nat → UInt64) (m : Nat → Value) (a : Nat → vp_A) (H : Heap) (locs : List Loc) (w_x69_18 : m 6918 = .int 0) (w_x69_19 : m 6919 = .long r4.2.1) (w_x69_20 : m 6920 = .int r4.2.2.1) (w_x69_21 : m 6921 = .int r4.2.2.2.1) (w_x69_22 : m 6922 = .int r4.2.2.2.2.1) (w_x69_27 : m 6927 = .int r4.2.2.2.2.2.1) (w_x69_35 : m 6935 = .int r4.2.2.2.2.2.2.1) (hoff : ∀ j, nel j [6918, 6919, 6920, 6921, 6922, 6927, 6935] = false → m j = m0 j) (hsh : SH q m) (w_A76 : a 76 = (40, .inl r4.2.2.2.2.2.2.2.1)) (w_A77 : a 77 = (40, .inl r4.2.2.2.2.2.2.2.2.1)) (w_A78 : a 78 = (40, .inl r4.2.2.2.2.2.2.2.2.2.1)) (w_A79 : a 79 = (6001, .inr (.inl r4.2.2.2.2.2.2.2.2.2.2.1))) (w_A80 : a 80 = (16384, .inl r4.2.2.2.2.2.2.2.2.2.2.2.1)) (w_A81 : a 81 = (6002, .inl r4.2.2.2.2.2.2.2.2.2.2.2.2.1)) (w_A82 : a 82 = (84000, .inl r4.2.2.2.2.2.2.2.2.2.2.2.2.2.1)) (w_A83 : a 83 = (84000, .inl r4.2.2.2.2.2.2.2.2.2.2.2.2.2.2.1)) (w_A84 : a 84 = (84000, .inl r4.2.2.2.2.2.2.2.2.2.2.2.2.2.2.2.1)) (w_A85 : a 85 = (84000, .inl r4.2.2.2.2.2.2.2.2.2.2.2.2.2.2.2.2.1)) (w_A86 : a 86 = (84000, .inl r4.2.2.2.2.2.2.2.2.2.2.2.2.2.2.2.2.2)) (w_A98 : a 98 = (6001, .inr (.inr (.inr (.inl A98j67))))) (w_A99 : a 99 = (6001, .inr (.inr (.inr (.inl A99))))) (hoffa : ∀ j, nel j [76, 77, 78, 79, 80, 81, 82, 83, 84, 85, 86, 98, 99] = false → a j = a0 j) (ls : Array Slot) (hl : lv_has ls 5 [(0, .ref (q 69)), (1, .int p1), (2, .int v2j67)]) (hs1 : fX12_odds_J62 F x69_0 x69_1 x69_2 x69_3 x69_4 p1 v2j67 s0j67 s1j67 0 r4.2.1 r4.2.2.1 r4.2.2.2.1 r4.2.2.2.2.1 r4.2.2.2.2.2.1 r4.2.2.2.2.2.2.1 r4.2.2.2.2.2.2.2.1 r4.2.2.2.2.2.2.2.2.1 r4.2.2.2.2.2.2.2.2.2.1 r4.2.2.2.2.2.2.2.2.2.2.1 r4.2.2.2.2.2.2.2.2.2.2.2.1 r4.2.2.2.2.2.2.2.2.2.2.2.2.1 r4.2.2.2.2.2.2.2.2.2.2.2.2.2.1 r4.2.2.2.2.2.2.2.2.2.2.2.2.2.2.1 r4.2.2.2.2.2.2.2.2.2.2.2.2.2.2.2.1 r4.2.2.2.2.2.2.2.2.2.2.2.2.2.2.2.2.1 r4.2.2.2.2.2.2.2.2.2.2.2.2.2.2.2.2.2 A98j67 A99 = some X1) (hW : GW D cy (gA N q s.heap.size) N q m a s H) (hS : va_S (gA N q s.heap.size) s.heap H locs), W p l e ({ frames := 8, cells := 0, slots := 0, locals := 188 } : Room) s M args below meth c H locs 0 0 (MQ below (va_Ql (fun (r : Int64) (u : (Nat → Value) × (Nat → vp_A)) => r = X0.1 ∧ u.1 6918 = .int X0.2.1 ∧ u.1 6919 = .long X0.2.2.1 ∧ u.1 6920 = .int X0.2.2.2.1 ∧ u.1 6921 = .int X0.2.2.2.2.1 ∧ u.1 6922 = .int X0.2.2.2.2.2.1 ∧ u.1 6927 = .int X0.2.2.2.2.2.2.1 ∧ u.1 6935 = .int X0.2.2.2.2.2.2.2.1 ∧ (∀ j, nel j [6918, 6919, 6920, 6921, 6922, 6927, 6935] = false → u.1 j = m0 j) ∧ u.2 76 = (40, .inl X0.2.2.2.2.2.2.2.2.1) ∧ u.2 77 = (40, .inl X0.2.2.2.2.2.2.2.2.2.1) ∧ u.2 78 = (40, .inl X0.2.2.2.2.2.2.2.2.2.2.1) ∧ u.2 79 = (6001, .inr (.inl X0.2.2.2.2.2.2.2.2.2.2.2.1)) ∧ u.2 80 = (16384, .inl X0.2.2.2.2.2.2.2.2.2.2.2.2.1) ∧ u.2 81 = (6002, .inl X0.2.2.2.2.2.2.2.2.2.2.2.2.2.1) ∧ u.2 82 = (84000, .inl X0.2.2.2.2.2.2.2.2.2.2.2.2.2.2.1) ∧ u.2 83 = (84000, .inl X0.2.2.2.2.2.2.2.2.2.2.2.2.2.2.2.1) ∧ u.2 84 = (84000, .inl X0.2.2.2.2.2.2.2.2.2.2.2.2.2.2.2.2.1) ∧ u.2 85 = (84000, .inl X0.2.2.2.2.2.2.2.2.2.2.2.2.2.2.2.2.2.1) ∧ u.2 86 = (84000, .inl X0.2.2.2.2.2.2.2.2.2.2.2.2.2.2.2.2.2.2.1) ∧ u.2 98 = (6001, .inr (.inr (.inr (.inl X0.2.2.2.2.2.2.2.2.2.2.2.2.2.2.2.2.2.2.2.1)))) ∧ u.2 99 = (6001, .inr (.inr (.inr (.inl X0.2.2.2.2.2.2.2.2.2.2.2.2.2.2.2.2.2.2.2.2)))) ∧ (∀ j, nel j [76, 77, 78, 79, 80, 81, 82, 83, 84, 85, 86, 98, 99] = false → u.2 j = a0 j)) (gB D cy N q s.heap.size) (gA N q s.heap.size)) args s 0 0 (gA N q s.heap.size)) (F0 M 62 ls [.double s0j67, .int s1j67, .ref (q 98)]) := by
            intro v2j67 s0j67 s1j67 A98j67 m a H locs w_x69_18 w_x69_19 w_x69_20 w_x69_21 w_x69_22 w_x69_27 w_x69_35 hoff hsh w_A76 w_A77 w_A78 w_A79 w_A80 w_A81 w_A82 w_A83 w_A84 w_A85 w_A86 w_A98 w_A99 hoffa ls hl hs1 hW hS
            unfold fX12_odds_J62 at hs1
            obtain ⟨hi68, hs1⟩ := oif hs1
            refine g_dast hx hb hW hS (o := 98) (ltN hN 98 rfl) gk98 w_A98 (vin hi68) dX12_odds_62 (fun a69 H locs ha69 ho69 hW hS => ?_)
            have ho69 := off1 ho69
            have w_A76 : a69 76 = (40, .inl r4.2.2.2.2.2.2.2.1) := (ho69 76 rfl).trans w_A76
            have w_A77 : a69 77 = (40, .inl r4.2.2.2.2.2.2.2.2.1) := (ho69 77 rfl).trans w_A77
            have w_A78 : a69 78 = (40, .inl r4.2.2.2.2.2.2.2.2.2.1) := (ho69 78 rfl).trans w_A78
            have w_A79 : a69 79 = (6001, .inr (.inl r4.2.2.2.2.2.2.2.2.2.2.1)) := (ho69 79 rfl).trans w_A79
            have w_A80 : a69 80 = (16384, .inl r4.2.2.2.2.2.2.2.2.2.2.2.1) := (ho69 80 rfl).trans w_A80
            have w_A81 : a69 81 = (6002, .inl r4.2.2.2.2.2.2.2.2.2.2.2.2.1) := (ho69 81 rfl).trans w_A81
            have w_A82 : a69 82 = (84000, .inl r4.2.2.2.2.2.2.2.2.2.2.2.2.2.1) := (ho69 82 rfl).trans w_A82
            have w_A83 : a69 83 = (84000, .inl r4.2.2.2.2.2.2.2.2.2.2.2.2.2.2.1) := (ho69 83 rfl).trans w_A83
            have w_A84 : a69 84 = (84000, .inl r4.2.2.2.2.2.2.2.2.2.2.2.2.2.2.2.1) := (ho69 84 rfl).trans w_A84
            have w_A85 : a69 85 = (84000, .inl r4.2.2.2.2.2.2.2.2.2.2.2.2.2.2.2.2.1) := (ho69 85 rfl).trans w_A85
            have w_A86 : a69 86 = (84000, .inl r4.2.2.2.2.2.2.2.2.2.2.2.2.2.2.2.2.2) := (ho69 86 rfl).trans w_A86
            have w_A98 : a69 98 = (6001, .inr (.inr (.inr (.inl (vf_upd A98j67 s1j67.toNatClampNeg s0j67))))) := ha69
            have w_A99 : a69 99 = (6001, .inr (.inr (.inr (.inl A99)))) := (ho69 99 rfl).trans w_A99
            have hoffa := offm hoffa ho69 (by decide +kernel)
            refine lv_iinc (v := v2j67 + 1) (lv' := [(2, .int (v2j67 + 1)), (0, .ref (q 69)), (1, .int p1)]) hx hb dX12_odds_63 hl (k := 2) rfl rfl (by decide) rfl (fun ls hl => ?_)
            refine lv_goto (tgt := 40) hx hb dX12_odds_66 (by decide) ?_
            exact ih1 (v2j67 + 1) (vf_upd A98j67 s1j67.toNatClampNeg s0j67) m a69 _ _ w_x69_18 w_x69_19 w_x69_20 w_x69_21 w_x69_22 w_x69_27 w_x69_35 hoff hsh w_A76 w_A77 w_A78 w_A79 w_A80 w_A81 w_A82 w_A83 w_A84 w_A85 w_A86 w_A98 w_A99 hoffa ls (lv_sub hl [1, 2, 0] rfl) (hXr1 _ (Option.some.inj hs1).symm) hW hS
          refine lv_iload_n hx hb dX12_odds_40 rfl (lv_at hl 2 rfl) ?_
          refine lv_aload_n hx hb dX12_odds_41 rfl (lv_at hl 0 rfl) ?_
          refine gf12_27 hx hb hG hown hW (o := 69) (ltN hN 69 rfl) gk69 (v := .int r4.2.2.2.2.2.1) w_x69_27 gx713 dX12_odds_42 ?_
          refine lv_icmp_ge (tgt := 69) hx hb dX12_odds_45 (by decide) (fun c65 => ?_) (fun c65 => ?_)
          · rw [if_pos c65] at hs1
            exact hE1_69 A98k6 (hXl1 _ (Option.some.inj hs1).symm) m a _ _ w_x69_18 w_x69_19 w_x69_20 w_x69_21 w_x69_22 w_x69_27 w_x69_35 hoff hsh w_A76 w_A77 w_A78 w_A79 w_A80 w_A81 w_A82 w_A83 w_A84 w_A85 w_A86 w_A98 w_A99 hoffa ls (lv_sub hl [0, 1] rfl) hW hS
          · rw [if_neg c65] at hs1
            refine lv_aload_n hx hb dX12_odds_48 rfl (lv_at hl 0 rfl) ?_
            refine gf12_50 hx hb hG hown hW (o := 69) (ltN hN 69 rfl) gk69 (v := .ref (q 98)) (sh69_50 hsh) gx196 dX12_odds_49 ?_
            refine lv_iload_n hx hb dX12_odds_52 rfl (lv_at hl 2 rfl) ?_
            refine lv_iload_n hx hb dX12_odds_53 rfl (lv_at hl 2 rfl) ?_
            refine lv_if_ne (tgt := 61) hx hb dX12_odds_54 (by decide) (fun c66 => ?_) (fun c66 => ?_)
            · rw [if_neg c66] at hs1
              refine lv_dconst0 hx hb dX12_odds_61 ?_
              exact hJ62_1 v2k6 FP.dconst0 v2k6 A98k6 m a _ _ w_x69_18 w_x69_19 w_x69_20 w_x69_21 w_x69_22 w_x69_27 w_x69_35 hoff hsh w_A76 w_A77 w_A78 w_A79 w_A80 w_A81 w_A82 w_A83 w_A84 w_A85 w_A86 w_A98 w_A99 hoffa ls (lv_sub hl [0, 1, 2] rfl) hs1 hW hS
            · rw [if_pos c66] at hs1
              refine lv_dconst1 hx hb dX12_odds_57 ?_
              refine lv_goto (tgt := 62) hx hb dX12_odds_58 (by decide) ?_
              exact hJ62_1 v2k6 FP.dconst1 v2k6 A98k6 m a _ _ w_x69_18 w_x69_19 w_x69_20 w_x69_21 w_x69_22 w_x69_27 w_x69_35 hoff hsh w_A76 w_A77 w_A78 w_A79 w_A80 w_A81 w_A82 w_A83 w_A84 w_A85 w_A86 w_A98 w_A99 hoffa ls (lv_sub hl [0, 1, 2] rfl) hs1 hW hS
      exact hL1 F 0 A98 m4 a4 _ _ w_x69_18 w_x69_19 w_x69_20 w_x69_21 w_x69_22 w_x69_27 w_x69_35 hoff hsh w_A76 w_A77 w_A78 w_A79 w_A80 w_A81 w_A82 w_A83 w_A84 w_A85 w_A86 w_A98 w_A99 hoffa ls (lv_sub hl [1, 2, 0] rfl) hg6 hW hS
    · rw [if_pos c5] at hs0
      refine lv_ldc2 (v := (-3)) hx hb hown (hG _ gx965) dX12_odds_34 ?_
      have hs0 := Option.some.inj hs0
      subst hs0
      exact W.lret hx hb hr (fun t ht hw => ⟨⟨_, (m4, a4), rfl, ⟨rfl, w_x69_18, w_x69_19, w_x69_20, w_x69_21, w_x69_22, w_x69_27, w_x69_35, hoff, w_A76, w_A77, w_A78, w_A79, w_A80, w_A81, w_A82, w_A83, w_A84, w_A85, w_A86, w_A98, w_A99, hoffa⟩, g_end hW ht hw⟩, hS.F ht⟩) hS.2.2 dX12_odds_37 hlocks
  · rw [if_pos c3] at hs0
    refine lv_ldc2 (v := (-1)) hx hb hown (hG _ gx206) dX12_odds_15 ?_
    have hs0 := Option.some.inj hs0
    subst hs0
    exact W.lret hx hb hr (fun t ht hw => ⟨⟨_, (m1, a0), rfl, ⟨rfl, w_x69_18, w_x69_19, w_x69_20, w_x69_21, w_x69_22, w_x69_27, w_x69_35, hoff, h_A76, h_A77, h_A78, h_A79, h_A80, h_A81, h_A82, h_A83, h_A84, h_A85, h_A86, h_A98, h_A99, hoffa⟩, g_end hW ht hw⟩, hS.F ht⟩) hS.2.2 dX12_odds_18 hlocks
set_option maxHeartbeats 4000000 in
set_option maxRecDepth 100000 in
theorem kX3_passB {l : Launch} {D : va_G} {cy : Nat → ClassId} {N : Nat} {q : Nat → Nat} {m0 : Nat → Value} {a0 : Nat → vp_A} {sz : Nat} (hN : 105 ≤ N) (hsh : SH q m0) (hthen : m0 3901 = .ref (q 40)) {A30 : Nat → Int32} (h_A30 : a0 30 = (6001, .inl A30)) {A35 : Nat → Int32} (h_A35 : a0 35 = (60000, .inl A35)) {A40 : Nat → UInt64} (h_A40 : a0 40 = (6000, .inr (.inr (.inr (.inl A40))))) (F : Nat) (p2 : Int32) (p3 : UInt64) {X0 : (Nat → UInt64)} (hs0 : fX3_pass F A30 A35 A40 p2 p3 = some X0) : gMv l yX3_pass cX3_pass 7 none ({ frames := 2, cells := 0, slots := 0, locals := 43 } : Room) D cy N q m0 a0 sz [.ref (q 39), .ref (q 28), .int p2, .double p3] (fun m' a' => m' = m0 ∧ a' 40 = (6000, .inr (.inr (.inr (.inl X0)))) ∧ (∀ j, nel j [40] = false → a' j = a0 j)) := by
  refine g_ofv (by decide) (Nat.le_of_ble_eq_true rfl) ?_
  intro p e s M args below meth c hx hb hr hG hown hin hlocks hml hW hS ls hl
  unfold fX3_pass at hs0
  have hoffa : ∀ j, nel j [40] = false → a0 j = a0 j := off0
  refine lv_aload_n hx hb dX3_pass_0 rfl (lv_at hl 1 rfl) ?_
  refine gf1_0 hx hb hG hown hW (o := 28) (ltN hN 28 rfl) gk28 (v := .ref (q 29)) (sh28_0 hsh) gx948 dX3_pass_1 ?_
  refine lv_iload_n hx hb dX3_pass_4 rfl (lv_at hl 2 rfl) ?_
  refine g_ViR (n := 1) hx hb hml hown hG hW hS [.int p2] (kX2_at (ltN hN 29 rfl) gk29 (ltN hN 30 rfl) gk30 (sh29_0 hsh) (by decide) ((hoffa 30 rfl).trans h_A30) p2) (ltN hN 29 rfl) gk29 (by decide) rfl rfl (gd_V gx949 gx564 gx565 gx47 gx566) rfl rfl (by decide) ⟨Nat.le_of_ble_eq_true rfl, Nat.le_of_ble_eq_true rfl⟩ rfl hl (Nat.le_of_ble_eq_true rfl) ⟨Nat.zero_le _, Nat.zero_le _⟩ dX3_pass_5 (fun H locs hW hS => ?_)
  refine lv_istore (lv' := [(5, .int (cAt 6001 A30 p2)), (0, .ref (q 39)), (1, .ref (q 28)), (2, .int p2), (3, .double p3)]) hx hb dX3_pass_8 hl (by decide) rfl (fun ls hl => ?_)
  obtain ⟨r2, hg2, hs0⟩ := obind hs0
  have hE1_75 : ∀ (t2_75 : (Nat → UInt64)) (hr2 : t2_75 = r2) (a : Nat → vp_A) (H : Heap) (locs : List Loc) (w_A40 : a 40 = (6000, .inr (.inr (.inr (.inl t2_75))))) (hoffa : ∀ j, nel j [40] = false → a j = a0 j) (ls : Array Slot) (hl : lv_has ls 7 []) (hW : GW D cy (gA N q s.heap.size) N q m0 a s H) (hS : va_S (gA N q s.heap.size) s.heap H locs), W p l e ({ frames := 2, cells := 0, slots := 0, locals := 43 } : Room) s M args below meth c H locs 0 0 (MQ below (va_Qv (fun (u : (Nat → Value) × (Nat → vp_A)) => u.1 = m0 ∧ u.2 40 = (6000, .inr (.inr (.inr (.inl X0)))) ∧ (∀ j, nel j [40] = false → u.2 j = a0 j)) (gB D cy N q s.heap.size) (gA N q s.heap.size)) args s 0 0 (gA N q s.heap.size)) (F0 M 75 ls []) := by
    intro t2_75 hr2 a H locs w_A40 hoffa ls hl hW hS
    subst hr2
    have hs0 := Option.some.inj hs0
    subst hs0
    exact W.vret hx hb hr (fun t ht hw => ⟨⟨(m0, a), rfl, ⟨rfl, w_A40, hoffa⟩, g_end hW ht hw⟩, hS.F ht⟩) hS.2.2 dX3_pass_75 hlocks
  have hL1 : ∀ (n : Nat) (v5k2 : Int32) (A40k2 : Nat → UInt64) (a : Nat → vp_A) (H : Heap) (locs : List Loc) (w_A40 : a 40 = (6000, .inr (.inr (.inr (.inl A40k2))))) (hoffa : ∀ j, nel j [40] = false → a j = a0 j) (ls : Array Slot) (hl : lv_has ls 7 [(0, .ref (q 39)), (1, .ref (q 28)), (2, .int p2), (3, .double p3), (5, .int v5k2)]) (hg2 : gloop (fun u2 : (Int32 × (Nat → UInt64)) => fX3_pass_S10 F A30 A35 p2 p3 u2.1 u2.2) n (v5k2, A40k2) = some r2) (hW : GW D cy (gA N q s.heap.size) N q m0 a s H) (hS : va_S (gA N q s.heap.size) s.heap H locs), W p l e ({ frames := 2, cells := 0, slots := 0, locals := 43 } : Room) s M args below meth c H locs 0 0 (MQ below (va_Qv (fun (u : (Nat → Value) × (Nat → vp_A)) => u.1 = m0 ∧ u.2 40 = (6000, .inr (.inr (.inr (.inl X0)))) ∧ (∀ j, nel j [40] = false → u.2 j = a0 j)) (gB D cy N q s.heap.size) (gA N q s.heap.size)) args s 0 0 (gA N q s.heap.size)) (F0 M 10 ls []) := by
    intro n
    induction n with
    | zero => intro v5k2 A40k2 a H locs w_A40 hoffa ls hl hg2 hW hS; exact (gl_zero hg2).elim
    | succ n ih1 =>
      intro v5k2 A40k2 a H locs w_A40 hoffa ls hl hg2 hW hS
      obtain ⟨X1, hs1, hXl1, hXr1⟩ := gl_succ hg2
      have hs1 : fX3_pass_S10 F A30 A35 p2 p3 v5k2 A40k2 = some X1 := hs1
      unfold fX3_pass_S10 at hs1
      have hJ69_1 : ∀ (v5j20 : Int32) (A40j20 : Nat → UInt64) (a : Nat → vp_A) (H : Heap) (locs : List Loc) (w_A40 : a 40 = (6000, .inr (.inr (.inr (.inl A40j20))))) (hoffa : ∀ j, nel j [40] = false → a j = a0 j) (ls : Array Slot) (hl : lv_has ls 7 [(0, .ref (q 39)), (1, .ref (q 28)), (2, .int p2), (3, .double p3), (5, .int v5j20)]) (hs1 : fX3_pass_J69 F A30 A35 p2 p3 v5j20 A40j20 = some X1) (hW : GW D cy (gA N q s.heap.size) N q m0 a s H) (hS : va_S (gA N q s.heap.size) s.heap H locs), W p l e ({ frames := 2, cells := 0, slots := 0, locals := 43 } : Room) s M args below meth c H locs 0 0 (MQ below (va_Qv (fun (u : (Nat → Value) × (Nat → vp_A)) => u.1 = m0 ∧ u.2 40 = (6000, .inr (.inr (.inr (.inl X0)))) ∧ (∀ j, nel j [40] = false → u.2 j = a0 j)) (gB D cy N q s.heap.size) (gA N q s.heap.size)) args s 0 0 (gA N q s.heap.size)) (F0 M 69 ls []) := by
        intro v5j20 A40j20 a H locs w_A40 hoffa ls hl hs1 hW hS
        unfold fX3_pass_J69 at hs1
        refine lv_iinc (v := v5j20 + 1) (lv' := [(5, .int (v5j20 + 1)), (0, .ref (q 39)), (1, .ref (q 28)), (2, .int p2), (3, .double p3)]) hx hb dX3_pass_69 hl (k := 4) rfl rfl (by decide) rfl (fun ls hl => ?_)
        refine lv_goto (tgt := 10) hx hb dX3_pass_72 (by decide) ?_
        exact ih1 (v5j20 + 1) A40j20 a _ _ w_A40 hoffa ls (lv_sub hl [1, 2, 3, 4, 0] rfl) (hXr1 _ (Option.some.inj hs1).symm) hW hS
      refine lv_iload hx hb dX3_pass_10 (lv_at hl 4 rfl) ?_
      refine lv_aload_n hx hb dX3_pass_12 rfl (lv_at hl 1 rfl) ?_
      refine gf1_0 hx hb hG hown hW (o := 28) (ltN hN 28 rfl) gk28 (v := .ref (q 29)) (sh28_0 hsh) gx948 dX3_pass_13 ?_
      refine lv_iload_n hx hb dX3_pass_16 rfl (lv_at hl 2 rfl) ?_
      refine lv_iconst (v := 1) hx hb dX3_pass_17 (by decide) ?_
      refine lv_iadd hx hb dX3_pass_18 ?_
      refine g_ViR (n := 1) hx hb hml hown hG hW hS [.int (p2 + 1)] (kX2_at (ltN hN 29 rfl) gk29 (ltN hN 30 rfl) gk30 (sh29_0 hsh) (by decide) ((hoffa 30 rfl).trans h_A30) (p2 + 1)) (ltN hN 29 rfl) gk29 (by decide) rfl rfl (gd_V gx949 gx564 gx565 gx47 gx566) rfl rfl (by decide) ⟨Nat.le_of_ble_eq_true rfl, Nat.le_of_ble_eq_true rfl⟩ rfl hl (Nat.le_of_ble_eq_true rfl) ⟨Nat.zero_le _, Nat.zero_le _⟩ dX3_pass_19 (fun H locs hW hS => ?_)
      refine lv_icmp_ge (tgt := 75) hx hb dX3_pass_22 (by decide) (fun c16 => ?_) (fun c16 => ?_)
      · rw [if_pos c16] at hs1
        exact hE1_75 A40k2 (hXl1 _ (Option.some.inj hs1).symm) a _ _ w_A40 hoffa ls (lv_sub hl [] rfl) hW hS
      · rw [if_neg c16] at hs1
        refine lv_aload_n hx hb dX3_pass_25 rfl (lv_at hl 1 rfl) ?_
        refine lv_iload hx hb dX3_pass_26 (lv_at hl 4 rfl) ?_
        refine g_ViR (n := 1) hx hb hml hown hG hW hS [.int v5k2] (kX1_targetOf hN hsh ((hoffa 35 rfl).trans h_A35) v5k2) (ltN hN 28 rfl) gk28 (by decide) rfl rfl (gd_V gx954 gx772 gx773 gx86 gx774) rfl rfl (by decide) ⟨Nat.le_of_ble_eq_true rfl, Nat.le_of_ble_eq_true rfl⟩ rfl hl (Nat.le_of_ble_eq_true rfl) ⟨Nat.zero_le _, Nat.zero_le _⟩ dX3_pass_28 (fun H locs hW hS => ?_)
        refine lv_istore (lv' := [(6, .int (fX1_targetOf A35 v5k2)), (0, .ref (q 39)), (1, .ref (q 28)), (2, .int p2), (3, .double p3), (5, .int v5k2)]) hx hb dX3_pass_31 hl (by decide) rfl (fun ls hl => ?_)
        refine lv_aload_n hx hb dX3_pass_33 rfl (lv_at hl 2 rfl) ?_
        refine lv_iload hx hb dX3_pass_34 (lv_at hl 5 rfl) ?_
        refine lv_iconst (v := 1) hx hb dX3_pass_36 (by decide) ?_
        refine g_ViR (n := 2) hx hb hml hown hG hW hS [.int v5k2, .int 1] (kX1_hasMark hN hsh ((hoffa 35 rfl).trans h_A35) v5k2 1) (ltN hN 28 rfl) gk28 (by decide) rfl rfl (gd_V gx955 gx789 gx790 gx86 gx791) rfl rfl (by decide) ⟨Nat.le_of_ble_eq_true rfl, Nat.le_of_ble_eq_true rfl⟩ rfl hl (Nat.le_of_ble_eq_true rfl) ⟨Nat.zero_le _, Nat.zero_le _⟩ dX3_pass_37 (fun H locs hW hS => ?_)
        refine lv_if_ne (tgt := 69) hx hb dX3_pass_40 (by decide) (fun c19 => ?_) (fun c19 => ?_)
        · rw [if_neg c19] at hs1
          exact hJ69_1 v5k2 A40k2 a _ _ w_A40 hoffa ls (lv_sub hl [1, 2, 3, 4, 5] rfl) hs1 hW hS
        · rw [if_pos c19] at hs1
          refine lv_iload hx hb dX3_pass_43 (lv_at hl 0 rfl) ?_
          refine lv_if_lt (tgt := 69) hx hb dX3_pass_45 (by decide) (fun c21 => ?_) (fun c21 => ?_)
          · rw [if_pos c21] at hs1
            exact hJ69_1 v5k2 A40k2 a _ _ w_A40 hoffa ls (lv_sub hl [1, 2, 3, 4, 5] rfl) hs1 hW hS
          · rw [if_neg c21] at hs1
            refine lv_iload hx hb dX3_pass_48 (lv_at hl 0 rfl) ?_
            refine lv_aload_n hx hb dX3_pass_50 rfl (lv_at hl 1 rfl) ?_
            refine gf3_1 hx hb hG hown hW (o := 39) (ltN hN 39 rfl) gk39 (v := .ref (q 40)) hthen gx122 dX3_pass_51 ?_
            refine g_alen hx hb hW (o := 40) (t := 0) (ltN hN 40 rfl) gk40 (by decide) w_A40 (v := 6000) rfl dX3_pass_54 ?_
            refine lv_icmp_ge (tgt := 69) hx hb dX3_pass_55 (by decide) (fun c22 => ?_) (fun c22 => ?_)
            · rw [if_pos c22] at hs1
              exact hJ69_1 v5k2 A40k2 a _ _ w_A40 hoffa ls (lv_sub hl [1, 2, 3, 4, 5] rfl) hs1 hW hS
            · rw [if_neg c22] at hs1
              refine lv_aload_n hx hb dX3_pass_58 rfl (lv_at hl 1 rfl) ?_
              refine gf3_1 hx hb hG hown hW (o := 39) (ltN hN 39 rfl) gk39 (v := .ref (q 40)) hthen gx122 dX3_pass_59 ?_
              refine lv_iload hx hb dX3_pass_62 (lv_at hl 0 rfl) ?_
              refine lv_dup2_11 hx hb dX3_pass_64 rfl rfl ?_
              obtain ⟨hi23, hs1⟩ := oif hs1
              refine g_dald hx hb hW (o := 40) (ltN hN 40 rfl) gk40 w_A40 (vin hi23) dX3_pass_65 ?_
              refine lv_dload_n hx hb dX3_pass_66 rfl (lv_at hl 4 rfl) ?_
              obtain ⟨hd24, hs1⟩ := oif hs1
              refine lv_dadd hx hb dX3_pass_67 (nn64.p hd24) ?_
              obtain ⟨hi25, hs1⟩ := oif hs1
              refine g_dast hx hb hW hS (o := 40) (ltN hN 40 rfl) gk40 w_A40 (vin hi25) dX3_pass_68 (fun a26 H locs ha26 ho26 hW hS => ?_)
              have ho26 := off1 ho26
              have w_A40 : a26 40 = (6000, .inr (.inr (.inr (.inl (vf_upd A40k2 (fX1_targetOf A35 v5k2).toNatClampNeg (FP.dadd (A40k2 (fX1_targetOf A35 v5k2).toNatClampNeg) p3)))))) := ha26
              have hoffa := offm hoffa ho26 (by decide +kernel)
              exact hJ69_1 v5k2 (vf_upd A40k2 (fX1_targetOf A35 v5k2).toNatClampNeg (FP.dadd (A40k2 (fX1_targetOf A35 v5k2).toNatClampNeg) p3)) a26 _ _ w_A40 hoffa ls (lv_sub hl [1, 2, 3, 4, 5] rfl) hs1 hW hS
  exact hL1 F (cAt 6001 A30 p2) A40 a0 _ _ h_A40 hoffa ls (lv_sub hl [1, 2, 3, 4, 0] rfl) hg2 hW hS
set_option maxHeartbeats 4000000 in
set_option maxRecDepth 100000 in
theorem kX3_moveB {l : Launch} {D : va_G} {cy : Nat → ClassId} {N : Nat} {q : Nat → Nat} {m0 : Nat → Value} {a0 : Nat → vp_A} {sz : Nat} (hN : 105 ≤ N) (hsh : SH q m0) (hnow : m0 3900 = .ref (q 41)) (hthen : m0 3901 = .ref (q 40)) {x28_2 : Int32} (h_x28_2 : m0 2802 = .int x28_2) {A30 : Nat → Int32} (h_A30 : a0 30 = (6001, .inl A30)) {A35 : Nat → Int32} (h_A35 : a0 35 = (60000, .inl A35)) {A41 : Nat → UInt64} (h_A41 : a0 41 = (6000, .inr (.inr (.inr (.inl A41))))) {A40 : Nat → UInt64} (h_A40 : a0 40 = (6000, .inr (.inr (.inr (.inl A40))))) (F : Nat) {X0 : (Nat → UInt64)} (hs0 : fX3_move F x28_2 A30 A35 A41 A40 = some X0) : gMv l yX3_move cX3_move 4 none ({ frames := 3, cells := 0, slots := 0, locals := 69 } : Room) D cy N q m0 a0 sz [.ref (q 39), .ref (q 28)] (fun m' a' => m' = m0 ∧ a' 40 = (6000, .inr (.inr (.inr (.inl X0)))) ∧ (∀ j, nel j [40] = false → a' j = a0 j)) := by
  refine g_ofv (by decide) (Nat.le_of_ble_eq_true rfl) ?_
  intro p e s M args below meth c hx hb hr hG hown hin hlocks hml hW hS ls hl
  unfold fX3_move at hs0
  have hoffa : ∀ j, nel j [40] = false → a0 j = a0 j := off0
  refine lv_iconst (v := 0) hx hb dX3_move_0 (by decide) ?_
  refine lv_istore_n (lv' := [(2, .int 0), (0, .ref (q 39)), (1, .ref (q 28))]) hx hb dX3_move_1 rfl hl (by decide) rfl (fun ls hl => ?_)
  obtain ⟨r1, hg1, hs0⟩ := obind hs0
  have hE1_75 : ∀ (t1_75 : (Nat → UInt64)) (hr1 : t1_75 = r1) (a : Nat → vp_A) (H : Heap) (locs : List Loc) (w_A40 : a 40 = (6000, .inr (.inr (.inr (.inl t1_75))))) (hoffa : ∀ j, nel j [40] = false → a j = a0 j) (ls : Array Slot) (hl : lv_has ls 4 []) (hW : GW D cy (gA N q s.heap.size) N q m0 a s H) (hS : va_S (gA N q s.heap.size) s.heap H locs), W p l e ({ frames := 3, cells := 0, slots := 0, locals := 69 } : Room) s M args below meth c H locs 0 0 (MQ below (va_Qv (fun (u : (Nat → Value) × (Nat → vp_A)) => u.1 = m0 ∧ u.2 40 = (6000, .inr (.inr (.inr (.inl X0)))) ∧ (∀ j, nel j [40] = false → u.2 j = a0 j)) (gB D cy N q s.heap.size) (gA N q s.heap.size)) args s 0 0 (gA N q s.heap.size)) (F0 M 75 ls []) := by
    intro t1_75 hr1 a H locs w_A40 hoffa ls hl hW hS
    subst hr1
    have hs0 := Option.some.inj hs0
    subst hs0
    exact W.vret hx hb hr (fun t ht hw => ⟨⟨(m0, a), rfl, ⟨rfl, w_A40, hoffa⟩, g_end hW ht hw⟩, hS.F ht⟩) hS.2.2 dX3_move_75 hlocks
  have hL1 : ∀ (n : Nat) (v2k1 : Int32) (A40k1 : Nat → UInt64) (a : Nat → vp_A) (H : Heap) (locs : List Loc) (w_A40 : a 40 = (6000, .inr (.inr (.inr (.inl A40k1))))) (hoffa : ∀ j, nel j [40] = false → a j = a0 j) (ls : Array Slot) (hl : lv_has ls 4 [(0, .ref (q 39)), (1, .ref (q 28)), (2, .int v2k1)]) (hg1 : gloop (fun u1 : (Int32 × (Nat → UInt64)) => fX3_move_S2 F x28_2 A30 A35 A41 u1.1 u1.2) n (v2k1, A40k1) = some r1) (hW : GW D cy (gA N q s.heap.size) N q m0 a s H) (hS : va_S (gA N q s.heap.size) s.heap H locs), W p l e ({ frames := 3, cells := 0, slots := 0, locals := 69 } : Room) s M args below meth c H locs 0 0 (MQ below (va_Qv (fun (u : (Nat → Value) × (Nat → vp_A)) => u.1 = m0 ∧ u.2 40 = (6000, .inr (.inr (.inr (.inl X0)))) ∧ (∀ j, nel j [40] = false → u.2 j = a0 j)) (gB D cy N q s.heap.size) (gA N q s.heap.size)) args s 0 0 (gA N q s.heap.size)) (F0 M 2 ls []) := by
    intro n
    induction n with
    | zero => intro v2k1 A40k1 a H locs w_A40 hoffa ls hl hg1 hW hS; exact (gl_zero hg1).elim
    | succ n ih1 =>
      intro v2k1 A40k1 a H locs w_A40 hoffa ls hl hg1 hW hS
      obtain ⟨X1, hs1, hXl1, hXr1⟩ := gl_succ hg1
      have hs1 : fX3_move_S2 F x28_2 A30 A35 A41 v2k1 A40k1 = some X1 := hs1
      unfold fX3_move_S2 at hs1
      have hJ69_1 : ∀ (v2j19 : Int32) (A40j19 : Nat → UInt64) (a : Nat → vp_A) (H : Heap) (locs : List Loc) (w_A40 : a 40 = (6000, .inr (.inr (.inr (.inl A40j19))))) (hoffa : ∀ j, nel j [40] = false → a j = a0 j) (ls : Array Slot) (hl : lv_has ls 4 [(0, .ref (q 39)), (1, .ref (q 28)), (2, .int v2j19)]) (hs1 : fX3_move_J69 F x28_2 A30 A35 A41 v2j19 A40j19 = some X1) (hW : GW D cy (gA N q s.heap.size) N q m0 a s H) (hS : va_S (gA N q s.heap.size) s.heap H locs), W p l e ({ frames := 3, cells := 0, slots := 0, locals := 69 } : Room) s M args below meth c H locs 0 0 (MQ below (va_Qv (fun (u : (Nat → Value) × (Nat → vp_A)) => u.1 = m0 ∧ u.2 40 = (6000, .inr (.inr (.inr (.inl X0)))) ∧ (∀ j, nel j [40] = false → u.2 j = a0 j)) (gB D cy N q s.heap.size) (gA N q s.heap.size)) args s 0 0 (gA N q s.heap.size)) (F0 M 69 ls []) := by
        intro v2j19 A40j19 a H locs w_A40 hoffa ls hl hs1 hW hS
        unfold fX3_move_J69 at hs1
        refine lv_iinc (v := v2j19 + 1) (lv' := [(2, .int (v2j19 + 1)), (0, .ref (q 39)), (1, .ref (q 28))]) hx hb dX3_move_69 hl (k := 2) rfl rfl (by decide) rfl (fun ls hl => ?_)
        refine lv_goto (tgt := 2) hx hb dX3_move_72 (by decide) ?_
        exact ih1 (v2j19 + 1) A40j19 a _ _ w_A40 hoffa ls (lv_sub hl [1, 2, 0] rfl) (hXr1 _ (Option.some.inj hs1).symm) hW hS
      refine lv_iload_n hx hb dX3_move_2 rfl (lv_at hl 2 rfl) ?_
      refine lv_aload_n hx hb dX3_move_3 rfl (lv_at hl 1 rfl) ?_
      refine gf1_2 hx hb hG hown hW (o := 28) (ltN hN 28 rfl) gk28 (v := .int x28_2) h_x28_2 gx940 dX3_move_4 ?_
      refine lv_icmp_ge (tgt := 75) hx hb dX3_move_7 (by decide) (fun c13 => ?_) (fun c13 => ?_)
      · rw [if_pos c13] at hs1
        exact hE1_75 A40k1 (hXl1 _ (Option.some.inj hs1).symm) a _ _ w_A40 hoffa ls (lv_sub hl [] rfl) hW hS
      · rw [if_neg c13] at hs1
        refine lv_iload_n hx hb dX3_move_10 rfl (lv_at hl 2 rfl) ?_
        refine lv_aload_n hx hb dX3_move_11 rfl (lv_at hl 0 rfl) ?_
        refine gf3_0 hx hb hG hown hW (o := 39) (ltN hN 39 rfl) gk39 (v := .ref (q 41)) hnow gx121 dX3_move_12 ?_
        refine g_alen hx hb hW (o := 41) (t := 0) (ltN hN 41 rfl) gk41 (by decide) ((hoffa 41 rfl).trans h_A41) (v := 6000) rfl dX3_move_15 ?_
        refine lv_icmp_ge (tgt := 75) hx hb dX3_move_16 (by decide) (fun c14 => ?_) (fun c14 => ?_)
        · rw [if_pos c14] at hs1
          exact hE1_75 A40k1 (hXl1 _ (Option.some.inj hs1).symm) a _ _ w_A40 hoffa ls (lv_sub hl [] rfl) hW hS
        · rw [if_neg c14] at hs1
          refine lv_aload_n hx hb dX3_move_19 rfl (lv_at hl 1 rfl) ?_
          refine gf1_0 hx hb hG hown hW (o := 28) (ltN hN 28 rfl) gk28 (v := .ref (q 29)) (sh28_0 hsh) gx948 dX3_move_20 ?_
          refine lv_iload_n hx hb dX3_move_23 rfl (lv_at hl 2 rfl) ?_
          refine lv_iconst (v := 1) hx hb dX3_move_24 (by decide) ?_
          refine lv_iadd hx hb dX3_move_25 ?_
          refine g_ViR (n := 1) hx hb hml hown hG hW hS [.int (v2k1 + 1)] (kX2_at (ltN hN 29 rfl) gk29 (ltN hN 30 rfl) gk30 (sh29_0 hsh) (by decide) ((hoffa 30 rfl).trans h_A30) (v2k1 + 1)) (ltN hN 29 rfl) gk29 (by decide) rfl rfl (gd_V gx949 gx564 gx565 gx47 gx566) rfl rfl (by decide) ⟨Nat.le_of_ble_eq_true rfl, Nat.le_of_ble_eq_true rfl⟩ rfl hl (Nat.le_of_ble_eq_true rfl) ⟨Nat.zero_le _, Nat.zero_le _⟩ dX3_move_26 (fun H locs hW hS => ?_)
          refine lv_aload_n hx hb dX3_move_29 rfl (lv_at hl 1 rfl) ?_
          refine gf1_0 hx hb hG hown hW (o := 28) (ltN hN 28 rfl) gk28 (v := .ref (q 29)) (sh28_0 hsh) gx948 dX3_move_30 ?_
          refine lv_iload_n hx hb dX3_move_33 rfl (lv_at hl 2 rfl) ?_
          refine g_ViR (n := 1) hx hb hml hown hG hW hS [.int v2k1] (kX2_at (ltN hN 29 rfl) gk29 (ltN hN 30 rfl) gk30 (sh29_0 hsh) (by decide) ((hoffa 30 rfl).trans h_A30) v2k1) (ltN hN 29 rfl) gk29 (by decide) rfl rfl (gd_V gx949 gx564 gx565 gx47 gx566) rfl rfl (by decide) ⟨Nat.le_of_ble_eq_true rfl, Nat.le_of_ble_eq_true rfl⟩ rfl hl (Nat.le_of_ble_eq_true rfl) ⟨Nat.zero_le _, Nat.zero_le _⟩ dX3_move_34 (fun H locs hW hS => ?_)
          refine lv_isub hx hb dX3_move_37 ?_
          refine lv_istore_n (lv' := [(3, .int ((cAt 6001 A30 (v2k1 + 1)) - (cAt 6001 A30 v2k1))), (0, .ref (q 39)), (1, .ref (q 28)), (2, .int v2k1)]) hx hb dX3_move_38 rfl hl (by decide) rfl (fun ls hl => ?_)
          refine lv_aload_n hx hb dX3_move_39 rfl (lv_at hl 1 rfl) ?_
          refine gf3_0 hx hb hG hown hW (o := 39) (ltN hN 39 rfl) gk39 (v := .ref (q 41)) hnow gx121 dX3_move_40 ?_
          refine lv_iload_n hx hb dX3_move_43 rfl (lv_at hl 3 rfl) ?_
          obtain ⟨hi17, hs1⟩ := oif hs1
          refine g_dald hx hb hW (o := 41) (ltN hN 41 rfl) gk41 ((hoffa 41 rfl).trans h_A41) (vin hi17) dX3_move_44 ?_
          refine lv_dconst0 hx hb dX3_move_45 ?_
          refine lv_dcmp hx hb dX3_move_46 ?_
          refine lv_if_eq (tgt := 69) hx hb dX3_move_47 (by decide) (fun c18 => ?_) (fun c18 => ?_)
          · rw [if_pos c18] at hs1
            exact hJ69_1 v2k1 A40k1 a _ _ w_A40 hoffa ls (lv_sub hl [1, 2, 3] rfl) hs1 hW hS
          · rw [if_neg c18] at hs1
            refine lv_iload_n hx hb dX3_move_50 rfl (lv_at hl 0 rfl) ?_
            refine lv_if_le (tgt := 69) hx hb dX3_move_51 (by decide) (fun c20 => ?_) (fun c20 => ?_)
            · rw [if_pos c20] at hs1
              exact hJ69_1 v2k1 A40k1 a _ _ w_A40 hoffa ls (lv_sub hl [1, 2, 3] rfl) hs1 hW hS
            · rw [if_neg c20] at hs1
              refine lv_aload_n hx hb dX3_move_54 rfl (lv_at hl 1 rfl) ?_
              refine lv_aload_n hx hb dX3_move_55 rfl (lv_at hl 2 rfl) ?_
              refine lv_iload_n hx hb dX3_move_56 rfl (lv_at hl 3 rfl) ?_
              refine lv_aload_n hx hb dX3_move_57 rfl (lv_at hl 1 rfl) ?_
              refine gf3_0 hx hb hG hown hW (o := 39) (ltN hN 39 rfl) gk39 (v := .ref (q 41)) hnow gx121 dX3_move_58 ?_
              refine lv_iload_n hx hb dX3_move_61 rfl (lv_at hl 3 rfl) ?_
              obtain ⟨hi21, hs1⟩ := oif hs1
              refine g_dald hx hb hW (o := 41) (ltN hN 41 rfl) gk41 ((hoffa 41 rfl).trans h_A41) (vin hi21) dX3_move_62 ?_
              refine lv_iload_n hx hb dX3_move_63 rfl (lv_at hl 0 rfl) ?_
              refine lv_i2d hx hb dX3_move_64 ?_
              obtain ⟨hd22, hs1⟩ := oif hs1
              refine lv_ddiv hx hb dX3_move_65 (nn64.p hd22) ?_
              obtain ⟨r23, hf23, hs1⟩ := obind hs1
              refine g_Vv (n := 3) hx hb hml hown hG hW hS [.ref (q 28), .int v2k1, .double (FP.ddiv (A41 v2k1.toNatClampNeg) (FP.i2d ((cAt 6001 A30 (v2k1 + 1)) - (cAt 6001 A30 v2k1))))] (kX3_passB hN hsh hthen ((hoffa 30 rfl).trans h_A30) ((hoffa 35 rfl).trans h_A35) w_A40 F v2k1 (FP.ddiv (A41 v2k1.toNatClampNeg) (FP.i2d ((cAt 6001 A30 (v2k1 + 1)) - (cAt 6001 A30 v2k1)))) hf23) (ltN hN 39 rfl) gk39 (by decide) rfl rfl (gd_V gx950 gx951 gx952 gx90 gx953) rfl rfl (by decide) ⟨Nat.le_of_ble_eq_true rfl, Nat.le_of_ble_eq_true rfl⟩ rfl hl (Nat.le_of_ble_eq_true rfl) ⟨Nat.zero_le _, Nat.zero_le _⟩ dX3_move_66 (fun m23 a23 H locs hp23 hW hS => ?_)
              obtain ⟨hm23, hp23_A40, hoa23⟩ := hp23
              rw [hm23] at hW
              have w_A40 : a23 40 = (6000, .inr (.inr (.inr (.inl r23)))) := hp23_A40
              have hoffa := offm hoffa hoa23 (by decide +kernel)
              exact hJ69_1 v2k1 r23 a23 _ _ w_A40 hoffa ls (lv_sub hl [1, 2, 3] rfl) hs1 hW hS
  exact hL1 F 0 A40 a0 _ _ h_A40 hoffa ls (lv_sub hl [1, 2, 0] rfl) hg1 hW hS
