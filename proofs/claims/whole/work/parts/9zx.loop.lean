/-! part 9zx: the law's loop -/
/-! the room as the Statement prints it is measured, and not alike at each print: so it is named by room_1 alone, and this much of it is wanted -/
theorem lw_rc : 3800 ≤ room_1.cells := by decide +kernel
theorem lw_rs : 765000 ≤ room_1.slots := by decide +kernel
theorem lw_gt {L t : Nat} (hL : L ≤ 3584) (ht : 7 * t ≤ L) (h : ¬ Int32.ofNat L - 7 < nI (7 * t)) : 7 * t + 7 ≤ L := by
  have e1 : (Int32.ofNat L).toInt = (L : Int) := nI_toInt (by omega)
  have e2 : (nI (7 * t)).toInt = ((7 * t : Nat) : Int) := nI_toInt (by omega)
  have e3 : (Int32.ofNat L - 7).toInt = (L : Int) - 7 := by
    rw [Int32.toInt_sub, e1, show (7 : Int32).toInt = 7 by decide]
    exact Int.bmod_eq_of_le (by omega) (by omega)
  rw [Int32.lt_iff_toInt_lt, e3, e2] at h
  omega
theorem lw_in {L n k : Nat} (hL : L ≤ 3584) (h : n + k < L) : vp_in (nI n + nI k) L := by
  rw [nI_add]
  exact vp_in_nI h (by omega)
set_option maxHeartbeats 4000000 in
set_option maxRecDepth 100000 in
theorem law_loop {F : Nat} {p : Program} {l : Launch} {e : Env} {s : State} {m : MethodId} {below : List Frame} {meth : Method} {c : Code} {b L : Nat} {xs : Nat → Int32} {sa sv : Nat → Nat} {k1 k2 : Nat} {D : va_G} {cy : Nat → ClassId} (hL : L ≤ 3584) (hC : LCx F p l s m c b L xs sa sv k1 k2) (hr : meth.sig.returnType = ret) (hlocks : meth.locks = false) : ∀ (n t : Nat) (N : Nat) (q : Nat → Nat) (mm : Nat → Value) (a : Nat → vp_A) (H : Heap) (locs : List Loc) (ls : Array Slot), L < n + 7 * t → 7 * t ≤ L → LSt F s b D cy (nI (7 * t)) N q mm a H locs ls → W p l e room_1 s m #[.ref b] below meth c H locs (105 + 7 * t) (749840 + 28 * t) (lw_Z below #[Value.ref b] s) (F0 m 23 ls []) := by
  intro n
  induction n with
  | zero => intro t N q mm a H locs ls h1 h2; omega
  | succ n ih =>
    intro t N q mm a H locs ls hn ht hSt
    obtain ⟨hx, hb, hml, hown, hGX, hX, hbl, hst, hXS, hKE, hF⟩ := id hC
    obtain ⟨hI, hq, hW, hS, hl⟩ := id hSt
    have hbA : ¬ gA N q s.heap.size b := gA_not hq hbl
    refine lv_iload hx hb dL_law_23 (lv_at hl 4 rfl) ?_
    refine lv_aload_n hx hb dL_law_25 rfl (lv_at hl 0 rfl) ?_
    refine va_slen hx hb hX hbl hbA hS dL_law_26 ?_
    refine lv_bipush (v := 7) hx hb dL_law_27 (by decide) ?_
    refine lv_isub hx hb dL_law_29 ?_
    refine lv_icmp_gt (tgt := 1257) hx hb dL_law_30 (by decide) (fun c1 => ?_) (fun c1 => ?_)
    · refine lv_iconst (v := 1) hx hb dL_law_1257 (by decide) ?_
      refine va_forget (fun z hz => ?_) ?_
      · have h9 := hS.2.2 z hz
        rw [gA_all hq] at h9
        exact h9
      · refine W.widen (k := room_1.cells) (n := room_1.slots) (Nat.le_trans (by omega) lw_rc) (Nat.le_trans (by omega) lw_rs) ?_
        refine W.base ?_
        exact lw_ret (Drawn.sameBut.refl s.drawn lw_cs) hx hb hr hlocks dL_law_1258
    · have hlt := lw_gt hL ht c1
      have h0 : vp_in (nI (7 * t)) L := vp_in_nI (by omega) (by omega)
      have hv : LVi (nI (7 * t)) L := ⟨lw_in (k := 1) hL (by omega), lw_in (k := 2) hL (by omega), lw_in (k := 3) hL (by omega), lw_in (k := 4) hL (by omega), lw_in (k := 5) hL (by omega), lw_in (k := 6) hL (by omega)⟩
      have hc : 105 + 7 * t + 7 ≤ room_1.cells := Nat.le_trans (by omega) lw_rc
      have hs : 749840 + 28 * t + 28 ≤ room_1.slots := Nat.le_trans (by omega) lw_rs
      have kk : ∀ (N : Nat) (q : Nat → Nat) (mm : Nat → Value) (a : Nat → vp_A) (H : Heap) (locs : List Loc) (ls : Array Slot), LSt F s b D cy (nI (7 * t)) N q mm a H locs ls → W p l e room_1 s m #[.ref b] below meth c H locs (105 + 7 * t + 7) (749840 + 28 * t + 28) (lw_Z below #[Value.ref b] s) (F0 m 1251 ls []) := by
        intro N q mm a H locs ls hSt
        obtain ⟨hI, hq, hW, hS, hl⟩ := hSt
        refine lv_iinc (v := nI (7 * (t + 1))) (lv' := [(4, .int (nI (7 * (t + 1)))), (0, .ref b), (1, .ref (q 0)), (2, .ref (q 69)), (3, .ref (q 104))]) hx hb dL_law_1251 hl (k := 4) rfl (nI_add (7 * t) 7) (by decide) rfl (fun ls hl => ?_)
        refine lv_goto (tgt := 23) hx hb dL_law_1254 (by decide) ?_
        refine W.widen (k := 105 + 7 * (t + 1)) (n := 749840 + 28 * (t + 1)) (by omega) (by omega) ?_
        exact ih (t + 1) N q mm a H locs ls (by omega) (by omega) ⟨hI, hq, hW, hS, lv_sub hl [1, 2, 3, 4, 0] rfl⟩
      refine lv_aload_n hx hb dL_law_33 rfl (lv_at hl 0 rfl) ?_
      refine lv_iload hx hb dL_law_34 (lv_at hl 4 rfl) ?_
      refine va_sld hx hb hX hbl hbA hS h0 dL_law_36 ?_
      refine lv_bipush (v := 31) hx hb dL_law_37 (by decide) ?_
      refine lv_iand hx hb dL_law_39 ?_
      refine lv_topi (fun v ev => ?_)
      by_cases hin : 0 ≤ v.toInt ∧ v.toInt < 30
      · obtain ⟨k, hk⟩ : ∃ k : Nat, v.toInt = (k : Int) := ⟨v.toInt.toNat, by omega⟩
        have hk30 : k < 30 := by omega
        rcases (show k = 0 ∨ k = 1 ∨ k = 2 ∨ k = 3 ∨ k = 4 ∨ k = 5 ∨ k = 6 ∨ k = 7 ∨ k = 8 ∨ k = 9 ∨ k = 10 ∨ k = 11 ∨ k = 12 ∨ k = 13 ∨ k = 14 ∨ k = 15 ∨ k = 16 ∨ k = 17 ∨ k = 18 ∨ k = 19 ∨ k = 20 ∨ k = 21 ∨ k = 22 ∨ k = 23 ∨ k = 24 ∨ k = 25 ∨ k = 26 ∨ k = 27 ∨ k = 28 ∨ k = 29 by omega) with rfl | rfl | rfl | rfl | rfl | rfl | rfl | rfl | rfl | rfl | rfl | rfl | rfl | rfl | rfl | rfl | rfl | rfl | rfl | rfl | rfl | rfl | rfl | rfl | rfl | rfl | rfl | rfl | rfl | rfl
        · exact lv_tableIn (off := 136) (tgt := 176) hx hb dL_law_40 (by omega) (by omega) (by rw [hk]; rfl) (by decide) (lc_0 hC hSt hv hc hs kk)
        · exact lv_tableIn (off := 173) (tgt := 213) hx hb dL_law_40 (by omega) (by omega) (by rw [hk]; rfl) (by decide) (lc_1 hC hSt hv hc hs kk)
        · exact lv_tableIn (off := 250) (tgt := 290) hx hb dL_law_40 (by omega) (by omega) (by rw [hk]; rfl) (by decide) (lc_2 hC hSt hv hc hs kk)
        · exact lv_tableIn (off := 275) (tgt := 315) hx hb dL_law_40 (by omega) (by omega) (by rw [hk]; rfl) (by decide) (lc_3 hC hSt hv hc hs kk)
        · exact lv_tableIn (off := 324) (tgt := 364) hx hb dL_law_40 (by omega) (by omega) (by rw [hk]; rfl) (by decide) (lc_4 hC hSt hv hc hs kk)
        · exact lv_tableIn (off := 373) (tgt := 413) hx hb dL_law_40 (by omega) (by omega) (by rw [hk]; rfl) (by decide) (lc_5 hC hSt hv hc hs kk)
        · exact lv_tableIn (off := 410) (tgt := 450) hx hb dL_law_40 (by omega) (by omega) (by rw [hk]; rfl) (by decide) (lc_6 hC hSt hv hc hs kk)
        · exact lv_tableIn (off := 447) (tgt := 487) hx hb dL_law_40 (by omega) (by omega) (by rw [hk]; rfl) (by decide) (lc_7 hC hSt hv hc hs kk)
        · exact lv_tableIn (off := 496) (tgt := 536) hx hb dL_law_40 (by omega) (by omega) (by rw [hk]; rfl) (by decide) (lc_8 hC hSt hv hc hs kk)
        · exact lv_tableIn (off := 561) (tgt := 601) hx hb dL_law_40 (by omega) (by omega) (by rw [hk]; rfl) (by decide) (lc_9 hC hSt hv hc hs kk)
        · exact lv_tableIn (off := 586) (tgt := 626) hx hb dL_law_40 (by omega) (by omega) (by rw [hk]; rfl) (by decide) (lc_10 hC hSt hv hc hs kk)
        · exact lv_tableIn (off := 666) (tgt := 706) hx hb dL_law_40 (by omega) (by omega) (by rw [hk]; rfl) (by decide) (lc_11 hC hSt hv hc hs kk)
        · exact lv_tableIn (off := 722) (tgt := 762) hx hb dL_law_40 (by omega) (by omega) (by rw [hk]; rfl) (by decide) (lc_12 hC hSt hv hc hs kk)
        · exact lv_tableIn (off := 747) (tgt := 787) hx hb dL_law_40 (by omega) (by omega) (by rw [hk]; rfl) (by decide) (lc_13 hC hSt hv hc hs kk)
        · exact lv_tableIn (off := 784) (tgt := 824) hx hb dL_law_40 (by omega) (by omega) (by rw [hk]; rfl) (by decide) (lc_14 hC hSt hv hc hs kk)
        · exact lv_tableIn (off := 797) (tgt := 837) hx hb dL_law_40 (by omega) (by omega) (by rw [hk]; rfl) (by decide) (lc_15 hC hSt hv hc hs kk)
        · exact lv_tableIn (off := 810) (tgt := 850) hx hb dL_law_40 (by omega) (by omega) (by rw [hk]; rfl) (by decide) (lc_16 hC hSt hv hc hs kk)
        · exact lv_tableIn (off := 823) (tgt := 863) hx hb dL_law_40 (by omega) (by omega) (by rw [hk]; rfl) (by decide) (lc_17 hC hSt hv hc hs kk)
        · exact lv_tableIn (off := 860) (tgt := 900) hx hb dL_law_40 (by omega) (by omega) (by rw [hk]; rfl) (by decide) (lc_18 hC hSt hv hc hs kk)
        · exact lv_tableIn (off := 873) (tgt := 913) hx hb dL_law_40 (by omega) (by omega) (by rw [hk]; rfl) (by decide) (lc_19 hC hSt hv hc hs kk)
        · exact lv_tableIn (off := 886) (tgt := 926) hx hb dL_law_40 (by omega) (by omega) (by rw [hk]; rfl) (by decide) (lc_20 hC hSt hv hc hs kk)
        · exact lv_tableIn (off := 912) (tgt := 952) hx hb dL_law_40 (by omega) (by omega) (by rw [hk]; rfl) (by decide) (lc_21 hC hSt hv hc hs kk)
        · exact lv_tableIn (off := 925) (tgt := 965) hx hb dL_law_40 (by omega) (by omega) (by rw [hk]; rfl) (by decide) (lc_22 hC hSt hv hc hs kk)
        · exact lv_tableIn (off := 950) (tgt := 990) hx hb dL_law_40 (by omega) (by omega) (by rw [hk]; rfl) (by decide) (lc_23 hC hSt hv hc hs kk)
        · exact lv_tableIn (off := 963) (tgt := 1003) hx hb dL_law_40 (by omega) (by omega) (by rw [hk]; rfl) (by decide) (lc_24 hC hSt hv hc hs kk)
        · exact lv_tableIn (off := 1000) (tgt := 1040) hx hb dL_law_40 (by omega) (by omega) (by rw [hk]; rfl) (by decide) (lc_25 hC hSt hv hc hs kk)
        · exact lv_tableIn (off := 1147) (tgt := 1187) hx hb dL_law_40 (by omega) (by omega) (by rw [hk]; rfl) (by decide) (lc_26 hC hSt hv hc hs kk)
        · exact lv_tableIn (off := 1172) (tgt := 1212) hx hb dL_law_40 (by omega) (by omega) (by rw [hk]; rfl) (by decide) (lc_27 hC hSt hv hc hs kk)
        · exact lv_tableIn (off := 1185) (tgt := 1225) hx hb dL_law_40 (by omega) (by omega) (by rw [hk]; rfl) (by decide) (lc_28 hC hSt hv hc hs kk)
        · exact lv_tableIn (off := 1198) (tgt := 1238) hx hb dL_law_40 (by omega) (by omega) (by rw [hk]; rfl) (by decide) (lc_29 hC hSt hv hc hs kk)
      · refine lv_tableOut (tgt := 1251) hx hb dL_law_40 (by omega) (by decide) ?_
        exact W.widen (Nat.le_add_right _ _) (Nat.le_add_right _ _) (kk N q mm a H locs ls hSt)
