/-! part 9zu: the calls 8 to 15 of the law -/
set_option maxHeartbeats 4000000 in
set_option maxRecDepth 100000 in
theorem lc_8 {F : Nat} {p : Program} {l : Launch} {e : Env} {s : State} {m : MethodId} {below : List Frame} {meth : Method} {c : Code} {b L : Nat} {xs : Nat → Int32} {sa sv : Nat → Nat} {k1 k2 : Nat} {D : va_G} {cy : Nat → ClassId} {Q : State → Prop} {i : Int32} {N : Nat} {q : Nat → Nat} {mm : Nat → Value} {a : Nat → vp_A} {H : Heap} {locs : List Loc} {ls : Array Slot} {cells slots : Nat} (hC : LCx F p l s m c b L xs sa sv k1 k2) (hSt : LSt F s b D cy i N q mm a H locs ls) (hv : LVi i L) (hc : cells + 7 ≤ room_1.cells) (hs : slots + 28 ≤ room_1.slots) (kk : ∀ (N : Nat) (q : Nat → Nat) (mm : Nat → Value) (a : Nat → vp_A) (H : Heap) (locs : List Loc) (ls : Array Slot), LSt F s b D cy i N q mm a H locs ls → W p l e room_1 s m #[.ref b] below meth c H locs (cells + 7) (slots + 28) Q (F0 m 1251 ls [])) : W p l e room_1 s m #[.ref b] below meth c H locs cells slots Q (F0 m 536 ls []) := by
  obtain ⟨hx, hb, hml, hown, hGX, hX, hbl, hst, hXS, hKE, hF⟩ := hC
  obtain ⟨hI, hq, hW, hS, hl⟩ := hSt
  obtain ⟨h1, h2, h3, h4, h5, h6⟩ := hv
  have hG : ∀ w ∈ GG, w.before #[Value.ref b] s = true := fun w hw => hGX w (GG_GX w hw)
  have hbA : ¬ gA N q s.heap.size b := gA_not hq hbl
  have hN := hI.1
  have hcs : cells ≤ room_1.cells ∧ slots ≤ room_1.slots := ⟨Nat.le_trans (Nat.le_add_right _ _) hc, Nat.le_trans (Nat.le_add_right _ _) hs⟩
  refine lv_aload_n hx hb dL_law_536 rfl (lv_at hl 1 rfl) ?_
  refine lv_aload_n hx hb dL_law_537 rfl (lv_at hl 0 rfl) ?_
  refine lv_iload hx hb dL_law_538 (lv_at hl 4 rfl) ?_
  refine lv_iconst (v := 1) hx hb dL_law_540 (by decide) ?_
  refine lv_iadd hx hb dL_law_541 ?_
  refine va_sld hx hb hX hbl hbA hS h1 dL_law_542 ?_
  refine lv_aload_n hx hb dL_law_543 rfl (lv_at hl 0 rfl) ?_
  refine lv_iload hx hb dL_law_544 (lv_at hl 4 rfl) ?_
  refine lv_iconst (v := 2) hx hb dL_law_546 (by decide) ?_
  refine lv_iadd hx hb dL_law_547 ?_
  refine va_sld hx hb hX hbl hbA hS h2 dL_law_548 ?_
  refine lv_aload_n hx hb dL_law_549 rfl (lv_at hl 0 rfl) ?_
  refine lv_iload hx hb dL_law_550 (lv_at hl 4 rfl) ?_
  refine lv_iconst (v := 3) hx hb dL_law_552 (by decide) ?_
  refine lv_iadd hx hb dL_law_553 ?_
  refine va_sld hx hb hX hbl hbA hS h3 dL_law_554 ?_
  refine lw_bz hx hb dL_law_555 dL_law_558 dL_law_559 dL_law_562 ?_
  obtain ⟨out, Qp, hM, hN2⟩ := cw_run hF hI (xs (i + 1).toNatClampNeg) (xs (i + 2).toNatClampNeg) (bzz (xs (i + 3).toNatClampNeg)) (l := l) (D := D) (cy := cy) (sz := H.size)
  refine g_Vi (n := 3) (o := 0) hx hb hml hown hG hW hS [.int (xs (i + 1).toNatClampNeg), .int (xs (i + 2).toNatClampNeg), .int (bzz (xs (i + 3).toNatClampNeg))] hM (ltN hN 0 rfl) gk0 (by decide) rfl rfl (gd_V gx527 gx528 gx529 gx2 gx530) rfl rfl (by decide) ⟨Nat.le_of_ble_eq_true rfl, Nat.le_of_ble_eq_true rfl⟩ rfl hl (Nat.le_of_ble_eq_true rfl) hcs dL_law_563 (fun r mm1 a1 H locs hp hW hS => ?_)
  obtain ⟨rfl, hQ⟩ := hp
  refine lv_aload_n hx hb dL_law_566 rfl (lv_at hl 2 rfl) ?_
  refine lv_aload_n hx hb dL_law_567 rfl (lv_at hl 0 rfl) ?_
  refine lv_iload hx hb dL_law_568 (lv_at hl 4 rfl) ?_
  refine lv_iconst (v := 1) hx hb dL_law_570 (by decide) ?_
  refine lv_iadd hx hb dL_law_571 ?_
  refine va_sld hx hb hX hbl hbA hS h1 dL_law_572 ?_
  refine lv_aload_n hx hb dL_law_573 rfl (lv_at hl 0 rfl) ?_
  refine lv_iload hx hb dL_law_574 (lv_at hl 4 rfl) ?_
  refine lv_iconst (v := 2) hx hb dL_law_576 (by decide) ?_
  refine lv_iadd hx hb dL_law_577 ?_
  refine va_sld hx hb hX hbl hbA hS h2 dL_law_578 ?_
  refine lv_aload_n hx hb dL_law_579 rfl (lv_at hl 0 rfl) ?_
  refine lv_iload hx hb dL_law_580 (lv_at hl 4 rfl) ?_
  refine lv_iconst (v := 3) hx hb dL_law_582 (by decide) ?_
  refine lv_iadd hx hb dL_law_583 ?_
  refine va_sld hx hb hX hbl hbA hS h3 dL_law_584 ?_
  refine lw_bz hx hb dL_law_585 dL_law_588 dL_law_589 dL_law_592 ?_
  have hM2 := hN2 mm1 a1 H.size hQ
  refine g_Vi (n := 3) (o := 69) hx hb hml hown hG hW hS [.int (xs (i + 1).toNatClampNeg), .int (xs (i + 2).toNatClampNeg), .int (bzz (xs (i + 3).toNatClampNeg))] hM2 (ltN hN 69 rfl) gk69 (by decide) rfl rfl (gd_V gx567 gx568 gx569 gx5 gx570) rfl rfl (by decide) ⟨Nat.le_of_ble_eq_true rfl, Nat.le_of_ble_eq_true rfl⟩ rfl hl (Nat.le_of_ble_eq_true rfl) hcs dL_law_593 (fun r mm2 a2 H locs hp hW hS => ?_)
  obtain ⟨rfl, hI2⟩ := hp
  refine lv_icmp_eq (tgt := 1251) hx hb dL_law_596 (by decide) (fun _ => ?_) (fun c9 => absurd rfl c9)
  refine W.widen (k := cells + 7) (n := slots + 28) (by omega) (by omega) ?_
  exact kk N q mm2 a2 H locs ls ⟨hI2, hq, hW, hS, hl⟩
set_option maxHeartbeats 4000000 in
set_option maxRecDepth 100000 in
theorem lc_9 {F : Nat} {p : Program} {l : Launch} {e : Env} {s : State} {m : MethodId} {below : List Frame} {meth : Method} {c : Code} {b L : Nat} {xs : Nat → Int32} {sa sv : Nat → Nat} {k1 k2 : Nat} {D : va_G} {cy : Nat → ClassId} {Q : State → Prop} {i : Int32} {N : Nat} {q : Nat → Nat} {mm : Nat → Value} {a : Nat → vp_A} {H : Heap} {locs : List Loc} {ls : Array Slot} {cells slots : Nat} (hC : LCx F p l s m c b L xs sa sv k1 k2) (hSt : LSt F s b D cy i N q mm a H locs ls) (hv : LVi i L) (hc : cells + 7 ≤ room_1.cells) (hs : slots + 28 ≤ room_1.slots) (kk : ∀ (N : Nat) (q : Nat → Nat) (mm : Nat → Value) (a : Nat → vp_A) (H : Heap) (locs : List Loc) (ls : Array Slot), LSt F s b D cy i N q mm a H locs ls → W p l e room_1 s m #[.ref b] below meth c H locs (cells + 7) (slots + 28) Q (F0 m 1251 ls [])) : W p l e room_1 s m #[.ref b] below meth c H locs cells slots Q (F0 m 601 ls []) := by
  obtain ⟨hx, hb, hml, hown, hGX, hX, hbl, hst, hXS, hKE, hF⟩ := hC
  obtain ⟨hI, hq, hW, hS, hl⟩ := hSt
  obtain ⟨h1, h2, h3, h4, h5, h6⟩ := hv
  have hG : ∀ w ∈ GG, w.before #[Value.ref b] s = true := fun w hw => hGX w (GG_GX w hw)
  have hbA : ¬ gA N q s.heap.size b := gA_not hq hbl
  have hN := hI.1
  have hcs : cells ≤ room_1.cells ∧ slots ≤ room_1.slots := ⟨Nat.le_trans (Nat.le_add_right _ _) hc, Nat.le_trans (Nat.le_add_right _ _) hs⟩
  refine lv_aload_n hx hb dL_law_601 rfl (lv_at hl 1 rfl) ?_
  refine lv_aload_n hx hb dL_law_602 rfl (lv_at hl 0 rfl) ?_
  refine lv_iload hx hb dL_law_603 (lv_at hl 4 rfl) ?_
  refine lv_iconst (v := 1) hx hb dL_law_605 (by decide) ?_
  refine lv_iadd hx hb dL_law_606 ?_
  refine va_sld hx hb hX hbl hbA hS h1 dL_law_607 ?_
  obtain ⟨out, Qp, hM, hN2⟩ := cw_of hF hI (xs (i + 1).toNatClampNeg) (l := l) (D := D) (cy := cy) (sz := H.size)
  refine g_Vi (n := 1) (o := 0) hx hb hml hown hG hW hS [.int (xs (i + 1).toNatClampNeg)] hM (ltN hN 0 rfl) gk0 (by decide) rfl rfl (gd_V gx587 gx588 gx589 gx2 gx590) rfl rfl (by decide) ⟨Nat.le_of_ble_eq_true rfl, Nat.le_of_ble_eq_true rfl⟩ rfl hl (Nat.le_of_ble_eq_true rfl) hcs dL_law_608 (fun r mm1 a1 H locs hp hW hS => ?_)
  obtain ⟨rfl, hQ⟩ := hp
  refine lv_aload_n hx hb dL_law_611 rfl (lv_at hl 2 rfl) ?_
  refine lv_aload_n hx hb dL_law_612 rfl (lv_at hl 0 rfl) ?_
  refine lv_iload hx hb dL_law_613 (lv_at hl 4 rfl) ?_
  refine lv_iconst (v := 1) hx hb dL_law_615 (by decide) ?_
  refine lv_iadd hx hb dL_law_616 ?_
  refine va_sld hx hb hX hbl hbA hS h1 dL_law_617 ?_
  have hM2 := hN2 mm1 a1 H.size hQ
  refine g_Vi (n := 1) (o := 69) hx hb hml hown hG hW hS [.int (xs (i + 1).toNatClampNeg)] hM2 (ltN hN 69 rfl) gk69 (by decide) rfl rfl (gd_V gx596 gx597 gx598 gx5 gx599) rfl rfl (by decide) ⟨Nat.le_of_ble_eq_true rfl, Nat.le_of_ble_eq_true rfl⟩ rfl hl (Nat.le_of_ble_eq_true rfl) hcs dL_law_618 (fun r mm2 a2 H locs hp hW hS => ?_)
  obtain ⟨rfl, hI2⟩ := hp
  refine lv_icmp_eq (tgt := 1251) hx hb dL_law_621 (by decide) (fun _ => ?_) (fun c9 => absurd rfl c9)
  refine W.widen (k := cells + 7) (n := slots + 28) (by omega) (by omega) ?_
  exact kk N q mm2 a2 H locs ls ⟨hI2, hq, hW, hS, hl⟩
set_option maxHeartbeats 4000000 in
set_option maxRecDepth 100000 in
theorem lc_10 {F : Nat} {p : Program} {l : Launch} {e : Env} {s : State} {m : MethodId} {below : List Frame} {meth : Method} {c : Code} {b L : Nat} {xs : Nat → Int32} {sa sv : Nat → Nat} {k1 k2 : Nat} {D : va_G} {cy : Nat → ClassId} {Q : State → Prop} {i : Int32} {N : Nat} {q : Nat → Nat} {mm : Nat → Value} {a : Nat → vp_A} {H : Heap} {locs : List Loc} {ls : Array Slot} {cells slots : Nat} (hC : LCx F p l s m c b L xs sa sv k1 k2) (hSt : LSt F s b D cy i N q mm a H locs ls) (hv : LVi i L) (hc : cells + 7 ≤ room_1.cells) (hs : slots + 28 ≤ room_1.slots) (kk : ∀ (N : Nat) (q : Nat → Nat) (mm : Nat → Value) (a : Nat → vp_A) (H : Heap) (locs : List Loc) (ls : Array Slot), LSt F s b D cy i N q mm a H locs ls → W p l e room_1 s m #[.ref b] below meth c H locs (cells + 7) (slots + 28) Q (F0 m 1251 ls [])) : W p l e room_1 s m #[.ref b] below meth c H locs cells slots Q (F0 m 626 ls []) := by
  obtain ⟨hx, hb, hml, hown, hGX, hX, hbl, hst, hXS, hKE, hF⟩ := hC
  obtain ⟨hI, hq, hW, hS, hl⟩ := hSt
  obtain ⟨h1, h2, h3, h4, h5, h6⟩ := hv
  have hG : ∀ w ∈ GG, w.before #[Value.ref b] s = true := fun w hw => hGX w (GG_GX w hw)
  have hbA : ¬ gA N q s.heap.size b := gA_not hq hbl
  have hN := hI.1
  have hcs : cells ≤ room_1.cells ∧ slots ≤ room_1.slots := ⟨Nat.le_trans (Nat.le_add_right _ _) hc, Nat.le_trans (Nat.le_add_right _ _) hs⟩
  refine lv_aload_n hx hb dL_law_626 rfl (lv_at hl 1 rfl) ?_
  refine lv_aload_n hx hb dL_law_627 rfl (lv_at hl 0 rfl) ?_
  refine lv_iload hx hb dL_law_628 (lv_at hl 4 rfl) ?_
  refine lv_iconst (v := 1) hx hb dL_law_630 (by decide) ?_
  refine lv_iadd hx hb dL_law_631 ?_
  refine va_sld hx hb hX hbl hbA hS h1 dL_law_632 ?_
  refine lv_aload_n hx hb dL_law_633 rfl (lv_at hl 0 rfl) ?_
  refine lv_iload hx hb dL_law_634 (lv_at hl 4 rfl) ?_
  refine lv_iconst (v := 2) hx hb dL_law_636 (by decide) ?_
  refine lv_iadd hx hb dL_law_637 ?_
  refine va_sld hx hb hX hbl hbA hS h2 dL_law_638 ?_
  refine lv_aload_n hx hb dL_law_639 rfl (lv_at hl 0 rfl) ?_
  refine lv_iload hx hb dL_law_640 (lv_at hl 4 rfl) ?_
  refine lv_iconst (v := 3) hx hb dL_law_642 (by decide) ?_
  refine lv_iadd hx hb dL_law_643 ?_
  refine va_sld hx hb hX hbl hbA hS h3 dL_law_644 ?_
  refine lv_aload_n hx hb dL_law_645 rfl (lv_at hl 3 rfl) ?_
  obtain ⟨Qp, hM, hN2⟩ := cw_kind hI (xs (i + 1).toNatClampNeg) (xs (i + 2).toNatClampNeg) (xs (i + 3).toNatClampNeg) (l := l) hst (D := D) (cy := cy) (sz := H.size) (k1 := k1) (k2 := k2)
  refine g_SX (n := 5) hx hb hml hown hGX hW hS [.ref (q 0), .int (xs (i + 1).toNatClampNeg), .int (xs (i + 2).toNatClampNeg), .int (xs (i + 3).toNatClampNeg), .ref (q 104)] KE.ok (by rw [gA_all hq]; exact hKE) hM rfl (gd_SX gx601 gx602 gx603 gx604) rfl rfl (by decide) ⟨Nat.le_of_ble_eq_true rfl, Nat.le_of_ble_eq_true rfl⟩ rfl hl (Nat.le_of_ble_eq_true rfl) ⟨Nat.le_trans (by omega) hc, Nat.le_trans (by omega) hs⟩ dL_law_646 (fun r mm1 a1 H locs hp hW hS => ?_)
  obtain ⟨hm1, hQ⟩ := hp
  dsimp only at hm1 hQ
  rw [hm1] at hW
  refine lv_istore (lv' := [(5, .int r), (0, .ref b), (1, .ref (q 0)), (2, .ref (q 69)), (3, .ref (q 104)), (4, .int i)]) hx hb dL_law_649 hl (by decide) rfl (fun ls hl => ?_)
  have hl := lv_sub (l' := [(0, .ref b), (1, .ref (q 0)), (2, .ref (q 69)), (3, .ref (q 104)), (4, .int i), (5, .int r)]) hl [1, 2, 3, 4, 5, 0] rfl
  refine lv_aload_n hx hb dL_law_651 rfl (lv_at hl 2 rfl) ?_
  refine lv_aload_n hx hb dL_law_652 rfl (lv_at hl 0 rfl) ?_
  refine lv_iload hx hb dL_law_653 (lv_at hl 4 rfl) ?_
  refine lv_iconst (v := 1) hx hb dL_law_655 (by decide) ?_
  refine lv_iadd hx hb dL_law_656 ?_
  refine va_sld hx hb hX hbl hbA hS h1 dL_law_657 ?_
  refine lv_aload_n hx hb dL_law_658 rfl (lv_at hl 0 rfl) ?_
  refine lv_iload hx hb dL_law_659 (lv_at hl 4 rfl) ?_
  refine lv_iconst (v := 2) hx hb dL_law_661 (by decide) ?_
  refine lv_iadd hx hb dL_law_662 ?_
  refine va_sld hx hb hX hbl hbA hS h2 dL_law_663 ?_
  refine lv_aload_n hx hb dL_law_664 rfl (lv_at hl 0 rfl) ?_
  refine lv_iload hx hb dL_law_665 (lv_at hl 4 rfl) ?_
  refine lv_iconst (v := 3) hx hb dL_law_667 (by decide) ?_
  refine lv_iadd hx hb dL_law_668 ?_
  refine va_sld hx hb hX hbl hbA hS h3 dL_law_669 ?_
  obtain ⟨bb, hM2, hr01, hr0⟩ := hN2 r a1 H.size hQ
  refine g_Vi (n := 3) (o := 69) hx hb hml hown hG hW hS [.int (xs (i + 1).toNatClampNeg), .int (xs (i + 2).toNatClampNeg), .int (xs (i + 3).toNatClampNeg)] hM2 (ltN hN 69 rfl) gk69 (by decide) rfl rfl (gd_V gx612 gx613 gx614 gx5 gx615) rfl rfl (by decide) ⟨Nat.le_of_ble_eq_true rfl, Nat.le_of_ble_eq_true rfl⟩ rfl hl (Nat.le_of_ble_eq_true rfl) ⟨Nat.le_trans (by omega) hc, Nat.le_trans (by omega) hs⟩ dL_law_670 (fun r9 mm2 a2 H locs hp hW hS => ?_)
  obtain ⟨rfl, h18, ha2, hI2⟩ := hp
  rw [ha2] at hW hI2
  refine lv_istore (lv' := [(6, .int r9), (0, .ref b), (1, .ref (q 0)), (2, .ref (q 69)), (3, .ref (q 104)), (4, .int i), (5, .int r)]) hx hb dL_law_673 hl (by decide) rfl (fun ls hl => ?_)
  have hl := lv_sub (l' := [(0, .ref b), (1, .ref (q 0)), (2, .ref (q 69)), (3, .ref (q 104)), (4, .int i), (5, .int r), (6, .int r9)]) hl [1, 2, 3, 4, 5, 6, 0] rfl
  refine lv_aload_n hx hb dL_law_675 rfl (lv_at hl 2 rfl) ?_
  refine g_ViR (n := 0) (o := 69) hx hb hml hown hG hW hS [] (kX12_thrown hN h18) (ltN hN 69 rfl) gk69 (by decide) rfl rfl (gd_V gx616 gx617 gx618 gx5 gx619) rfl rfl (by decide) ⟨Nat.le_of_ble_eq_true rfl, Nat.le_of_ble_eq_true rfl⟩ rfl hl (Nat.le_of_ble_eq_true rfl) ⟨Nat.le_trans (by omega) hc, Nat.le_trans (by omega) hs⟩ dL_law_676 (fun H locs hW hS => ?_)
  refine lv_iload hx hb dL_law_679 (lv_at hl 5 rfl) ?_
  refine lv_icmp_eq (tgt := 686) hx hb dL_law_681 (by decide) (fun _ => ?_) (fun c9 => absurd rfl c9)
  have kend : W p l e room_1 s m #[.ref b] below meth c H locs (cells + 1) (slots + 6) Q (F0 m 703 ls []) := by
    refine lv_goto (tgt := 1251) hx hb dL_law_703 (by decide) ?_
    refine W.widen (k := cells + 7) (n := slots + 28) (by omega) (by omega) ?_
    exact kk N q mm2 a1 H locs ls ⟨hI2, hq, hW, hS, lv_sub hl [0, 1, 2, 3, 4] rfl⟩
  refine lv_iload hx hb dL_law_686 (lv_at hl 5 rfl) ?_
  refine lv_if_ne (tgt := 703) hx hb dL_law_688 (by decide) (fun _ => kend) (fun c0 => ?_)
  obtain ⟨g, hg1, hg2⟩ := hr0 c0
  refine lv_aload_n hx hb dL_law_691 rfl (lv_at hl 3 rfl) ?_
  refine lv_iconst (v := 0) hx hb dL_law_692 (by decide) ?_
  refine g_lald hx hb hW (o := 104) (ltN hN 104 rfl) gk104 hg1 (vin (by decide)) dL_law_693 ?_
  refine lv_iload hx hb dL_law_694 (lv_at hl 6 rfl) ?_
  refine lv_i2l hx hb dL_law_696 rfl ?_
  refine W.lcmp hx hb dL_law_697 ?_
  refine lv_if_eq (tgt := 703) hx hb dL_law_698 (by decide) (fun _ => kend) (fun c9 => absurd ((lg_cmp_eq _ _).mpr hg2) c9)
set_option maxHeartbeats 4000000 in
set_option maxRecDepth 100000 in
theorem lc_11 {F : Nat} {p : Program} {l : Launch} {e : Env} {s : State} {m : MethodId} {below : List Frame} {meth : Method} {c : Code} {b L : Nat} {xs : Nat → Int32} {sa sv : Nat → Nat} {k1 k2 : Nat} {D : va_G} {cy : Nat → ClassId} {Q : State → Prop} {i : Int32} {N : Nat} {q : Nat → Nat} {mm : Nat → Value} {a : Nat → vp_A} {H : Heap} {locs : List Loc} {ls : Array Slot} {cells slots : Nat} (hC : LCx F p l s m c b L xs sa sv k1 k2) (hSt : LSt F s b D cy i N q mm a H locs ls) (hv : LVi i L) (hc : cells + 7 ≤ room_1.cells) (hs : slots + 28 ≤ room_1.slots) (kk : ∀ (N : Nat) (q : Nat → Nat) (mm : Nat → Value) (a : Nat → vp_A) (H : Heap) (locs : List Loc) (ls : Array Slot), LSt F s b D cy i N q mm a H locs ls → W p l e room_1 s m #[.ref b] below meth c H locs (cells + 7) (slots + 28) Q (F0 m 1251 ls [])) : W p l e room_1 s m #[.ref b] below meth c H locs cells slots Q (F0 m 706 ls []) := by
  obtain ⟨hx, hb, hml, hown, hGX, hX, hbl, hst, hXS, hKE, hF⟩ := hC
  obtain ⟨hI, hq, hW, hS, hl⟩ := hSt
  obtain ⟨h1, h2, h3, h4, h5, h6⟩ := hv
  have hG : ∀ w ∈ GG, w.before #[Value.ref b] s = true := fun w hw => hGX w (GG_GX w hw)
  have hbA : ¬ gA N q s.heap.size b := gA_not hq hbl
  have hN := hI.1
  have hcs : cells ≤ room_1.cells ∧ slots ≤ room_1.slots := ⟨Nat.le_trans (Nat.le_add_right _ _) hc, Nat.le_trans (Nat.le_add_right _ _) hs⟩
  refine lv_aload_n hx hb dL_law_706 rfl (lv_at hl 1 rfl) ?_
  refine lv_aload_n hx hb dL_law_707 rfl (lv_at hl 0 rfl) ?_
  refine lv_iload hx hb dL_law_708 (lv_at hl 4 rfl) ?_
  refine lv_iconst (v := 1) hx hb dL_law_710 (by decide) ?_
  refine lv_iadd hx hb dL_law_711 ?_
  refine va_sld hx hb hX hbl hbA hS h1 dL_law_712 ?_
  refine lv_aload_n hx hb dL_law_713 rfl (lv_at hl 3 rfl) ?_
  obtain ⟨Qp, hM, hN2⟩ := cw_queued hI (xs (i + 1).toNatClampNeg) (l := l) hst (D := D) (cy := cy) (sz := H.size) (k1 := k1) (k2 := k2)
  refine g_SX (n := 3) hx hb hml hown hGX hW hS [.ref (q 0), .int (xs (i + 1).toNatClampNeg), .ref (q 104)] KE.ok (by rw [gA_all hq]; exact hKE) hM rfl (gd_SX gx620 gx621 gx603 gx622) rfl rfl (by decide) ⟨Nat.le_of_ble_eq_true rfl, Nat.le_of_ble_eq_true rfl⟩ rfl hl (Nat.le_of_ble_eq_true rfl) ⟨Nat.le_trans (by omega) hc, Nat.le_trans (by omega) hs⟩ dL_law_714 (fun r mm1 a1 H locs hp hW hS => ?_)
  obtain ⟨hm1, hQ⟩ := hp
  dsimp only at hm1 hQ
  rw [hm1] at hW
  refine lv_istore (lv' := [(5, .int r), (0, .ref b), (1, .ref (q 0)), (2, .ref (q 69)), (3, .ref (q 104)), (4, .int i)]) hx hb dL_law_717 hl (by decide) rfl (fun ls hl => ?_)
  have hl := lv_sub (l' := [(0, .ref b), (1, .ref (q 0)), (2, .ref (q 69)), (3, .ref (q 104)), (4, .int i), (5, .int r)]) hl [1, 2, 3, 4, 5, 0] rfl
  refine lv_aload_n hx hb dL_law_719 rfl (lv_at hl 2 rfl) ?_
  refine lv_aload_n hx hb dL_law_720 rfl (lv_at hl 0 rfl) ?_
  refine lv_iload hx hb dL_law_721 (lv_at hl 4 rfl) ?_
  refine lv_iconst (v := 1) hx hb dL_law_723 (by decide) ?_
  refine lv_iadd hx hb dL_law_724 ?_
  refine va_sld hx hb hX hbl hbA hS h1 dL_law_725 ?_
  obtain ⟨bb, hM2, hr01, hr0⟩ := hN2 r a1 H.size hQ
  refine g_Vi (n := 1) (o := 69) hx hb hml hown hG hW hS [.int (xs (i + 1).toNatClampNeg)] hM2 (ltN hN 69 rfl) gk69 (by decide) rfl rfl (gd_V gx627 gx628 gx629 gx5 gx630) rfl rfl (by decide) ⟨Nat.le_of_ble_eq_true rfl, Nat.le_of_ble_eq_true rfl⟩ rfl hl (Nat.le_of_ble_eq_true rfl) ⟨Nat.le_trans (by omega) hc, Nat.le_trans (by omega) hs⟩ dL_law_726 (fun r9 mm2 a2 H locs hp hW hS => ?_)
  obtain ⟨rfl, h18, ha2, hI2⟩ := hp
  rw [ha2] at hW hI2
  refine lv_istore (lv' := [(6, .int r9), (0, .ref b), (1, .ref (q 0)), (2, .ref (q 69)), (3, .ref (q 104)), (4, .int i), (5, .int r)]) hx hb dL_law_729 hl (by decide) rfl (fun ls hl => ?_)
  have hl := lv_sub (l' := [(0, .ref b), (1, .ref (q 0)), (2, .ref (q 69)), (3, .ref (q 104)), (4, .int i), (5, .int r), (6, .int r9)]) hl [1, 2, 3, 4, 5, 6, 0] rfl
  refine lv_aload_n hx hb dL_law_731 rfl (lv_at hl 2 rfl) ?_
  refine g_ViR (n := 0) (o := 69) hx hb hml hown hG hW hS [] (kX12_thrown hN h18) (ltN hN 69 rfl) gk69 (by decide) rfl rfl (gd_V gx616 gx617 gx618 gx5 gx619) rfl rfl (by decide) ⟨Nat.le_of_ble_eq_true rfl, Nat.le_of_ble_eq_true rfl⟩ rfl hl (Nat.le_of_ble_eq_true rfl) ⟨Nat.le_trans (by omega) hc, Nat.le_trans (by omega) hs⟩ dL_law_732 (fun H locs hW hS => ?_)
  refine lv_iload hx hb dL_law_735 (lv_at hl 5 rfl) ?_
  refine lv_icmp_eq (tgt := 742) hx hb dL_law_737 (by decide) (fun _ => ?_) (fun c9 => absurd rfl c9)
  have kend : W p l e room_1 s m #[.ref b] below meth c H locs (cells + 1) (slots + 6) Q (F0 m 759 ls []) := by
    refine lv_goto (tgt := 1251) hx hb dL_law_759 (by decide) ?_
    refine W.widen (k := cells + 7) (n := slots + 28) (by omega) (by omega) ?_
    exact kk N q mm2 a1 H locs ls ⟨hI2, hq, hW, hS, lv_sub hl [0, 1, 2, 3, 4] rfl⟩
  refine lv_iload hx hb dL_law_742 (lv_at hl 5 rfl) ?_
  refine lv_if_ne (tgt := 759) hx hb dL_law_744 (by decide) (fun _ => kend) (fun c0 => ?_)
  obtain ⟨g, hg1, hg2⟩ := hr0 c0
  refine lv_aload_n hx hb dL_law_747 rfl (lv_at hl 3 rfl) ?_
  refine lv_iconst (v := 0) hx hb dL_law_748 (by decide) ?_
  refine g_lald hx hb hW (o := 104) (ltN hN 104 rfl) gk104 hg1 (vin (by decide)) dL_law_749 ?_
  refine lv_iload hx hb dL_law_750 (lv_at hl 6 rfl) ?_
  refine lv_i2l hx hb dL_law_752 rfl ?_
  refine W.lcmp hx hb dL_law_753 ?_
  refine lv_if_eq (tgt := 759) hx hb dL_law_754 (by decide) (fun _ => kend) (fun c9 => absurd ((lg_cmp_eq _ _).mpr hg2) c9)
set_option maxHeartbeats 4000000 in
set_option maxRecDepth 100000 in
theorem lc_12 {F : Nat} {p : Program} {l : Launch} {e : Env} {s : State} {m : MethodId} {below : List Frame} {meth : Method} {c : Code} {b L : Nat} {xs : Nat → Int32} {sa sv : Nat → Nat} {k1 k2 : Nat} {D : va_G} {cy : Nat → ClassId} {Q : State → Prop} {i : Int32} {N : Nat} {q : Nat → Nat} {mm : Nat → Value} {a : Nat → vp_A} {H : Heap} {locs : List Loc} {ls : Array Slot} {cells slots : Nat} (hC : LCx F p l s m c b L xs sa sv k1 k2) (hSt : LSt F s b D cy i N q mm a H locs ls) (hv : LVi i L) (hc : cells + 7 ≤ room_1.cells) (hs : slots + 28 ≤ room_1.slots) (kk : ∀ (N : Nat) (q : Nat → Nat) (mm : Nat → Value) (a : Nat → vp_A) (H : Heap) (locs : List Loc) (ls : Array Slot), LSt F s b D cy i N q mm a H locs ls → W p l e room_1 s m #[.ref b] below meth c H locs (cells + 7) (slots + 28) Q (F0 m 1251 ls [])) : W p l e room_1 s m #[.ref b] below meth c H locs cells slots Q (F0 m 762 ls []) := by
  obtain ⟨hx, hb, hml, hown, hGX, hX, hbl, hst, hXS, hKE, hF⟩ := hC
  obtain ⟨hI, hq, hW, hS, hl⟩ := hSt
  obtain ⟨h1, h2, h3, h4, h5, h6⟩ := hv
  have hG : ∀ w ∈ GG, w.before #[Value.ref b] s = true := fun w hw => hGX w (GG_GX w hw)
  have hbA : ¬ gA N q s.heap.size b := gA_not hq hbl
  have hN := hI.1
  have hcs : cells ≤ room_1.cells ∧ slots ≤ room_1.slots := ⟨Nat.le_trans (Nat.le_add_right _ _) hc, Nat.le_trans (Nat.le_add_right _ _) hs⟩
  refine lv_aload_n hx hb dL_law_762 rfl (lv_at hl 1 rfl) ?_
  refine lv_aload_n hx hb dL_law_763 rfl (lv_at hl 0 rfl) ?_
  refine lv_iload hx hb dL_law_764 (lv_at hl 4 rfl) ?_
  refine lv_iconst (v := 1) hx hb dL_law_766 (by decide) ?_
  refine lv_iadd hx hb dL_law_767 ?_
  refine va_sld hx hb hX hbl hbA hS h1 dL_law_768 ?_
  obtain ⟨out, Qp, hM, hN2⟩ := cw_count hF hI (xs (i + 1).toNatClampNeg) (l := l) (D := D) (cy := cy) (sz := H.size)
  refine g_Vi (n := 1) (o := 0) hx hb hml hown hG hW hS [.int (xs (i + 1).toNatClampNeg)] hM (ltN hN 0 rfl) gk0 (by decide) rfl rfl (gd_V gx631 gx632 gx633 gx2 gx634) rfl rfl (by decide) ⟨Nat.le_of_ble_eq_true rfl, Nat.le_of_ble_eq_true rfl⟩ rfl hl (Nat.le_of_ble_eq_true rfl) hcs dL_law_769 (fun r mm1 a1 H locs hp hW hS => ?_)
  obtain ⟨rfl, hQ⟩ := hp
  refine lv_aload_n hx hb dL_law_772 rfl (lv_at hl 2 rfl) ?_
  refine lv_aload_n hx hb dL_law_773 rfl (lv_at hl 0 rfl) ?_
  refine lv_iload hx hb dL_law_774 (lv_at hl 4 rfl) ?_
  refine lv_iconst (v := 1) hx hb dL_law_776 (by decide) ?_
  refine lv_iadd hx hb dL_law_777 ?_
  refine va_sld hx hb hX hbl hbA hS h1 dL_law_778 ?_
  have hM2 := hN2 mm1 a1 H.size hQ
  refine g_Vi (n := 1) (o := 69) hx hb hml hown hG hW hS [.int (xs (i + 1).toNatClampNeg)] hM2 (ltN hN 69 rfl) gk69 (by decide) rfl rfl (gd_V gx635 gx636 gx637 gx5 gx638) rfl rfl (by decide) ⟨Nat.le_of_ble_eq_true rfl, Nat.le_of_ble_eq_true rfl⟩ rfl hl (Nat.le_of_ble_eq_true rfl) hcs dL_law_779 (fun r mm2 a2 H locs hp hW hS => ?_)
  obtain ⟨rfl, hI2⟩ := hp
  refine lv_icmp_eq (tgt := 1251) hx hb dL_law_782 (by decide) (fun _ => ?_) (fun c9 => absurd rfl c9)
  refine W.widen (k := cells + 7) (n := slots + 28) (by omega) (by omega) ?_
  exact kk N q mm2 a2 H locs ls ⟨hI2, hq, hW, hS, hl⟩
set_option maxHeartbeats 4000000 in
set_option maxRecDepth 100000 in
theorem lc_13 {F : Nat} {p : Program} {l : Launch} {e : Env} {s : State} {m : MethodId} {below : List Frame} {meth : Method} {c : Code} {b L : Nat} {xs : Nat → Int32} {sa sv : Nat → Nat} {k1 k2 : Nat} {D : va_G} {cy : Nat → ClassId} {Q : State → Prop} {i : Int32} {N : Nat} {q : Nat → Nat} {mm : Nat → Value} {a : Nat → vp_A} {H : Heap} {locs : List Loc} {ls : Array Slot} {cells slots : Nat} (hC : LCx F p l s m c b L xs sa sv k1 k2) (hSt : LSt F s b D cy i N q mm a H locs ls) (hv : LVi i L) (hc : cells + 7 ≤ room_1.cells) (hs : slots + 28 ≤ room_1.slots) (kk : ∀ (N : Nat) (q : Nat → Nat) (mm : Nat → Value) (a : Nat → vp_A) (H : Heap) (locs : List Loc) (ls : Array Slot), LSt F s b D cy i N q mm a H locs ls → W p l e room_1 s m #[.ref b] below meth c H locs (cells + 7) (slots + 28) Q (F0 m 1251 ls [])) : W p l e room_1 s m #[.ref b] below meth c H locs cells slots Q (F0 m 787 ls []) := by
  obtain ⟨hx, hb, hml, hown, hGX, hX, hbl, hst, hXS, hKE, hF⟩ := hC
  obtain ⟨hI, hq, hW, hS, hl⟩ := hSt
  obtain ⟨h1, h2, h3, h4, h5, h6⟩ := hv
  have hG : ∀ w ∈ GG, w.before #[Value.ref b] s = true := fun w hw => hGX w (GG_GX w hw)
  have hbA : ¬ gA N q s.heap.size b := gA_not hq hbl
  have hN := hI.1
  have hcs : cells ≤ room_1.cells ∧ slots ≤ room_1.slots := ⟨Nat.le_trans (Nat.le_add_right _ _) hc, Nat.le_trans (Nat.le_add_right _ _) hs⟩
  refine lv_aload_n hx hb dL_law_787 rfl (lv_at hl 1 rfl) ?_
  refine lv_aload_n hx hb dL_law_788 rfl (lv_at hl 0 rfl) ?_
  refine lv_iload hx hb dL_law_789 (lv_at hl 4 rfl) ?_
  refine lv_iconst (v := 1) hx hb dL_law_791 (by decide) ?_
  refine lv_iadd hx hb dL_law_792 ?_
  refine va_sld hx hb hX hbl hbA hS h1 dL_law_793 ?_
  refine lv_aload_n hx hb dL_law_794 rfl (lv_at hl 0 rfl) ?_
  refine lv_iload hx hb dL_law_795 (lv_at hl 4 rfl) ?_
  refine lv_iconst (v := 2) hx hb dL_law_797 (by decide) ?_
  refine lv_iadd hx hb dL_law_798 ?_
  refine va_sld hx hb hX hbl hbA hS h2 dL_law_799 ?_
  obtain ⟨out, Qp, hM, hN2⟩ := cw_possible hF hI (xs (i + 1).toNatClampNeg) (xs (i + 2).toNatClampNeg) (l := l) (D := D) (cy := cy) (sz := H.size)
  refine g_Vi (n := 2) (o := 0) hx hb hml hown hG hW hS [.int (xs (i + 1).toNatClampNeg), .int (xs (i + 2).toNatClampNeg)] hM (ltN hN 0 rfl) gk0 (by decide) rfl rfl (gd_V gx639 gx640 gx641 gx2 gx642) rfl rfl (by decide) ⟨Nat.le_of_ble_eq_true rfl, Nat.le_of_ble_eq_true rfl⟩ rfl hl (Nat.le_of_ble_eq_true rfl) hcs dL_law_800 (fun r mm1 a1 H locs hp hW hS => ?_)
  obtain ⟨rfl, hQ⟩ := hp
  refine lv_aload_n hx hb dL_law_803 rfl (lv_at hl 2 rfl) ?_
  refine lv_aload_n hx hb dL_law_804 rfl (lv_at hl 0 rfl) ?_
  refine lv_iload hx hb dL_law_805 (lv_at hl 4 rfl) ?_
  refine lv_iconst (v := 1) hx hb dL_law_807 (by decide) ?_
  refine lv_iadd hx hb dL_law_808 ?_
  refine va_sld hx hb hX hbl hbA hS h1 dL_law_809 ?_
  refine lv_aload_n hx hb dL_law_810 rfl (lv_at hl 0 rfl) ?_
  refine lv_iload hx hb dL_law_811 (lv_at hl 4 rfl) ?_
  refine lv_iconst (v := 2) hx hb dL_law_813 (by decide) ?_
  refine lv_iadd hx hb dL_law_814 ?_
  refine va_sld hx hb hX hbl hbA hS h2 dL_law_815 ?_
  have hM2 := hN2 mm1 a1 H.size hQ
  refine g_Vi (n := 2) (o := 69) hx hb hml hown hG hW hS [.int (xs (i + 1).toNatClampNeg), .int (xs (i + 2).toNatClampNeg)] hM2 (ltN hN 69 rfl) gk69 (by decide) rfl rfl (gd_V gx649 gx650 gx651 gx5 gx652) rfl rfl (by decide) ⟨Nat.le_of_ble_eq_true rfl, Nat.le_of_ble_eq_true rfl⟩ rfl hl (Nat.le_of_ble_eq_true rfl) hcs dL_law_816 (fun r mm2 a2 H locs hp hW hS => ?_)
  obtain ⟨rfl, hI2⟩ := hp
  refine lv_icmp_eq (tgt := 1251) hx hb dL_law_819 (by decide) (fun _ => ?_) (fun c9 => absurd rfl c9)
  refine W.widen (k := cells + 7) (n := slots + 28) (by omega) (by omega) ?_
  exact kk N q mm2 a2 H locs ls ⟨hI2, hq, hW, hS, hl⟩
set_option maxHeartbeats 4000000 in
set_option maxRecDepth 100000 in
theorem lc_14 {F : Nat} {p : Program} {l : Launch} {e : Env} {s : State} {m : MethodId} {below : List Frame} {meth : Method} {c : Code} {b L : Nat} {xs : Nat → Int32} {sa sv : Nat → Nat} {k1 k2 : Nat} {D : va_G} {cy : Nat → ClassId} {Q : State → Prop} {i : Int32} {N : Nat} {q : Nat → Nat} {mm : Nat → Value} {a : Nat → vp_A} {H : Heap} {locs : List Loc} {ls : Array Slot} {cells slots : Nat} (hC : LCx F p l s m c b L xs sa sv k1 k2) (hSt : LSt F s b D cy i N q mm a H locs ls) (hv : LVi i L) (hc : cells + 7 ≤ room_1.cells) (hs : slots + 28 ≤ room_1.slots) (kk : ∀ (N : Nat) (q : Nat → Nat) (mm : Nat → Value) (a : Nat → vp_A) (H : Heap) (locs : List Loc) (ls : Array Slot), LSt F s b D cy i N q mm a H locs ls → W p l e room_1 s m #[.ref b] below meth c H locs (cells + 7) (slots + 28) Q (F0 m 1251 ls [])) : W p l e room_1 s m #[.ref b] below meth c H locs cells slots Q (F0 m 824 ls []) := by
  obtain ⟨hx, hb, hml, hown, hGX, hX, hbl, hst, hXS, hKE, hF⟩ := hC
  obtain ⟨hI, hq, hW, hS, hl⟩ := hSt
  obtain ⟨h1, h2, h3, h4, h5, h6⟩ := hv
  have hG : ∀ w ∈ GG, w.before #[Value.ref b] s = true := fun w hw => hGX w (GG_GX w hw)
  have hbA : ¬ gA N q s.heap.size b := gA_not hq hbl
  have hN := hI.1
  have hcs : cells ≤ room_1.cells ∧ slots ≤ room_1.slots := ⟨Nat.le_trans (Nat.le_add_right _ _) hc, Nat.le_trans (Nat.le_add_right _ _) hs⟩
  refine lv_aload_n hx hb dL_law_824 rfl (lv_at hl 1 rfl) ?_
  obtain ⟨out, Qp, hM, hN2⟩ := cw_reached hF hI  (l := l) (D := D) (cy := cy) (sz := H.size)
  refine g_Vi (n := 0) (o := 0) hx hb hml hown hG hW hS [] hM (ltN hN 0 rfl) gk0 (by decide) rfl rfl (gd_V gx653 gx654 gx655 gx2 gx656) rfl rfl (by decide) ⟨Nat.le_of_ble_eq_true rfl, Nat.le_of_ble_eq_true rfl⟩ rfl hl (Nat.le_of_ble_eq_true rfl) hcs dL_law_825 (fun r mm1 a1 H locs hp hW hS => ?_)
  obtain ⟨rfl, hQ⟩ := hp
  refine lv_aload_n hx hb dL_law_828 rfl (lv_at hl 2 rfl) ?_
  have hM2 := hN2 mm1 a1 H.size hQ
  refine g_Vi (n := 0) (o := 69) hx hb hml hown hG hW hS [] hM2 (ltN hN 69 rfl) gk69 (by decide) rfl rfl (gd_V gx709 gx710 gx711 gx5 gx712) rfl rfl (by decide) ⟨Nat.le_of_ble_eq_true rfl, Nat.le_of_ble_eq_true rfl⟩ rfl hl (Nat.le_of_ble_eq_true rfl) hcs dL_law_829 (fun r mm2 a2 H locs hp hW hS => ?_)
  obtain ⟨rfl, hI2⟩ := hp
  refine lv_icmp_eq (tgt := 1251) hx hb dL_law_832 (by decide) (fun _ => ?_) (fun c9 => absurd rfl c9)
  refine W.widen (k := cells + 7) (n := slots + 28) (by omega) (by omega) ?_
  exact kk N q mm2 a2 H locs ls ⟨hI2, hq, hW, hS, hl⟩
set_option maxHeartbeats 4000000 in
set_option maxRecDepth 100000 in
theorem lc_15 {F : Nat} {p : Program} {l : Launch} {e : Env} {s : State} {m : MethodId} {below : List Frame} {meth : Method} {c : Code} {b L : Nat} {xs : Nat → Int32} {sa sv : Nat → Nat} {k1 k2 : Nat} {D : va_G} {cy : Nat → ClassId} {Q : State → Prop} {i : Int32} {N : Nat} {q : Nat → Nat} {mm : Nat → Value} {a : Nat → vp_A} {H : Heap} {locs : List Loc} {ls : Array Slot} {cells slots : Nat} (hC : LCx F p l s m c b L xs sa sv k1 k2) (hSt : LSt F s b D cy i N q mm a H locs ls) (hv : LVi i L) (hc : cells + 7 ≤ room_1.cells) (hs : slots + 28 ≤ room_1.slots) (kk : ∀ (N : Nat) (q : Nat → Nat) (mm : Nat → Value) (a : Nat → vp_A) (H : Heap) (locs : List Loc) (ls : Array Slot), LSt F s b D cy i N q mm a H locs ls → W p l e room_1 s m #[.ref b] below meth c H locs (cells + 7) (slots + 28) Q (F0 m 1251 ls [])) : W p l e room_1 s m #[.ref b] below meth c H locs cells slots Q (F0 m 837 ls []) := by
  obtain ⟨hx, hb, hml, hown, hGX, hX, hbl, hst, hXS, hKE, hF⟩ := hC
  obtain ⟨hI, hq, hW, hS, hl⟩ := hSt
  obtain ⟨h1, h2, h3, h4, h5, h6⟩ := hv
  have hG : ∀ w ∈ GG, w.before #[Value.ref b] s = true := fun w hw => hGX w (GG_GX w hw)
  have hbA : ¬ gA N q s.heap.size b := gA_not hq hbl
  have hN := hI.1
  have hcs : cells ≤ room_1.cells ∧ slots ≤ room_1.slots := ⟨Nat.le_trans (Nat.le_add_right _ _) hc, Nat.le_trans (Nat.le_add_right _ _) hs⟩
  refine lv_aload_n hx hb dL_law_837 rfl (lv_at hl 1 rfl) ?_
  obtain ⟨out, Qp, hM, hN2⟩ := cw_worst hF hI  (l := l) (D := D) (cy := cy) (sz := H.size)
  refine g_Vi (n := 0) (o := 0) hx hb hml hown hG hW hS [] hM (ltN hN 0 rfl) gk0 (by decide) rfl rfl (gd_V gx743 gx744 gx745 gx2 gx746) rfl rfl (by decide) ⟨Nat.le_of_ble_eq_true rfl, Nat.le_of_ble_eq_true rfl⟩ rfl hl (Nat.le_of_ble_eq_true rfl) hcs dL_law_838 (fun r mm1 a1 H locs hp hW hS => ?_)
  obtain ⟨rfl, hQ⟩ := hp
  refine lv_aload_n hx hb dL_law_841 rfl (lv_at hl 2 rfl) ?_
  have hM2 := hN2 mm1 a1 H.size hQ
  refine g_Vi (n := 0) (o := 69) hx hb hml hown hG hW hS [] hM2 (ltN hN 69 rfl) gk69 (by decide) rfl rfl (gd_V gx796 gx797 gx798 gx5 gx799) rfl rfl (by decide) ⟨Nat.le_of_ble_eq_true rfl, Nat.le_of_ble_eq_true rfl⟩ rfl hl (Nat.le_of_ble_eq_true rfl) hcs dL_law_842 (fun r mm2 a2 H locs hp hW hS => ?_)
  obtain ⟨rfl, hI2⟩ := hp
  refine lv_icmp_eq (tgt := 1251) hx hb dL_law_845 (by decide) (fun _ => ?_) (fun c9 => absurd rfl c9)
  refine W.widen (k := cells + 7) (n := slots + 28) (by omega) (by omega) ?_
  exact kk N q mm2 a2 H locs ls ⟨hI2, hq, hW, hS, hl⟩
