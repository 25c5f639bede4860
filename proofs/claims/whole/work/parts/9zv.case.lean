/-! part 9zv: the calls 16 to 22 of the law -/
set_option maxHeartbeats 4000000 in
set_option maxRecDepth 100000 in
theorem lc_16 {F : Nat} {p : Program} {l : Launch} {e : Env} {s : State} {m : MethodId} {below : List Frame} {meth : Method} {c : Code} {b L : Nat} {xs : Nat → Int32} {sa sv : Nat → Nat} {k1 k2 : Nat} {D : va_G} {cy : Nat → ClassId} {Q : State → Prop} {i : Int32} {N : Nat} {q : Nat → Nat} {mm : Nat → Value} {a : Nat → vp_A} {H : Heap} {locs : List Loc} {ls : Array Slot} {cells slots : Nat} (hC : LCx F p l s m c b L xs sa sv k1 k2) (hSt : LSt F s b D cy i N q mm a H locs ls) (hv : LVi i L) (hc : cells + 7 ≤ room_1.cells) (hs : slots + 28 ≤ room_1.slots) (kk : ∀ (N : Nat) (q : Nat → Nat) (mm : Nat → Value) (a : Nat → vp_A) (H : Heap) (locs : List Loc) (ls : Array Slot), LSt F s b D cy i N q mm a H locs ls → W p l e room_1 s m #[.ref b] below meth c H locs (cells + 7) (slots + 28) Q (F0 m 1251 ls [])) : W p l e room_1 s m #[.ref b] below meth c H locs cells slots Q (F0 m 850 ls []) := by
  obtain ⟨hx, hb, hml, hown, hGX, hX, hbl, hst, hXS, hKE, hF⟩ := hC
  obtain ⟨hI, hq, hW, hS, hl⟩ := hSt
  obtain ⟨h1, h2, h3, h4, h5, h6⟩ := hv
  have hG : ∀ w ∈ GG, w.before #[Value.ref b] s = true := fun w hw => hGX w (GG_GX w hw)
  have hbA : ¬ gA N q s.heap.size b := gA_not hq hbl
  have hN := hI.1
  have hcs : cells ≤ room_1.cells ∧ slots ≤ room_1.slots := ⟨Nat.le_trans (Nat.le_add_right _ _) hc, Nat.le_trans (Nat.le_add_right _ _) hs⟩
  refine lv_aload_n hx hb dL_law_850 rfl (lv_at hl 1 rfl) ?_
  obtain ⟨out, Qp, hM, hN2⟩ := cw_soonest hF hI  (l := l) (D := D) (cy := cy) (sz := H.size)
  refine g_Vi (n := 0) (o := 0) hx hb hml hown hG hW hS [] hM (ltN hN 0 rfl) gk0 (by decide) rfl rfl (gd_V gx827 gx828 gx829 gx2 gx830) rfl rfl (by decide) ⟨Nat.le_of_ble_eq_true rfl, Nat.le_of_ble_eq_true rfl⟩ rfl hl (Nat.le_of_ble_eq_true rfl) hcs dL_law_851 (fun r mm1 a1 H locs hp hW hS => ?_)
  obtain ⟨rfl, hQ⟩ := hp
  refine lv_aload_n hx hb dL_law_854 rfl (lv_at hl 2 rfl) ?_
  have hM2 := hN2 mm1 a1 H.size hQ
  refine g_Vi (n := 0) (o := 69) hx hb hml hown hG hW hS [] hM2 (ltN hN 69 rfl) gk69 (by decide) rfl rfl (gd_V gx862 gx863 gx864 gx5 gx865) rfl rfl (by decide) ⟨Nat.le_of_ble_eq_true rfl, Nat.le_of_ble_eq_true rfl⟩ rfl hl (Nat.le_of_ble_eq_true rfl) hcs dL_law_855 (fun r mm2 a2 H locs hp hW hS => ?_)
  obtain ⟨rfl, hI2⟩ := hp
  refine lv_icmp_eq (tgt := 1251) hx hb dL_law_858 (by decide) (fun _ => ?_) (fun c9 => absurd rfl c9)
  refine W.widen (k := cells + 7) (n := slots + 28) (by omega) (by omega) ?_
  exact kk N q mm2 a2 H locs ls ⟨hI2, hq, hW, hS, hl⟩
set_option maxHeartbeats 4000000 in
set_option maxRecDepth 100000 in
theorem lc_17 {F : Nat} {p : Program} {l : Launch} {e : Env} {s : State} {m : MethodId} {below : List Frame} {meth : Method} {c : Code} {b L : Nat} {xs : Nat → Int32} {sa sv : Nat → Nat} {k1 k2 : Nat} {D : va_G} {cy : Nat → ClassId} {Q : State → Prop} {i : Int32} {N : Nat} {q : Nat → Nat} {mm : Nat → Value} {a : Nat → vp_A} {H : Heap} {locs : List Loc} {ls : Array Slot} {cells slots : Nat} (hC : LCx F p l s m c b L xs sa sv k1 k2) (hSt : LSt F s b D cy i N q mm a H locs ls) (hv : LVi i L) (hc : cells + 7 ≤ room_1.cells) (hs : slots + 28 ≤ room_1.slots) (kk : ∀ (N : Nat) (q : Nat → Nat) (mm : Nat → Value) (a : Nat → vp_A) (H : Heap) (locs : List Loc) (ls : Array Slot), LSt F s b D cy i N q mm a H locs ls → W p l e room_1 s m #[.ref b] below meth c H locs (cells + 7) (slots + 28) Q (F0 m 1251 ls [])) : W p l e room_1 s m #[.ref b] below meth c H locs cells slots Q (F0 m 863 ls []) := by
  obtain ⟨hx, hb, hml, hown, hGX, hX, hbl, hst, hXS, hKE, hF⟩ := hC
  obtain ⟨hI, hq, hW, hS, hl⟩ := hSt
  obtain ⟨h1, h2, h3, h4, h5, h6⟩ := hv
  have hG : ∀ w ∈ GG, w.before #[Value.ref b] s = true := fun w hw => hGX w (GG_GX w hw)
  have hbA : ¬ gA N q s.heap.size b := gA_not hq hbl
  have hN := hI.1
  have hcs : cells ≤ room_1.cells ∧ slots ≤ room_1.slots := ⟨Nat.le_trans (Nat.le_add_right _ _) hc, Nat.le_trans (Nat.le_add_right _ _) hs⟩
  refine lv_aload_n hx hb dL_law_863 rfl (lv_at hl 1 rfl) ?_
  refine lv_aload_n hx hb dL_law_864 rfl (lv_at hl 0 rfl) ?_
  refine lv_iload hx hb dL_law_865 (lv_at hl 4 rfl) ?_
  refine lv_iconst (v := 1) hx hb dL_law_867 (by decide) ?_
  refine lv_iadd hx hb dL_law_868 ?_
  refine va_sld hx hb hX hbl hbA hS h1 dL_law_869 ?_
  refine lv_aload_n hx hb dL_law_870 rfl (lv_at hl 0 rfl) ?_
  refine lv_iload hx hb dL_law_871 (lv_at hl 4 rfl) ?_
  refine lv_iconst (v := 2) hx hb dL_law_873 (by decide) ?_
  refine lv_iadd hx hb dL_law_874 ?_
  refine va_sld hx hb hX hbl hbA hS h2 dL_law_875 ?_
  obtain ⟨out, Qp, hM, hN2⟩ := cw_way hF hI (xs (i + 1).toNatClampNeg) (xs (i + 2).toNatClampNeg) (l := l) (D := D) (cy := cy) (sz := H.size)
  refine g_Vi (n := 2) (o := 0) hx hb hml hown hG hW hS [.int (xs (i + 1).toNatClampNeg), .int (xs (i + 2).toNatClampNeg)] hM (ltN hN 0 rfl) gk0 (by decide) rfl rfl (gd_V gx877 gx878 gx879 gx2 gx880) rfl rfl (by decide) ⟨Nat.le_of_ble_eq_true rfl, Nat.le_of_ble_eq_true rfl⟩ rfl hl (Nat.le_of_ble_eq_true rfl) hcs dL_law_876 (fun r mm1 a1 H locs hp hW hS => ?_)
  obtain ⟨rfl, hQ⟩ := hp
  refine lv_aload_n hx hb dL_law_879 rfl (lv_at hl 2 rfl) ?_
  refine lv_aload_n hx hb dL_law_880 rfl (lv_at hl 0 rfl) ?_
  refine lv_iload hx hb dL_law_881 (lv_at hl 4 rfl) ?_
  refine lv_iconst (v := 1) hx hb dL_law_883 (by decide) ?_
  refine lv_iadd hx hb dL_law_884 ?_
  refine va_sld hx hb hX hbl hbA hS h1 dL_law_885 ?_
  refine lv_aload_n hx hb dL_law_886 rfl (lv_at hl 0 rfl) ?_
  refine lv_iload hx hb dL_law_887 (lv_at hl 4 rfl) ?_
  refine lv_iconst (v := 2) hx hb dL_law_889 (by decide) ?_
  refine lv_iadd hx hb dL_law_890 ?_
  refine va_sld hx hb hX hbl hbA hS h2 dL_law_891 ?_
  have hM2 := hN2 mm1 a1 H.size hQ
  refine g_Vi (n := 2) (o := 69) hx hb hml hown hG hW hS [.int (xs (i + 1).toNatClampNeg), .int (xs (i + 2).toNatClampNeg)] hM2 (ltN hN 69 rfl) gk69 (by decide) rfl rfl (gd_V gx896 gx897 gx898 gx5 gx899) rfl rfl (by decide) ⟨Nat.le_of_ble_eq_true rfl, Nat.le_of_ble_eq_true rfl⟩ rfl hl (Nat.le_of_ble_eq_true rfl) hcs dL_law_892 (fun r mm2 a2 H locs hp hW hS => ?_)
  obtain ⟨rfl, hI2⟩ := hp
  refine lv_icmp_eq (tgt := 1251) hx hb dL_law_895 (by decide) (fun _ => ?_) (fun c9 => absurd rfl c9)
  refine W.widen (k := cells + 7) (n := slots + 28) (by omega) (by omega) ?_
  exact kk N q mm2 a2 H locs ls ⟨hI2, hq, hW, hS, hl⟩
set_option maxHeartbeats 4000000 in
set_option maxRecDepth 100000 in
theorem lc_18 {F : Nat} {p : Program} {l : Launch} {e : Env} {s : State} {m : MethodId} {below : List Frame} {meth : Method} {c : Code} {b L : Nat} {xs : Nat → Int32} {sa sv : Nat → Nat} {k1 k2 : Nat} {D : va_G} {cy : Nat → ClassId} {Q : State → Prop} {i : Int32} {N : Nat} {q : Nat → Nat} {mm : Nat → Value} {a : Nat → vp_A} {H : Heap} {locs : List Loc} {ls : Array Slot} {cells slots : Nat} (hC : LCx F p l s m c b L xs sa sv k1 k2) (hSt : LSt F s b D cy i N q mm a H locs ls) (hv : LVi i L) (hc : cells + 7 ≤ room_1.cells) (hs : slots + 28 ≤ room_1.slots) (kk : ∀ (N : Nat) (q : Nat → Nat) (mm : Nat → Value) (a : Nat → vp_A) (H : Heap) (locs : List Loc) (ls : Array Slot), LSt F s b D cy i N q mm a H locs ls → W p l e room_1 s m #[.ref b] below meth c H locs (cells + 7) (slots + 28) Q (F0 m 1251 ls [])) : W p l e room_1 s m #[.ref b] below meth c H locs cells slots Q (F0 m 900 ls []) := by
  obtain ⟨hx, hb, hml, hown, hGX, hX, hbl, hst, hXS, hKE, hF⟩ := hC
  obtain ⟨hI, hq, hW, hS, hl⟩ := hSt
  obtain ⟨h1, h2, h3, h4, h5, h6⟩ := hv
  have hG : ∀ w ∈ GG, w.before #[Value.ref b] s = true := fun w hw => hGX w (GG_GX w hw)
  have hbA : ¬ gA N q s.heap.size b := gA_not hq hbl
  have hN := hI.1
  have hcs : cells ≤ room_1.cells ∧ slots ≤ room_1.slots := ⟨Nat.le_trans (Nat.le_add_right _ _) hc, Nat.le_trans (Nat.le_add_right _ _) hs⟩
  refine lv_aload_n hx hb dL_law_900 rfl (lv_at hl 1 rfl) ?_
  obtain ⟨out, Qp, hM, hN2⟩ := cw_barren hF hI  (l := l) (D := D) (cy := cy) (sz := H.size)
  refine g_Vi (n := 0) (o := 0) hx hb hml hown hG hW hS [] hM (ltN hN 0 rfl) gk0 (by decide) rfl rfl (gd_V gx900 gx901 gx902 gx2 gx903) rfl rfl (by decide) ⟨Nat.le_of_ble_eq_true rfl, Nat.le_of_ble_eq_true rfl⟩ rfl hl (Nat.le_of_ble_eq_true rfl) hcs dL_law_901 (fun r mm1 a1 H locs hp hW hS => ?_)
  obtain ⟨rfl, hQ⟩ := hp
  refine lv_aload_n hx hb dL_law_904 rfl (lv_at hl 2 rfl) ?_
  have hM2 := hN2 mm1 a1 H.size hQ
  refine g_Vi (n := 0) (o := 69) hx hb hml hown hG hW hS [] hM2 (ltN hN 69 rfl) gk69 (by decide) rfl rfl (gd_V gx910 gx911 gx912 gx5 gx913) rfl rfl (by decide) ⟨Nat.le_of_ble_eq_true rfl, Nat.le_of_ble_eq_true rfl⟩ rfl hl (Nat.le_of_ble_eq_true rfl) hcs dL_law_905 (fun r mm2 a2 H locs hp hW hS => ?_)
  obtain ⟨rfl, hI2⟩ := hp
  refine lv_icmp_eq (tgt := 1251) hx hb dL_law_908 (by decide) (fun _ => ?_) (fun c9 => absurd rfl c9)
  refine W.widen (k := cells + 7) (n := slots + 28) (by omega) (by omega) ?_
  exact kk N q mm2 a2 H locs ls ⟨hI2, hq, hW, hS, hl⟩
set_option maxHeartbeats 4000000 in
set_option maxRecDepth 100000 in
theorem lc_19 {F : Nat} {p : Program} {l : Launch} {e : Env} {s : State} {m : MethodId} {below : List Frame} {meth : Method} {c : Code} {b L : Nat} {xs : Nat → Int32} {sa sv : Nat → Nat} {k1 k2 : Nat} {D : va_G} {cy : Nat → ClassId} {Q : State → Prop} {i : Int32} {N : Nat} {q : Nat → Nat} {mm : Nat → Value} {a : Nat → vp_A} {H : Heap} {locs : List Loc} {ls : Array Slot} {cells slots : Nat} (hC : LCx F p l s m c b L xs sa sv k1 k2) (hSt : LSt F s b D cy i N q mm a H locs ls) (hv : LVi i L) (hc : cells + 7 ≤ room_1.cells) (hs : slots + 28 ≤ room_1.slots) (kk : ∀ (N : Nat) (q : Nat → Nat) (mm : Nat → Value) (a : Nat → vp_A) (H : Heap) (locs : List Loc) (ls : Array Slot), LSt F s b D cy i N q mm a H locs ls → W p l e room_1 s m #[.ref b] below meth c H locs (cells + 7) (slots + 28) Q (F0 m 1251 ls [])) : W p l e room_1 s m #[.ref b] below meth c H locs cells slots Q (F0 m 913 ls []) := by
  obtain ⟨hx, hb, hml, hown, hGX, hX, hbl, hst, hXS, hKE, hF⟩ := hC
  obtain ⟨hI, hq, hW, hS, hl⟩ := hSt
  obtain ⟨h1, h2, h3, h4, h5, h6⟩ := hv
  have hG : ∀ w ∈ GG, w.before #[Value.ref b] s = true := fun w hw => hGX w (GG_GX w hw)
  have hbA : ¬ gA N q s.heap.size b := gA_not hq hbl
  have hN := hI.1
  have hcs : cells ≤ room_1.cells ∧ slots ≤ room_1.slots := ⟨Nat.le_trans (Nat.le_add_right _ _) hc, Nat.le_trans (Nat.le_add_right _ _) hs⟩
  refine lv_aload_n hx hb dL_law_913 rfl (lv_at hl 1 rfl) ?_
  obtain ⟨out, Qp, hM, hN2⟩ := cw_steps hF hI  (l := l) (D := D) (cy := cy) (sz := H.size)
  refine g_Vi (n := 0) (o := 0) hx hb hml hown hG hW hS [] hM (ltN hN 0 rfl) gk0 (by decide) rfl rfl (gd_V gx914 gx915 gx916 gx2 gx917) rfl rfl (by decide) ⟨Nat.le_of_ble_eq_true rfl, Nat.le_of_ble_eq_true rfl⟩ rfl hl (Nat.le_of_ble_eq_true rfl) hcs dL_law_914 (fun r mm1 a1 H locs hp hW hS => ?_)
  obtain ⟨rfl, hQ⟩ := hp
  refine lv_aload_n hx hb dL_law_917 rfl (lv_at hl 2 rfl) ?_
  have hM2 := hN2 mm1 a1 H.size hQ
  refine g_Vi (n := 0) (o := 69) hx hb hml hown hG hW hS [] hM2 (ltN hN 69 rfl) gk69 (by decide) rfl rfl (gd_V gx922 gx923 gx924 gx5 gx925) rfl rfl (by decide) ⟨Nat.le_of_ble_eq_true rfl, Nat.le_of_ble_eq_true rfl⟩ rfl hl (Nat.le_of_ble_eq_true rfl) hcs dL_law_918 (fun r mm2 a2 H locs hp hW hS => ?_)
  obtain ⟨rfl, hI2⟩ := hp
  refine lv_icmp_eq (tgt := 1251) hx hb dL_law_921 (by decide) (fun _ => ?_) (fun c9 => absurd rfl c9)
  refine W.widen (k := cells + 7) (n := slots + 28) (by omega) (by omega) ?_
  exact kk N q mm2 a2 H locs ls ⟨hI2, hq, hW, hS, hl⟩
set_option maxHeartbeats 4000000 in
set_option maxRecDepth 100000 in
theorem lc_20 {F : Nat} {p : Program} {l : Launch} {e : Env} {s : State} {m : MethodId} {below : List Frame} {meth : Method} {c : Code} {b L : Nat} {xs : Nat → Int32} {sa sv : Nat → Nat} {k1 k2 : Nat} {D : va_G} {cy : Nat → ClassId} {Q : State → Prop} {i : Int32} {N : Nat} {q : Nat → Nat} {mm : Nat → Value} {a : Nat → vp_A} {H : Heap} {locs : List Loc} {ls : Array Slot} {cells slots : Nat} (hC : LCx F p l s m c b L xs sa sv k1 k2) (hSt : LSt F s b D cy i N q mm a H locs ls) (hv : LVi i L) (hc : cells + 7 ≤ room_1.cells) (hs : slots + 28 ≤ room_1.slots) (kk : ∀ (N : Nat) (q : Nat → Nat) (mm : Nat → Value) (a : Nat → vp_A) (H : Heap) (locs : List Loc) (ls : Array Slot), LSt F s b D cy i N q mm a H locs ls → W p l e room_1 s m #[.ref b] below meth c H locs (cells + 7) (slots + 28) Q (F0 m 1251 ls [])) : W p l e room_1 s m #[.ref b] below meth c H locs cells slots Q (F0 m 926 ls []) := by
  obtain ⟨hx, hb, hml, hown, hGX, hX, hbl, hst, hXS, hKE, hF⟩ := hC
  obtain ⟨hI, hq, hW, hS, hl⟩ := hSt
  obtain ⟨h1, h2, h3, h4, h5, h6⟩ := hv
  have hG : ∀ w ∈ GG, w.before #[Value.ref b] s = true := fun w hw => hGX w (GG_GX w hw)
  have hbA : ¬ gA N q s.heap.size b := gA_not hq hbl
  have hN := hI.1
  have hcs : cells ≤ room_1.cells ∧ slots ≤ room_1.slots := ⟨Nat.le_trans (Nat.le_add_right _ _) hc, Nat.le_trans (Nat.le_add_right _ _) hs⟩
  refine lv_aload_n hx hb dL_law_926 rfl (lv_at hl 1 rfl) ?_
  refine lv_aload_n hx hb dL_law_927 rfl (lv_at hl 0 rfl) ?_
  refine lv_iload hx hb dL_law_928 (lv_at hl 4 rfl) ?_
  refine lv_iconst (v := 1) hx hb dL_law_930 (by decide) ?_
  refine lv_iadd hx hb dL_law_931 ?_
  refine va_sld hx hb hX hbl hbA hS h1 dL_law_932 ?_
  obtain ⟨out, Qp, hM, hN2⟩ := cw_odds hF hI (xs (i + 1).toNatClampNeg) (l := l) (D := D) (cy := cy) (sz := H.size)
  refine g_Vl (n := 1) (o := 0) hx hb hml hown hG hW hS [.int (xs (i + 1).toNatClampNeg)] hM (ltN hN 0 rfl) gk0 (by decide) rfl rfl (gd_V gx926 gx927 gx928 gx2 gx929) rfl rfl (by decide) ⟨Nat.le_of_ble_eq_true rfl, Nat.le_of_ble_eq_true rfl⟩ rfl hl (Nat.le_of_ble_eq_true rfl) hcs dL_law_933 (fun r mm1 a1 H locs hp hW hS => ?_)
  obtain ⟨rfl, hQ⟩ := hp
  refine lv_aload_n hx hb dL_law_936 rfl (lv_at hl 2 rfl) ?_
  refine lv_aload_n hx hb dL_law_937 rfl (lv_at hl 0 rfl) ?_
  refine lv_iload hx hb dL_law_938 (lv_at hl 4 rfl) ?_
  refine lv_iconst (v := 1) hx hb dL_law_940 (by decide) ?_
  refine lv_iadd hx hb dL_law_941 ?_
  refine va_sld hx hb hX hbl hbA hS h1 dL_law_942 ?_
  have hM2 := hN2 mm1 a1 H.size hQ
  refine g_Vl (n := 1) (o := 69) hx hb hml hown hG hW hS [.int (xs (i + 1).toNatClampNeg)] hM2 (ltN hN 69 rfl) gk69 (by decide) rfl rfl (gd_V gx961 gx962 gx963 gx5 gx964) rfl rfl (by decide) ⟨Nat.le_of_ble_eq_true rfl, Nat.le_of_ble_eq_true rfl⟩ rfl hl (Nat.le_of_ble_eq_true rfl) hcs dL_law_943 (fun r mm2 a2 H locs hp hW hS => ?_)
  obtain ⟨rfl, hI2⟩ := hp
  refine W.lcmp hx hb dL_law_946 ?_
  refine lv_if_eq (tgt := 1251) hx hb dL_law_947 (by decide) (fun _ => ?_) (fun c9 => absurd ((lg_cmp_eq _ _).mpr rfl) c9)
  refine W.widen (k := cells + 7) (n := slots + 28) (by omega) (by omega) ?_
  exact kk N q mm2 a2 H locs ls ⟨hI2, hq, hW, hS, hl⟩
set_option maxHeartbeats 4000000 in
set_option maxRecDepth 100000 in
theorem lc_21 {F : Nat} {p : Program} {l : Launch} {e : Env} {s : State} {m : MethodId} {below : List Frame} {meth : Method} {c : Code} {b L : Nat} {xs : Nat → Int32} {sa sv : Nat → Nat} {k1 k2 : Nat} {D : va_G} {cy : Nat → ClassId} {Q : State → Prop} {i : Int32} {N : Nat} {q : Nat → Nat} {mm : Nat → Value} {a : Nat → vp_A} {H : Heap} {locs : List Loc} {ls : Array Slot} {cells slots : Nat} (hC : LCx F p l s m c b L xs sa sv k1 k2) (hSt : LSt F s b D cy i N q mm a H locs ls) (hv : LVi i L) (hc : cells + 7 ≤ room_1.cells) (hs : slots + 28 ≤ room_1.slots) (kk : ∀ (N : Nat) (q : Nat → Nat) (mm : Nat → Value) (a : Nat → vp_A) (H : Heap) (locs : List Loc) (ls : Array Slot), LSt F s b D cy i N q mm a H locs ls → W p l e room_1 s m #[.ref b] below meth c H locs (cells + 7) (slots + 28) Q (F0 m 1251 ls [])) : W p l e room_1 s m #[.ref b] below meth c H locs cells slots Q (F0 m 952 ls []) := by
  obtain ⟨hx, hb, hml, hown, hGX, hX, hbl, hst, hXS, hKE, hF⟩ := hC
  obtain ⟨hI, hq, hW, hS, hl⟩ := hSt
  obtain ⟨h1, h2, h3, h4, h5, h6⟩ := hv
  have hG : ∀ w ∈ GG, w.before #[Value.ref b] s = true := fun w hw => hGX w (GG_GX w hw)
  have hbA : ¬ gA N q s.heap.size b := gA_not hq hbl
  have hN := hI.1
  have hcs : cells ≤ room_1.cells ∧ slots ≤ room_1.slots := ⟨Nat.le_trans (Nat.le_add_right _ _) hc, Nat.le_trans (Nat.le_add_right _ _) hs⟩
  refine lv_aload_n hx hb dL_law_952 rfl (lv_at hl 1 rfl) ?_
  obtain ⟨out, Qp, hM, hN2⟩ := cw_enough hF hI  (l := l) (D := D) (cy := cy) (sz := H.size)
  refine g_Via (n := 0) (o := 0) hx hb hml hown hG hW hS [] hM (ltN hN 0 rfl) gk0 (by decide) rfl rfl (gd_V gx982 gx983 gx984 gx2 gx985) rfl rfl (by decide) ⟨Nat.le_of_ble_eq_true rfl, Nat.le_of_ble_eq_true rfl⟩ rfl hl (Nat.le_of_ble_eq_true rfl) ⟨hc, hs⟩ dL_law_953 (fun r mm1 a1 H locs hp hW hS => ?_)
  obtain ⟨rfl, hQ⟩ := hp
  refine lv_aload_n hx hb dL_law_956 rfl (lv_at hl 2 rfl) ?_
  have hM2 := hN2 mm1 a1 H.size hQ
  refine g_Vi (n := 0) (o := 69) hx hb hml hown hG hW hS [] hM2 (ltN hN 69 rfl) gk69 (by decide) rfl rfl (gd_V gx997 gx998 gx999 gx5 gx1000) rfl rfl (by decide) ⟨Nat.le_of_ble_eq_true rfl, Nat.le_of_ble_eq_true rfl⟩ rfl hl (Nat.le_of_ble_eq_true rfl) ⟨hc, hs⟩ dL_law_957 (fun r mm2 a2 H locs hp hW hS => ?_)
  obtain ⟨rfl, hI2⟩ := hp
  refine lv_icmp_eq (tgt := 1251) hx hb dL_law_960 (by decide) (fun _ => ?_) (fun c9 => absurd rfl c9)
  exact kk N q mm2 a2 H locs ls ⟨hI2, hq, hW, hS, hl⟩
set_option maxHeartbeats 4000000 in
set_option maxRecDepth 100000 in
theorem lc_22 {F : Nat} {p : Program} {l : Launch} {e : Env} {s : State} {m : MethodId} {below : List Frame} {meth : Method} {c : Code} {b L : Nat} {xs : Nat → Int32} {sa sv : Nat → Nat} {k1 k2 : Nat} {D : va_G} {cy : Nat → ClassId} {Q : State → Prop} {i : Int32} {N : Nat} {q : Nat → Nat} {mm : Nat → Value} {a : Nat → vp_A} {H : Heap} {locs : List Loc} {ls : Array Slot} {cells slots : Nat} (hC : LCx F p l s m c b L xs sa sv k1 k2) (hSt : LSt F s b D cy i N q mm a H locs ls) (hv : LVi i L) (hc : cells + 7 ≤ room_1.cells) (hs : slots + 28 ≤ room_1.slots) (kk : ∀ (N : Nat) (q : Nat → Nat) (mm : Nat → Value) (a : Nat → vp_A) (H : Heap) (locs : List Loc) (ls : Array Slot), LSt F s b D cy i N q mm a H locs ls → W p l e room_1 s m #[.ref b] below meth c H locs (cells + 7) (slots + 28) Q (F0 m 1251 ls [])) : W p l e room_1 s m #[.ref b] below meth c H locs cells slots Q (F0 m 965 ls []) := by
  obtain ⟨hx, hb, hml, hown, hGX, hX, hbl, hst, hXS, hKE, hF⟩ := hC
  obtain ⟨hI, hq, hW, hS, hl⟩ := hSt
  obtain ⟨h1, h2, h3, h4, h5, h6⟩ := hv
  have hG : ∀ w ∈ GG, w.before #[Value.ref b] s = true := fun w hw => hGX w (GG_GX w hw)
  have hbA : ¬ gA N q s.heap.size b := gA_not hq hbl
  have hN := hI.1
  have hcs : cells ≤ room_1.cells ∧ slots ≤ room_1.slots := ⟨Nat.le_trans (Nat.le_add_right _ _) hc, Nat.le_trans (Nat.le_add_right _ _) hs⟩
  refine lv_aload_n hx hb dL_law_965 rfl (lv_at hl 1 rfl) ?_
  refine lv_aload_n hx hb dL_law_966 rfl (lv_at hl 0 rfl) ?_
  refine lv_iload hx hb dL_law_967 (lv_at hl 4 rfl) ?_
  refine lv_iconst (v := 1) hx hb dL_law_969 (by decide) ?_
  refine lv_iadd hx hb dL_law_970 ?_
  refine va_sld hx hb hX hbl hbA hS h1 dL_law_971 ?_
  obtain ⟨out, Qp, hM, hN2⟩ := cw_every hF hI (xs (i + 1).toNatClampNeg) (l := l) (D := D) (cy := cy) (sz := H.size)
  refine g_Vi (n := 1) (o := 0) hx hb hml hown hG hW hS [.int (xs (i + 1).toNatClampNeg)] hM (ltN hN 0 rfl) gk0 (by decide) rfl rfl (gd_V gx1001 gx1002 gx1003 gx2 gx1004) rfl rfl (by decide) ⟨Nat.le_of_ble_eq_true rfl, Nat.le_of_ble_eq_true rfl⟩ rfl hl (Nat.le_of_ble_eq_true rfl) hcs dL_law_972 (fun r mm1 a1 H locs hp hW hS => ?_)
  obtain ⟨rfl, hQ⟩ := hp
  refine lv_aload_n hx hb dL_law_975 rfl (lv_at hl 2 rfl) ?_
  refine lv_aload_n hx hb dL_law_976 rfl (lv_at hl 0 rfl) ?_
  refine lv_iload hx hb dL_law_977 (lv_at hl 4 rfl) ?_
  refine lv_iconst (v := 1) hx hb dL_law_979 (by decide) ?_
  refine lv_iadd hx hb dL_law_980 ?_
  refine va_sld hx hb hX hbl hbA hS h1 dL_law_981 ?_
  have hM2 := hN2 mm1 a1 H.size hQ
  refine g_Vi (n := 1) (o := 69) hx hb hml hown hG hW hS [.int (xs (i + 1).toNatClampNeg)] hM2 (ltN hN 69 rfl) gk69 (by decide) rfl rfl (gd_V gx1051 gx1052 gx1053 gx5 gx1054) rfl rfl (by decide) ⟨Nat.le_of_ble_eq_true rfl, Nat.le_of_ble_eq_true rfl⟩ rfl hl (Nat.le_of_ble_eq_true rfl) hcs dL_law_982 (fun r mm2 a2 H locs hp hW hS => ?_)
  obtain ⟨rfl, hI2⟩ := hp
  refine lv_icmp_eq (tgt := 1251) hx hb dL_law_985 (by decide) (fun _ => ?_) (fun c9 => absurd rfl c9)
  refine W.widen (k := cells + 7) (n := slots + 28) (by omega) (by omega) ?_
  exact kk N q mm2 a2 H locs ls ⟨hI2, hq, hW, hS, hl⟩
