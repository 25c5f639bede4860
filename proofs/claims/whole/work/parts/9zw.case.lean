/-! part 9zw: the calls 23 to 29 of the law -/
set_option maxHeartbeats 4000000 in
set_option maxRecDepth 100000 in
theorem lc_23 {F : Nat} {p : Program} {l : Launch} {e : Env} {s : State} {m : MethodId} {below : List Frame} {meth : Method} {c : Code} {b L : Nat} {xs : Nat → Int32} {sa sv : Nat → Nat} {k1 k2 : Nat} {D : va_G} {cy : Nat → ClassId} {Q : State → Prop} {i : Int32} {N : Nat} {q : Nat → Nat} {mm : Nat → Value} {a : Nat → vp_A} {H : Heap} {locs : List Loc} {ls : Array Slot} {cells slots : Nat} (hC : LCx F p l s m c b L xs sa sv k1 k2) (hSt : LSt F s b D cy i N q mm a H locs ls) (hv : LVi i L) (hc : cells + 7 ≤ room_1.cells) (hs : slots + 28 ≤ room_1.slots) (kk : ∀ (N : Nat) (q : Nat → Nat) (mm : Nat → Value) (a : Nat → vp_A) (H : Heap) (locs : List Loc) (ls : Array Slot), LSt F s b D cy i N q mm a H locs ls → W p l e room_1 s m #[.ref b] below meth c H locs (cells + 7) (slots + 28) Q (F0 m 1251 ls [])) : W p l e room_1 s m #[.ref b] below meth c H locs cells slots Q (F0 m 990 ls []) := by
  obtain ⟨hx, hb, hml, hown, hGX, hX, hbl, hst, hXS, hKE, hF⟩ := hC
  obtain ⟨hI, hq, hW, hS, hl⟩ := hSt
  obtain ⟨h1, h2, h3, h4, h5, h6⟩ := hv
  have hG : ∀ w ∈ GG, w.before #[Value.ref b] s = true := fun w hw => hGX w (GG_GX w hw)
  have hbA : ¬ gA N q s.heap.size b := gA_not hq hbl
  have hN := hI.1
  have hcs : cells ≤ room_1.cells ∧ slots ≤ room_1.slots := ⟨Nat.le_trans (Nat.le_add_right _ _) hc, Nat.le_trans (Nat.le_add_right _ _) hs⟩
  refine lv_aload_n hx hb dL_law_990 rfl (lv_at hl 1 rfl) ?_
  obtain ⟨out, Qp, hM, hN2⟩ := cw_struck hF hI  (l := l) (D := D) (cy := cy) (sz := H.size)
  refine g_Vi (n := 0) (o := 0) hx hb hml hown hG hW hS [] hM (ltN hN 0 rfl) gk0 (by decide) rfl rfl (gd_V gx1072 gx1073 gx1074 gx2 gx1075) rfl rfl (by decide) ⟨Nat.le_of_ble_eq_true rfl, Nat.le_of_ble_eq_true rfl⟩ rfl hl (Nat.le_of_ble_eq_true rfl) hcs dL_law_991 (fun r mm1 a1 H locs hp hW hS => ?_)
  obtain ⟨rfl, hQ⟩ := hp
  refine lv_aload_n hx hb dL_law_994 rfl (lv_at hl 2 rfl) ?_
  have hM2 := hN2 mm1 a1 H.size hQ
  refine g_Vi (n := 0) (o := 69) hx hb hml hown hG hW hS [] hM2 (ltN hN 69 rfl) gk69 (by decide) rfl rfl (gd_V gx1089 gx1090 gx1091 gx5 gx1092) rfl rfl (by decide) ⟨Nat.le_of_ble_eq_true rfl, Nat.le_of_ble_eq_true rfl⟩ rfl hl (Nat.le_of_ble_eq_true rfl) hcs dL_law_995 (fun r mm2 a2 H locs hp hW hS => ?_)
  obtain ⟨rfl, hI2⟩ := hp
  refine lv_icmp_eq (tgt := 1251) hx hb dL_law_998 (by decide) (fun _ => ?_) (fun c9 => absurd rfl c9)
  refine W.widen (k := cells + 7) (n := slots + 28) (by omega) (by omega) ?_
  exact kk N q mm2 a2 H locs ls ⟨hI2, hq, hW, hS, hl⟩
set_option maxHeartbeats 4000000 in
set_option maxRecDepth 100000 in
theorem lc_24 {F : Nat} {p : Program} {l : Launch} {e : Env} {s : State} {m : MethodId} {below : List Frame} {meth : Method} {c : Code} {b L : Nat} {xs : Nat → Int32} {sa sv : Nat → Nat} {k1 k2 : Nat} {D : va_G} {cy : Nat → ClassId} {Q : State → Prop} {i : Int32} {N : Nat} {q : Nat → Nat} {mm : Nat → Value} {a : Nat → vp_A} {H : Heap} {locs : List Loc} {ls : Array Slot} {cells slots : Nat} (hC : LCx F p l s m c b L xs sa sv k1 k2) (hSt : LSt F s b D cy i N q mm a H locs ls) (hv : LVi i L) (hc : cells + 7 ≤ room_1.cells) (hs : slots + 28 ≤ room_1.slots) (kk : ∀ (N : Nat) (q : Nat → Nat) (mm : Nat → Value) (a : Nat → vp_A) (H : Heap) (locs : List Loc) (ls : Array Slot), LSt F s b D cy i N q mm a H locs ls → W p l e room_1 s m #[.ref b] below meth c H locs (cells + 7) (slots + 28) Q (F0 m 1251 ls [])) : W p l e room_1 s m #[.ref b] below meth c H locs cells slots Q (F0 m 1003 ls []) := by
  obtain ⟨hx, hb, hml, hown, hGX, hX, hbl, hst, hXS, hKE, hF⟩ := hC
  obtain ⟨hI, hq, hW, hS, hl⟩ := hSt
  obtain ⟨h1, h2, h3, h4, h5, h6⟩ := hv
  have hG : ∀ w ∈ GG, w.before #[Value.ref b] s = true := fun w hw => hGX w (GG_GX w hw)
  have hbA : ¬ gA N q s.heap.size b := gA_not hq hbl
  have hN := hI.1
  have hcs : cells ≤ room_1.cells ∧ slots ≤ room_1.slots := ⟨Nat.le_trans (Nat.le_add_right _ _) hc, Nat.le_trans (Nat.le_add_right _ _) hs⟩
  refine lv_aload_n hx hb dL_law_1003 rfl (lv_at hl 1 rfl) ?_
  refine lv_aload_n hx hb dL_law_1004 rfl (lv_at hl 0 rfl) ?_
  refine lv_iload hx hb dL_law_1005 (lv_at hl 4 rfl) ?_
  refine lv_iconst (v := 1) hx hb dL_law_1007 (by decide) ?_
  refine lv_iadd hx hb dL_law_1008 ?_
  refine va_sld hx hb hX hbl hbA hS h1 dL_law_1009 ?_
  refine lv_aload_n hx hb dL_law_1010 rfl (lv_at hl 0 rfl) ?_
  refine lv_iload hx hb dL_law_1011 (lv_at hl 4 rfl) ?_
  refine lv_iconst (v := 2) hx hb dL_law_1013 (by decide) ?_
  refine lv_iadd hx hb dL_law_1014 ?_
  refine va_sld hx hb hX hbl hbA hS h2 dL_law_1015 ?_
  obtain ⟨out, Qp, hM, hN2⟩ := cw_row hF hI (xs (i + 1).toNatClampNeg) (xs (i + 2).toNatClampNeg) (l := l) (D := D) (cy := cy) (sz := H.size)
  refine g_Vi (n := 2) (o := 0) hx hb hml hown hG hW hS [.int (xs (i + 1).toNatClampNeg), .int (xs (i + 2).toNatClampNeg)] hM (ltN hN 0 rfl) gk0 (by decide) rfl rfl (gd_V gx1093 gx1094 gx1095 gx2 gx1096) rfl rfl (by decide) ⟨Nat.le_of_ble_eq_true rfl, Nat.le_of_ble_eq_true rfl⟩ rfl hl (Nat.le_of_ble_eq_true rfl) hcs dL_law_1016 (fun r mm1 a1 H locs hp hW hS => ?_)
  obtain ⟨rfl, hQ⟩ := hp
  refine lv_aload_n hx hb dL_law_1019 rfl (lv_at hl 2 rfl) ?_
  refine lv_aload_n hx hb dL_law_1020 rfl (lv_at hl 0 rfl) ?_
  refine lv_iload hx hb dL_law_1021 (lv_at hl 4 rfl) ?_
  refine lv_iconst (v := 1) hx hb dL_law_1023 (by decide) ?_
  refine lv_iadd hx hb dL_law_1024 ?_
  refine va_sld hx hb hX hbl hbA hS h1 dL_law_1025 ?_
  refine lv_aload_n hx hb dL_law_1026 rfl (lv_at hl 0 rfl) ?_
  refine lv_iload hx hb dL_law_1027 (lv_at hl 4 rfl) ?_
  refine lv_iconst (v := 2) hx hb dL_law_1029 (by decide) ?_
  refine lv_iadd hx hb dL_law_1030 ?_
  refine va_sld hx hb hX hbl hbA hS h2 dL_law_1031 ?_
  have hM2 := hN2 mm1 a1 H.size hQ
  refine g_Vi (n := 2) (o := 69) hx hb hml hown hG hW hS [.int (xs (i + 1).toNatClampNeg), .int (xs (i + 2).toNatClampNeg)] hM2 (ltN hN 69 rfl) gk69 (by decide) rfl rfl (gd_V gx1098 gx1099 gx1100 gx5 gx1101) rfl rfl (by decide) ⟨Nat.le_of_ble_eq_true rfl, Nat.le_of_ble_eq_true rfl⟩ rfl hl (Nat.le_of_ble_eq_true rfl) hcs dL_law_1032 (fun r mm2 a2 H locs hp hW hS => ?_)
  obtain ⟨rfl, hI2⟩ := hp
  refine lv_icmp_eq (tgt := 1251) hx hb dL_law_1035 (by decide) (fun _ => ?_) (fun c9 => absurd rfl c9)
  refine W.widen (k := cells + 7) (n := slots + 28) (by omega) (by omega) ?_
  exact kk N q mm2 a2 H locs ls ⟨hI2, hq, hW, hS, hl⟩
set_option maxHeartbeats 4000000 in
set_option maxRecDepth 100000 in
theorem lc_25 {F : Nat} {p : Program} {l : Launch} {e : Env} {s : State} {m : MethodId} {below : List Frame} {meth : Method} {c : Code} {b L : Nat} {xs : Nat → Int32} {sa sv : Nat → Nat} {k1 k2 : Nat} {D : va_G} {cy : Nat → ClassId} {Q : State → Prop} {i : Int32} {N : Nat} {q : Nat → Nat} {mm : Nat → Value} {a : Nat → vp_A} {H : Heap} {locs : List Loc} {ls : Array Slot} {cells slots : Nat} (hC : LCx F p l s m c b L xs sa sv k1 k2) (hSt : LSt F s b D cy i N q mm a H locs ls) (hv : LVi i L) (hc : cells + 7 ≤ room_1.cells) (hs : slots + 28 ≤ room_1.slots) (kk : ∀ (N : Nat) (q : Nat → Nat) (mm : Nat → Value) (a : Nat → vp_A) (H : Heap) (locs : List Loc) (ls : Array Slot), LSt F s b D cy i N q mm a H locs ls → W p l e room_1 s m #[.ref b] below meth c H locs (cells + 7) (slots + 28) Q (F0 m 1251 ls [])) : W p l e room_1 s m #[.ref b] below meth c H locs cells slots Q (F0 m 1040 ls []) := by
  obtain ⟨hx, hb, hml, hown, hGX, hX, hbl, hst, hXS, hKE, hF⟩ := hC
  obtain ⟨hI, hq, hW, hS, hl⟩ := hSt
  obtain ⟨h1, h2, h3, h4, h5, h6⟩ := hv
  have hG : ∀ w ∈ GG, w.before #[Value.ref b] s = true := fun w hw => hGX w (GG_GX w hw)
  have hbA : ¬ gA N q s.heap.size b := gA_not hq hbl
  have hN := hI.1
  have hcs : cells ≤ room_1.cells ∧ slots ≤ room_1.slots := ⟨Nat.le_trans (Nat.le_add_right _ _) hc, Nat.le_trans (Nat.le_add_right _ _) hs⟩
  refine lv_aload_n hx hb dL_law_1040 rfl (lv_at hl 1 rfl) ?_
  refine lv_aload_n hx hb dL_law_1041 rfl (lv_at hl 0 rfl) ?_
  refine lv_iload hx hb dL_law_1042 (lv_at hl 4 rfl) ?_
  refine lv_iconst (v := 1) hx hb dL_law_1044 (by decide) ?_
  refine lv_iadd hx hb dL_law_1045 ?_
  refine va_sld hx hb hX hbl hbA hS h1 dL_law_1046 ?_
  refine lv_i2l hx hb dL_law_1047 rfl ?_
  refine lv_bipush (v := 32) hx hb dL_law_1048 (by decide) ?_
  refine lv_lshl hx hb dL_law_1050 rfl ?_
  refine lv_aload_n hx hb dL_law_1051 rfl (lv_at hl 0 rfl) ?_
  refine lv_iload hx hb dL_law_1052 (lv_at hl 4 rfl) ?_
  refine lv_iconst (v := 2) hx hb dL_law_1054 (by decide) ?_
  refine lv_iadd hx hb dL_law_1055 ?_
  refine va_sld hx hb hX hbl hbA hS h2 dL_law_1056 ?_
  refine lv_i2l hx hb dL_law_1057 rfl ?_
  refine lv_ldc2 (v := 4294967295) hx hb hown (hG _ gx7) dL_law_1058 ?_
  refine lv_land hx hb dL_law_1061 ?_
  refine lv_lor hx hb dL_law_1062 ?_
  refine lv_aload_n hx hb dL_law_1063 rfl (lv_at hl 0 rfl) ?_
  refine lv_iload hx hb dL_law_1064 (lv_at hl 4 rfl) ?_
  refine lv_iconst (v := 3) hx hb dL_law_1066 (by decide) ?_
  refine lv_iadd hx hb dL_law_1067 ?_
  refine va_sld hx hb hX hbl hbA hS h3 dL_law_1068 ?_
  refine lv_i2l hx hb dL_law_1069 rfl ?_
  refine lv_bipush (v := 32) hx hb dL_law_1070 (by decide) ?_
  refine lv_lshl hx hb dL_law_1072 rfl ?_
  refine lv_aload_n hx hb dL_law_1073 rfl (lv_at hl 0 rfl) ?_
  refine lv_iload hx hb dL_law_1074 (lv_at hl 4 rfl) ?_
  refine lv_iconst (v := 4) hx hb dL_law_1076 (by decide) ?_
  refine lv_iadd hx hb dL_law_1077 ?_
  refine va_sld hx hb hX hbl hbA hS h4 dL_law_1078 ?_
  refine lv_i2l hx hb dL_law_1079 rfl ?_
  refine lv_ldc2 (v := 4294967295) hx hb hown (hG _ gx7) dL_law_1080 ?_
  refine lv_land hx hb dL_law_1083 ?_
  refine lv_lor hx hb dL_law_1084 ?_
  refine lv_aload_n hx hb dL_law_1085 rfl (lv_at hl 0 rfl) ?_
  refine lv_iload hx hb dL_law_1086 (lv_at hl 4 rfl) ?_
  refine lv_iconst (v := 5) hx hb dL_law_1088 (by decide) ?_
  refine lv_iadd hx hb dL_law_1089 ?_
  refine va_sld hx hb hX hbl hbA hS h5 dL_law_1090 ?_
  refine lv_i2l hx hb dL_law_1091 rfl ?_
  refine lv_bipush (v := 32) hx hb dL_law_1092 (by decide) ?_
  refine lv_lshl hx hb dL_law_1094 rfl ?_
  refine lv_aload_n hx hb dL_law_1095 rfl (lv_at hl 0 rfl) ?_
  refine lv_iload hx hb dL_law_1096 (lv_at hl 4 rfl) ?_
  refine lv_bipush (v := 6) hx hb dL_law_1098 (by decide) ?_
  refine lv_iadd hx hb dL_law_1100 ?_
  refine va_sld hx hb hX hbl hbA hS h6 dL_law_1101 ?_
  refine lv_i2l hx hb dL_law_1102 rfl ?_
  refine lv_ldc2 (v := 4294967295) hx hb hown (hG _ gx7) dL_law_1103 ?_
  refine lv_land hx hb dL_law_1106 ?_
  refine lv_lor hx hb dL_law_1107 ?_
  obtain ⟨out, Qp, hM, hN2⟩ := cw_feed hF hI (((xs (i + 1).toNatClampNeg).toInt64 <<< ((32 : Int32).toInt64 &&& 63)) ||| ((xs (i + 2).toNatClampNeg).toInt64 &&& 4294967295)) (((xs (i + 3).toNatClampNeg).toInt64 <<< ((32 : Int32).toInt64 &&& 63)) ||| ((xs (i + 4).toNatClampNeg).toInt64 &&& 4294967295)) (((xs (i + 5).toNatClampNeg).toInt64 <<< ((32 : Int32).toInt64 &&& 63)) ||| ((xs (i + 6).toNatClampNeg).toInt64 &&& 4294967295)) (l := l) (D := D) (cy := cy) (sz := H.size)
  refine g_Vi (n := 3) (o := 0) hx hb hml hown hG hW hS [.long (((xs (i + 1).toNatClampNeg).toInt64 <<< ((32 : Int32).toInt64 &&& 63)) ||| ((xs (i + 2).toNatClampNeg).toInt64 &&& 4294967295)), .long (((xs (i + 3).toNatClampNeg).toInt64 <<< ((32 : Int32).toInt64 &&& 63)) ||| ((xs (i + 4).toNatClampNeg).toInt64 &&& 4294967295)), .long (((xs (i + 5).toNatClampNeg).toInt64 <<< ((32 : Int32).toInt64 &&& 63)) ||| ((xs (i + 6).toNatClampNeg).toInt64 &&& 4294967295))] hM (ltN hN 0 rfl) gk0 (by decide) rfl rfl (gd_V gx1102 gx1103 gx1104 gx2 gx1105) rfl rfl (by decide) ⟨Nat.le_of_ble_eq_true rfl, Nat.le_of_ble_eq_true rfl⟩ rfl hl (Nat.le_of_ble_eq_true rfl) hcs dL_law_1108 (fun r mm1 a1 H locs hp hW hS => ?_)
  obtain ⟨rfl, hQ⟩ := hp
  refine lv_aload_n hx hb dL_law_1111 rfl (lv_at hl 2 rfl) ?_
  refine lv_aload_n hx hb dL_law_1112 rfl (lv_at hl 0 rfl) ?_
  refine lv_iload hx hb dL_law_1113 (lv_at hl 4 rfl) ?_
  refine lv_iconst (v := 1) hx hb dL_law_1115 (by decide) ?_
  refine lv_iadd hx hb dL_law_1116 ?_
  refine va_sld hx hb hX hbl hbA hS h1 dL_law_1117 ?_
  refine lv_i2l hx hb dL_law_1118 rfl ?_
  refine lv_bipush (v := 32) hx hb dL_law_1119 (by decide) ?_
  refine lv_lshl hx hb dL_law_1121 rfl ?_
  refine lv_aload_n hx hb dL_law_1122 rfl (lv_at hl 0 rfl) ?_
  refine lv_iload hx hb dL_law_1123 (lv_at hl 4 rfl) ?_
  refine lv_iconst (v := 2) hx hb dL_law_1125 (by decide) ?_
  refine lv_iadd hx hb dL_law_1126 ?_
  refine va_sld hx hb hX hbl hbA hS h2 dL_law_1127 ?_
  refine lv_i2l hx hb dL_law_1128 rfl ?_
  refine lv_ldc2 (v := 4294967295) hx hb hown (hG _ gx7) dL_law_1129 ?_
  refine lv_land hx hb dL_law_1132 ?_
  refine lv_lor hx hb dL_law_1133 ?_
  refine lv_aload_n hx hb dL_law_1134 rfl (lv_at hl 0 rfl) ?_
  refine lv_iload hx hb dL_law_1135 (lv_at hl 4 rfl) ?_
  refine lv_iconst (v := 3) hx hb dL_law_1137 (by decide) ?_
  refine lv_iadd hx hb dL_law_1138 ?_
  refine va_sld hx hb hX hbl hbA hS h3 dL_law_1139 ?_
  refine lv_i2l hx hb dL_law_1140 rfl ?_
  refine lv_bipush (v := 32) hx hb dL_law_1141 (by decide) ?_
  refine lv_lshl hx hb dL_law_1143 rfl ?_
  refine lv_aload_n hx hb dL_law_1144 rfl (lv_at hl 0 rfl) ?_
  refine lv_iload hx hb dL_law_1145 (lv_at hl 4 rfl) ?_
  refine lv_iconst (v := 4) hx hb dL_law_1147 (by decide) ?_
  refine lv_iadd hx hb dL_law_1148 ?_
  refine va_sld hx hb hX hbl hbA hS h4 dL_law_1149 ?_
  refine lv_i2l hx hb dL_law_1150 rfl ?_
  refine lv_ldc2 (v := 4294967295) hx hb hown (hG _ gx7) dL_law_1151 ?_
  refine lv_land hx hb dL_law_1154 ?_
  refine lv_lor hx hb dL_law_1155 ?_
  refine lv_aload_n hx hb dL_law_1156 rfl (lv_at hl 0 rfl) ?_
  refine lv_iload hx hb dL_law_1157 (lv_at hl 4 rfl) ?_
  refine lv_iconst (v := 5) hx hb dL_law_1159 (by decide) ?_
  refine lv_iadd hx hb dL_law_1160 ?_
  refine va_sld hx hb hX hbl hbA hS h5 dL_law_1161 ?_
  refine lv_i2l hx hb dL_law_1162 rfl ?_
  refine lv_bipush (v := 32) hx hb dL_law_1163 (by decide) ?_
  refine lv_lshl hx hb dL_law_1165 rfl ?_
  refine lv_aload_n hx hb dL_law_1166 rfl (lv_at hl 0 rfl) ?_
  refine lv_iload hx hb dL_law_1167 (lv_at hl 4 rfl) ?_
  refine lv_bipush (v := 6) hx hb dL_law_1169 (by decide) ?_
  refine lv_iadd hx hb dL_law_1171 ?_
  refine va_sld hx hb hX hbl hbA hS h6 dL_law_1172 ?_
  refine lv_i2l hx hb dL_law_1173 rfl ?_
  refine lv_ldc2 (v := 4294967295) hx hb hown (hG _ gx7) dL_law_1174 ?_
  refine lv_land hx hb dL_law_1177 ?_
  refine lv_lor hx hb dL_law_1178 ?_
  have hM2 := hN2 mm1 a1 H.size hQ
  refine g_Vi (n := 3) (o := 69) hx hb hml hown hG hW hS [.long (((xs (i + 1).toNatClampNeg).toInt64 <<< ((32 : Int32).toInt64 &&& 63)) ||| ((xs (i + 2).toNatClampNeg).toInt64 &&& 4294967295)), .long (((xs (i + 3).toNatClampNeg).toInt64 <<< ((32 : Int32).toInt64 &&& 63)) ||| ((xs (i + 4).toNatClampNeg).toInt64 &&& 4294967295)), .long (((xs (i + 5).toNatClampNeg).toInt64 <<< ((32 : Int32).toInt64 &&& 63)) ||| ((xs (i + 6).toNatClampNeg).toInt64 &&& 4294967295))] hM2 (ltN hN 69 rfl) gk69 (by decide) rfl rfl (gd_V gx1116 gx1117 gx1118 gx5 gx1119) rfl rfl (by decide) ⟨Nat.le_of_ble_eq_true rfl, Nat.le_of_ble_eq_true rfl⟩ rfl hl (Nat.le_of_ble_eq_true rfl) hcs dL_law_1179 (fun r mm2 a2 H locs hp hW hS => ?_)
  obtain ⟨rfl, hI2⟩ := hp
  refine lv_icmp_eq (tgt := 1251) hx hb dL_law_1182 (by decide) (fun _ => ?_) (fun c9 => absurd rfl c9)
  refine W.widen (k := cells + 7) (n := slots + 28) (by omega) (by omega) ?_
  exact kk N q mm2 a2 H locs ls ⟨hI2, hq, hW, hS, hl⟩
set_option maxHeartbeats 4000000 in
set_option maxRecDepth 100000 in
theorem lc_26 {F : Nat} {p : Program} {l : Launch} {e : Env} {s : State} {m : MethodId} {below : List Frame} {meth : Method} {c : Code} {b L : Nat} {xs : Nat → Int32} {sa sv : Nat → Nat} {k1 k2 : Nat} {D : va_G} {cy : Nat → ClassId} {Q : State → Prop} {i : Int32} {N : Nat} {q : Nat → Nat} {mm : Nat → Value} {a : Nat → vp_A} {H : Heap} {locs : List Loc} {ls : Array Slot} {cells slots : Nat} (hC : LCx F p l s m c b L xs sa sv k1 k2) (hSt : LSt F s b D cy i N q mm a H locs ls) (hv : LVi i L) (hc : cells + 7 ≤ room_1.cells) (hs : slots + 28 ≤ room_1.slots) (kk : ∀ (N : Nat) (q : Nat → Nat) (mm : Nat → Value) (a : Nat → vp_A) (H : Heap) (locs : List Loc) (ls : Array Slot), LSt F s b D cy i N q mm a H locs ls → W p l e room_1 s m #[.ref b] below meth c H locs (cells + 7) (slots + 28) Q (F0 m 1251 ls [])) : W p l e room_1 s m #[.ref b] below meth c H locs cells slots Q (F0 m 1187 ls []) := by
  obtain ⟨hx, hb, hml, hown, hGX, hX, hbl, hst, hXS, hKE, hF⟩ := hC
  obtain ⟨hI, hq, hW, hS, hl⟩ := hSt
  obtain ⟨h1, h2, h3, h4, h5, h6⟩ := hv
  have hG : ∀ w ∈ GG, w.before #[Value.ref b] s = true := fun w hw => hGX w (GG_GX w hw)
  have hbA : ¬ gA N q s.heap.size b := gA_not hq hbl
  have hN := hI.1
  have hcs : cells ≤ room_1.cells ∧ slots ≤ room_1.slots := ⟨Nat.le_trans (Nat.le_add_right _ _) hc, Nat.le_trans (Nat.le_add_right _ _) hs⟩
  refine lv_aload_n hx hb dL_law_1187 rfl (lv_at hl 1 rfl) ?_
  refine lv_aload_n hx hb dL_law_1188 rfl (lv_at hl 0 rfl) ?_
  refine lv_iload hx hb dL_law_1189 (lv_at hl 4 rfl) ?_
  refine lv_iconst (v := 1) hx hb dL_law_1191 (by decide) ?_
  refine lv_iadd hx hb dL_law_1192 ?_
  refine va_sld hx hb hX hbl hbA hS h1 dL_law_1193 ?_
  obtain ⟨out, Qp, hM, hN2⟩ := cw_end hF hI (xs (i + 1).toNatClampNeg) (l := l) (D := D) (cy := cy) (sz := H.size)
  refine g_Vi (n := 1) (o := 0) hx hb hml hown hG hW hS [.int (xs (i + 1).toNatClampNeg)] hM (ltN hN 0 rfl) gk0 (by decide) rfl rfl (gd_V gx1124 gx1125 gx1126 gx2 gx1127) rfl rfl (by decide) ⟨Nat.le_of_ble_eq_true rfl, Nat.le_of_ble_eq_true rfl⟩ rfl hl (Nat.le_of_ble_eq_true rfl) hcs dL_law_1194 (fun r mm1 a1 H locs hp hW hS => ?_)
  obtain ⟨rfl, hQ⟩ := hp
  refine lv_aload_n hx hb dL_law_1197 rfl (lv_at hl 2 rfl) ?_
  refine lv_aload_n hx hb dL_law_1198 rfl (lv_at hl 0 rfl) ?_
  refine lv_iload hx hb dL_law_1199 (lv_at hl 4 rfl) ?_
  refine lv_iconst (v := 1) hx hb dL_law_1201 (by decide) ?_
  refine lv_iadd hx hb dL_law_1202 ?_
  refine va_sld hx hb hX hbl hbA hS h1 dL_law_1203 ?_
  have hM2 := hN2 mm1 a1 H.size hQ
  refine g_Vi (n := 1) (o := 69) hx hb hml hown hG hW hS [.int (xs (i + 1).toNatClampNeg)] hM2 (ltN hN 69 rfl) gk69 (by decide) rfl rfl (gd_V gx1128 gx1129 gx1130 gx5 gx1131) rfl rfl (by decide) ⟨Nat.le_of_ble_eq_true rfl, Nat.le_of_ble_eq_true rfl⟩ rfl hl (Nat.le_of_ble_eq_true rfl) hcs dL_law_1204 (fun r mm2 a2 H locs hp hW hS => ?_)
  obtain ⟨rfl, hI2⟩ := hp
  refine lv_icmp_eq (tgt := 1251) hx hb dL_law_1207 (by decide) (fun _ => ?_) (fun c9 => absurd rfl c9)
  refine W.widen (k := cells + 7) (n := slots + 28) (by omega) (by omega) ?_
  exact kk N q mm2 a2 H locs ls ⟨hI2, hq, hW, hS, hl⟩
set_option maxHeartbeats 4000000 in
set_option maxRecDepth 100000 in
theorem lc_27 {F : Nat} {p : Program} {l : Launch} {e : Env} {s : State} {m : MethodId} {below : List Frame} {meth : Method} {c : Code} {b L : Nat} {xs : Nat → Int32} {sa sv : Nat → Nat} {k1 k2 : Nat} {D : va_G} {cy : Nat → ClassId} {Q : State → Prop} {i : Int32} {N : Nat} {q : Nat → Nat} {mm : Nat → Value} {a : Nat → vp_A} {H : Heap} {locs : List Loc} {ls : Array Slot} {cells slots : Nat} (hC : LCx F p l s m c b L xs sa sv k1 k2) (hSt : LSt F s b D cy i N q mm a H locs ls) (hv : LVi i L) (hc : cells + 7 ≤ room_1.cells) (hs : slots + 28 ≤ room_1.slots) (kk : ∀ (N : Nat) (q : Nat → Nat) (mm : Nat → Value) (a : Nat → vp_A) (H : Heap) (locs : List Loc) (ls : Array Slot), LSt F s b D cy i N q mm a H locs ls → W p l e room_1 s m #[.ref b] below meth c H locs (cells + 7) (slots + 28) Q (F0 m 1251 ls [])) : W p l e room_1 s m #[.ref b] below meth c H locs cells slots Q (F0 m 1212 ls []) := by
  obtain ⟨hx, hb, hml, hown, hGX, hX, hbl, hst, hXS, hKE, hF⟩ := hC
  obtain ⟨hI, hq, hW, hS, hl⟩ := hSt
  obtain ⟨h1, h2, h3, h4, h5, h6⟩ := hv
  have hG : ∀ w ∈ GG, w.before #[Value.ref b] s = true := fun w hw => hGX w (GG_GX w hw)
  have hbA : ¬ gA N q s.heap.size b := gA_not hq hbl
  have hN := hI.1
  have hcs : cells ≤ room_1.cells ∧ slots ≤ room_1.slots := ⟨Nat.le_trans (Nat.le_add_right _ _) hc, Nat.le_trans (Nat.le_add_right _ _) hs⟩
  refine lv_aload_n hx hb dL_law_1212 rfl (lv_at hl 1 rfl) ?_
  obtain ⟨out, Qp, hM, hN2⟩ := cw_script hF hI  (sa := sa) (sv := sv) (l := l) (D := D) (cy := cy) (sz := H.size)
  refine g_Vie (n := 0) (o := 0) hx hb hml hown hG hW hS [] XS.ok (by rw [gA_all hq]; exact hXS) hM (ltN hN 0 rfl) gk0 (by decide) rfl rfl (gd_V gx1132 gx1133 gx1134 gx2 gx1135) rfl rfl (by decide) ⟨Nat.le_of_ble_eq_true rfl, Nat.le_of_ble_eq_true rfl⟩ rfl hl (Nat.le_of_ble_eq_true rfl) hcs dL_law_1213 (fun r mm1 a1 H locs hp hW hS => ?_)
  obtain ⟨rfl, hQ⟩ := hp
  refine lv_aload_n hx hb dL_law_1216 rfl (lv_at hl 2 rfl) ?_
  have hM2 := hN2 mm1 a1 H.size hQ
  refine g_Vie (n := 0) (o := 69) hx hb hml hown hG hW hS [] XS.ok (by rw [gA_all hq]; exact hXS) hM2 (ltN hN 69 rfl) gk69 (by decide) rfl rfl (gd_V gx1300 gx1301 gx1302 gx5 gx1303) rfl rfl (by decide) ⟨Nat.le_of_ble_eq_true rfl, Nat.le_of_ble_eq_true rfl⟩ rfl hl (Nat.le_of_ble_eq_true rfl) hcs dL_law_1217 (fun r mm2 a2 H locs hp hW hS => ?_)
  obtain ⟨rfl, hI2⟩ := hp
  refine lv_icmp_eq (tgt := 1251) hx hb dL_law_1220 (by decide) (fun _ => ?_) (fun c9 => absurd rfl c9)
  refine W.widen (k := cells + 7) (n := slots + 28) (by omega) (by omega) ?_
  exact kk N q mm2 a2 H locs ls ⟨hI2, hq, hW, hS, hl⟩
set_option maxHeartbeats 4000000 in
set_option maxRecDepth 100000 in
theorem lc_28 {F : Nat} {p : Program} {l : Launch} {e : Env} {s : State} {m : MethodId} {below : List Frame} {meth : Method} {c : Code} {b L : Nat} {xs : Nat → Int32} {sa sv : Nat → Nat} {k1 k2 : Nat} {D : va_G} {cy : Nat → ClassId} {Q : State → Prop} {i : Int32} {N : Nat} {q : Nat → Nat} {mm : Nat → Value} {a : Nat → vp_A} {H : Heap} {locs : List Loc} {ls : Array Slot} {cells slots : Nat} (hC : LCx F p l s m c b L xs sa sv k1 k2) (hSt : LSt F s b D cy i N q mm a H locs ls) (hv : LVi i L) (hc : cells + 7 ≤ room_1.cells) (hs : slots + 28 ≤ room_1.slots) (kk : ∀ (N : Nat) (q : Nat → Nat) (mm : Nat → Value) (a : Nat → vp_A) (H : Heap) (locs : List Loc) (ls : Array Slot), LSt F s b D cy i N q mm a H locs ls → W p l e room_1 s m #[.ref b] below meth c H locs (cells + 7) (slots + 28) Q (F0 m 1251 ls [])) : W p l e room_1 s m #[.ref b] below meth c H locs cells slots Q (F0 m 1225 ls []) := by
  obtain ⟨hx, hb, hml, hown, hGX, hX, hbl, hst, hXS, hKE, hF⟩ := hC
  obtain ⟨hI, hq, hW, hS, hl⟩ := hSt
  obtain ⟨h1, h2, h3, h4, h5, h6⟩ := hv
  have hG : ∀ w ∈ GG, w.before #[Value.ref b] s = true := fun w hw => hGX w (GG_GX w hw)
  have hbA : ¬ gA N q s.heap.size b := gA_not hq hbl
  have hN := hI.1
  have hcs : cells ≤ room_1.cells ∧ slots ≤ room_1.slots := ⟨Nat.le_trans (Nat.le_add_right _ _) hc, Nat.le_trans (Nat.le_add_right _ _) hs⟩
  refine lv_aload_n hx hb dL_law_1225 rfl (lv_at hl 1 rfl) ?_
  obtain ⟨out, Qp, hM, hN2⟩ := cw_image hF hI  (l := l) (D := D) (cy := cy) (sz := H.size)
  refine g_Vi (n := 0) (o := 0) hx hb hml hown hG hW hS [] hM (ltN hN 0 rfl) gk0 (by decide) rfl rfl (gd_V gx1374 gx1375 gx1376 gx2 gx1377) rfl rfl (by decide) ⟨Nat.le_of_ble_eq_true rfl, Nat.le_of_ble_eq_true rfl⟩ rfl hl (Nat.le_of_ble_eq_true rfl) hcs dL_law_1226 (fun r mm1 a1 H locs hp hW hS => ?_)
  obtain ⟨rfl, hQ⟩ := hp
  refine lv_aload_n hx hb dL_law_1229 rfl (lv_at hl 2 rfl) ?_
  have hM2 := hN2 mm1 a1 H.size hQ
  refine g_Vi (n := 0) (o := 69) hx hb hml hown hG hW hS [] hM2 (ltN hN 69 rfl) gk69 (by decide) rfl rfl (gd_V gx1381 gx1382 gx1383 gx5 gx1384) rfl rfl (by decide) ⟨Nat.le_of_ble_eq_true rfl, Nat.le_of_ble_eq_true rfl⟩ rfl hl (Nat.le_of_ble_eq_true rfl) hcs dL_law_1230 (fun r mm2 a2 H locs hp hW hS => ?_)
  obtain ⟨rfl, hI2⟩ := hp
  refine lv_icmp_eq (tgt := 1251) hx hb dL_law_1233 (by decide) (fun _ => ?_) (fun c9 => absurd rfl c9)
  refine W.widen (k := cells + 7) (n := slots + 28) (by omega) (by omega) ?_
  exact kk N q mm2 a2 H locs ls ⟨hI2, hq, hW, hS, hl⟩
set_option maxHeartbeats 4000000 in
set_option maxRecDepth 100000 in
theorem lc_29 {F : Nat} {p : Program} {l : Launch} {e : Env} {s : State} {m : MethodId} {below : List Frame} {meth : Method} {c : Code} {b L : Nat} {xs : Nat → Int32} {sa sv : Nat → Nat} {k1 k2 : Nat} {D : va_G} {cy : Nat → ClassId} {Q : State → Prop} {i : Int32} {N : Nat} {q : Nat → Nat} {mm : Nat → Value} {a : Nat → vp_A} {H : Heap} {locs : List Loc} {ls : Array Slot} {cells slots : Nat} (hC : LCx F p l s m c b L xs sa sv k1 k2) (hSt : LSt F s b D cy i N q mm a H locs ls) (hv : LVi i L) (hc : cells + 7 ≤ room_1.cells) (hs : slots + 28 ≤ room_1.slots) (kk : ∀ (N : Nat) (q : Nat → Nat) (mm : Nat → Value) (a : Nat → vp_A) (H : Heap) (locs : List Loc) (ls : Array Slot), LSt F s b D cy i N q mm a H locs ls → W p l e room_1 s m #[.ref b] below meth c H locs (cells + 7) (slots + 28) Q (F0 m 1251 ls [])) : W p l e room_1 s m #[.ref b] below meth c H locs cells slots Q (F0 m 1238 ls []) := by
  obtain ⟨hx, hb, hml, hown, hGX, hX, hbl, hst, hXS, hKE, hF⟩ := hC
  obtain ⟨hI, hq, hW, hS, hl⟩ := hSt
  obtain ⟨h1, h2, h3, h4, h5, h6⟩ := hv
  have hG : ∀ w ∈ GG, w.before #[Value.ref b] s = true := fun w hw => hGX w (GG_GX w hw)
  have hbA : ¬ gA N q s.heap.size b := gA_not hq hbl
  have hN := hI.1
  have hcs : cells ≤ room_1.cells ∧ slots ≤ room_1.slots := ⟨Nat.le_trans (Nat.le_add_right _ _) hc, Nat.le_trans (Nat.le_add_right _ _) hs⟩
  refine lv_aload_n hx hb dL_law_1238 rfl (lv_at hl 1 rfl) ?_
  obtain ⟨out, Qp, hM, hN2⟩ := cw_back hF hI  (l := l) (D := D) (cy := cy) (sz := H.size)
  refine g_Vi (n := 0) (o := 0) hx hb hml hown hG hW hS [] hM (ltN hN 0 rfl) gk0 (by decide) rfl rfl (gd_V gx1387 gx1388 gx1389 gx2 gx1390) rfl rfl (by decide) ⟨Nat.le_of_ble_eq_true rfl, Nat.le_of_ble_eq_true rfl⟩ rfl hl (Nat.le_of_ble_eq_true rfl) hcs dL_law_1239 (fun r mm1 a1 H locs hp hW hS => ?_)
  obtain ⟨rfl, hQ⟩ := hp
  refine lv_aload_n hx hb dL_law_1242 rfl (lv_at hl 2 rfl) ?_
  have hM2 := hN2 mm1 a1 H.size hQ
  refine g_Vi (n := 0) (o := 69) hx hb hml hown hG hW hS [] hM2 (ltN hN 69 rfl) gk69 (by decide) rfl rfl (gd_V gx1391 gx1392 gx1393 gx5 gx1394) rfl rfl (by decide) ⟨Nat.le_of_ble_eq_true rfl, Nat.le_of_ble_eq_true rfl⟩ rfl hl (Nat.le_of_ble_eq_true rfl) hcs dL_law_1243 (fun r mm2 a2 H locs hp hW hS => ?_)
  obtain ⟨rfl, hI2⟩ := hp
  refine lv_icmp_eq (tgt := 1251) hx hb dL_law_1246 (by decide) (fun _ => ?_) (fun c9 => absurd rfl c9)
  refine W.widen (k := cells + 7) (n := slots + 28) (by omega) (by omega) ?_
  exact kk N q mm2 a2 H locs ls ⟨hI2, hq, hW, hS, hl⟩
