/-! part 9zt: the calls 0 to 7 of the law -/
set_option maxHeartbeats 4000000 in
set_option maxRecDepth 100000 in
theorem lc_0 {F : Nat} {p : Program} {l : Launch} {e : Env} {s : State} {m : MethodId} {below : List Frame} {meth : Method} {c : Code} {b L : Nat} {xs : Nat → Int32} {sa sv : Nat → Nat} {k1 k2 : Nat} {D : va_G} {cy : Nat → ClassId} {Q : State → Prop} {i : Int32} {N : Nat} {q : Nat → Nat} {mm : Nat → Value} {a : Nat → vp_A} {H : Heap} {locs : List Loc} {ls : Array Slot} {cells slots : Nat} (hC : LCx F p l s m c b L xs sa sv k1 k2) (hSt : LSt F s b D cy i N q mm a H locs ls) (hv : LVi i L) (hc : cells + 7 ≤ room_1.cells) (hs : slots + 28 ≤ room_1.slots) (kk : ∀ (N : Nat) (q : Nat → Nat) (mm : Nat → Value) (a : Nat → vp_A) (H : Heap) (locs : List Loc) (ls : Array Slot), LSt F s b D cy i N q mm a H locs ls → W p l e room_1 s m #[.ref b] below meth c H locs (cells + 7) (slots + 28) Q (F0 m 1251 ls [])) : W p l e room_1 s m #[.ref b] below meth c H locs cells slots Q (F0 m 176 ls []) := by
  obtain ⟨hx, hb, hml, hown, hGX, hX, hbl, hst, hXS, hKE, hF⟩ := hC
  obtain ⟨hI, hq, hW, hS, hl⟩ := hSt
  obtain ⟨h1, h2, h3, h4, h5, h6⟩ := hv
  have hG : ∀ w ∈ GG, w.before #[Value.ref b] s = true := fun w hw => hGX w (GG_GX w hw)
  have hbA : ¬ gA N q s.heap.size b := gA_not hq hbl
  have hN := hI.1
  have hcs : cells ≤ room_1.cells ∧ slots ≤ room_1.slots := ⟨Nat.le_trans (Nat.le_add_right _ _) hc, Nat.le_trans (Nat.le_add_right _ _) hs⟩
  refine lv_aload_n hx hb dL_law_176 rfl (lv_at hl 1 rfl) ?_
  refine lv_aload_n hx hb dL_law_177 rfl (lv_at hl 0 rfl) ?_
  refine lv_iload hx hb dL_law_178 (lv_at hl 4 rfl) ?_
  refine lv_iconst (v := 1) hx hb dL_law_180 (by decide) ?_
  refine lv_iadd hx hb dL_law_181 ?_
  refine va_sld hx hb hX hbl hbA hS h1 dL_law_182 ?_
  refine lv_aload_n hx hb dL_law_183 rfl (lv_at hl 0 rfl) ?_
  refine lv_iload hx hb dL_law_184 (lv_at hl 4 rfl) ?_
  refine lv_iconst (v := 2) hx hb dL_law_186 (by decide) ?_
  refine lv_iadd hx hb dL_law_187 ?_
  refine va_sld hx hb hX hbl hbA hS h2 dL_law_188 ?_
  obtain ⟨out, Qp, hM, hN2⟩ := cw_set hF hI (xs (i + 1).toNatClampNeg) (xs (i + 2).toNatClampNeg) (l := l) (D := D) (cy := cy) (sz := H.size)
  refine g_Vset (n := 2) (o := 0) hx hb hml hown hG hW hS [.int (xs (i + 1).toNatClampNeg), .int (xs (i + 2).toNatClampNeg)] hM (ltN hN 0 rfl) gk0 (by decide) rfl rfl (gd_V gx207 gx208 gx209 gx2 gx210) rfl rfl (by decide) ⟨Nat.le_of_ble_eq_true rfl, Nat.le_of_ble_eq_true rfl⟩ rfl hl (Nat.le_of_ble_eq_true rfl) ⟨Nat.le_trans (by omega) hc, Nat.le_trans (by omega) hs⟩ dL_law_189 (fun r u H locs hp hW hS => ?_)
  obtain ⟨N1, q1, mm1, a1⟩ := u
  obtain ⟨rfl, hQ⟩ := hp
  dsimp only at hQ hW
  obtain ⟨hN1, hq1, hM2⟩ := hN2 N1 q1 mm1 a1 H.size hQ
  have hq2 : ∀ k, k < N1 → s.heap.size ≤ q1 k := fun k hk => by
    have h9 := hW.2.2.2 k (q1 k, gcont cy mm1 a1 k) (gw_at hk)
    rw [gA_all hq] at h9
    exact h9
  rw [gA_all hq, ← gA_all hq2] at hW hS
  have hbA : ¬ gA N1 q1 s.heap.size b := gA_not hq2 hbl
  have hN9 : 105 ≤ N1 := by omega
  have hl : lv_has ls 7 [(0, .ref b), (1, .ref (q1 0)), (2, .ref (q1 69)), (3, .ref (q1 104)), (4, .int i)] := by
    rw [hq1 0 (ltN hN 0 rfl), hq1 69 (ltN hN 69 rfl), hq1 104 (ltN hN 104 rfl)]
    exact hl
  clear hq hq1 hN
  have hq := hq2
  have hN := hN9
  refine lv_aload_n hx hb dL_law_192 rfl (lv_at hl 2 rfl) ?_
  refine lv_aload_n hx hb dL_law_193 rfl (lv_at hl 0 rfl) ?_
  refine lv_iload hx hb dL_law_194 (lv_at hl 4 rfl) ?_
  refine lv_iconst (v := 1) hx hb dL_law_196 (by decide) ?_
  refine lv_iadd hx hb dL_law_197 ?_
  refine va_sld hx hb hX hbl hbA hS h1 dL_law_198 ?_
  refine lv_aload_n hx hb dL_law_199 rfl (lv_at hl 0 rfl) ?_
  refine lv_iload hx hb dL_law_200 (lv_at hl 4 rfl) ?_
  refine lv_iconst (v := 2) hx hb dL_law_202 (by decide) ?_
  refine lv_iadd hx hb dL_law_203 ?_
  refine va_sld hx hb hX hbl hbA hS h2 dL_law_204 ?_
  refine g_Vi (n := 2) (o := 69) hx hb hml hown hG hW hS [.int (xs (i + 1).toNatClampNeg), .int (xs (i + 2).toNatClampNeg)] hM2 (ltN hN 69 rfl) gk69 (by decide) rfl rfl (gd_V gx242 gx243 gx244 gx5 gx245) rfl rfl (by decide) ⟨Nat.le_of_ble_eq_true rfl, Nat.le_of_ble_eq_true rfl⟩ rfl hl (Nat.le_of_ble_eq_true rfl) ⟨Nat.le_trans (by omega) hc, Nat.le_trans (by omega) hs⟩ dL_law_205 (fun r mm2 a2 H locs hp hW hS => ?_)
  obtain ⟨rfl, hI2⟩ := hp
  refine lv_icmp_eq (tgt := 1251) hx hb dL_law_208 (by decide) (fun _ => ?_) (fun c9 => absurd rfl c9)
  refine W.widen (k := cells + 7) (n := slots + 28) (by omega) (by omega) ?_
  exact kk N1 q1 mm2 a2 H locs ls ⟨hI2, hq, hW, hS, hl⟩
set_option maxHeartbeats 4000000 in
set_option maxRecDepth 100000 in
theorem lc_1 {F : Nat} {p : Program} {l : Launch} {e : Env} {s : State} {m : MethodId} {below : List Frame} {meth : Method} {c : Code} {b L : Nat} {xs : Nat → Int32} {sa sv : Nat → Nat} {k1 k2 : Nat} {D : va_G} {cy : Nat → ClassId} {Q : State → Prop} {i : Int32} {N : Nat} {q : Nat → Nat} {mm : Nat → Value} {a : Nat → vp_A} {H : Heap} {locs : List Loc} {ls : Array Slot} {cells slots : Nat} (hC : LCx F p l s m c b L xs sa sv k1 k2) (hSt : LSt F s b D cy i N q mm a H locs ls) (hv : LVi i L) (hc : cells + 7 ≤ room_1.cells) (hs : slots + 28 ≤ room_1.slots) (kk : ∀ (N : Nat) (q : Nat → Nat) (mm : Nat → Value) (a : Nat → vp_A) (H : Heap) (locs : List Loc) (ls : Array Slot), LSt F s b D cy i N q mm a H locs ls → W p l e room_1 s m #[.ref b] below meth c H locs (cells + 7) (slots + 28) Q (F0 m 1251 ls [])) : W p l e room_1 s m #[.ref b] below meth c H locs cells slots Q (F0 m 213 ls []) := by
  obtain ⟨hx, hb, hml, hown, hGX, hX, hbl, hst, hXS, hKE, hF⟩ := hC
  obtain ⟨hI, hq, hW, hS, hl⟩ := hSt
  obtain ⟨h1, h2, h3, h4, h5, h6⟩ := hv
  have hG : ∀ w ∈ GG, w.before #[Value.ref b] s = true := fun w hw => hGX w (GG_GX w hw)
  have hbA : ¬ gA N q s.heap.size b := gA_not hq hbl
  have hN := hI.1
  have hcs : cells ≤ room_1.cells ∧ slots ≤ room_1.slots := ⟨Nat.le_trans (Nat.le_add_right _ _) hc, Nat.le_trans (Nat.le_add_right _ _) hs⟩
  refine lv_aload_n hx hb dL_law_213 rfl (lv_at hl 1 rfl) ?_
  refine lv_aload_n hx hb dL_law_214 rfl (lv_at hl 0 rfl) ?_
  refine lv_iload hx hb dL_law_215 (lv_at hl 4 rfl) ?_
  refine lv_iconst (v := 1) hx hb dL_law_217 (by decide) ?_
  refine lv_iadd hx hb dL_law_218 ?_
  refine va_sld hx hb hX hbl hbA hS h1 dL_law_219 ?_
  refine lv_aload_n hx hb dL_law_220 rfl (lv_at hl 0 rfl) ?_
  refine lv_iload hx hb dL_law_221 (lv_at hl 4 rfl) ?_
  refine lv_iconst (v := 2) hx hb dL_law_223 (by decide) ?_
  refine lv_iadd hx hb dL_law_224 ?_
  refine va_sld hx hb hX hbl hbA hS h2 dL_law_225 ?_
  refine lv_aload_n hx hb dL_law_226 rfl (lv_at hl 0 rfl) ?_
  refine lv_iload hx hb dL_law_227 (lv_at hl 4 rfl) ?_
  refine lv_iconst (v := 3) hx hb dL_law_229 (by decide) ?_
  refine lv_iadd hx hb dL_law_230 ?_
  refine va_sld hx hb hX hbl hbA hS h3 dL_law_231 ?_
  refine lv_aload_n hx hb dL_law_232 rfl (lv_at hl 0 rfl) ?_
  refine lv_iload hx hb dL_law_233 (lv_at hl 4 rfl) ?_
  refine lv_iconst (v := 4) hx hb dL_law_235 (by decide) ?_
  refine lv_iadd hx hb dL_law_236 ?_
  refine va_sld hx hb hX hbl hbA hS h4 dL_law_237 ?_
  refine lw_bz hx hb dL_law_238 dL_law_241 dL_law_242 dL_law_245 ?_
  obtain ⟨out, Qp, hM, hN2⟩ := cw_sender hF hI (xs (i + 1).toNatClampNeg) (xs (i + 2).toNatClampNeg) (xs (i + 3).toNatClampNeg) (bzz (xs (i + 4).toNatClampNeg)) (l := l) (D := D) (cy := cy) (sz := H.size)
  refine g_Vi (n := 4) (o := 0) hx hb hml hown hG hW hS [.int (xs (i + 1).toNatClampNeg), .int (xs (i + 2).toNatClampNeg), .int (xs (i + 3).toNatClampNeg), .int (bzz (xs (i + 4).toNatClampNeg))] hM (ltN hN 0 rfl) gk0 (by decide) rfl rfl (gd_V gx258 gx259 gx260 gx2 gx261) rfl rfl (by decide) ⟨Nat.le_of_ble_eq_true rfl, Nat.le_of_ble_eq_true rfl⟩ rfl hl (Nat.le_of_ble_eq_true rfl) hcs dL_law_246 (fun r mm1 a1 H locs hp hW hS => ?_)
  obtain ⟨rfl, hQ⟩ := hp
  refine lv_aload_n hx hb dL_law_249 rfl (lv_at hl 2 rfl) ?_
  refine lv_aload_n hx hb dL_law_250 rfl (lv_at hl 0 rfl) ?_
  refine lv_iload hx hb dL_law_251 (lv_at hl 4 rfl) ?_
  refine lv_iconst (v := 1) hx hb dL_law_253 (by decide) ?_
  refine lv_iadd hx hb dL_law_254 ?_
  refine va_sld hx hb hX hbl hbA hS h1 dL_law_255 ?_
  refine lv_aload_n hx hb dL_law_256 rfl (lv_at hl 0 rfl) ?_
  refine lv_iload hx hb dL_law_257 (lv_at hl 4 rfl) ?_
  refine lv_iconst (v := 2) hx hb dL_law_259 (by decide) ?_
  refine lv_iadd hx hb dL_law_260 ?_
  refine va_sld hx hb hX hbl hbA hS h2 dL_law_261 ?_
  refine lv_aload_n hx hb dL_law_262 rfl (lv_at hl 0 rfl) ?_
  refine lv_iload hx hb dL_law_263 (lv_at hl 4 rfl) ?_
  refine lv_iconst (v := 3) hx hb dL_law_265 (by decide) ?_
  refine lv_iadd hx hb dL_law_266 ?_
  refine va_sld hx hb hX hbl hbA hS h3 dL_law_267 ?_
  refine lv_aload_n hx hb dL_law_268 rfl (lv_at hl 0 rfl) ?_
  refine lv_iload hx hb dL_law_269 (lv_at hl 4 rfl) ?_
  refine lv_iconst (v := 4) hx hb dL_law_271 (by decide) ?_
  refine lv_iadd hx hb dL_law_272 ?_
  refine va_sld hx hb hX hbl hbA hS h4 dL_law_273 ?_
  refine lw_bz hx hb dL_law_274 dL_law_277 dL_law_278 dL_law_281 ?_
  have hM2 := hN2 mm1 a1 H.size hQ
  refine g_Vi (n := 4) (o := 69) hx hb hml hown hG hW hS [.int (xs (i + 1).toNatClampNeg), .int (xs (i + 2).toNatClampNeg), .int (xs (i + 3).toNatClampNeg), .int (bzz (xs (i + 4).toNatClampNeg))] hM2 (ltN hN 69 rfl) gk69 (by decide) rfl rfl (gd_V gx276 gx277 gx278 gx5 gx279) rfl rfl (by decide) ⟨Nat.le_of_ble_eq_true rfl, Nat.le_of_ble_eq_true rfl⟩ rfl hl (Nat.le_of_ble_eq_true rfl) hcs dL_law_282 (fun r mm2 a2 H locs hp hW hS => ?_)
  obtain ⟨rfl, hI2⟩ := hp
  refine lv_icmp_eq (tgt := 1251) hx hb dL_law_285 (by decide) (fun _ => ?_) (fun c9 => absurd rfl c9)
  refine W.widen (k := cells + 7) (n := slots + 28) (by omega) (by omega) ?_
  exact kk N q mm2 a2 H locs ls ⟨hI2, hq, hW, hS, hl⟩
set_option maxHeartbeats 4000000 in
set_option maxRecDepth 100000 in
theorem lc_2 {F : Nat} {p : Program} {l : Launch} {e : Env} {s : State} {m : MethodId} {below : List Frame} {meth : Method} {c : Code} {b L : Nat} {xs : Nat → Int32} {sa sv : Nat → Nat} {k1 k2 : Nat} {D : va_G} {cy : Nat → ClassId} {Q : State → Prop} {i : Int32} {N : Nat} {q : Nat → Nat} {mm : Nat → Value} {a : Nat → vp_A} {H : Heap} {locs : List Loc} {ls : Array Slot} {cells slots : Nat} (hC : LCx F p l s m c b L xs sa sv k1 k2) (hSt : LSt F s b D cy i N q mm a H locs ls) (hv : LVi i L) (hc : cells + 7 ≤ room_1.cells) (hs : slots + 28 ≤ room_1.slots) (kk : ∀ (N : Nat) (q : Nat → Nat) (mm : Nat → Value) (a : Nat → vp_A) (H : Heap) (locs : List Loc) (ls : Array Slot), LSt F s b D cy i N q mm a H locs ls → W p l e room_1 s m #[.ref b] below meth c H locs (cells + 7) (slots + 28) Q (F0 m 1251 ls [])) : W p l e room_1 s m #[.ref b] below meth c H locs cells slots Q (F0 m 290 ls []) := by
  obtain ⟨hx, hb, hml, hown, hGX, hX, hbl, hst, hXS, hKE, hF⟩ := hC
  obtain ⟨hI, hq, hW, hS, hl⟩ := hSt
  obtain ⟨h1, h2, h3, h4, h5, h6⟩ := hv
  have hG : ∀ w ∈ GG, w.before #[Value.ref b] s = true := fun w hw => hGX w (GG_GX w hw)
  have hbA : ¬ gA N q s.heap.size b := gA_not hq hbl
  have hN := hI.1
  have hcs : cells ≤ room_1.cells ∧ slots ≤ room_1.slots := ⟨Nat.le_trans (Nat.le_add_right _ _) hc, Nat.le_trans (Nat.le_add_right _ _) hs⟩
  refine lv_aload_n hx hb dL_law_290 rfl (lv_at hl 1 rfl) ?_
  refine lv_aload_n hx hb dL_law_291 rfl (lv_at hl 0 rfl) ?_
  refine lv_iload hx hb dL_law_292 (lv_at hl 4 rfl) ?_
  refine lv_iconst (v := 1) hx hb dL_law_294 (by decide) ?_
  refine lv_iadd hx hb dL_law_295 ?_
  refine va_sld hx hb hX hbl hbA hS h1 dL_law_296 ?_
  obtain ⟨out, Qp, hM, hN2⟩ := cw_last hF hI (xs (i + 1).toNatClampNeg) (l := l) (D := D) (cy := cy) (sz := H.size)
  refine g_Vi (n := 1) (o := 0) hx hb hml hown hG hW hS [.int (xs (i + 1).toNatClampNeg)] hM (ltN hN 0 rfl) gk0 (by decide) rfl rfl (gd_V gx288 gx289 gx290 gx2 gx291) rfl rfl (by decide) ⟨Nat.le_of_ble_eq_true rfl, Nat.le_of_ble_eq_true rfl⟩ rfl hl (Nat.le_of_ble_eq_true rfl) hcs dL_law_297 (fun r mm1 a1 H locs hp hW hS => ?_)
  obtain ⟨rfl, hQ⟩ := hp
  refine lv_aload_n hx hb dL_law_300 rfl (lv_at hl 2 rfl) ?_
  refine lv_aload_n hx hb dL_law_301 rfl (lv_at hl 0 rfl) ?_
  refine lv_iload hx hb dL_law_302 (lv_at hl 4 rfl) ?_
  refine lv_iconst (v := 1) hx hb dL_law_304 (by decide) ?_
  refine lv_iadd hx hb dL_law_305 ?_
  refine va_sld hx hb hX hbl hbA hS h1 dL_law_306 ?_
  have hM2 := hN2 mm1 a1 H.size hQ
  refine g_Vi (n := 1) (o := 69) hx hb hml hown hG hW hS [.int (xs (i + 1).toNatClampNeg)] hM2 (ltN hN 69 rfl) gk69 (by decide) rfl rfl (gd_V gx300 gx301 gx302 gx5 gx303) rfl rfl (by decide) ⟨Nat.le_of_ble_eq_true rfl, Nat.le_of_ble_eq_true rfl⟩ rfl hl (Nat.le_of_ble_eq_true rfl) hcs dL_law_307 (fun r mm2 a2 H locs hp hW hS => ?_)
  obtain ⟨rfl, hI2⟩ := hp
  refine lv_icmp_eq (tgt := 1251) hx hb dL_law_310 (by decide) (fun _ => ?_) (fun c9 => absurd rfl c9)
  refine W.widen (k := cells + 7) (n := slots + 28) (by omega) (by omega) ?_
  exact kk N q mm2 a2 H locs ls ⟨hI2, hq, hW, hS, hl⟩
set_option maxHeartbeats 4000000 in
set_option maxRecDepth 100000 in
theorem lc_3 {F : Nat} {p : Program} {l : Launch} {e : Env} {s : State} {m : MethodId} {below : List Frame} {meth : Method} {c : Code} {b L : Nat} {xs : Nat → Int32} {sa sv : Nat → Nat} {k1 k2 : Nat} {D : va_G} {cy : Nat → ClassId} {Q : State → Prop} {i : Int32} {N : Nat} {q : Nat → Nat} {mm : Nat → Value} {a : Nat → vp_A} {H : Heap} {locs : List Loc} {ls : Array Slot} {cells slots : Nat} (hC : LCx F p l s m c b L xs sa sv k1 k2) (hSt : LSt F s b D cy i N q mm a H locs ls) (hv : LVi i L) (hc : cells + 7 ≤ room_1.cells) (hs : slots + 28 ≤ room_1.slots) (kk : ∀ (N : Nat) (q : Nat → Nat) (mm : Nat → Value) (a : Nat → vp_A) (H : Heap) (locs : List Loc) (ls : Array Slot), LSt F s b D cy i N q mm a H locs ls → W p l e room_1 s m #[.ref b] below meth c H locs (cells + 7) (slots + 28) Q (F0 m 1251 ls [])) : W p l e room_1 s m #[.ref b] below meth c H locs cells slots Q (F0 m 315 ls []) := by
  obtain ⟨hx, hb, hml, hown, hGX, hX, hbl, hst, hXS, hKE, hF⟩ := hC
  obtain ⟨hI, hq, hW, hS, hl⟩ := hSt
  obtain ⟨h1, h2, h3, h4, h5, h6⟩ := hv
  have hG : ∀ w ∈ GG, w.before #[Value.ref b] s = true := fun w hw => hGX w (GG_GX w hw)
  have hbA : ¬ gA N q s.heap.size b := gA_not hq hbl
  have hN := hI.1
  have hcs : cells ≤ room_1.cells ∧ slots ≤ room_1.slots := ⟨Nat.le_trans (Nat.le_add_right _ _) hc, Nat.le_trans (Nat.le_add_right _ _) hs⟩
  refine lv_aload_n hx hb dL_law_315 rfl (lv_at hl 1 rfl) ?_
  refine lv_aload_n hx hb dL_law_316 rfl (lv_at hl 0 rfl) ?_
  refine lv_iload hx hb dL_law_317 (lv_at hl 4 rfl) ?_
  refine lv_iconst (v := 1) hx hb dL_law_319 (by decide) ?_
  refine lv_iadd hx hb dL_law_320 ?_
  refine va_sld hx hb hX hbl hbA hS h1 dL_law_321 ?_
  refine lv_aload_n hx hb dL_law_322 rfl (lv_at hl 0 rfl) ?_
  refine lv_iload hx hb dL_law_323 (lv_at hl 4 rfl) ?_
  refine lv_iconst (v := 2) hx hb dL_law_325 (by decide) ?_
  refine lv_iadd hx hb dL_law_326 ?_
  refine va_sld hx hb hX hbl hbA hS h2 dL_law_327 ?_
  refine lv_aload_n hx hb dL_law_328 rfl (lv_at hl 0 rfl) ?_
  refine lv_iload hx hb dL_law_329 (lv_at hl 4 rfl) ?_
  refine lv_iconst (v := 3) hx hb dL_law_331 (by decide) ?_
  refine lv_iadd hx hb dL_law_332 ?_
  refine va_sld hx hb hX hbl hbA hS h3 dL_law_333 ?_
  obtain ⟨out, Qp, hM, hN2⟩ := cw_seen hF hI (xs (i + 1).toNatClampNeg) (xs (i + 2).toNatClampNeg) (xs (i + 3).toNatClampNeg) (l := l) (D := D) (cy := cy) (sz := H.size)
  refine g_Vi (n := 3) (o := 0) hx hb hml hown hG hW hS [.int (xs (i + 1).toNatClampNeg), .int (xs (i + 2).toNatClampNeg), .int (xs (i + 3).toNatClampNeg)] hM (ltN hN 0 rfl) gk0 (by decide) rfl rfl (gd_V gx307 gx308 gx309 gx2 gx310) rfl rfl (by decide) ⟨Nat.le_of_ble_eq_true rfl, Nat.le_of_ble_eq_true rfl⟩ rfl hl (Nat.le_of_ble_eq_true rfl) hcs dL_law_334 (fun r mm1 a1 H locs hp hW hS => ?_)
  obtain ⟨rfl, hQ⟩ := hp
  refine lv_aload_n hx hb dL_law_337 rfl (lv_at hl 2 rfl) ?_
  refine lv_aload_n hx hb dL_law_338 rfl (lv_at hl 0 rfl) ?_
  refine lv_iload hx hb dL_law_339 (lv_at hl 4 rfl) ?_
  refine lv_iconst (v := 1) hx hb dL_law_341 (by decide) ?_
  refine lv_iadd hx hb dL_law_342 ?_
  refine va_sld hx hb hX hbl hbA hS h1 dL_law_343 ?_
  refine lv_aload_n hx hb dL_law_344 rfl (lv_at hl 0 rfl) ?_
  refine lv_iload hx hb dL_law_345 (lv_at hl 4 rfl) ?_
  refine lv_iconst (v := 2) hx hb dL_law_347 (by decide) ?_
  refine lv_iadd hx hb dL_law_348 ?_
  refine va_sld hx hb hX hbl hbA hS h2 dL_law_349 ?_
  refine lv_aload_n hx hb dL_law_350 rfl (lv_at hl 0 rfl) ?_
  refine lv_iload hx hb dL_law_351 (lv_at hl 4 rfl) ?_
  refine lv_iconst (v := 3) hx hb dL_law_353 (by decide) ?_
  refine lv_iadd hx hb dL_law_354 ?_
  refine va_sld hx hb hX hbl hbA hS h3 dL_law_355 ?_
  have hM2 := hN2 mm1 a1 H.size hQ
  refine g_Vi (n := 3) (o := 69) hx hb hml hown hG hW hS [.int (xs (i + 1).toNatClampNeg), .int (xs (i + 2).toNatClampNeg), .int (xs (i + 3).toNatClampNeg)] hM2 (ltN hN 69 rfl) gk69 (by decide) rfl rfl (gd_V gx327 gx328 gx329 gx5 gx330) rfl rfl (by decide) ⟨Nat.le_of_ble_eq_true rfl, Nat.le_of_ble_eq_true rfl⟩ rfl hl (Nat.le_of_ble_eq_true rfl) hcs dL_law_356 (fun r mm2 a2 H locs hp hW hS => ?_)
  obtain ⟨rfl, hI2⟩ := hp
  refine lv_icmp_eq (tgt := 1251) hx hb dL_law_359 (by decide) (fun _ => ?_) (fun c9 => absurd rfl c9)
  refine W.widen (k := cells + 7) (n := slots + 28) (by omega) (by omega) ?_
  exact kk N q mm2 a2 H locs ls ⟨hI2, hq, hW, hS, hl⟩
set_option maxHeartbeats 4000000 in
set_option maxRecDepth 100000 in
theorem lc_4 {F : Nat} {p : Program} {l : Launch} {e : Env} {s : State} {m : MethodId} {below : List Frame} {meth : Method} {c : Code} {b L : Nat} {xs : Nat → Int32} {sa sv : Nat → Nat} {k1 k2 : Nat} {D : va_G} {cy : Nat → ClassId} {Q : State → Prop} {i : Int32} {N : Nat} {q : Nat → Nat} {mm : Nat → Value} {a : Nat → vp_A} {H : Heap} {locs : List Loc} {ls : Array Slot} {cells slots : Nat} (hC : LCx F p l s m c b L xs sa sv k1 k2) (hSt : LSt F s b D cy i N q mm a H locs ls) (hv : LVi i L) (hc : cells + 7 ≤ room_1.cells) (hs : slots + 28 ≤ room_1.slots) (kk : ∀ (N : Nat) (q : Nat → Nat) (mm : Nat → Value) (a : Nat → vp_A) (H : Heap) (locs : List Loc) (ls : Array Slot), LSt F s b D cy i N q mm a H locs ls → W p l e room_1 s m #[.ref b] below meth c H locs (cells + 7) (slots + 28) Q (F0 m 1251 ls [])) : W p l e room_1 s m #[.ref b] below meth c H locs cells slots Q (F0 m 364 ls []) := by
  obtain ⟨hx, hb, hml, hown, hGX, hX, hbl, hst, hXS, hKE, hF⟩ := hC
  obtain ⟨hI, hq, hW, hS, hl⟩ := hSt
  obtain ⟨h1, h2, h3, h4, h5, h6⟩ := hv
  have hG : ∀ w ∈ GG, w.before #[Value.ref b] s = true := fun w hw => hGX w (GG_GX w hw)
  have hbA : ¬ gA N q s.heap.size b := gA_not hq hbl
  have hN := hI.1
  have hcs : cells ≤ room_1.cells ∧ slots ≤ room_1.slots := ⟨Nat.le_trans (Nat.le_add_right _ _) hc, Nat.le_trans (Nat.le_add_right _ _) hs⟩
  refine lv_aload_n hx hb dL_law_364 rfl (lv_at hl 1 rfl) ?_
  refine lv_aload_n hx hb dL_law_365 rfl (lv_at hl 0 rfl) ?_
  refine lv_iload hx hb dL_law_366 (lv_at hl 4 rfl) ?_
  refine lv_iconst (v := 1) hx hb dL_law_368 (by decide) ?_
  refine lv_iadd hx hb dL_law_369 ?_
  refine va_sld hx hb hX hbl hbA hS h1 dL_law_370 ?_
  refine lv_aload_n hx hb dL_law_371 rfl (lv_at hl 0 rfl) ?_
  refine lv_iload hx hb dL_law_372 (lv_at hl 4 rfl) ?_
  refine lv_iconst (v := 2) hx hb dL_law_374 (by decide) ?_
  refine lv_iadd hx hb dL_law_375 ?_
  refine va_sld hx hb hX hbl hbA hS h2 dL_law_376 ?_
  refine lv_aload_n hx hb dL_law_377 rfl (lv_at hl 0 rfl) ?_
  refine lv_iload hx hb dL_law_378 (lv_at hl 4 rfl) ?_
  refine lv_iconst (v := 3) hx hb dL_law_380 (by decide) ?_
  refine lv_iadd hx hb dL_law_381 ?_
  refine va_sld hx hb hX hbl hbA hS h3 dL_law_382 ?_
  obtain ⟨out, Qp, hM, hN2⟩ := cw_packets hF hI (xs (i + 1).toNatClampNeg) (xs (i + 2).toNatClampNeg) (xs (i + 3).toNatClampNeg) (l := l) (D := D) (cy := cy) (sz := H.size)
  refine g_Vi (n := 3) (o := 0) hx hb hml hown hG hW hS [.int (xs (i + 1).toNatClampNeg), .int (xs (i + 2).toNatClampNeg), .int (xs (i + 3).toNatClampNeg)] hM (ltN hN 0 rfl) gk0 (by decide) rfl rfl (gd_V gx334 gx335 gx336 gx2 gx337) rfl rfl (by decide) ⟨Nat.le_of_ble_eq_true rfl, Nat.le_of_ble_eq_true rfl⟩ rfl hl (Nat.le_of_ble_eq_true rfl) hcs dL_law_383 (fun r mm1 a1 H locs hp hW hS => ?_)
  obtain ⟨rfl, hQ⟩ := hp
  refine lv_aload_n hx hb dL_law_386 rfl (lv_at hl 2 rfl) ?_
  refine lv_aload_n hx hb dL_law_387 rfl (lv_at hl 0 rfl) ?_
  refine lv_iload hx hb dL_law_388 (lv_at hl 4 rfl) ?_
  refine lv_iconst (v := 1) hx hb dL_law_390 (by decide) ?_
  refine lv_iadd hx hb dL_law_391 ?_
  refine va_sld hx hb hX hbl hbA hS h1 dL_law_392 ?_
  refine lv_aload_n hx hb dL_law_393 rfl (lv_at hl 0 rfl) ?_
  refine lv_iload hx hb dL_law_394 (lv_at hl 4 rfl) ?_
  refine lv_iconst (v := 2) hx hb dL_law_396 (by decide) ?_
  refine lv_iadd hx hb dL_law_397 ?_
  refine va_sld hx hb hX hbl hbA hS h2 dL_law_398 ?_
  refine lv_aload_n hx hb dL_law_399 rfl (lv_at hl 0 rfl) ?_
  refine lv_iload hx hb dL_law_400 (lv_at hl 4 rfl) ?_
  refine lv_iconst (v := 3) hx hb dL_law_402 (by decide) ?_
  refine lv_iadd hx hb dL_law_403 ?_
  refine va_sld hx hb hX hbl hbA hS h3 dL_law_404 ?_
  have hM2 := hN2 mm1 a1 H.size hQ
  refine g_Vi (n := 3) (o := 69) hx hb hml hown hG hW hS [.int (xs (i + 1).toNatClampNeg), .int (xs (i + 2).toNatClampNeg), .int (xs (i + 3).toNatClampNeg)] hM2 (ltN hN 69 rfl) gk69 (by decide) rfl rfl (gd_V gx354 gx355 gx356 gx5 gx357) rfl rfl (by decide) ⟨Nat.le_of_ble_eq_true rfl, Nat.le_of_ble_eq_true rfl⟩ rfl hl (Nat.le_of_ble_eq_true rfl) hcs dL_law_405 (fun r mm2 a2 H locs hp hW hS => ?_)
  obtain ⟨rfl, hI2⟩ := hp
  refine lv_icmp_eq (tgt := 1251) hx hb dL_law_408 (by decide) (fun _ => ?_) (fun c9 => absurd rfl c9)
  refine W.widen (k := cells + 7) (n := slots + 28) (by omega) (by omega) ?_
  exact kk N q mm2 a2 H locs ls ⟨hI2, hq, hW, hS, hl⟩
set_option maxHeartbeats 4000000 in
set_option maxRecDepth 100000 in
theorem lc_5 {F : Nat} {p : Program} {l : Launch} {e : Env} {s : State} {m : MethodId} {below : List Frame} {meth : Method} {c : Code} {b L : Nat} {xs : Nat → Int32} {sa sv : Nat → Nat} {k1 k2 : Nat} {D : va_G} {cy : Nat → ClassId} {Q : State → Prop} {i : Int32} {N : Nat} {q : Nat → Nat} {mm : Nat → Value} {a : Nat → vp_A} {H : Heap} {locs : List Loc} {ls : Array Slot} {cells slots : Nat} (hC : LCx F p l s m c b L xs sa sv k1 k2) (hSt : LSt F s b D cy i N q mm a H locs ls) (hv : LVi i L) (hc : cells + 7 ≤ room_1.cells) (hs : slots + 28 ≤ room_1.slots) (kk : ∀ (N : Nat) (q : Nat → Nat) (mm : Nat → Value) (a : Nat → vp_A) (H : Heap) (locs : List Loc) (ls : Array Slot), LSt F s b D cy i N q mm a H locs ls → W p l e room_1 s m #[.ref b] below meth c H locs (cells + 7) (slots + 28) Q (F0 m 1251 ls [])) : W p l e room_1 s m #[.ref b] below meth c H locs cells slots Q (F0 m 413 ls []) := by
  obtain ⟨hx, hb, hml, hown, hGX, hX, hbl, hst, hXS, hKE, hF⟩ := hC
  obtain ⟨hI, hq, hW, hS, hl⟩ := hSt
  obtain ⟨h1, h2, h3, h4, h5, h6⟩ := hv
  have hG : ∀ w ∈ GG, w.before #[Value.ref b] s = true := fun w hw => hGX w (GG_GX w hw)
  have hbA : ¬ gA N q s.heap.size b := gA_not hq hbl
  have hN := hI.1
  have hcs : cells ≤ room_1.cells ∧ slots ≤ room_1.slots := ⟨Nat.le_trans (Nat.le_add_right _ _) hc, Nat.le_trans (Nat.le_add_right _ _) hs⟩
  refine lv_aload_n hx hb dL_law_413 rfl (lv_at hl 1 rfl) ?_
  refine lv_aload_n hx hb dL_law_414 rfl (lv_at hl 0 rfl) ?_
  refine lv_iload hx hb dL_law_415 (lv_at hl 4 rfl) ?_
  refine lv_iconst (v := 1) hx hb dL_law_417 (by decide) ?_
  refine lv_iadd hx hb dL_law_418 ?_
  refine va_sld hx hb hX hbl hbA hS h1 dL_law_419 ?_
  refine lv_aload_n hx hb dL_law_420 rfl (lv_at hl 0 rfl) ?_
  refine lv_iload hx hb dL_law_421 (lv_at hl 4 rfl) ?_
  refine lv_iconst (v := 2) hx hb dL_law_423 (by decide) ?_
  refine lv_iadd hx hb dL_law_424 ?_
  refine va_sld hx hb hX hbl hbA hS h2 dL_law_425 ?_
  obtain ⟨out, Qp, hM, hN2⟩ := cw_letters hF hI (xs (i + 1).toNatClampNeg) (xs (i + 2).toNatClampNeg) (l := l) (D := D) (cy := cy) (sz := H.size)
  refine g_Vi (n := 2) (o := 0) hx hb hml hown hG hW hS [.int (xs (i + 1).toNatClampNeg), .int (xs (i + 2).toNatClampNeg)] hM (ltN hN 0 rfl) gk0 (by decide) rfl rfl (gd_V gx364 gx365 gx366 gx2 gx367) rfl rfl (by decide) ⟨Nat.le_of_ble_eq_true rfl, Nat.le_of_ble_eq_true rfl⟩ rfl hl (Nat.le_of_ble_eq_true rfl) hcs dL_law_426 (fun r mm1 a1 H locs hp hW hS => ?_)
  obtain ⟨rfl, hQ⟩ := hp
  refine lv_aload_n hx hb dL_law_429 rfl (lv_at hl 2 rfl) ?_
  refine lv_aload_n hx hb dL_law_430 rfl (lv_at hl 0 rfl) ?_
  refine lv_iload hx hb dL_law_431 (lv_at hl 4 rfl) ?_
  refine lv_iconst (v := 1) hx hb dL_law_433 (by decide) ?_
  refine lv_iadd hx hb dL_law_434 ?_
  refine va_sld hx hb hX hbl hbA hS h1 dL_law_435 ?_
  refine lv_aload_n hx hb dL_law_436 rfl (lv_at hl 0 rfl) ?_
  refine lv_iload hx hb dL_law_437 (lv_at hl 4 rfl) ?_
  refine lv_iconst (v := 2) hx hb dL_law_439 (by decide) ?_
  refine lv_iadd hx hb dL_law_440 ?_
  refine va_sld hx hb hX hbl hbA hS h2 dL_law_441 ?_
  have hM2 := hN2 mm1 a1 H.size hQ
  refine g_Vi (n := 2) (o := 69) hx hb hml hown hG hW hS [.int (xs (i + 1).toNatClampNeg), .int (xs (i + 2).toNatClampNeg)] hM2 (ltN hN 69 rfl) gk69 (by decide) rfl rfl (gd_V gx376 gx377 gx378 gx5 gx379) rfl rfl (by decide) ⟨Nat.le_of_ble_eq_true rfl, Nat.le_of_ble_eq_true rfl⟩ rfl hl (Nat.le_of_ble_eq_true rfl) hcs dL_law_442 (fun r mm2 a2 H locs hp hW hS => ?_)
  obtain ⟨rfl, hI2⟩ := hp
  refine lv_icmp_eq (tgt := 1251) hx hb dL_law_445 (by decide) (fun _ => ?_) (fun c9 => absurd rfl c9)
  refine W.widen (k := cells + 7) (n := slots + 28) (by omega) (by omega) ?_
  exact kk N q mm2 a2 H locs ls ⟨hI2, hq, hW, hS, hl⟩
set_option maxHeartbeats 4000000 in
set_option maxRecDepth 100000 in
theorem lc_6 {F : Nat} {p : Program} {l : Launch} {e : Env} {s : State} {m : MethodId} {below : List Frame} {meth : Method} {c : Code} {b L : Nat} {xs : Nat → Int32} {sa sv : Nat → Nat} {k1 k2 : Nat} {D : va_G} {cy : Nat → ClassId} {Q : State → Prop} {i : Int32} {N : Nat} {q : Nat → Nat} {mm : Nat → Value} {a : Nat → vp_A} {H : Heap} {locs : List Loc} {ls : Array Slot} {cells slots : Nat} (hC : LCx F p l s m c b L xs sa sv k1 k2) (hSt : LSt F s b D cy i N q mm a H locs ls) (hv : LVi i L) (hc : cells + 7 ≤ room_1.cells) (hs : slots + 28 ≤ room_1.slots) (kk : ∀ (N : Nat) (q : Nat → Nat) (mm : Nat → Value) (a : Nat → vp_A) (H : Heap) (locs : List Loc) (ls : Array Slot), LSt F s b D cy i N q mm a H locs ls → W p l e room_1 s m #[.ref b] below meth c H locs (cells + 7) (slots + 28) Q (F0 m 1251 ls [])) : W p l e room_1 s m #[.ref b] below meth c H locs cells slots Q (F0 m 450 ls []) := by
  obtain ⟨hx, hb, hml, hown, hGX, hX, hbl, hst, hXS, hKE, hF⟩ := hC
  obtain ⟨hI, hq, hW, hS, hl⟩ := hSt
  obtain ⟨h1, h2, h3, h4, h5, h6⟩ := hv
  have hG : ∀ w ∈ GG, w.before #[Value.ref b] s = true := fun w hw => hGX w (GG_GX w hw)
  have hbA : ¬ gA N q s.heap.size b := gA_not hq hbl
  have hN := hI.1
  have hcs : cells ≤ room_1.cells ∧ slots ≤ room_1.slots := ⟨Nat.le_trans (Nat.le_add_right _ _) hc, Nat.le_trans (Nat.le_add_right _ _) hs⟩
  refine lv_aload_n hx hb dL_law_450 rfl (lv_at hl 1 rfl) ?_
  refine lv_aload_n hx hb dL_law_451 rfl (lv_at hl 0 rfl) ?_
  refine lv_iload hx hb dL_law_452 (lv_at hl 4 rfl) ?_
  refine lv_iconst (v := 1) hx hb dL_law_454 (by decide) ?_
  refine lv_iadd hx hb dL_law_455 ?_
  refine va_sld hx hb hX hbl hbA hS h1 dL_law_456 ?_
  refine lv_aload_n hx hb dL_law_457 rfl (lv_at hl 0 rfl) ?_
  refine lv_iload hx hb dL_law_458 (lv_at hl 4 rfl) ?_
  refine lv_iconst (v := 2) hx hb dL_law_460 (by decide) ?_
  refine lv_iadd hx hb dL_law_461 ?_
  refine va_sld hx hb hX hbl hbA hS h2 dL_law_462 ?_
  obtain ⟨out, Qp, hM, hN2⟩ := cw_queue hF hI (xs (i + 1).toNatClampNeg) (xs (i + 2).toNatClampNeg) (l := l) (D := D) (cy := cy) (sz := H.size)
  refine g_Vi (n := 2) (o := 0) hx hb hml hown hG hW hS [.int (xs (i + 1).toNatClampNeg), .int (xs (i + 2).toNatClampNeg)] hM (ltN hN 0 rfl) gk0 (by decide) rfl rfl (gd_V gx386 gx387 gx388 gx2 gx389) rfl rfl (by decide) ⟨Nat.le_of_ble_eq_true rfl, Nat.le_of_ble_eq_true rfl⟩ rfl hl (Nat.le_of_ble_eq_true rfl) hcs dL_law_463 (fun r mm1 a1 H locs hp hW hS => ?_)
  obtain ⟨rfl, hQ⟩ := hp
  refine lv_aload_n hx hb dL_law_466 rfl (lv_at hl 2 rfl) ?_
  refine lv_aload_n hx hb dL_law_467 rfl (lv_at hl 0 rfl) ?_
  refine lv_iload hx hb dL_law_468 (lv_at hl 4 rfl) ?_
  refine lv_iconst (v := 1) hx hb dL_law_470 (by decide) ?_
  refine lv_iadd hx hb dL_law_471 ?_
  refine va_sld hx hb hX hbl hbA hS h1 dL_law_472 ?_
  refine lv_aload_n hx hb dL_law_473 rfl (lv_at hl 0 rfl) ?_
  refine lv_iload hx hb dL_law_474 (lv_at hl 4 rfl) ?_
  refine lv_iconst (v := 2) hx hb dL_law_476 (by decide) ?_
  refine lv_iadd hx hb dL_law_477 ?_
  refine va_sld hx hb hX hbl hbA hS h2 dL_law_478 ?_
  have hM2 := hN2 mm1 a1 H.size hQ
  refine g_Vi (n := 2) (o := 69) hx hb hml hown hG hW hS [.int (xs (i + 1).toNatClampNeg), .int (xs (i + 2).toNatClampNeg)] hM2 (ltN hN 69 rfl) gk69 (by decide) rfl rfl (gd_V gx390 gx391 gx392 gx5 gx393) rfl rfl (by decide) ⟨Nat.le_of_ble_eq_true rfl, Nat.le_of_ble_eq_true rfl⟩ rfl hl (Nat.le_of_ble_eq_true rfl) hcs dL_law_479 (fun r mm2 a2 H locs hp hW hS => ?_)
  obtain ⟨rfl, hI2⟩ := hp
  refine lv_icmp_eq (tgt := 1251) hx hb dL_law_482 (by decide) (fun _ => ?_) (fun c9 => absurd rfl c9)
  refine W.widen (k := cells + 7) (n := slots + 28) (by omega) (by omega) ?_
  exact kk N q mm2 a2 H locs ls ⟨hI2, hq, hW, hS, hl⟩
set_option maxHeartbeats 4000000 in
set_option maxRecDepth 100000 in
theorem lc_7 {F : Nat} {p : Program} {l : Launch} {e : Env} {s : State} {m : MethodId} {below : List Frame} {meth : Method} {c : Code} {b L : Nat} {xs : Nat → Int32} {sa sv : Nat → Nat} {k1 k2 : Nat} {D : va_G} {cy : Nat → ClassId} {Q : State → Prop} {i : Int32} {N : Nat} {q : Nat → Nat} {mm : Nat → Value} {a : Nat → vp_A} {H : Heap} {locs : List Loc} {ls : Array Slot} {cells slots : Nat} (hC : LCx F p l s m c b L xs sa sv k1 k2) (hSt : LSt F s b D cy i N q mm a H locs ls) (hv : LVi i L) (hc : cells + 7 ≤ room_1.cells) (hs : slots + 28 ≤ room_1.slots) (kk : ∀ (N : Nat) (q : Nat → Nat) (mm : Nat → Value) (a : Nat → vp_A) (H : Heap) (locs : List Loc) (ls : Array Slot), LSt F s b D cy i N q mm a H locs ls → W p l e room_1 s m #[.ref b] below meth c H locs (cells + 7) (slots + 28) Q (F0 m 1251 ls [])) : W p l e room_1 s m #[.ref b] below meth c H locs cells slots Q (F0 m 487 ls []) := by
  obtain ⟨hx, hb, hml, hown, hGX, hX, hbl, hst, hXS, hKE, hF⟩ := hC
  obtain ⟨hI, hq, hW, hS, hl⟩ := hSt
  obtain ⟨h1, h2, h3, h4, h5, h6⟩ := hv
  have hG : ∀ w ∈ GG, w.before #[Value.ref b] s = true := fun w hw => hGX w (GG_GX w hw)
  have hbA : ¬ gA N q s.heap.size b := gA_not hq hbl
  have hN := hI.1
  have hcs : cells ≤ room_1.cells ∧ slots ≤ room_1.slots := ⟨Nat.le_trans (Nat.le_add_right _ _) hc, Nat.le_trans (Nat.le_add_right _ _) hs⟩
  refine lv_aload_n hx hb dL_law_487 rfl (lv_at hl 1 rfl) ?_
  refine lv_aload_n hx hb dL_law_488 rfl (lv_at hl 0 rfl) ?_
  refine lv_iload hx hb dL_law_489 (lv_at hl 4 rfl) ?_
  refine lv_iconst (v := 1) hx hb dL_law_491 (by decide) ?_
  refine lv_iadd hx hb dL_law_492 ?_
  refine va_sld hx hb hX hbl hbA hS h1 dL_law_493 ?_
  refine lv_aload_n hx hb dL_law_494 rfl (lv_at hl 0 rfl) ?_
  refine lv_iload hx hb dL_law_495 (lv_at hl 4 rfl) ?_
  refine lv_iconst (v := 2) hx hb dL_law_497 (by decide) ?_
  refine lv_iadd hx hb dL_law_498 ?_
  refine va_sld hx hb hX hbl hbA hS h2 dL_law_499 ?_
  refine lv_aload_n hx hb dL_law_500 rfl (lv_at hl 0 rfl) ?_
  refine lv_iload hx hb dL_law_501 (lv_at hl 4 rfl) ?_
  refine lv_iconst (v := 3) hx hb dL_law_503 (by decide) ?_
  refine lv_iadd hx hb dL_law_504 ?_
  refine va_sld hx hb hX hbl hbA hS h3 dL_law_505 ?_
  obtain ⟨out, Qp, hM, hN2⟩ := cw_act hF hI (xs (i + 1).toNatClampNeg) (xs (i + 2).toNatClampNeg) (xs (i + 3).toNatClampNeg) (l := l) (D := D) (cy := cy) (sz := H.size)
  refine g_Vi (n := 3) (o := 0) hx hb hml hown hG hW hS [.int (xs (i + 1).toNatClampNeg), .int (xs (i + 2).toNatClampNeg), .int (xs (i + 3).toNatClampNeg)] hM (ltN hN 0 rfl) gk0 (by decide) rfl rfl (gd_V gx394 gx395 gx396 gx2 gx397) rfl rfl (by decide) ⟨Nat.le_of_ble_eq_true rfl, Nat.le_of_ble_eq_true rfl⟩ rfl hl (Nat.le_of_ble_eq_true rfl) hcs dL_law_506 (fun r mm1 a1 H locs hp hW hS => ?_)
  obtain ⟨rfl, hQ⟩ := hp
  refine lv_aload_n hx hb dL_law_509 rfl (lv_at hl 2 rfl) ?_
  refine lv_aload_n hx hb dL_law_510 rfl (lv_at hl 0 rfl) ?_
  refine lv_iload hx hb dL_law_511 (lv_at hl 4 rfl) ?_
  refine lv_iconst (v := 1) hx hb dL_law_513 (by decide) ?_
  refine lv_iadd hx hb dL_law_514 ?_
  refine va_sld hx hb hX hbl hbA hS h1 dL_law_515 ?_
  refine lv_aload_n hx hb dL_law_516 rfl (lv_at hl 0 rfl) ?_
  refine lv_iload hx hb dL_law_517 (lv_at hl 4 rfl) ?_
  refine lv_iconst (v := 2) hx hb dL_law_519 (by decide) ?_
  refine lv_iadd hx hb dL_law_520 ?_
  refine va_sld hx hb hX hbl hbA hS h2 dL_law_521 ?_
  refine lv_aload_n hx hb dL_law_522 rfl (lv_at hl 0 rfl) ?_
  refine lv_iload hx hb dL_law_523 (lv_at hl 4 rfl) ?_
  refine lv_iconst (v := 3) hx hb dL_law_525 (by decide) ?_
  refine lv_iadd hx hb dL_law_526 ?_
  refine va_sld hx hb hX hbl hbA hS h3 dL_law_527 ?_
  have hM2 := hN2 mm1 a1 H.size hQ
  refine g_Vi (n := 3) (o := 69) hx hb hml hown hG hW hS [.int (xs (i + 1).toNatClampNeg), .int (xs (i + 2).toNatClampNeg), .int (xs (i + 3).toNatClampNeg)] hM2 (ltN hN 69 rfl) gk69 (by decide) rfl rfl (gd_V gx493 gx494 gx495 gx5 gx496) rfl rfl (by decide) ⟨Nat.le_of_ble_eq_true rfl, Nat.le_of_ble_eq_true rfl⟩ rfl hl (Nat.le_of_ble_eq_true rfl) hcs dL_law_528 (fun r mm2 a2 H locs hp hW hS => ?_)
  obtain ⟨rfl, hI2⟩ := hp
  refine lv_icmp_eq (tgt := 1251) hx hb dL_law_531 (by decide) (fun _ => ?_) (fun c9 => absurd rfl c9)
  refine W.widen (k := cells + 7) (n := slots + 28) (by omega) (by omega) ?_
  exact kk N q mm2 a2 H locs ls ⟨hI2, hq, hW, hS, hl⟩
