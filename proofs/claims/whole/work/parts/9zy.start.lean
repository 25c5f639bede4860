/-! part 9zy: the law, from its entry -/
set_option maxHeartbeats 4000000 in
set_option maxRecDepth 100000 in
theorem whole_start {p : Program} {e : Env} {s : State} {m : MethodId} {below : List Frame} {meth : Method} {c : Code} (l : Launch) (hflags : l.flags = flags0) {b L : Nat} {xs : Nat → Int32} (hL : L ≤ 3584) (C0 : lw_At p s m meth c b L xs) : W p l e room_1 s m #[Value.ref b] below meth c s.heap [] 0 0 (lw_Z below #[Value.ref b] s) (entryFrame m ([Value.ref b] : List Value).toArray 7) := by
  obtain ⟨hx, hb, hr, hml, hown, hts, hX, hbl, hlocks, hgv⟩ := id C0
  have hst : l.stackTraces = false := by
    unfold Launch.stackTraces
    rw [hflags]
    decide +kernel
  have hG : ∀ w ∈ GG, w.before #[Value.ref b] s = true := fun w hw => hts w (GGl w hw)
  have hGX : ∀ w ∈ GX, w.before #[Value.ref b] s = true := fun w hw => hts w (GXl w hw)
  have hNW := nw_start hts
  obtain ⟨D, cy, hK⟩ := k_start hG
  have hA : ∀ q : Nat, s.heap.size ≤ q → (fun q : Nat => s.heap.size ≤ q) q := fun _ h => h
  have hA0 : ∀ q : Nat, q < s.heap.size → ¬ (fun q : Nat => s.heap.size ≤ q) q := fun _ h => Nat.not_le.mpr h
  obtain ⟨sa, sv, hXS⟩ := xs_start (A := fun q : Nat => s.heap.size ≤ q) hts hgv hA0
  obtain ⟨k1, k2, hKE⟩ := ke_start (A := fun q : Nat => s.heap.size ≤ q) hts hgv hA0
  have hS : va_S (fun q : Nat => s.heap.size ≤ q) s.heap s.heap [] := va_S.rf
  have hW : GW D cy (fun q : Nat => s.heap.size ≤ q) 0 (fun _ => 0) (fun _ => .null) (fun _ => (0, .inl fun _ => 0)) s s.heap := ⟨fun k q h => by simp [gw] at h, hK, fun i j p q h => by simp [gw] at h, fun k q h => by simp [gw] at h⟩
  have hl := lv_entry ([.ref b]) (n := 7) (Nat.le_of_ble_eq_true rfl)
  rw [lg_entry_eq]
  generalize (lg_sl ([.ref b]) ++ List.replicate (7 - (lg_sl ([.ref b])).length) Slot.unset).toArray = ls at hl ⊢
  have hl : lv_has ls 7 [(0, .ref b)] := hl
  refine g_new (C := RX11) (T := TX11) (n := 15) (ci := 11) (fs := [.null, .null, .null, .null, .null, .null, .null, .null, .long 0, .int 0, .int 0, .int 0, .long 0, .int 0, .int 0]) hx hb hG gm_wsX110 tyX11 tyX11_ok hown gx0 gx1 gx2 hW hS hA gk0 rfl (by decide) rfl rfl (by decide +kernel) (Nat.le_of_ble_eq_true rfl) (Nat.le_of_ble_eq_true rfl) dL_law_0 (fun q1 m1 H hq1 hm1 hd1 hW hS => ?_)
  refine W.widen (k := 1) (n := 15) (by omega) (by omega) ?_
  refine lv_dup hx hb dL_law_3 rfl ?_
  refine g_In (n := 0) (o := 0) (rest := [.ref (q1 0)]) hx hb hml hown hG hW hS hA hNW [] (kX11_init hd1) rfl gx8 gx9 gx2 gx10 rfl rfl (by decide) ⟨Nat.le_of_ble_eq_true rfl, Nat.le_of_ble_eq_true rfl⟩ rfl hl (Nat.le_of_ble_eq_true rfl) ⟨Nat.le_of_ble_eq_true rfl, Nat.le_of_ble_eq_true rfl⟩ dL_law_4 (fun q2 m2 a2 H locs hp2 hW hS => ?_)
  obtain ⟨hq2, hm2, ha2, hf2, hs2, hv2⟩ := hp2
  refine W.widen (k := 69) (n := 221078) (Nat.le_of_ble_eq_true rfl) (Nat.le_of_ble_eq_true rfl) ?_
  rw [← hq2 0 (by decide)]
  refine lv_astore_n (lv' := [(1, .ref (q2 0)), (0, .ref b)]) hx hb dL_law_7 rfl hl (by decide) rfl (fun ls hl => ?_)
  refine g_new (C := RX12) (T := TX12) (n := 67) (ci := 12) (fs := [.int 0, .int 0, .int 0, .int 0, .long 0, .null, .int 0, .null, .null, .int 0, .null, .int 0, .int 0, .long 0, .null, .int 0, .null, .int 0, .int 0, .long 0, .int 0, .int 0, .int 0, .null, .null, .null, .null, .int 0, .null, .null, .null, .null, .null, .null, .null, .int 0, .null, .null, .null, .null, .null, .null, .null, .int 0, .int 0, .int 0, .null, .null, .null, .null, .null, .null, .null, .null, .null, .int 0, .null, .int 0, .int 0, .int 0, .int 0, .long 0, .int 0, .int 0, .int 0, .int 0, .int 0]) hx hb hG gm_wsX120 tyX12 tyX12_ok hown gx3 gx4 gx5 hW hS hA gk69 rfl (by decide) rfl rfl (by decide +kernel) (Nat.le_of_ble_eq_true rfl) (Nat.le_of_ble_eq_true rfl) dL_law_8 (fun q3 m3 H hq3 hm3 hd3 hW hS => ?_)
  refine W.widen (k := 70) (n := 221145) (Nat.le_of_ble_eq_true rfl) (Nat.le_of_ble_eq_true rfl) ?_
  refine lv_dup hx hb dL_law_11 rfl ?_
  refine g_In (n := 0) (o := 69) (rest := [.ref (q3 69)]) hx hb hml hown hG hW hS hA hNW [] (kX12_init hd3) rfl gx158 gx159 gx5 gx160 rfl rfl (by decide) ⟨Nat.le_of_ble_eq_true rfl, Nat.le_of_ble_eq_true rfl⟩ rfl hl (Nat.le_of_ble_eq_true rfl) ⟨Nat.le_of_ble_eq_true rfl, Nat.le_of_ble_eq_true rfl⟩ dL_law_12 (fun q4 m4 a4 H locs hp4 hW hS => ?_)
  obtain ⟨hq4, hm4, ha4, hf4, hs4, hv4⟩ := hp4
  refine W.widen (k := 104) (n := 749834) (Nat.le_of_ble_eq_true rfl) (Nat.le_of_ble_eq_true rfl) ?_
  rw [← hq4 69 (by decide)]
  refine lv_astore_n (lv' := [(2, .ref (q4 69)), (1, .ref (q2 0)), (0, .ref b)]) hx hb dL_law_15 rfl hl (by decide) rfl (fun ls hl => ?_)
  refine lv_iconst (v := 1) hx hb dL_law_16 (by decide) ?_
  refine g_newa (atype := .long) (ty := .long) (t := 2) (N' := 1) (a0 := (1, .inr (.inl fun _ => 0))) hx hb rfl hG gx6 hW hS hA gk104 rfl (fun _ _ => rfl) (fun cA => rfl) (by decide) (by decide) (Nat.le_of_ble_eq_true rfl) (Nat.le_of_ble_eq_true rfl) (Nat.le_of_ble_eq_true rfl) dL_law_17 (fun q5 a5 H hq5 ha5 ha5n hW hS => ?_)
  refine W.widen (k := 105) (n := 749840) (Nat.le_of_ble_eq_true rfl) (Nat.le_of_ble_eq_true rfl) ?_
  refine lv_astore_n (lv' := [(3, .ref (q5 104)), (2, .ref (q4 69)), (1, .ref (q2 0)), (0, .ref b)]) hx hb dL_law_19 rfl hl (by decide) rfl (fun ls hl => ?_)
  refine lv_iconst (v := 0) hx hb dL_law_20 (by decide) ?_
  refine lv_istore (lv' := [(4, .int 0), (3, .ref (q5 104)), (2, .ref (q4 69)), (1, .ref (q2 0)), (0, .ref b)]) hx hb dL_law_21 hl (by decide) rfl (fun ls hl => ?_)
  have hq : ∀ k, k < 105 → s.heap.size ≤ q5 k := fun k hk => hW.2.2.2 k (q5 k, gcont cy m4 a5 k) (gw_at hk)
  have hW : GW D cy (gA 105 q5 s.heap.size) 105 q5 m4 a5 s H := by
    rw [gA_all hq]
    exact hW
  have hS : va_S (gA 105 q5 s.heap.size) s.heap H locs := by
    rw [gA_all hq]
    exact hS
  have e0 : q5 0 = q2 0 := by rw [hq5 0 (by decide), hq4 0 (by decide), hq3 0 (by decide)]
  have e69 : q5 69 = q4 69 := hq5 69 (by decide)
  have hI : INV 800000 105 q5 m4 a5 := by
    refine inv_start (f := fun _ => 0) ?_ ?_ ?_ ?_ ?_ ?_ ha5n
    · exact ((hf2.keep (N := 69) (B := 6900) hq3 hm3 (by decide +kernel)).keep (N := 70) (B := 6900) hq4 hm4 (by decide +kernel)).keep (N := 104) (B := 6900) (m' := m4) hq5 (fun _ _ => rfl) (by decide +kernel)
    · exact FS.keep (L := fsM) (N := 104) (B := 10000) (m' := m4) hf4 hq5 (fun _ _ => rfl) (by decide +kernel)
    · exact AS.keep (L := asX) (N := 104) (AS.keep (L := asX) (N := 70) hs2 ha4 (by decide +kernel)) ha5 (by decide +kernel)
    · exact AS.keep (L := asM) (N := 104) hs4 ha5 (by decide +kernel)
    · exact VS.keep (L := vsX) (B := 6900) (VS.keep (L := vsX) (B := 6900) hv2 hm3 (by decide +kernel)) hm4 (by decide +kernel)
    · exact hv4
  have hC : LCx 800000 p l s m c b L xs sa sv k1 k2 := ⟨hx, hb, hml, hown, hGX, hX, hbl, hst, hXS, hKE, Nat.le_refl _⟩
  refine law_loop hL hC hr hlocks (L + 1) 0 105 q5 m4 a5 H locs ls (by omega) (by omega) ⟨hI, hq, hW, hS, ?_⟩
  rw [e0, e69, show nI (7 * 0) = 0 from nI_0]
  exact lv_sub hl [4, 3, 2, 1, 0] rfl
