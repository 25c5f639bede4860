/-! part 84: all states are walked through -/
section ROOT
variable {n : Nat} {fs tg ot : Nat → Nat} {A30 A35 A81 A82 A83 : Nat → Int32}
theorem di_root {clk np : Nat} {met low st pa ne prt W : Nat → Nat} (H : DI n fs tg ot clk 0 0 np met low st pa ne prt W) (hG : Gr n fs tg) {v : Nat} (hv : v < n) (hm : met v = 0) : DI n fs tg ot (clk + 1) 1 1 np (updN met v (clk + 1)) (updN low v (clk + 1)) (updN st 0 v) (updN pa 0 v) (updN ne 0 (fs v)) prt W := by
  obtain ⟨a1, a2, b1, b2, b3, b4, c1, c2, c3, d1, e1, e2, g1, g2, g3, h⟩ := H
  have hcl : ∀ u, u < n → met u ≠ 0 → prt u ≠ 0 := fun u hu hmu hp => by
    obtain ⟨i, hi, _⟩ := b3 u hu hmu hp
    omega
  have hpv := b4 v hv hm
  have only : ∀ u, u < n → updN met v (clk + 1) u ≠ 0 → prt u = 0 → u = v := by
    intro u hu hmu hp
    by_cases huv : u = v
    · exact huv
    · rw [updN_ne huv] at hmu; exact absurd hp (hcl u hu hmu)
  have nolk : ∀ e, ¬ lkd fs 1 (updN pa 0 v) (updN ne 0 (fs v)) v e := by
    rintro e ⟨h1, h2, h3⟩
    have := h3 0 (by decide) (updN_at _ _ _)
    rw [updN_at] at this; omega
  refine ⟨by rw [cntN_upd hv hm (by omega), a1], fun u hu => ?_, fun i hi => ?_, fun i j hij hj => by omega, fun u hu hmu hp => ⟨0, by decide, by rw [updN_at]; exact (only u hu hmu hp).symm⟩, fun u hu hmu => ?_, fun i hi => ?_, fun i j hij hj => by omega, fun _ => ⟨by decide, by rw [updN_at, updN_at]⟩, fun u hu hmu hp => ?_, fun u hu hmu e hl => ?_, fun u hu hmu hp e hl => ?_, fun u hu hp => ?_, g2, g3, by omega⟩
  · by_cases huv : u = v
    · subst huv; rw [updN_at]; exact Nat.le_refl _
    · rw [updN_ne huv]; have := a2 u hu; omega
  · obtain rfl : i = 0 := by omega
    rw [updN_at, updN_at]; exact ⟨hv, by omega, hpv⟩
  · by_cases huv : u = v
    · subst huv; exact hpv
    · rw [updN_ne huv] at hmu; exact b4 u hu hmu
  · obtain rfl : i = 0 := by omega
    rw [updN_at, updN_at, updN_at]
    exact ⟨hv, by omega, hpv, Nat.le_refl _, Nat.le_of_lt (hG.2.2.2.1 v hv)⟩
  · obtain rfl := only u hu hmu hp
    rw [updN_at, updN_at, updN_at, updN_at]
    exact ⟨by omega, Nat.le_refl _, Nat.le_refl _⟩
  · by_cases huv : u = v
    · subst huv; exact absurd hl (nolk e)
    · rw [updN_ne huv] at hmu
      have hpu := hcl u hu hmu
      have htn := hG.2.2.2.2.2 e (Nat.lt_of_lt_of_le hl.2.1 (gr_mono hG (by omega) (Nat.le_refl _)))
      have hpt := ((g1 u hu hpu).2.2.2 e hl.1 hl.2.1).1
      have hmt := (g1 _ htn hpt).2.1
      by_cases htv : tg e = v
      · rw [htv, updN_at]; omega
      · rw [updN_ne htv]; exact hmt
  · obtain rfl := only u hu hmu hp
    exact absurd hl (nolk e)
  · obtain ⟨q1, q2, q3, q4⟩ := g1 u hu hp
    refine ⟨q1, ?_, q3, q4⟩
    by_cases huv : u = v
    · rw [huv, updN_at]; omega
    · rw [updN_ne huv]; exact q2
theorem sum_deg (hG : Gr n fs tg) : ∀ k, k ≤ n → sumTo (fun v => fs (v + 1) - fs v + 1) k = fs k + k := by
  intro k
  induction k with
  | zero => intro _; rw [hG.2.2.1]; rfl
  | succ k ih =>
    intro hk
    have := ih (by omega)
    have := hG.2.2.2.1 k (by omega)
    simp only [sumTo]
    omega
theorem phi_root (hG : Gr n fs tg) {clk v : Nat} {met pa ne : Nat → Nat} (hv : v < n) (hm : met v = 0) : phi n fs 1 (updN met v (clk + 1)) (updN pa 0 v) (updN ne 0 (fs v)) ≤ fs n + n := by
  have h1 := sumTo_upd (g := fun u => if updN met v (clk + 1) u = 0 then fs (u + 1) - fs u + 1 else 0) (h := fun u => if u = v then fs (v + 1) - fs v + 1 else if updN met v (clk + 1) u = 0 then fs (u + 1) - fs u + 1 else 0) (k := v) n hv (fun j hj hne => by rw [if_neg hne])
  rw [updN_at, if_neg (by omega), if_pos rfl] at h1
  have h2 := sumTo_le' (g := fun u => if u = v then fs (v + 1) - fs v + 1 else if updN met v (clk + 1) u = 0 then fs (u + 1) - fs u + 1 else 0) (h := fun u => fs (u + 1) - fs u + 1) n (fun k hk => by
    by_cases hkv : k = v
    · subst hkv; rw [if_pos rfl]; exact Nat.le_refl _
    · rw [if_neg hkv]; split <;> omega)
  rw [sum_deg hG n (Nat.le_refl _)] at h2
  unfold phi
  simp only [sumTo, updN_at]
  omega
abbrev CB := Int32 × Int32 × (Nat → Int32) × (Nat → Int32) × (Nat → Int32) × (Nat → Int32) × (Nat → Int32) × (Nat → Int32)
abbrev MB := Int32 × Int32 × Int32 × (Nat → Int32) × (Nat → Int32) × (Nat → Int32) × (Nat → Int32) × (Nat → Int32) × (Nat → Int32) × (Nat → Int32)
def BR (n : Nat) (fs tg ot : Nat → Nat) (mk : Nat → Prop) (s : CB) (t : MB) : Prop := ∃ (clk np : Nat) (met low st pa ne prt W : Nat → Nat), DI n fs tg ot clk 0 0 np met low st pa ne prt W ∧ LwP n clk met low ∧ s.1 = Int32.ofNat clk ∧ s.2.1 = Int32.ofNat 0 ∧ CDr n 0 0 met low st pa ne prt W s.2.2.1 s.2.2.2.1 s.2.2.2.2.1 s.2.2.2.2.2.1 s.2.2.2.2.2.2.1 s.2.2.2.2.2.2.2 ∧ t.1 = Int32.ofNat 0 ∧ t.2.1 = Int32.ofNat np ∧ t.2.2.1 = Int32.ofNat clk ∧ MDr n 0 0 met low st pa ne prt t.2.2.2.1 t.2.2.2.2.1 t.2.2.2.2.2.1 t.2.2.2.2.2.2.1 t.2.2.2.2.2.2.2.1 t.2.2.2.2.2.2.2.2.1 t.2.2.2.2.2.2.2.2.2 ∧ ∀ u, mk u → met u ≠ 0
theorem walk_loop (hG : Gr n fs tg) (hC : CGr n fs tg ot A30 A35) (hM : MGr n fs tg ot A81 A82 A83) {F : Nat} (hF : 70000 ≤ F) {mk : Nat → Prop} (s : CW) (t : MW) (h : LR n fs tg ot mk s t) : ∃ r q, gloop (fun u3 : CW => fX4_visit_S30 F (Int32.ofNat n) A30 A35 (Int32.ofNat (fs n + n)) u3.1 u3.2.1 u3.2.2.1 u3.2.2.2.1 u3.2.2.2.2.1 u3.2.2.2.2.2.1 u3.2.2.2.2.2.2.1 u3.2.2.2.2.2.2.2.1 u3.2.2.2.2.2.2.2.2.1 u3.2.2.2.2.2.2.2.2.2) F s = some r ∧ gloop (fun u3 : MW => fX12_walks_S14 F A81 A82 u3.1 u3.2.1 u3.2.2.1 u3.2.2.2.1 u3.2.2.2.2.1 u3.2.2.2.2.2.1 u3.2.2.2.2.2.2.1 u3.2.2.2.2.2.2.2.1 u3.2.2.2.2.2.2.2.2.1 u3.2.2.2.2.2.2.2.2.2.1 u3.2.2.2.2.2.2.2.2.2.2) F t = some q ∧ BR n fs tg ot mk r q := by
  have hn6 := hG.2.1
  have h60 := hG.2.2.2.2.1
  refine gl_bi (R := LR n fs tg ot mk) (fun s _ => fs n + n + 1 - s.2.1.toNatClampNeg) (BR n fs tg ot mk) (fun s t h => ?_) F s t h (by omega)
  by_cases hd : s.1 < 0
  · left
    obtain ⟨x3, x5, x6, x7, A44, A46, A48, A50, A52, A54⟩ := s
    obtain ⟨y2, y43, y44, y45, A87, A88, A89, A90, A91, A92, A93⟩ := t
    obtain ⟨T, clk, hgt, d, np, met, low, st, pa, ne, prt, W, H, hLwP, hT, g1, g2, g3, g4, hCD, k1, k2, k3, k4, hMD, hz0, hmk⟩ := h
    dsimp only at g1 g2 g3 g4 hCD k1 k2 k3 k4 hMD hd ⊢
    obtain ⟨bn1, bn2, bn3, bn4⟩ := di_bounds H
    have hd0 : d = 0 := (dI_neg (by omega)).mp (by rw [← g1]; exact hd)
    have hg0 := hz0 hd0
    have hy : y2 < 0 := by rw [k1, ← g1]; exact hd
    subst hd0 hg0
    have cs : fX4_visit_S30 F (Int32.ofNat n) A30 A35 (Int32.ofNat (fs n + n)) x3 x5 x6 x7 A44 A46 A48 A50 A52 A54 = some (.inl (x6, x7, A44, A46, A48, A50, A52, A54)) := by
      unfold fX4_visit_S30
      by_cases hc : Int32.ofNat (fs n + n) ≤ x5
      · rw [if_pos hc]
      · rw [if_neg hc, if_pos hd]
    have ms : fX12_walks_S14 F A81 A82 y2 y43 y44 y45 A87 A88 A89 A90 A91 A92 A93 = some (.inl (y43, y44, y45, A87, A88, A89, A90, A91, A92, A93)) := by
      unfold fX12_walks_S14
      rw [if_pos hy]
    exact ⟨_, _, cs, ms, clk, np, met, low, st, pa, ne, prt, W, H, hLwP, g3, g4, hCD, k2, k3, k4, hMD, hmk⟩
  · right
    obtain ⟨s', t', f1, f2, f3, T, f4, f5, f6⟩ := walk_step hG hC hM hF s t h hd
    refine ⟨s', t', f1, f2, f3, ?_⟩
    rw [f4, f6, tnc (by omega), tnc (by omega)]
    omega
theorem visit_eq (hG : Gr n fs tg) (hC : CGr n fs tg ot A30 A35) (hM : MGr n fs tg ot A81 A82 A83) {F : Nat} (hF : 70000 ≤ F) {mk : Nat → Prop} (s : CB) (t : MB) (h : BR n fs tg ot mk s t) {v : Nat} (hv : v < n) (h46 : cAt 6000 s.2.2.2.1 (Int32.ofNat v) = 0) : ∃ r q, fX4_visit F (Int32.ofNat n) A30 A35 s.1 s.2.1 s.2.2.1 s.2.2.2.1 s.2.2.2.2.1 s.2.2.2.2.2.1 s.2.2.2.2.2.2.1 s.2.2.2.2.2.2.2 (Int32.ofNat v) = some r ∧ fX12_walks F A81 A82 t.1 t.2.1 t.2.2.1 t.2.2.2.1 t.2.2.2.2.1 t.2.2.2.2.2.1 t.2.2.2.2.2.2.1 t.2.2.2.2.2.2.2.1 t.2.2.2.2.2.2.2.2.1 t.2.2.2.2.2.2.2.2.2 (Int32.ofNat v) = some q ∧ BR n fs tg ot (fun u => mk u ∨ u = v) r q := by
  obtain ⟨x6, x7, A44, A46, A48, A50, A52, A54⟩ := s
  obtain ⟨y43, y44, y45, A87, A88, A89, A90, A91, A92, A93⟩ := t
  obtain ⟨clk, np, met, low, st, pa, ne, prt, W, H, hLwP, g1, g2, ⟨c44, c46, c48, c50, c52, c54⟩, k1, k2, k3, ⟨m88, m89, m90, m91, m87, m92, m93⟩, hmk⟩ := h
  dsimp only at g1 g2 c44 c46 c48 c50 c52 c54 k1 k2 k3 m88 m89 m90 m91 m87 m92 m93 h46 ⊢
  subst g1 g2 k1 k2 k3
  have hn6 := hG.2.1
  have h60 := hG.2.2.2.2.1
  obtain ⟨bn1, bn2, bn3, bn4⟩ := di_bounds H
  have hvm := H.2.1 v hv
  have hm : met v = 0 := by
    rw [c46 v hv] at h46
    exact (i32_eq (b := 0) (by omega) (by decide)).mp h46
  have hclk : clk < n := by rw [← H.1]; exact cntN_lt hv hm
  have hroot := di_root H hG hv hm
  have hph := phi_root (clk := clk) (pa := pa) (ne := ne) hG hv hm
  have i1 : inb (Int32.ofNat v) 6001 = true := inb_t (by omega) (by omega)
  have i2 : inb (Int32.ofNat v) 6002 = true := inb_t (by omega) (by omega)
  have t1 : (Int32.ofNat v).toNatClampNeg = v := tnc (by omega)
  have hLR : LR n fs tg ot (fun u => mk u ∨ u = v) (0, 0, Int32.ofNat (clk + 1), Int32.ofNat (0 + 1), A44, cPut 6000 A46 (Int32.ofNat v) (Int32.ofNat (clk + 1)), cPut 6000 A48 (Int32.ofNat v) (Int32.ofNat (clk + 1)), cPut 6000 A50 (Int32.ofNat 0) (Int32.ofNat v), cPut 6000 A52 0 (Int32.ofNat v), cPut 6000 A54 0 (Int32.ofNat (fs v))) (0, Int32.ofNat (0 + 1), Int32.ofNat np, Int32.ofNat (clk + 1), A87, upd A88 v (Int32.ofNat clk), upd A89 v (Int32.ofNat clk), upd A90 0 (Int32.ofNat v), upd A91 v 1, upd A92 0 (Int32.ofNat v), upd A93 v (Int32.ofNat (fs v))) := by
    refine ⟨0, clk + 1, 1, 1, np, _, _, _, _, _, prt, W, hroot, fun u hu hmu => ?_, by omega, rfl, rfl, rfl, rfl, ⟨c44, fun u hu => ?_, fun u hu hmu => ?_, fun i hi => ?_, fun i hi => ?_, fun i hi => ?_⟩, rfl, rfl, rfl, rfl, ⟨fun u hu hmu => ?_, fun u hu => ?_, fun i hi => ?_, fun u hu hmu => ?_, m87, fun i hi => ?_, fun i hi => ?_⟩, fun z => absurd z (by decide), fun u hu => ?_⟩
    · by_cases huv : u = v
      · subst huv; rw [updN_at]; omega
      · rw [updN_ne huv] at hmu ⊢; have := hLwP u hu hmu; omega
    · show cAt 6000 (cPut 6000 A46 (Int32.ofNat v) (Int32.ofNat (clk + 1))) (Int32.ofNat u) = _
      rw [cAt_put (by omega) (by decide) (by omega)]
      by_cases huv : u = v
      · subst huv; rw [if_pos rfl, updN_at]
      · rw [if_neg huv, updN_ne huv]; exact c46 u hu
    · show cAt 6000 (cPut 6000 A48 (Int32.ofNat v) (Int32.ofNat (clk + 1))) (Int32.ofNat u) = _
      rw [cAt_put (by omega) (by decide) (by omega)]
      by_cases huv : u = v
      · subst huv; rw [if_pos rfl, updN_at]
      · rw [updN_ne huv] at hmu; rw [if_neg huv, updN_ne huv]; exact c48 u hu hmu
    · obtain rfl : i = 0 := by omega
      show cAt 6000 (cPut 6000 A50 (Int32.ofNat 0) (Int32.ofNat v)) (Int32.ofNat 0) = _
      rw [cAt_put (by decide) (by decide) (by decide), if_pos rfl, updN_at]
    · obtain rfl : i = 0 := by omega
      show cAt 6000 (cPut 6000 A52 (Int32.ofNat 0) (Int32.ofNat v)) (Int32.ofNat 0) = _
      rw [cAt_put (by decide) (by decide) (by decide), if_pos rfl, updN_at]
    · obtain rfl : i = 0 := by omega
      show cAt 6000 (cPut 6000 A54 (Int32.ofNat 0) (Int32.ofNat (fs v))) (Int32.ofNat 0) = _
      rw [cAt_put (by decide) (by decide) (by decide), if_pos rfl, updN_at]
    · show upd A88 v (Int32.ofNat clk) u = _
      by_cases huv : u = v
      · subst huv; rw [upd_at, updN_at, Nat.add_sub_cancel]
      · rw [updN_ne huv] at hmu; rw [upd_ne huv, updN_ne huv]; exact m88 u hu hmu
    · show upd A89 v (Int32.ofNat clk) u = _
      by_cases huv : u = v
      · subst huv; rw [upd_at, updN_at, if_neg (by omega), Nat.add_sub_cancel]
      · rw [upd_ne huv, updN_ne huv]; exact m89 u hu
    · obtain rfl : i = 0 := by omega
      show upd A90 0 (Int32.ofNat v) 0 = _
      rw [upd_at, updN_at]
    · show upd A91 v 1 u = _
      by_cases huv : u = v
      · subst huv; rw [upd_at, if_pos (H.2.2.2.2.2.1 _ hu hm)]
      · rw [updN_ne huv] at hmu; rw [upd_ne huv]; exact m91 u hu hmu
    · obtain rfl : i = 0 := by omega
      show upd A92 0 (Int32.ofNat v) 0 = _
      rw [upd_at, updN_at]
    · obtain rfl : i = 0 := by omega
      show upd A93 v (Int32.ofNat (fs v)) (updN pa 0 v 0) = _
      rw [updN_at, upd_at, updN_at]
    · by_cases huv : u = v
      · rw [huv, updN_at]; omega
      · rw [updN_ne huv]
        rcases hu with hu | hu
        · exact hmk u hu
        · exact absurd hu huv
  obtain ⟨r, q, e1, e2, hBR⟩ := walk_loop hG hC hM hF _ _ hLR
  have cs : fX4_visit F (Int32.ofNat n) A30 A35 (Int32.ofNat clk) (Int32.ofNat 0) A44 A46 A48 A50 A52 A54 (Int32.ofNat v) = some r := by
    unfold fX4_visit fX4_enter
    rw [hC.1 n (Nat.le_refl _), i32_add, hC.1 v (by omega), i32_succ, i32_succ]
    dsimp only
    rw [e1]; rfl
  have ms : fX12_walks F A81 A82 (Int32.ofNat 0) (Int32.ofNat np) (Int32.ofNat clk) A87 A88 A89 A90 A91 A92 A93 (Int32.ofNat v) = some q := by
    unfold fX12_walks fX12_enters
    rw [if_pos i1, if_pos i1, if_pos (show inb (Int32.ofNat 0) 6001 = true by decide), if_pos i1, if_pos i2, if_pos i1, t1, hM.1 v (by omega), i32_succ, i32_succ, show (Int32.ofNat 0).toNatClampNeg = 0 from rfl, n0, Option.bind_some]
    rw [e2]; rfl
  exact ⟨r, q, cs, ms, hBR⟩
theorem walks_all (hG : Gr n fs tg) (hC : CGr n fs tg ot A30 A35) (hM : MGr n fs tg ot A81 A82 A83) {F : Nat} (hF : 70000 ≤ F) (A44 A46 A48 A50 A52 A54 A87 A88 A89 A90 A91 A92 A93 A94 A95 A96 : Nat → Int32) (x6 x7 : Int32) (hA89 : ∀ v, v < n → A89 v = -1) : ∃ (X : CB) (Y : MB), fX4_measure F (Int32.ofNat n) A30 A35 x6 x7 A44 A46 A48 A50 A52 A54 = some X ∧ gloop (fun u8 : (Int32 × MB) => fX12_laysWorst_S40 F (Int32.ofNat n) A81 A82 A83 A94 A95 A96 u8.1 u8.2.1 u8.2.2.1 u8.2.2.2.1 u8.2.2.2.2.1 u8.2.2.2.2.2.1 u8.2.2.2.2.2.2.1 u8.2.2.2.2.2.2.2.1 u8.2.2.2.2.2.2.2.2.1 u8.2.2.2.2.2.2.2.2.2.1 u8.2.2.2.2.2.2.2.2.2.2) F (0, 0, 0, 0, A87, A88, A89, A90, A91, A92, A93) = some Y ∧ BR n fs tg ot (fun u => u < n) X Y := by
  have hn6 := hG.2.1
  have hstart : BR n fs tg ot (fun u => u < 0) (0, 0, cFill 6000 A44 (-3), cFill 6000 A46 0, A48, A50, A52, A54) (0, 0, 0, A87, A88, A89, A90, A91, A92, A93) := by
    refine ⟨0, 0, fun _ => 0, fun _ => 0, fun _ => 0, fun _ => 0, fun _ => 0, fun _ => 0, fun _ => 0, ⟨cntN_zero n, fun v _ => Nat.le_refl _, fun i hi => by omega, fun i j _ hj => by omega, fun v hv h0 => absurd rfl h0, fun v _ _ => rfl, fun i hi => by omega, fun i j _ hj => by omega, fun z => by omega, fun v hv h0 => absurd rfl h0, fun v hv h0 => absurd rfl h0, fun v hv h0 => absurd rfl h0, fun v hv h0 => absurd rfl h0, fun u v hu hv h0 => absurd rfl h0, fun v hv h0 => absurd rfl h0, by omega⟩, fun v hv h0 => absurd rfl h0, rfl, rfl, ⟨fun s hs => ?_, fun v hv => ?_, fun v hv h0 => absurd rfl h0, fun i hi => by omega, fun i hi => by omega, fun i hi => by omega⟩, rfl, rfl, rfl, ⟨fun v hv h0 => absurd rfl h0, fun v hv => ?_, fun i hi => by omega, fun v hv h0 => absurd rfl h0, fun v hv h0 => absurd rfl h0, fun i hi => by omega, fun i hi => by omega⟩, fun u hu => by omega⟩
    · rw [cAt_nat (by omega) (by decide), if_pos rfl]
      show (if s < 6000 then (-3 : Int32) else A44 s) = -3
      rw [if_pos (by omega)]
    · rw [cAt_nat (by omega) (by decide)]
      show (if v < 6000 then (0 : Int32) else A46 v) = _
      rw [if_pos (by omega)]; rfl
    · rw [if_pos rfl]; exact hA89 v hv
  have key := gl_two (st1 := fun u5 : (Int32 × CB) => fX4_measure_S29 F (Int32.ofNat n) A30 A35 u5.1 u5.2.1 u5.2.2.1 u5.2.2.2.1 u5.2.2.2.2.1 u5.2.2.2.2.2.1 u5.2.2.2.2.2.2.1 u5.2.2.2.2.2.2.2.1 u5.2.2.2.2.2.2.2.2) (st2 := fun u8 : (Int32 × MB) => fX12_laysWorst_S40 F (Int32.ofNat n) A81 A82 A83 A94 A95 A96 u8.1 u8.2.1 u8.2.2.1 u8.2.2.2.1 u8.2.2.2.2.1 u8.2.2.2.2.2.1 u8.2.2.2.2.2.2.1 u8.2.2.2.2.2.2.2.1 u8.2.2.2.2.2.2.2.2.1 u8.2.2.2.2.2.2.2.2.2.1 u8.2.2.2.2.2.2.2.2.2.2)
    (fun i s t => s.1 = Int32.ofNat i ∧ t.1 = Int32.ofNat i ∧ BR n fs tg ot (fun u => u < i) s.2 t.2) (BR n fs tg ot (fun u => u < n)) n (by
    rintro i ⟨v2, s⟩ ⟨w1, t⟩ hi ⟨g1, g2, g3⟩
    dsimp only at g1 g2 g3 ⊢
    subst g1 g2
    obtain ⟨clk, np, met, low, st, pa, ne, prt, W, H, hLwP, k1, k2, ⟨c44, c46, _⟩, k3, k4, k5, ⟨m88, m89, _⟩, hmk⟩ := id g3
    have him := H.2.1 i hi
    obtain ⟨bn1, _, _, _⟩ := di_bounds H
    unfold fX4_measure_S29 fX4_measure_J54 fX12_laysWorst_S40 fX12_laysWorst_J62
    have hni : ¬ Int32.ofNat n ≤ Int32.ofNat i := fun z => by have := (i32_le (by omega) (by omega)).mp z; omega
    rw [if_neg hni, if_neg hni, if_pos (inb_t (by omega) (by omega)), tnc (by omega), i32_succ]
    by_cases h0 : met i = 0
    · have hc : cAt 6000 s.2.2.2.1 (Int32.ofNat i) = 0 := by rw [c46 i hi, h0]; rfl
      have hm : ¬ 0 ≤ t.2.2.2.2.2.1 i := by rw [m89 i hi, if_pos h0]; decide
      obtain ⟨r, q, e1, e2, hB⟩ := visit_eq hG hC hM hF s t g3 hi hc
      rw [if_pos hc, if_neg hm, e1, e2, Option.bind_some, Option.bind_some]
      refine ⟨_, _, rfl, rfl, rfl, rfl, ?_⟩
      obtain ⟨clk', np', met', low', st', pa', ne', prt', W', r1, r2, r3, r4, r5, r6, r7, r8, r9, r10⟩ := hB
      exact ⟨clk', np', met', low', st', pa', ne', prt', W', r1, r2, r3, r4, r5, r6, r7, r8, r9, fun u hu => r10 u (by
        have hu' : u < i + 1 := hu
        by_cases hui : u = i
        · exact Or.inr hui
        · exact Or.inl (show u < i by omega))⟩
    · have hc : ¬ cAt 6000 s.2.2.2.1 (Int32.ofNat i) = 0 := by rw [c46 i hi]; exact fun z => h0 ((i32_eq (b := 0) (by omega) (by decide)).mp z)
      have hm : 0 ≤ t.2.2.2.2.2.1 i := by rw [m89 i hi, if_neg h0]; exact i32_0le (by omega)
      rw [if_neg hc, if_pos hm]
      refine ⟨_, _, rfl, rfl, rfl, rfl, ?_⟩
      obtain ⟨clk', np', met', low', st', pa', ne', prt', W', r1, r2, r3, r4, r5, r6, r7, r8, r9, r10⟩ := g3
      have hmi : met' i ≠ 0 := by
        intro z
        have h1 := r5.2.1 i hi
        rw [z] at h1
        exact hc h1
      exact ⟨clk', np', met', low', st', pa', ne', prt', W', r1, r2, r3, r4, r5, r6, r7, r8, r9, fun u hu => by
        have hu' : u < i + 1 := hu
        by_cases hui : u = i
        · rw [hui]; exact hmi
        · exact r10 u (show u < i by omega)⟩) (by
    rintro ⟨v2, s⟩ ⟨w1, t⟩ ⟨g1, g2, g3⟩
    dsimp only at g1 g2 g3 ⊢
    subst g1 g2
    unfold fX4_measure_S29 fX12_laysWorst_S40
    have hni : Int32.ofNat n ≤ Int32.ofNat n := (i32_le (by omega) (by omega)).mpr (Nat.le_refl _)
    rw [if_pos hni, if_pos hni]
    exact ⟨_, _, rfl, rfl, g3⟩) F 0 (0, 0, 0, cFill 6000 A44 (-3), cFill 6000 A46 0, A48, A50, A52, A54) (0, 0, 0, 0, A87, A88, A89, A90, A91, A92, A93) (Nat.zero_le _) ⟨rfl, rfl, hstart⟩ (by omega)
  obtain ⟨X, Y, e1, e2, hB⟩ := key
  refine ⟨X, Y, ?_, e2, hB⟩
  unfold fX4_measure
  rw [e1]; rfl
end ROOT
