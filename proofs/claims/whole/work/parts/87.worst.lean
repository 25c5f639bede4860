/-! part 87: what worst's memory means; worst -/
section WM
variable {n : Nat} {fs tg ot : Nat → Nat} {A30 A35 : Nat → Int32} {F : Nat}
theorem pf_of {X : CB} {Y : MB} (h : BR n fs tg ot (fun u => u < n) X Y) (hn6 : n ≤ 6000) : ∃ (np : Nat) (prt W : Nat → Nat), PF n np fs tg ot prt W ∧ AW n prt W X.2.2.1 ∧ Y.2.1 = Int32.ofNat np ∧ ∀ v, v < n → Y.2.2.2.1 v = Int32.ofNat (prt v - 1) := by
  obtain ⟨clk, np, met, low, st, pa, ne, prt, W, hD, hL, c1, c2, hC, m1, m2, m3, hM, hmk⟩ := h
  obtain ⟨d1, d2, d3, d4, d5, d6, d7, d8, d9, d10, d11, d12, d13, d14, d15, d16⟩ := hD
  have hpr : ∀ v, v < n → prt v ≠ 0 := fun v hv z => by
    obtain ⟨i, hi, _⟩ := d5 v hv (hmk v hv) z
    exact absurd hi (Nat.not_lt_zero _)
  have hcn : clk ≤ n := by
    rw [← d1]
    exact cntN_le met n
  refine ⟨np, prt, W, ⟨by omega, fun v hv => ?_, fun u v hu hv huv => d14 u v hu hv (hpr u hu) huv, fun v hv => d15 v hv (hpr v hv)⟩, hC.1, m2, fun v hv => hM.2.2.2.2.1 v hv (hpr v hv)⟩
  obtain ⟨q1, q2, q3, q4⟩ := d13 v hv (hpr v hv)
  exact ⟨hpr v hv, q1, q3, q4⟩
theorem wst_of (hG : Gr n fs tg) (hC : CGr n fs tg ot A30 A35) (hot : ∀ e, e < fs n → ot e < 6) (hF : 70000 ≤ F) (A44 A46 A48 A50 A52 A54 : Nat → Int32) (x6 x7 : Int32) : ∃ X : CB, fX4_measure F (Int32.ofNat n) A30 A35 x6 x7 A44 A46 A48 A50 A52 A54 = some X ∧ WstOk F n fs tg ot X.2.2.1 := by
  have hn6 := hG.2.1
  have z : Nat → Int32 := fun _ => 0
  have hc : MGr n fs tg ot (fun s => Int32.ofNat (fs s)) (fun e => Int32.ofNat (tg e)) (fun e => Int32.ofNat (ot e)) := ⟨fun _ _ => rfl, fun _ _ => ⟨rfl, rfl⟩⟩
  obtain ⟨X, _, hX, _, _⟩ := walks_all hG hC hc hF A44 A46 A48 A50 A52 A54 z z (fun _ => -1) z z z z z z z x6 x7 (fun _ _ => rfl)
  refine ⟨X, hX, ?_⟩
  intro A81 A82 A83 x43 x44 x45 A87 A88 A89 A90 A91 A92 A93 A94 A95 A96 hM
  obtain ⟨B89, e1, h89⟩ := mone_eq (A81 := A81) (A82 := A82) (A83 := A83) hn6 hF 0 A87 A88 A89 A90 A91 A92 A93 A94 A95 A96
  obtain ⟨X', Y, hX', e2, hBR⟩ := walks_all hG hC hM hF A44 A46 A48 A50 A52 A54 A87 A88 B89 A90 A91 A92 A93 A94 A95 A96 x6 x7 h89
  have hXX : X' = X := by rw [hX] at hX'; exact (Option.some.inj hX').symm
  subst hXX
  obtain ⟨np, prt, W, hP, hAW, hy2, hy87⟩ := pf_of hBR hn6
  have hnp := hP.1
  have hprt : ∀ v, v < n → prt v ≠ 0 ∧ prt v ≤ np := fun v hv => ⟨(hP.2.1 v hv).1, (hP.2.1 v hv).2.1⟩
  unfold fX12_laysWorst
  rw [e1, Option.bind_some, e2, Option.bind_some]
  obtain ⟨y1, y2, y3, y87, y88, y89, y90, y91, y92, y93⟩ := Y
  dsimp only at hy2 hy87 ⊢
  subst hy2
  obtain ⟨C1, e3, h3⟩ := zero_eq (n := n) (np := np) (A81 := A81) (A82 := A82) (A83 := A83) y1 y3 y87 y88 y89 y90 y91 y92 y93 A94 A95 A96 (by omega) hF
  rw [e3, Option.bind_some]
  obtain ⟨C2, e4, h4⟩ := tally_eq (A81 := A81) (A82 := A82) (A83 := A83) y1 y3 y87 y88 y89 y90 y91 y92 y93 A94 A95 C1 hn6 hnp hF hprt hy87 h3
  rw [e4, Option.bind_some]
  obtain ⟨C3, e5, h5⟩ := adds_eq (A81 := A81) (A82 := A82) (A83 := A83) y1 y3 y87 y88 y89 y90 y91 y92 y93 A94 A95 C2 hn6 hnp hF h4
  rw [e5, Option.bind_some]
  obtain ⟨D1, D2, e6, h6, h7⟩ := sorts_eq (A81 := A81) (A82 := A82) (A83 := A83) y1 y3 y87 y88 y89 y90 y91 y92 y93 A94 A95 C3 hn6 hnp hF hprt hy87 h5
  rw [e6, Option.bind_some]
  obtain ⟨G1, e7, h8⟩ := parts_eq (A94 := A94) y1 y3 y87 y88 y89 y90 y91 y92 y93 D1 D2 hG hM hot hP hy87 hF h6 h7
  rw [e7, Option.bind_some]
  refine ⟨_, rfl, fun s hs => ⟨prt s - 1, W s, hy87 s hs, by have := hprt s hs; omega, (hP.2.1 s hs).2.2.1, h8 s hs, ?_⟩⟩
  rw [hAW s hs, if_neg (hprt s hs).1]
  exact td_told (hP.2.1 s hs).2.2.1
end WM
section WCALL
variable {F cap lab ack cop : Nat} {c m : Int64}
theorem greatest_eq (hs : Stt cap lab ack cop) (hc : Good cap c) (hF : 70000 ≤ F) {me : Int32} {K : List Int64} {E : List Edge} {Fs : List Nat} {A30 A35 A44 : Nat → Int32} (hx : expAll cap lab ack cop 6001 0 [c] [] [0] = some (K, E, Fs)) (hCE : CE E A35) (hCF : CF Fs A30) (hme : ¬ me = 0 → WstOk F K.length (fsOf Fs) (tgOf E) (otOf E) A44) (x6 x7 : Int32) (A46 A48 A50 A52 A54 : Nat → Int32) : ∃ me' y6 y7 B44 B46 B48 B50 B52 B54, fX9_greatest F (Int32.ofNat K.length) A30 A35 me x6 x7 A44 A46 A48 A50 A52 A54 = some (cAt 6000 B44 0, me', y6, y7, B44, B46, B48, B50, B52, B54) ∧ ¬ me' = 0 ∧ WstOk F K.length (fsOf Fs) (tgOf E) (otOf E) B44 := by
  obtain ⟨hgk, hK1, _⟩ := graph_of hs hc hx
  obtain ⟨hg, _⟩ := gk_gr hgk hK1
  unfold fX9_greatest
  by_cases h0 : me = 0
  · rw [if_pos h0]
    obtain ⟨X, e1, e2⟩ := wst_of hg (cgr_of hgk hK1 hCE hCF) (fun e he => ot_lt hgk hK1 he) hF A44 A46 A48 A50 A52 A54 x6 x7
    rw [e1]
    exact ⟨_, _, _, _, _, _, _, _, _, rfl, by decide, e2⟩
  · rw [if_neg h0]
    exact ⟨_, _, _, _, _, _, _, _, _, rfl, h0, hme h0⟩
theorem worst_call (hs : Stt cap lab ack cop) (hc : Good cap c) (hS : Sx c m) (hF : 70000 ≤ F) {ch : Int64} {me ra size known : Int32} {A30 A35 : Nat → Int32} {A38 : Nat → Int64} {A44 A57 A59 : Nat → Int32} (hV : SV F cap lab ack cop ch me ra size known A30 A35 A38 A44 A57 A59) (x311 x312 x426 x427 : Int32) (A33 A37 A46 A48 A50 A52 A54 : Nat → Int32) (x18 : Int32) (x19 : Int64) (x20 x21 x22 x27 x35 x43 x44 x45 : Int32) (A76 A77 A78 : Nat → Int32) (A79 : Nat → Int64) (A80 A81 A82 A83 A84 A85 A86 A87 A88 A89 A90 A91 A92 A93 A94 A95 A96 : Nat → Int32) :
    ∃ out me' ra' size' known' y311 y312 y426 y427 B30 B33 B35 B37 B38 B44 B46 B48 B50 B52 B54 r, fX11_worst F c (Int32.ofNat cap) (Int32.ofNat lab) (Int32.ofNat ack) (Int32.ofNat cop) ch me ra size known x311 x312 x426 x427 A30 A33 A35 A37 A38 A44 A46 A48 A50 A52 A54 = some (out, c, me', ra', size', known', y311, y312, y426, y427, B30, B33, B35, B37, B38, B44, B46, B48, B50, B52, B54) ∧ fX12_worst F (Int32.ofNat cap) (Int32.ofNat lab) (Int32.ofNat ack) (Int32.ofNat cop) m x18 x19 x20 x21 x22 x27 x35 x43 x44 x45 A76 A77 A78 A79 A80 A81 A82 A83 A84 A85 A86 A87 A88 A89 A90 A91 A92 A93 A94 A95 A96 = some (out, 0, r) ∧ SVk F cap lab ack cop c me' ra' size' known' B30 B35 B38 B44 A57 A59 := by
  obtain ⟨me', ra', size', known', y311, y312, B30, B33, B35, B37, B38, e1, hK⟩ := covers_eq hs hV hc hF x311 x312 A33 A37
  unfold fX11_worst fX12_worst
  rw [e1]
  simp only [Option.bind_some]
  rcases reaches_eq hs.1.2 (by have := hs.2.1.1; omega) hs.2.1.2 hs.2.2.1.2 hs.2.2.2.2 (F := F) (by omega) hc hS x19 x20 x21 x22 x27 x35 A76 A77 A78 A79 A80 A81 A82 A83 A84 A85 A86 with ⟨K', M', E', Fs', z19, z20, z21, B76, B77, B78, B79, B80, B81, B82, B83, B84, B85, B86, r1, r2, r3, r4, r5, r6⟩ | ⟨r1, r, r2⟩
  · rw [r2]
    simp only [Option.bind_some]
    rw [if_neg (show ¬ (1 : Int32) = 0 by decide)]
    rcases hK.2 with ⟨k1, k2⟩ | ⟨k1, K, E, Fs, k2, k3, k4, k5, k6, k7, k8⟩
    · rw [k2] at r1; exact absurd r1 (by simp)
    · rw [k2] at r1
      obtain ⟨rfl, hr⟩ := Prod.mk.inj (Option.some.inj r1)
      obtain ⟨rfl, rfl⟩ := Prod.mk.inj hr
      obtain ⟨hgk, hK1, _⟩ := graph_of hs hc k2
      obtain ⟨hg, _⟩ := gk_gr hgk hK1
      obtain ⟨me2, y6, y7, C44, C46, C48, C50, C52, C54, q1, q2, q3⟩ := greatest_eq hs hc hF (me := me') k2 k5 k6 k7 x426 x427 A46 A48 A50 A52 A54
      obtain ⟨Y, g1, g2⟩ := q3 B81 B82 B83 x43 x44 x45 A87 A88 A89 A90 A91 A92 A93 A94 A95 A96 (mgr_of hgk hK1 r5 r6)
      obtain ⟨p, v, g3, g4, g5, g6, g7⟩ := g2 0 hK1
      rw [if_neg (by rw [k1]; decide), ← r3.1, g1, k3, q1]
      simp only [Option.bind_some]
      rw [show (0 : Int32).toNatClampNeg = 0 from n0, g3, if_pos (inb_t (by omega) g4), tnc (by omega), g6, ← g7]
      exact ⟨_, _, _, _, _, _, _, _, _, _, _, _, _, _, _, _, _, _, _, _, _, rfl, rfl, hc, Or.inr ⟨k1, K, E, Fs, k2, rfl, k4, k5, k6, fun _ => q3, k8⟩⟩
  · rw [r2]
    simp only [Option.bind_some, ↓reduceIte]
    rcases hK.2 with ⟨k1, k2⟩ | ⟨k1, K, E, Fs, k2, k3⟩
    · rw [if_pos k1]
      exact ⟨_, _, _, _, _, _, _, _, _, _, _, _, _, _, _, _, _, _, _, _, _, rfl, rfl, hc, Or.inl ⟨k1, k2⟩⟩
    · rw [k2] at r1; exact absurd r1 (by simp)
end WCALL
