/-! part 86: the reference's worst, laid whole -/
section LW
variable {n np : Nat} {fs tg ot prt W : Nat → Nat} {A30 A35 A81 A82 A83 : Nat → Int32} {F : Nat}
theorem mone_eq (hn6 : n ≤ 6000) (hF : 70000 ≤ F) (x1 : Int32) (A87 A88 A89 A90 A91 A92 A93 A94 A95 A96 : Nat → Int32) : ∃ B, gloop (fun u4 : (Int32 × (Nat → Int32)) => fX12_laysWorst_S17 F (Int32.ofNat n) A81 A82 A83 0 0 0 A87 A88 A90 A91 A92 A93 A94 A95 A96 u4.1 u4.2) F (0, A89) = some B ∧ ∀ v, v < n → B v = -1 := by
  refine gl_ix (st := fun u4 : (Int32 × (Nat → Int32)) => fX12_laysWorst_S17 F (Int32.ofNat n) A81 A82 A83 0 0 0 A87 A88 A90 A91 A92 A93 A94 A95 A96 u4.1 u4.2) (fun i s => s.1 = Int32.ofNat i ∧ ∀ v, v < i → s.2 v = -1) (fun B => ∀ v, v < n → B v = -1) n ?_ ?_ F 0 (0, A89) (Nat.zero_le _) ⟨rfl, fun v hv => absurd hv (Nat.not_lt_zero _)⟩ (by omega)
  · rintro i ⟨v1, B⟩ hi ⟨g1, g2⟩
    dsimp only at g1 g2 ⊢
    subst g1
    unfold fX12_laysWorst_S17
    rw [if_neg (fun z => by have := (i32_le (by omega) (by omega)).mp z; omega), if_pos (inb_t (by omega) (by omega)), tnc (by omega), i32_succ]
    refine ⟨_, rfl, rfl, fun v hv => ?_⟩
    show upd B i (-1) v = -1
    by_cases h : v = i
    · subst h; rw [upd_at]
    · rw [upd_ne h]; exact g2 v (by omega)
  · rintro ⟨v1, B⟩ ⟨g1, g2⟩
    dsimp only at g1 g2 ⊢
    subst g1
    unfold fX12_laysWorst_S17
    rw [if_pos ((i32_le (by omega) (by omega)).mpr (Nat.le_refl _))]
    exact ⟨_, rfl, g2⟩
section CNT
variable (x1 x3 : Int32) (A87 A88 A89 A90 A91 A92 A93 A94 A95 A96 : Nat → Int32)
theorem zero_eq (hnp : np ≤ 6000) (hF : 70000 ≤ F) : ∃ B, gloop (fun u14 : (Int32 × (Nat → Int32)) => fX12_laysWorst_S70 F (Int32.ofNat n) A81 A82 A83 x1 (Int32.ofNat np) x3 A87 A88 A89 A90 A91 A92 A93 A94 A95 u14.1 u14.2) F (0, A96) = some B ∧ ∀ p, p ≤ np → B p = 0 := by
  have key := gl_ix (st := fun u14 : (Int32 × (Nat → Int32)) => fX12_laysWorst_S70 F (Int32.ofNat n) A81 A82 A83 x1 (Int32.ofNat np) x3 A87 A88 A89 A90 A91 A92 A93 A94 A95 u14.1 u14.2) (fun i s => s.1 = Int32.ofNat i ∧ ∀ v, v < i → s.2 v = 0) (fun B => ∀ v, v < np + 1 → B v = 0) (np + 1) ?_ ?_ F 0 (0, A96) (Nat.zero_le _) ⟨rfl, fun v hv => absurd hv (Nat.not_lt_zero _)⟩ (by omega)
  · obtain ⟨B, e, h⟩ := key
    exact ⟨B, e, fun p hp => h p (by omega)⟩
  · rintro i ⟨v1, B⟩ hi ⟨g1, g2⟩
    dsimp only at g1 g2 ⊢
    subst g1
    unfold fX12_laysWorst_S70
    rw [if_neg (fun z => by have := (i32_lt (by omega) (by omega)).mp z; omega), if_pos (inb_t (by omega) (by omega)), tnc (by omega), i32_succ]
    refine ⟨_, rfl, rfl, fun v hv => ?_⟩
    show upd B i 0 v = 0
    by_cases h : v = i
    · subst h; rw [upd_at]
    · rw [upd_ne h]; exact g2 v (by omega)
  · rintro ⟨v1, B⟩ ⟨g1, g2⟩
    dsimp only at g1 g2 ⊢
    subst g1
    unfold fX12_laysWorst_S70
    rw [if_pos ((i32_lt (by omega) (by omega)).mpr (by omega))]
    exact ⟨_, rfl, g2⟩
theorem tally_eq (hn6 : n ≤ 6000) (hnp : np ≤ n) (hF : 70000 ≤ F) (hprt : ∀ v, v < n → prt v ≠ 0 ∧ prt v ≤ np) (h87 : ∀ v, v < n → A87 v = Int32.ofNat (prt v - 1)) (hz : ∀ p, p ≤ np → A96 p = 0) : ∃ B, gloop (fun u18 : (Int32 × (Nat → Int32)) => fX12_laysWorst_S93 F (Int32.ofNat n) A81 A82 A83 x1 (Int32.ofNat np) x3 A87 A88 A89 A90 A91 A92 A93 A94 A95 u18.1 u18.2) F (0, A96) = some B ∧ ∀ p, p ≤ np → B p = Int32.ofNat (cntT prt p n) := by
  refine gl_ix (st := fun u18 : (Int32 × (Nat → Int32)) => fX12_laysWorst_S93 F (Int32.ofNat n) A81 A82 A83 x1 (Int32.ofNat np) x3 A87 A88 A89 A90 A91 A92 A93 A94 A95 u18.1 u18.2) (fun i s => s.1 = Int32.ofNat i ∧ ∀ p, p ≤ np → s.2 p = Int32.ofNat (cntT prt p i)) (fun B => ∀ p, p ≤ np → B p = Int32.ofNat (cntT prt p n)) n ?_ ?_ F 0 (0, A96) (Nat.zero_le _) ⟨rfl, fun v hv => hz v hv⟩ (by omega)
  · rintro i ⟨v1, B⟩ hi ⟨g1, g2⟩
    dsimp only at g1 g2 ⊢
    subst g1
    have hp := hprt i hi
    unfold fX12_laysWorst_S93
    rw [if_neg (fun z => by have := (i32_le (by omega) (by omega)).mp z; omega), if_pos (inb_t (by omega) (by omega)), tnc (show i < 2 ^ 31 by omega), h87 i hi, i32_succ, i32_succ, show prt i - 1 + 1 = prt i by omega, if_pos (inb_t (by omega) (by omega)), if_pos (inb_t (by omega) (by omega)), tnc (show prt i < 2 ^ 31 by omega), g2 _ hp.2, i32_succ]
    refine ⟨_, rfl, rfl, fun p hpn => ?_⟩
    show upd B (prt i) (Int32.ofNat (cntT prt (prt i) i + 1)) p = _
    by_cases h : p = prt i
    · subst h; rw [upd_at, cntT_succ, if_pos rfl]
    · rw [upd_ne h, g2 p hpn, cntT_succ, if_neg (fun z => h z.symm), Nat.add_zero]
  · rintro ⟨v1, B⟩ ⟨g1, g2⟩
    dsimp only at g1 g2 ⊢
    subst g1
    unfold fX12_laysWorst_S93
    rw [if_pos ((i32_le (by omega) (by omega)).mpr (Nat.le_refl _))]
    exact ⟨_, rfl, g2⟩
theorem adds_eq (hn6 : n ≤ 6000) (hnp : np ≤ n) (hF : 70000 ≤ F) (hc : ∀ p, p ≤ np → A96 p = Int32.ofNat (cntT prt p n)) : ∃ B, gloop (fun u24 : (Int32 × (Nat → Int32)) => fX12_laysWorst_S126 F (Int32.ofNat n) A81 A82 A83 x1 (Int32.ofNat np) x3 A87 A88 A89 A90 A91 A92 A93 A94 A95 u24.1 u24.2) F (0, A96) = some B ∧ ∀ p, p ≤ np → B p = Int32.ofNat (bck prt n (p + 1)) := by
  have key := gl_ix (st := fun u24 : (Int32 × (Nat → Int32)) => fX12_laysWorst_S126 F (Int32.ofNat n) A81 A82 A83 x1 (Int32.ofNat np) x3 A87 A88 A89 A90 A91 A92 A93 A94 A95 u24.1 u24.2) (fun i s => s.1 = Int32.ofNat i ∧ ∀ p, p ≤ np → s.2 p = Int32.ofNat (if p ≤ i then bck prt n (p + 1) else cntT prt p n)) (fun B => ∀ p, p ≤ np → B p = Int32.ofNat (bck prt n (p + 1))) np ?_ ?_ F 0 (0, A96) (Nat.zero_le _) ⟨rfl, fun p hp => ?_⟩ (by omega)
  · exact key
  · rintro i ⟨v1, B⟩ hi ⟨g1, g2⟩
    dsimp only at g1 g2 ⊢
    subst g1
    have e1 := g2 (i + 1) (by omega)
    have e2 := g2 i (by omega)
    rw [if_neg (by omega)] at e1
    rw [if_pos (Nat.le_refl _)] at e2
    unfold fX12_laysWorst_S126
    rw [if_neg (fun z => by have := (i32_le (by omega) (by omega)).mp z; omega), i32_succ, if_pos (inb_t (by omega) (by omega)), if_pos (inb_t (by omega) (by omega)), if_pos (inb_t (by omega) (by omega)), tnc (show i + 1 < 2 ^ 31 by omega), tnc (show i < 2 ^ 31 by omega), e1, e2, i32_add]
    refine ⟨_, rfl, rfl, fun p hpn => ?_⟩
    show upd B (i + 1) (Int32.ofNat (cntT prt (i + 1) n + bck prt n (i + 1))) p = _
    by_cases h : p = i + 1
    · subst h; rw [upd_at, if_pos (Nat.le_refl _), bck_succ prt n (i + 1), Nat.add_comm]
    · rw [upd_ne h, g2 p hpn]
      by_cases h2 : p ≤ i
      · rw [if_pos h2, if_pos (by omega)]
      · rw [if_neg h2, if_neg (by omega)]
  · rintro ⟨v1, B⟩ ⟨g1, g2⟩
    dsimp only at g1 g2 ⊢
    subst g1
    unfold fX12_laysWorst_S126
    rw [if_pos ((i32_le (by omega) (by omega)).mpr (Nat.le_refl _))]
    exact ⟨_, rfl, fun p hp => by rw [g2 p hp, if_pos hp]⟩
  · show A96 p = _
    by_cases h : p ≤ 0
    · have : p = 0 := by omega
      subst this
      rw [if_pos (Nat.le_refl _), hc 0 hp, bck_succ, show bck prt n 0 = 0 from rfl, Nat.zero_add]
    · rw [if_neg h, hc p hp]
theorem sorts_eq (hn6 : n ≤ 6000) (hnp : np ≤ n) (hF : 70000 ≤ F) (hprt : ∀ v, v < n → prt v ≠ 0 ∧ prt v ≤ np) (h87 : ∀ v, v < n → A87 v = Int32.ofNat (prt v - 1)) (hc : ∀ p, p ≤ np → A96 p = Int32.ofNat (bck prt n (p + 1))) : ∃ B C, gloop (fun u30 : (Int32 × (Nat → Int32) × (Nat → Int32)) => fX12_laysWorst_S159 F (Int32.ofNat n) A81 A82 A83 x1 (Int32.ofNat np) x3 A87 A88 A89 A90 A91 A92 A93 A94 u30.1 u30.2.1 u30.2.2) F (0, A95, A96) = some (B, C) ∧ (∀ k, k < n → B (posA prt n k) = Int32.ofNat k) ∧ ∀ p, p < np → C p = Int32.ofNat (bck prt n (p + 2)) := by
  have hall : bck prt n (np + 1) = n := bck_all n (fun e he => by have := (hprt e he).2; omega)
  have key := gl_ix (st := fun u30 : (Int32 × (Nat → Int32) × (Nat → Int32)) => fX12_laysWorst_S159 F (Int32.ofNat n) A81 A82 A83 x1 (Int32.ofNat np) x3 A87 A88 A89 A90 A91 A92 A93 A94 u30.1 u30.2.1 u30.2.2) (fun i s => s.1 = Int32.ofNat i ∧ (∀ k, k < i → s.2.1 (posA prt n k) = Int32.ofNat k) ∧ ∀ p, p < np → s.2.2 p = Int32.ofNat (bck prt n (p + 1) + cntT prt (p + 1) i)) (fun r => (∀ k, k < n → r.1 (posA prt n k) = Int32.ofNat k) ∧ ∀ p, p < np → r.2 p = Int32.ofNat (bck prt n (p + 2))) n ?_ ?_ F 0 (0, A95, A96) (Nat.zero_le _) ⟨rfl, fun k hk => absurd hk (Nat.not_lt_zero _), fun p hp => hc p (by omega)⟩ (by omega)
  · obtain ⟨⟨B, C⟩, e, h⟩ := key
    exact ⟨B, C, e, h⟩
  · rintro i ⟨v1, B, C⟩ hi ⟨g1, g2, g3⟩
    dsimp only at g1 g2 g3 ⊢
    subst g1
    have hp := hprt i hi
    have hpos := posA_in prt hi
    have hmn := bck_mono prt n (show prt i + 1 ≤ np + 1 by omega)
    have e3 := g3 (prt i - 1) (by omega)
    rw [show prt i - 1 + 1 = prt i by omega] at e3
    have e4 : C (prt i - 1) = Int32.ofNat (posA prt n i) := e3
    unfold fX12_laysWorst_S159
    rw [if_neg (fun z => by have := (i32_le (by omega) (by omega)).mp z; omega), if_pos (inb_t (by omega) (by omega)), tnc (show i < 2 ^ 31 by omega), h87 i hi, if_pos (inb_t (by omega) (by omega)), tnc (show prt i - 1 < 2 ^ 31 by omega), e4, if_pos (inb_t (by omega) (by omega)), if_pos (inb_t (by omega) (by omega)), if_pos (inb_t (by omega) (by omega)), if_pos (inb_t (by omega) (by omega)), tnc (show posA prt n i < 2 ^ 31 by omega), i32_succ, i32_succ]
    refine ⟨_, rfl, rfl, fun k hk => ?_, fun p hpn => ?_⟩
    · show upd B (posA prt n i) (Int32.ofNat i) (posA prt n k) = _
      by_cases h : k = i
      · subst h; rw [upd_at]
      · rw [upd_ne (fun z => posA_inj prt hi (show k < n by omega) (by omega) z.symm), g2 k (by omega)]
    · show upd C (prt i - 1) (Int32.ofNat (posA prt n i + 1)) p = _
      rw [cntT_succ]
      by_cases h : p = prt i - 1
      · subst h
        rw [upd_at, show prt i - 1 + 1 = prt i by omega, if_pos rfl]
        rfl
      · rw [upd_ne h, g3 p hpn, if_neg (show ¬ prt i = p + 1 by omega)]
        rfl
  · rintro ⟨v1, B, C⟩ ⟨g1, g2, g3⟩
    dsimp only at g1 g2 g3 ⊢
    subst g1
    unfold fX12_laysWorst_S159
    rw [if_pos ((i32_le (by omega) (by omega)).mpr (Nat.le_refl _))]
    exact ⟨_, rfl, g2, fun p hp => by show C p = _; rw [g3 p hp, bck_succ prt n (p + 1)]⟩
theorem part_eq (hG : Gr n fs tg) (hM : MGr n fs tg ot A81 A82 A83) (hot : ∀ e, e < fs n → ot e < 6) (hP : PF n np fs tg ot prt W) (h87 : ∀ v, v < n → A87 v = Int32.ofNat (prt v - 1)) (hF : 70000 ≤ F) (h95 : ∀ k, k < n → A95 (posA prt n k) = Int32.ofNat k) (h96 : ∀ p, p < np → A96 p = Int32.ofNat (bck prt n (p + 2))) {p : Nat} (hp : p < np) (hz : A94 p = 0) (hlow : ∀ v, v < n → prt v ≤ p → A94 (prt v - 1) = Int32.ofNat (W v)) : ∃ B, gloop (fun u44 : (Int32 × (Nat → Int32)) => fX12_laysWorst_S224 F (Int32.ofNat n) A81 A82 A83 (Int32.ofNat p) x1 (Int32.ofNat np) x3 A87 A88 A89 A90 A91 A92 A93 A95 A96 u44.1 u44.2) F (Int32.ofNat (bck prt n (p + 1)), A94) = some (Int32.ofNat (bck prt n (p + 2)), B) ∧ ∀ v, v < n → prt v ≤ p + 1 → B (prt v - 1) = Int32.ofNat (W v) := by
  have hn6 := hG.2.1
  have hnp := hP.1
  have hall : bck prt n (np + 1) = n := bck_all n (fun e he => by have := (hP.2.1 e he).2.1; omega)
  have hmn := bck_mono prt n (show p + 2 ≤ np + 1 by omega)
  have hsc : bck prt n (p + 2) = bck prt n (p + 1) + cntT prt (p + 1) n := bck_succ prt n (p + 1)
  have key := gl_ix (st := fun u44 : (Int32 × (Nat → Int32)) => fX12_laysWorst_S224 F (Int32.ofNat n) A81 A82 A83 (Int32.ofNat p) x1 (Int32.ofNat np) x3 A87 A88 A89 A90 A91 A92 A93 A95 A96 u44.1 u44.2)
    (fun j s => s.1 = Int32.ofNat (bck prt n (p + 1) + j) ∧ (∀ q, q ≠ p → s.2 q = A94 q) ∧ ∃ x, s.2 p = Int32.ofNat x ∧ x ≤ 1000000 ∧ (∀ k, k < n → prt k = p + 1 → posA prt n k < bck prt n (p + 1) + j → ∀ e, fs k ≤ e → e < fs (k + 1) → valE tg ot prt W k e ≤ x) ∧ (x = 0 ∨ ∃ k e, k < n ∧ prt k = p + 1 ∧ fs k ≤ e ∧ e < fs (k + 1) ∧ valE tg ot prt W k e = x))
    (fun r => r.1 = Int32.ofNat (bck prt n (p + 2)) ∧ ∀ v, v < n → prt v ≤ p + 1 → r.2 (prt v - 1) = Int32.ofNat (W v)) (cntT prt (p + 1) n) ?_ ?_ F 0 (Int32.ofNat (bck prt n (p + 1)), A94) (Nat.zero_le _) ⟨rfl, fun q _ => rfl, 0, hz, by omega, fun k hk hkp hlt => ?_, Or.inl rfl⟩ (by omega)
  · obtain ⟨⟨v, B⟩, e, h1, h2⟩ := key
    dsimp only at h1 h2
    subst h1
    exact ⟨B, e, h2⟩
  · rintro j ⟨v1, B⟩ hj ⟨g1, g2, x, g3, g4, g5, g6⟩
    dsimp only at g1 g2 g3 ⊢
    subst g1
    obtain ⟨k, hk, hkp, hkc⟩ := cntT_find prt (p + 1) n j hj
    have hpk : posA prt n k = bck prt n (p + 1) + j := by unfold posA; rw [hkp, hkc]
    have e95 := h95 k hk
    rw [hpk] at e95
    obtain ⟨B', x', l1, l2, l3, l4, l5, l6, l7⟩ := looksAt_eq hG hM hot hP h87 hk hkp g3 g4 (fun v hv hvp => by rw [g2 _ (by have := (hP.2.1 v hv).1; omega)]; exact hlow v hv hvp) hF
    unfold fX12_laysWorst_S224
    rw [if_pos (inb_t (by omega) (by omega)), tnc (show p < 2 ^ 31 by omega), h96 p hp, if_neg (fun z => by have := (i32_le (by omega) (by omega)).mp z; omega), if_pos (inb_t (by omega) (by omega)), tnc (show bck prt n (p + 1) + j < 2 ^ 31 by omega), e95, l1, i32_succ]
    refine ⟨_, rfl, rfl, fun q hq => ?_, x', l3, l4, fun k' hk' hkp' hlt e e1 e2 => ?_, ?_⟩
    · show B' q = _
      rw [l2 q hq]; exact g2 q hq
    · by_cases hkk : k' = k
      · subst hkk; exact l6 e e1 e2
      · have hne : posA prt n k' ≠ posA prt n k := by
          rcases Nat.lt_or_gt_of_ne hkk with hl | hl
          · exact fun z => posA_inj prt hk hk' hl z.symm
          · exact posA_inj prt hk' hk hl
        have := g5 k' hk' hkp' (by omega) e e1 e2
        omega
    · rcases l7 with h | ⟨e, e1, e2, e3⟩
      · rcases g6 with h2 | ⟨k', e, h1, h2, h3, h4, h5⟩
        · exact Or.inl (by omega)
        · exact Or.inr ⟨k', e, h1, h2, h3, h4, by omega⟩
      · exact Or.inr ⟨k, e, hk, hkp, e1, e2, e3⟩
  · rintro ⟨v1, B⟩ ⟨g1, g2, x, g3, g4, g5, g6⟩
    dsimp only at g1 g2 g3 ⊢
    subst g1
    unfold fX12_laysWorst_S224
    rw [if_pos (inb_t (by omega) (by omega)), tnc (show p < 2 ^ 31 by omega), h96 p hp, if_pos ((i32_le (by omega) (by omega)).mpr (by omega))]
    refine ⟨_, rfl, ?_, fun v hv hvp => ?_⟩
    · show Int32.ofNat _ = Int32.ofNat _
      rw [hsc]
    · show B (prt v - 1) = _
      have hv0 := (hP.2.1 v hv).1
      by_cases hvq : prt v ≤ p
      · rw [g2 _ (by omega)]; exact hlow v hv hvq
      · have hvp1 : prt v = p + 1 := by omega
        rw [hvp1, Nat.add_sub_cancel, g3]
        have a1 : x ≤ W v := by
          rcases g6 with h | ⟨k, e, h1, h2, h3, h4, h5⟩
          · omega
          · have := hP.2.2.1 k v h1 hv (by omega) e h3 h4
            omega
        have a2 : W v ≤ x := by
          rcases hP.2.2.2 v hv with h | ⟨u, e, h1, h2, h3, h4, h5⟩
          · omega
          · have hpi := (posA_in prt h1).2
            have hu : prt u = p + 1 := by omega
            rw [hu] at hpi
            have := g5 u h1 hu (by rw [show p + 1 + 1 = p + 2 from rfl] at hpi; omega) e h2 h3
            omega
        rw [show x = W v by omega]
  · have := (posA_in prt hk).1
    rw [hkp] at this
    omega
theorem parts_eq (hG : Gr n fs tg) (hM : MGr n fs tg ot A81 A82 A83) (hot : ∀ e, e < fs n → ot e < 6) (hP : PF n np fs tg ot prt W) (h87 : ∀ v, v < n → A87 v = Int32.ofNat (prt v - 1)) (hF : 70000 ≤ F) (h95 : ∀ k, k < n → A95 (posA prt n k) = Int32.ofNat k) (h96 : ∀ p, p < np → A96 p = Int32.ofNat (bck prt n (p + 2))) : ∃ B, gloop (fun u40 : (Int32 × Int32 × (Nat → Int32)) => fX12_laysWorst_S209 F (Int32.ofNat n) A81 A82 A83 x1 (Int32.ofNat np) x3 A87 A88 A89 A90 A91 A92 A93 A95 A96 u40.1 u40.2.1 u40.2.2) F (0, 0, A94) = some B ∧ ∀ v, v < n → B (prt v - 1) = Int32.ofNat (W v) := by
  have hn6 := hG.2.1
  have hnp := hP.1
  have h0 : bck prt n 1 = 0 := by
    have hz : ∀ m, m ≤ n → cntT prt 0 m = 0 := by
      intro m
      induction m with
      | zero => intro _; rfl
      | succ m ih => intro hm; rw [cntT_succ, ih (by omega), if_neg (hP.2.1 m (by omega)).1]
    rw [bck_succ, hz n (Nat.le_refl _)]
    rfl
  refine gl_ix (st := fun u40 : (Int32 × Int32 × (Nat → Int32)) => fX12_laysWorst_S209 F (Int32.ofNat n) A81 A82 A83 x1 (Int32.ofNat np) x3 A87 A88 A89 A90 A91 A92 A93 A95 A96 u40.1 u40.2.1 u40.2.2) (fun p s => s.1 = Int32.ofNat (bck prt n (p + 1)) ∧ s.2.1 = Int32.ofNat p ∧ ∀ v, v < n → prt v ≤ p → s.2.2 (prt v - 1) = Int32.ofNat (W v)) (fun B => ∀ v, v < n → B (prt v - 1) = Int32.ofNat (W v)) np ?_ ?_ F 0 (0, 0, A94) (Nat.zero_le _) ⟨by rw [h0]; rfl, rfl, fun v hv hvp => absurd (show prt v = 0 by omega) (hP.2.1 v hv).1⟩ (by omega)
  · rintro p ⟨v1, v2, B⟩ hp ⟨g1, g2, g3⟩
    dsimp only at g1 g2 g3 ⊢
    subst g1 g2
    unfold fX12_laysWorst_S209
    rw [if_neg (fun z => by have := (i32_le (by omega) (by omega)).mp z; omega), if_pos (inb_t (by omega) (by omega)), tnc (show p < 2 ^ 31 by omega), i32_succ]
    obtain ⟨B', e, h⟩ := part_eq (A94 := upd B p 0) x1 x3 A87 A88 A89 A90 A91 A92 A93 A95 A96 hG hM hot hP h87 hF h95 h96 hp (upd_at _ _ _) (fun v hv hvp => by rw [upd_ne (by have := (hP.2.1 v hv).1; omega)]; exact g3 v hv hvp)
    rw [e]
    exact ⟨_, rfl, rfl, rfl, h⟩
  · rintro ⟨v1, v2, B⟩ ⟨g1, g2, g3⟩
    dsimp only at g1 g2 g3 ⊢
    subst g2
    unfold fX12_laysWorst_S209
    rw [if_pos ((i32_le (by omega) (by omega)).mpr (Nat.le_refl _))]
    exact ⟨_, rfl, fun v hv => g3 v hv (hP.2.1 v hv).2.1⟩
end CNT
end LW
