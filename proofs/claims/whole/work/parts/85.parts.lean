/-! part 85: the reference's worst, part by part -/
section PRT
variable {n np : Nat} {fs tg ot prt W : Nat → Nat} {A81 A82 A83 A87 : Nat → Int32}
def PF (n np : Nat) (fs tg ot prt W : Nat → Nat) : Prop := np ≤ n ∧ (∀ v, v < n → prt v ≠ 0 ∧ prt v ≤ np ∧ W v ≤ 1000000 ∧ ∀ e, fs v ≤ e → e < fs (v + 1) → prt (tg e) ≠ 0 ∧ prt (tg e) ≤ prt v) ∧ (∀ u v, u < n → v < n → prt u = prt v → ∀ e, fs u ≤ e → e < fs (u + 1) → valE tg ot prt W u e ≤ W v) ∧ (∀ v, v < n → W v = 0 ∨ ∃ u e, u < n ∧ fs u ≤ e ∧ e < fs (u + 1) ∧ prt u = prt v ∧ valE tg ot prt W u e = W v)
theorem bad_flag : ∀ o : Fin 6, fX12_isBad (Int32.ofNat o.val) = if badO o.val = true then 1 else 0 := by decide +kernel
theorem valE_le (u e : Nat) : valE tg ot prt W u e ≤ 1000000 := by
  unfold valE
  split
  · split <;> omega
  · omega
theorem looksAt_eq (hG : Gr n fs tg) (hM : MGr n fs tg ot A81 A82 A83) (hot : ∀ e, e < fs n → ot e < 6) (hP : PF n np fs tg ot prt W) (h87 : ∀ v, v < n → A87 v = Int32.ofNat (prt v - 1)) {p k x : Nat} (hk : k < n) (hkp : prt k = p + 1) {A94 : Nat → Int32} (hx : A94 p = Int32.ofNat x) (hx1 : x ≤ 1000000) (hlow : ∀ v, v < n → prt v ≤ p → A94 (prt v - 1) = Int32.ofNat (W v)) {F : Nat} (hF : 70000 ≤ F) : ∃ B94 x', fX12_looksAt F A81 A82 A83 A87 A94 (Int32.ofNat p) (Int32.ofNat k) = some B94 ∧ (∀ q, q ≠ p → B94 q = A94 q) ∧ B94 p = Int32.ofNat x' ∧ x' ≤ 1000000 ∧ x ≤ x' ∧ (∀ e, fs k ≤ e → e < fs (k + 1) → valE tg ot prt W k e ≤ x') ∧ (x' = x ∨ ∃ e, fs k ≤ e ∧ e < fs (k + 1) ∧ valE tg ot prt W k e = x') := by
  have hn6 := hG.2.1
  have h60 := hG.2.2.2.2.1
  have hmn := gr_mono hG (show k + 1 ≤ n by omega) (Nat.le_refl _)
  have hms := hG.2.2.2.1 k hk
  have hp6 : p < 6001 := by have := (hP.2.1 k hk).2.1; have := hP.1; omega
  have ip : inb (Int32.ofNat p) 6001 = true := inb_t (by omega) hp6
  have tp : (Int32.ofNat p).toNatClampNeg = p := tnc (by omega)
  unfold fX12_looksAt
  rw [if_pos (inb_t (by omega) (by omega)), tnc (show k < 2 ^ 31 by omega), hM.1 k (by omega)]
  have key := gl_ix (st := fun u2 : (Int32 × (Nat → Int32)) => fX12_looksAt_S7 F A81 A82 A83 A87 (Int32.ofNat p) (Int32.ofNat k) u2.1 u2.2)
    (fun j s => s.1 = Int32.ofNat (fs k + j) ∧ (∀ q, q ≠ p → s.2 q = A94 q) ∧ ∃ x', s.2 p = Int32.ofNat x' ∧ x' ≤ 1000000 ∧ x ≤ x' ∧ (∀ e, fs k ≤ e → e < fs k + j → valE tg ot prt W k e ≤ x') ∧ (x' = x ∨ ∃ e, fs k ≤ e ∧ e < fs (k + 1) ∧ valE tg ot prt W k e = x'))
    (fun B94 => (∀ q, q ≠ p → B94 q = A94 q) ∧ ∃ x', B94 p = Int32.ofNat x' ∧ x' ≤ 1000000 ∧ x ≤ x' ∧ (∀ e, fs k ≤ e → e < fs (k + 1) → valE tg ot prt W k e ≤ x') ∧ (x' = x ∨ ∃ e, fs k ≤ e ∧ e < fs (k + 1) ∧ valE tg ot prt W k e = x')) (fs (k + 1) - fs k) (by
    rintro j ⟨v3, B⟩ hj ⟨g1, g2, x', g3, g4, g5, g6, g7⟩
    dsimp only at g1 g2 g3 ⊢
    subst g1
    have hlt : fs k + j < fs n := by omega
    have htn := hG.2.2.2.2.2 _ hlt
    obtain ⟨hpt1, hpt2⟩ := (hP.2.1 k hk).2.2.2 (fs k + j) (by omega) (by omega)
    have hptn := (hP.2.1 _ htn).2.1
    have hnp := hP.1
    have hWt := (hP.2.1 _ htn).2.2.1
    have hbf := bad_flag ⟨ot (fs k + j), hot _ hlt⟩
    dsimp only at hbf
    -- at the end the number is compared
    have h98 : ∀ y : Nat, y = valE tg ot prt W k (fs k + j) → ∃ s', fX12_looksAt_J98 F A81 A82 A83 A87 (Int32.ofNat p) (Int32.ofNat k) (Int32.ofNat (fs k + j)) (Int32.ofNat y) B = some (.inr s') ∧ s'.1 = Int32.ofNat (fs k + (j + 1)) ∧ (∀ q, q ≠ p → s'.2 q = A94 q) ∧ ∃ x'', s'.2 p = Int32.ofNat x'' ∧ x'' ≤ 1000000 ∧ x ≤ x'' ∧ (∀ e, fs k ≤ e → e < fs k + (j + 1) → valE tg ot prt W k e ≤ x'') ∧ (x'' = x ∨ ∃ e, fs k ≤ e ∧ e < fs (k + 1) ∧ valE tg ot prt W k e = x'') := by
      intro y hy
      have hy1 : y ≤ 1000000 := by rw [hy]; exact valE_le _ _
      unfold fX12_looksAt_J98 fX12_looksAt_J117
      rw [if_pos ip, tp, g3]
      by_cases hle : y ≤ x'
      · rw [if_pos ((i32_le (by omega) (by omega)).mpr hle)]
        refine ⟨_, rfl, i32_succ _, g2, x', g3, g4, g5, fun e e1 e2 => ?_, g7⟩
        by_cases he : e = fs k + j
        · subst he; rw [← hy]; exact hle
        · exact g6 e e1 (by omega)
      · rw [if_neg (fun z => hle ((i32_le (by omega) (by omega)).mp z)), if_pos ip]
        refine ⟨_, rfl, i32_succ _, fun q hq => ?_, y, upd_at _ _ _, hy1, by omega, fun e e1 e2 => ?_, Or.inr ⟨fs k + j, by omega, by omega, hy.symm⟩⟩
        · show upd B p (Int32.ofNat y) q = _
          rw [upd_ne hq]; exact g2 q hq
        · by_cases he : e = fs k + j
          · subst he; omega
          · have := g6 e e1 (by omega); omega
    have h36 : ∀ b : Nat, b = (if badO (ot (fs k + j)) = true then 1 else 0) → ∃ s', fX12_looksAt_J36 F A81 A82 A83 A87 (Int32.ofNat p) (Int32.ofNat k) (Int32.ofNat (fs k + j)) (Int32.ofNat b) B = some (.inr s') ∧ s'.1 = Int32.ofNat (fs k + (j + 1)) ∧ (∀ q, q ≠ p → s'.2 q = A94 q) ∧ ∃ x'', s'.2 p = Int32.ofNat x'' ∧ x'' ≤ 1000000 ∧ x ≤ x'' ∧ (∀ e, fs k ≤ e → e < fs k + (j + 1) → valE tg ot prt W k e ≤ x'') ∧ (x'' = x ∨ ∃ e, fs k ≤ e ∧ e < fs (k + 1) ∧ valE tg ot prt W k e = x'') := by
      intro b hb
      have hb2 : b ≤ 1 := by rw [hb]; split <;> omega
      unfold fX12_looksAt_J36
      rw [if_pos (inb_t (by omega) (by omega)), tnc (show fs k + j < 2 ^ 31 by omega), (hM.2 _ hlt).1, if_pos (inb_t (by omega) (by omega)), tnc (show tg (fs k + j) < 2 ^ 31 by omega), h87 _ htn]
      by_cases hs : prt (tg (fs k + j)) = prt k
      · rw [if_pos (show Int32.ofNat (prt (tg (fs k + j)) - 1) = Int32.ofNat p by rw [hs, hkp, Nat.add_sub_cancel])]
        have hv : valE tg ot prt W k (fs k + j) = if badO (ot (fs k + j)) = true then 1000000 else 0 := by unfold valE; rw [if_pos hs]
        unfold fX12_looksAt_J83
        cases hbo : badO (ot (fs k + j))
        · have hb0 : b = 0 := by rw [hb, hbo]; rfl
          rw [hbo] at hv
          rw [hb0, if_neg (show ¬ Int32.ofNat 0 = 1 by decide), if_pos (show (0 : Int32) ≤ 1000000 by decide)]
          exact h98 0 (by rw [hv]; rfl)
        · have hb1 : b = 1 := by rw [hb, hbo]; rfl
          rw [hbo] at hv
          rw [hb1, if_pos (show Int32.ofNat 1 = 1 from rfl), if_pos (show (1000000 : Int32) ≤ 1000000 by decide)]
          exact h98 1000000 (by rw [hv]; rfl)
      · have hlt2 : prt (tg (fs k + j)) ≤ p := by omega
        rw [if_neg (fun z => hs (by have := (i32_eq (by omega) (by omega)).mp z; omega)), if_pos (inb_t (by omega) (by omega)), tnc (show prt (tg (fs k + j)) - 1 < 2 ^ 31 by omega), g2 _ (by omega), hlow _ htn hlt2, i32_add]
        have hv : valE tg ot prt W k (fs k + j) = min 1000000 (W (tg (fs k + j)) + b) := by unfold valE; rw [if_neg hs, hb]
        unfold fX12_looksAt_J83
        by_cases hc : W (tg (fs k + j)) + b ≤ 1000000
        · rw [if_pos (show Int32.ofNat (W (tg (fs k + j)) + b) ≤ 1000000 from (i32_le (b := 1000000) (by omega) (by decide)).mpr hc)]
          exact h98 _ (by rw [hv]; omega)
        · rw [if_neg (show ¬ Int32.ofNat (W (tg (fs k + j)) + b) ≤ 1000000 from fun z => hc ((i32_le (b := 1000000) (by omega) (by decide)).mp z))]
          exact h98 1000000 (by rw [hv]; omega)
    unfold fX12_looksAt_S7
    rw [i32_succ, if_pos (inb_t (by omega) (by omega)), tnc (show k + 1 < 2 ^ 31 by omega), hM.1 (k + 1) (by omega), if_neg (fun z => by have := (i32_le (by omega) (by omega)).mp z; omega), if_pos (inb_t (by omega) (by omega)), tnc (show fs k + j < 2 ^ 31 by omega), (hM.2 _ hlt).2, hbf]
    cases hbo : badO (ot (fs k + j))
    · rw [if_pos (show (if false = true then (1 : Int32) else 0) = 0 from rfl)]
      exact h36 0 (by rw [hbo]; rfl)
    · rw [if_neg (show ¬ (if true = true then (1 : Int32) else 0) = 0 by decide)]
      exact h36 1 (by rw [hbo]; rfl)) (by
    rintro ⟨v3, B⟩ ⟨g1, g2, x', g3, g4, g5, g6, g7⟩
    dsimp only at g1 g2 g3 ⊢
    subst g1
    unfold fX12_looksAt_S7
    rw [i32_succ, if_pos (inb_t (by omega) (by omega)), tnc (show k + 1 < 2 ^ 31 by omega), hM.1 (k + 1) (by omega), if_pos ((i32_le (by omega) (by omega)).mpr (by omega))]
    exact ⟨_, rfl, g2, x', g3, g4, g5, fun e e1 e2 => g6 e e1 (by omega), g7⟩) F 0 (Int32.ofNat (fs k), A94) (Nat.zero_le _) ⟨rfl, fun q _ => rfl, x, hx, hx1, Nat.le_refl _, fun e e1 e2 => by omega, Or.inl rfl⟩ (by omega)
  obtain ⟨B, e1, q1, x', q2, q3, q4, q5, q6⟩ := key
  rw [e1]
  exact ⟨B, x', rfl, q1, q2, q3, q4, q5, q6⟩
def posA (prt : Nat → Nat) (n k : Nat) : Nat := bck prt n (prt k) + cntT prt (prt k) k
theorem posA_in (prt : Nat → Nat) {n k : Nat} (h : k < n) : bck prt n (prt k) ≤ posA prt n k ∧ posA prt n k < bck prt n (prt k + 1) := by
  have := cntT_lt prt h
  have := bck_succ prt n (prt k)
  unfold posA
  omega
theorem posA_inj (prt : Nat → Nat) {n k k' : Nat} (h : k < n) (h' : k' < n) (hne : k' < k) : posA prt n k ≠ posA prt n k' := by
  intro z
  obtain ⟨a1, a2⟩ := posA_in prt h
  obtain ⟨b1, b2⟩ := posA_in prt h'
  by_cases ht : prt k = prt k'
  · have := cntT_le prt (prt k') (show k' + 1 ≤ k by omega)
    rw [cntT_succ, if_pos rfl] at this
    unfold posA at z
    rw [ht] at z
    omega
  · rcases Nat.lt_or_gt_of_ne ht with hl | hl
    · have := bck_mono prt n (show prt k + 1 ≤ prt k' by omega); omega
    · have := bck_mono prt n (show prt k' + 1 ≤ prt k by omega); omega
end PRT
