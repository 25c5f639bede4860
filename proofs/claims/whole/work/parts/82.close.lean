/-! part 82: a part is closed, on both sides -/
def td (x : Nat) : Int32 := if x < 1000000 then Int32.ofNat x else -2
theorem td_told {x : Nat} (h : x ≤ 1000000) : td x = fX12_told (Int32.ofNat x) := by
  unfold td fX12_told
  by_cases hx : x < 1000000
  · rw [if_pos hx, if_pos (show Int32.ofNat x < 1000000 from (i32_lt (b := 1000000) (by omega) (by decide)).mpr hx)]
  · rw [if_neg hx, if_neg (show ¬ Int32.ofNat x < 1000000 from fun z => hx ((i32_lt (b := 1000000) (by omega) (by decide)).mp z))]
theorem nat_ne_neg {x : Nat} (h : x < 2 ^ 31) {k : Int32} (hk : k < 0) : ¬ Int32.ofNat x = k := by
  intro z
  have := congrArg Int32.toInt z
  rw [i32_int h] at this
  rw [Int32.lt_iff_toInt_lt] at hk
  have h0 : (0 : Int32).toInt = 0 := rfl
  omega
theorem td_end {x : Nat} (h : x ≤ 1000000) : (td x = -2) ↔ x = 1000000 := by
  unfold td
  by_cases hx : x < 1000000
  · rw [if_pos hx]
    exact ⟨fun z => absurd z (nat_ne_neg (by omega) (by decide)), fun z => by omega⟩
  · rw [if_neg hx]; exact ⟨fun _ => by omega, fun _ => rfl⟩
theorem td_stands {x : Nat} (h : x ≤ 1000000) : ¬ td x = -3 := by
  unfold td
  by_cases hx : x < 1000000
  · rw [if_pos hx]; exact nat_ne_neg (by omega) (by decide)
  · rw [if_neg hx]; decide
theorem greater_td {a b : Nat} (ha : a ≤ 1000000) (hb : b ≤ 1000000) : fX4_greater (td a) (td b) = td (max a b) := by
  unfold fX4_greater
  by_cases ha1 : a = 1000000
  · rw [if_pos ((td_end ha).mpr ha1), show max a b = 1000000 by omega]; rfl
  · rw [if_neg (fun z => ha1 ((td_end ha).mp z))]
    by_cases hb1 : b = 1000000
    · rw [if_pos ((td_end hb).mpr hb1), show max a b = 1000000 by omega]; rfl
    · rw [if_neg (fun z => hb1 ((td_end hb).mp z))]
      unfold td
      rw [if_pos (show a < 1000000 by omega), if_pos (show b < 1000000 by omega), if_pos (show max a b < 1000000 by omega)]
      by_cases hab : a ≤ b
      · rw [if_pos ((i32_le (by omega) (by omega)).mpr hab), show max a b = b by omega]
      · rw [if_neg (fun z => hab ((i32_le (by omega) (by omega)).mp z)), show max a b = a by omega]
def mxTo (p : Nat → Nat) (a : Nat) : Nat → Nat
  | 0 => 0
  | j + 1 => max (mxTo p a j) (p (a + j))
theorem mxTo_ge (p : Nat → Nat) (a : Nat) : ∀ j i, i < j → p (a + i) ≤ mxTo p a j := by
  intro j
  induction j with
  | zero => intro i hi; omega
  | succ j ih =>
    intro i hi
    show p (a + i) ≤ max (mxTo p a j) (p (a + j))
    by_cases hij : i = j
    · subst hij; omega
    · have := ih i (by omega); omega
theorem mxTo_at (p : Nat → Nat) (a : Nat) : ∀ j, mxTo p a j = 0 ∨ ∃ i, i < j ∧ p (a + i) = mxTo p a j := by
  intro j
  induction j with
  | zero => exact Or.inl rfl
  | succ j ih =>
    show max (mxTo p a j) (p (a + j)) = 0 ∨ ∃ i, i < j + 1 ∧ p (a + i) = max (mxTo p a j) (p (a + j))
    by_cases h : mxTo p a j ≤ p (a + j)
    · exact Or.inr ⟨j, by omega, by omega⟩
    · rcases ih with h0 | ⟨i, hi, he⟩
      · omega
      · exact Or.inr ⟨i, by omega, by omega⟩
theorem mxTo_le (p : Nat → Nat) (a b : Nat) (h : ∀ i, p i ≤ b) : ∀ j, mxTo p a j ≤ b := by
  intro j
  induction j with
  | zero => exact Nat.zero_le _
  | succ j ih => show max (mxTo p a j) (p (a + j)) ≤ b; have := h (a + j); omega
section CLO
variable {n : Nat} {fs tg ot : Nat → Nat} {clk hgt d np : Nat} {met low st pa ne prt W : Nat → Nat} {A30 A35 : Nat → Int32}
def AW (n : Nat) (prt W : Nat → Nat) (A44 : Nat → Int32) : Prop := ∀ s, s < n → cAt 6000 A44 (Int32.ofNat s) = if prt s = 0 then -3 else td (W s)
/-- what is not endless is less than the number of parts -/
theorem w_small (H : DI n fs tg ot clk hgt d np met low st pa ne prt W) (htg : ∀ v e, v < n → e < fs (v + 1) → tg e < n) : ∀ k v, v < n → prt v = k → prt v ≠ 0 → W v = 1000000 ∨ W v < prt v := by
  obtain ⟨a1, a2, b1, b2, b3, b4, c1, c2, c3, d1, e1, e2, g1, g2, g3, h⟩ := H
  intro k
  induction k using Nat.strongRecOn with
  | _ k ih =>
    intro v hv hk hp
    rcases g3 v hv hp with h0 | ⟨u, e, hu, k1, k2, hpu, hve⟩
    · right; omega
    · have hpu0 : prt u ≠ 0 := by omega
      obtain ⟨t1, t2⟩ := (g1 u hu hpu0).2.2.2 e k1 k2
      unfold valE at hve
      by_cases hs : prt (tg e) = prt u
      · rw [if_pos hs] at hve
        by_cases hb : badO (ot e) = true
        · rw [if_pos hb] at hve; left; omega
        · rw [if_neg hb] at hve; right; omega
      · rw [if_neg hs] at hve
        rcases ih (prt (tg e)) (by omega) (tg e) (htg u e hu k2) rfl t1 with h1 | h1
        · left; rw [h1] at hve; omega
        · by_cases hb : badO (ot e) = true
          · rw [if_pos hb] at hve; omega
          · rw [if_neg hb] at hve; omega
theorem greatestOf_eq (H : DI n fs tg ot clk hgt d np met low st pa ne prt W) (hG : Gr n fs tg) (hC : CGr n fs tg ot A30 A35) {A44 : Nat → Int32} (hA : AW n prt W A44) {u : Nat} (hu : u < n) {F : Nat} (hF : 70000 ≤ F) : fX4_greatestOf F A30 A35 A44 (Int32.ofNat u) = some (td (mxTo (valO tg ot prt W) (fs u) (fs (u + 1) - fs u))) := by
  have hn6 := hG.2.1
  have hmn := gr_mono hG (show u + 1 ≤ n by omega) (Nat.le_refl _)
  have hms := hG.2.2.2.1 u hu
  have h60 := hG.2.2.2.2.1
  have htg : ∀ v e, v < n → e < fs (v + 1) → tg e < n := fun v e hv he => hG.2.2.2.2.2 e (Nat.lt_of_lt_of_le he (gr_mono hG (by omega) (Nat.le_refl _)))
  have hvle : ∀ e, valO tg ot prt W e ≤ 1000000 := by
    intro e
    unfold valO
    split
    · split <;> omega
    · omega
  have hml : ∀ j, mxTo (valO tg ot prt W) (fs u) j ≤ 1000000 := mxTo_le _ _ _ hvle
  have hsm := w_small H htg
  have hg1 := H.2.2.2.2.2.2.2.2.2.2.2.2.1
  have hnp : np ≤ n := by
    have := H.1
    have := cntN_le met n
    have := H.2.2.2.2.2.2.2.2.2.2.2.2.2.2.2
    omega
  unfold fX4_greatestOf
  rw [hC.1 u (by omega)]
  have key := gl_for (st := fun u2 : (Int32 × Int32) => fX4_greatestOf_S12 F A30 A35 A44 (Int32.ofNat u) u2.1 u2.2) (out := td (mxTo (valO tg ot prt W) (fs u) (fs (u + 1) - fs u))) (fs (u + 1) - fs u) (fun j => (td (mxTo (valO tg ot prt W) (fs u) j), Int32.ofNat (fs u + j))) (fun j hj => by
    show fX4_greatestOf_S12 F A30 A35 A44 (Int32.ofNat u) (td (mxTo (valO tg ot prt W) (fs u) j)) (Int32.ofNat (fs u + j)) = some (.inr (td (max (mxTo (valO tg ot prt W) (fs u) j) (valO tg ot prt W (fs u + j))), Int32.ofNat (fs u + (j + 1))))
    have hlt : fs u + j < fs n := by omega
    have ht := hG.2.2.2.2.2 _ hlt
    unfold fX4_greatestOf_S12 fX4_greatestOf_J70 fX4_greatestOf_J97 fX4_greatestOf_J99 fX4_greatestOf_J103
    rw [i32_succ, hC.1 (u + 1) (by omega), if_neg (fun z => by have := (i32_le (by omega) (by omega)).mp z; omega), (hC.2 _ hlt).1, (hC.2 _ hlt).2.1, hA _ ht, i32_succ, ← greater_td (hml j) (hvle _)]
    unfold valO
    by_cases hp : prt (tg (fs u + j)) = 0
    · rw [if_pos hp, if_pos rfl, if_pos hp]
      cases hb : badO (ot (fs u + j))
      · rw [if_pos (show (if false = true then (1 : Int32) else 0) = 0 from rfl), if_neg (show ¬ false = true by decide)]; rfl
      · rw [if_neg (show ¬ (if true = true then (1 : Int32) else 0) = 0 by decide), if_pos (show true = true from rfl)]; rfl
    · have hw := (hg1 _ ht hp).2.2.1
      have hpn := (hg1 _ ht hp).1
      rw [if_neg hp, if_neg (td_stands hw), if_neg hp]
      cases hb : badO (ot (fs u + j))
      · rw [if_pos (show (if false = true then (1 : Int32) else 0) = 0 from rfl), if_neg (show ¬ false = true by decide), show min 1000000 (W (tg (fs u + j)) + 0) = W (tg (fs u + j)) by omega]; rfl
      · rw [if_neg (show ¬ (if true = true then (1 : Int32) else 0) = 0 by decide), if_pos (show true = true from rfl)]
        by_cases hw1 : W (tg (fs u + j)) = 1000000
        · rw [if_pos ((td_end hw).mpr hw1), hw1]; rfl
        · rw [if_neg (fun z => hw1 ((td_end hw).mp z))]
          have := (hsm _ _ ht rfl hp).resolve_left hw1
          rw [show min 1000000 (W (tg (fs u + j)) + 1) = W (tg (fs u + j)) + 1 by omega]
          unfold td
          rw [if_pos (show W (tg (fs u + j)) < 1000000 by omega), if_pos (show W (tg (fs u + j)) + 1 < 1000000 by omega), i32_succ]
          rfl) (by
    show fX4_greatestOf_S12 F A30 A35 A44 (Int32.ofNat u) _ (Int32.ofNat (fs u + (fs (u + 1) - fs u))) = _
    unfold fX4_greatestOf_S12
    rw [i32_succ, hC.1 (u + 1) (by omega), if_pos ((i32_le (by omega) (by omega)).mpr (by omega))]) (F := F) (by omega)
  rw [Nat.add_zero] at key
  rw [show (td (mxTo (valO tg ot prt W) (fs u) 0), Int32.ofNat (fs u)) = ((0 : Int32), Int32.ofNat (fs u)) from rfl] at key
  rw [key]; rfl
def gOf (fs tg ot prt W : Nat → Nat) (u : Nat) : Nat := mxTo (valO tg ot prt W) (fs u) (fs (u + 1) - fs u)
/-- the stack from the top down to pos -/
def wTop (fs tg ot prt W st : Nat → Nat) (hgt : Nat) : Nat → Nat
  | 0 => 0
  | j + 1 => max (wTop fs tg ot prt W st hgt j) (gOf fs tg ot prt W (st (hgt - 1 - j)))
theorem gOf_le (u : Nat) : gOf fs tg ot prt W u ≤ 1000000 := mxTo_le _ _ _ (fun e => by
  unfold valO
  split
  · split <;> omega
  · omega) _
theorem wTop_le : ∀ j, wTop fs tg ot prt W st hgt j ≤ 1000000 := by
  intro j
  induction j with
  | zero => exact Nat.zero_le _
  | succ j ih => show max _ _ ≤ _; have := gOf_le (fs := fs) (tg := tg) (ot := ot) (prt := prt) (W := W) (st (hgt - 1 - j)); omega
theorem wTop_ge : ∀ j i, i < j → gOf fs tg ot prt W (st (hgt - 1 - i)) ≤ wTop fs tg ot prt W st hgt j := by
  intro j
  induction j with
  | zero => intro i hi; omega
  | succ j ih =>
    intro i hi
    show _ ≤ max (wTop fs tg ot prt W st hgt j) (gOf fs tg ot prt W (st (hgt - 1 - j)))
    by_cases hij : i = j
    · subst hij; omega
    · have := ih i (by omega); omega
theorem wTop_at : ∀ j, wTop fs tg ot prt W st hgt j = 0 ∨ ∃ i, i < j ∧ gOf fs tg ot prt W (st (hgt - 1 - i)) = wTop fs tg ot prt W st hgt j := by
  intro j
  induction j with
  | zero => exact Or.inl rfl
  | succ j ih =>
    show max (wTop fs tg ot prt W st hgt j) (gOf fs tg ot prt W (st (hgt - 1 - j))) = 0 ∨ ∃ i, i < j + 1 ∧ gOf fs tg ot prt W (st (hgt - 1 - i)) = max (wTop fs tg ot prt W st hgt j) (gOf fs tg ot prt W (st (hgt - 1 - j)))
    by_cases h : wTop fs tg ot prt W st hgt j ≤ gOf fs tg ot prt W (st (hgt - 1 - j))
    · exact Or.inr ⟨j, by omega, by omega⟩
    · rcases ih with h0 | ⟨i, hi, he⟩
      · omega
      · exact Or.inr ⟨i, by omega, by omega⟩
/-- which place on the stack the part begins at, and who is in it -/
theorem seg_stack (H : DI n fs tg ot clk hgt (d + 1) np met low st pa ne prt W) : ∃ pos, pos < hgt ∧ st pos = pa d ∧ (∀ i, i < hgt → (seg met prt (pa d) (st i) = true ↔ pos ≤ i)) ∧ (∀ v, v < n → seg met prt (pa d) v = true → ∃ i, pos ≤ i ∧ i < hgt ∧ st i = v) ∧ hgt ≤ n := by
  obtain ⟨a1, a2, b1, b2, b3, b4, c1, c2, c3, d1, e1, e2, g1, g2, g3, h⟩ := H
  obtain ⟨s1, s2, s3, s4, s5⟩ := c1 d (by omega)
  obtain ⟨pos, hp, hst⟩ := b3 _ s1 s2 s3
  have hseg : ∀ i, i < hgt → (seg met prt (pa d) (st i) = true ↔ pos ≤ i) := by
    intro i hi
    rw [seg_iff]
    constructor
    · intro ⟨_, _, hle⟩
      rcases Nat.lt_or_ge i pos with h | h
      · have := b2 i pos h hp; rw [hst] at this; omega
      · exact h
    · intro hle
      refine ⟨(b1 i hi).2.1, (b1 i hi).2.2, ?_⟩
      rw [← hst]
      by_cases he : i = pos
      · subst he; exact Nat.le_refl _
      · exact Nat.le_of_lt (b2 pos i (by omega) hi)
  refine ⟨pos, hp, hst, hseg, fun v hv hs => ?_, ?_⟩
  · obtain ⟨hm, hpv, _⟩ := seg_iff.mp hs
    obtain ⟨i, hi, hsi⟩ := b3 v hv hm hpv
    exact ⟨i, (hseg i hi).mp (by rw [hsi]; exact hs), hi, hsi⟩
  · have := cntN_le met n
    omega
theorem closeAt_eq (H : DI n fs tg ot clk hgt (d + 1) np met low st pa ne prt W) (hG : Gr n fs tg) (hC : CGr n fs tg ot A30 A35) {A44 A46 A48 A50 : Nat → Int32} (hA : AW n prt W A44) (h46 : cAt 6000 A46 (Int32.ofNat (pa d)) = Int32.ofNat (met (pa d))) (h48 : cAt 6000 A48 (Int32.ofNat (pa d)) = Int32.ofNat (low (pa d))) (h50 : ∀ i, i < hgt → cAt 6000 A50 (Int32.ofNat i) = Int32.ofNat (st i)) (hl : low (pa d) = met (pa d)) {pos : Nat} (hpos : pos < hgt) (hst : st pos = pa d) (hseg : ∀ i, i < hgt → (seg met prt (pa d) (st i) = true ↔ pos ≤ i)) (hall : ∀ v, v < n → seg met prt (pa d) v = true → ∃ i, pos ≤ i ∧ i < hgt ∧ st i = v) (hgn : hgt ≤ n) {F : Nat} (hF : 70000 ≤ F) : ∃ B44, fX4_closeAt F A30 A35 A46 A48 A50 (Int32.ofNat hgt) A44 (Int32.ofNat (pa d)) = some (Int32.ofNat pos, B44) ∧ AW n (fun v => if seg met prt (pa d) v = true then np + 1 else prt v) (fun v => if seg met prt (pa d) v = true then wTop fs tg ot prt W st hgt (hgt - pos) else W v) B44 := by
  have hn6 := hG.2.1
  have hb1 := H.2.2.1
  have hb2 := H.2.2.2.1
  have hinj : ∀ i, i < hgt → st i = pa d → i = pos := by
    intro i hi hsi
    rcases Nat.lt_trichotomy i pos with h | h | h
    · have := hb2 i pos h hpos; rw [hsi, hst] at this; omega
    · exact h
    · have := hb2 pos i h hi; rw [hsi, hst] at this; omega
  unfold fX4_closeAt
  rw [h46, h48, hl, if_pos rfl]
  -- downwards
  have key := gl_for (st := fun u4 : (Int32 × Int32 × Int32) => fX4_closeAt_S31 F A30 A35 A46 A48 A50 (Int32.ofNat (pa d)) (Int32.ofNat hgt) A44 u4.1 u4.2.1 u4.2.2) (out := (td (wTop fs tg ot prt W st hgt (hgt - pos)), Int32.ofNat pos)) (hgt - pos) (fun j => (td (wTop fs tg ot prt W st hgt j), Int32.ofNat (hgt - j), if j = hgt - pos then 1 else 0)) (fun j hj => by
    show fX4_closeAt_S31 F A30 A35 A46 A48 A50 (Int32.ofNat (pa d)) (Int32.ofNat hgt) A44 (td (wTop fs tg ot prt W st hgt j)) (Int32.ofNat (hgt - j)) (if j = hgt - pos then 1 else 0) = some (.inr (td (max (wTop fs tg ot prt W st hgt j) (gOf fs tg ot prt W (st (hgt - 1 - j)))), Int32.ofNat (hgt - (j + 1)), if j + 1 = hgt - pos then 1 else 0))
    have hx : hgt - 1 - j < hgt := by omega
    unfold fX4_closeAt_S31 fX4_closeAt_J81
    rw [if_neg (show ¬ Int32.ofNat (hgt - j) ≤ 0 from fun z => by have := (i32_le (b := 0) (by omega) (by decide)).mp z; omega), if_neg (show ¬ j = hgt - pos by omega), if_pos rfl, i32_down (show 1 ≤ hgt - j by omega), show hgt - j - 1 = hgt - 1 - j by omega, h50 _ hx, greatestOf_eq H hG hC hA (hb1 _ hx).1 hF]
    simp only [Option.bind_some]
    rw [show fX4_greater (td (wTop fs tg ot prt W st hgt j)) (td (mxTo (valO tg ot prt W) (fs (st (hgt - 1 - j))) (fs (st (hgt - 1 - j) + 1) - fs (st (hgt - 1 - j))))) = td (max (wTop fs tg ot prt W st hgt j) (gOf fs tg ot prt W (st (hgt - 1 - j)))) from greater_td (wTop_le j) (gOf_le _), show hgt - (j + 1) = hgt - 1 - j by omega]
    have hpd := (H.2.2.2.2.2.2.1 d (by omega)).1
    by_cases he : st (hgt - 1 - j) = pa d
    · have := hinj _ hx he
      rw [if_pos (show Int32.ofNat (st (hgt - 1 - j)) = Int32.ofNat (pa d) by rw [he]), if_pos (show j + 1 = hgt - pos by omega)]
    · have hne : ¬ j + 1 = hgt - pos := fun z => he (by rw [show hgt - 1 - j = pos by omega]; exact hst)
      have hsn := (hb1 _ hx).1
      rw [if_neg (fun z => he ((i32_eq (by omega) (by omega)).mp z)), if_neg hne]) (by
    show fX4_closeAt_S31 F A30 A35 A46 A48 A50 (Int32.ofNat (pa d)) (Int32.ofNat hgt) A44 _ (Int32.ofNat (hgt - (hgt - pos))) (if hgt - pos = hgt - pos then 1 else 0) = _
    unfold fX4_closeAt_S31
    rw [if_pos rfl, show hgt - (hgt - pos) = pos by omega]
    by_cases h0 : Int32.ofNat pos ≤ 0
    · rw [if_pos h0]
    · rw [if_neg h0, if_neg (show ¬ (1 : Int32) = 0 by decide)]) (F := F) (by omega)
  have e0 : (fun j => (td (wTop fs tg ot prt W st hgt j), Int32.ofNat (hgt - j), if j = hgt - pos then (1 : Int32) else 0)) 0 = ((0 : Int32), Int32.ofNat hgt, (0 : Int32)) := by
    show (td 0, Int32.ofNat hgt, if 0 = hgt - pos then (1 : Int32) else 0) = _
    rw [if_neg (by omega)]; rfl
  have key' : gloop (fun u4 : (Int32 × Int32 × Int32) => fX4_closeAt_S31 F A30 A35 A46 A48 A50 (Int32.ofNat (pa d)) (Int32.ofNat hgt) A44 u4.1 u4.2.1 u4.2.2) F (0, Int32.ofNat hgt, 0) = some (td (wTop fs tg ot prt W st hgt (hgt - pos)), Int32.ofNat pos) := by
    have k := key
    rw [show (td (wTop fs tg ot prt W st hgt 0), Int32.ofNat (hgt - 0), if 0 = hgt - pos then (1 : Int32) else 0) = ((0 : Int32), Int32.ofNat hgt, (0 : Int32)) from e0] at k
    exact k
  rw [key']
  simp only [Option.bind_some]
  unfold fX4_closeAt_J86
  have hsinj : ∀ i j, i < hgt → j < hgt → st i = st j → i = j := by
    intro i j hi hj hs
    rcases Nat.lt_trichotomy i j with h | h | h
    · have := hb2 i j h hj; rw [hs] at this; omega
    · exact h
    · have := hb2 j i h hi; rw [hs] at this; omega
  have l2 := gl_ix (st := fun u22 : (Int32 × (Nat → Int32)) => fX4_closeAt_S90 F A30 A35 A46 A48 A50 (td (wTop fs tg ot prt W st hgt (hgt - pos))) (Int32.ofNat pos) (Int32.ofNat hgt) u22.1 u22.2) (fun j s => s.1 = Int32.ofNat (pos + j) ∧ (∀ i, pos ≤ i → i < pos + j → cAt 6000 s.2 (Int32.ofNat (st i)) = td (wTop fs tg ot prt W st hgt (hgt - pos))) ∧ ∀ v, v < n → (∀ i, pos ≤ i → i < pos + j → st i ≠ v) → cAt 6000 s.2 (Int32.ofNat v) = cAt 6000 A44 (Int32.ofNat v)) (fun q => (∀ i, pos ≤ i → i < hgt → cAt 6000 q (Int32.ofNat (st i)) = td (wTop fs tg ot prt W st hgt (hgt - pos))) ∧ ∀ v, v < n → (∀ i, pos ≤ i → i < hgt → st i ≠ v) → cAt 6000 q (Int32.ofNat v) = cAt 6000 A44 (Int32.ofNat v)) (hgt - pos) (by
    rintro j ⟨v6, B⟩ hj ⟨g1, g2, g3⟩
    dsimp only at g1 g2 g3 ⊢
    subst g1
    have hsn := (hb1 (pos + j) (by omega)).1
    unfold fX4_closeAt_S90
    rw [if_neg (fun z => by have := (i32_le (by omega) (by omega)).mp z; omega), h50 _ (by omega), i32_succ]
    refine ⟨_, rfl, rfl, fun i h1 h2 => ?_, fun v hv hno => ?_⟩
    · show cAt 6000 (cPut 6000 B (Int32.ofNat (st (pos + j))) (td (wTop fs tg ot prt W st hgt (hgt - pos)))) (Int32.ofNat (st i)) = _
      have hsi := (hb1 i (by omega)).1
      rw [cAt_put (by omega) (by decide) (by omega)]
      by_cases hi : i = pos + j
      · subst hi; rw [if_pos rfl]
      · rw [if_neg (fun z => hi (hsinj _ _ (by omega) (by omega) z))]; exact g2 i h1 (by omega)
    · show cAt 6000 (cPut 6000 B (Int32.ofNat (st (pos + j))) (td (wTop fs tg ot prt W st hgt (hgt - pos)))) (Int32.ofNat v) = _
      rw [cAt_put (by omega) (by decide) (by omega), if_neg (fun z => hno (pos + j) (by omega) (by omega) z.symm)]
      exact g3 v hv (fun i h1 h2 => hno i h1 (by omega))) (by
    rintro ⟨v6, B⟩ ⟨g1, g2, g3⟩
    dsimp only at g1 g2 g3 ⊢
    subst g1
    unfold fX4_closeAt_S90
    rw [if_pos ((i32_le (by omega) (by omega)).mpr (by omega))]
    rw [show pos + (hgt - pos) = hgt by omega] at g2 g3
    exact ⟨_, rfl, g2, g3⟩) F 0 (Int32.ofNat pos, A44) (Nat.zero_le _) ⟨rfl, fun i h1 h2 => by omega, fun v hv _ => rfl⟩ (by omega)
  obtain ⟨B, e2, hB1, hB2⟩ := l2
  rw [e2]
  refine ⟨B, rfl, fun v hv => ?_⟩
  cases hs : seg met prt (pa d) v
  · rw [hB2 v hv (fun i h1 h2 h3 => by
      have := (hseg i h2).mpr h1
      rw [h3, hs] at this; exact absurd this (by decide)), hA v hv]
    simp only [hs, Bool.false_eq_true, ↓reduceIte]
  · obtain ⟨i, h1, h2, h3⟩ := hall v hv hs
    have hx := hB1 i h1 h2
    rw [h3] at hx
    rw [hx]
    simp only [hs, ↓reduceIte]
    rw [if_neg (by omega)]
/-- the reference's stack -/
theorem leaves_eq (H : DI n fs tg ot clk hgt (d + 1) np met low st pa ne prt W) (hG : Gr n fs tg) {A87 A88 A89 A90 A91 : Nat → Int32} (h88 : A88 (pa d) = Int32.ofNat (low (pa d) - 1)) (h89 : A89 (pa d) = Int32.ofNat (met (pa d) - 1)) (h90 : ∀ i, i < hgt → A90 i = Int32.ofNat (st i)) (hl : low (pa d) = met (pa d)) {pos : Nat} (hpos : pos < hgt) (hst : st pos = pa d) (hgn : hgt ≤ n) {F : Nat} (hF : 70000 ≤ F) : ∃ B87 B91, fX12_leaves F A88 A89 A90 (Int32.ofNat hgt) (Int32.ofNat np) A87 A91 (Int32.ofNat (pa d)) = some (Int32.ofNat pos, Int32.ofNat (np + 1), B87, B91) ∧ (∀ i, pos ≤ i → i < hgt → B87 (st i) = Int32.ofNat np ∧ B91 (st i) = 0) ∧ (∀ v, (∀ i, pos ≤ i → i < hgt → st i ≠ v) → B87 v = A87 v ∧ B91 v = A91 v) := by
  have hn6 := hG.2.1
  have hb1 := H.2.2.1
  have hb2 := H.2.2.2.1
  have hpd := (H.2.2.2.2.2.2.1 d (by omega)).1
  have hinj : ∀ i, i < hgt → st i = pa d → i = pos := by
    intro i hi hsi
    rcases Nat.lt_trichotomy i pos with h | h | h
    · have := hb2 i pos h hpos; rw [hsi, hst] at this; omega
    · exact h
    · have := hb2 pos i h hi; rw [hsi, hst] at this; omega
  have hsinj : ∀ i j, i < hgt → j < hgt → st i = st j → i = j := by
    intro i j hi hj hs
    rcases Nat.lt_trichotomy i j with h | h | h
    · have := hb2 i j h hj; rw [hs] at this; omega
    · exact h
    · have := hb2 j i h hi; rw [hs] at this; omega
  unfold fX12_leaves
  rw [if_pos (inb_t (by omega) (by omega)), if_pos (inb_t (by omega) (by omega)), tnc (by omega), h88, h89, hl, if_pos rfl]
  have key : ∀ (m j F' : Nat) (B87 B91 : Nat → Int32), j + m + pos + 1 = hgt → m < F' → (∀ i, hgt - j ≤ i → i < hgt → B87 (st i) = Int32.ofNat np ∧ B91 (st i) = 0) → (∀ v, (∀ i, hgt - j ≤ i → i < hgt → st i ≠ v) → B87 v = A87 v ∧ B91 v = A91 v) → ∃ q, gloop (fun u4 : (Int32 × (Nat → Int32) × (Nat → Int32)) => fX12_leaves_S16 F A88 A89 A90 (Int32.ofNat (pa d)) (Int32.ofNat np) u4.1 u4.2.1 u4.2.2) F' (Int32.ofNat (hgt - j), B87, B91) = some q ∧ q.1 = Int32.ofNat pos ∧ (∀ i, pos ≤ i → i < hgt → q.2.1 (st i) = Int32.ofNat np ∧ q.2.2 (st i) = 0) ∧ (∀ v, (∀ i, pos ≤ i → i < hgt → st i ≠ v) → q.2.1 v = A87 v ∧ q.2.2 v = A91 v) := by
    intro m
    induction m with
    | zero =>
      intro j F' B87 B91 hj hF' p1 p2
      obtain ⟨G, rfl⟩ : ∃ G, F' = G + 1 := ⟨F' - 1, by omega⟩
      have hx : hgt - j - 1 = pos := by omega
      simp only [gloop]
      unfold fX12_leaves_S16
      rw [i32_pred (by omega) (by omega), hx, if_pos (inb_t (by omega) (by omega)), tnc (show pos < 2 ^ 31 by omega), h90 pos hpos, hst, if_pos (inb_t (by omega) (by omega)), if_pos (inb_t (by omega) (by omega)), if_pos rfl, tnc (show pa d < 2 ^ 31 by omega)]
      refine ⟨_, rfl, rfl, fun i h1 h2 => ?_, fun v hv => ?_⟩
      · show upd B87 (pa d) (Int32.ofNat np) (st i) = _ ∧ upd B91 (pa d) 0 (st i) = _
        by_cases hi : i = pos
        · subst hi; rw [hst, upd_at, upd_at]; exact ⟨rfl, rfl⟩
        · have hne : st i ≠ pa d := fun z => hi (hinj i h2 z)
          rw [upd_ne hne, upd_ne hne]; exact p1 i (by omega) h2
      · show upd B87 (pa d) (Int32.ofNat np) v = _ ∧ upd B91 (pa d) 0 v = _
        have hne : v ≠ pa d := fun z => hv pos (Nat.le_refl _) hpos (by rw [hst, z])
        rw [upd_ne hne, upd_ne hne]
        exact p2 v (fun i h1 h2 => hv i (by omega) h2)
    | succ m ih =>
      intro j F' B87 B91 hj hF' p1 p2
      obtain ⟨G, rfl⟩ : ∃ G, F' = G + 1 := ⟨F' - 1, by omega⟩
      have hx : hgt - j - 1 < hgt := by omega
      have hsn := (hb1 _ hx).1
      have hne0 : st (hgt - j - 1) ≠ pa d := fun z => by have := hinj _ hx z; omega
      simp only [gloop]
      unfold fX12_leaves_S16
      rw [i32_pred (by omega) (by omega), if_pos (inb_t (by omega) (by omega)), tnc (show hgt - j - 1 < 2 ^ 31 by omega), h90 _ hx, if_pos (inb_t (by omega) (by omega)), if_pos (inb_t (by omega) (by omega)), if_neg (fun z => hne0 ((i32_eq (by omega) (by omega)).mp z)), tnc (show st (hgt - j - 1) < 2 ^ 31 by omega)]
      have := ih (j + 1) G (upd B87 (st (hgt - j - 1)) (Int32.ofNat np)) (upd B91 (st (hgt - j - 1)) 0) (by omega) (by omega) (fun i h1 h2 => by
        by_cases hi : i = hgt - j - 1
        · subst hi; rw [upd_at, upd_at]; exact ⟨rfl, rfl⟩
        · have hne : st i ≠ st (hgt - j - 1) := fun z => hi (hsinj _ _ h2 hx z)
          rw [upd_ne hne, upd_ne hne]; exact p1 i (by omega) h2) (fun v hv => by
        have hne : v ≠ st (hgt - j - 1) := fun z => hv (hgt - j - 1) (by omega) hx z.symm
        rw [upd_ne hne, upd_ne hne]
        exact p2 v (fun i h1 h2 => hv i (by omega) h2))
      rw [show hgt - (j + 1) = hgt - j - 1 by omega] at this
      exact this
  obtain ⟨q, e1, q1, q2, q3⟩ := key (hgt - pos - 1) 0 F A87 A91 (by omega) (by omega) (fun i h1 h2 => by omega) (fun v _ => ⟨rfl, rfl⟩)
  rw [Nat.sub_zero] at e1
  rw [e1]
  simp only [Option.bind_some]
  rw [q1, i32_succ]
  exact ⟨_, _, rfl, q2, q3⟩
end CLO
