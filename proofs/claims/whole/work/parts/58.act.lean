/-! part 58: one act: what comes of it, on the class's state -/
def sePos (k : Nat) : Nat := 24 + 2 * (7 - k)
def pkPos (k : Nat) : Nat := 8 + 2 * (7 - k)
def ltPos (l : Nat) : Nat := 2 * (3 - l)
def clrTo (c : Int64) : Nat → Int64
  | 0 => c
  | k + 1 => pt (clrTo c k) (sePos k) 2 0
def kOf (c : Int64) : Nat := 2 * dg c 47 2 + dg c 46 1
def dlv (c : Int64) (k : Nat) : Int64 × Nat :=
  let d := clrTo (pt c 40 2 (k / 2)) 8
  if k = kOf c then (if dg c 42 1 = 1 then (d, 3) else (pt d 42 1 1, 1)) else (d, 2)
def arr (cop : Nat) (c : Int64) (k : Nat) : Int64 × Nat :=
  let d := pt c (pkPos k) 2 (dg c (pkPos k) 2 - 1)
  if k / 2 = dg c 40 2 then (d, 0) else if cop ≤ dg c (sePos k) 2 + 1 then dlv d k else (pt d (sePos k) 2 (dg c (sePos k) 2 + 1), 0)
def snd4 (c : Int64) (a b n t : Nat) : Int64 := pt (pt (pt (pt c 47 2 a) 46 1 b) 43 3 n) 42 1 t
/-- the state after an act, what comes of it, and whether something is lost -/
def stp (cap lab ack cop : Nat) (c : Int64) (w k told : Nat) : Int64 × Nat × Nat :=
  if w = 0 then (if pkSum c < cap then (pt c (pkPos (kOf c)) 2 (dg c (pkPos (kOf c)) 2 + 1), 0, 0) else (c, 0, 1))
  else if w = 1 then (if ltSum c < cap then (pt (arr cop c k).1 (ltPos (k / 2)) 2 (dg c (ltPos (k / 2)) 2 + 1), (arr cop c k).2, 0) else ((arr cop c k).1, (arr cop c k).2, 1))
  else if w = 2 then
    (if dg c 47 2 = k / 2 then
      (if ack ≤ dg c 43 3 + 1 then (snd4 (pt c (ltPos (k / 2)) 2 (dg c (ltPos (k / 2)) 2 - 1)) (if k / 2 + 1 < lab then k / 2 + 1 else 0) told 0 0, (if dg c 42 1 = 1 then 4 else 5), 0)
       else (pt (pt c (ltPos (k / 2)) 2 (dg c (ltPos (k / 2)) 2 - 1)) 43 3 (dg c 43 3 + 1), 0, 0))
     else (pt c (ltPos (k / 2)) 2 (dg c (ltPos (k / 2)) 2 - 1), 0, 0))
  else if w = 3 then (pt c (pkPos k) 2 (dg c (pkPos k) 2 - 1), 0, 1)
  else (pt c (ltPos (k / 2)) 2 (dg c (ltPos (k / 2)) 2 - 1), 0, 1)
/-- an act that is there: which and of what kind -/
def there (lab : Nat) (c : Int64) (w k : Nat) : Prop :=
  (w = 0 ∧ k = 0) ∨ ((w = 1 ∨ w = 3) ∧ k < 2 * lab ∧ 1 ≤ dg c (pkPos k) 2) ∨ ((w = 2 ∨ w = 4) ∧ k % 2 = 0 ∧ k / 2 < lab ∧ 1 ≤ dg c (ltPos (k / 2)) 2)
theorem pt_ne (c : Int64) {n w v n' w' : Nat} (hn : n + w ≤ 64) (hn2 : n < 64) (hw : w = 1 ∨ w = 2 ∨ w = 3) (hv : v < 2 ^ w) (hn' : n' + w' ≤ 64) (hd : n' + w' ≤ n ∨ n + w ≤ n') : dg (pt c n w v) n' w' = dg c n' w' := put_dg_ne (pt_put c hn hn2 hw hv) hn' hd
theorem bt_pt (c : Int64) {n w v i : Nat} (hn : n + w ≤ 64) (hn2 : n < 64) (hw : w = 1 ∨ w = 2 ∨ w = 3) (hv : v < 2 ^ w) (hi : i < 64) : bt (pt c n w v) i = if n ≤ i ∧ i < n + w then v.testBit (i - n) else bt c i := pt_put c hn hn2 hw hv i hi
theorem clr_bits (c : Int64) : ∀ k, k ≤ 8 → ∀ i, i < 64 → bt (clrTo c k) i = if 24 + 2 * (8 - k) ≤ i ∧ i < 40 then false else bt c i := by
  intro k
  induction k with
  | zero =>
    intro _ i hi
    rw [if_neg (by omega)]; rfl
  | succ k ih =>
    intro hk i hi
    show bt (pt (clrTo c k) (sePos k) 2 0) i = _
    rw [bt_pt _ (by unfold sePos; omega) (by unfold sePos; omega) (by decide) (by decide) hi, ih (by omega) i hi]
    unfold sePos
    by_cases h1 : 24 + 2 * (7 - k) ≤ i ∧ i < 24 + 2 * (7 - k) + 2
    · rw [if_pos h1, if_pos (by omega)]
      exact Nat.zero_testBit _
    · rw [if_neg h1]
      by_cases h2 : 24 + 2 * (8 - k) ≤ i ∧ i < 40
      · rw [if_pos h2, if_pos (by omega)]
      · rw [if_neg h2, if_neg (by omega)]
theorem clr_dg (c : Int64) {k n w : Nat} (hk : k ≤ 8) (hn : n + w ≤ 64) (hd : n + w ≤ 24 ∨ 40 ≤ n) : dg (clrTo c k) n w = dg c n w := by
  apply Nat.eq_of_testBit_eq
  intro i
  rw [dg_bit, dg_bit]
  by_cases hi : i < w
  · rw [clr_bits c k hk _ (by omega), if_neg (by omega)]
  · simp [hi]
/-- the kind that is sent: three bits in a row -/
theorem kOf_3 (c : Int64) : dg c 46 3 = kOf c := by
  unfold kOf
  apply Nat.eq_of_testBit_eq
  intro i
  have e : 2 * dg c 47 2 + dg c 46 1 = 2 ^ 1 * dg c 47 2 + dg c 46 1 := by omega
  rw [e, Nat.testBit_two_pow_mul_add _ (dg_lt c 46 1), dg_bit]
  by_cases h0 : i < 1
  · rw [if_pos h0, dg_bit]
    have : i < 3 := by omega
    simp [h0, this]
  · rw [if_neg h0, dg_bit]
    by_cases h3 : i < 3
    · have : i - 1 < 2 := by omega
      rw [show 47 + (i - 1) = 46 + i by omega]
      simp [h3, this]
    · have : ¬ i - 1 < 2 := by omega
      simp [h3, this]
theorem kOf_lt (c : Int64) : kOf c < 8 := by rw [← kOf_3]; exact dg_lt c 46 3
theorem kOf_half (c : Int64) : kOf c / 2 = dg c 47 2 := by
  have := dg_lt c 46 1
  unfold kOf; omega
/-- states keep to their 49 bits -/
def Hz (c : Int64) : Prop := ∀ i, 49 ≤ i → bt c i = false
theorem Sx.hz {c m : Int64} (h : Sx c m) : Hz c := h.2.1
theorem pt_hz {c : Int64} (h : Hz c) {n w v : Nat} (hn : n + w ≤ 49) (hw : w = 1 ∨ w = 2 ∨ w = 3) (hv : v < 2 ^ w) : Hz (pt c n w v) := by
  intro i hi
  by_cases h64 : i < 64
  · rw [bt_pt c (by omega) (by omega) hw hv h64, if_neg (by omega)]
    exact h i hi
  · exact bt_big _ (by omega)
/-! packets and letters after puts elsewhere -/
theorem pkSum_pt (c : Int64) {n w v : Nat} (hn : n + w ≤ 64) (hn2 : n < 64) (hw : w = 1 ∨ w = 2 ∨ w = 3) (hv : v < 2 ^ w) (hd : n + w ≤ 8 ∨ 24 ≤ n) : pkSum (pt c n w v) = pkSum c := pkSum_ne (pt_put c hn hn2 hw hv) hd
theorem ltSum_pt (c : Int64) {n w v : Nat} (hn : n + w ≤ 64) (hn2 : n < 64) (hw : w = 1 ∨ w = 2 ∨ w = 3) (hv : v < 2 ^ w) (hd : 8 ≤ n) : ltSum (pt c n w v) = ltSum c := ltSum_ne (pt_put c hn hn2 hw hv) hd
theorem pkSum_clr (c : Int64) : pkSum (clrTo c 8) = pkSum c := sumTo_congr 8 (fun j hj => clr_dg c (by omega) (by omega) (by omega))
theorem ltSum_clr (c : Int64) : ltSum (clrTo c 8) = ltSum c := sumTo_congr 4 (fun j hj => clr_dg c (by omega) (by omega) (by omega))
theorem dlv_sums (c : Int64) {k : Nat} (hk : k < 8) : pkSum (dlv c k).1 = pkSum c ∧ ltSum (dlv c k).1 = ltSum c := by
  have e1 : pkSum (clrTo (pt c 40 2 (k / 2)) 8) = pkSum c := by rw [pkSum_clr, pkSum_pt c (by decide) (by decide) (by decide) (by omega) (by omega)]
  have e2 : ltSum (clrTo (pt c 40 2 (k / 2)) 8) = ltSum c := by rw [ltSum_clr, ltSum_pt c (by decide) (by decide) (by decide) (by omega) (by omega)]
  unfold dlv
  by_cases h1 : k = kOf c
  · rw [if_pos h1]
    by_cases h2 : dg c 42 1 = 1
    · rw [if_pos h2]; exact ⟨e1, e2⟩
    · rw [if_neg h2]
      exact ⟨by rw [pkSum_pt _ (by decide) (by decide) (by decide) (by decide) (by omega)]; exact e1, by rw [ltSum_pt _ (by decide) (by decide) (by decide) (by decide) (by omega)]; exact e2⟩
  · rw [if_neg h1]; exact ⟨e1, e2⟩
theorem arr_sums (cop : Nat) {c : Int64} {k : Nat} (hk : k < 8) (h1 : 1 ≤ dg c (pkPos k) 2) (hc : cop ≤ 4) : pkSum (arr cop c k).1 + 1 = pkSum c ∧ ltSum (arr cop c k).1 = ltSum c := by
  have hle := dg2_le c (pkPos k)
  have hp : IsPut c (pt c (pkPos k) 2 (dg c (pkPos k) 2 - 1)) (pkPos k) 2 (dg c (pkPos k) 2 - 1) := pt2 c (by unfold pkPos; omega) (by omega)
  have e1 : pkSum (pt c (pkPos k) 2 (dg c (pkPos k) 2 - 1)) + 1 = pkSum c := by
    have := pkSum_put hk (by omega) hp
    unfold pkPos at this h1 ⊢
    omega
  have e2 : ltSum (pt c (pkPos k) 2 (dg c (pkPos k) 2 - 1)) = ltSum c := ltSum_ne hp (by unfold pkPos; omega)
  unfold arr
  by_cases h2 : k / 2 = dg c 40 2
  · rw [if_pos h2]; exact ⟨e1, e2⟩
  · rw [if_neg h2]
    by_cases h3 : cop ≤ dg c (sePos k) 2 + 1
    · rw [if_pos h3]
      have := dlv_sums (pt c (pkPos k) 2 (dg c (pkPos k) 2 - 1)) hk
      exact ⟨by rw [this.1]; exact e1, by rw [this.2]; exact e2⟩
    · rw [if_neg h3]
      exact ⟨by rw [pkSum_pt _ (by unfold sePos; omega) (by unfold sePos; omega) (by decide) (by omega) (by unfold sePos; omega)]; exact e1, by rw [ltSum_pt _ (by unfold sePos; omega) (by unfold sePos; omega) (by decide) (by omega) (by unfold sePos; omega)]; exact e2⟩
theorem dg_le_pk (c : Int64) {k : Nat} (hk : k < 8) : dg c (pkPos k) 2 ≤ pkSum c := sumTo_ge (g := fun k => dg c (8 + 2 * (7 - k)) 2) 8 hk
theorem dg_le_lt (c : Int64) {k : Nat} (hk : k < 4) : dg c (ltPos k) 2 ≤ ltSum c := sumTo_ge (g := fun k => dg c (2 * (3 - k)) 2) 4 hk
/-- an act keeps to the room of the channels -/
theorem stp_lg {cap lab ack cop : Nat} {c : Int64} {w k told : Nat} (hcap : cap ≤ 2) (hlab : lab ≤ 4) (hack : ack ≤ 7) (hcop : cop ≤ 4) (hL : Lg cap c) (ht : there lab c w k) (hto : told < 2) : Lg cap (stp cap lab ack cop c w k told).1 := by
  obtain ⟨hL1, hL2⟩ := hL
  have upP : ∀ {k : Nat}, k < 8 → pkSum c < cap → Lg cap (pt c (pkPos k) 2 (dg c (pkPos k) 2 + 1)) := by
    intro k hk h
    have hd := dg_le_pk c hk
    have hp : IsPut c (pt c (pkPos k) 2 (dg c (pkPos k) 2 + 1)) (pkPos k) 2 (dg c (pkPos k) 2 + 1) := pt2 c (by unfold pkPos; omega) (by omega)
    have h1 := pkSum_put hk (by omega) hp
    have h2 := ltSum_ne hp (by unfold pkPos; omega)
    unfold pkPos at h1 h2 hd ⊢
    exact ⟨by omega, by omega⟩
  have downP : ∀ {k : Nat}, k < 8 → 1 ≤ dg c (pkPos k) 2 → Lg cap (pt c (pkPos k) 2 (dg c (pkPos k) 2 - 1)) := by
    intro k hk h
    have hd := dg_le_pk c hk
    have hp : IsPut c (pt c (pkPos k) 2 (dg c (pkPos k) 2 - 1)) (pkPos k) 2 (dg c (pkPos k) 2 - 1) := pt2 c (by unfold pkPos; omega) (by omega)
    have h1 := pkSum_put hk (by omega) hp
    have h2 := ltSum_ne hp (by unfold pkPos; omega)
    unfold pkPos at h h1 h2 hd ⊢
    exact ⟨by omega, by omega⟩
  have downL : ∀ {l : Nat}, l < 4 → 1 ≤ dg c (ltPos l) 2 → Lg cap (pt c (ltPos l) 2 (dg c (ltPos l) 2 - 1)) := by
    intro l hk h
    have hd := dg_le_lt c hk
    have hp : IsPut c (pt c (ltPos l) 2 (dg c (ltPos l) 2 - 1)) (ltPos l) 2 (dg c (ltPos l) 2 - 1) := pt2 c (by unfold ltPos; omega) (by omega)
    have h1 := ltSum_put hk (by omega) hp
    have h2 := pkSum_ne hp (by unfold ltPos; omega)
    unfold ltPos at h h1 h2 hd ⊢
    exact ⟨by omega, by omega⟩
  have far : ∀ {x : Int64} {n w v : Nat}, Lg cap x → n + w ≤ 64 → n < 64 → (w = 1 ∨ w = 2 ∨ w = 3) → v < 2 ^ w → 24 ≤ n → Lg cap (pt x n w v) := by
    intro x n w v hx h1 h2 h3 h4 h5
    refine ⟨?_, ?_⟩
    · rw [pkSum_pt x h1 h2 h3 h4 (by omega)]; exact hx.1
    · rw [ltSum_pt x h1 h2 h3 h4 (by omega)]; exact hx.2
  unfold stp
  rcases ht with ⟨h, _⟩ | ⟨h | h, h1, h2⟩ | ⟨h | h, h0, h1, h2⟩
  · rw [if_pos h]
    by_cases hc : pkSum c < cap
    · rw [if_pos hc]; exact upP (kOf_lt c) hc
    · rw [if_neg hc]; exact ⟨hL1, hL2⟩
  · subst h
    rw [if_neg (by decide), if_pos rfl]
    have ha := arr_sums cop (c := c) (k := k) (by omega) h2 hcop
    by_cases hc : ltSum c < cap
    · rw [if_pos hc]
      have hk4 : k / 2 < 4 := by omega
      have hd := dg_le_lt c hk4
      have hd2 : dg (arr cop c k).1 (ltPos (k / 2)) 2 ≤ ltSum (arr cop c k).1 := dg_le_lt _ hk4
      have hp : IsPut (arr cop c k).1 (pt (arr cop c k).1 (ltPos (k / 2)) 2 (dg c (ltPos (k / 2)) 2 + 1)) (ltPos (k / 2)) 2 (dg c (ltPos (k / 2)) 2 + 1) := pt2 _ (by unfold ltPos; omega) (by omega)
      have h3 := ltSum_put hk4 (by omega) hp
      have h4 := pkSum_ne hp (by unfold ltPos; omega)
      refine ⟨by rw [h4]; omega, ?_⟩
      show ltSum (pt (arr cop c k).1 (ltPos (k / 2)) 2 (dg c (ltPos (k / 2)) 2 + 1)) ≤ cap
      have e : dg (arr cop c k).1 (ltPos (k / 2)) 2 = dg c (ltPos (k / 2)) 2 := by
        unfold arr
        have e0 : dg (pt c (pkPos k) 2 (dg c (pkPos k) 2 - 1)) (ltPos (k / 2)) 2 = dg c (ltPos (k / 2)) 2 := pt_ne c (by unfold pkPos; omega) (by unfold pkPos; omega) (by decide) (by have := dg2_le c (pkPos k); omega) (by unfold ltPos; omega) (by unfold ltPos pkPos; omega)
        by_cases h5 : k / 2 = dg c 40 2
        · rw [if_pos h5]; exact e0
        · rw [if_neg h5]
          by_cases h6 : cop ≤ dg c (sePos k) 2 + 1
          · rw [if_pos h6]
            have e7 : ∀ x : Int64, dg (clrTo (pt x 40 2 (k / 2)) 8) (ltPos (k / 2)) 2 = dg x (ltPos (k / 2)) 2 := by
              intro x
              rw [clr_dg _ (by omega) (by unfold ltPos; omega) (by unfold ltPos; omega), pt_ne x (by decide) (by decide) (by decide) (by omega) (by unfold ltPos; omega) (by unfold ltPos; omega)]
            unfold dlv
            by_cases h7 : k = kOf (pt c (pkPos k) 2 (dg c (pkPos k) 2 - 1))
            · rw [if_pos h7]
              by_cases h8 : dg (pt c (pkPos k) 2 (dg c (pkPos k) 2 - 1)) 42 1 = 1
              · rw [if_pos h8]
                show dg (clrTo _ 8) _ 2 = _
                rw [e7]; exact e0
              · rw [if_neg h8]
                show dg (pt (clrTo _ 8) 42 1 1) _ 2 = _
                rw [pt_ne _ (by decide) (by decide) (by decide) (by decide) (by unfold ltPos; omega) (by unfold ltPos; omega), e7]; exact e0
            · rw [if_neg h7]
              show dg (clrTo _ 8) _ 2 = _
              rw [e7]; exact e0
          · rw [if_neg h6]
            show dg (pt _ (sePos k) 2 _) _ 2 = _
            rw [pt_ne _ (by unfold sePos; omega) (by unfold sePos; omega) (by decide) (by omega) (by unfold ltPos; omega) (by unfold ltPos sePos; omega)]; exact e0
      unfold ltPos at h3 hd e ⊢
      omega
    · rw [if_neg hc]
      exact ⟨by show pkSum (arr cop c k).1 ≤ cap; omega, by show ltSum (arr cop c k).1 ≤ cap; omega⟩
  · subst h
    rw [if_neg (by decide), if_neg (by decide), if_neg (by decide), if_pos rfl]
    exact downP (by omega) h2
  · subst h
    rw [if_neg (by decide), if_neg (by decide), if_pos rfl]
    have hx := downL (l := k / 2) (by omega) h2
    by_cases h3 : dg c 47 2 = k / 2
    · rw [if_pos h3]
      by_cases h4 : ack ≤ dg c 43 3 + 1
      · rw [if_pos h4]
        have hl : (if k / 2 + 1 < lab then k / 2 + 1 else 0) < 4 := by split <;> omega
        exact far (far (far (far hx (by decide) (by decide) (by decide) hl (by decide)) (by decide) (by decide) (by decide) (by omega) (by decide)) (by decide) (by decide) (by decide) (by decide) (by decide)) (by decide) (by decide) (by decide) (by decide) (by decide)
      · rw [if_neg h4]
        exact far hx (by decide) (by decide) (by decide) (by omega) (by decide)
    · rw [if_neg h3]; exact hx
  · subst h
    rw [if_neg (by decide), if_neg (by decide), if_neg (by decide), if_neg (by decide)]
    exact downL (by omega) h2
