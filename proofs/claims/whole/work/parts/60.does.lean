/-! part 60: the reference's act -/
section P60
variable {c m : Int64}
theorem mg_pk (h : Sx c m) {k : Nat} (hk : k < 8) : fX12_get m (Int32.ofNat (25 + 2 * k)) 2 = Int32.ofNat (dg c (pkPos k) 2) := by
  rw [show fX12_get m (Int32.ofNat (25 + 2 * k)) 2 = Int32.ofNat (dg m (25 + 2 * k) 2) from fX12_get_dg m (w := 2) (by omega) (by omega) (by decide), h.dg (blk_packets ⟨k, hk⟩)]
  rfl
theorem mg_se (h : Sx c m) {k : Nat} (hk : k < 8) : fX12_get m (Int32.ofNat (9 + 2 * k)) 2 = Int32.ofNat (dg c (sePos k) 2) := by
  rw [show fX12_get m (Int32.ofNat (9 + 2 * k)) 2 = Int32.ofNat (dg m (9 + 2 * k) 2) from fX12_get_dg m (w := 2) (by omega) (by omega) (by decide), h.dg (blk_seen ⟨k, hk⟩)]
  rfl
theorem mg_lt (h : Sx c m) {k : Nat} (hk : k < 4) : fX12_get m (Int32.ofNat (41 + 2 * k)) 2 = Int32.ofNat (dg c (ltPos k) 2) := by
  rw [show fX12_get m (Int32.ofNat (41 + 2 * k)) 2 = Int32.ofNat (dg m (41 + 2 * k) 2) from fX12_get_dg m (w := 2) (by omega) (by omega) (by decide), h.dg (blk_letters ⟨k, hk⟩)]
  rfl
theorem mg_lb (h : Sx c m) : fX12_get m 0 2 = Int32.ofNat (dg c 47 2) := by
  rw [show fX12_get m 0 2 = Int32.ofNat (dg m 0 2) from fX12_get_dg m (n := 0) (w := 2) (by decide) (by decide) (by decide), h.dg blk_label]
theorem mg_vl (h : Sx c m) : fX12_get m 2 1 = Int32.ofNat (dg c 46 1) := by
  rw [show fX12_get m 2 1 = Int32.ofNat (dg m 2 1) from fX12_get_dg m (n := 2) (w := 1) (by decide) (by decide) (by decide), h.dg blk_value]
theorem mg_ak (h : Sx c m) : fX12_get m 3 3 = Int32.ofNat (dg c 43 3) := by
  rw [show fX12_get m 3 3 = Int32.ofNat (dg m 3 3) from fX12_get_dg m (n := 3) (w := 3) (by decide) (by decide) (by decide), h.dg blk_acks]
theorem mg_tk (h : Sx c m) : fX12_get m 6 1 = Int32.ofNat (dg c 42 1) := by
  rw [show fX12_get m 6 1 = Int32.ofNat (dg m 6 1) from fX12_get_dg m (n := 6) (w := 1) (by decide) (by decide) (by decide), h.dg blk_taken]
theorem mg_ls (h : Sx c m) : fX12_get m 7 2 = Int32.ofNat (dg c 40 2) := by
  rw [show fX12_get m 7 2 = Int32.ofNat (dg m 7 2) from fX12_get_dg m (n := 7) (w := 2) (by decide) (by decide) (by decide), h.dg blk_last]
theorem mp_pk (h : Sx c m) {k v : Nat} (hk : k < 8) (hv : v < 4) : Sx (pt c (pkPos k) 2 v) (fX12_put m (Int32.ofNat (25 + 2 * k)) 2 (Int32.ofNat v)) := h.put (blk_packets ⟨k, hk⟩) (pt2 c (by unfold pkPos; omega) hv) (fX12_put_put m (w := 2) (by omega) (by omega) (by decide) hv)
theorem mp_se (h : Sx c m) {k v : Nat} (hk : k < 8) (hv : v < 4) : Sx (pt c (sePos k) 2 v) (fX12_put m (Int32.ofNat (9 + 2 * k)) 2 (Int32.ofNat v)) := h.put (blk_seen ⟨k, hk⟩) (pt2 c (by unfold sePos; omega) hv) (fX12_put_put m (w := 2) (by omega) (by omega) (by decide) hv)
theorem mp_lt (h : Sx c m) {k v : Nat} (hk : k < 4) (hv : v < 4) : Sx (pt c (ltPos k) 2 v) (fX12_put m (Int32.ofNat (41 + 2 * k)) 2 (Int32.ofNat v)) := h.put (blk_letters ⟨k, hk⟩) (pt2 c (by unfold ltPos; omega) hv) (fX12_put_put m (w := 2) (by omega) (by omega) (by decide) hv)
theorem mp_lb (h : Sx c m) {v : Nat} (hv : v < 4) : Sx (pt c 47 2 v) (fX12_put m 0 2 (Int32.ofNat v)) := h.put blk_label (pt2 c (by decide) hv) (fX12_put_put m (n := 0) (w := 2) (by decide) (by decide) (by decide) hv)
theorem mp_vl (h : Sx c m) {v : Nat} (hv : v < 2) : Sx (pt c 46 1 v) (fX12_put m 2 1 (Int32.ofNat v)) := h.put blk_value (pt_put c (by decide) (by decide) (by decide) hv) (fX12_put_put m (n := 2) (w := 1) (by decide) (by decide) (by decide) hv)
theorem mp_ak (h : Sx c m) {v : Nat} (hv : v < 8) : Sx (pt c 43 3 v) (fX12_put m 3 3 (Int32.ofNat v)) := h.put blk_acks (pt_put c (by decide) (by decide) (by decide) hv) (fX12_put_put m (n := 3) (w := 3) (by decide) (by decide) (by decide) hv)
theorem mp_tk (h : Sx c m) {v : Nat} (hv : v < 2) : Sx (pt c 42 1 v) (fX12_put m 6 1 (Int32.ofNat v)) := h.put blk_taken (pt_put c (by decide) (by decide) (by decide) hv) (fX12_put_put m (n := 6) (w := 1) (by decide) (by decide) (by decide) hv)
theorem mp_ls (h : Sx c m) {v : Nat} (hv : v < 4) : Sx (pt c 40 2 v) (fX12_put m 7 2 (Int32.ofNat v)) := h.put blk_last (pt2 c (by decide) hv) (fX12_put_put m (n := 7) (w := 2) (by decide) (by decide) (by decide) hv)
theorem i32_succ (a : Nat) : Int32.ofNat a + 1 = Int32.ofNat (a + 1) := i32_add a 1
theorem i32_down {v : Nat} (h : 1 ≤ v) : Int32.ofNat v + (-1) = Int32.ofNat (v - 1) := by
  obtain ⟨k, rfl⟩ : ∃ k, v = k + 1 := ⟨v - 1, by omega⟩
  rw [Nat.add_sub_cancel, ← i32_add, Int32.add_assoc, show Int32.ofNat 1 + (-1 : Int32) = 0 from rfl, Int32.add_zero]
theorem mo_pk (h : Sx c m) {k : Nat} (hk : k < 8) (hd : 1 ≤ dg c (pkPos k) 2) : Sx (pt c (pkPos k) 2 (dg c (pkPos k) 2 - 1)) (fX12_more m (Int32.ofNat (25 + 2 * k)) (-1)) := by
  unfold fX12_more
  have := dg2_le c (pkPos k)
  rw [mg_pk h hk, i32_down hd]
  exact mp_pk h hk (by omega)
theorem mo_lt (h : Sx c m) {k : Nat} (hk : k < 4) (hd : 1 ≤ dg c (ltPos k) 2) : Sx (pt c (ltPos k) 2 (dg c (ltPos k) 2 - 1)) (fX12_more m (Int32.ofNat (41 + 2 * k)) (-1)) := by
  unfold fX12_more
  have := dg2_le c (ltPos k)
  rw [mg_lt h hk, i32_down hd]
  exact mp_lt h hk (by omega)
theorem mi_pk (h : Sx c m) {k : Nat} (hk : k < 8) (hd : dg c (pkPos k) 2 + 1 < 4) : Sx (pt c (pkPos k) 2 (dg c (pkPos k) 2 + 1)) (fX12_more m (Int32.ofNat (25 + 2 * k)) 1) := by
  unfold fX12_more
  rw [mg_pk h hk, i32_succ]
  exact mp_pk h hk hd
theorem mi_lt (h : Sx c m) {k : Nat} (hk : k < 4) (hd : dg c (ltPos k) 2 + 1 < 4) : Sx (pt c (ltPos k) 2 (dg c (ltPos k) 2 + 1)) (fX12_more m (Int32.ofNat (41 + 2 * k)) 1) := by
  unfold fX12_more
  rw [mg_lt h hk, i32_succ]
  exact mp_lt h hk hd
theorem pAt_k {k : Nat} (hk : k < 8) : fX12_packetAt (Int32.ofNat (k / 2)) (Int32.ofNat (k % 2)) = Int32.ofNat (25 + 2 * k) := by
  rw [show fX12_packetAt (Int32.ofNat (k / 2)) (Int32.ofNat (k % 2)) = Int32.ofNat (25 + 2 * (2 * (k / 2) + k % 2)) from packetAt_m ⟨k / 2, by omega⟩ ⟨k % 2, by omega⟩]
  rw [show 2 * (k / 2) + k % 2 = k by omega]
theorem sAt_k {k : Nat} (hk : k < 8) : fX12_seenAt (Int32.ofNat (k / 2)) (Int32.ofNat (k % 2)) = Int32.ofNat (9 + 2 * k) := by
  rw [show fX12_seenAt (Int32.ofNat (k / 2)) (Int32.ofNat (k % 2)) = Int32.ofNat (9 + 2 * (2 * (k / 2) + k % 2)) from seenAt_m ⟨k / 2, by omega⟩ ⟨k % 2, by omega⟩]
  rw [show 2 * (k / 2) + k % 2 = k by omega]
theorem lAt_k {l : Nat} (hl : l < 4) : fX12_letterAt (Int32.ofNat l) = Int32.ofNat (41 + 2 * l) := letterAt_m ⟨l, hl⟩
def mclr (m : Int64) : Nat → Int64
  | 0 => m
  | k + 1 => fX12_put (mclr m k) (Int32.ofNat (9 + 2 * k)) 2 0
theorem mclr_sx (h : Sx c m) : ∀ k, k ≤ 8 → Sx (clrTo c k) (mclr m k) := by
  intro k
  induction k with
  | zero => intro _; exact h
  | succ k ih => intro hk; exact mp_se (ih (by omega)) (by omega) (v := 0) (by decide)
theorem sees_eq {cop k : Nat} (hcop : cop ≤ 4) (h : Sx c m) (hk : k < 8) {F : Nat} (hF : 9 ≤ F) : ∃ m', fX12_sees F (Int32.ofNat cop) m 0 (Int32.ofNat (k / 2)) (Int32.ofNat (k % 2)) = some (m', Int32.ofNat (if cop ≤ dg c (sePos k) 2 + 1 then (dlv c k).2 else 0)) ∧ Sx (if cop ≤ dg c (sePos k) 2 + 1 then (dlv c k).1 else pt c (sePos k) 2 (dg c (sePos k) 2 + 1)) m' := by
  have hd := dg2_le c (sePos k)
  unfold fX12_sees
  rw [sAt_k hk, mg_se h hk, i32_succ]
  by_cases h3 : cop ≤ dg c (sePos k) 2 + 1
  · rw [if_pos ((i32_le (by omega) (by omega)).mpr h3), if_pos h3, if_pos h3]
    have hl := mp_ls h (v := k / 2) (by omega)
    have hc := mclr_sx hl 8 (by decide)
    have hloop : gloop (fun u6 : (Int32 × Int64) => fX12_sees_S61 F (Int32.ofNat cop) (Int32.ofNat (k / 2)) (Int32.ofNat (k % 2)) 0 u6.1 u6.2) F (0, fX12_put m 7 2 (Int32.ofNat (k / 2))) = some (mclr (fX12_put m 7 2 (Int32.ofNat (k / 2))) 8) := by
      refine gl_for 8 (fun i => (Int32.ofNat i, mclr (fX12_put m 7 2 (Int32.ofNat (k / 2))) i)) (fun i hi => ?_) ?_ hF
      · show fX12_sees_S61 F _ _ _ _ (Int32.ofNat i) _ = _
        unfold fX12_sees_S61
        rw [if_neg (fun z => by have := (i32_le (a := 8) (by decide) (by omega)).mp z; omega), show (9 : Int32) + 2 * Int32.ofNat i = Int32.ofNat (9 + 2 * i) by rw [show (9 : Int32) = Int32.ofNat 9 from rfl, show (2 : Int32) = Int32.ofNat 2 from rfl, i32_mul, i32_add], i32_succ]
        rfl
      · show fX12_sees_S61 F _ _ _ _ (Int32.ofNat 8) _ = _
        unfold fX12_sees_S61
        rw [if_pos (show (8 : Int32) ≤ Int32.ofNat 8 by decide)]
    rw [hloop]
    simp only [Option.bind_some]
    have e : ∀ n w, n + w ≤ 64 → 42 ≤ n → dg (clrTo (pt c 40 2 (k / 2)) 8) n w = dg c n w := by
      intro n w h1 h2
      rw [clr_dg _ (by omega) h1 (by omega), pt_ne c (by decide) (by decide) (by decide) (by omega) h1 (by omega)]
    rw [mg_lb hc, mg_vl hc, mg_tk hc, e 47 2 (by decide) (by decide), e 46 1 (by decide) (by decide), e 42 1 (by decide) (by decide)]
    have h47 := dg_lt c 47 2
    have h46 := dg_lt c 46 1
    unfold dlv
    by_cases h4 : k = kOf c
    · have e1 : k / 2 = dg c 47 2 := by unfold kOf at h4; omega
      have e2 : k % 2 = dg c 46 1 := by unfold kOf at h4; omega
      rw [if_pos (show Int32.ofNat (k / 2) = Int32.ofNat (dg c 47 2) by rw [e1]), if_pos (show Int32.ofNat (k % 2) = Int32.ofNat (dg c 46 1) by rw [e2]), if_pos h4]
      by_cases h5 : dg c 42 1 = 1
      · rw [if_pos (show Int32.ofNat (dg c 42 1) = 1 by rw [h5]; rfl), if_pos h5]
        exact ⟨_, rfl, hc⟩
      · have h6 : dg c 42 1 = 0 := by rcases dg1 c 42 with h | h; exact h; exact absurd h h5
        rw [if_neg (show ¬ Int32.ofNat (dg c 42 1) = 1 by rw [h6]; decide), if_neg h5]
        exact ⟨_, rfl, mp_tk hc (v := 1) (by decide)⟩
    · rw [if_neg h4]
      by_cases h5 : k / 2 = dg c 47 2
      · have h6 : ¬ k % 2 = dg c 46 1 := fun z => h4 (by unfold kOf; omega)
        rw [if_pos (show Int32.ofNat (k / 2) = Int32.ofNat (dg c 47 2) by rw [h5]), if_neg (fun z => h6 ((i32_eq (by omega) (by omega)).mp z))]
        exact ⟨_, rfl, hc⟩
      · rw [if_neg (fun z => h5 ((i32_eq (by omega) (by omega)).mp z))]
        exact ⟨_, rfl, hc⟩
  · rw [if_neg (fun z => h3 ((i32_le (by omega) (by omega)).mp z)), if_neg h3, if_neg h3]
    exact ⟨_, rfl, mp_se h hk (by omega)⟩
theorem lab_next : ∀ (lab : Fin 5) (l : Fin 4), l.val < lab.val → Int32.ofNat (l.val + 1) - Int32.ofNat (l.val + 1) / Int32.ofNat lab.val * Int32.ofNat lab.val = Int32.ofNat (if l.val + 1 < lab.val then l.val + 1 else 0) := by decide +kernel
/-- what is done and to what: the reference's numbers -/
def args (w k : Nat) (p4 p5 : Int32) : Prop := ((w = 1 ∨ w = 3) → p4 = Int32.ofNat (k / 2) ∧ p5 = Int32.ofNat (k % 2)) ∧ ((w = 2 ∨ w = 4) → p4 = Int32.ofNat (k / 2))
theorem does_eq {cap lab ack cop w k told : Nat} {p4 p5 : Int32} (hcap : cap ≤ 2) (hlab : lab ≤ 4) (hack : ack ≤ 7) (hcop : cop ≤ 4) (h : Sx c m) (hL : Lg cap c) (ht : there lab c w k) (hto : told < 2) (ha : args w k p4 p5) {F : Nat} (hF : 9 ≤ F) (th : Int64) (ou lo : Int32) : ∃ m', fX12_does F (Int32.ofNat cap) (Int32.ofNat lab) (Int32.ofNat cop) (Int32.ofNat ack) th ou lo m (Int32.ofNat w) p4 p5 (Int32.ofNat told) = some (m', Int32.ofNat (stp cap lab ack cop c w k told).2.1, Int32.ofNat (stp cap lab ack cop c w k told).2.2) ∧ Sx (stp cap lab ack cop c w k told).1 m' := by
  have hps := pkSum_le c
  have hls := ltSum_le c
  unfold fX12_does stp
  rcases ht with ⟨hw, _⟩ | ⟨hw | hw, hk, hd⟩ | ⟨hw | hw, h0, hk, hd⟩ <;> subst hw
  · rw [if_pos (show Int32.ofNat 0 = 0 from rfl), if_pos rfl, packetsOf_sum h hF]
    simp only [Option.bind_some]
    by_cases hc : pkSum c < cap
    · rw [if_pos hc, if_neg (fun z => by have := (i32_eq (by omega) (by omega)).mp z; omega)]
      unfold fX12_does_J65
      rw [if_pos (by decide), if_pos rfl, mg_lb h, mg_vl h]
      have e1 : kOf c / 2 = dg c 47 2 := kOf_half c
      have e2 : kOf c % 2 = dg c 46 1 := by have := dg_lt c 46 1; unfold kOf; omega
      rw [← e1, ← e2, pAt_k (kOf_lt c)]
      have hdl := dg_le_pk c (kOf_lt c)
      exact ⟨_, rfl, mi_pk h (kOf_lt c) (by omega)⟩
    · have hL1 := hL.1
      rw [if_neg hc, if_pos ((i32_eq (by omega) (by omega)).mpr (by omega))]
      unfold fX12_does_J65
      rw [if_pos (by decide), if_neg (by decide)]
      exact ⟨_, rfl, h⟩
  · obtain ⟨rfl, rfl⟩ := ha.1 (by decide)
    rw [if_neg (show ¬ Int32.ofNat 1 = 0 by decide), if_pos (show Int32.ofNat 1 = 1 from rfl), if_neg (show ¬ (1 : Nat) = 0 by decide), if_pos (show (1 : Nat) = 1 from rfl), mg_ls h, pAt_k (by omega)]
    have hm := mo_pk h (k := k) (by omega) hd
    have hle := dg2_le c (pkPos k)
    have h40 := dg_lt c 40 2
    have hsum := arr_sums cop (c := c) (k := k) (by omega) hd hcop
    have hJ : ∀ m1 : Int64, Sx (arr cop c k).1 m1 → ∃ m', fX12_does_J136 F (Int32.ofNat cap) (Int32.ofNat lab) (Int32.ofNat cop) (Int32.ofNat ack) (Int32.ofNat (k / 2)) m1 (Int32.ofNat (arr cop c k).2) 0 = some (m', Int32.ofNat (if ltSum c < cap then (pt (arr cop c k).1 (ltPos (k / 2)) 2 (dg c (ltPos (k / 2)) 2 + 1), (arr cop c k).2, 0) else ((arr cop c k).1, (arr cop c k).2, 1)).2.1, Int32.ofNat (if ltSum c < cap then (pt (arr cop c k).1 (ltPos (k / 2)) 2 (dg c (ltPos (k / 2)) 2 + 1), (arr cop c k).2, 0) else ((arr cop c k).1, (arr cop c k).2, 1)).2.2) ∧ Sx (if ltSum c < cap then (pt (arr cop c k).1 (ltPos (k / 2)) 2 (dg c (ltPos (k / 2)) 2 + 1), (arr cop c k).2, 0) else ((arr cop c k).1, (arr cop c k).2, 1)).1 m' := by
      intro m1 hs
      unfold fX12_does_J136
      rw [lettersOf_sum hs (by omega), hsum.2]
      simp only [Option.bind_some]
      by_cases hc : ltSum c < cap
      · rw [if_pos hc, if_neg (fun z => by have := (i32_eq (by omega) (by omega)).mp z; omega)]
        unfold fX12_does_J156
        rw [if_pos (by decide), if_pos rfl, lAt_k (by omega)]
        have e := arr_lt cop c (k := k) (by omega) hcop
        have hdl := dg_le_lt c (k := k / 2) (by omega)
        have := mi_lt hs (k := k / 2) (by omega) (by rw [e]; omega)
        rw [e] at this
        exact ⟨_, rfl, this⟩
      · have hL2 := hL.2
        rw [if_neg hc, if_pos ((i32_eq (by omega) (by omega)).mpr (by omega))]
        unfold fX12_does_J156
        rw [if_pos (by decide), if_neg (by decide)]
        exact ⟨_, rfl, hs⟩
    by_cases h3 : k / 2 = dg c 40 2
    · rw [if_pos (show Int32.ofNat (k / 2) = Int32.ofNat (dg c 40 2) by rw [h3])]
      have e : arr cop c k = (pt c (pkPos k) 2 (dg c (pkPos k) 2 - 1), 0) := by unfold arr; rw [if_pos h3]
      have := hJ (fX12_more m (Int32.ofNat (25 + 2 * k)) (-1)) (by rw [e]; exact hm)
      rw [e] at this ⊢
      exact this
    · rw [if_neg (fun z => h3 ((i32_eq (by omega) (by omega)).mp z))]
      obtain ⟨m1, e1, hs1⟩ := sees_eq (k := k) hcop hm (by omega) hF
      have eS : dg (pt c (pkPos k) 2 (dg c (pkPos k) 2 - 1)) (sePos k) 2 = dg c (sePos k) 2 := pt_ne c (by unfold pkPos; omega) (by unfold pkPos; omega) (by decide) (by omega) (by unfold sePos; omega) (by unfold sePos pkPos; omega)
      rw [eS] at e1 hs1
      rw [e1]
      simp only [Option.bind_some]
      have ea1 : (arr cop c k).1 = (if cop ≤ dg c (sePos k) 2 + 1 then (dlv (pt c (pkPos k) 2 (dg c (pkPos k) 2 - 1)) k).1 else pt (pt c (pkPos k) 2 (dg c (pkPos k) 2 - 1)) (sePos k) 2 (dg c (sePos k) 2 + 1)) := by
        unfold arr
        rw [if_neg h3]
        by_cases h4 : cop ≤ dg c (sePos k) 2 + 1
        · rw [if_pos h4, if_pos h4]
        · rw [if_neg h4, if_neg h4]
      have ea2 : (arr cop c k).2 = (if cop ≤ dg c (sePos k) 2 + 1 then (dlv (pt c (pkPos k) 2 (dg c (pkPos k) 2 - 1)) k).2 else 0) := by
        unfold arr
        rw [if_neg h3]
        by_cases h4 : cop ≤ dg c (sePos k) 2 + 1
        · rw [if_pos h4, if_pos h4]
        · rw [if_neg h4, if_neg h4]
      rw [← ea1] at hs1
      rw [← ea2]
      exact hJ m1 hs1
  · obtain ⟨rfl, rfl⟩ := ha.1 (by decide)
    rw [if_neg (show ¬ Int32.ofNat 3 = 0 by decide), if_neg (show ¬ Int32.ofNat 3 = 1 by decide), if_neg (show ¬ Int32.ofNat 3 = 2 by decide), if_pos (show Int32.ofNat 3 = 3 from rfl), if_neg (show ¬ (3 : Nat) = 0 by decide), if_neg (show ¬ (3 : Nat) = 1 by decide), if_neg (show ¬ (3 : Nat) = 2 by decide), if_pos (show (3 : Nat) = 3 from rfl), pAt_k (by omega)]
    exact ⟨_, rfl, mo_pk h (by omega) hd⟩
  · obtain rfl := ha.2 (by decide)
    rw [if_neg (show ¬ Int32.ofNat 2 = 0 by decide), if_neg (show ¬ Int32.ofNat 2 = 1 by decide), if_pos (show Int32.ofNat 2 = 2 from rfl), if_neg (show ¬ (2 : Nat) = 0 by decide), if_neg (show ¬ (2 : Nat) = 1 by decide), if_pos (show (2 : Nat) = 2 from rfl), mg_lb h, lAt_k (by omega)]
    have hm := mo_lt h (k := k / 2) (by omega) hd
    have hle := dg2_le c (ltPos (k / 2))
    have h47 := dg_lt c 47 2
    have h43 := dg_lt c 43 3
    by_cases h3 : dg c 47 2 = k / 2
    · rw [if_pos (show Int32.ofNat (k / 2) = Int32.ofNat (dg c 47 2) by rw [h3]), if_pos h3]
      have e : ∀ n w, n + w ≤ 64 → 42 ≤ n → dg (pt c (ltPos (k / 2)) 2 (dg c (ltPos (k / 2)) 2 - 1)) n w = dg c n w := by
        intro n w h1 h2
        rw [pt_ne c (by unfold ltPos; omega) (by unfold ltPos; omega) (by decide) (by omega) h1 (by unfold ltPos; omega)]
      unfold fX12_counts1
      rw [mg_ak hm, mg_tk hm, e 43 3 (by decide) (by decide), e 42 1 (by decide) (by decide), i32_succ]
      by_cases h4 : ack ≤ dg c 43 3 + 1
      · rw [if_pos ((i32_le (by omega) (by omega)).mpr h4), if_pos h4]
        have hj : ∀ o : Nat, ∃ m', fX12_counts1_J55 (Int32.ofNat lab) (Int32.ofNat ack) (Int32.ofNat told) (Int32.ofNat o) (fX12_more m (Int32.ofNat (41 + 2 * (k / 2))) (-1)) 0 = some (m', Int32.ofNat o) ∧ Sx (snd4 (pt c (ltPos (k / 2)) 2 (dg c (ltPos (k / 2)) 2 - 1)) (if k / 2 + 1 < lab then k / 2 + 1 else 0) told 0 0) m' := by
          intro o
          unfold fX12_counts1_J55
          rw [if_pos (fun z => by have := (i32_eq (b := 0) (by omega) (by decide)).mp z; omega), mg_lb hm, e 47 2 (by decide) (by decide), h3, i32_succ]
          rw [show Int32.ofNat (k / 2 + 1) - Int32.ofNat (k / 2 + 1) / Int32.ofNat lab * Int32.ofNat lab = Int32.ofNat (if k / 2 + 1 < lab then k / 2 + 1 else 0) from lab_next ⟨lab, by omega⟩ ⟨k / 2, by omega⟩ hk]
          have hl : (if k / 2 + 1 < lab then k / 2 + 1 else 0) < 4 := by split <;> omega
          exact ⟨_, rfl, mp_tk (mp_ak (mp_vl (mp_lb hm hl) hto) (v := 0) (by decide)) (v := 0) (by decide)⟩
        by_cases h5 : dg c 42 1 = 1
        · rw [if_pos (show Int32.ofNat (dg c 42 1) = 1 by rw [h5]; rfl), if_pos h5]
          obtain ⟨m', e1, e2⟩ := hj 4
          rw [show (4 : Int32) = Int32.ofNat 4 from rfl, e1]
          exact ⟨m', rfl, e2⟩
        · have h6 : dg c 42 1 = 0 := by rcases dg1 c 42 with h | h; exact h; exact absurd h h5
          rw [if_neg (show ¬ Int32.ofNat (dg c 42 1) = 1 by rw [h6]; decide), if_neg h5]
          obtain ⟨m', e1, e2⟩ := hj 5
          rw [show (5 : Int32) = Int32.ofNat 5 from rfl, e1]
          exact ⟨m', rfl, e2⟩
      · rw [if_neg (fun z => h4 ((i32_le (by omega) (by omega)).mp z)), if_neg h4]
        exact ⟨_, rfl, mp_ak hm (by omega)⟩
    · rw [if_neg (fun z => h3 ((i32_eq (by omega) (by omega)).mp z).symm), if_neg h3]
      exact ⟨_, rfl, hm⟩
  · obtain rfl := ha.2 (by decide)
    rw [if_neg (show ¬ Int32.ofNat 4 = 0 by decide), if_neg (show ¬ Int32.ofNat 4 = 1 by decide), if_neg (show ¬ Int32.ofNat 4 = 2 by decide), if_neg (show ¬ Int32.ofNat 4 = 3 by decide), if_neg (show ¬ (4 : Nat) = 0 by decide), if_neg (show ¬ (4 : Nat) = 1 by decide), if_neg (show ¬ (4 : Nat) = 2 by decide), if_neg (show ¬ (4 : Nat) = 3 by decide), lAt_k (by omega)]
    exact ⟨_, rfl, mo_lt h (by omega) hd⟩
end P60
