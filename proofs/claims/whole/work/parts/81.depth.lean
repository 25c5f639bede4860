/-! part 81: walking in depth: what holds at each turn -/
def lkd (fs : Nat → Nat) (d : Nat) (pa ne : Nat → Nat) (v e : Nat) : Prop := fs v ≤ e ∧ e < fs (v + 1) ∧ ∀ i, i < d → pa i = v → e < ne i
def valE (tg ot prt W : Nat → Nat) (u e : Nat) : Nat := if prt (tg e) = prt u then (if badO (ot e) = true then 1000000 else 0) else min 1000000 (W (tg e) + (if badO (ot e) = true then 1 else 0))
theorem valE_of {tg ot prt W : Nat → Nat} {u e a b c : Nat} (h1 : prt (tg e) = a) (h2 : prt u = b) (h3 : W (tg e) = c) : valE tg ot prt W u e = if a = b then (if badO (ot e) = true then 1000000 else 0) else min 1000000 (c + (if badO (ot e) = true then 1 else 0)) := by
  subst h1 h2 h3; rfl
def DI (n : Nat) (fs tg ot : Nat → Nat) (clk hgt d np : Nat) (met low st pa ne prt W : Nat → Nat) : Prop :=
  cntN met n = clk ∧ (∀ v, v < n → met v ≤ clk) ∧
  (∀ i, i < hgt → st i < n ∧ met (st i) ≠ 0 ∧ prt (st i) = 0) ∧ (∀ i j, i < j → j < hgt → met (st i) < met (st j)) ∧ (∀ v, v < n → met v ≠ 0 → prt v = 0 → ∃ i, i < hgt ∧ st i = v) ∧ (∀ v, v < n → met v = 0 → prt v = 0) ∧
  (∀ i, i < d → pa i < n ∧ met (pa i) ≠ 0 ∧ prt (pa i) = 0 ∧ fs (pa i) ≤ ne i ∧ ne i ≤ fs (pa i + 1)) ∧ (∀ i j, i < j → j < d → met (pa i) < met (pa j)) ∧ (0 < d → 0 < hgt ∧ pa 0 = st 0) ∧
  (∀ v, v < n → met v ≠ 0 → prt v = 0 → 1 ≤ low v ∧ low v ≤ met v ∧ met (st 0) ≤ low v) ∧
  (∀ v, v < n → met v ≠ 0 → ∀ e, lkd fs d pa ne v e → met (tg e) ≠ 0) ∧
  (∀ v, v < n → met v ≠ 0 → prt v = 0 → ∀ e, lkd fs d pa ne v e → prt (tg e) = 0 → ∀ i, i < d → met (pa i) ≤ met v → (∀ j, i < j → j < d → met v < met (pa j)) → low (pa i) ≤ met (tg e)) ∧
  (∀ v, v < n → prt v ≠ 0 → prt v ≤ np ∧ met v ≠ 0 ∧ W v ≤ 1000000 ∧ ∀ e, fs v ≤ e → e < fs (v + 1) → prt (tg e) ≠ 0 ∧ prt (tg e) ≤ prt v) ∧
  (∀ u v, u < n → v < n → prt u ≠ 0 → prt u = prt v → ∀ e, fs u ≤ e → e < fs (u + 1) → valE tg ot prt W u e ≤ W v) ∧
  (∀ v, v < n → prt v ≠ 0 → W v = 0 ∨ ∃ u e, u < n ∧ fs u ≤ e ∧ e < fs (u + 1) ∧ prt u = prt v ∧ valE tg ot prt W u e = W v) ∧
  np + hgt ≤ clk
section DIS
variable {n : Nat} {fs tg ot : Nat → Nat} {clk hgt d np : Nat} {met low st pa ne prt W : Nat → Nat}
theorem lkd_look {v e' : Nat} (h : lkd fs (d + 1) pa (updN ne d (ne d + 1)) v e') : lkd fs (d + 1) pa ne v e' ∨ (v = pa d ∧ e' = ne d) := by
  obtain ⟨h1, h2, h3⟩ := h
  by_cases hc : v = pa d ∧ e' = ne d
  · exact Or.inr hc
  · refine Or.inl ⟨h1, h2, fun i hi hp => ?_⟩
    have := h3 i hi hp
    by_cases hid : i = d
    · subst hid
      rw [updN_at] at this
      have hne : e' ≠ ne i := fun z => hc ⟨hp.symm, z⟩
      omega
    · rw [updN_ne hid] at this; exact this
/-- an edge to a closed state -/
theorem di_look (H : DI n fs tg ot clk hgt (d + 1) np met low st pa ne prt W) (he : ne d < fs (pa d + 1)) (hm : met (tg (ne d)) ≠ 0) (hp : prt (tg (ne d)) ≠ 0) : DI n fs tg ot clk hgt (d + 1) np met low st pa (updN ne d (ne d + 1)) prt W := by
  obtain ⟨a1, a2, b1, b2, b3, b4, c1, c2, c3, d1, e1, e2, g1, g2, g3, h⟩ := H
  refine ⟨a1, a2, b1, b2, b3, b4, fun i hi => ?_, c2, c3, d1, fun v hv hmv e' hl => ?_, fun v hv hmv hpv e' hl hpe i hi k1 k2 => ?_, g1, g2, g3, h⟩
  · obtain ⟨q1, q2, q3, q4, q5⟩ := c1 i hi
    refine ⟨q1, q2, q3, ?_⟩
    by_cases hid : i = d
    · subst hid; rw [updN_at]; omega
    · rw [updN_ne hid]; exact ⟨q4, q5⟩
  · rcases lkd_look hl with h' | ⟨_, rfl⟩
    · exact e1 v hv hmv e' h'
    · exact hm
  · rcases lkd_look hl with h' | ⟨_, rfl⟩
    · exact e2 v hv hmv hpv e' h' hpe i hi k1 k2
    · exact absurd hpe hp
/-- an edge to a state that stands -/
theorem di_low (H : DI n fs tg ot clk hgt (d + 1) np met low st pa ne prt W) (hG : Gr n fs tg) (he : ne d < fs (pa d + 1)) (hm : met (tg (ne d)) ≠ 0) (hp : prt (tg (ne d)) = 0) : DI n fs tg ot clk hgt (d + 1) np met (updN low (pa d) (min (low (pa d)) (met (tg (ne d))))) st pa (updN ne d (ne d + 1)) prt W := by
  obtain ⟨a1, a2, b1, b2, b3, b4, c1, c2, c3, d1, e1, e2, g1, g2, g3, h⟩ := H
  obtain ⟨s1, s2, s3, s4, s5⟩ := c1 d (by omega)
  have hlt : ne d < fs n := Nat.lt_of_lt_of_le he (gr_mono hG (by omega) (Nat.le_refl _))
  have htn := hG.2.2.2.2.2 _ hlt
  have hle : ∀ v, updN low (pa d) (min (low (pa d)) (met (tg (ne d)))) v ≤ low v := by
    intro v
    by_cases hv : v = pa d
    · subst hv; rw [updN_at]; exact Nat.min_le_left _ _
    · rw [updN_ne hv]; exact Nat.le_refl _
  refine ⟨a1, a2, b1, b2, b3, b4, fun i hi => ?_, c2, c3, fun v hv hmv hpv => ?_, fun v hv hmv e' hl => ?_, fun v hv hmv hpv e' hl hpe i hi k1 k2 => ?_, g1, g2, g3, h⟩
  · obtain ⟨q1, q2, q3, q4, q5⟩ := c1 i hi
    refine ⟨q1, q2, q3, ?_⟩
    by_cases hid : i = d
    · subst hid; rw [updN_at]; omega
    · rw [updN_ne hid]; exact ⟨q4, q5⟩
  · obtain ⟨q1, q2, q3⟩ := d1 v hv hmv hpv
    by_cases hvp : v = pa d
    · subst hvp
      rw [updN_at]
      obtain ⟨i, hi, hst⟩ := b3 _ htn hm hp
      have hs0 : met (st 0) ≤ met (tg (ne d)) := by
        rw [← hst]
        by_cases h0 : i = 0
        · subst h0; exact Nat.le_refl _
        · exact Nat.le_of_lt (b2 0 i (by omega) hi)
      omega
    · rw [updN_ne hvp]; exact ⟨q1, q2, q3⟩
  · rcases lkd_look hl with h' | ⟨_, rfl⟩
    · exact e1 v hv hmv e' h'
    · exact hm
  · rcases lkd_look hl with h' | ⟨rfl, rfl⟩
    · exact Nat.le_trans (hle _) (e2 v hv hmv hpv e' h' hpe i hi k1 k2)
    · have hid : i = d := by
        by_cases hid : i = d
        · exact hid
        · have := k2 d (by omega) (by omega); omega
      subst hid
      rw [updN_at]
      exact Nat.min_le_right _ _
/-- an edge to a state not met yet -/
theorem di_push (H : DI n fs tg ot clk hgt (d + 1) np met low st pa ne prt W) (hG : Gr n fs tg) (he : ne d < fs (pa d + 1)) (hm : met (tg (ne d)) = 0) : DI n fs tg ot (clk + 1) (hgt + 1) (d + 2) np (updN met (tg (ne d)) (clk + 1)) (updN low (tg (ne d)) (clk + 1)) (updN st hgt (tg (ne d))) (updN pa (d + 1) (tg (ne d))) (updN (updN ne d (ne d + 1)) (d + 1) (fs (tg (ne d)))) prt W := by
  obtain ⟨a1, a2, b1, b2, b3, b4, c1, c2, c3, d1, e1, e2, g1, g2, g3, h⟩ := H
  obtain ⟨s1, s2, s3, s4, s5⟩ := c1 d (by omega)
  have hlt : ne d < fs n := Nat.lt_of_lt_of_le he (gr_mono hG (by omega) (Nat.le_refl _))
  have htn := hG.2.2.2.2.2 _ hlt
  have hpt := b4 _ htn hm
  have hMe : ∀ v, met v ≠ 0 → updN met (tg (ne d)) (clk + 1) v = met v := fun v hv => updN_ne (fun z => hv (by rw [z]; exact hm))
  have hMt : updN met (tg (ne d)) (clk + 1) (tg (ne d)) = clk + 1 := updN_at _ _ _
  have hLe : ∀ v, met v ≠ 0 → updN low (tg (ne d)) (clk + 1) v = low v := fun v hv => updN_ne (fun z => hv (by rw [z]; exact hm))
  have hst : ∀ i, i < hgt → updN st hgt (tg (ne d)) i = st i := fun i hi => updN_ne (by omega)
  have hsh : updN st hgt (tg (ne d)) hgt = tg (ne d) := updN_at _ _ _
  have hpa : ∀ i, i < d + 1 → updN pa (d + 1) (tg (ne d)) i = pa i := fun i hi => updN_ne (by omega)
  have hpd : updN pa (d + 1) (tg (ne d)) (d + 1) = tg (ne d) := updN_at _ _ _
  have hne : ∀ i, i < d → updN (updN ne d (ne d + 1)) (d + 1) (fs (tg (ne d))) i = ne i := fun i hi => by rw [updN_ne (by omega), updN_ne (by omega)]
  have hnd : updN (updN ne d (ne d + 1)) (d + 1) (fs (tg (ne d))) d = ne d + 1 := by rw [updN_ne (by omega), updN_at]
  have hnd1 : updN (updN ne d (ne d + 1)) (d + 1) (fs (tg (ne d))) (d + 1) = fs (tg (ne d)) := updN_at _ _ _
  have hgt0 : 0 < hgt := (c3 (by omega)).1
  have hs0 : updN met (tg (ne d)) (clk + 1) (updN st hgt (tg (ne d)) 0) = met (st 0) := by rw [hst 0 hgt0, hMe _ (b1 0 hgt0).2.1]
  -- looked at: as before, or the edge itself
  have hlk : ∀ v e', lkd fs (d + 2) (updN pa (d + 1) (tg (ne d))) (updN (updN ne d (ne d + 1)) (d + 1) (fs (tg (ne d)))) v e' → v ≠ tg (ne d) ∧ (lkd fs (d + 1) pa ne v e' ∨ (v = pa d ∧ e' = ne d)) := by
    intro v e' ⟨h1, h2, h3⟩
    have hvt : v ≠ tg (ne d) := by
      rintro rfl
      have := h3 (d + 1) (by omega) hpd
      rw [hnd1] at this; omega
    refine ⟨hvt, ?_⟩
    by_cases hc : v = pa d ∧ e' = ne d
    · exact Or.inr hc
    · refine Or.inl ⟨h1, h2, fun i hi hp => ?_⟩
      have := h3 i (by omega) (by rw [hpa i hi]; exact hp)
      by_cases hid : i = d
      · subst hid
        rw [hnd] at this
        have hne : e' ≠ ne i := fun z => hc ⟨hp.symm, z⟩
        omega
      · rw [hne i (by omega)] at this; exact this
  refine ⟨by rw [cntN_upd htn hm (by omega), a1], fun v hv => ?_, fun i hi => ?_, fun i j hij hj => ?_, fun v hv hmv hpv => ?_, fun v hv hmv => ?_, fun i hi => ?_, fun i j hij hj => ?_, fun _ => ⟨by omega, by rw [hpa 0 (by omega), hst 0 hgt0]; exact (c3 (by omega)).2⟩, fun v hv hmv hpv => ?_, fun v hv hmv e' hl => ?_, fun v hv hmv hpv e' hl hpe i hi k1 k2 => ?_, fun v hv hpv => ?_, g2, g3, by omega⟩
  · by_cases hvt : v = tg (ne d)
    · subst hvt; rw [hMt]; exact Nat.le_refl _
    · rw [updN_ne hvt]; have := a2 v hv; omega
  · by_cases hih : i < hgt
    · rw [hst i hih, hMe _ (b1 i hih).2.1]; exact b1 i hih
    · obtain rfl : i = hgt := by omega
      rw [hsh, hMt]; exact ⟨htn, by omega, hpt⟩
  · by_cases hjh : j < hgt
    · rw [hst i (by omega), hst j hjh, hMe _ (b1 i (by omega)).2.1, hMe _ (b1 j hjh).2.1]; exact b2 i j hij hjh
    · obtain rfl : j = hgt := by omega
      rw [hsh, hMt, hst i hij, hMe _ (b1 i hij).2.1]
      have := a2 _ (b1 i hij).1; omega
  · by_cases hvt : v = tg (ne d)
    · subst hvt; exact ⟨hgt, by omega, hsh⟩
    · rw [updN_ne hvt] at hmv
      obtain ⟨i, hi, hs⟩ := b3 v hv hmv hpv
      exact ⟨i, by omega, by rw [hst i hi]; exact hs⟩
  · by_cases hvt : v = tg (ne d)
    · subst hvt; exact hpt
    · rw [updN_ne hvt] at hmv; exact b4 v hv hmv
  · by_cases hid : i < d + 1
    · obtain ⟨q1, q2, q3, q4, q5⟩ := c1 i hid
      rw [hpa i hid, hMe _ q2]
      refine ⟨q1, q2, q3, ?_⟩
      by_cases hidd : i = d
      · subst hidd; rw [hnd]; omega
      · rw [hne i (by omega)]; exact ⟨q4, q5⟩
    · obtain rfl : i = d + 1 := by omega
      rw [hpd, hMt, hnd1]
      exact ⟨htn, by omega, hpt, Nat.le_refl _, Nat.le_of_lt (hG.2.2.2.1 _ htn)⟩
  · by_cases hjd : j < d + 1
    · rw [hpa i (by omega), hpa j hjd, hMe _ (c1 i (by omega)).2.1, hMe _ (c1 j hjd).2.1]; exact c2 i j hij hjd
    · obtain rfl : j = d + 1 := by omega
      rw [hpd, hMt, hpa i hij, hMe _ (c1 i hij).2.1]
      have := a2 _ (c1 i hij).1; omega
  · rw [hs0]
    by_cases hvt : v = tg (ne d)
    · subst hvt
      rw [hMt, show updN low (tg (ne d)) (clk + 1) (tg (ne d)) = clk + 1 from updN_at _ _ _]
      have := a2 _ (b1 0 hgt0).1
      omega
    · rw [updN_ne hvt] at hmv
      rw [hLe v hmv, hMe v hmv]
      exact d1 v hv hmv hpv
  · obtain ⟨hvt, hl⟩ := hlk v e' hl
    rw [updN_ne hvt] at hmv
    rcases hl with h' | ⟨_, rfl⟩
    · have := e1 v hv hmv e' h'
      rw [hMe _ this]; exact this
    · rw [hMt]; omega
  · obtain ⟨hvt, hl⟩ := hlk v e' hl
    rw [updN_ne hvt] at hmv k1
    by_cases hid : i < d + 1
    · rw [hpa i hid] at k1 ⊢
      have hmi := (c1 i hid).2.1
      rw [hMe _ hmi] at k1
      rw [hLe _ hmi]
      have k2' : ∀ j, i < j → j < d + 1 → met v < met (pa j) := by
        intro j hj1 hj2
        have := k2 j hj1 (by omega)
        rw [hpa j hj2, hMe _ (c1 j hj2).2.1, updN_ne hvt] at this
        exact this
      rcases hl with h' | ⟨_, rfl⟩
      · have hme := e1 v hv hmv e' h'
        rw [hMe _ hme]
        exact e2 v hv hmv hpv e' h' hpe i hid k1 k2'
      · rw [hMt]
        have := (d1 _ (c1 i hid).1 hmi (c1 i hid).2.2.1).2.1
        have := a2 _ (c1 i hid).1
        omega
    · obtain rfl : i = d + 1 := by omega
      rw [hpd, hMt] at k1
      have := a2 v hv
      omega
  · obtain ⟨q1, q2, q3, q4⟩ := g1 v hv hpv
    exact ⟨q1, by rw [hMe v q2]; exact q2, q3, q4⟩
def lowUp (d : Nat) (low pa : Nat → Nat) : Nat → Nat := if d = 0 then low else updN low (pa (d - 1)) (min (low (pa (d - 1))) (low (pa d)))
theorem lowUp_le (d : Nat) (low pa : Nat → Nat) (v : Nat) : lowUp d low pa v ≤ low v := by
  unfold lowUp
  by_cases hd : d = 0
  · rw [if_pos hd]; exact Nat.le_refl _
  · rw [if_neg hd]
    by_cases hv : v = pa (d - 1)
    · subst hv; rw [updN_at]; exact Nat.min_le_left _ _
    · rw [updN_ne hv]; exact Nat.le_refl _
/-- a state is left that is not the eldest of its part -/
theorem di_leave (H : DI n fs tg ot clk hgt (d + 1) np met low st pa ne prt W) (he : ne d = fs (pa d + 1)) (hl : low (pa d) ≠ met (pa d)) : 1 ≤ d ∧ DI n fs tg ot clk hgt d np met (lowUp d low pa) st pa ne prt W := by
  obtain ⟨a1, a2, b1, b2, b3, b4, c1, c2, c3, d1, e1, e2, g1, g2, g3, h⟩ := H
  obtain ⟨s1, s2, s3, s4, s5⟩ := c1 d (by omega)
  have hd1 : 1 ≤ d := by
    rcases Nat.eq_zero_or_pos d with h0 | h0
    · exfalso
      subst h0
      have h1 := (c3 (by omega)).2
      have h2 := d1 _ s1 s2 s3
      rw [h1] at h2 hl
      omega
    · exact h0
  have hlow := d1 _ s1 s2 s3
  have hlk : ∀ v e', lkd fs d pa ne v e' → lkd fs (d + 1) pa ne v e' := by
    intro v e' ⟨h1, h2, h3⟩
    refine ⟨h1, h2, fun i hi hp => ?_⟩
    by_cases hid : i = d
    · subst hid; rw [he, hp]; exact h2
    · exact h3 i (by omega) hp
  have hup : lowUp d low pa = updN low (pa (d - 1)) (min (low (pa (d - 1))) (low (pa d))) := by unfold lowUp; rw [if_neg (by omega)]
  refine ⟨hd1, a1, a2, b1, b2, b3, b4, fun i hi => c1 i (by omega), fun i j hij hj => c2 i j hij (by omega), fun _ => c3 (by omega), fun v hv hmv hpv => ?_, fun v hv hmv e' hl' => e1 v hv hmv e' (hlk v e' hl'), fun v hv hmv hpv e' hl' hpe i hi k1 k2 => ?_, g1, g2, g3, h⟩
  · obtain ⟨q1, q2, q3⟩ := d1 v hv hmv hpv
    rw [hup]
    by_cases hvp : v = pa (d - 1)
    · subst hvp; rw [updN_at]; omega
    · rw [updN_ne hvp]; exact ⟨q1, q2, q3⟩
  · by_cases hvs : met v < met (pa d)
    · refine Nat.le_trans (lowUp_le d low pa _) (e2 v hv hmv hpv e' (hlk v e' hl') hpe i (by omega) k1 (fun j hj1 hj2 => ?_))
      by_cases hjd : j = d
      · subst hjd; exact hvs
      · exact k2 j hj1 (by omega)
    · have hid : i = d - 1 := by
        by_cases hid : i = d - 1
        · exact hid
        · have h1 := k2 (d - 1) (by omega) (by omega)
          have h2 := c2 (d - 1) d (by omega) (by omega)
          omega
      subst hid
      have hx := e2 v hv hmv hpv e' (hlk v e' hl') hpe d (by omega) (by omega) (fun j hj1 hj2 => by omega)
      rw [hup, updN_at]
      exact Nat.le_trans (Nat.min_le_right _ _) hx
/-- the part of the state that is left, as it stands on the stack -/
def seg (met prt : Nat → Nat) (s v : Nat) : Bool := decide (met v ≠ 0) && decide (prt v = 0) && decide (met s ≤ met v)
theorem seg_iff {s v : Nat} : seg met prt s v = true ↔ met v ≠ 0 ∧ prt v = 0 ∧ met s ≤ met v := by
  unfold seg
  rw [Bool.and_eq_true, Bool.and_eq_true, decide_eq_true_eq, decide_eq_true_eq, decide_eq_true_eq]
  exact ⟨fun ⟨⟨a, b⟩, c⟩ => ⟨a, b, c⟩, fun ⟨a, b, c⟩ => ⟨⟨a, b⟩, c⟩⟩
/-- what an edge counts for when its part closes -/
def valO (tg ot prt W : Nat → Nat) (e : Nat) : Nat := if prt (tg e) = 0 then (if badO (ot e) = true then 1000000 else 0) else min 1000000 (W (tg e) + (if badO (ot e) = true then 1 else 0))
/-- every edge of the part has been looked at and leads into it or to what is closed -/
theorem di_seg (H : DI n fs tg ot clk hgt (d + 1) np met low st pa ne prt W) (he : ne d = fs (pa d + 1)) (hl : low (pa d) = met (pa d)) {v : Nat} (hv : v < n) (hs : seg met prt (pa d) v = true) {e : Nat} (e1' : fs v ≤ e) (e2' : e < fs (v + 1)) (ht : tg e < n) : met (tg e) ≠ 0 ∧ (prt (tg e) = 0 → seg met prt (pa d) (tg e) = true) := by
  obtain ⟨a1, a2, b1, b2, b3, b4, c1, c2, c3, d1, e1, e2, g1, g2, g3, h⟩ := H
  obtain ⟨hm, hp, hle⟩ := seg_iff.mp hs
  have hlk : lkd fs (d + 1) pa ne v e := by
    refine ⟨e1', e2', fun i hi hpi => ?_⟩
    by_cases hid : i = d
    · subst hid; rw [he, hpi]; exact e2'
    · have := c2 i d (by omega) (by omega)
      rw [hpi] at this; omega
  have hmt := e1 v hv hm e hlk
  refine ⟨hmt, fun hpt => seg_iff.mpr ⟨hmt, hpt, ?_⟩⟩
  have := e2 v hv hm hp e hlk hpt d (by omega) hle (fun j hj1 hj2 => by omega)
  omega
theorem di_close (H : DI n fs tg ot clk hgt (d + 1) np met low st pa ne prt W) (hG : Gr n fs tg) (he : ne d = fs (pa d + 1)) (hl : low (pa d) = met (pa d)) {pos : Nat} (hpos : pos < hgt) (hst : st pos = pa d) {w : Nat} (hw : w ≤ 1000000) (hub : ∀ u, u < n → seg met prt (pa d) u = true → ∀ e, fs u ≤ e → e < fs (u + 1) → valO tg ot prt W e ≤ w) (hat : w = 0 ∨ ∃ u e, u < n ∧ seg met prt (pa d) u = true ∧ fs u ≤ e ∧ e < fs (u + 1) ∧ valO tg ot prt W e = w) : DI n fs tg ot clk pos d (np + 1) met (lowUp d low pa) st pa ne (fun v => if seg met prt (pa d) v = true then np + 1 else prt v) (fun v => if seg met prt (pa d) v = true then w else W v) := by
  have hseg := fun {v : Nat} (hv : v < n) (hs : seg met prt (pa d) v = true) {e : Nat} (k1 : fs v ≤ e) (k2 : e < fs (v + 1)) => di_seg H he hl hv hs k1 k2 (hG.2.2.2.2.2 e (Nat.lt_of_lt_of_le k2 (gr_mono hG (by omega) (Nat.le_refl _))))
  have htn : ∀ {v e : Nat}, v < n → e < fs (v + 1) → tg e < n := fun {v e} hv k2 => hG.2.2.2.2.2 e (Nat.lt_of_lt_of_le k2 (gr_mono hG (by omega) (Nat.le_refl _)))
  obtain ⟨a1, a2, b1, b2, b3, b4, c1, c2, c3, d1, e1, e2, g1, g2, g3, h⟩ := H
  obtain ⟨s1, s2, s3, s4, s5⟩ := c1 d (by omega)
  have hlow := d1 _ s1 s2 s3
  have nseg : ∀ v, prt v ≠ 0 → seg met prt (pa d) v = false := by
    intro v hv
    cases hs : seg met prt (pa d) v
    · rfl
    · exact absurd (seg_iff.mp hs).2.1 hv
  have nseg2 : ∀ v, met v < met (pa d) → seg met prt (pa d) v = false := by
    intro v hv
    cases hs : seg met prt (pa d) v
    · rfl
    · have := (seg_iff.mp hs).2.2; omega
  have hlk : ∀ v e', lkd fs d pa ne v e' → lkd fs (d + 1) pa ne v e' := by
    intro v e' ⟨h1, h2, h3⟩
    refine ⟨h1, h2, fun i hi hp => ?_⟩
    by_cases hid : i = d
    · subst hid; rw [he, hp]; exact h2
    · exact h3 i (by omega) hp
  have hmpos : ∀ i, i < pos → met (st i) < met (pa d) := fun i hi => by rw [← hst]; exact b2 i pos hi hpos
  have hps : ∀ v, seg met prt (pa d) v = true → (if seg met prt (pa d) v = true then np + 1 else prt v) = np + 1 := fun v hs => if_pos hs
  have hpn : ∀ v, seg met prt (pa d) v = false → (if seg met prt (pa d) v = true then np + 1 else prt v) = prt v := fun v hs => if_neg (by rw [hs]; decide)
  have hwn : ∀ v, seg met prt (pa d) v = false → (if seg met prt (pa d) v = true then w else W v) = W v := fun v hs => if_neg (by rw [hs]; decide)
  -- what an edge of the new part counts for
  have hval : ∀ u e, u < n → seg met prt (pa d) u = true → fs u ≤ e → e < fs (u + 1) → valE tg ot (fun v => if seg met prt (pa d) v = true then np + 1 else prt v) (fun v => if seg met prt (pa d) v = true then w else W v) u e = valO tg ot prt W e := by
    intro u e hu hs k1 k2
    obtain ⟨m1, m2⟩ := hseg hu hs k1 k2
    by_cases hpt : prt (tg e) = 0
    · rw [valE_of (prt := fun v => if seg met prt (pa d) v = true then np + 1 else prt v) (W := fun v => if seg met prt (pa d) v = true then w else W v) (a := np + 1) (b := np + 1) (hps _ (m2 hpt)) (hps u hs) rfl, if_pos rfl]
      unfold valO
      rw [if_pos hpt]
    · have hn := nseg _ hpt
      have := (g1 _ (htn hu k2) hpt).1
      rw [valE_of (prt := fun v => if seg met prt (pa d) v = true then np + 1 else prt v) (W := fun v => if seg met prt (pa d) v = true then w else W v) (a := prt (tg e)) (b := np + 1) (c := W (tg e)) (hpn _ hn) (hps u hs) (hwn _ hn), if_neg (by omega)]
      unfold valO
      rw [if_neg hpt]
  have hval2 : ∀ u e, u < n → prt u ≠ 0 → fs u ≤ e → e < fs (u + 1) → valE tg ot (fun v => if seg met prt (pa d) v = true then np + 1 else prt v) (fun v => if seg met prt (pa d) v = true then w else W v) u e = valE tg ot prt W u e := by
    intro u e hu hpu k1 k2
    have hpt := ((g1 u hu hpu).2.2.2 e k1 k2).1
    rw [valE_of (prt := fun v => if seg met prt (pa d) v = true then np + 1 else prt v) (W := fun v => if seg met prt (pa d) v = true then w else W v) (a := prt (tg e)) (b := prt u) (c := W (tg e)) (hpn _ (nseg _ hpt)) (hpn u (nseg u hpu)) (hwn _ (nseg _ hpt))]
    rfl
  have stands : ∀ v, v < n → met v ≠ 0 → (if seg met prt (pa d) v = true then np + 1 else prt v) = 0 → prt v = 0 ∧ met v < met (pa d) ∧ seg met prt (pa d) v = false := by
    intro v hv hmv hpv
    cases hs : seg met prt (pa d) v
    · rw [hpn v hs] at hpv
      refine ⟨hpv, ?_, rfl⟩
      rcases Nat.lt_or_ge (met v) (met (pa d)) with h | h
      · exact h
      · have := seg_iff.mpr ⟨hmv, hpv, h⟩
        rw [hs] at this; exact absurd this (by decide)
    · rw [hps v hs] at hpv; omega
  refine ⟨a1, a2, fun i hi => ?_, fun i j hij hj => b2 i j hij (by omega), fun v hv hmv hpv => ?_, fun v hv hmv => ?_, fun i hi => ?_, fun i j hij hj => c2 i j hij (by omega), fun hd0 => ?_, fun v hv hmv hpv => ?_, fun v hv hmv e' hl' => e1 v hv hmv e' (hlk v e' hl'), fun v hv hmv hpv e' hl' hpe i hi k1 k2 => ?_, fun v hv hpv => ?_, fun u v hu hv hpu hpuv e k1 k2 => ?_, fun v hv hpv => ?_, by omega⟩
  · obtain ⟨q1, q2, q3⟩ := b1 i (by omega)
    refine ⟨q1, q2, ?_⟩
    show (if seg met prt (pa d) (st i) = true then np + 1 else prt (st i)) = 0
    rw [hpn _ (nseg2 _ (hmpos i hi))]; exact q3
  · obtain ⟨o1, o2, o3⟩ := stands v hv hmv hpv
    obtain ⟨i, hi, hsi⟩ := b3 v hv hmv o1
    refine ⟨i, ?_, hsi⟩
    rcases Nat.lt_or_ge i pos with h | h
    · exact h
    · exfalso
      by_cases hip : i = pos
      · subst hip; rw [← hsi, hst] at o2; omega
      · have := b2 pos i (by omega) hi
        rw [hst, hsi] at this; omega
  · show (if seg met prt (pa d) v = true then np + 1 else prt v) = 0
    have hs : seg met prt (pa d) v = false := by
      cases hs : seg met prt (pa d) v
      · rfl
      · exact absurd hmv (seg_iff.mp hs).1
    rw [hpn v hs]; exact b4 v hv hmv
  · obtain ⟨q1, q2, q3, q4, q5⟩ := c1 i (by omega)
    refine ⟨q1, q2, ?_, q4, q5⟩
    show (if seg met prt (pa d) (pa i) = true then np + 1 else prt (pa i)) = 0
    rw [hpn _ (nseg2 _ (c2 i d hi (by omega)))]; exact q3
  · have h0 := (c3 (by omega)).2
    refine ⟨?_, h0⟩
    rcases Nat.eq_zero_or_pos pos with hp | hp
    · exfalso
      subst hp
      have := c2 0 d hd0 (by omega)
      rw [h0, hst] at this; omega
    · exact hp
  · obtain ⟨o1, o2, o3⟩ := stands v hv hmv hpv
    obtain ⟨q1, q2, q3⟩ := d1 v hv hmv o1
    unfold lowUp
    by_cases hd0 : d = 0
    · rw [if_pos hd0]; exact ⟨q1, q2, q3⟩
    · rw [if_neg hd0]
      by_cases hvp : v = pa (d - 1)
      · subst hvp; rw [updN_at]; omega
      · rw [updN_ne hvp]; exact ⟨q1, q2, q3⟩
  · obtain ⟨o1, o2, o3⟩ := stands v hv hmv hpv
    have hmt := e1 v hv hmv e' (hlk v e' hl')
    have ht := htn hv hl'.2.1
    obtain ⟨p1, p2, p3⟩ := stands _ ht hmt hpe
    refine Nat.le_trans (lowUp_le d low pa _) (e2 v hv hmv o1 e' (hlk v e' hl') p1 i (by omega) k1 (fun j hj1 hj2 => ?_))
    by_cases hjd : j = d
    · subst hjd; exact o2
    · exact k2 j hj1 (by omega)
  · cases hs : seg met prt (pa d) v
    · have hpv' : prt v ≠ 0 := by rw [← hpn v hs]; exact hpv
      obtain ⟨q1, q2, q3, q4⟩ := g1 v hv hpv'
      show (if seg met prt (pa d) v = true then np + 1 else prt v) ≤ np + 1 ∧ _ ∧ (if seg met prt (pa d) v = true then w else W v) ≤ 1000000 ∧ _
      rw [hpn v hs, hwn v hs]
      refine ⟨by omega, q2, q3, fun e k1 k2 => ?_⟩
      obtain ⟨r1, r2⟩ := q4 e k1 k2
      show (if seg met prt (pa d) (tg e) = true then np + 1 else prt (tg e)) ≠ 0 ∧ (if seg met prt (pa d) (tg e) = true then np + 1 else prt (tg e)) ≤ (if seg met prt (pa d) v = true then np + 1 else prt v)
      rw [hpn _ (nseg _ r1), hpn v hs]; exact ⟨r1, r2⟩
    · show (if seg met prt (pa d) v = true then np + 1 else prt v) ≤ np + 1 ∧ _ ∧ (if seg met prt (pa d) v = true then w else W v) ≤ 1000000 ∧ _
      rw [hps v hs, if_pos hs]
      refine ⟨Nat.le_refl _, (seg_iff.mp hs).1, hw, fun e k1 k2 => ?_⟩
      obtain ⟨m1, m2⟩ := hseg hv hs k1 k2
      show (if seg met prt (pa d) (tg e) = true then np + 1 else prt (tg e)) ≠ 0 ∧ (if seg met prt (pa d) (tg e) = true then np + 1 else prt (tg e)) ≤ (if seg met prt (pa d) v = true then np + 1 else prt v)
      rw [hps v hs]
      by_cases hpt : prt (tg e) = 0
      · rw [hps _ (m2 hpt)]; omega
      · have := (g1 _ (htn hv k2) hpt).1
        rw [hpn _ (nseg _ hpt)]; omega
  · show valE tg ot (fun v => if seg met prt (pa d) v = true then np + 1 else prt v) (fun v => if seg met prt (pa d) v = true then w else W v) u e ≤ (if seg met prt (pa d) v = true then w else W v)
    cases hsu : seg met prt (pa d) u
    · have hpu' : prt u ≠ 0 := by rw [← hpn u hsu]; exact hpu
      have hle := (g1 u hu hpu').1
      have hpuv' : (if seg met prt (pa d) u = true then np + 1 else prt u) = (if seg met prt (pa d) v = true then np + 1 else prt v) := hpuv
      rw [hpn u hsu] at hpuv'
      cases hsv : seg met prt (pa d) v
      · rw [hpn v hsv] at hpuv'
        rw [hval2 u e hu hpu' k1 k2, if_neg (by decide)]
        exact g2 u v hu hv hpu' hpuv' e k1 k2
      · rw [hps v hsv] at hpuv'; omega
    · have hpuv' : (if seg met prt (pa d) u = true then np + 1 else prt u) = (if seg met prt (pa d) v = true then np + 1 else prt v) := hpuv
      rw [hps u hsu] at hpuv'
      cases hsv : seg met prt (pa d) v
      · rw [hpn v hsv] at hpuv'
        by_cases hpv0 : prt v = 0
        · omega
        · have := (g1 v hv hpv0).1; omega
      · rw [if_pos rfl, hval u e hu hsu k1 k2]
        exact hub u hu hsu e k1 k2
  · show (if seg met prt (pa d) v = true then w else W v) = 0 ∨ ∃ u e, u < n ∧ fs u ≤ e ∧ e < fs (u + 1) ∧ (if seg met prt (pa d) u = true then np + 1 else prt u) = (if seg met prt (pa d) v = true then np + 1 else prt v) ∧ valE tg ot (fun v => if seg met prt (pa d) v = true then np + 1 else prt v) (fun v => if seg met prt (pa d) v = true then w else W v) u e = (if seg met prt (pa d) v = true then w else W v)
    cases hsv : seg met prt (pa d) v
    · have hpv' : prt v ≠ 0 := by rw [← hpn v hsv]; exact hpv
      rw [if_neg (by decide), if_neg (by decide)]
      rcases g3 v hv hpv' with h0 | ⟨u, e, hu, k1, k2, hpu, hve⟩
      · exact Or.inl h0
      · have hpu' : prt u ≠ 0 := by rw [hpu]; exact hpv'
        exact Or.inr ⟨u, e, hu, k1, k2, by rw [hpn u (nseg u hpu')]; exact hpu, by rw [hval2 u e hu hpu' k1 k2]; exact hve⟩
    · rw [if_pos rfl, if_pos rfl]
      rcases hat with h0 | ⟨u, e, hu, hsu, k1, k2, hve⟩
      · exact Or.inl h0
      · exact Or.inr ⟨u, e, hu, k1, k2, by rw [hps u hsu], by rw [hval u e hu hsu k1 k2]; exact hve⟩
end DIS
