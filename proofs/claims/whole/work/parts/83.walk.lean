/-! part 83: both walks, turn by turn -/
theorem gl_bi {σ τ ρ π : Type} {st1 : σ → Option (ρ ⊕ σ)} {st2 : τ → Option (π ⊕ τ)} (R : σ → τ → Prop) (μ : σ → τ → Nat) (Q : ρ → π → Prop) (step : ∀ s t, R s t → (∃ r q, st1 s = some (.inl r) ∧ st2 t = some (.inl q) ∧ Q r q) ∨ (∃ s' t', st1 s = some (.inr s') ∧ st2 t = some (.inr t') ∧ R s' t' ∧ μ s' t' < μ s t)) : ∀ (F : Nat) (s : σ) (t : τ), R s t → μ s t < F → ∃ r q, gloop st1 F s = some r ∧ gloop st2 F t = some q ∧ Q r q := by
  intro F
  induction F with
  | zero => intro s t _ h; omega
  | succ F ih =>
    intro s t hR hF
    rcases step s t hR with ⟨r, q, e1, e2, hQ⟩ | ⟨s', t', e1, e2, hR', hlt⟩
    · exact ⟨r, q, by simp only [gloop, e1], by simp only [gloop, e2], hQ⟩
    · obtain ⟨r, q, g1, g2, hQ⟩ := ih s' t' hR' (by omega)
      exact ⟨r, q, by simp only [gloop, e1]; exact g1, by simp only [gloop, e2]; exact g2, hQ⟩
def dI (d : Nat) : Int32 := if d = 0 then -1 else Int32.ofNat (d - 1)
theorem dI_s (d : Nat) : dI (d + 1) = Int32.ofNat d := if_neg (Nat.succ_ne_zero d)
theorem dI_down {d : Nat} : Int32.ofNat d + (-1) = dI d := by
  by_cases h0 : d = 0
  · subst h0; rfl
  · rw [i32_down (by omega)]; unfold dI; rw [if_neg h0]
theorem dI_neg {d : Nat} (h : d < 2 ^ 31) : (dI d < 0) ↔ d = 0 := by
  unfold dI
  by_cases h0 : d = 0
  · rw [if_pos h0]; exact ⟨fun _ => h0, fun _ => by decide⟩
  · rw [if_neg h0]; exact ⟨fun z => absurd z (i32_nneg (by omega)), fun z => absurd z h0⟩
section WLK
variable {n : Nat} {fs tg ot : Nat → Nat} {A30 A35 A81 A82 A83 : Nat → Int32}
def CDr (n hgt d : Nat) (met low st pa ne prt W : Nat → Nat) (A44 A46 A48 A50 A52 A54 : Nat → Int32) : Prop := AW n prt W A44 ∧ (∀ v, v < n → cAt 6000 A46 (Int32.ofNat v) = Int32.ofNat (met v)) ∧ (∀ v, v < n → met v ≠ 0 → cAt 6000 A48 (Int32.ofNat v) = Int32.ofNat (low v)) ∧ (∀ i, i < hgt → cAt 6000 A50 (Int32.ofNat i) = Int32.ofNat (st i)) ∧ (∀ i, i < d → cAt 6000 A52 (Int32.ofNat i) = Int32.ofNat (pa i)) ∧ (∀ i, i < d → cAt 6000 A54 (Int32.ofNat i) = Int32.ofNat (ne i))
def MDr (n hgt d : Nat) (met low st pa ne prt : Nat → Nat) (A87 A88 A89 A90 A91 A92 A93 : Nat → Int32) : Prop := (∀ v, v < n → met v ≠ 0 → A88 v = Int32.ofNat (low v - 1)) ∧ (∀ v, v < n → A89 v = if met v = 0 then -1 else Int32.ofNat (met v - 1)) ∧ (∀ i, i < hgt → A90 i = Int32.ofNat (st i)) ∧ (∀ v, v < n → met v ≠ 0 → A91 v = if prt v = 0 then 1 else 0) ∧ (∀ v, v < n → prt v ≠ 0 → A87 v = Int32.ofNat (prt v - 1)) ∧ (∀ i, i < d → A92 i = Int32.ofNat (pa i)) ∧ (∀ i, i < d → A93 (pa i) = Int32.ofNat (ne i))
def LwP (n clk : Nat) (met low : Nat → Nat) : Prop := ∀ v, v < n → met v ≠ 0 → 1 ≤ low v ∧ low v ≤ clk
def phi (n : Nat) (fs : Nat → Nat) (d : Nat) (met pa ne : Nat → Nat) : Nat := sumTo (fun v => if met v = 0 then fs (v + 1) - fs v + 1 else 0) n + sumTo (fun i => fs (pa i + 1) - ne i + 1) d
abbrev CW := Int32 × Int32 × Int32 × Int32 × (Nat → Int32) × (Nat → Int32) × (Nat → Int32) × (Nat → Int32) × (Nat → Int32) × (Nat → Int32)
abbrev MW := Int32 × Int32 × Int32 × Int32 × (Nat → Int32) × (Nat → Int32) × (Nat → Int32) × (Nat → Int32) × (Nat → Int32) × (Nat → Int32) × (Nat → Int32)
def LR (n : Nat) (fs tg ot : Nat → Nat) (mk : Nat → Prop) (s : CW) (t : MW) : Prop := ∃ (T clk hgt d np : Nat) (met low st pa ne prt W : Nat → Nat), DI n fs tg ot clk hgt d np met low st pa ne prt W ∧ LwP n clk met low ∧ T + phi n fs d met pa ne ≤ fs n + n ∧
  s.1 = dI d ∧ s.2.1 = Int32.ofNat T ∧ s.2.2.1 = Int32.ofNat clk ∧ s.2.2.2.1 = Int32.ofNat hgt ∧ CDr n hgt d met low st pa ne prt W s.2.2.2.2.1 s.2.2.2.2.2.1 s.2.2.2.2.2.2.1 s.2.2.2.2.2.2.2.1 s.2.2.2.2.2.2.2.2.1 s.2.2.2.2.2.2.2.2.2 ∧
  t.1 = dI d ∧ t.2.1 = Int32.ofNat hgt ∧ t.2.2.1 = Int32.ofNat np ∧ t.2.2.2.1 = Int32.ofNat clk ∧ MDr n hgt d met low st pa ne prt t.2.2.2.2.1 t.2.2.2.2.2.1 t.2.2.2.2.2.2.1 t.2.2.2.2.2.2.2.1 t.2.2.2.2.2.2.2.2.1 t.2.2.2.2.2.2.2.2.2.1 t.2.2.2.2.2.2.2.2.2.2 ∧ (d = 0 → hgt = 0) ∧ ∀ u, mk u → met u ≠ 0
theorem di_bounds {clk hgt d np : Nat} {met low st pa ne prt W : Nat → Nat} (H : DI n fs tg ot clk hgt d np met low st pa ne prt W) : clk ≤ n ∧ hgt ≤ clk ∧ np ≤ clk ∧ d ≤ clk := by
  obtain ⟨a1, a2, b1, b2, b3, b4, c1, c2, c3, d1, e1, e2, g1, g2, g3, h⟩ := H
  have hn := cntN_le met n
  refine ⟨by omega, by omega, by omega, ?_⟩
  have hi : ∀ i, i < d → i + 1 ≤ met (pa i) := by
    intro i
    induction i with
    | zero => intro h0; have := (c1 0 h0).2.1; omega
    | succ i ih => intro h0; have := ih (by omega); have := c2 i (i + 1) (by omega) h0; omega
  rcases Nat.eq_zero_or_pos d with h0 | h0
  · omega
  · have := hi (d - 1) (by omega)
    have := a2 _ (c1 (d - 1) (by omega)).1
    omega
theorem phi_look {d : Nat} {met pa ne : Nat → Nat} (he : ne d < fs (pa d + 1)) : phi n fs (d + 1) met pa (updN ne d (ne d + 1)) + 1 = phi n fs (d + 1) met pa ne := by
  unfold phi
  simp only [sumTo]
  rw [updN_at, sumTo_congr (g := fun i => fs (pa i + 1) - updN ne d (ne d + 1) i + 1) (h := fun i => fs (pa i + 1) - ne i + 1) d (fun k hk => by rw [updN_ne (by omega)])]
  omega
theorem phi_leave {d : Nat} {met pa ne : Nat → Nat} (he : ne d = fs (pa d + 1)) : phi n fs d met pa ne + 1 = phi n fs (d + 1) met pa ne := by
  unfold phi
  simp only [sumTo]
  omega
theorem phi_push {clk d t : Nat} {met pa ne : Nat → Nat} (ht : t < n) (hm : met t = 0) (he : ne d < fs (pa d + 1)) : phi n fs (d + 2) (updN met t (clk + 1)) (updN pa (d + 1) t) (updN (updN ne d (ne d + 1)) (d + 1) (fs t)) + 1 = phi n fs (d + 1) met pa ne := by
  unfold phi
  have h1 := sumTo_upd (g := fun v => if met v = 0 then fs (v + 1) - fs v + 1 else 0) (h := fun v => if updN met t (clk + 1) v = 0 then fs (v + 1) - fs v + 1 else 0) (k := t) n ht (fun j hj hne => by rw [updN_ne hne])
  rw [updN_at, if_pos hm, if_neg (by omega)] at h1
  simp only [sumTo]
  rw [updN_at, updN_at, updN_ne (show d ≠ d + 1 by omega), updN_ne (show d ≠ d + 1 by omega), updN_at, sumTo_congr (g := fun i => fs (updN pa (d + 1) t i + 1) - updN (updN ne d (ne d + 1)) (d + 1) (fs t) i + 1) (h := fun i => fs (pa i + 1) - ne i + 1) d (fun k hk => by rw [updN_ne (by omega), updN_ne (by omega), updN_ne (by omega)])]
  omega
theorem walk_closed (hG : Gr n fs tg) (hC : CGr n fs tg ot A30 A35) (hM : MGr n fs tg ot A81 A82 A83) {F : Nat} (hF : 70000 ≤ F) {T clk hgt d np : Nat} {met low st pa ne prt W : Nat → Nat} {A44 A46 A48 A50 A52 A54 A87 A88 A89 A90 A91 A92 A93 : Nat → Int32} (H : DI n fs tg ot clk hgt (d + 1) np met low st pa ne prt W) (hLwP : LwP n clk met low) (hT : T + phi n fs (d + 1) met pa ne ≤ fs n + n) (hCD : CDr n hgt (d + 1) met low st pa ne prt W A44 A46 A48 A50 A52 A54) (hMD : MDr n hgt (d + 1) met low st pa ne prt A87 A88 A89 A90 A91 A92 A93) {mk : Nat → Prop} (hmk : ∀ u, mk u → met u ≠ 0) (he : ne d < fs (pa d + 1)) (hm : ¬ met (tg (ne d)) = 0) (hp : ¬ prt (tg (ne d)) = 0) : ∃ s' t', fX4_visit_S30 F (Int32.ofNat n) A30 A35 (Int32.ofNat (fs n + n)) (Int32.ofNat d) (Int32.ofNat T) (Int32.ofNat clk) (Int32.ofNat hgt) A44 A46 A48 A50 A52 A54 = some (.inr s') ∧ fX12_walks_S14 F A81 A82 (Int32.ofNat d) (Int32.ofNat hgt) (Int32.ofNat np) (Int32.ofNat clk) A87 A88 A89 A90 A91 A92 A93 = some (.inr t') ∧ LR n fs tg ot mk s' t' ∧ T < fs n + n ∧ s'.2.1 = Int32.ofNat (T + 1) := by
  obtain ⟨h44, h46, h48, h50, h52, h54⟩ := hCD
  obtain ⟨m88, m89, m90, m91, m87, m92, m93⟩ := hMD
  have hn6 := hG.2.1
  have h60 := hG.2.2.2.2.1
  obtain ⟨bn1, bn2, bn3, bn4⟩ := di_bounds H
  obtain ⟨a1, a2, b1, b2, b3, b4, c1, c2, c3, d1, e1, e2, gg1, gg2, gg3, hh⟩ := id H
  obtain ⟨s1, s2, s3, s4, s5⟩ := c1 d (by omega)
  have hmn := gr_mono hG (show pa d + 1 ≤ n by omega) (Nat.le_refl _)
  have hphi : 1 ≤ phi n fs (d + 1) met pa ne := by
    unfold phi
    simp only [sumTo]
    omega
  have hTlt : T < fs n + n := by omega
  have hpainj : ∀ i, i < d + 1 → pa i = pa d → i = d := by
    intro i hi hp
    rcases Nat.lt_or_ge i d with hlt | hge
    · have := c2 i d hlt (by omega); rw [hp] at this; omega
    · omega
  have q52 := h52 d (by omega)
  have q54 := h54 d (by omega)
  have r92 := m92 d (by omega)
  have r93 := m93 d (by omega)
  have i1 : inb (Int32.ofNat d) 6001 = true := inb_t (by omega) (by omega)
  have i2 : inb (Int32.ofNat (pa d)) 6001 = true := inb_t (by omega) (by omega)
  have i3 : inb (Int32.ofNat (pa d + 1)) 6002 = true := inb_t (by omega) (by omega)
  have t1 : (Int32.ofNat d).toNatClampNeg = d := tnc (by omega)
  have t2 : (Int32.ofNat (pa d)).toNatClampNeg = pa d := tnc (by omega)
  have t3 : (Int32.ofNat (pa d + 1)).toNatClampNeg = pa d + 1 := tnc (by omega)
  have a81 := hM.1 (pa d + 1) (by omega)
  have hdn : ¬ Int32.ofNat d < 0 := i32_nneg (by omega)
  have hcl : ¬ Int32.ofNat (fs n + n) ≤ Int32.ofNat T := fun z => by have := (i32_le (by omega) (by omega)).mp z; omega
  have hlt : ne d < fs n := by omega
  have htn := hG.2.2.2.2.2 _ hlt
  have hcn : ¬ Int32.ofNat (fs (pa d + 1)) ≤ Int32.ofNat (ne d) := fun z => by have := (i32_le (by omega) (by omega)).mp z; omega
  have hmne : ¬ Int32.ofNat (ne d) = Int32.ofNat (fs (pa d + 1)) := fun z => by have := (i32_eq (by omega) (by omega)).mp z; omega
  have c82 := (hM.2 _ hlt).1
  have i4 : inb (Int32.ofNat (ne d)) 84000 = true := inb_t (by omega) (by omega)
  have i5 : inb (Int32.ofNat (tg (ne d))) 6001 = true := inb_t (by omega) (by omega)
  have t4 : (Int32.ofNat (ne d)).toNatClampNeg = ne d := tnc (by omega)
  have t5 : (Int32.ofNat (tg (ne d))).toNatClampNeg = tg (ne d) := tnc (by omega)
  have put54 : ∀ i, i < d + 1 → cAt 6000 (cPut 6000 A54 (Int32.ofNat d) (Int32.ofNat (ne d + 1))) (Int32.ofNat i) = Int32.ofNat (updN ne d (ne d + 1) i) := by
    intro i hi
    rw [cAt_put (by omega) (by decide) (by omega)]
    by_cases hid : i = d
    · subst hid; rw [if_pos rfl, updN_at]
    · rw [if_neg hid, updN_ne hid]; exact h54 i hi
  have put93 : ∀ i, i < d + 1 → upd A93 (pa d) (Int32.ofNat (ne d + 1)) (pa i) = Int32.ofNat (updN ne d (ne d + 1) i) := by
    intro i hi
    by_cases hid : i = d
    · subst hid; rw [upd_at, updN_at]
    · rw [upd_ne (fun z => hid (hpainj i hi z)), updN_ne hid]; exact m93 i hi
  have hphi' := phi_look (n := n) (met := met) he
  have hmt := a2 _ htn
  have c46 : ¬ cAt 6000 A46 (Int32.ofNat (tg (ne d))) = 0 := by rw [h46 _ htn]; exact fun z => hm ((i32_eq (b := 0) (by omega) (by decide)).mp z)
  have r89 : A89 (tg (ne d)) = Int32.ofNat (met (tg (ne d)) - 1) := by rw [m89 _ htn, if_neg hm]
  have h0le : (0 : Int32) ≤ Int32.ofNat (met (tg (ne d)) - 1) := i32_0le (by omega)
  have hw := (gg1 _ htn hp).2.2.1
  have c44 : ¬ cAt 6000 A44 (Int32.ofNat (tg (ne d))) = -3 := by rw [h44 _ htn, if_neg hp]; exact td_stands hw
  have r91 : A91 (tg (ne d)) = 0 := by rw [m91 _ htn hm, if_neg hp]
  have hlook := di_look H he hm hp
  have cs : fX4_visit_S30 F (Int32.ofNat n) A30 A35 (Int32.ofNat (fs n + n)) (Int32.ofNat d) (Int32.ofNat T) (Int32.ofNat clk) (Int32.ofNat hgt) A44 A46 A48 A50 A52 A54 = some (.inr (Int32.ofNat d, Int32.ofNat (T + 1), Int32.ofNat clk, Int32.ofNat hgt, A44, A46, A48, A50, A52, cPut 6000 A54 (Int32.ofNat d) (Int32.ofNat (ne d + 1)))) := by
    unfold fX4_visit_S30 fX4_visit_J152 fX4_visit_J190
    rw [if_neg hcl, if_neg hdn, q52, q54, i32_succ, hC.1 _ (by omega), if_neg hcn, (hC.2 _ hlt).1, if_neg c46, if_neg c44]
    simp only [i32_succ]
  have ms : fX12_walks_S14 F A81 A82 (Int32.ofNat d) (Int32.ofNat hgt) (Int32.ofNat np) (Int32.ofNat clk) A87 A88 A89 A90 A91 A92 A93 = some (.inr (Int32.ofNat d, Int32.ofNat hgt, Int32.ofNat np, Int32.ofNat clk, A87, A88, A89, A90, A91, A92, upd A93 (pa d) (Int32.ofNat (ne d + 1)))) := by
    unfold fX12_walks_S14 fX12_walks_J186
    simp only [if_neg hdn, i32_succ, i1, i2, i3, i4, i5, t1, t2, t3, t4, t5, r92, r93, a81, c82, r89, r91, h0le, if_neg hmne, ↓reduceIte, Option.bind_some]
  exact ⟨_, _, cs, ms, ⟨T + 1, clk, hgt, d + 1, np, met, low, st, pa, _, prt, W, hlook, hLwP, by omega, (dI_s d).symm, rfl, rfl, rfl, ⟨h44, h46, h48, h50, h52, put54⟩, (dI_s d).symm, rfl, rfl, rfl, ⟨m88, m89, m90, m91, m87, m92, put93⟩, fun z => absurd z (by omega), hmk⟩, hTlt, rfl⟩

theorem walk_low (hG : Gr n fs tg) (hC : CGr n fs tg ot A30 A35) (hM : MGr n fs tg ot A81 A82 A83) {F : Nat} (hF : 70000 ≤ F) {T clk hgt d np : Nat} {met low st pa ne prt W : Nat → Nat} {A44 A46 A48 A50 A52 A54 A87 A88 A89 A90 A91 A92 A93 : Nat → Int32} (H : DI n fs tg ot clk hgt (d + 1) np met low st pa ne prt W) (hLwP : LwP n clk met low) (hT : T + phi n fs (d + 1) met pa ne ≤ fs n + n) (hCD : CDr n hgt (d + 1) met low st pa ne prt W A44 A46 A48 A50 A52 A54) (hMD : MDr n hgt (d + 1) met low st pa ne prt A87 A88 A89 A90 A91 A92 A93) {mk : Nat → Prop} (hmk : ∀ u, mk u → met u ≠ 0) (he : ne d < fs (pa d + 1)) (hm : ¬ met (tg (ne d)) = 0) (hp : prt (tg (ne d)) = 0) : ∃ s' t', fX4_visit_S30 F (Int32.ofNat n) A30 A35 (Int32.ofNat (fs n + n)) (Int32.ofNat d) (Int32.ofNat T) (Int32.ofNat clk) (Int32.ofNat hgt) A44 A46 A48 A50 A52 A54 = some (.inr s') ∧ fX12_walks_S14 F A81 A82 (Int32.ofNat d) (Int32.ofNat hgt) (Int32.ofNat np) (Int32.ofNat clk) A87 A88 A89 A90 A91 A92 A93 = some (.inr t') ∧ LR n fs tg ot mk s' t' ∧ T < fs n + n ∧ s'.2.1 = Int32.ofNat (T + 1) := by
  obtain ⟨h44, h46, h48, h50, h52, h54⟩ := hCD
  obtain ⟨m88, m89, m90, m91, m87, m92, m93⟩ := hMD
  have hn6 := hG.2.1
  have h60 := hG.2.2.2.2.1
  obtain ⟨bn1, bn2, bn3, bn4⟩ := di_bounds H
  obtain ⟨a1, a2, b1, b2, b3, b4, c1, c2, c3, d1, e1, e2, gg1, gg2, gg3, hh⟩ := id H
  obtain ⟨s1, s2, s3, s4, s5⟩ := c1 d (by omega)
  have hmn := gr_mono hG (show pa d + 1 ≤ n by omega) (Nat.le_refl _)
  have hphi : 1 ≤ phi n fs (d + 1) met pa ne := by
    unfold phi
    simp only [sumTo]
    omega
  have hTlt : T < fs n + n := by omega
  have hpainj : ∀ i, i < d + 1 → pa i = pa d → i = d := by
    intro i hi hp
    rcases Nat.lt_or_ge i d with hlt | hge
    · have := c2 i d hlt (by omega); rw [hp] at this; omega
    · omega
  have q52 := h52 d (by omega)
  have q54 := h54 d (by omega)
  have r92 := m92 d (by omega)
  have r93 := m93 d (by omega)
  have i1 : inb (Int32.ofNat d) 6001 = true := inb_t (by omega) (by omega)
  have i2 : inb (Int32.ofNat (pa d)) 6001 = true := inb_t (by omega) (by omega)
  have i3 : inb (Int32.ofNat (pa d + 1)) 6002 = true := inb_t (by omega) (by omega)
  have t1 : (Int32.ofNat d).toNatClampNeg = d := tnc (by omega)
  have t2 : (Int32.ofNat (pa d)).toNatClampNeg = pa d := tnc (by omega)
  have t3 : (Int32.ofNat (pa d + 1)).toNatClampNeg = pa d + 1 := tnc (by omega)
  have a81 := hM.1 (pa d + 1) (by omega)
  have hdn : ¬ Int32.ofNat d < 0 := i32_nneg (by omega)
  have hcl : ¬ Int32.ofNat (fs n + n) ≤ Int32.ofNat T := fun z => by have := (i32_le (by omega) (by omega)).mp z; omega
  have hlt : ne d < fs n := by omega
  have htn := hG.2.2.2.2.2 _ hlt
  have hcn : ¬ Int32.ofNat (fs (pa d + 1)) ≤ Int32.ofNat (ne d) := fun z => by have := (i32_le (by omega) (by omega)).mp z; omega
  have hmne : ¬ Int32.ofNat (ne d) = Int32.ofNat (fs (pa d + 1)) := fun z => by have := (i32_eq (by omega) (by omega)).mp z; omega
  have c82 := (hM.2 _ hlt).1
  have i4 : inb (Int32.ofNat (ne d)) 84000 = true := inb_t (by omega) (by omega)
  have i5 : inb (Int32.ofNat (tg (ne d))) 6001 = true := inb_t (by omega) (by omega)
  have t4 : (Int32.ofNat (ne d)).toNatClampNeg = ne d := tnc (by omega)
  have t5 : (Int32.ofNat (tg (ne d))).toNatClampNeg = tg (ne d) := tnc (by omega)
  have put54 : ∀ i, i < d + 1 → cAt 6000 (cPut 6000 A54 (Int32.ofNat d) (Int32.ofNat (ne d + 1))) (Int32.ofNat i) = Int32.ofNat (updN ne d (ne d + 1) i) := by
    intro i hi
    rw [cAt_put (by omega) (by decide) (by omega)]
    by_cases hid : i = d
    · subst hid; rw [if_pos rfl, updN_at]
    · rw [if_neg hid, updN_ne hid]; exact h54 i hi
  have put93 : ∀ i, i < d + 1 → upd A93 (pa d) (Int32.ofNat (ne d + 1)) (pa i) = Int32.ofNat (updN ne d (ne d + 1) i) := by
    intro i hi
    by_cases hid : i = d
    · subst hid; rw [upd_at, updN_at]
    · rw [upd_ne (fun z => hid (hpainj i hi z)), updN_ne hid]; exact m93 i hi
  have hphi' := phi_look (n := n) (met := met) he
  have hmt := a2 _ htn
  have c46 : ¬ cAt 6000 A46 (Int32.ofNat (tg (ne d))) = 0 := by rw [h46 _ htn]; exact fun z => hm ((i32_eq (b := 0) (by omega) (by decide)).mp z)
  have r89 : A89 (tg (ne d)) = Int32.ofNat (met (tg (ne d)) - 1) := by rw [m89 _ htn, if_neg hm]
  have h0le : (0 : Int32) ≤ Int32.ofNat (met (tg (ne d)) - 1) := i32_0le (by omega)
  have c44 : cAt 6000 A44 (Int32.ofNat (tg (ne d))) = -3 := by rw [h44 _ htn, if_pos hp]
  have r91 : A91 (tg (ne d)) = 1 := by rw [m91 _ htn hm, if_pos hp]
  have hlow := di_low H hG he hm hp
  have hls := hLwP _ s1 s2
  have c48 := h48 _ s1 s2
  have c46' := h46 _ htn
  have hmin : (if Int32.ofNat (met (tg (ne d))) < Int32.ofNat (low (pa d)) then Int32.ofNat (met (tg (ne d))) else Int32.ofNat (low (pa d))) = Int32.ofNat (min (low (pa d)) (met (tg (ne d)))) := by
    by_cases hlt' : met (tg (ne d)) < low (pa d)
    · rw [if_pos ((i32_lt (by omega) (by omega)).mpr hlt'), show min (low (pa d)) (met (tg (ne d))) = met (tg (ne d)) by omega]
    · rw [if_neg (fun z => hlt' ((i32_lt (by omega) (by omega)).mp z)), show min (low (pa d)) (met (tg (ne d))) = low (pa d) by omega]
  have cs : fX4_visit_S30 F (Int32.ofNat n) A30 A35 (Int32.ofNat (fs n + n)) (Int32.ofNat d) (Int32.ofNat T) (Int32.ofNat clk) (Int32.ofNat hgt) A44 A46 A48 A50 A52 A54 = some (.inr (Int32.ofNat d, Int32.ofNat (T + 1), Int32.ofNat clk, Int32.ofNat hgt, A44, A46, cPut 6000 A48 (Int32.ofNat (pa d)) (Int32.ofNat (min (low (pa d)) (met (tg (ne d))))), A50, A52, cPut 6000 A54 (Int32.ofNat d) (Int32.ofNat (ne d + 1)))) := by
    unfold fX4_visit_S30 fX4_visit_J152 fX4_visit_J190 fX4_lower
    rw [if_neg hcl, if_neg hdn, q52, q54, i32_succ, hC.1 _ (by omega), if_neg hcn, (hC.2 _ hlt).1, if_neg c46, if_pos c44, c46', c48, hmin]
    simp only [i32_succ]
  have ms : ∃ B88, fX12_walks_S14 F A81 A82 (Int32.ofNat d) (Int32.ofNat hgt) (Int32.ofNat np) (Int32.ofNat clk) A87 A88 A89 A90 A91 A92 A93 = some (.inr (Int32.ofNat d, Int32.ofNat hgt, Int32.ofNat np, Int32.ofNat clk, A87, B88, A89, A90, A91, A92, upd A93 (pa d) (Int32.ofNat (ne d + 1)))) ∧ ∀ v, B88 v = if v = pa d then Int32.ofNat (min (low (pa d)) (met (tg (ne d))) - 1) else A88 v := by
    have r88 := m88 _ s1 s2
    unfold fX12_walks_S14 fX12_walks_J186
    by_cases hlt' : low (pa d) ≤ met (tg (ne d))
    · have hc : Int32.ofNat (low (pa d) - 1) ≤ Int32.ofNat (met (tg (ne d)) - 1) := (i32_le (by omega) (by omega)).mpr (by omega)
      simp only [if_neg hdn, i32_succ, i1, i2, i3, i4, i5, t1, t2, t3, t4, t5, r92, r93, a81, c82, r89, r91, r88, h0le, hc, if_neg hmne, show ¬ (1 : Int32) = 0 by decide, ↓reduceIte, Option.bind_some]
      refine ⟨_, rfl, fun v => ?_⟩
      by_cases hv : v = pa d
      · rw [if_pos hv, hv, r88, show min (low (pa d)) (met (tg (ne d))) = low (pa d) by omega]
      · rw [if_neg hv]
    · have hc : ¬ Int32.ofNat (low (pa d) - 1) ≤ Int32.ofNat (met (tg (ne d)) - 1) := fun z => by have := (i32_le (by omega) (by omega)).mp z; omega
      simp only [if_neg hdn, i32_succ, i1, i2, i3, i4, i5, t1, t2, t3, t4, t5, r92, r93, a81, c82, r89, r91, r88, h0le, hc, if_neg hmne, show ¬ (1 : Int32) = 0 by decide, ↓reduceIte, Option.bind_some]
      refine ⟨_, rfl, fun v => ?_⟩
      by_cases hv : v = pa d
      · rw [if_pos hv, hv, upd_at, show min (low (pa d)) (met (tg (ne d))) = met (tg (ne d)) by omega]
      · rw [if_neg hv, upd_ne hv]
  obtain ⟨B88, ms, hB88⟩ := ms
  refine ⟨_, _, cs, ms, ⟨T + 1, clk, hgt, d + 1, np, met, _, st, pa, _, prt, W, hlow, fun v hv hmv => ?_, by omega, (dI_s d).symm, rfl, rfl, rfl, ⟨h44, h46, fun v hv hmv => ?_, h50, h52, put54⟩, (dI_s d).symm, rfl, rfl, rfl, ⟨fun v hv hmv => ?_, m89, m90, m91, m87, m92, put93⟩, fun z => absurd z (by omega), hmk⟩, hTlt, rfl⟩
  · by_cases hvp : v = pa d
    · subst hvp; rw [updN_at]; omega
    · rw [updN_ne hvp]; exact hLwP v hv hmv
  · show cAt 6000 (cPut 6000 A48 (Int32.ofNat (pa d)) (Int32.ofNat (min (low (pa d)) (met (tg (ne d)))))) (Int32.ofNat v) = _
    rw [cAt_put (by omega) (by decide) (by omega)]
    by_cases hvp : v = pa d
    · subst hvp; rw [if_pos rfl, updN_at]
    · rw [if_neg hvp, updN_ne hvp]; exact h48 v hv hmv
  · show B88 v = _
    rw [hB88]
    by_cases hvp : v = pa d
    · subst hvp; rw [if_pos rfl, updN_at]
    · rw [if_neg hvp, updN_ne hvp]; exact m88 v hv hmv

theorem walk_push (hG : Gr n fs tg) (hC : CGr n fs tg ot A30 A35) (hM : MGr n fs tg ot A81 A82 A83) {F : Nat} (hF : 70000 ≤ F) {T clk hgt d np : Nat} {met low st pa ne prt W : Nat → Nat} {A44 A46 A48 A50 A52 A54 A87 A88 A89 A90 A91 A92 A93 : Nat → Int32} (H : DI n fs tg ot clk hgt (d + 1) np met low st pa ne prt W) (hLwP : LwP n clk met low) (hT : T + phi n fs (d + 1) met pa ne ≤ fs n + n) (hCD : CDr n hgt (d + 1) met low st pa ne prt W A44 A46 A48 A50 A52 A54) (hMD : MDr n hgt (d + 1) met low st pa ne prt A87 A88 A89 A90 A91 A92 A93) {mk : Nat → Prop} (hmk : ∀ u, mk u → met u ≠ 0) (he : ne d < fs (pa d + 1)) (hm : met (tg (ne d)) = 0) : ∃ s' t', fX4_visit_S30 F (Int32.ofNat n) A30 A35 (Int32.ofNat (fs n + n)) (Int32.ofNat d) (Int32.ofNat T) (Int32.ofNat clk) (Int32.ofNat hgt) A44 A46 A48 A50 A52 A54 = some (.inr s') ∧ fX12_walks_S14 F A81 A82 (Int32.ofNat d) (Int32.ofNat hgt) (Int32.ofNat np) (Int32.ofNat clk) A87 A88 A89 A90 A91 A92 A93 = some (.inr t') ∧ LR n fs tg ot mk s' t' ∧ T < fs n + n ∧ s'.2.1 = Int32.ofNat (T + 1) := by
  obtain ⟨h44, h46, h48, h50, h52, h54⟩ := hCD
  obtain ⟨m88, m89, m90, m91, m87, m92, m93⟩ := hMD
  have hn6 := hG.2.1
  have h60 := hG.2.2.2.2.1
  obtain ⟨bn1, bn2, bn3, bn4⟩ := di_bounds H
  obtain ⟨a1, a2, b1, b2, b3, b4, c1, c2, c3, d1, e1, e2, gg1, gg2, gg3, hh⟩ := id H
  obtain ⟨s1, s2, s3, s4, s5⟩ := c1 d (by omega)
  have hmn := gr_mono hG (show pa d + 1 ≤ n by omega) (Nat.le_refl _)
  have hphi : 1 ≤ phi n fs (d + 1) met pa ne := by
    unfold phi
    simp only [sumTo]
    omega
  have hTlt : T < fs n + n := by omega
  have hpainj : ∀ i, i < d + 1 → pa i = pa d → i = d := by
    intro i hi hp
    rcases Nat.lt_or_ge i d with hlt | hge
    · have := c2 i d hlt (by omega); rw [hp] at this; omega
    · omega
  have q52 := h52 d (by omega)
  have q54 := h54 d (by omega)
  have r92 := m92 d (by omega)
  have r93 := m93 d (by omega)
  have i1 : inb (Int32.ofNat d) 6001 = true := inb_t (by omega) (by omega)
  have i2 : inb (Int32.ofNat (pa d)) 6001 = true := inb_t (by omega) (by omega)
  have i3 : inb (Int32.ofNat (pa d + 1)) 6002 = true := inb_t (by omega) (by omega)
  have t1 : (Int32.ofNat d).toNatClampNeg = d := tnc (by omega)
  have t2 : (Int32.ofNat (pa d)).toNatClampNeg = pa d := tnc (by omega)
  have t3 : (Int32.ofNat (pa d + 1)).toNatClampNeg = pa d + 1 := tnc (by omega)
  have a81 := hM.1 (pa d + 1) (by omega)
  have hdn : ¬ Int32.ofNat d < 0 := i32_nneg (by omega)
  have hcl : ¬ Int32.ofNat (fs n + n) ≤ Int32.ofNat T := fun z => by have := (i32_le (by omega) (by omega)).mp z; omega
  have hlt : ne d < fs n := by omega
  have htn := hG.2.2.2.2.2 _ hlt
  have hcn : ¬ Int32.ofNat (fs (pa d + 1)) ≤ Int32.ofNat (ne d) := fun z => by have := (i32_le (by omega) (by omega)).mp z; omega
  have hmne : ¬ Int32.ofNat (ne d) = Int32.ofNat (fs (pa d + 1)) := fun z => by have := (i32_eq (by omega) (by omega)).mp z; omega
  have c82 := (hM.2 _ hlt).1
  have i4 : inb (Int32.ofNat (ne d)) 84000 = true := inb_t (by omega) (by omega)
  have i5 : inb (Int32.ofNat (tg (ne d))) 6001 = true := inb_t (by omega) (by omega)
  have t4 : (Int32.ofNat (ne d)).toNatClampNeg = ne d := tnc (by omega)
  have t5 : (Int32.ofNat (tg (ne d))).toNatClampNeg = tg (ne d) := tnc (by omega)
  have put54 : ∀ i, i < d + 1 → cAt 6000 (cPut 6000 A54 (Int32.ofNat d) (Int32.ofNat (ne d + 1))) (Int32.ofNat i) = Int32.ofNat (updN ne d (ne d + 1) i) := by
    intro i hi
    rw [cAt_put (by omega) (by decide) (by omega)]
    by_cases hid : i = d
    · subst hid; rw [if_pos rfl, updN_at]
    · rw [if_neg hid, updN_ne hid]; exact h54 i hi
  have put93 : ∀ i, i < d + 1 → upd A93 (pa d) (Int32.ofNat (ne d + 1)) (pa i) = Int32.ofNat (updN ne d (ne d + 1) i) := by
    intro i hi
    by_cases hid : i = d
    · subst hid; rw [upd_at, updN_at]
    · rw [upd_ne (fun z => hid (hpainj i hi z)), updN_ne hid]; exact m93 i hi
  have hphi' := phi_look (n := n) (met := met) he
  have hclk : clk < n := by rw [← a1]; exact cntN_lt htn hm
  have hphi2 := phi_push (clk := clk) (n := n) htn hm he
  have hpush := di_push H hG he hm
  have c46 : cAt 6000 A46 (Int32.ofNat (tg (ne d))) = 0 := by rw [h46 _ htn, hm]; rfl
  have r89 : A89 (tg (ne d)) = -1 := by rw [m89 _ htn, if_pos hm]
  have cs : fX4_visit_S30 F (Int32.ofNat n) A30 A35 (Int32.ofNat (fs n + n)) (Int32.ofNat d) (Int32.ofNat T) (Int32.ofNat clk) (Int32.ofNat hgt) A44 A46 A48 A50 A52 A54 = some (.inr (Int32.ofNat (d + 1), Int32.ofNat (T + 1), Int32.ofNat (clk + 1), Int32.ofNat (hgt + 1), A44, cPut 6000 A46 (Int32.ofNat (tg (ne d))) (Int32.ofNat (clk + 1)), cPut 6000 A48 (Int32.ofNat (tg (ne d))) (Int32.ofNat (clk + 1)), cPut 6000 A50 (Int32.ofNat hgt) (Int32.ofNat (tg (ne d))), cPut 6000 A52 (Int32.ofNat (d + 1)) (Int32.ofNat (tg (ne d))), cPut 6000 (cPut 6000 A54 (Int32.ofNat d) (Int32.ofNat (ne d + 1))) (Int32.ofNat (d + 1)) (Int32.ofNat (fs (tg (ne d)))))) := by
    unfold fX4_visit_S30 fX4_visit_J152 fX4_visit_J190 fX4_enter
    rw [if_neg hcl, if_neg hdn, q52, q54, i32_succ, hC.1 _ (by omega), if_neg hcn, (hC.2 _ hlt).1, if_pos c46, hC.1 _ (by omega)]
    simp only [i32_succ]
  have ms : fX12_walks_S14 F A81 A82 (Int32.ofNat d) (Int32.ofNat hgt) (Int32.ofNat np) (Int32.ofNat clk) A87 A88 A89 A90 A91 A92 A93 = some (.inr (Int32.ofNat (d + 1), Int32.ofNat (hgt + 1), Int32.ofNat np, Int32.ofNat (clk + 1), A87, upd A88 (tg (ne d)) (Int32.ofNat clk), upd A89 (tg (ne d)) (Int32.ofNat clk), upd A90 hgt (Int32.ofNat (tg (ne d))), upd A91 (tg (ne d)) 1, upd A92 (d + 1) (Int32.ofNat (tg (ne d))), upd (upd A93 (pa d) (Int32.ofNat (ne d + 1))) (tg (ne d)) (Int32.ofNat (fs (tg (ne d)))))) := by
    have i6 : inb (Int32.ofNat (d + 1)) 6001 = true := inb_t (by omega) (by omega)
    have i7 : inb (Int32.ofNat hgt) 6001 = true := inb_t (by omega) (by omega)
    have i8 : inb (Int32.ofNat (tg (ne d))) 6002 = true := inb_t (by omega) (by omega)
    have t6 : (Int32.ofNat (d + 1)).toNatClampNeg = d + 1 := tnc (by omega)
    have t7 : (Int32.ofNat hgt).toNatClampNeg = hgt := tnc (by omega)
    have a81' := hM.1 (tg (ne d)) (by omega)
    unfold fX12_walks_S14 fX12_walks_J186 fX12_enters
    simp only [if_neg hdn, i32_succ, i1, i2, i3, i4, i5, i6, i7, i8, t1, t2, t3, t4, t5, t6, t7, r92, r93, a81, a81', c82, r89, if_neg hmne, show ¬ (0 : Int32) ≤ -1 by decide, ↓reduceIte, Option.bind_some]
  refine ⟨_, _, cs, ms, ⟨T + 1, clk + 1, hgt + 1, d + 2, np, _, _, _, _, _, prt, W, hpush, fun v hv hmv => ?_, by omega, (dI_s (d + 1)).symm, rfl, rfl, rfl, ⟨h44, fun v hv => ?_, fun v hv hmv => ?_, fun i hi => ?_, fun i hi => ?_, fun i hi => ?_⟩, (dI_s (d + 1)).symm, rfl, rfl, rfl, ⟨fun v hv hmv => ?_, fun v hv => ?_, fun i hi => ?_, fun v hv hmv => ?_, m87, fun i hi => ?_, fun i hi => ?_⟩, fun z => absurd z (by omega), fun u hu => by
        by_cases hut : u = tg (ne d)
        · rw [hut, updN_at]; omega
        · rw [updN_ne hut]; exact hmk u hu⟩, hTlt, rfl⟩
  · by_cases hvt : v = tg (ne d)
    · subst hvt; rw [updN_at]; omega
    · rw [updN_ne hvt] at hmv ⊢; have := hLwP v hv hmv; omega
  · show cAt 6000 (cPut 6000 A46 (Int32.ofNat (tg (ne d))) (Int32.ofNat (clk + 1))) (Int32.ofNat v) = _
    rw [cAt_put (by omega) (by decide) (by omega)]
    by_cases hvt : v = tg (ne d)
    · subst hvt; rw [if_pos rfl, updN_at]
    · rw [if_neg hvt, updN_ne hvt]; exact h46 v hv
  · show cAt 6000 (cPut 6000 A48 (Int32.ofNat (tg (ne d))) (Int32.ofNat (clk + 1))) (Int32.ofNat v) = _
    rw [cAt_put (by omega) (by decide) (by omega)]
    by_cases hvt : v = tg (ne d)
    · subst hvt; rw [if_pos rfl, updN_at]
    · rw [updN_ne hvt] at hmv; rw [if_neg hvt, updN_ne hvt]; exact h48 v hv hmv
  · show cAt 6000 (cPut 6000 A50 (Int32.ofNat hgt) (Int32.ofNat (tg (ne d)))) (Int32.ofNat i) = _
    rw [cAt_put (by omega) (by decide) (by omega)]
    by_cases hih : i = hgt
    · subst hih; rw [if_pos rfl, updN_at]
    · rw [if_neg hih, updN_ne hih]; exact h50 i (by omega)
  · show cAt 6000 (cPut 6000 A52 (Int32.ofNat (d + 1)) (Int32.ofNat (tg (ne d)))) (Int32.ofNat i) = _
    rw [cAt_put (by omega) (by decide) (by omega)]
    by_cases hid : i = d + 1
    · subst hid; rw [if_pos rfl, updN_at]
    · rw [if_neg hid, updN_ne hid]; exact h52 i (by omega)
  · show cAt 6000 (cPut 6000 (cPut 6000 A54 (Int32.ofNat d) (Int32.ofNat (ne d + 1))) (Int32.ofNat (d + 1)) (Int32.ofNat (fs (tg (ne d))))) (Int32.ofNat i) = _
    rw [cAt_put (by omega) (by decide) (by omega)]
    by_cases hid : i = d + 1
    · subst hid; rw [if_pos rfl, updN_at]
    · rw [if_neg hid, updN_ne hid]; exact put54 i (by omega)
  · show upd A88 (tg (ne d)) (Int32.ofNat clk) v = _
    by_cases hvt : v = tg (ne d)
    · subst hvt; rw [upd_at, updN_at, Nat.add_sub_cancel]
    · rw [updN_ne hvt] at hmv; rw [upd_ne hvt, updN_ne hvt]; exact m88 v hv hmv
  · show upd A89 (tg (ne d)) (Int32.ofNat clk) v = _
    by_cases hvt : v = tg (ne d)
    · subst hvt; rw [upd_at, updN_at, if_neg (by omega), Nat.add_sub_cancel]
    · rw [upd_ne hvt, updN_ne hvt]; exact m89 v hv
  · show upd A90 hgt (Int32.ofNat (tg (ne d))) i = _
    by_cases hih : i = hgt
    · subst hih; rw [upd_at, updN_at]
    · rw [upd_ne hih, updN_ne hih]; exact m90 i (by omega)
  · show upd A91 (tg (ne d)) 1 v = _
    by_cases hvt : v = tg (ne d)
    · subst hvt; rw [upd_at, if_pos (b4 _ hv hm)]
    · rw [updN_ne hvt] at hmv; rw [upd_ne hvt]; exact m91 v hv hmv
  · show upd A92 (d + 1) (Int32.ofNat (tg (ne d))) i = _
    by_cases hid : i = d + 1
    · subst hid; rw [upd_at, updN_at]
    · rw [upd_ne hid, updN_ne hid]; exact m92 i (by omega)
  · show upd (upd A93 (pa d) (Int32.ofNat (ne d + 1))) (tg (ne d)) (Int32.ofNat (fs (tg (ne d)))) (updN pa (d + 1) (tg (ne d)) i) = _
    by_cases hid : i = d + 1
    · subst hid; rw [updN_at, upd_at, updN_at]
    · have hpt : pa i ≠ tg (ne d) := fun z => by have := (c1 i (by omega)).2.1; rw [z] at this; exact this hm
      rw [updN_ne (show i ≠ d + 1 from hid), upd_ne hpt, updN_ne (show i ≠ d + 1 from hid)]
      exact put93 i (by omega)

theorem S14_lv {F : Nat} {A81 : Nat → Int32} {A82 : Nat → Int32} {v2 : Int32} {x69_43 : Int32} {x69_44 : Int32} {x69_45 : Int32} {A87 : Nat → Int32} {A88 : Nat → Int32} {A89 : Nat → Int32} {A90 : Nat → Int32} {A91 : Nat → Int32} {A92 : Nat → Int32} {A93 : Nat → Int32} (h0 : ¬ (v2 < 0)) (h1 : inb v2 6001 = true) (h2 : inb (A92 v2.toNatClampNeg) 6001 = true) (h3 : inb ((A92 v2.toNatClampNeg) + 1) 6002 = true) (h4 : (A93 (A92 v2.toNatClampNeg).toNatClampNeg) = (A81 ((A92 v2.toNatClampNeg) + 1).toNatClampNeg)) : fX12_walks_S14 F A81 A82 v2 x69_43 x69_44 x69_45 A87 A88 A89 A90 A91 A92 A93 = ((fX12_leaves F A88 A89 A90 x69_43 x69_44 A87 A91 (A92 v2.toNatClampNeg)).bind (fun r28 => (if (v2 + (-1)) < 0 then some (Sum.inr (v2 + (-1), r28.1, r28.2.1, x69_45, r28.2.2.1, A88, A89, A90, r28.2.2.2, A92, A93)) else (if inb (A92 v2.toNatClampNeg) 6001 = true then (if inb (v2 + (-1)) 6001 = true then (if inb (A92 (v2 + (-1)).toNatClampNeg) 6001 = true then (if (A88 (A92 (v2 + (-1)).toNatClampNeg).toNatClampNeg) ≤ (A88 (A92 v2.toNatClampNeg).toNatClampNeg) then some (Sum.inr (v2 + (-1), r28.1, r28.2.1, x69_45, r28.2.2.1, A88, A89, A90, r28.2.2.2, A92, A93)) else (if inb (v2 + (-1)) 6001 = true then (if inb (A92 v2.toNatClampNeg) 6001 = true then (if inb (A92 (v2 + (-1)).toNatClampNeg) 6001 = true then some (Sum.inr (v2 + (-1), r28.1, r28.2.1, x69_45, r28.2.2.1, upd A88 (A92 (v2 + (-1)).toNatClampNeg).toNatClampNeg (A88 (A92 v2.toNatClampNeg).toNatClampNeg), A89, A90, r28.2.2.2, A92, A93)) else none) else none) else none)) else none) else none) else none)))) := by
  unfold fX12_walks_S14
  rw [if_neg h0, if_pos h1, if_pos h2, if_pos h3, if_pos h4]

theorem walk_key0 (hG : Gr n fs tg) (hC : CGr n fs tg ot A30 A35) (hM : MGr n fs tg ot A81 A82 A83) {F : Nat} (hF : 70000 ≤ F) {T clk hgt d np : Nat} {met low st pa ne prt W : Nat → Nat} {A44 A46 A48 A50 A52 A54 A87 A88 A89 A90 A91 A92 A93 : Nat → Int32} (H : DI n fs tg ot clk hgt (d + 1) np met low st pa ne prt W) (hLwP : LwP n clk met low) (hT : T + phi n fs (d + 1) met pa ne ≤ fs n + n) (hCD : CDr n hgt (d + 1) met low st pa ne prt W A44 A46 A48 A50 A52 A54) (hMD : MDr n hgt (d + 1) met low st pa ne prt A87 A88 A89 A90 A91 A92 A93) {mk : Nat → Prop} (hmk : ∀ u, mk u → met u ≠ 0) (he : ¬ ne d < fs (pa d + 1)) (hd0 : d = 0) : ∀ (hgt' np' : Nat) (prt' W' : Nat → Nat) (B44 B87 B91 : Nat → Int32), fX4_closeAt F A30 A35 A46 A48 A50 (Int32.ofNat hgt) A44 (Int32.ofNat (pa d)) = some (Int32.ofNat hgt', B44) → fX12_leaves F A88 A89 A90 (Int32.ofNat hgt) (Int32.ofNat np) A87 A91 (Int32.ofNat (pa d)) = some (Int32.ofNat hgt', Int32.ofNat np', B87, B91) → DI n fs tg ot clk hgt' d np' met (lowUp d low pa) st pa ne prt' W' → hgt' ≤ hgt → (d = 0 → hgt' = 0) → AW n prt' W' B44 → (∀ v, v < n → met v ≠ 0 → B91 v = if prt' v = 0 then 1 else 0) → (∀ v, v < n → prt' v ≠ 0 → B87 v = Int32.ofNat (prt' v - 1)) → ∃ s' t', fX4_visit_S30 F (Int32.ofNat n) A30 A35 (Int32.ofNat (fs n + n)) (Int32.ofNat d) (Int32.ofNat T) (Int32.ofNat clk) (Int32.ofNat hgt) A44 A46 A48 A50 A52 A54 = some (.inr s') ∧ fX12_walks_S14 F A81 A82 (Int32.ofNat d) (Int32.ofNat hgt) (Int32.ofNat np) (Int32.ofNat clk) A87 A88 A89 A90 A91 A92 A93 = some (.inr t') ∧ LR n fs tg ot mk s' t' ∧ T < fs n + n ∧ s'.2.1 = Int32.ofNat (T + 1) := by
  obtain ⟨h44, h46, h48, h50, h52, h54⟩ := hCD
  obtain ⟨m88, m89, m90, m91, m87, m92, m93⟩ := hMD
  have hn6 := hG.2.1
  have h60 := hG.2.2.2.2.1
  obtain ⟨bn1, bn2, bn3, bn4⟩ := di_bounds H
  obtain ⟨a1, a2, b1, b2, b3, b4, c1, c2, c3, d1, e1, e2, gg1, gg2, gg3, hh⟩ := id H
  obtain ⟨s1, s2, s3, s4, s5⟩ := c1 d (by omega)
  have hmn := gr_mono hG (show pa d + 1 ≤ n by omega) (Nat.le_refl _)
  have hphi : 1 ≤ phi n fs (d + 1) met pa ne := by
    unfold phi
    simp only [sumTo]
    omega
  have hTlt : T < fs n + n := by omega
  have hpainj : ∀ i, i < d + 1 → pa i = pa d → i = d := by
    intro i hi hp
    rcases Nat.lt_or_ge i d with hlt | hge
    · have := c2 i d hlt (by omega); rw [hp] at this; omega
    · omega
  have q52 := h52 d (by omega)
  have q54 := h54 d (by omega)
  have r92 := m92 d (by omega)
  have r93 := m93 d (by omega)
  have i1 : inb (Int32.ofNat d) 6001 = true := inb_t (by omega) (by omega)
  have i2 : inb (Int32.ofNat (pa d)) 6001 = true := inb_t (by omega) (by omega)
  have i3 : inb (Int32.ofNat (pa d + 1)) 6002 = true := inb_t (by omega) (by omega)
  have t1 : (Int32.ofNat d).toNatClampNeg = d := tnc (by omega)
  have t2 : (Int32.ofNat (pa d)).toNatClampNeg = pa d := tnc (by omega)
  have t3 : (Int32.ofNat (pa d + 1)).toNatClampNeg = pa d + 1 := tnc (by omega)
  have a81 := hM.1 (pa d + 1) (by omega)
  have hdn : ¬ Int32.ofNat d < 0 := i32_nneg (by omega)
  have hcl : ¬ Int32.ofNat (fs n + n) ≤ Int32.ofNat T := fun z => by have := (i32_le (by omega) (by omega)).mp z; omega
  have he' : ne d = fs (pa d + 1) := by omega
  have hphi' := phi_leave (n := n) (met := met) he'
  have hcn : Int32.ofNat (fs (pa d + 1)) ≤ Int32.ofNat (ne d) := (i32_le (by omega) (by omega)).mpr (by omega)
  have hls := hLwP _ s1 s2
  have c48 := h48 _ s1 s2
  have c46' := h46 _ s1
  have r88 := m88 _ s1 s2
  have r89 : A89 (pa d) = Int32.ofNat (met (pa d) - 1) := by rw [m89 _ s1, if_neg s2]
  have hms := a2 _ s1
  -- what is lowered behind it
  have hlowc : ∀ v, v < n → met v ≠ 0 → (if d = 0 then cAt 6000 A48 (Int32.ofNat v) else cAt 6000 (cPut 6000 A48 (Int32.ofNat (pa (d - 1))) (Int32.ofNat (min (low (pa (d - 1))) (low (pa d))))) (Int32.ofNat v)) = Int32.ofNat (lowUp d low pa v) := by
    intro v hv hmv
    unfold lowUp
    by_cases hd0 : d = 0
    · rw [if_pos hd0, if_pos hd0]; exact h48 v hv hmv
    · have hpp := (c1 (d - 1) (by omega)).1
      rw [if_neg hd0, if_neg hd0, cAt_put (by omega) (by decide) (by omega)]
      by_cases hvp : v = pa (d - 1)
      · rw [if_pos hvp, hvp, updN_at]
      · rw [if_neg hvp, updN_ne hvp]; exact h48 v hv hmv
  have hLwP' : LwP n clk met (lowUp d low pa) := by
    intro v hv hmv
    have h1 := hLwP v hv hmv
    have h2 := lowUp_le d low pa v
    refine ⟨?_, by omega⟩
    unfold lowUp
    by_cases hd0 : d = 0
    · rw [if_pos hd0]; exact h1.1
    · rw [if_neg hd0]
      by_cases hvp : v = pa (d - 1)
      · subst hvp; rw [updN_at]; omega
      · rw [updN_ne hvp]; exact h1.1
  intro hgt' np' prt' W' B44 B87 B91 ec em hDI hh' hz hAW hB91 hB87
  have hneg : dI d < 0 := (dI_neg (by omega)).mpr hd0
  have cs : fX4_visit_S30 F (Int32.ofNat n) A30 A35 (Int32.ofNat (fs n + n)) (Int32.ofNat d) (Int32.ofNat T) (Int32.ofNat clk) (Int32.ofNat hgt) A44 A46 A48 A50 A52 A54 = some (.inr (dI d, Int32.ofNat (T + 1), Int32.ofNat clk, Int32.ofNat hgt', B44, A46, A48, A50, A52, A54)) := by
    unfold fX4_visit_S30 fX4_visit_J190
    rw [if_neg hcl, if_neg hdn, q52, q54, i32_succ, hC.1 _ (by omega), if_pos hcn, ec, Option.bind_some, dI_down, if_pos hneg, i32_succ]
  have ms : fX12_walks_S14 F A81 A82 (Int32.ofNat d) (Int32.ofNat hgt) (Int32.ofNat np) (Int32.ofNat clk) A87 A88 A89 A90 A91 A92 A93 = some (.inr (dI d, Int32.ofNat hgt', Int32.ofNat np', Int32.ofNat clk, B87, A88, A89, A90, B91, A92, A93)) := by
    have r93' : A93 (pa d) = Int32.ofNat (fs (pa d + 1)) := by rw [r93, he']
    rw [S14_lv hdn i1 (by rw [t1, r92]; exact i2) (by rw [t1, r92, i32_succ]; exact i3) (by rw [t1, r92, t2, i32_succ, t3, r93', a81]), t1, r92, em, Option.bind_some, dI_down, if_pos hneg]
  have hlu : lowUp d low pa = low := by unfold lowUp; rw [if_pos hd0]
  refine ⟨_, _, cs, ms, ⟨T + 1, clk, hgt', d, np', met, _, st, pa, ne, prt', W', hDI, hLwP', by omega, rfl, rfl, rfl, rfl, ⟨hAW, h46, fun v hv hmv => ?_, fun i hi => h50 i (by omega), fun i hi => h52 i (by omega), fun i hi => h54 i (by omega)⟩, rfl, rfl, rfl, rfl, ⟨fun v hv hmv => ?_, m89, fun i hi => m90 i (by omega), hB91, hB87, fun i hi => m92 i (by omega), fun i hi => m93 i (by omega)⟩, hz, hmk⟩, hTlt, rfl⟩
  · have := hlowc v hv hmv
    rw [if_pos hd0] at this; exact this
  · rw [hlu]; exact m88 v hv hmv

theorem walk_key1 (hG : Gr n fs tg) (hC : CGr n fs tg ot A30 A35) (hM : MGr n fs tg ot A81 A82 A83) {F : Nat} (hF : 70000 ≤ F) {T clk hgt d np : Nat} {met low st pa ne prt W : Nat → Nat} {A44 A46 A48 A50 A52 A54 A87 A88 A89 A90 A91 A92 A93 : Nat → Int32} (H : DI n fs tg ot clk hgt (d + 1) np met low st pa ne prt W) (hLwP : LwP n clk met low) (hT : T + phi n fs (d + 1) met pa ne ≤ fs n + n) (hCD : CDr n hgt (d + 1) met low st pa ne prt W A44 A46 A48 A50 A52 A54) (hMD : MDr n hgt (d + 1) met low st pa ne prt A87 A88 A89 A90 A91 A92 A93) {mk : Nat → Prop} (hmk : ∀ u, mk u → met u ≠ 0) (he : ¬ ne d < fs (pa d + 1)) (hd0 : ¬ d = 0) : ∀ (hgt' np' : Nat) (prt' W' : Nat → Nat) (B44 B87 B91 : Nat → Int32), fX4_closeAt F A30 A35 A46 A48 A50 (Int32.ofNat hgt) A44 (Int32.ofNat (pa d)) = some (Int32.ofNat hgt', B44) → fX12_leaves F A88 A89 A90 (Int32.ofNat hgt) (Int32.ofNat np) A87 A91 (Int32.ofNat (pa d)) = some (Int32.ofNat hgt', Int32.ofNat np', B87, B91) → DI n fs tg ot clk hgt' d np' met (lowUp d low pa) st pa ne prt' W' → hgt' ≤ hgt → (d = 0 → hgt' = 0) → AW n prt' W' B44 → (∀ v, v < n → met v ≠ 0 → B91 v = if prt' v = 0 then 1 else 0) → (∀ v, v < n → prt' v ≠ 0 → B87 v = Int32.ofNat (prt' v - 1)) → ∃ s' t', fX4_visit_S30 F (Int32.ofNat n) A30 A35 (Int32.ofNat (fs n + n)) (Int32.ofNat d) (Int32.ofNat T) (Int32.ofNat clk) (Int32.ofNat hgt) A44 A46 A48 A50 A52 A54 = some (.inr s') ∧ fX12_walks_S14 F A81 A82 (Int32.ofNat d) (Int32.ofNat hgt) (Int32.ofNat np) (Int32.ofNat clk) A87 A88 A89 A90 A91 A92 A93 = some (.inr t') ∧ LR n fs tg ot mk s' t' ∧ T < fs n + n ∧ s'.2.1 = Int32.ofNat (T + 1) := by
  obtain ⟨h44, h46, h48, h50, h52, h54⟩ := hCD
  obtain ⟨m88, m89, m90, m91, m87, m92, m93⟩ := hMD
  have hn6 := hG.2.1
  have h60 := hG.2.2.2.2.1
  obtain ⟨bn1, bn2, bn3, bn4⟩ := di_bounds H
  obtain ⟨a1, a2, b1, b2, b3, b4, c1, c2, c3, d1, e1, e2, gg1, gg2, gg3, hh⟩ := id H
  obtain ⟨s1, s2, s3, s4, s5⟩ := c1 d (by omega)
  have hmn := gr_mono hG (show pa d + 1 ≤ n by omega) (Nat.le_refl _)
  have hphi : 1 ≤ phi n fs (d + 1) met pa ne := by
    unfold phi
    simp only [sumTo]
    omega
  have hTlt : T < fs n + n := by omega
  have hpainj : ∀ i, i < d + 1 → pa i = pa d → i = d := by
    intro i hi hp
    rcases Nat.lt_or_ge i d with hlt | hge
    · have := c2 i d hlt (by omega); rw [hp] at this; omega
    · omega
  have q52 := h52 d (by omega)
  have q54 := h54 d (by omega)
  have r92 := m92 d (by omega)
  have r93 := m93 d (by omega)
  have i1 : inb (Int32.ofNat d) 6001 = true := inb_t (by omega) (by omega)
  have i2 : inb (Int32.ofNat (pa d)) 6001 = true := inb_t (by omega) (by omega)
  have i3 : inb (Int32.ofNat (pa d + 1)) 6002 = true := inb_t (by omega) (by omega)
  have t1 : (Int32.ofNat d).toNatClampNeg = d := tnc (by omega)
  have t2 : (Int32.ofNat (pa d)).toNatClampNeg = pa d := tnc (by omega)
  have t3 : (Int32.ofNat (pa d + 1)).toNatClampNeg = pa d + 1 := tnc (by omega)
  have a81 := hM.1 (pa d + 1) (by omega)
  have hdn : ¬ Int32.ofNat d < 0 := i32_nneg (by omega)
  have hcl : ¬ Int32.ofNat (fs n + n) ≤ Int32.ofNat T := fun z => by have := (i32_le (by omega) (by omega)).mp z; omega
  have he' : ne d = fs (pa d + 1) := by omega
  have hphi' := phi_leave (n := n) (met := met) he'
  have hcn : Int32.ofNat (fs (pa d + 1)) ≤ Int32.ofNat (ne d) := (i32_le (by omega) (by omega)).mpr (by omega)
  have hls := hLwP _ s1 s2
  have c48 := h48 _ s1 s2
  have c46' := h46 _ s1
  have r88 := m88 _ s1 s2
  have r89 : A89 (pa d) = Int32.ofNat (met (pa d) - 1) := by rw [m89 _ s1, if_neg s2]
  have hms := a2 _ s1
  -- what is lowered behind it
  have hlowc : ∀ v, v < n → met v ≠ 0 → (if d = 0 then cAt 6000 A48 (Int32.ofNat v) else cAt 6000 (cPut 6000 A48 (Int32.ofNat (pa (d - 1))) (Int32.ofNat (min (low (pa (d - 1))) (low (pa d))))) (Int32.ofNat v)) = Int32.ofNat (lowUp d low pa v) := by
    intro v hv hmv
    unfold lowUp
    by_cases hd0 : d = 0
    · rw [if_pos hd0, if_pos hd0]; exact h48 v hv hmv
    · have hpp := (c1 (d - 1) (by omega)).1
      rw [if_neg hd0, if_neg hd0, cAt_put (by omega) (by decide) (by omega)]
      by_cases hvp : v = pa (d - 1)
      · rw [if_pos hvp, hvp, updN_at]
      · rw [if_neg hvp, updN_ne hvp]; exact h48 v hv hmv
  have hLwP' : LwP n clk met (lowUp d low pa) := by
    intro v hv hmv
    have h1 := hLwP v hv hmv
    have h2 := lowUp_le d low pa v
    refine ⟨?_, by omega⟩
    unfold lowUp
    by_cases hd0 : d = 0
    · rw [if_pos hd0]; exact h1.1
    · rw [if_neg hd0]
      by_cases hvp : v = pa (d - 1)
      · subst hvp; rw [updN_at]; omega
      · rw [updN_ne hvp]; exact h1.1
  intro hgt' np' prt' W' B44 B87 B91 ec em hDI hh' hz hAW hB91 hB87
  have hdd : d - 1 < d + 1 := by omega
  obtain ⟨p1, p2, p3, p4, p5⟩ := c1 (d - 1) hdd
  have hlp := hLwP _ p1 p2
  have hneg : ¬ Int32.ofNat (d - 1) < 0 := i32_nneg (by omega)
  have q52' := h52 (d - 1) (by omega)
  have c48' := h48 _ p1 p2
  have r92' := m92 (d - 1) (by omega)
  have r88' := m88 _ p1 p2
  have hmin : (if Int32.ofNat (low (pa d)) < Int32.ofNat (low (pa (d - 1))) then Int32.ofNat (low (pa d)) else Int32.ofNat (low (pa (d - 1)))) = Int32.ofNat (min (low (pa (d - 1))) (low (pa d))) := by
    by_cases hlt' : low (pa d) < low (pa (d - 1))
    · rw [if_pos ((i32_lt (by omega) (by omega)).mpr hlt'), show min (low (pa (d - 1))) (low (pa d)) = low (pa d) by omega]
    · rw [if_neg (fun z => hlt' ((i32_lt (by omega) (by omega)).mp z)), show min (low (pa (d - 1))) (low (pa d)) = low (pa (d - 1)) by omega]
  have cs : fX4_visit_S30 F (Int32.ofNat n) A30 A35 (Int32.ofNat (fs n + n)) (Int32.ofNat d) (Int32.ofNat T) (Int32.ofNat clk) (Int32.ofNat hgt) A44 A46 A48 A50 A52 A54 = some (.inr (Int32.ofNat (d - 1), Int32.ofNat (T + 1), Int32.ofNat clk, Int32.ofNat hgt', B44, A46, cPut 6000 A48 (Int32.ofNat (pa (d - 1))) (Int32.ofNat (min (low (pa (d - 1))) (low (pa d)))), A50, A52, A54)) := by
    unfold fX4_visit_S30 fX4_visit_J190 fX4_lower
    rw [if_neg hcl, if_neg hdn, q52, q54, i32_succ, hC.1 _ (by omega), if_pos hcn, ec, Option.bind_some, i32_down (by omega), if_neg hneg, q52', c48, c48', hmin, i32_succ]
  have ms : ∃ B88, fX12_walks_S14 F A81 A82 (Int32.ofNat d) (Int32.ofNat hgt) (Int32.ofNat np) (Int32.ofNat clk) A87 A88 A89 A90 A91 A92 A93 = some (.inr (Int32.ofNat (d - 1), Int32.ofNat hgt', Int32.ofNat np', Int32.ofNat clk, B87, B88, A89, A90, B91, A92, A93)) ∧ ∀ v, v < n → met v ≠ 0 → B88 v = Int32.ofNat (lowUp d low pa v - 1) := by
    have r93' : A93 (pa d) = Int32.ofNat (fs (pa d + 1)) := by rw [r93, he']
    have i4 : inb (Int32.ofNat (d - 1)) 6001 = true := inb_t (by omega) (by omega)
    have i5 : inb (Int32.ofNat (pa (d - 1))) 6001 = true := inb_t (by omega) (by omega)
    have t4 : (Int32.ofNat (d - 1)).toNatClampNeg = d - 1 := tnc (by omega)
    have t5 : (Int32.ofNat (pa (d - 1))).toNatClampNeg = pa (d - 1) := tnc (by omega)
    have hup : lowUp d low pa = updN low (pa (d - 1)) (min (low (pa (d - 1))) (low (pa d))) := by unfold lowUp; rw [if_neg hd0]
    rw [S14_lv hdn i1 (by rw [t1, r92]; exact i2) (by rw [t1, r92, i32_succ]; exact i3) (by rw [t1, r92, t2, i32_succ, t3, r93', a81]), t1, r92, em, Option.bind_some, i32_down (show 1 ≤ d by omega), if_neg hneg, if_pos i2, if_pos i4, t4, r92', if_pos i5, t2, t5, r88, r88']
    by_cases hlt' : low (pa (d - 1)) ≤ low (pa d)
    · have hc : Int32.ofNat (low (pa (d - 1)) - 1) ≤ Int32.ofNat (low (pa d) - 1) := (i32_le (by omega) (by omega)).mpr (by omega)
      rw [if_pos hc]
      refine ⟨_, rfl, fun v hv hmv => ?_⟩
      rw [hup]
      by_cases hvp : v = pa (d - 1)
      · rw [hvp, updN_at, r88', show min (low (pa (d - 1))) (low (pa d)) = low (pa (d - 1)) by omega]
      · rw [updN_ne hvp]; exact m88 v hv hmv
    · have hc : ¬ Int32.ofNat (low (pa (d - 1)) - 1) ≤ Int32.ofNat (low (pa d) - 1) := fun z => by have := (i32_le (by omega) (by omega)).mp z; omega
      rw [if_neg hc, if_pos i4, if_pos i2, if_pos i5]
      refine ⟨_, rfl, fun v hv hmv => ?_⟩
      rw [hup]
      by_cases hvp : v = pa (d - 1)
      · rw [hvp, updN_at, upd_at, show min (low (pa (d - 1))) (low (pa d)) = low (pa d) by omega]
      · rw [updN_ne hvp, upd_ne hvp]; exact m88 v hv hmv
  obtain ⟨B88, ms, hB88⟩ := ms
  have hdI : Int32.ofNat (d - 1) = dI d := by unfold dI; rw [if_neg hd0]
  refine ⟨_, _, cs, ms, ⟨T + 1, clk, hgt', d, np', met, _, st, pa, ne, prt', W', hDI, hLwP', by omega, hdI, rfl, rfl, rfl, ⟨hAW, h46, fun v hv hmv => ?_, fun i hi => h50 i (by omega), fun i hi => h52 i (by omega), fun i hi => h54 i (by omega)⟩, hdI, rfl, rfl, rfl, ⟨hB88, m89, fun i hi => m90 i (by omega), hB91, hB87, fun i hi => m92 i (by omega), fun i hi => m93 i (by omega)⟩, fun z => absurd z hd0, hmk⟩, hTlt, rfl⟩
  have := hlowc v hv hmv
  rw [if_neg hd0] at this; exact this

theorem walk_key (hG : Gr n fs tg) (hC : CGr n fs tg ot A30 A35) (hM : MGr n fs tg ot A81 A82 A83) {F : Nat} (hF : 70000 ≤ F) {T clk hgt d np : Nat} {met low st pa ne prt W : Nat → Nat} {A44 A46 A48 A50 A52 A54 A87 A88 A89 A90 A91 A92 A93 : Nat → Int32} (H : DI n fs tg ot clk hgt (d + 1) np met low st pa ne prt W) (hLwP : LwP n clk met low) (hT : T + phi n fs (d + 1) met pa ne ≤ fs n + n) (hCD : CDr n hgt (d + 1) met low st pa ne prt W A44 A46 A48 A50 A52 A54) (hMD : MDr n hgt (d + 1) met low st pa ne prt A87 A88 A89 A90 A91 A92 A93) {mk : Nat → Prop} (hmk : ∀ u, mk u → met u ≠ 0) (he : ¬ ne d < fs (pa d + 1)) : ∀ (hgt' np' : Nat) (prt' W' : Nat → Nat) (B44 B87 B91 : Nat → Int32), fX4_closeAt F A30 A35 A46 A48 A50 (Int32.ofNat hgt) A44 (Int32.ofNat (pa d)) = some (Int32.ofNat hgt', B44) → fX12_leaves F A88 A89 A90 (Int32.ofNat hgt) (Int32.ofNat np) A87 A91 (Int32.ofNat (pa d)) = some (Int32.ofNat hgt', Int32.ofNat np', B87, B91) → DI n fs tg ot clk hgt' d np' met (lowUp d low pa) st pa ne prt' W' → hgt' ≤ hgt → (d = 0 → hgt' = 0) → AW n prt' W' B44 → (∀ v, v < n → met v ≠ 0 → B91 v = if prt' v = 0 then 1 else 0) → (∀ v, v < n → prt' v ≠ 0 → B87 v = Int32.ofNat (prt' v - 1)) → ∃ s' t', fX4_visit_S30 F (Int32.ofNat n) A30 A35 (Int32.ofNat (fs n + n)) (Int32.ofNat d) (Int32.ofNat T) (Int32.ofNat clk) (Int32.ofNat hgt) A44 A46 A48 A50 A52 A54 = some (.inr s') ∧ fX12_walks_S14 F A81 A82 (Int32.ofNat d) (Int32.ofNat hgt) (Int32.ofNat np) (Int32.ofNat clk) A87 A88 A89 A90 A91 A92 A93 = some (.inr t') ∧ LR n fs tg ot mk s' t' ∧ T < fs n + n ∧ s'.2.1 = Int32.ofNat (T + 1) := by
  by_cases hd0 : d = 0
  · exact walk_key0 hG hC hM hF H hLwP hT hCD hMD hmk he hd0
  · exact walk_key1 hG hC hM hF H hLwP hT hCD hMD hmk he hd0

theorem walk_leave (hG : Gr n fs tg) (hC : CGr n fs tg ot A30 A35) (hM : MGr n fs tg ot A81 A82 A83) {F : Nat} (hF : 70000 ≤ F) {T clk hgt d np : Nat} {met low st pa ne prt W : Nat → Nat} {A44 A46 A48 A50 A52 A54 A87 A88 A89 A90 A91 A92 A93 : Nat → Int32} (H : DI n fs tg ot clk hgt (d + 1) np met low st pa ne prt W) (hLwP : LwP n clk met low) (hT : T + phi n fs (d + 1) met pa ne ≤ fs n + n) (hCD : CDr n hgt (d + 1) met low st pa ne prt W A44 A46 A48 A50 A52 A54) (hMD : MDr n hgt (d + 1) met low st pa ne prt A87 A88 A89 A90 A91 A92 A93) {mk : Nat → Prop} (hmk : ∀ u, mk u → met u ≠ 0) (he : ¬ ne d < fs (pa d + 1)) : ∃ s' t', fX4_visit_S30 F (Int32.ofNat n) A30 A35 (Int32.ofNat (fs n + n)) (Int32.ofNat d) (Int32.ofNat T) (Int32.ofNat clk) (Int32.ofNat hgt) A44 A46 A48 A50 A52 A54 = some (.inr s') ∧ fX12_walks_S14 F A81 A82 (Int32.ofNat d) (Int32.ofNat hgt) (Int32.ofNat np) (Int32.ofNat clk) A87 A88 A89 A90 A91 A92 A93 = some (.inr t') ∧ LR n fs tg ot mk s' t' ∧ T < fs n + n ∧ s'.2.1 = Int32.ofNat (T + 1) := by
  obtain ⟨h44, h46, h48, h50, h52, h54⟩ := hCD
  obtain ⟨m88, m89, m90, m91, m87, m92, m93⟩ := hMD
  have hn6 := hG.2.1
  have h60 := hG.2.2.2.2.1
  obtain ⟨bn1, bn2, bn3, bn4⟩ := di_bounds H
  obtain ⟨a1, a2, b1, b2, b3, b4, c1, c2, c3, d1, e1, e2, gg1, gg2, gg3, hh⟩ := id H
  obtain ⟨s1, s2, s3, s4, s5⟩ := c1 d (by omega)
  have hmn := gr_mono hG (show pa d + 1 ≤ n by omega) (Nat.le_refl _)
  have hphi : 1 ≤ phi n fs (d + 1) met pa ne := by
    unfold phi
    simp only [sumTo]
    omega
  have hTlt : T < fs n + n := by omega
  have hpainj : ∀ i, i < d + 1 → pa i = pa d → i = d := by
    intro i hi hp
    rcases Nat.lt_or_ge i d with hlt | hge
    · have := c2 i d hlt (by omega); rw [hp] at this; omega
    · omega
  have q52 := h52 d (by omega)
  have q54 := h54 d (by omega)
  have r92 := m92 d (by omega)
  have r93 := m93 d (by omega)
  have i1 : inb (Int32.ofNat d) 6001 = true := inb_t (by omega) (by omega)
  have i2 : inb (Int32.ofNat (pa d)) 6001 = true := inb_t (by omega) (by omega)
  have i3 : inb (Int32.ofNat (pa d + 1)) 6002 = true := inb_t (by omega) (by omega)
  have t1 : (Int32.ofNat d).toNatClampNeg = d := tnc (by omega)
  have t2 : (Int32.ofNat (pa d)).toNatClampNeg = pa d := tnc (by omega)
  have t3 : (Int32.ofNat (pa d + 1)).toNatClampNeg = pa d + 1 := tnc (by omega)
  have a81 := hM.1 (pa d + 1) (by omega)
  have hdn : ¬ Int32.ofNat d < 0 := i32_nneg (by omega)
  have hcl : ¬ Int32.ofNat (fs n + n) ≤ Int32.ofNat T := fun z => by have := (i32_le (by omega) (by omega)).mp z; omega
  have he' : ne d = fs (pa d + 1) := by omega
  have hphi' := phi_leave (n := n) (met := met) he'
  have hcn : Int32.ofNat (fs (pa d + 1)) ≤ Int32.ofNat (ne d) := (i32_le (by omega) (by omega)).mpr (by omega)
  have hls := hLwP _ s1 s2
  have c48 := h48 _ s1 s2
  have c46' := h46 _ s1
  have r88 := m88 _ s1 s2
  have r89 : A89 (pa d) = Int32.ofNat (met (pa d) - 1) := by rw [m89 _ s1, if_neg s2]
  have hms := a2 _ s1
  -- what is lowered behind it
  have hlowc : ∀ v, v < n → met v ≠ 0 → (if d = 0 then cAt 6000 A48 (Int32.ofNat v) else cAt 6000 (cPut 6000 A48 (Int32.ofNat (pa (d - 1))) (Int32.ofNat (min (low (pa (d - 1))) (low (pa d))))) (Int32.ofNat v)) = Int32.ofNat (lowUp d low pa v) := by
    intro v hv hmv
    unfold lowUp
    by_cases hd0 : d = 0
    · rw [if_pos hd0, if_pos hd0]; exact h48 v hv hmv
    · have hpp := (c1 (d - 1) (by omega)).1
      rw [if_neg hd0, if_neg hd0, cAt_put (by omega) (by decide) (by omega)]
      by_cases hvp : v = pa (d - 1)
      · rw [if_pos hvp, hvp, updN_at]
      · rw [if_neg hvp, updN_ne hvp]; exact h48 v hv hmv
  have hLwP' : LwP n clk met (lowUp d low pa) := by
    intro v hv hmv
    have h1 := hLwP v hv hmv
    have h2 := lowUp_le d low pa v
    refine ⟨?_, by omega⟩
    unfold lowUp
    by_cases hd0 : d = 0
    · rw [if_pos hd0]; exact h1.1
    · rw [if_neg hd0]
      by_cases hvp : v = pa (d - 1)
      · subst hvp; rw [updN_at]; omega
      · rw [updN_ne hvp]; exact h1.1
  have key := walk_key hG hC hM hF H hLwP hT ⟨h44, h46, h48, h50, h52, h54⟩ ⟨m88, m89, m90, m91, m87, m92, m93⟩ hmk he
  by_cases hl : low (pa d) = met (pa d)
  · obtain ⟨pos, hpos, hst, hseg, hall, hgn⟩ := seg_stack H
    obtain ⟨B44, ec, hAW⟩ := closeAt_eq H hG hC h44 c46' c48 h50 hl hpos hst hseg hall hgn hF
    obtain ⟨B87, B91, em, hm1, hm2⟩ := leaves_eq H hG (A87 := A87) (A91 := A91) r88 r89 m90 hl hpos hst hgn hF
    have hDI := di_close H hG he' hl hpos hst (w := wTop fs tg ot prt W st hgt (hgt - pos)) (wTop_le _) (fun u hu hsu e q1 q2 => by
      obtain ⟨i, i1', i2', i3'⟩ := hall u hu hsu
      have h1 := wTop_ge (fs := fs) (tg := tg) (ot := ot) (prt := prt) (W := W) (st := st) (hgt := hgt) (hgt - pos) (hgt - 1 - i) (by omega)
      rw [show hgt - 1 - (hgt - 1 - i) = i by omega, i3'] at h1
      have h2 := mxTo_ge (valO tg ot prt W) (fs u) (fs (u + 1) - fs u) (e - fs u) (by omega)
      rw [show fs u + (e - fs u) = e by omega] at h2
      exact Nat.le_trans h2 h1) (by
      rcases wTop_at (fs := fs) (tg := tg) (ot := ot) (prt := prt) (W := W) (st := st) (hgt := hgt) (hgt - pos) with h0 | ⟨i, hi, he2⟩
      · exact Or.inl h0
      · rcases mxTo_at (valO tg ot prt W) (fs (st (hgt - 1 - i))) (fs (st (hgt - 1 - i) + 1) - fs (st (hgt - 1 - i))) with h0 | ⟨j, hj, hj2⟩
        · left; rw [← he2]; exact h0
        · right
          have hx : hgt - 1 - i < hgt := by omega
          exact ⟨st (hgt - 1 - i), fs (st (hgt - 1 - i)) + j, (b1 _ hx).1, (hseg _ hx).mpr (by omega), by omega, by omega, by rw [hj2]; exact he2⟩)
    refine key pos (np + 1) _ _ B44 B87 B91 ec em hDI (by omega) (fun z => by
      rcases Nat.eq_zero_or_pos pos with h0 | h0
      · exact h0
      · exfalso
        have q1 := b2 0 pos h0 hpos
        have q2 := (c3 (by omega)).2
        rw [hst, z, q2] at q1; omega) hAW (fun v hv hmv => ?_) (fun v hv hpv => ?_)
    · show B91 v = if (if seg met prt (pa d) v = true then np + 1 else prt v) = 0 then 1 else 0
      cases hs : seg met prt (pa d) v
      · simp only [Bool.false_eq_true, ↓reduceIte]
        rw [(hm2 v (fun i q1 q2 q3 => by
          have := (hseg i q2).mpr q1
          rw [q3, hs] at this; exact absurd this (by decide))).2]
        exact m91 v hv hmv
      · obtain ⟨i, q1, q2, q3⟩ := hall v hv hs
        have := (hm1 i q1 q2).2
        rw [q3] at this
        rw [this]
        simp only [↓reduceIte]
        rw [if_neg (by omega)]
    · have hpv' : (if seg met prt (pa d) v = true then np + 1 else prt v) ≠ 0 := hpv
      show B87 v = Int32.ofNat ((if seg met prt (pa d) v = true then np + 1 else prt v) - 1)
      cases hs : seg met prt (pa d) v
      · rw [hs] at hpv'
        simp only [Bool.false_eq_true, ↓reduceIte] at hpv' ⊢
        rw [(hm2 v (fun i q1 q2 q3 => by
          have := (hseg i q2).mpr q1
          rw [q3, hs] at this; exact absurd this (by decide))).1]
        exact m87 v hv hpv'
      · obtain ⟨i, q1, q2, q3⟩ := hall v hv hs
        have := (hm1 i q1 q2).1
        rw [q3] at this
        rw [this]
        simp only [↓reduceIte]
        rw [Nat.add_sub_cancel]
  · obtain ⟨hd1, hDI⟩ := di_leave H he' hl
    have hlm := d1 _ s1 s2 s3
    have ec : fX4_closeAt F A30 A35 A46 A48 A50 (Int32.ofNat hgt) A44 (Int32.ofNat (pa d)) = some (Int32.ofNat hgt, A44) := by
      unfold fX4_closeAt
      rw [c46', c48, if_neg (fun z => hl ((i32_eq (by omega) (by omega)).mp z))]
    have em : fX12_leaves F A88 A89 A90 (Int32.ofNat hgt) (Int32.ofNat np) A87 A91 (Int32.ofNat (pa d)) = some (Int32.ofNat hgt, Int32.ofNat np, A87, A91) := by
      unfold fX12_leaves
      rw [if_pos i2, if_pos i2, t2, r88, r89, if_neg (fun z => hl (by have := (i32_eq (by omega) (by omega)).mp z; omega))]
    exact key hgt np prt W A44 A87 A91 ec em hDI (Nat.le_refl _) (fun z => absurd z (by omega)) h44 m91 m87

theorem walk_step (hG : Gr n fs tg) (hC : CGr n fs tg ot A30 A35) (hM : MGr n fs tg ot A81 A82 A83) {F : Nat} (hF : 70000 ≤ F) (s : CW) (t : MW) {mk : Nat → Prop} (h : LR n fs tg ot mk s t) (hd : ¬ s.1 < 0) : ∃ s' t', fX4_visit_S30 F (Int32.ofNat n) A30 A35 (Int32.ofNat (fs n + n)) s.1 s.2.1 s.2.2.1 s.2.2.2.1 s.2.2.2.2.1 s.2.2.2.2.2.1 s.2.2.2.2.2.2.1 s.2.2.2.2.2.2.2.1 s.2.2.2.2.2.2.2.2.1 s.2.2.2.2.2.2.2.2.2 = some (.inr s') ∧ fX12_walks_S14 F A81 A82 t.1 t.2.1 t.2.2.1 t.2.2.2.1 t.2.2.2.2.1 t.2.2.2.2.2.1 t.2.2.2.2.2.2.1 t.2.2.2.2.2.2.2.1 t.2.2.2.2.2.2.2.2.1 t.2.2.2.2.2.2.2.2.2.1 t.2.2.2.2.2.2.2.2.2.2 = some (.inr t') ∧ LR n fs tg ot mk s' t' ∧ ∃ T, s.2.1 = Int32.ofNat T ∧ T < fs n + n ∧ s'.2.1 = Int32.ofNat (T + 1) := by
  obtain ⟨x3, x5, x6, x7, A44, A46, A48, A50, A52, A54⟩ := s
  obtain ⟨y2, y43, y44, y45, A87, A88, A89, A90, A91, A92, A93⟩ := t
  obtain ⟨T, clk, hgt, d, np, met, low, st, pa, ne, prt, W, H, hLwP, hT, g1, g2, g3, g4, hCD, k1, k2, k3, k4, hMD, hz0, hmk⟩ := h
  dsimp only at g1 g2 g3 g4 hCD k1 k2 k3 k4 hMD hd ⊢
  have hn6 := hG.2.1
  obtain ⟨bn1, bn2, bn3, bn4⟩ := di_bounds H
  obtain ⟨d0, hd0⟩ : ∃ d0, d = d0 + 1 := ⟨d - 1, by
    have : ¬ d = 0 := fun z => hd (by rw [g1]; exact (dI_neg (by omega)).mpr z)
    omega⟩
  subst hd0
  rw [dI_s] at g1 k1
  subst g1 g2 g3 g4 k1 k2 k3 k4
  have fin : (∃ s' t', fX4_visit_S30 F (Int32.ofNat n) A30 A35 (Int32.ofNat (fs n + n)) (Int32.ofNat d0) (Int32.ofNat T) (Int32.ofNat clk) (Int32.ofNat hgt) A44 A46 A48 A50 A52 A54 = some (.inr s') ∧ fX12_walks_S14 F A81 A82 (Int32.ofNat d0) (Int32.ofNat hgt) (Int32.ofNat np) (Int32.ofNat clk) A87 A88 A89 A90 A91 A92 A93 = some (.inr t') ∧ LR n fs tg ot mk s' t' ∧ T < fs n + n ∧ s'.2.1 = Int32.ofNat (T + 1)) := by
    by_cases he : ne d0 < fs (pa d0 + 1)
    · by_cases hm : met (tg (ne d0)) = 0
      · exact walk_push hG hC hM hF H hLwP hT hCD hMD hmk he hm
      · by_cases hp : prt (tg (ne d0)) = 0
        · exact walk_low hG hC hM hF H hLwP hT hCD hMD hmk he hm hp
        · exact walk_closed hG hC hM hF H hLwP hT hCD hMD hmk he hm hp
    · exact walk_leave hG hC hM hF H hLwP hT hCD hMD hmk he
  obtain ⟨s', t', f1, f2, f3, f4, f5⟩ := fin
  exact ⟨s', t', f1, f2, f3, T, rfl, f4, f5⟩

end WLK
