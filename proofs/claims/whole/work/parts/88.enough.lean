/-! part 88: enough -/
section EN
variable {F cap lab ack cop : Nat} {c m : Int64}
theorem sel_zero (c : Int64) : IsPut c (fX7_withoutAcks c) 43 3 0 := by
  intro i hi
  unfold fX7_withoutAcks
  rw [bt_and]
  have key : ∀ k : Fin 64, bt (-61572651155457) k.val = !(decide (43 ≤ k.val) && decide (k.val < 46)) := by decide +kernel
  rw [key ⟨i, hi⟩]
  by_cases h : 43 ≤ i ∧ i < 43 + 3
  · rw [if_pos h]
    have h1 : decide (43 ≤ i) = true := decide_eq_true h.1
    have h2 : decide (i < 46) = true := decide_eq_true h.2
    simp [h1, h2]
  · rw [if_neg h]
    have h1 : (decide (43 ≤ i) && decide (i < 46)) = false := by
      rw [Bool.and_eq_false_iff]
      by_cases h3 : 43 ≤ i
      · exact Or.inr (decide_eq_false (by omega))
      · exact Or.inl (decide_eq_false h3)
    rw [h1]
    simp
theorem acks_pair {a : Nat} (hc : Good cap c) (hS : Sx c m) : ∃ c' m', Good cap c' ∧ Sx c' m' ∧ (if Int32.ofNat a ≤ fX7_acksOf c then fX7_withoutAcks c else c) = c' ∧ (if Int32.ofNat a ≤ fX12_get m 3 3 then fX12_put m 3 3 0 else fX12_put m 3 3 (fX12_get m 3 3)) = m' := by
  have hd : fX12_get m 3 3 = Int32.ofNat (dg c 43 3) := by
    rw [← hS.dg blk_acks]
    exact fX12_get_dg m (n := 3) (w := 3) (by decide) (by decide) (by decide)
  rw [hd, fX7_acksOf_dg]
  by_cases h : Int32.ofNat a ≤ Int32.ofNat (dg c 43 3)
  · rw [if_pos h, if_pos h]
    have hx : Sx (fX7_withoutAcks c) (fX12_put m 3 3 0) := hS.put blk_acks (sel_zero c) (fX12_put_put m (n := 3) (w := 3) (v := 0) (by decide) (by decide) (by decide) (by decide))
    refine ⟨_, _, ⟨⟨?_, ?_⟩, _, hx⟩, hx, rfl, rfl⟩
    · rw [pkSum_ne (sel_zero c) (by decide)]; exact hc.1.1
    · rw [ltSum_ne (sel_zero c) (by decide)]; exact hc.1.2
  · rw [if_neg h, if_neg h]
    have hlt : dg m 3 3 < 2 ^ 3 := by unfold dg; exact Nat.mod_lt _ (by decide)
    have hm : fX12_put m 3 3 (Int32.ofNat (dg c 43 3)) = m := by
      rw [← hS.dg blk_acks]
      exact (fX12_put_put m (n := 3) (w := 3) (by decide) (by decide) (by decide) hlt).uniq (put_self m 3 3)
    exact ⟨c, m, hc, hS, rfl, hm⟩
theorem told_far {v : Nat} (h : v ≤ 1000000) : (fX12_told (Int32.ofNat v) = -2) ↔ (1000000 : Int32) ≤ Int32.ofNat v := by
  rw [← td_told h]
  unfold td
  have hle : (1000000 : Int32) ≤ Int32.ofNat v ↔ 1000000 ≤ v := i32_le (a := 1000000) (by decide) (by omega)
  rw [hle]
  by_cases h1 : v < 1000000
  · rw [if_pos h1]
    constructor
    · intro z
      exfalso
      have h2 : (0 : Int32) ≤ Int32.ofNat v := (i32_le (a := 0) (by decide) (by omega)).mpr (Nat.zero_le _)
      rw [z] at h2
      exact absurd h2 (by decide)
    · intro z; omega
  · rw [if_neg h1]
    exact ⟨fun _ => by omega, fun _ => rfl⟩
abbrev EC := Int32 × Int32 × Int32 × Int32 × Int32 × Int32 × (Nat → Int32) × (Nat → Int32) × (Nat → Int32) × (Nat → Int32) × (Nat → Int64) × (Nat → Int32) × (Nat → Int32) × (Nat → Int32) × (Nat → Int32) × (Nat → Int32) × (Nat → Int32)
abbrev EM := Int64 × Int32 × Int32 × Int32 × Int32 × Int32 × Int32 × Int32 × Int32 × (Nat → Int32) × (Nat → Int32) × (Nat → Int32) × (Nat → Int64) × (Nat → Int32) × (Nat → Int32) × (Nat → Int32) × (Nat → Int32) × (Nat → Int32) × (Nat → Int32) × (Nat → Int32) × (Nat → Int32) × (Nat → Int32) × (Nat → Int32) × (Nat → Int32) × (Nat → Int32) × (Nat → Int32) × (Nat → Int32) × (Nat → Int32) × (Nat → Int32) × (Nat → Int32)
def eC (F cap lab ack cop : Nat) (c z : Int64) (u5 : Int32 × Int32 × EC) := fX9_leastAcks_S34 F (Int32.ofNat cap) (Int32.ofNat lab) (Int32.ofNat ack) (Int32.ofNat cop) c z c u5.1 u5.2.1 u5.2.2.1 u5.2.2.2.1 u5.2.2.2.2.1 u5.2.2.2.2.2.1 u5.2.2.2.2.2.2.1 u5.2.2.2.2.2.2.2.1 u5.2.2.2.2.2.2.2.2.1 u5.2.2.2.2.2.2.2.2.2.1 u5.2.2.2.2.2.2.2.2.2.2.1 u5.2.2.2.2.2.2.2.2.2.2.2.1 u5.2.2.2.2.2.2.2.2.2.2.2.2.1 u5.2.2.2.2.2.2.2.2.2.2.2.2.2.1 u5.2.2.2.2.2.2.2.2.2.2.2.2.2.2.1 u5.2.2.2.2.2.2.2.2.2.2.2.2.2.2.2.1 u5.2.2.2.2.2.2.2.2.2.2.2.2.2.2.2.2.1 u5.2.2.2.2.2.2.2.2.2.2.2.2.2.2.2.2.2.1 u5.2.2.2.2.2.2.2.2.2.2.2.2.2.2.2.2.2.2
def eM (F cap lab cop : Nat) (m : Int64) (u3 : Int32 × EM) := fX12_enough_S17 F (Int32.ofNat cap) (Int32.ofNat lab) (Int32.ofNat cop) m (fX12_get m 3 3) 0 u3.1 u3.2.1 u3.2.2.1 u3.2.2.2.1 u3.2.2.2.2.1 u3.2.2.2.2.2.1 u3.2.2.2.2.2.2.1 u3.2.2.2.2.2.2.2.1 u3.2.2.2.2.2.2.2.2.1 u3.2.2.2.2.2.2.2.2.2.1 u3.2.2.2.2.2.2.2.2.2.2.1 u3.2.2.2.2.2.2.2.2.2.2.2.1 u3.2.2.2.2.2.2.2.2.2.2.2.2.1 u3.2.2.2.2.2.2.2.2.2.2.2.2.2.1 u3.2.2.2.2.2.2.2.2.2.2.2.2.2.2.1 u3.2.2.2.2.2.2.2.2.2.2.2.2.2.2.2.1 u3.2.2.2.2.2.2.2.2.2.2.2.2.2.2.2.2.1 u3.2.2.2.2.2.2.2.2.2.2.2.2.2.2.2.2.2.1 u3.2.2.2.2.2.2.2.2.2.2.2.2.2.2.2.2.2.2.1 u3.2.2.2.2.2.2.2.2.2.2.2.2.2.2.2.2.2.2.2.1 u3.2.2.2.2.2.2.2.2.2.2.2.2.2.2.2.2.2.2.2.2.1 u3.2.2.2.2.2.2.2.2.2.2.2.2.2.2.2.2.2.2.2.2.2.1 u3.2.2.2.2.2.2.2.2.2.2.2.2.2.2.2.2.2.2.2.2.2.2.1 u3.2.2.2.2.2.2.2.2.2.2.2.2.2.2.2.2.2.2.2.2.2.2.2.1 u3.2.2.2.2.2.2.2.2.2.2.2.2.2.2.2.2.2.2.2.2.2.2.2.2.1 u3.2.2.2.2.2.2.2.2.2.2.2.2.2.2.2.2.2.2.2.2.2.2.2.2.2.1 u3.2.2.2.2.2.2.2.2.2.2.2.2.2.2.2.2.2.2.2.2.2.2.2.2.2.2.1 u3.2.2.2.2.2.2.2.2.2.2.2.2.2.2.2.2.2.2.2.2.2.2.2.2.2.2.2.1 u3.2.2.2.2.2.2.2.2.2.2.2.2.2.2.2.2.2.2.2.2.2.2.2.2.2.2.2.2.1 u3.2.2.2.2.2.2.2.2.2.2.2.2.2.2.2.2.2.2.2.2.2.2.2.2.2.2.2.2.2.1 u3.2.2.2.2.2.2.2.2.2.2.2.2.2.2.2.2.2.2.2.2.2.2.2.2.2.2.2.2.2.2
def eQ (q : EM ⊕ (Int32 × EM) ⊕ EM) : Int32 := Sum.elim (fun _ => -3) (Sum.elim (fun y => y.1) (fun _ => -1)) q
theorem enough_step (hcap : 1 ≤ cap ∧ cap ≤ 2) (hlab : 2 ≤ lab ∧ lab ≤ 4) (hcop : 1 ≤ cop ∧ cop ≤ 4) (hc : Good cap c) (hS : Sx c m) (hF : 70000 ≤ F) (z : Int64) {a : Nat} (ha : 1 ≤ a ∧ a ≤ 7) (s : EC) (t : EM) : ∃ (w : Int32) (s' : EC), eC F cap lab ack cop c z (Int32.ofNat a, -1, s) = some (.inr (Int32.ofNat (a + 1), w, s')) ∧ ((w = -1 ∧ ∃ t', eM F cap lab cop m (Int32.ofNat a, t) = some (.inr (Int32.ofNat (a + 1), t'))) ∨ (w ≠ -1 ∧ ∃ q, eM F cap lab cop m (Int32.ofNat a, t) = some (.inl q) ∧ eQ q = w)) := by
  obtain ⟨c', m', hc', hS', e1, e2⟩ := acks_pair (a := a) hc hS
  have hs : Stt cap lab a cop := ⟨hcap, hlab, ha, hcop⟩
  obtain ⟨s1, s2, s3, s4, s5, s6, A30, A33, A35, A37, A38, A44, A46, A48, A50, A52, A54⟩ := s
  obtain ⟨x19, x20, x21, x22, x27, x35, x43, x44, x45, A76, A77, A78, A79, A80, A81, A82, A83, A84, A85, A86, A87, A88, A89, A90, A91, A92, A93, A94, A95, A96⟩ := t
  have hne : ¬ Int32.ofNat a = -1 := fun zz => by
    have h2 : (0 : Int32) ≤ Int32.ofNat a := (i32_le (a := 0) (by decide) (by omega)).mpr (Nat.zero_le _)
    rw [zz] at h2
    exact absurd h2 (by decide)
  have hC : eC F cap lab ack cop c z (Int32.ofNat a, -1, s1, s2, s3, s4, s5, s6, A30, A33, A35, A37, A38, A44, A46, A48, A50, A52, A54) = fX9_leastAcks_J66 F (Int32.ofNat cap) (Int32.ofNat lab) (Int32.ofNat ack) (Int32.ofNat cop) c (Int32.ofNat a) c' z c (-1) s1 s2 s3 s4 s5 s6 A30 A33 A35 A37 A38 A44 A46 A48 A50 A52 A54 := by
    unfold eC fX9_leastAcks_S34
    dsimp only
    rw [if_neg (show ¬ (7 : Int32) < Int32.ofNat a from fun zz => by have := (i32_lt (a := 7) (by decide) (by omega)).mp zz; omega), if_pos rfl, ← e1]
    by_cases h : Int32.ofNat a ≤ fX7_acksOf c
    · rw [if_pos h, if_pos h]
    · rw [if_neg h, if_neg h]
  have hM : eM F cap lab cop m (Int32.ofNat a, x19, x20, x21, x22, x27, x35, x43, x44, x45, A76, A77, A78, A79, A80, A81, A82, A83, A84, A85, A86, A87, A88, A89, A90, A91, A92, A93, A94, A95, A96) = (fX12_enough_J40 F (Int32.ofNat cap) (Int32.ofNat lab) (Int32.ofNat cop) m (fX12_get m 3 3) (Int32.ofNat a) (if Int32.ofNat a ≤ fX12_get m 3 3 then 0 else fX12_get m 3 3) 3 3 m 0 x19 x20 x21 x22 x27 x35 x43 x44 x45 A76 A77 A78 A79 A80 A81 A82 A83 A84 A85 A86 A87 A88 A89 A90 A91 A92 A93 A94 A95 A96) := by
    unfold eM fX12_enough_S17
    dsimp only
    rw [if_neg (show ¬ (8 : Int32) ≤ Int32.ofNat a from fun zz => by have := (i32_le (a := 8) (by decide) (by omega)).mp zz; omega)]
    by_cases h : Int32.ofNat a ≤ fX12_get m 3 3
    · rw [if_pos h, if_pos h]
    · rw [if_neg h, if_neg h]
  have hm' : fX12_put m 3 3 (if Int32.ofNat a ≤ fX12_get m 3 3 then 0 else fX12_get m 3 3) = m' := by
    rw [← e2]
    by_cases h : Int32.ofNat a ≤ fX12_get m 3 3
    · rw [if_pos h, if_pos h]
    · rw [if_neg h, if_neg h]
  rw [hC, hM]
  unfold fX9_leastAcks_J66 fX12_enough_J40 fX9_leastAcks_J137 fX9_leastAcks_J140
  rw [hm', i32_succ]
  rcases reaches_eq hcap.2 (by omega) hlab.2 ha.2 hcop.2 (F := F) (by omega) hc' hS' x19 x20 x21 x22 x27 x35 A76 A77 A78 A79 A80 A81 A82 A83 A84 A85 A86 with ⟨K', M', E', Fs', z19, z20, z21, B76, B77, B78, B79, B80, B81, B82, B83, B84, B85, B86, r1, r2, r3, r4, r5, r6⟩ | ⟨r1, r, r2⟩
  · rcases chart_eq hcap.2 hlab.2 ha.2 hcop.2 (F := F) (by omega) hc' s1 s2 s3 s4 A30 A33 A35 A37 A38 with ⟨K, E, Fs, y311, y312, B30, B33, B35, B37, B38, k1, k2, k3, k4, k5⟩ | ⟨k1, x, k2, k3⟩
    · rw [k1] at r1
      obtain ⟨rfl, hr⟩ := Prod.mk.inj (Option.some.inj r1)
      obtain ⟨rfl, rfl⟩ := Prod.mk.inj hr
      obtain ⟨hgk, hK1, _⟩ := graph_of hs hc' k1
      obtain ⟨hg, _⟩ := gk_gr hgk hK1
      obtain ⟨X, x1, x2⟩ := wst_of hg (cgr_of hgk hK1 k4 k5) (fun e he => ot_lt hgk hK1 he) hF A44 A46 A48 A50 A52 A54 s5 s6
      obtain ⟨Y, g1, g2⟩ := x2 B81 B82 B83 x43 x44 x45 A87 A88 A89 A90 A91 A92 A93 A94 A95 A96 (mgr_of hgk hK1 r5 r6)
      obtain ⟨p, v, g3, g4, g5, g6, g7⟩ := g2 0 hK1
      rw [k2, r2]
      simp only [Option.bind_some]
      rw [if_neg (show ¬ (1 : Int32) = 0 by decide), if_neg (show ¬ (1 : Int32) = 0 by decide), x1, ← r3.1, g1]
      simp only [Option.bind_some]
      rw [show (0 : Int32).toNatClampNeg = 0 from n0, g3, if_pos (inb_t (by omega) g4), tnc (by omega), g6]
      have hx : cAt 6000 X.2.2.1 0 = fX12_told (Int32.ofNat v) := g7
      rw [hx]
      by_cases hf : fX12_told (Int32.ofNat v) = -2
      · rw [if_pos hf, if_pos ((told_far g5).mp hf)]
        exact ⟨_, _, rfl, Or.inl ⟨rfl, _, rfl⟩⟩
      · rw [if_neg hf, if_neg (fun zz => hf ((told_far g5).mpr zz))]
        exact ⟨_, _, rfl, Or.inr ⟨hne, _, rfl, rfl⟩⟩
    · rw [k1] at r1; exact absurd r1 (by simp)
  · rcases chart_eq hcap.2 hlab.2 ha.2 hcop.2 (F := F) (by omega) hc' s1 s2 s3 s4 A30 A33 A35 A37 A38 with ⟨K, E, Fs, y311, y312, B30, B33, B35, B37, B38, k1, k2, k3, k4, k5⟩ | ⟨k1, x, k2, k3⟩
    · rw [k1] at r1; exact absurd r1 (by simp)
    · rw [k2, r2]
      simp only [Option.bind_some]
      rw [if_pos k3]
      simp only [↓reduceIte]
      exact ⟨_, _, rfl, Or.inr ⟨by decide, _, rfl, rfl⟩⟩
theorem enough_go (hcap : 1 ≤ cap ∧ cap ≤ 2) (hlab : 2 ≤ lab ∧ lab ≤ 4) (hcop : 1 ≤ cop ∧ cop ≤ 4) (hc : Good cap c) (hS : Sx c m) (hF : 70000 ≤ F) (z : Int64) : ∀ (k a : Nat), a + k = 8 → 1 ≤ a → ∀ (G : Nat), k + 1 < G → ∀ (s : EC) (t : EM), ∃ (w : Int32) (s' : EC) (q : EM ⊕ (Int32 × EM) ⊕ EM), gloop (eC F cap lab ack cop c z) G (Int32.ofNat a, -1, s) = some (w, s') ∧ gloop (eM F cap lab cop m) G (Int32.ofNat a, t) = some q ∧ eQ q = w := by
  intro k
  induction k with
  | zero =>
    intro a ha h1 G hG s t
    have ha8 : a = 8 := by omega
    subst ha8
    cases G with
    | zero => omega
    | succ G =>
      have hC : eC F cap lab ack cop c z (Int32.ofNat 8, -1, s) = some (.inl (-1, s)) := by
        unfold eC fX9_leastAcks_S34
        dsimp only
        rw [if_pos (show (7 : Int32) < Int32.ofNat 8 by decide)]
      have hM : eM F cap lab cop m (Int32.ofNat 8, t) = some (.inl (.inr (.inr t))) := by
        unfold eM fX12_enough_S17
        dsimp only
        rw [if_pos (show (8 : Int32) ≤ Int32.ofNat 8 by decide)]
      exact ⟨-1, s, .inr (.inr t), by simp only [gloop, hC], by simp only [gloop, hM], rfl⟩
  | succ k ih =>
    intro a ha h1 G hG s t
    cases G with
    | zero => omega
    | succ G =>
      obtain ⟨w, s', hC, h⟩ := enough_step (ack := ack) hcap hlab hcop hc hS hF z (a := a) ⟨h1, by omega⟩ s t
      rcases h with ⟨hw, t', hM⟩ | ⟨hw, q, hM, hq⟩
      · subst hw
        obtain ⟨w', s'', q, g1, g2, g3⟩ := ih (a + 1) (by omega) (by omega) G (by omega) s' t'
        exact ⟨w', s'', q, by simp only [gloop, hC]; exact g1, by simp only [gloop, hM]; exact g2, g3⟩
      · cases G with
        | zero => omega
        | succ G =>
          have hC2 : eC F cap lab ack cop c z (Int32.ofNat (a + 1), w, s') = some (.inl (w, s')) := by
            unfold eC fX9_leastAcks_S34
            dsimp only
            by_cases h7 : (7 : Int32) < Int32.ofNat (a + 1)
            · rw [if_pos h7]
            · rw [if_neg h7, if_neg hw]
          exact ⟨w, s', q, by simp only [gloop, hC, hC2], by simp only [gloop, hM], hq⟩
theorem enough_m {q : EM ⊕ (Int32 × EM) ⊕ EM} {w x18 : Int32} {x19 : Int64} {x20 x21 x22 x27 x35 x43 x44 x45 : Int32} {A76 A77 A78 : Nat → Int32} {A79 : Nat → Int64} {A80 A81 A82 A83 A84 A85 A86 A87 A88 A89 A90 A91 A92 A93 A94 A95 A96 : Nat → Int32} (h : gloop (eM F cap lab cop m) F (Int32.ofNat 1, x19, x20, x21, x22, x27, x35, x43, x44, x45, A76, A77, A78, A79, A80, A81, A82, A83, A84, A85, A86, A87, A88, A89, A90, A91, A92, A93, A94, A95, A96) = some q) (hq : eQ q = w) : ∃ r, fX12_enough F (Int32.ofNat cap) (Int32.ofNat lab) (Int32.ofNat cop) m x18 x19 x20 x21 x22 x27 x35 x43 x44 x45 A76 A77 A78 A79 A80 A81 A82 A83 A84 A85 A86 A87 A88 A89 A90 A91 A92 A93 A94 A95 A96 = some (w, 0, r) := by
  unfold eM at h
  unfold fX12_enough
  rw [show (Int32.ofNat 1) = (1 : Int32) from rfl] at h
  rw [h, Option.bind_some]
  subst hq
  rcases q with y | y | y
  · exact ⟨_, rfl⟩
  · exact ⟨_, rfl⟩
  · exact ⟨_, rfl⟩
end EN
