/-! part 9z9: the reference's acts and its clear, as a text does them -/
section MACT
variable {cap lab ack cop : Nat} {F : Nat}
abbrev DS := Int64 × Int32 × Int32 × Int32 × Int64 × Int32 × Int32 × Int32 × Int32 × Int32 × (Nat → Int32) × (Nat → Int32) × (Nat → Int32) × (Nat → Int32)
def DR (cap : Nat) (s : SEA) (D : DS) : Prop := DX cap s.1.1 s.1.2.1 s.1.2.2.1 s.1.2.2.2.1 s.1.2.2.2.2.1 s.1.2.2.2.2.2.1 s.1.2.2.2.2.2.2.1 s.1.2.2.2.2.2.2.2 D.1 D.2.1 D.2.2.1 D.2.2.2.1 D.2.2.2.2.2.2.2.2.2.2.1 D.2.2.2.2.2.2.2.2.2.2.2.1 D.2.2.2.2.2.2.2.2.2.2.2.2.1 D.2.2.2.2.2.2.2.2.2.2.2.2.2 ∧ D.2.2.2.2.2.2.2.2.1 = Int32.ofNat s.2.1 ∧ s.2.1 ≤ 600 ∧ D.2.2.2.2.2.2.2.2.2.1 = (if s.2.2 = true then 1 else 0)
/-- what the reference is told of an act -/
def TldA (w a v : Nat) (p2 p3 : Int32) : Prop := w = 0 ∨ ((w = 1 ∨ w = 3) ∧ p2 = Int32.ofNat a ∧ p3 = Int32.ofNat v) ∨ ((w = 2 ∨ w = 4) ∧ p2 = Int32.ofNat a)
theorem tld_there {w a v : Nat} {p2 p3 : Int32} (h : TldA w a v p2 p3) (x : Int32) (m : Int64) : fX12_isThere x m (Int32.ofNat w) p2 p3 = fX12_isThere x m (Int32.ofNat w) (Int32.ofNat a) (Int32.ofNat v) := by
  rcases h with rfl | ⟨_, rfl, rfl⟩ | ⟨rfl | rfl, rfl⟩
  · unfold fX12_isThere
    rw [if_pos (show Int32.ofNat 0 = 0 from rfl), if_pos (show Int32.ofNat 0 = 0 from rfl)]
  · rfl
  · exact ((there_w x (Int32.ofNat a) p3).2.2.1).trans ((there_w x (Int32.ofNat a) (Int32.ofNat v)).2.2.1).symm
  · exact ((there_w x (Int32.ofNat a) p3).2.2.2).trans ((there_w x (Int32.ofNat a) (Int32.ofNat v)).2.2.2).symm
theorem acting_off (x0 x1 x2 x3 x63 : Int32) (D : DS) (p1 p2 p3 : Int32) : fX12_acting F x0 x1 x2 x3 x63 0 D.1 D.2.1 D.2.2.1 D.2.2.2.1 D.2.2.2.2.1 D.2.2.2.2.2.1 D.2.2.2.2.2.2.1 D.2.2.2.2.2.2.2.1 D.2.2.2.2.2.2.2.2.1 D.2.2.2.2.2.2.2.2.2.1 D.2.2.2.2.2.2.2.2.2.2.1 D.2.2.2.2.2.2.2.2.2.2.2.1 D.2.2.2.2.2.2.2.2.2.2.2.2.1 D.2.2.2.2.2.2.2.2.2.2.2.2.2 p1 p2 p3 = some D := by
  unfold fX12_acting
  rw [if_pos rfl]
theorem acting_do (hs : Stt cap lab ack cop) (hF : 40 ≤ F) {s : SEA} {D : DS} (hR : DR cap s D) {w a v : Nat} {p2 p3 : Int32} (hw : w < 5) (hT : TldA w a v p2 p3) : ∃ D', fX12_acting F (Int32.ofNat cap) (Int32.ofNat lab) (Int32.ofNat ack) (Int32.ofNat cop) 0 1 D.1 D.2.1 D.2.2.1 D.2.2.2.1 D.2.2.2.2.1 D.2.2.2.2.2.1 D.2.2.2.2.2.2.1 D.2.2.2.2.2.2.2.1 D.2.2.2.2.2.2.2.2.1 D.2.2.2.2.2.2.2.2.2.1 D.2.2.2.2.2.2.2.2.2.2.1 D.2.2.2.2.2.2.2.2.2.2.2.1 D.2.2.2.2.2.2.2.2.2.2.2.2.1 D.2.2.2.2.2.2.2.2.2.2.2.2.2 (Int32.ofNat w) p2 p3 = some D' ∧ DR cap (actE cap lab ack cop w a v s) D' := by
  have hb := hs.2.1
  obtain ⟨t, d, st⟩ := s
  obtain ⟨m, mq, mf, md, y19, y20, y21, y22, y65, y66, A70, A71, A72, A73⟩ := D
  obtain ⟨hD, h65, h600, h66⟩ := hR
  dsimp only at hD h65 h600 h66
  unfold fX12_acting actE
  dsimp only
  rw [if_neg (show ¬ (1 : Int32) = 0 by decide)]
  subst h65 h66
  cases st with
  | true =>
    rw [if_neg (show ¬ (if true = true then (1 : Int32) else 0) = 0 by decide), if_pos rfl]
    exact ⟨_, rfl, hD, rfl, h600, rfl⟩
  | false =>
    rw [if_pos (show (if false = true then (1 : Int32) else 0) = 0 by decide), if_pos (show (0 : Int32) ≤ 0 by decide), if_neg (show ¬ false = true by decide)]
    by_cases hd : d = 600
    · rw [if_pos hd, if_pos (show Int32.ofNat d = 600 by rw [hd]; rfl)]
      exact ⟨_, rfl, hD, rfl, h600, rfl⟩
    · rw [if_neg hd, if_neg (show ¬ Int32.ofNat d = 600 from fun z => hd ((i32_eq (b := 600) (by omega) (by decide)).mp z)), tld_there hT]
      rcases offers_eq hD.1 (by omega) hb.2 (Int32.ofNat w) (Int32.ofNat a) (Int32.ofNat v) with ⟨e1, e2⟩ | ⟨e1, e2, e3, w', k, g1, g2, g3, g4⟩
      · have e2' : fX12_isThere (Int32.ofNat lab) m (Int32.ofNat w) (Int32.ofNat a) (Int32.ofNat v) = 0 := by
          rcases e2 with h | h
          · refine absurd h (within_04 ?_)
            have : w = 0 ∨ w = 1 ∨ w = 2 ∨ w = 3 ∨ w = 4 := by omega
            rcases this with rfl | rfl | rfl | rfl | rfl
            · exact Or.inl rfl
            · exact Or.inr (Or.inl rfl)
            · exact Or.inr (Or.inr (Or.inl rfl))
            · exact Or.inr (Or.inr (Or.inr (Or.inl rfl)))
            · exact Or.inr (Or.inr (Or.inr (Or.inr rfl)))
          · exact h
        rw [if_pos e2', if_pos e1]
        exact ⟨_, rfl, hD, rfl, h600, rfl⟩
      · rw [if_neg e3, if_neg e1]
        have hww : w = w' := by
          have h9 := there_lt hb.2 g2
          exact (i32_eq (by omega) (by omega)).mp g1
        subst hww
        have ha : args w k p2 p3 := by
          rcases hT with rfl | ⟨h1, rfl, rfl⟩ | ⟨h1, rfl⟩
          · exact ⟨fun z => by omega, fun z => by omega⟩
          · exact g3
          · exact ⟨fun z => by omega, g3.2⟩
        obtain ⟨X, Y, o, lp, ll, p1, p2', p3', p4, p5, p6, p7⟩ := both_act hs.1.2 hb.2 hs.2.2.1.2 hs.2.2.2.2 hD g2 ha hF y19 y20 y21 y22
        rw [p2', Option.bind_some, g4]
        refine ⟨_, rfl, ?_, i32_succ d, by show d + 1 ≤ 600; omega, rfl⟩
        have hpf : pfC cap lab ack cop t (codeN w k 0) = X.2 := by
          unfold pfC
          rw [p1]
        dsimp only
        rw [hpf]
        exact p6
/-- the search for the first packet, from above -/
theorem seek_in {c m : Int64} (hS : Sx c m) (h1 : 1 ≤ lab) (hlab : lab ≤ 4) {l : Nat} (hl : l < lab) (x0 x2 x3 x63 x64 v1 v2 y6 y9 y11 y20 y21 y22 y65 y66 : Int32) (y19 : Int64) (A70 A71 A72 A73 : Nat → Int32) {G : Nat} (hG : 3 ≤ G) : gloop (fun u5 : (Int32 × Int32) => fX12_clears_S25 F x0 (Int32.ofNat lab) x2 x3 x63 x64 v1 v2 (Int32.ofNat l) m y6 y9 y11 y19 y20 y21 y22 y65 y66 A70 A71 A72 A73 u5.1 u5.2) G (fpI (fpF c (2 * lab - (2 * l + 2)) (2 * l + 2)), 1) = some (fpI (fpF c (2 * lab - 2 * l) (2 * l))) := by
  have step : ∀ v, v < 2 → fX12_clears_S25 F x0 (Int32.ofNat lab) x2 x3 x63 x64 v1 v2 (Int32.ofNat l) m y6 y9 y11 y19 y20 y21 y22 y65 y66 A70 A71 A72 A73 (fpI (fpF c (2 * lab - (2 * l + v + 1)) (2 * l + v + 1))) (Int32.ofNat v) = some (.inr (fpI (fpF c (2 * lab - (2 * l + v)) (2 * l + v)), Int32.ofNat v + (-1))) := by
    intro v hv
    unfold fX12_clears_S25 fX12_clears_J54
    rw [if_neg (i32_nneg (by omega)), show (3 : Int32) = Int32.ofNat 3 from rfl, there_pk hS h1 hlab (Or.inr rfl) hl hv, show 2 * lab - (2 * l + v) = (2 * lab - (2 * l + v + 1)) + 1 by omega]
    have hu : fpF c (2 * lab - (2 * l + v + 1) + 1) (2 * l + v) = if 1 ≤ dg c (pkPos (2 * l + v)) 2 then some (2 * l + v) else fpF c (2 * lab - (2 * l + v + 1)) (2 * l + v + 1) := rfl
    rw [hu]
    by_cases hd : 1 ≤ dg c (pkPos (2 * l + v)) 2
    · rw [if_pos hd, if_pos hd, if_neg (show ¬ (1 : Int32) = 0 by decide), show (2 : Int32) * Int32.ofNat l = Int32.ofNat (2 * l) from i32_mul 2 l, i32_add]
      rfl
    · rw [if_neg hd, if_neg hd, if_pos rfl]
  obtain ⟨G, rfl⟩ : ∃ G', G = G' + 3 := ⟨G - 3, by omega⟩
  have s1 := step 1 (by decide)
  have s0 := step 0 (by decide)
  have r1 : Reach (fun u5 : (Int32 × Int32) => fX12_clears_S25 F x0 (Int32.ofNat lab) x2 x3 x63 x64 v1 v2 (Int32.ofNat l) m y6 y9 y11 y19 y20 y21 y22 y65 y66 A70 A71 A72 A73 u5.1 u5.2) (fpI (fpF c (2 * lab - (2 * l + 2)) (2 * l + 2)), 1) _ 1 := reach_one s1
  have r0 : Reach (fun u5 : (Int32 × Int32) => fX12_clears_S25 F x0 (Int32.ofNat lab) x2 x3 x63 x64 v1 v2 (Int32.ofNat l) m y6 y9 y11 y19 y20 y21 y22 y65 y66 A70 A71 A72 A73 u5.1 u5.2) (fpI (fpF c (2 * lab - (2 * l + 1)) (2 * l + 1)), Int32.ofNat 1 + (-1)) (fpI (fpF c (2 * lab - 2 * l) (2 * l)), Int32.ofNat 0 + (-1)) 1 := reach_one s0
  have := reach_trans r1 r0 (G + 1)
  rw [show G + 1 + (1 + 1) = G + 3 by omega] at this
  rw [this]
  refine gl_stop ?_ (by omega)
  dsimp only
  unfold fX12_clears_S25
  rw [if_pos (show Int32.ofNat 0 + (-1) < 0 by decide)]
theorem seek_stop (x0 x2 x3 x63 x64 v1 v2 y6 y9 y11 y20 y21 y22 y65 y66 : Int32) (y19 m : Int64) (A70 A71 A72 A73 : Nat → Int32) (w : Int32) : fX12_clears_S17 F x0 (Int32.ofNat lab) x2 x3 x63 x64 v1 v2 m y6 y9 y11 y19 y20 y21 y22 y65 y66 A70 A71 A72 A73 w (Int32.ofNat 0 + (-1)) = some (.inl w) := by
  unfold fX12_clears_S17
  rw [if_pos (show Int32.ofNat 0 + (-1) < 0 by decide)]
theorem down_one (j : Nat) : Int32.ofNat (j + 1) + (-1) = Int32.ofNat j := by
  rw [← i32_succ, Int32.add_assoc, show (1 : Int32) + (-1) = 0 by decide, Int32.add_zero]
theorem seek_one {c m : Int64} (hS : Sx c m) (h1 : 1 ≤ lab) (hlab : lab ≤ 4) (hF : 40 ≤ F) (x0 x2 x3 x63 x64 v1 v2 y6 y9 y11 y20 y21 y22 y65 y66 : Int32) (y19 : Int64) (A70 A71 A72 A73 : Nat → Int32) {j : Nat} (hj : j < lab) : fX12_clears_S17 F x0 (Int32.ofNat lab) x2 x3 x63 x64 v1 v2 m y6 y9 y11 y19 y20 y21 y22 y65 y66 A70 A71 A72 A73 (fpI (fpF c (2 * lab - (2 * j + 2)) (2 * j + 2))) (Int32.ofNat (j + 1) + (-1)) = some (.inr (fpI (fpF c (2 * lab - 2 * j) (2 * j)), Int32.ofNat j + (-1))) := by
  rw [down_one j]
  unfold fX12_clears_S17
  rw [if_neg (i32_nneg (by omega)), seek_in hS h1 hlab hj x0 x2 x3 x63 x64 v1 v2 y6 y9 y11 y20 y21 y22 y65 y66 y19 A70 A71 A72 A73 (Nat.le_trans (by decide) hF), Option.bind_some]
theorem seek_eq {c m : Int64} (hS : Sx c m) (h1 : 1 ≤ lab) (hlab : lab ≤ 4) (hF : 40 ≤ F) (x0 x2 x3 x63 x64 v1 v2 y6 y9 y11 y20 y21 y22 y65 y66 : Int32) (y19 : Int64) (A70 A71 A72 A73 : Nat → Int32) : gloop (fun u3 : (Int32 × Int32) => fX12_clears_S17 F x0 (Int32.ofNat lab) x2 x3 x63 x64 v1 v2 m y6 y9 y11 y19 y20 y21 y22 y65 y66 A70 A71 A72 A73 u3.1 u3.2) F (-1, Int32.ofNat lab - 1) = some (fpI (fpF c (2 * lab) 0)) := by
  have key : ∀ j, j ≤ lab → ∀ G, j < G → gloop (fun u3 : (Int32 × Int32) => fX12_clears_S17 F x0 (Int32.ofNat lab) x2 x3 x63 x64 v1 v2 m y6 y9 y11 y19 y20 y21 y22 y65 y66 A70 A71 A72 A73 u3.1 u3.2) G (fpI (fpF c (2 * lab - 2 * j) (2 * j)), Int32.ofNat j + (-1)) = some (fpI (fpF c (2 * lab) 0)) := by
    intro j
    induction j with
    | zero =>
      intro _ G hG
      exact gl_stop (seek_stop (F := F) (lab := lab) x0 x2 x3 x63 x64 v1 v2 y6 y9 y11 y20 y21 y22 y65 y66 y19 m A70 A71 A72 A73 (fpI (fpF c (2 * lab) 0))) (Nat.lt_of_le_of_lt (Nat.zero_le _) hG)
    | succ j ih =>
      intro hj G hG
      obtain ⟨G, rfl⟩ : ∃ G', G = G' + 1 := ⟨G - 1, by omega⟩
      have hst := seek_one hS h1 hlab hF x0 x2 x3 x63 x64 v1 v2 y6 y9 y11 y20 y21 y22 y65 y66 y19 A70 A71 A72 A73 (show j < lab from hj)
      have hr : Reach (fun u3 : (Int32 × Int32) => fX12_clears_S17 F x0 (Int32.ofNat lab) x2 x3 x63 x64 v1 v2 m y6 y9 y11 y19 y20 y21 y22 y65 y66 A70 A71 A72 A73 u3.1 u3.2) (fpI (fpF c (2 * lab - (2 * j + 2)) (2 * j + 2)), Int32.ofNat (j + 1) + (-1)) (fpI (fpF c (2 * lab - 2 * j) (2 * j)), Int32.ofNat j + (-1)) 1 := reach_one hst
      have h2 : 2 * (j + 1) = 2 * j + 2 := by omega
      rw [h2, hr G]
      exact ih (by omega) G (by omega)
  have hk := key lab (Nat.le_refl _) F (by omega)
  have h0 : fpI (fpF c (2 * lab - 2 * lab) (2 * lab)) = -1 := by rw [Nat.sub_self]; rfl
  have h1 : Int32.ofNat lab - 1 = Int32.ofNat lab + (-1) := Int32.sub_eq_add_neg _ _
  rw [h0, ← h1] at hk
  exact hk
theorem kind_halves : ∀ k : Fin 8, (Int32.ofNat k.val) / 2 = Int32.ofNat (k.val / 2) ∧ (Int32.ofNat k.val) - (Int32.ofNat k.val) / 2 * 2 = Int32.ofNat (k.val % 2) := by decide +kernel
theorem clears_do (hs : Stt cap lab ack cop) (hF : 100 ≤ F) {a : Nat} (ha : a ≤ 30) {s : SEA} {D : DS} (hR : DR cap s D) : ∃ D', fX12_clears F (Int32.ofNat cap) (Int32.ofNat lab) (Int32.ofNat ack) (Int32.ofNat cop) 0 1 D.1 D.2.1 D.2.2.1 D.2.2.2.1 D.2.2.2.2.1 D.2.2.2.2.2.1 D.2.2.2.2.2.2.1 D.2.2.2.2.2.2.2.1 D.2.2.2.2.2.2.2.2.1 D.2.2.2.2.2.2.2.2.2.1 D.2.2.2.2.2.2.2.2.2.2.1 D.2.2.2.2.2.2.2.2.2.2.2.1 D.2.2.2.2.2.2.2.2.2.2.2.2.1 D.2.2.2.2.2.2.2.2.2.2.2.2.2 (Int32.ofNat a) = some D' ∧ DR cap (clrE cap lab ack cop a s) D' := by
  have hb := hs.2.1
  have key : ∀ (j i : Nat) (s : SEA) (D : DS) (G : Nat), i + j = a → DR cap s D → j < G → ∃ D', (gloop (fun u1 : (Int32 × DS) => fX12_clears_S2 F (Int32.ofNat cap) (Int32.ofNat lab) (Int32.ofNat ack) (Int32.ofNat cop) 0 1 (Int32.ofNat a) u1.1 u1.2.1 u1.2.2.1 u1.2.2.2.1 u1.2.2.2.2.1 u1.2.2.2.2.2.1 u1.2.2.2.2.2.2.1 u1.2.2.2.2.2.2.2.1 u1.2.2.2.2.2.2.2.2.1 u1.2.2.2.2.2.2.2.2.2.1 u1.2.2.2.2.2.2.2.2.2.2.1 u1.2.2.2.2.2.2.2.2.2.2.2.1 u1.2.2.2.2.2.2.2.2.2.2.2.2.1 u1.2.2.2.2.2.2.2.2.2.2.2.2.2.1 u1.2.2.2.2.2.2.2.2.2.2.2.2.2.2) G (Int32.ofNat i, D) = some (.inl D') ∨ gloop (fun u1 : (Int32 × DS) => fX12_clears_S2 F (Int32.ofNat cap) (Int32.ofNat lab) (Int32.ofNat ack) (Int32.ofNat cop) 0 1 (Int32.ofNat a) u1.1 u1.2.1 u1.2.2.1 u1.2.2.2.1 u1.2.2.2.2.1 u1.2.2.2.2.2.1 u1.2.2.2.2.2.2.1 u1.2.2.2.2.2.2.2.1 u1.2.2.2.2.2.2.2.2.1 u1.2.2.2.2.2.2.2.2.2.1 u1.2.2.2.2.2.2.2.2.2.2.1 u1.2.2.2.2.2.2.2.2.2.2.2.1 u1.2.2.2.2.2.2.2.2.2.2.2.2.1 u1.2.2.2.2.2.2.2.2.2.2.2.2.2.1 u1.2.2.2.2.2.2.2.2.2.2.2.2.2.2) G (Int32.ofNat i, D) = some (.inr D')) ∧ DR cap (clrE cap lab ack cop j s) D' := by
    intro j
    induction j with
    | zero =>
      intro i s D G hi hR hG
      refine ⟨D, Or.inr (gl_stop ?_ (by omega)), hR⟩
      dsimp only
      unfold fX12_clears_S2
      rw [if_pos ((i32_le (by omega) (by omega)).mpr (by omega))]
    | succ j ih =>
      intro i s D G hi hR hG
      obtain ⟨G, rfl⟩ : ∃ G', G = G' + 1 := ⟨G - 1, by omega⟩
      have hle : ¬ Int32.ofNat a ≤ Int32.ofNat i := fun z => by have := (i32_le (by omega) (by omega)).mp z; omega
      have hseek := seek_eq (lab := lab) (F := F) hR.1.1 (by omega) hb.2 (by omega) (Int32.ofNat cap) (Int32.ofNat ack) (Int32.ofNat cop) 0 1 (Int32.ofNat a) (Int32.ofNat i) D.2.1 D.2.2.1 D.2.2.2.1 D.2.2.2.2.2.1 D.2.2.2.2.2.2.1 D.2.2.2.2.2.2.2.1 D.2.2.2.2.2.2.2.2.1 D.2.2.2.2.2.2.2.2.2.1 D.2.2.2.2.1 D.2.2.2.2.2.2.2.2.2.2.1 D.2.2.2.2.2.2.2.2.2.2.2.1 D.2.2.2.2.2.2.2.2.2.2.2.2.1 D.2.2.2.2.2.2.2.2.2.2.2.2.2
      have hu : clrE cap lab ack cop (j + 1) s = if s.2.2 = true then s else match fpF s.1.1 (2 * lab) 0 with | none => s | some k => clrE cap lab ack cop j (actE cap lab ack cop 3 (k / 2) (k % 2) s) := rfl
      cases hfp : fpF s.1.1 (2 * lab) 0 with
      | none =>
        rw [hfp] at hseek hu
        have hu2 : clrE cap lab ack cop (j + 1) s = s := by
          rw [hu]
          by_cases hz : s.2.2 = true
          · rw [if_pos hz]
          · rw [if_neg hz]
        refine ⟨D, Or.inl (gl_stop ?_ (by omega)), by rw [hu2]; exact hR⟩
        dsimp only
        unfold fX12_clears_S2
        rw [if_neg hle, hseek, Option.bind_some, if_neg (show ¬ (0 : Int32) ≤ fpI none by decide)]
      | some k =>
        rw [hfp] at hseek hu
        obtain ⟨_, f2, f3⟩ := fp_facts s.1.1 (2 * lab) 0 k hfp
        obtain ⟨q1, q2⟩ := kind_halves ⟨k, by omega⟩
        obtain ⟨D1, a1, a2⟩ := acting_do (F := F) hs (by omega) hR (w := 3) (a := k / 2) (v := k % 2) (p2 := Int32.ofNat (k / 2)) (p3 := Int32.ofNat (k % 2)) (by decide) (Or.inr (Or.inl ⟨Or.inr rfl, rfl, rfl⟩))
        have hu2 : clrE cap lab ack cop (j + 1) s = clrE cap lab ack cop j (actE cap lab ack cop 3 (k / 2) (k % 2) s) := by
          rw [hu]
          by_cases hz : s.2.2 = true
          · rw [if_pos hz, (ef_act (cap := cap) (lab := lab) (ack := ack) (cop := cop) 3 (k / 2) (k % 2) s hR.2.2.1).1 hz, (ef_clr (cap := cap) (lab := lab) (ack := ack) (cop := cop) j s hR.2.2.1).1 hz]
          · rw [if_neg hz]
        obtain ⟨D', b1, b2⟩ := ih (i + 1) _ D1 G (by omega) a2 (by omega)
        have hst : fX12_clears_S2 F (Int32.ofNat cap) (Int32.ofNat lab) (Int32.ofNat ack) (Int32.ofNat cop) 0 1 (Int32.ofNat a) (Int32.ofNat i) D.1 D.2.1 D.2.2.1 D.2.2.2.1 D.2.2.2.2.1 D.2.2.2.2.2.1 D.2.2.2.2.2.2.1 D.2.2.2.2.2.2.2.1 D.2.2.2.2.2.2.2.2.1 D.2.2.2.2.2.2.2.2.2.1 D.2.2.2.2.2.2.2.2.2.2.1 D.2.2.2.2.2.2.2.2.2.2.2.1 D.2.2.2.2.2.2.2.2.2.2.2.2.1 D.2.2.2.2.2.2.2.2.2.2.2.2.2 = some (.inr (Int32.ofNat (i + 1), D1)) := by
          unfold fX12_clears_S2
          rw [if_neg hle, hseek, Option.bind_some, if_pos (show (0 : Int32) ≤ fpI (some k) from (i32_le (a := 0) (by decide) (by omega)).mpr (Nat.zero_le _)), show fpI (some k) = Int32.ofNat k from rfl, q2, q1, show (3 : Int32) = Int32.ofNat 3 from rfl, a1, Option.bind_some, i32_succ]
        refine ⟨D', ?_, by rw [hu2]; exact b2⟩
        simp only [gloop, hst]
        exact b1
  obtain ⟨D', b1, b2⟩ := key a 0 s D F (by omega) hR (by omega)
  refine ⟨D', ?_, b2⟩
  unfold fX12_clears
  rcases b1 with b1 | b1
  · exact (congrArg (fun z => Option.bind z _) b1).trans rfl
  · exact (congrArg (fun z => Option.bind z _) b1).trans rfl
end MACT
