/-! part 9z1: the class's reading as a whole -/
section RDW
variable {cap lab ack cop n : Nat} {b : Nat → Nat} {F : Nat} {A : Nat → Int32}
/-- the fault of a text -/
def flA (r : RA4) (n : Nat) (b : Nat → Nat) : Nat := if r.1 = 0 then (if chA n b r.2.1 = 256 then 0 else 8 * r.2.1 + 1) else r.1
theorem rd_end (u : UR) (h : u.2.2.2.2.1 ≠ -1 ∨ Int32.ofNat n ≤ u.2.2.2.1) : rdS F n lab A u = some (.inl (u.2.1, u.2.2.1, u.2.2.2.1, u.2.2.2.2.1, u.2.2.2.2.2.1, u.2.2.2.2.2.2.1, u.2.2.2.2.2.2.2.1, u.2.2.2.2.2.2.2.2)) := by
  unfold rdS fX10_read_S32
  by_cases h1 : (264 : Int32) ≤ u.1
  · rw [if_pos h1]
  · rw [if_neg h1]
    by_cases h2 : Int32.ofNat n ≤ u.2.2.2.1
    · rw [if_pos h2]
    · rw [if_neg h2, if_neg (h.resolve_right h2)]
theorem gl_stop {σ ρ : Type} {st : σ → Option (ρ ⊕ σ)} {X : σ} {r : ρ} (h : st X = some (.inl r)) {G : Nat} (hG : 1 ≤ G) : gloop st G X = some r := by
  obtain ⟨G', rfl⟩ : ∃ G', G = G' + 1 := ⟨G - 1, by omega⟩
  simp only [gloop, h]
theorem read_eq (hlab : 2 ≤ lab ∧ lab ≤ 4) (h : TxA n b A) (hF : 1000 ≤ F) (x6 x7 x2 x3 x4 : Int32) (A13 A15 A17 A19 : Nat → Int32) (cap ack cop : Nat) : flA (psA cap lab ack cop n b (n + 1) (skA n b 0) 0 0) n b < 4000 ∧ ∃ (sz dp at' : Int32) (fl : Int32) (B13 B15 B17 B19 : Nat → Int32), fX10_read F A x6 x7 x2 x3 x4 A13 A15 A17 A19 (Int32.ofNat n) (Int32.ofNat lab) = some (fcI (flA (psA cap lab ack cop n b (n + 1) (skA n b 0) 0 0) n b), sz, dp, Int32.ofNat n, at', fl, B13, B15, B17, B19) ∧ (flA (psA cap lab ack cop n b (n + 1) (skA n b 0) 0 0) n b = 0 → sz = Int32.ofNat (psA cap lab ack cop n b (n + 1) (skA n b 0) 0 0).2.2.2.length ∧ 9 * (psA cap lab ack cop n b (n + 1) (skA n b 0) 0 0).2.2.2.length ≤ 480 ∧ CodeAt (psA cap lab ack cop n b (n + 1) (skA n b 0) 0 0).2.2.2 0 B13 B15 B17) := by
  have hn := h.1
  have hb : ∀ k, k < n → b k < 256 := fun k hk => (h.2 k hk).1
  have hsl := sk_le (n := n) (b := b) (k := 0) (by omega)
  have hseg := seg_c (cap := cap) (ack := ack) (cop := cop) hlab h hF (n + 1) (skA n b 0) 0 0 0 A13 A15 A17 A19 (by omega) hsl (sk_idem n b 0) (by omega) (by omega) (by omega)
  have hmin : (if (264 : Int32) < Int32.ofNat n then (264 : Int32) else Int32.ofNat n) = Int32.ofNat n := if_neg (fun z => by have := (i32_lt (a := 264) (by decide) (by omega)).mp z; omega)
  have hrd : ∀ (sz dp at' fl : Int32) (B13 B15 B17 B19 : Nat → Int32), gloop (rdS F n lab A) F (Int32.ofNat 0, Int32.ofNat 0, Int32.ofNat 0, Int32.ofNat (skA n b 0), fcI 0, A13, A15, A17, A19) = some (sz, dp, at', fl, B13, B15, B17, B19) → fX10_read F A x6 x7 x2 x3 x4 A13 A15 A17 A19 (Int32.ofNat n) (Int32.ofNat lab) = fX10_read_J92 F A sz dp (Int32.ofNat n) at' fl B13 B15 B17 B19 := by
    intro sz dp at' fl B13 B15 B17 B19 e
    unfold fX10_read fX8_empty
    rw [hmin, show (0 : Int32) = Int32.ofNat 0 from rfl, skip_eq h hF (k := 0) (by omega), Option.bind_some]
    dsimp only
    unfold rdS at e
    rw [show fcI 0 = -1 from rfl] at e
    rw [e, Option.bind_some]
  have hmc : ∀ d : Nat, d < 100 → fX8_mayClose (Int32.ofNat (d + 1)) = 1 := fun d hd => by
    unfold fX8_mayClose
    rw [if_neg (fun z => by have := (i32_le (b := 0) (by omega) (by decide)).mp z; omega)]
  generalize psA cap lab ack cop n b (n + 1) (skA n b 0) 0 0 = r at hseg
  obtain ⟨h1, h2⟩ := hseg
  unfold flA
  by_cases z0 : r.1 = 0
  · obtain ⟨k, t', B13, B15, B17, B19, m1, m2, m3, m4, m5, m6, m7, m8, m9⟩ := h1 z0
    rw [if_pos z0]
    have hgo := m1 (F - k)
    rw [show F - k + k = F by omega] at hgo
    by_cases hc : chA n b r.2.1 = 256
    · rw [if_pos hc]
      have hrn : r.2.1 = n := by
        by_cases y : r.2.1 < n
        · have := hb r.2.1 y
          rw [chA_in y] at hc
          omega
        · omega
      have hgo := hgo.trans (gl_stop (rd_end _ (Or.inr (by show Int32.ofNat n ≤ Int32.ofNat r.2.1; rw [hrn]; exact (i32_le (by omega) (by omega)).mpr (Nat.le_refl _)))) (by omega))
      have e := hrd _ _ _ _ _ _ _ _ hgo
      unfold fX10_read_J92 at e
      rw [if_pos (show fX8_mayClose (Int32.ofNat 0) = 0 by decide)] at e
      refine ⟨by decide, _, _, _, _, _, _, _, _, e, fun _ => ⟨?_, by omega, m8⟩⟩
      show Int32.ofNat (0 + r.2.2.2.length) = _
      rw [Nat.zero_add]
    · rw [if_neg hc]
      have h93 := m5.resolve_left hc
      have hlt := ch_lt h93 (by decide)
      have hone : rdS F n lab A (Int32.ofNat t', Int32.ofNat (0 + r.2.2.2.length), Int32.ofNat 0, Int32.ofNat r.2.1, fcI 0, B13, B15, B17, B19) = some (.inr (Int32.ofNat (t' + 1), Int32.ofNat (0 + r.2.2.2.length), Int32.ofNat 0, Int32.ofNat (skA n b r.2.1), fcI (8 * r.2.1 + 1), B13, B15, B17, B19)) := by
        unfold rdS fX10_read_S32
        dsimp only
        rw [if_neg (fun z => by have := (i32_le (a := 264) (by decide) (by omega)).mp z; omega), if_neg (fun z => by have := (i32_le (by omega) (by omega)).mp z; omega), if_pos ((fcI_eq (by decide)).mpr rfl), peek_eq h _ (by omega), if_pos (show chI n b r.2.1 = 93 from (chI_eq hb _ (c := 93) (by decide)).mpr h93)]
        unfold fX10_readClose
        rw [if_pos (show fX8_mayClose (Int32.ofNat 0) = 0 by decide), show (1 : Int32) = Int32.ofNat 1 from rfl, blame_eq (by decide) (by omega) (by decide) (by decide), Option.bind_some]
        unfold fX10_read_J82
        dsimp only
        rw [skip_eq h hF (by omega), Option.bind_some, i32_succ]
        rfl
      have hr2 := reach_one hone (F - k - 1)
      rw [show F - k - 1 + 1 = F - k by omega] at hr2
      have hgo := (hgo.trans hr2).trans (gl_stop (rd_end _ (Or.inl (fun z => by have := (fcI_eq (f := 8 * r.2.1 + 1) (by omega)).mp z; omega))) (by omega))
      have e := hrd _ _ _ _ _ _ _ _ hgo
      unfold fX10_read_J92 at e
      rw [if_pos (show fX8_mayClose (Int32.ofNat 0) = 0 by decide)] at e
      exact ⟨by omega, _, _, _, _, _, _, _, _, e, fun z => absurd z (by omega)⟩
  · obtain ⟨w1, k, X, w2, w3, w4⟩ := h2 z0
    rw [if_neg z0]
    have hgo := w2 (F - k)
    rw [show F - k + k = F by omega] at hgo
    refine ⟨w1, ?_⟩
    rcases w4 with w4 | ⟨w5, ⟨d, hd, w6⟩, w7, w8⟩
    · have hgo := hgo.trans (gl_stop (rd_end X (Or.inl (by rw [w4]; exact fun z => z0 ((fcI_eq w1).mp z)))) (by omega))
      have e := hrd _ _ _ _ _ _ _ _ hgo
      unfold fX10_read_J92 at e
      rw [w4] at e
      by_cases hm : fX8_mayClose X.2.2.1 = 0
      · rw [if_pos hm] at e
        exact ⟨_, _, _, _, _, _, _, _, e, fun z => absurd z z0⟩
      · rw [if_neg hm] at e
        have hbl : fX10_blame (fcI r.1) X.2.2.2.1 1 = fcI r.1 := if_neg (fun z => z0 ((fcI_eq w1).mp z))
        rw [hbl] at e
        exact ⟨_, _, _, _, _, _, _, _, e, fun z => absurd z z0⟩
    · have hgo := hgo.trans (gl_stop (rd_end X (Or.inr (by rw [w7]; exact (i32_le (by omega) (by omega)).mpr (Nat.le_refl _)))) (by omega))
      have e := hrd _ _ _ _ _ _ _ _ hgo
      unfold fX10_read_J92 at e
      rw [w5, w6, w7, hmc d (by omega), if_neg (by decide), show (1 : Int32) = Int32.ofNat 1 from rfl, blame_eq (by decide) (by omega) (by decide) (by decide)] at e
      have hbl : blm 0 n 1 = r.1 := by rw [w8]; rfl
      rw [hbl] at e
      exact ⟨_, _, _, _, _, _, _, _, e, fun z => absurd z z0⟩
end RDW
