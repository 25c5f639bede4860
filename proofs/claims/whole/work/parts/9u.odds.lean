/-! part 9u: odds -/
section ODC
variable {n : Nat} {fs tg ot : Nat → Nat} {A30 A35 A81 A82 A83 : Nat → Int32} {F : Nat}
theorem turns_two (hG : Gr n fs tg) (hC : CGr n fs tg ot A30 A35) (hM : MGr n fs tg ot A81 A82 A83) (hot : ∀ e, e < fs n → ot e < 6) (hF : 70000 ≤ F) {k : Nat} (hk : k ≤ 40) (x0 x1 x2 x3 : Int32) (x4 : Int64) (x18 : Int32) (x19 : Int64) (x20 x21 x22 x35 : Int32) (A76 A77 A78 : Nat → Int32) (A79 : Nat → Int64) (A80 A84 A85 A86 : Nat → Int32) {AN AT A98 A99 : Nat → UInt64} (hR : RW n (2 ^ 1074) AN A98) : ∃ r q, gloop (fun u : Int32 × (Nat → UInt64) × (Nat → UInt64) => fBA_S F (Int32.ofNat n) A30 A35 (Int32.ofNat k) u.1 u.2.1 u.2.2) F (0, AN, AT) = some r ∧ gloop (fun u12 : (Int32 × (Nat → UInt64) × (Nat → UInt64)) => fX12_odds_S71 F x0 x1 x2 x3 x4 (Int32.ofNat k) x18 x19 x20 x21 x22 (Int32.ofNat n) x35 A76 A77 A78 A79 A80 A81 A82 A83 A84 A85 A86 u12.1 u12.2.1 u12.2.2) F (0, A98, A99) = some q ∧ RW n (2 ^ (1074 + 16 * k)) r q.1 := by
  obtain ⟨g1, g2, g3, g4, g5, g6⟩ := id hG
  refine gl_two (st1 := fun u : Int32 × (Nat → UInt64) × (Nat → UInt64) => fBA_S F (Int32.ofNat n) A30 A35 (Int32.ofNat k) u.1 u.2.1 u.2.2) (st2 := fun u12 : (Int32 × (Nat → UInt64) × (Nat → UInt64)) => fX12_odds_S71 F x0 x1 x2 x3 x4 (Int32.ofNat k) x18 x19 x20 x21 x22 (Int32.ofNat n) x35 A76 A77 A78 A79 A80 A81 A82 A83 A84 A85 A86 u12.1 u12.2.1 u12.2.2) (fun i x y => x.1 = Int32.ofNat i ∧ y.1 = Int32.ofNat i ∧ RW n (2 ^ (1074 + 16 * i)) x.2.1 y.2.1) (fun r q => RW n (2 ^ (1074 + 16 * k)) r q.1) k ?_ ?_ F 0 (0, AN, AT) (0, A98, A99) (Nat.zero_le _) ⟨rfl, rfl, hR⟩ (by omega)
  · rintro i ⟨v, A, T⟩ ⟨v', C, U⟩ hi ⟨rfl, rfl, hR⟩
    dsimp only at hR ⊢
    obtain ⟨B99, f1, f2⟩ := fill_m (A81 := A81) (A82 := A82) (A83 := A83) x0 x1 x2 x3 x4 (Int32.ofNat k) (Int32.ofNat i) x18 x19 x20 x21 x22 x35 A76 A77 A78 A79 A80 A84 A85 A86 g2 hF C U
    have hz : RW n 0 (dFill 6000 T FP.dconst0) B99 := fun j hj => by
      have e : dFill 6000 T FP.dconst0 j = FP.dconst0 := if_pos (by omega)
      rw [e]
      exact ⟨(f2 j hj).symm, 0, fv_0, Nat.le_refl _⟩
    obtain ⟨D41, D99, m1, m2, m3⟩ := move_two x0 x1 x2 x3 x4 (Int32.ofNat k) (Int32.ofNat i) x18 x19 x20 x21 x22 x35 A76 A77 A78 A79 A80 A84 A85 A86 hG hC hM hot hF (b := 1074 + 16 * i) (by omega) hR hz
    obtain ⟨B98, c1, c2⟩ := copy_m (A81 := A81) (A82 := A82) (A83 := A83) x0 x1 x2 x3 x4 (Int32.ofNat k) (Int32.ofNat i) x18 x19 x20 x21 x22 x35 A76 A77 A78 A79 A80 A84 A85 A86 g2 hF C D99
    unfold fBA_S fX12_odds_S71
    rw [if_neg (fun z => by have := (i32_le (by omega) (by omega)).mp z; omega), m1, if_neg (fun z => by have := (i32_le (by omega) (by omega)).mp z; omega), f1, Option.bind_some, Option.bind_some, m2, Option.bind_some, c1, Option.bind_some, i32_succ]
    refine ⟨_, _, rfl, rfl, rfl, rfl, fun j hj => ?_⟩
    dsimp only
    obtain ⟨p1, w, p2, p3⟩ := m3 j hj
    rw [c2 j hj]
    refine ⟨p1, w, p2, Nat.le_trans p3 ?_⟩
    calc fs n * 2 ^ (1074 + 16 * i) ≤ 2 ^ 16 * 2 ^ (1074 + 16 * i) := Nat.mul_le_mul_right _ (by omega)
      _ = 2 ^ (16 + (1074 + 16 * i)) := (Nat.pow_add 2 16 _).symm
      _ ≤ 2 ^ (1074 + 16 * (i + 1)) := Nat.pow_le_pow_right (by decide) (by omega)
  · rintro ⟨v, A, T⟩ ⟨v', C, U⟩ ⟨rfl, rfl, hR⟩
    dsimp only at hR ⊢
    unfold fBA_S fX12_odds_S71
    rw [if_pos ((i32_le (by omega) (by omega)).mpr (Nat.le_refl _)), if_pos ((i32_le (by omega) (by omega)).mpr (Nat.le_refl _))]
    exact ⟨_, _, rfl, rfl, hR⟩
theorem sum_two (hn : n ≤ 6000) (hF : 70000 ≤ F) {b : Nat} (hb : b ≤ 2000) (x0 x1 x2 x3 : Int32) (x4 : Int64) (x18 : Int32) (x19 : Int64) (x20 x21 x22 x35 : Int32) (A76 A77 A78 : Nat → Int32) (A79 : Nat → Int64) (A80 A84 A85 A86 : Nat → Int32) {AN A98 : Nat → UInt64} (A99 : Nat → UInt64) (hR : RW n (2 ^ b) AN A98) : ∃ r q, gloop (fun u : UInt64 × Int32 => fBA_T (Int32.ofNat n) AN u.1 u.2) F (FP.dconst0, 0) = some r ∧ gloop (fun u35 : (UInt64 × Int32) => fX12_odds_S159 F x0 x1 x2 x3 x4 x18 x19 x20 x21 x22 (Int32.ofNat n) x35 A76 A77 A78 A79 A80 A81 A82 A83 A84 A85 A86 A98 A99 u35.1 u35.2) F (FP.dconst0, 0) = some q ∧ r = q ∧ ∃ v, FV r v := by
  refine gl_two (st1 := fun u : UInt64 × Int32 => fBA_T (Int32.ofNat n) AN u.1 u.2) (st2 := fun u35 : (UInt64 × Int32) => fX12_odds_S159 F x0 x1 x2 x3 x4 x18 x19 x20 x21 x22 (Int32.ofNat n) x35 A76 A77 A78 A79 A80 A81 A82 A83 A84 A85 A86 A98 A99 u35.1 u35.2) (fun i x y => x.2 = Int32.ofNat i ∧ y.2 = Int32.ofNat i ∧ x.1 = y.1 ∧ ∃ v, FV x.1 v ∧ v ≤ i * 2 ^ b) (fun r q => r = q ∧ ∃ v, FV r v) n ?_ ?_ F 0 (FP.dconst0, 0) (FP.dconst0, 0) (Nat.zero_le _) ⟨rfl, rfl, rfl, 0, fv_0, Nat.zero_le _⟩ (by omega)
  · rintro i ⟨a, v⟩ ⟨a', v'⟩ hi ⟨rfl, rfl, rfl, w, h1, h2⟩
    dsimp only at h1 ⊢
    obtain ⟨p1, z, p2, p3⟩ := hR i hi
    have hsum : w + z ≤ (i + 1) * 2 ^ b := by rw [Nat.add_mul, Nat.one_mul]; omega
    obtain ⟨u, u1, u2⟩ := fv_add h1 p2 (Nat.le_trans hsum (by
      calc (i + 1) * 2 ^ b ≤ 2 ^ 16 * 2 ^ b := Nat.mul_le_mul_right _ (by omega)
        _ = 2 ^ (16 + b) := (Nat.pow_add 2 16 b).symm
        _ ≤ 2 ^ 2097 := Nat.pow_le_pow_right (by decide) (by omega)))
    have hu := (u2 (i + 1) b (by omega)).1 hsum
    unfold fBA_T fX12_odds_S159
    rw [if_neg (fun z => by have := (i32_le (by omega) (by omega)).mp z; omega), if_neg (fun z => by have := (i32_le (a := 6000) (by decide) (by omega)).mp z; omega), if_pos (inb_t (by omega) (by omega)), tnc (by omega), if_pos (fv_nn u1), if_neg (fun z => by have := (i32_le (by omega) (by omega)).mp z; omega), if_pos (inb_t (by omega) (by omega)), ← p1, if_pos (fv_nn u1), i32_succ]
    exact ⟨_, _, rfl, rfl, rfl, rfl, rfl, u, u1, hu⟩
  · rintro ⟨a, v⟩ ⟨a', v'⟩ ⟨rfl, rfl, rfl, w, h1, h2⟩
    dsimp only at h1 ⊢
    unfold fBA_T fX12_odds_S159
    rw [if_pos ((i32_le (by omega) (by omega)).mpr (Nat.le_refl _)), if_pos ((i32_le (by omega) (by omega)).mpr (Nat.le_refl _))]
    exact ⟨_, _, rfl, rfl, rfl, w, h1⟩
variable {cap lab ack cop : Nat} {c m : Int64}
theorem within_140 {p : Int32} (h : p < 1 ∨ ¬ p ≤ 40) : fX12_within p 1 40 = 0 := by
  unfold fX12_within
  rcases h with h | h
  · rw [if_pos h]
  · by_cases h0 : p < 1
    · rw [if_pos h0]
    · rw [if_neg h0, if_pos (Int32.not_le.mp h)]
theorem odds_none {p : Int32} (h : p < 1 ∨ ¬ p ≤ 40) (x0 x1 x2 x3 : Int32) (x4 : Int64) (x18 : Int32) (x19 : Int64) (x20 x21 x22 x27 x35 : Int32) (A76 A77 A78 : Nat → Int32) (A79 : Nat → Int64) (A80 A81 A82 A83 A84 A85 A86 : Nat → Int32) (A98 A99 : Nat → UInt64) : ∃ r, fX12_odds F x0 x1 x2 x3 x4 x18 x19 x20 x21 x22 x27 x35 A76 A77 A78 A79 A80 A81 A82 A83 A84 A85 A86 A98 A99 p = some (-1, 0, r) := by
  unfold fX12_odds
  rw [if_pos (within_140 h)]
  exact ⟨_, rfl⟩
theorem odds_call (hs : Stt cap lab ack cop) (hc : Good cap c) (hS : Sx c m) (hF : 70000 ≤ F) {ch : Int64} {me ra size known : Int32} {A30 A35 : Nat → Int32} {A38 : Nat → Int64} {A44 A57 A59 : Nat → Int32} (hV : SV F cap lab ack cop ch me ra size known A30 A35 A38 A44 A57 A59) (x311 x312 : Int32) (A33 A37 : Nat → Int32) (AN AT : Nat → UInt64) (p : Int32) (x18 : Int32) (x19 : Int64) (x20 x21 x22 x27 x35 : Int32) (A76 A77 A78 : Nat → Int32) (A79 : Nat → Int64) (A80 A81 A82 A83 A84 A85 A86 : Nat → Int32) (A98 A99 : Nat → UInt64) :
    ∃ out ch' me' ra' size' known' y311 y312 B30 B33 B35 B37 B38 r, fX11_odds F c (Int32.ofNat cap) (Int32.ofNat lab) (Int32.ofNat ack) (Int32.ofNat cop) ch me ra size known x311 x312 A30 A33 A35 A37 A38 AN AT p = some (out, ch', me', ra', size', known', y311, y312, B30, B33, B35, B37, B38) ∧ fX12_odds F (Int32.ofNat cap) (Int32.ofNat lab) (Int32.ofNat ack) (Int32.ofNat cop) m x18 x19 x20 x21 x22 x27 x35 A76 A77 A78 A79 A80 A81 A82 A83 A84 A85 A86 A98 A99 p = some (out, 0, r) ∧ SV F cap lab ack cop ch' me' ra' size' known' B30 B35 B38 A44 A57 A59 := by
  unfold fX11_odds
  by_cases hn : p < 1
  · rw [if_pos hn]
    obtain ⟨r, hr⟩ := odds_none (F := F) (Or.inl hn) (Int32.ofNat cap) (Int32.ofNat lab) (Int32.ofNat ack) (Int32.ofNat cop) m x18 x19 x20 x21 x22 x27 x35 A76 A77 A78 A79 A80 A81 A82 A83 A84 A85 A86 A98 A99
    exact ⟨_, _, _, _, _, _, _, _, _, _, _, _, _, r, rfl, hr, hV⟩
  · rw [if_neg hn]
    by_cases h40 : p ≤ 40
    · rw [if_pos h40]
      obtain ⟨k, hk1, hk2, rfl⟩ : ∃ k, 1 ≤ k ∧ k ≤ 40 ∧ p = Int32.ofNat k := by
        have h0 : ¬ p < 0 := fun z => hn (Int32.lt_of_lt_of_le z (by decide))
        obtain ⟨k, hk, rfl⟩ := i32_nn h0
        have h1 := (i32_le (b := 40) hk (by decide)).mp h40
        refine ⟨k, ?_, h1, rfl⟩
        by_cases hz : k = 0
        · subst hz; exact absurd (by decide) hn
        · omega
      have hwi : ¬ fX12_within (Int32.ofNat k) 1 40 = 0 := by
        unfold fX12_within
        rw [if_neg hn, if_neg (fun z => by have := (i32_lt (a := 40) (by decide) (by omega)).mp z; omega)]
        decide
      obtain ⟨me', ra', size', known', y311, y312, B30, B33, B35, B37, B38, e1, hK⟩ := covers_eq hs hV hc hF x311 x312 A33 A37
      unfold fX12_odds
      rw [e1, Option.bind_some, if_neg hwi]
      dsimp only
      rcases reaches_eq hs.1.2 (by have := hs.2.1.1; omega) hs.2.1.2 hs.2.2.1.2 hs.2.2.2.2 (F := F) (by omega) hc hS x19 x20 x21 x22 x27 x35 A76 A77 A78 A79 A80 A81 A82 A83 A84 A85 A86 with ⟨K', M', E', Fs', z19, z20, z21, B76, B77, B78, B79, B80, B81, B82, B83, B84, B85, B86, r1, r2, r3, r4, r5, r6⟩ | ⟨r1, r, r2⟩
      · rw [r2]
        simp only [Option.bind_some]
        rw [if_neg (show ¬ (1 : Int32) = 0 by decide)]
        rcases hK.2 with ⟨k1, k2⟩ | ⟨k1, K, E, Fs, k2, k3, k4, k5, k6, k7, k8⟩
        · rw [k2] at r1; exact absurd r1 (by simp)
        · rw [k2] at r1
          obtain ⟨rfl, hr⟩ := Prod.mk.inj (Option.some.inj r1)
          obtain ⟨rfl, rfl⟩ := Prod.mk.inj hr
          obtain ⟨hgk, hK1, _⟩ := graph_of hs hc k2
          obtain ⟨hg, _⟩ := gk_gr hgk hK1
          have hC := cgr_of hgk hK1 k5 k6
          have hM := mgr_of hgk hK1 r5 r6
          have hot : ∀ e, e < fsOf Fs K.length → otOf E e < 6 := fun e he => ot_lt hgk hK1 he
          rw [if_neg (by rw [k1]; decide), ← r3.1, k3]
          obtain ⟨C98, i1, i2⟩ := init_m (F := F) (A81 := B81) (A82 := B82) (A83 := B83) (Int32.ofNat cap) (Int32.ofNat lab) (Int32.ofNat ack) (Int32.ofNat cop) m (Int32.ofNat k) 0 z19 z20 z21 (Int32.ofNat ack) (Int32.ofNat E.length) B76 B77 B78 B79 B80 B84 B85 B86 hg.2.1 hF A98 A99
          have hR : RW K.length (2 ^ 1074) (vf_upd (dFill 6000 AN FP.dconst0) (0 : Int32).toNatClampNeg FP.dconst1) C98 := by
            intro i hi
            rw [i2 i hi, show (0 : Int32).toNatClampNeg = 0 from n0]
            by_cases h0 : i = 0
            · subst h0
              rw [vfu_at, if_pos rfl]
              exact ⟨rfl, _, fv_1, Nat.le_refl _⟩
            · rw [vfu_ne h0, if_neg h0]
              have h6 := hg.2.1
              have e : dFill 6000 AN FP.dconst0 i = FP.dconst0 := if_pos (by omega)
              rw [e]
              exact ⟨rfl, 0, fv_0, Nat.zero_le _⟩
          obtain ⟨r, q, t1, t2, t3⟩ := turns_two hg hC hM hot hF hk2 (Int32.ofNat cap) (Int32.ofNat lab) (Int32.ofNat ack) (Int32.ofNat cop) m 0 z19 z20 z21 (Int32.ofNat ack) (Int32.ofNat E.length) B76 B77 B78 B79 B80 B84 B85 B86 (AT := AT) (A99 := A99) hR
          obtain ⟨a, a', s1, s2, s3, v, s4⟩ := sum_two (A81 := B81) (A82 := B82) (A83 := B83) hg.2.1 hF (b := 1074 + 16 * k) (by omega) (Int32.ofNat cap) (Int32.ofNat lab) (Int32.ofNat ack) (Int32.ofNat cop) m 0 z19 z20 z21 (Int32.ofNat ack) (Int32.ofNat E.length) B76 B77 B78 B79 B80 B84 B85 B86 q.2 t3
          subst s3
          have hba : fX3_bitsAfter F (Int32.ofNat K.length) B30 B35 AN AT (Int32.ofNat k) = some a.toInt64 := by
            unfold fX3_bitsAfter
            rw [t1, Option.bind_some, s1, Option.bind_some]
            exact bits_eq (by omega) s4
          rw [hba, i1]
          simp only [Option.bind_some]
          rw [t2, Option.bind_some, s2, Option.bind_some, bits_m s4]
          exact ⟨_, _, _, _, _, _, _, _, _, _, _, _, _, _, rfl, rfl, Or.inr ⟨hc, Or.inr ⟨k1, K, E, Fs, k2, rfl, k4, k5, k6, k7, k8⟩⟩⟩
      · rw [r2]
        simp only [Option.bind_some, ↓reduceIte]
        rcases hK.2 with ⟨k1, k2⟩ | ⟨k1, K, E, Fs, k2, k3⟩
        · rw [if_pos k1]
          exact ⟨_, _, _, _, _, _, _, _, _, _, _, _, _, _, rfl, rfl, Or.inr ⟨hc, Or.inl ⟨k1, k2⟩⟩⟩
        · rw [k2] at r1; exact absurd r1 (by simp)
    · rw [if_neg h40]
      obtain ⟨r, hr⟩ := odds_none (F := F) (Or.inr h40) (Int32.ofNat cap) (Int32.ofNat lab) (Int32.ofNat ack) (Int32.ofNat cop) m x18 x19 x20 x21 x22 x27 x35 A76 A77 A78 A79 A80 A81 A82 A83 A84 A85 A86 A98 A99
      exact ⟨_, _, _, _, _, _, _, _, _, _, _, _, _, r, rfl, hr, hV⟩
end ODC
