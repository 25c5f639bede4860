/-! part 9t: odds, a turn on both sides -/
section ODW
variable {n : Nat} {fs tg ot : Nat → Nat} {A30 A35 A81 A82 A83 : Nat → Int32} {F : Nat}
/-- both rows hold the same doubles, none beyond B units -/
def RW (n B : Nat) (A C : Nat → UInt64) : Prop := ∀ i, i < n → A i = C i ∧ ∃ v, FV (A i) v ∧ v ≤ B
theorem RW.up {B B' : Nat} {A C : Nat → UInt64} (h : RW n B A C) (hb : B ≤ B') : RW n B' A C := fun i hi => ⟨(h i hi).1, (h i hi).2.elim fun v hv => ⟨v, hv.1, Nat.le_trans hv.2 hb⟩⟩
theorem vfu_at {f : Nat → UInt64} {k : Nat} {x : UInt64} : vf_upd f k x k = x := if_pos rfl
theorem vfu_ne {f : Nat → UInt64} {k j : Nat} {x : UInt64} (h : j ≠ k) : vf_upd f k x j = f j := if_neg h
theorem RW.add {B b : Nat} {A C : Nat → UInt64} {q : UInt64} {w e t : Nat} (h : RW n (e * 2 ^ b) A C) (ht : t < n) (hq : FV q w) (hw : w ≤ 2 ^ b) (he : e + 1 ≤ 2 ^ 16) (hb : b ≤ 2000) : nn64 (FP.dadd (A t) q) = true ∧ RW n ((e + 1) * 2 ^ b) (vf_upd A t (FP.dadd (A t) q)) (vf_upd C t (FP.dadd (C t) q)) := by
  obtain ⟨h1, v, h2, h3⟩ := h t ht
  have hsum : v + w ≤ (e + 1) * 2 ^ b := by rw [Nat.add_mul, Nat.one_mul]; omega
  have hcap : (e + 1) * 2 ^ b ≤ 2 ^ 2097 := by
    calc (e + 1) * 2 ^ b ≤ 2 ^ 16 * 2 ^ b := Nat.mul_le_mul_right _ he
      _ = 2 ^ (16 + b) := (Nat.pow_add 2 16 b).symm
      _ ≤ 2 ^ 2097 := Nat.pow_le_pow_right (by decide) (by omega)
  obtain ⟨u, u1, u2⟩ := fv_add h2 hq (Nat.le_trans hsum hcap)
  refine ⟨fv_nn u1, fun i hi => ?_⟩
  by_cases hit : i = t
  · subst hit
    rw [vfu_at, vfu_at, ← h1]
    exact ⟨rfl, u, u1, (u2 (e + 1) b (by omega)).1 hsum⟩
  · rw [vfu_ne hit, vfu_ne hit]
    have := (h.up (B' := (e + 1) * 2 ^ b) (Nat.mul_le_mul_right _ (by omega))) i hi
    exact this
theorem pass_two (hG : Gr n fs tg) (hC : CGr n fs tg ot A30 A35) (hM : MGr n fs tg ot A81 A82 A83) (hot : ∀ e, e < fs n → ot e < 6) (hF : 70000 ≤ F) {s b w : Nat} (hs : s < n) {q : UInt64} (hq : FV q w) (hw : w ≤ 2 ^ b) (hb : b ≤ 2000) (A98 : Nat → UInt64) {A41 A99 : Nat → UInt64} (hR : RW n (fs s * 2 ^ b) A41 A99) : ∃ B41 B99, fX3_pass F A30 A35 A41 (Int32.ofNat s) q = some B41 ∧ gloop (fun u8 : (Int32 × (Nat → UInt64)) => fX12_goesOn_S44 F A81 A82 A83 A98 (Int32.ofNat s) q u8.1 u8.2) F (Int32.ofNat (fs s), A99) = some B99 ∧ RW n (fs (s + 1) * 2 ^ b) B41 B99 := by
  obtain ⟨g1, g2, g3, g4, g5, g6⟩ := id hG
  have hlt := g4 s hs
  have hmono := gr_mono hG (a := s + 1) (b := n) (by omega) (Nat.le_refl _)
  have key := gl_two (st1 := fun u2 : (Int32 × (Nat → UInt64)) => fX3_pass_S10 F A30 A35 (Int32.ofNat s) q u2.1 u2.2) (st2 := fun u8 : (Int32 × (Nat → UInt64)) => fX12_goesOn_S44 F A81 A82 A83 A98 (Int32.ofNat s) q u8.1 u8.2) (fun e x y => x.1 = Int32.ofNat e ∧ y.1 = Int32.ofNat e ∧ RW n (e * 2 ^ b) x.2 y.2) (fun r t => RW n (fs (s + 1) * 2 ^ b) r t) (fs (s + 1)) (by
    rintro e ⟨v, A⟩ ⟨v', C⟩ he ⟨rfl, rfl, hR⟩
    dsimp only at hR ⊢
    have hen : e < fs n := by omega
    obtain ⟨c1, c2, c3⟩ := hC.2 e hen
    obtain ⟨m1, m2⟩ := hM.2 e hen
    have ht := g6 e hen
    have ho := hot e hen
    have cst : fX3_pass_S10 F A30 A35 (Int32.ofNat s) q (Int32.ofNat e) A = (if badO (ot e) = true then some (.inr (Int32.ofNat (e + 1), A)) else (if nn64 (FP.dadd (A (tg e)) q) = true then some (.inr (Int32.ofNat (e + 1), vf_upd A (tg e) (FP.dadd (A (tg e)) q))) else none)) := by
      unfold fX3_pass_S10 fX3_pass_J69
      rw [i32_succ, hC.1 (s + 1) (by omega), if_neg (fun z => by have := (i32_le (by omega) (by omega)).mp z; omega), c2, c1]
      by_cases hbad : badO (ot e) = true
      · rw [if_pos hbad, if_neg (by decide), if_pos hbad, i32_succ]
      · rw [if_neg hbad, if_pos rfl, if_neg hbad, if_neg (i32_nneg (by omega)), if_neg (fun z => by have := (i32_le (a := 6000) (by decide) (by omega)).mp z; omega), if_pos (inb_t (by omega) (by omega)), tnc (by omega), if_pos (inb_t (by omega) (by omega)), i32_succ]
    have mst : fX12_goesOn_S44 F A81 A82 A83 A98 (Int32.ofNat s) q (Int32.ofNat e) C = (if badO (ot e) = true then some (.inr (Int32.ofNat (e + 1), C)) else (if nn64 (FP.dadd (C (tg e)) q) = true then some (.inr (Int32.ofNat (e + 1), vf_upd C (tg e) (FP.dadd (C (tg e)) q))) else none)) := by
      unfold fX12_goesOn_S44 fX12_goesOn_J86
      rw [i32_succ, if_pos (inb_t (by omega) (by omega)), tnc (n := s + 1) (by omega), hM.1 (s + 1) (by omega), if_neg (fun z => by have := (i32_le (by omega) (by omega)).mp z; omega), if_pos (inb_t (by omega) (by omega)), tnc (n := e) (by omega), m2, m1, show fX12_isBad (Int32.ofNat (ot e)) = if badO (ot e) = true then 1 else 0 from bad_flag ⟨ot e, ho⟩]
      by_cases hbad : badO (ot e) = true
      · rw [if_pos hbad, if_neg (by decide), if_pos hbad, i32_succ]
      · rw [if_neg hbad, if_pos rfl, if_neg hbad, if_pos (inb_t (by omega) (by omega)), if_pos (inb_t (by omega) (by omega)), tnc (n := tg e) (by omega), if_pos (inb_t (by omega) (by omega)), i32_succ]
    rw [cst, mst]
    by_cases hbad : badO (ot e) = true
    · rw [if_pos hbad, if_pos hbad]
      exact ⟨_, _, rfl, rfl, rfl, rfl, hR.up (Nat.mul_le_mul_right _ (by omega))⟩
    · obtain ⟨a1, a2⟩ := RW.add (B := 0) hR ht hq hw (by omega) hb
      rw [if_neg hbad, if_neg hbad, ← (hR (tg e) ht).1, if_pos a1, if_pos a1]
      rw [← (hR (tg e) ht).1] at a2
      exact ⟨_, _, rfl, rfl, rfl, rfl, a2⟩) (by
    rintro ⟨v, A⟩ ⟨v', C⟩ ⟨rfl, rfl, hR⟩
    dsimp only at hR ⊢
    refine ⟨A, C, ?_, ?_, hR⟩
    · unfold fX3_pass_S10
      rw [i32_succ, hC.1 (s + 1) (by omega), if_pos ((i32_le (by omega) (by omega)).mpr (Nat.le_refl _))]
    · unfold fX12_goesOn_S44
      rw [i32_succ, if_pos (inb_t (by omega) (by omega)), tnc (n := s + 1) (by omega), hM.1 (s + 1) (by omega), if_pos ((i32_le (by omega) (by omega)).mpr (Nat.le_refl _))]) F (fs s) (Int32.ofNat (fs s), A41) (Int32.ofNat (fs s), A99) (by omega) ⟨rfl, rfl, hR⟩ (by omega)
  obtain ⟨r, t, k1, k2, k3⟩ := key
  refine ⟨r, t, ?_, k2, k3⟩
  unfold fX3_pass
  rw [hC.1 s (by omega), k1]
  rfl
variable (x0 x1 x2 x3 : Int32) (x4 : Int64) (v1 v2 x18 : Int32) (x19 : Int64) (x20 x21 x22 x35 : Int32) (A76 A77 A78 : Nat → Int32) (A79 : Nat → Int64) (A80 A84 A85 A86 : Nat → Int32)
theorem move_two (hG : Gr n fs tg) (hC : CGr n fs tg ot A30 A35) (hM : MGr n fs tg ot A81 A82 A83) (hot : ∀ e, e < fs n → ot e < 6) (hF : 70000 ≤ F) {b : Nat} (hb : b ≤ 2000) {A40 A98 A41 A99 : Nat → UInt64} (hN : RW n (2 ^ b) A40 A98) (hR : RW n 0 A41 A99) : ∃ B41 B99, fX3_move F (Int32.ofNat n) A30 A35 A40 A41 = some B41 ∧ gloop (fun u18 : (Int32 × (Nat → UInt64)) => fX12_odds_S101 F x0 x1 x2 x3 x4 v1 v2 x18 x19 x20 x21 x22 (Int32.ofNat n) x35 A76 A77 A78 A79 A80 A81 A82 A83 A84 A85 A86 A98 u18.1 u18.2) F (0, A99) = some B99 ∧ RW n (fs n * 2 ^ b) B41 B99 := by
  obtain ⟨g1, g2, g3, g4, g5, g6⟩ := id hG
  have key := gl_two (st1 := fun u1 : (Int32 × (Nat → UInt64)) => fX3_move_S2 F (Int32.ofNat n) A30 A35 A40 u1.1 u1.2) (st2 := fun u18 : (Int32 × (Nat → UInt64)) => fX12_odds_S101 F x0 x1 x2 x3 x4 v1 v2 x18 x19 x20 x21 x22 (Int32.ofNat n) x35 A76 A77 A78 A79 A80 A81 A82 A83 A84 A85 A86 A98 u18.1 u18.2) (fun s x y => x.1 = Int32.ofNat s ∧ y.1 = Int32.ofNat s ∧ RW n (fs s * 2 ^ b) x.2 y.2) (fun r t => RW n (fs n * 2 ^ b) r t) n (by
    rintro s ⟨v, A⟩ ⟨v', C⟩ hs ⟨rfl, rfl, hR⟩
    dsimp only at hR ⊢
    obtain ⟨n1, w, n2, n3⟩ := hN s hs
    have hlt := g4 s hs
    have hmono := gr_mono hG (a := s + 1) (b := n) (by omega) (Nat.le_refl _)
    have hz := (fv_cmp n2 fv_0 .l).2.2
    have hz' := hz
    rw [n1] at hz'
    have cst : fX3_move_S2 F (Int32.ofNat n) A30 A35 A40 (Int32.ofNat s) A = (if Op.cmpValue (FP.dcmp (A40 s) FP.dconst0) .l = 0 then some (.inr (Int32.ofNat (s + 1), A)) else (if nn64 (FP.ddiv (A40 s) (FP.i2d (Int32.ofNat (fs (s + 1) - fs s)))) = true then (fX3_pass F A30 A35 A (Int32.ofNat s) (FP.ddiv (A40 s) (FP.i2d (Int32.ofNat (fs (s + 1) - fs s))))).bind (fun r => some (.inr (Int32.ofNat (s + 1), r))) else none)) := by
      unfold fX3_move_S2 fX3_move_J69
      rw [if_neg (fun z => by have := (i32_le (by omega) (by omega)).mp z; omega), if_neg (fun z => by have := (i32_le (a := 6000) (by decide) (by omega)).mp z; omega), if_pos (inb_t (by omega) (by omega)), tnc (n := s) (by omega), i32_succ, hC.1 (s + 1) (by omega), hC.1 s (by omega), i32_sub (by omega)]
      by_cases hz0 : Op.cmpValue (FP.dcmp (A40 s) FP.dconst0) .l = 0
      · rw [if_pos hz0, if_pos hz0]
      · rw [if_neg hz0, if_neg hz0, if_neg (show ¬ Int32.ofNat (fs (s + 1) - fs s) ≤ 0 from fun z => by have := (i32_le (b := 0) (by omega) (by decide)).mp z; omega), if_pos (inb_t (by omega) (by omega))]
    have mst : fX12_odds_S101 F x0 x1 x2 x3 x4 v1 v2 x18 x19 x20 x21 x22 (Int32.ofNat n) x35 A76 A77 A78 A79 A80 A81 A82 A83 A84 A85 A86 A98 (Int32.ofNat s) C = (if Op.cmpValue (FP.dcmp (A98 s) FP.dconst0) .l = 0 then some (.inr (Int32.ofNat (s + 1), C)) else (if nn64 (FP.ddiv (A98 s) (FP.i2d (Int32.ofNat (fs (s + 1) - fs s)))) = true then (gloop (fun u8 : (Int32 × (Nat → UInt64)) => fX12_goesOn_S44 F A81 A82 A83 A98 (Int32.ofNat s) (FP.ddiv (A98 s) (FP.i2d (Int32.ofNat (fs (s + 1) - fs s)))) u8.1 u8.2) F (Int32.ofNat (fs s), C)).bind (fun r => some (.inr (Int32.ofNat (s + 1), r))) else none)) := by
      unfold fX12_odds_S101 fX12_goesOn
      rw [if_neg (fun z => by have := (i32_le (by omega) (by omega)).mp z; omega), if_pos (inb_t (by omega) (by omega)), tnc (n := s) (by omega), i32_succ, tnc (n := s + 1) (by omega), hM.1 (s + 1) (by omega), hM.1 s (by omega), i32_sub (by omega)]
      by_cases hz0 : Op.cmpValue (FP.dcmp (A98 s) FP.dconst0) .l = 0
      · rw [if_pos hz0, if_pos hz0, Option.bind_some]
      · rw [if_neg hz0, if_neg hz0, if_pos (inb_t (by omega) (by omega)), if_pos (inb_t (by omega) (by omega)), if_pos (inb_t (by omega) (by omega))]
        by_cases hnn : nn64 (FP.ddiv (A98 s) (FP.i2d (Int32.ofNat (fs (s + 1) - fs s)))) = true
        · rw [if_pos hnn, if_pos hnn, if_pos (inb_t (by omega) (by omega)), Option.bind_fun_some]
        · rw [if_neg hnn, if_neg hnn, Option.bind_none]
    rw [cst, mst]
    by_cases hw0 : w = 0
    · rw [if_pos (hz.mpr hw0), if_pos (hz'.mpr hw0)]
      exact ⟨_, _, rfl, rfl, rfl, rfl, hR.up (Nat.mul_le_mul_right _ (by omega))⟩
    · have hk : FV (FP.i2d (Int32.ofNat (fs (s + 1) - fs s))) ((fs (s + 1) - fs s) * 2 ^ 1074) := fv_i2d (by omega) (by omega)
      have hle : w * 2 ^ 1074 ≤ 1 * 2 ^ b * ((fs (s + 1) - fs s) * 2 ^ 1074) := by
        rw [← Nat.mul_assoc]
        refine Nat.mul_le_mul_right _ ?_
        calc w ≤ 2 ^ b := n3
          _ = 1 * 2 ^ b * 1 := by rw [Nat.one_mul, Nat.mul_one]
          _ ≤ 1 * 2 ^ b * (fs (s + 1) - fs s) := Nat.mul_le_mul_left _ (by omega)
      obtain ⟨u, u1, u2⟩ := fv_div n2 hk (Nat.mul_pos (by omega) (Nat.two_pow_pos _)) (Nat.le_trans hle (by
        refine Nat.mul_le_mul_right _ ?_
        rw [Nat.one_mul]
        exact Nat.pow_le_pow_right (by decide) (by omega)))
      have hu := (u2 1 b (by decide)).1 hle
      rw [Nat.one_mul] at hu
      obtain ⟨B41, B99, p1, p2, p3⟩ := pass_two hG hC hM hot hF hs u1 hu hb A98 hR
      rw [if_neg (fun z => hw0 (hz.mp z)), if_neg (fun z => hw0 (hz'.mp z)), ← n1, if_pos (fv_nn u1), if_pos (fv_nn u1), p1, p2, Option.bind_some, Option.bind_some]
      exact ⟨_, _, rfl, rfl, rfl, rfl, p3⟩) (by
    rintro ⟨v, A⟩ ⟨v', C⟩ ⟨rfl, rfl, hR⟩
    dsimp only at hR ⊢
    refine ⟨A, C, ?_, ?_, hR⟩
    · unfold fX3_move_S2
      rw [if_pos ((i32_le (by omega) (by omega)).mpr (Nat.le_refl _))]
    · unfold fX12_odds_S101
      rw [if_pos ((i32_le (by omega) (by omega)).mpr (Nat.le_refl _))]) F 0 (0, A41) (0, A99) (by omega) ⟨rfl, rfl, by rw [g3, Nat.zero_mul]; exact hR⟩ (by omega)
  obtain ⟨r, t, k1, k2, k3⟩ := key
  refine ⟨r, t, ?_, k2, k3⟩
  unfold fX3_move
  rw [k1]
  rfl
theorem fill_m (hn : n ≤ 6000) (hF : 70000 ≤ F) (A98 A99 : Nat → UInt64) : ∃ B99, gloop (fun u14 : (Int32 × (Nat → UInt64)) => fX12_odds_S78 F x0 x1 x2 x3 x4 v1 v2 x18 x19 x20 x21 x22 (Int32.ofNat n) x35 A76 A77 A78 A79 A80 A81 A82 A83 A84 A85 A86 A98 u14.1 u14.2) F (0, A99) = some B99 ∧ ∀ i, i < n → B99 i = FP.dconst0 := by
  refine gl_ix (st := fun u14 : (Int32 × (Nat → UInt64)) => fX12_odds_S78 F x0 x1 x2 x3 x4 v1 v2 x18 x19 x20 x21 x22 (Int32.ofNat n) x35 A76 A77 A78 A79 A80 A81 A82 A83 A84 A85 A86 A98 u14.1 u14.2) (fun k s => s.1 = Int32.ofNat k ∧ ∀ j, j < k → s.2 j = FP.dconst0) (fun r => ∀ i, i < n → r i = FP.dconst0) n ?_ ?_ F 0 (0, A99) (Nat.zero_le _) ⟨rfl, fun j hj => absurd hj (Nat.not_lt_zero _)⟩ (by omega)
  · rintro k ⟨v, A⟩ hk ⟨rfl, h⟩
    dsimp only at h ⊢
    unfold fX12_odds_S78
    rw [if_neg (fun z => by have := (i32_le (by omega) (by omega)).mp z; omega), if_pos (inb_t (by omega) (by omega)), tnc (by omega), i32_succ]
    refine ⟨_, rfl, rfl, fun j hj => ?_⟩
    by_cases hjk : j = k
    · subst hjk; exact vfu_at
    · dsimp only
      rw [vfu_ne hjk]; exact h j (by omega)
  · rintro ⟨v, A⟩ ⟨rfl, h⟩
    dsimp only at h ⊢
    unfold fX12_odds_S78
    rw [if_pos ((i32_le (by omega) (by omega)).mpr (Nat.le_refl _))]
    exact ⟨_, rfl, h⟩
theorem copy_m (hn : n ≤ 6000) (hF : 70000 ≤ F) (A98 A99 : Nat → UInt64) : ∃ B98, gloop (fun u21 : (Int32 × (Nat → UInt64)) => fX12_odds_S122 F x0 x1 x2 x3 x4 v1 v2 x18 x19 x20 x21 x22 (Int32.ofNat n) x35 A76 A77 A78 A79 A80 A81 A82 A83 A84 A85 A86 A99 u21.1 u21.2) F (0, A98) = some B98 ∧ ∀ i, i < n → B98 i = A99 i := by
  refine gl_ix (st := fun u21 : (Int32 × (Nat → UInt64)) => fX12_odds_S122 F x0 x1 x2 x3 x4 v1 v2 x18 x19 x20 x21 x22 (Int32.ofNat n) x35 A76 A77 A78 A79 A80 A81 A82 A83 A84 A85 A86 A99 u21.1 u21.2) (fun k s => s.1 = Int32.ofNat k ∧ ∀ j, j < k → s.2 j = A99 j) (fun r => ∀ i, i < n → r i = A99 i) n ?_ ?_ F 0 (0, A98) (Nat.zero_le _) ⟨rfl, fun j hj => absurd hj (Nat.not_lt_zero _)⟩ (by omega)
  · rintro k ⟨v, A⟩ hk ⟨rfl, h⟩
    dsimp only at h ⊢
    unfold fX12_odds_S122
    rw [if_neg (fun z => by have := (i32_le (by omega) (by omega)).mp z; omega), if_pos (inb_t (by omega) (by omega)), if_pos (inb_t (by omega) (by omega)), tnc (by omega), i32_succ]
    refine ⟨_, rfl, rfl, fun j hj => ?_⟩
    by_cases hjk : j = k
    · subst hjk; exact vfu_at
    · dsimp only
      rw [vfu_ne hjk]; exact h j (by omega)
  · rintro ⟨v, A⟩ ⟨rfl, h⟩
    dsimp only at h ⊢
    unfold fX12_odds_S122
    rw [if_pos ((i32_le (by omega) (by omega)).mpr (Nat.le_refl _))]
    exact ⟨_, rfl, h⟩
theorem init_m (hn : n ≤ 6000) (hF : 70000 ≤ F) (A98 A99 : Nat → UInt64) : ∃ B98, gloop (fun u6 : (Int32 × (Nat → UInt64)) => fX12_odds_S40 F x0 x1 x2 x3 x4 v1 x18 x19 x20 x21 x22 (Int32.ofNat n) x35 A76 A77 A78 A79 A80 A81 A82 A83 A84 A85 A86 A99 u6.1 u6.2) F (0, A98) = some B98 ∧ ∀ i, i < n → B98 i = if i = 0 then FP.dconst1 else FP.dconst0 := by
  refine gl_ix (st := fun u6 : (Int32 × (Nat → UInt64)) => fX12_odds_S40 F x0 x1 x2 x3 x4 v1 x18 x19 x20 x21 x22 (Int32.ofNat n) x35 A76 A77 A78 A79 A80 A81 A82 A83 A84 A85 A86 A99 u6.1 u6.2) (fun k s => s.1 = Int32.ofNat k ∧ ∀ j, j < k → s.2 j = if j = 0 then FP.dconst1 else FP.dconst0) (fun r => ∀ i, i < n → r i = if i = 0 then FP.dconst1 else FP.dconst0) n ?_ ?_ F 0 (0, A98) (Nat.zero_le _) ⟨rfl, fun j hj => absurd hj (Nat.not_lt_zero _)⟩ (by omega)
  · rintro k ⟨v, A⟩ hk ⟨rfl, h⟩
    dsimp only at h ⊢
    have hst : fX12_odds_S40 F x0 x1 x2 x3 x4 v1 x18 x19 x20 x21 x22 (Int32.ofNat n) x35 A76 A77 A78 A79 A80 A81 A82 A83 A84 A85 A86 A99 (Int32.ofNat k) A = some (.inr (Int32.ofNat (k + 1), vf_upd A k (if k = 0 then FP.dconst1 else FP.dconst0))) := by
      unfold fX12_odds_S40 fX12_odds_J62
      rw [if_neg (fun z => by have := (i32_le (by omega) (by omega)).mp z; omega), i32_succ, tnc (by omega)]
      by_cases hk0 : k = 0
      · subst hk0
        rw [if_pos (show Int32.ofNat 0 = 0 from rfl), if_pos (inb_t (by omega) (by omega)), if_pos rfl]
      · rw [if_neg (show ¬ Int32.ofNat k = 0 from fun z => hk0 ((i32_eq (b := 0) (by omega) (by decide)).mp z)), if_pos (inb_t (by omega) (by omega)), if_neg hk0]
    rw [hst]
    refine ⟨_, rfl, rfl, fun j hj => ?_⟩
    by_cases hjk : j = k
    · subst hjk; exact vfu_at
    · dsimp only
      rw [vfu_ne hjk]; exact h j (by omega)
  · rintro ⟨v, A⟩ ⟨rfl, h⟩
    dsimp only at h ⊢
    unfold fX12_odds_S40
    rw [if_pos ((i32_le (by omega) (by omega)).mpr (Nat.le_refl _))]
    exact ⟨_, rfl, h⟩
end ODW
