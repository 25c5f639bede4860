/-! part 69: image, back, end, feed, set -/
def Ix (kept : Int32) (kc : Int64) (kb ks : Int32) (mk : Int32) (km : Int64) (kmq : Int32) (A74 : Nat → Int32) (cap : Nat) : Prop := kept = mk ∧ (¬ kept = 0 → Sx kc km ∧ Lg cap kc ∧ Qx kb ks kmq A74)
theorem copy30 {st : Int32 → (Nat → Int32) → Option ((Nat → Int32) ⊕ (Int32 × (Nat → Int32)))} (A B : Nat → Int32) (h1 : ∀ (i : Nat) (C : Nat → Int32), i < 30 → st (Int32.ofNat i) C = some (.inr (Int32.ofNat (i + 1), upd C i (A i)))) (h2 : ∀ C, st (Int32.ofNat 30) C = some (.inl C)) {F : Nat} (hF : 31 ≤ F) : gloop (fun u : (Int32 × (Nat → Int32)) => st u.1 u.2) F (0, B) = some (fun j => if j < 30 then A j else B j) := by
  have e0 : (fun j => if j < 0 then A j else B j) = B := by
    funext j
    rw [if_neg (by omega)]
  have h := gl_for (st := fun u : (Int32 × (Nat → Int32)) => st u.1 u.2) (out := fun j => if j < 30 then A j else B j) 30 (fun i => (Int32.ofNat i, fun j => if j < i then A j else B j)) (fun i hi => by
    show st (Int32.ofNat i) _ = _
    rw [h1 i _ hi]
    refine congrArg (fun B => some (Sum.inr (Int32.ofNat (i + 1), B))) ?_
    funext j
    by_cases hj : j = i
    · subst hj
      rw [upd_at, if_pos (by omega)]
    · rw [upd_ne hj]
      dsimp only
      by_cases h2 : j < i
      · rw [if_pos h2, if_pos (by omega)]
      · rw [if_neg h2, if_neg (by omega)]) (by
    show st (Int32.ofNat 30) _ = _
    rw [h2]) (F := F) (by omega)
  rw [e0] at h
  exact h
theorem Qx.copy {qb qs mq : Int32} {A B : Nat → Int32} (h : Qx qb qs mq A) : Qx qb qs mq (fun j => if j < 30 then A j else B j) := by
  obtain ⟨n, hn, e1, e2, hA, hB⟩ := h
  refine ⟨n, hn, e1, e2, fun i hi => ?_, hB⟩
  show (if i < 30 then A i else B i) = _
  rw [if_pos (by omega), hA i hi]
theorem image_call {c m : Int64} {qb qs mq : Int32} {A70 : Nat → Int32} {cap : Nat} (hS : Sx c m) (hL : Lg cap c) (hQ : Qx qb qs mq A70) (k1 : Int32) (k2 : Int64) (k3 k4 x12 : Int32) (x13 : Int64) (x15 x18 : Int32) (A74 : Nat → Int32) {F : Nat} (hF : 40 ≤ F) : ∃ mk km kmq A', fX12_image F m mq A70 x12 x13 x15 x18 A74 = some (1, mk, km, kmq, 0, A') ∧ fX11_image c qb qs k1 k2 k3 k4 = some (1, 1, c, qb, qs) ∧ Ix 1 c qb qs mk km kmq A' cap := by
  unfold fX12_image
  have e := copy30 (st := fun a b => fX12_image_S28 F m mq A70 1 m mq 0 a b) A70 A74 (fun i C hi => by
    unfold fX12_image_S28
    rw [if_neg (fun z => by have := (i32_le (a := 30) (by omega) (by omega)).mp z; omega), if_pos (inb_t (by omega) (by omega)), if_pos (inb_t (by omega) (by omega)), tnc (by omega), i32_succ]) (fun C => by
    unfold fX12_image_S28
    rw [if_pos (show (30 : Int32) ≤ Int32.ofNat 30 by decide)]) (F := F) (by omega)
  rw [e]
  exact ⟨_, _, _, _, rfl, rfl, rfl, fun _ => ⟨hS, hL, hQ.copy⟩⟩
theorem back_call {c m : Int64} {qb qs mq : Int32} {A70 : Nat → Int32} {cap : Nat} (hS : Sx c m) (hL : Lg cap c) (hQ : Qx qb qs mq A70) {k1 : Int32} {k2 : Int64} {k3 k4 mk : Int32} {km : Int64} {kmq : Int32} {A74 : Nat → Int32} (hI : Ix k1 k2 k3 k4 mk km kmq A74 cap) (x18 : Int32) {F : Nat} (hF : 40 ≤ F) : ∃ m' mq' A', fX12_back F mk km kmq A74 m mq x18 A70 = some ((fX11_back k1 k2 k3 k4 c qb qs).1, m', mq', 0, A') ∧ Sx (fX11_back k1 k2 k3 k4 c qb qs).2.1 m' ∧ Lg cap (fX11_back k1 k2 k3 k4 c qb qs).2.1 ∧ Qx (fX11_back k1 k2 k3 k4 c qb qs).2.2.1 (fX11_back k1 k2 k3 k4 c qb qs).2.2.2 mq' A' := by
  unfold fX12_back fX11_back
  obtain ⟨e1, hI⟩ := hI
  rw [e1] at hI ⊢
  by_cases h0 : mk = 0
  · rw [if_pos h0, if_pos h0]
    exact ⟨_, _, _, rfl, hS, hL, hQ⟩
  · rw [if_neg h0, if_neg h0]
    obtain ⟨g1, g2, g3⟩ := hI h0
    have e := copy30 (st := fun a b => fX12_back_S32 F mk km kmq A74 km kmq 0 a b) A74 A70 (fun i C hi => by
      unfold fX12_back_S32
      rw [if_neg (fun z => by have := (i32_le (a := 30) (by omega) (by omega)).mp z; omega), if_pos (inb_t (by omega) (by omega)), if_pos (inb_t (by omega) (by omega)), tnc (by omega), i32_succ]) (fun C => by
      unfold fX12_back_S32
      rw [if_pos (show (30 : Int32) ≤ Int32.ofNat 30 by decide)]) (F := F) (by omega)
    rw [e]
    exact ⟨_, _, _, rfl, g1, g2, g3.copy⟩
/-- the tapes -/
def Tn (n : Nat) (A B : Nat → Int32) : Prop := ∀ i, i < n → A i = B i ∧ ∃ b, b < 256 ∧ A i = Int32.ofNat b
def Tx (tl : Int32) (A : Nat → Int32) (ml : Int32) (B : Nat → Int32) : Prop := ∃ n, n ≤ 264 ∧ tl = Int32.ofNat n ∧ ml = Int32.ofNat n ∧ Tn n A B
theorem end_call {tl ml : Int32} {A B : Nat → Int32} (h : Tx tl A ml B) (x18 p : Int32) : ∃ ml', fX12_end ml x18 p = ((fX11_end tl p).1, ml', 0) ∧ Tx (fX11_end tl p).2 A ml' B := by
  obtain ⟨n, hn, rfl, rfl, hT⟩ := id h
  unfold fX12_end fX11_end
  rcases within_pos (p := p) (a := 0) (b := n) (by decide) (by omega) with ⟨w1, w2⟩ | ⟨w1, w2, w3, k, hk1, hk, rfl⟩
  · rw [show fX12_within p 0 (Int32.ofNat n) = 0 from w1, if_pos rfl]
    by_cases a : p < 0
    · rw [if_pos a]; exact ⟨_, rfl, h⟩
    · rw [if_neg a, if_neg (w2.resolve_left a)]; exact ⟨_, rfl, h⟩
  · rw [if_neg (show ¬ fX12_within (Int32.ofNat k) 0 (Int32.ofNat n) = 0 from w1), if_neg (show ¬ Int32.ofNat k < 0 from w2), if_pos w3]
    exact ⟨_, rfl, k, by omega, rfl, rfl, fun i hi => hT i (by omega)⟩
def shf (i : Nat) : Int32 := 56 - 8 * Int32.ofNat i
theorem shf_in : ∀ i : Fin 8, ¬ shf i.val < 0 ∧ shf i.val = Int32.ofNat (56 - 8 * i.val) ∧ shf i.val + (-8) = shf (i.val + 1) := by decide +kernel
theorem shf_8 : shf 8 < 0 := by decide +kernel
theorem byte_c (v : Int64) {n : Nat} (hn : n + 8 ≤ 64) : ((((v.toUInt64 >>> ((Int32.ofNat n).toInt64.toUInt64 &&& Int64.toUInt64 63)).toInt64).toInt32) &&& (255 : Int32)) = Int32.ofNat (dg v n 8) := by
  rw [show ((Int32.ofNat n).toInt64.toUInt64 &&& Int64.toUInt64 63) = UInt64.ofNat n from sh32u ⟨n, by omega⟩, low_dg _ (w := 8) (by decide) 255 rfl, ushr_dg v (by omega)]
  rfl
theorem byte_m (v : Int64) {n : Nat} (hn : n + 8 ≤ 64) : (((v >>> ((Int32.ofNat n).toInt64 &&& 63)).toInt32) &&& (255 : Int32)) = Int32.ofNat (dg v n 8) := by
  rw [show ((Int32.ofNat n).toInt64 &&& 63) = Int64.ofNat n from sh32 ⟨n, by omega⟩, low_dg _ (w := 8) (by decide) 255 rfl, sshr_dg v hn (by omega)]
  rfl
theorem eight_eq {n : Nat} (hn : n + 8 ≤ 264) {A B : Nat → Int32} (h : Tn n A B) (v : Int64) {F : Nat} (hF : 10 ≤ F) : ∃ A' B', fX10_append F (Int32.ofNat n) A v = some (Int32.ofNat (n + 8), A') ∧ fX12_eight F (Int32.ofNat n) B v = some (Int32.ofNat (n + 8), B') ∧ Tn (n + 8) A' B' := by
  unfold fX10_append fX12_eight
  have key := gl_two (st1 := fun u1 : (Int32 × Int32 × (Nat → Int32)) => fX10_append_S3 F v u1.1 u1.2.1 u1.2.2) (st2 := fun u1 : (Int32 × Int32 × (Nat → Int32)) => fX12_eight_S3 F v u1.1 u1.2.1 u1.2.2) (fun i s t => s.1 = shf i ∧ t.1 = shf i ∧ s.2.1 = Int32.ofNat (n + i) ∧ t.2.1 = Int32.ofNat (n + i) ∧ Tn (n + i) s.2.2 t.2.2) (fun r q => r.1 = Int32.ofNat (n + 8) ∧ q.1 = Int32.ofNat (n + 8) ∧ Tn (n + 8) r.2 q.2) 8 (by
    rintro i ⟨a1, a2, a3⟩ ⟨c1, c2, c3⟩ hi ⟨g1, g2, g3, g4, g5⟩
    dsimp only at g1 g2 g3 g4 g5 ⊢
    subst g1 g2 g3 g4
    obtain ⟨q1, q2, q3⟩ := shf_in ⟨i, hi⟩
    dsimp only at q1 q2 q3
    unfold fX10_append_S3 fX12_eight_S3
    rw [if_neg q1, if_neg q1, if_neg (fun z => by have := (i32_le (a := 264) (by decide) (by omega)).mp z; omega), if_pos (inb_t (by omega) (by omega)), tnc (by omega), i32_succ, q3, q2, byte_c v (by omega), byte_m v (by omega)]
    unfold cPut
    rw [if_pos (inb_t (by omega) (by omega)), tnc (by omega)]
    refine ⟨_, _, rfl, rfl, rfl, rfl, rfl, rfl, fun j hj => ?_⟩
    dsimp only at hj ⊢
    by_cases hje : j = n + i
    · subst hje
      rw [upd_at, upd_at]
      exact ⟨rfl, _, dg_lt v _ 8, rfl⟩
    · rw [upd_ne hje, upd_ne hje]
      exact g5 j (by omega)) (by
    rintro ⟨a1, a2, a3⟩ ⟨c1, c2, c3⟩ ⟨g1, g2, g3, g4, g5⟩
    dsimp only at g1 g2 g3 g4 g5 ⊢
    subst g1 g2 g3 g4
    unfold fX10_append_S3 fX12_eight_S3
    rw [if_pos shf_8, if_pos shf_8]
    exact ⟨_, _, rfl, rfl, rfl, rfl, g5⟩) F 0 (56, Int32.ofNat n, A) (56, Int32.ofNat n, B) (by decide) ⟨(by decide +kernel : (56 : Int32) = shf 0), (by decide +kernel : (56 : Int32) = shf 0), rfl, rfl, h⟩ (by omega)
  obtain ⟨r, q, e1, e2, g1, g2, g3⟩ := key
  rw [e1, e2]
  simp only [Option.bind_some]
  rw [g1, g2]
  exact ⟨_, _, rfl, rfl, g3⟩
theorem feed_call {tl ml : Int32} {A B : Nat → Int32} (h : Tx tl A ml B) (x18 : Int32) (a b c : Int64) {F : Nat} (hF : 10 ≤ F) : ∃ r tl' A' ml' B', fX11_feed F tl A a b c = some (r, tl', A') ∧ fX12_feed F ml x18 B a b c = some (r, ml', 0, B') ∧ Tx tl' A' ml' B' := by
  obtain ⟨n, hn, rfl, rfl, hT⟩ := id h
  unfold fX11_feed fX12_feed fX10_hasRoom
  rw [show Int32.ofNat n + 24 = Int32.ofNat (n + 24) from i32_add n 24]
  by_cases hr : n + 24 ≤ 264
  · rw [if_neg (show ¬ (264 : Int32) < Int32.ofNat (n + 24) from fun z => by have := (i32_lt (a := 264) (by decide) (by omega)).mp z; omega), if_neg (by decide), if_pos (show Int32.ofNat (n + 24) ≤ 264 from (i32_le (b := 264) (by omega) (by decide)).mpr hr)]
    obtain ⟨A1, B1, e1, e2, hT1⟩ := eight_eq (by omega) hT a (F := F) hF
    obtain ⟨A2, B2, e3, e4, hT2⟩ := eight_eq (by omega) hT1 b (F := F) hF
    obtain ⟨A3, B3, e5, e6, hT3⟩ := eight_eq (by omega) hT2 c (F := F) hF
    rw [e1, e2]
    simp only [Option.bind_some]
    rw [e3, e4]
    simp only [Option.bind_some]
    rw [e5, e6]
    exact ⟨_, _, _, _, _, rfl, rfl, n + 8 + 8 + 8, by omega, rfl, rfl, hT3⟩
  · rw [if_pos (show (264 : Int32) < Int32.ofNat (n + 24) from (i32_lt (a := 264) (by decide) (by omega)).mpr (by omega)), if_pos rfl, if_neg (show ¬ Int32.ofNat (n + 24) ≤ 264 from fun z => hr ((i32_le (b := 264) (by omega) (by decide)).mp z))]
    exact ⟨_, _, _, _, _, rfl, rfl, h⟩
/-- settings that may be set -/
def Stt (cap lab ack cop : Nat) : Prop := (1 ≤ cap ∧ cap ≤ 2) ∧ (2 ≤ lab ∧ lab ≤ 4) ∧ (1 ≤ ack ∧ ack ≤ 7) ∧ (1 ≤ cop ∧ cop ≤ 4)
theorem empties_eq (x1 : Int32) (m : Int64) (a b c d : Int32) (A : Nat → Int32) {F : Nat} (hF : 10 ≤ F) : ∃ B, fX12_empties F x1 m a b c d A = some (fX12_put 0 7 2 (x1 - 1), 0, 0, 0, 0, B) ∧ ∀ i, i < 8 → B i = 0 := by
  unfold fX12_empties
  have e0 : (fun j => if j < 0 then (0 : Int32) else A j) = A := by
    funext j
    rw [if_neg (by omega)]
  have h := gl_for (st := fun u4 : (Int32 × (Nat → Int32)) => fX12_empties_S24 F x1 (fX12_put 0 7 2 (x1 - 1)) 0 b c d u4.1 u4.2) (out := fun j => if j < 8 then (0 : Int32) else A j) 8 (fun i => (Int32.ofNat i, fun j => if j < i then (0 : Int32) else A j)) (fun i hi => by
    show fX12_empties_S24 F _ _ _ _ _ _ (Int32.ofNat i) _ = _
    unfold fX12_empties_S24
    rw [if_neg (fun z => by have := (i32_le (a := 8) (by omega) (by omega)).mp z; omega), if_pos (inb_t (by omega) (by omega)), tnc (by omega), i32_succ]
    refine congrArg (fun B => some (Sum.inr (Int32.ofNat (i + 1), B))) ?_
    funext j
    by_cases hj : j = i
    · subst hj
      rw [upd_at, if_pos (by omega)]
    · rw [upd_ne hj]
      dsimp only
      by_cases h2 : j < i
      · rw [if_pos h2, if_pos (by omega)]
      · rw [if_neg h2, if_neg (by omega)]) (by
    show fX12_empties_S24 F _ _ _ _ _ _ (Int32.ofNat 8) _ = _
    unfold fX12_empties_S24
    rw [if_pos (show (8 : Int32) ≤ Int32.ofNat 8 by decide)]) (F := F) (by omega)
  rw [e0] at h
  rw [show ((0 : Int32), A) = (Int32.ofNat 0, A) from rfl, h]
  refine ⟨_, rfl, fun i hi => ?_⟩
  show (if i < 8 then (0 : Int32) else A i) = 0
  rw [if_pos hi]
theorem set_call {cap lab ack cop : Nat} (hs : Stt cap lab ack cop) (m : Int64) (mq mf md mk th : Int32) (A : Nat → Int32) (p1 p2 : Int32) {F : Nat} (hF : 10 ≤ F) : (fX7_allows p1 p2 = 0 ∧ fX12_set F (Int32.ofNat cap) (Int32.ofNat lab) (Int32.ofNat ack) (Int32.ofNat cop) m mq mf md mk th A p1 p2 = some (-1, Int32.ofNat cap, Int32.ofNat lab, Int32.ofNat ack, Int32.ofNat cop, m, mq, mf, md, mk, 0, A)) ∨ (¬ fX7_allows p1 p2 = 0 ∧ ∃ cap' lab' ack' cop' B, Stt cap' lab' ack' cop' ∧ rWith (Int32.ofNat cap) p1 p2 0 = Int32.ofNat cap' ∧ rWith (Int32.ofNat lab) p1 p2 1 = Int32.ofNat lab' ∧ rWith (Int32.ofNat ack) p1 p2 2 = Int32.ofNat ack' ∧ rWith (Int32.ofNat cop) p1 p2 3 = Int32.ofNat cop' ∧ fX12_set F (Int32.ofNat cap) (Int32.ofNat lab) (Int32.ofNat ack) (Int32.ofNat cop) m mq mf md mk th A p1 p2 = some (fX7_limit (Int32.ofNat cap) (Int32.ofNat lab) (Int32.ofNat ack) (Int32.ofNat cop) p1, Int32.ofNat cap', Int32.ofNat lab', Int32.ofNat ack', Int32.ofNat cop', fX12_put 0 7 2 (Int32.ofNat lab' - 1), 0, 0, 0, 0, 0, B) ∧ ∀ i, i < 8 → B i = 0) := by
  obtain ⟨h0, h1, h2, h3⟩ := id hs
  have hrange : ∀ (lo hi : Nat), lo < 100 → hi < 100 → ((p2 < Int32.ofNat lo ∨ Int32.ofNat hi < p2) ∨ (¬ p2 < Int32.ofNat lo ∧ ¬ Int32.ofNat hi < p2 ∧ p2 ≤ Int32.ofNat hi ∧ ∃ n, lo ≤ n ∧ n ≤ hi ∧ p2 = Int32.ofNat n)) := by
    intro lo hi hlo hhi
    rcases within_pos (p := p2) (a := lo) (b := hi) (by omega) (by omega) with ⟨w1, w2⟩ | ⟨w1, w2, w3, n, a1, a2, rfl⟩
    · refine Or.inl (w2.imp id (fun z => ?_))
      rw [Int32.le_iff_toInt_le] at z; rw [Int32.lt_iff_toInt_lt]; omega
    · exact Or.inr ⟨w2, fun z => by rw [Int32.lt_iff_toInt_lt] at z; rw [Int32.le_iff_toInt_le] at w3; omega, w3, n, a1, a2, rfl⟩
  have hn : ∀ (lo hi : Nat), Int32.ofNat hi < p2 → ¬ p2 ≤ Int32.ofNat hi := by
    intro lo hi z y
    rw [Int32.lt_iff_toInt_lt] at z; rw [Int32.le_iff_toInt_le] at y; omega
  by_cases p0 : p1 = 0
  · subst p0
    unfold fX7_allows fX12_set fX12_set_J25 fX12_set_J57 fX12_set_J125
    simp only [↓reduceIte, if_neg (show ¬ fX12_within 0 0 3 = 0 by decide), if_neg (show ¬ (0 : Int32) = 1 by decide)]
    rcases hrange 1 2 (by decide) (by decide) with (a | a) | ⟨a, b, d, n, n1, n2, rfl⟩
    · rw [if_pos (show p2 < 1 from a), if_pos (show p2 < 1 from a)]
      exact Or.inl ⟨rfl, rfl⟩
    · have a1 : ¬ p2 < 1 := fun z => by rw [Int32.lt_iff_toInt_lt] at z a; have : (1 : Int32).toInt = 1 := rfl; have : (Int32.ofNat 2).toInt = 2 := rfl; omega
      rw [if_neg a1, if_pos (show (2 : Int32) < p2 from a), if_neg a1, if_neg (show ¬ p2 ≤ 2 from hn 1 2 a)]
      exact Or.inl ⟨rfl, rfl⟩
    · rw [if_neg (show ¬ Int32.ofNat n < 1 from a), if_neg (show ¬ (2 : Int32) < Int32.ofNat n from b), if_neg (show ¬ Int32.ofNat n < 1 from a), if_pos (show Int32.ofNat n ≤ 2 from d)]
      obtain ⟨B, e, hB⟩ := empties_eq (Int32.ofNat lab) m mq mf md mk A hF
      rw [e]
      exact Or.inr ⟨by decide, n, lab, ack, cop, B, ⟨⟨n1, n2⟩, h1, h2, h3⟩, rfl, rfl, rfl, rfl, rfl, hB⟩
  by_cases p11 : p1 = 1
  · subst p11
    unfold fX7_allows fX12_set fX12_set_J25 fX12_set_J57 fX12_set_J125
    simp only [↓reduceIte, if_neg (show ¬ fX12_within 1 0 3 = 0 by decide), if_neg (show ¬ (1 : Int32) = 0 by decide)]
    rcases hrange 2 4 (by decide) (by decide) with (a | a) | ⟨a, b, d, n, n1, n2, rfl⟩
    · rw [if_pos (show p2 < 2 from a), if_pos (show p2 < 2 from a)]
      exact Or.inl ⟨rfl, rfl⟩
    · have a1 : ¬ p2 < 2 := fun z => by rw [Int32.lt_iff_toInt_lt] at z a; have : (2 : Int32).toInt = 2 := rfl; have : (Int32.ofNat 4).toInt = 4 := rfl; omega
      rw [if_neg a1, if_pos (show (4 : Int32) < p2 from a), if_neg a1, if_neg (show ¬ p2 ≤ 4 from hn 1 4 a)]
      exact Or.inl ⟨rfl, rfl⟩
    · rw [if_neg (show ¬ Int32.ofNat n < 2 from a), if_neg (show ¬ (4 : Int32) < Int32.ofNat n from b), if_neg (show ¬ Int32.ofNat n < 2 from a), if_pos (show Int32.ofNat n ≤ 4 from d)]
      obtain ⟨B, e, hB⟩ := empties_eq (Int32.ofNat n) m mq mf md mk A hF
      rw [e]
      exact Or.inr ⟨by decide, cap, n, ack, cop, B, ⟨h0, ⟨n1, n2⟩, h2, h3⟩, rfl, rfl, rfl, rfl, rfl, hB⟩
  by_cases p12 : p1 = 2
  · subst p12
    unfold fX7_allows fX12_set fX12_set_J25 fX12_set_J57 fX12_set_J125
    simp only [↓reduceIte, if_neg (show ¬ fX12_within 2 0 3 = 0 by decide), if_neg (show ¬ (2 : Int32) = 0 by decide), if_neg (show ¬ (2 : Int32) = 1 by decide)]
    rcases hrange 1 7 (by decide) (by decide) with (a | a) | ⟨a, b, d, n, n1, n2, rfl⟩
    · rw [if_pos (show p2 < 1 from a), if_pos (show p2 < 1 from a)]
      exact Or.inl ⟨rfl, rfl⟩
    · have a1 : ¬ p2 < 1 := fun z => by rw [Int32.lt_iff_toInt_lt] at z a; have : (1 : Int32).toInt = 1 := rfl; have : (Int32.ofNat 7).toInt = 7 := rfl; omega
      rw [if_neg a1, if_pos (show (7 : Int32) < p2 from a), if_neg a1, if_neg (show ¬ p2 ≤ 7 from hn 1 7 a)]
      exact Or.inl ⟨rfl, rfl⟩
    · rw [if_neg (show ¬ Int32.ofNat n < 1 from a), if_neg (show ¬ (7 : Int32) < Int32.ofNat n from b), if_neg (show ¬ Int32.ofNat n < 1 from a), if_pos (show Int32.ofNat n ≤ 7 from d)]
      obtain ⟨B, e, hB⟩ := empties_eq (Int32.ofNat lab) m mq mf md mk A hF
      rw [e]
      exact Or.inr ⟨by decide, cap, lab, n, cop, B, ⟨h0, h1, ⟨n1, n2⟩, h3⟩, rfl, rfl, rfl, rfl, rfl, hB⟩
  by_cases p13 : p1 = 3
  · subst p13
    unfold fX7_allows fX12_set fX12_set_J25 fX12_set_J57 fX12_set_J125
    simp only [↓reduceIte, if_neg (show ¬ fX12_within 3 0 3 = 0 by decide), if_neg (show ¬ (3 : Int32) = 0 by decide), if_neg (show ¬ (3 : Int32) = 1 by decide), if_neg (show ¬ (3 : Int32) = 2 by decide)]
    rcases hrange 1 4 (by decide) (by decide) with (a | a) | ⟨a, b, d, n, n1, n2, rfl⟩
    · rw [if_pos (show p2 < 1 from a), if_pos (show p2 < 1 from a)]
      exact Or.inl ⟨rfl, rfl⟩
    · have a1 : ¬ p2 < 1 := fun z => by rw [Int32.lt_iff_toInt_lt] at z a; have : (1 : Int32).toInt = 1 := rfl; have : (Int32.ofNat 4).toInt = 4 := rfl; omega
      rw [if_neg a1, if_pos (show (4 : Int32) < p2 from a), if_neg a1, if_neg (show ¬ p2 ≤ 4 from hn 1 4 a)]
      exact Or.inl ⟨rfl, rfl⟩
    · rw [if_neg (show ¬ Int32.ofNat n < 1 from a), if_neg (show ¬ (4 : Int32) < Int32.ofNat n from b), if_neg (show ¬ Int32.ofNat n < 1 from a), if_pos (show Int32.ofNat n ≤ 4 from d)]
      obtain ⟨B, e, hB⟩ := empties_eq (Int32.ofNat lab) m mq mf md mk A hF
      rw [e]
      exact Or.inr ⟨by decide, cap, lab, ack, n, B, ⟨h0, h1, h2, ⟨n1, n2⟩⟩, rfl, rfl, rfl, rfl, rfl, hB⟩
  · refine Or.inl ⟨by unfold fX7_allows; rw [if_neg p0, if_neg p11, if_neg p12, if_neg p13], ?_⟩
    unfold fX12_set
    have hw : fX12_within p1 0 3 = 0 := by
      rcases within_pos (p := p1) (a := 0) (b := 3) (by decide) (by decide) with ⟨w1, _⟩ | ⟨_, _, _, k, _, hk, rfl⟩
      · exact w1
      · exfalso
        rcases (show k = 0 ∨ k = 1 ∨ k = 2 ∨ k = 3 by omega) with rfl | rfl | rfl | rfl
        · exact p0 rfl
        · exact p11 rfl
        · exact p12 rfl
        · exact p13 rfl
    rw [if_pos hw]
