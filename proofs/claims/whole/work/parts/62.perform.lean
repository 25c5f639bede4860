/-! part 62: an act in earnest on both sides -/
def cnt (A : Nat → Int32) (o lp ll : Nat) : Nat → Int32 := fun i => if i = 0 then A 0 + 1 else if i = 1 ∨ i = 2 ∨ i = 3 then (if i = o then A i + 1 else A i) else if i = 4 then (if o = 5 then A 4 + 1 else A 4) else if i = 5 then (if o = 4 ∨ o = 5 then A 5 + 1 else A 5) else if i = 6 then (if lp = 1 then A 6 + 1 else A 6) else if i = 7 then (if ll = 1 then A 7 + 1 else A 7) else A i
theorem stp_facts {cap lab ack cop : Nat} {c : Int64} {w k told : Nat} (ht : there lab c w k) : (stp cap lab ack cop c w k told).2.1 < 6 ∧ (stp cap lab ack cop c w k told).2.2 < 2 ∧ (1 ≤ (stp cap lab ack cop c w k told).2.1 → (stp cap lab ack cop c w k told).2.1 < 4 → w = 1) := by
  unfold stp
  rcases ht with ⟨h, _⟩ | ⟨h | h, h1, h2⟩ | ⟨h | h, h0, h1, h2⟩ <;> subst h
  · rw [if_pos rfl]
    by_cases hc : pkSum c < cap
    · rw [if_pos hc]; exact ⟨(by decide : 0 < 6), (by decide : 0 < 2), fun z => absurd z (by decide : ¬ 1 ≤ 0)⟩
    · rw [if_neg hc]; exact ⟨(by decide : 0 < 6), (by decide : 1 < 2), fun z => absurd z (by decide : ¬ 1 ≤ 0)⟩
  · rw [if_neg (by decide), if_pos rfl]
    have ha : (arr cop c k).2 < 6 := by
      unfold arr
      by_cases h3 : k / 2 = dg c 40 2
      · rw [if_pos h3]; exact (by decide : 0 < 6)
      · rw [if_neg h3]
        by_cases h4 : cop ≤ dg c (sePos k) 2 + 1
        · rw [if_pos h4]
          unfold dlv
          by_cases h5 : k = kOf (pt c (pkPos k) 2 (dg c (pkPos k) 2 - 1))
          · rw [if_pos h5]
            by_cases h6 : dg (pt c (pkPos k) 2 (dg c (pkPos k) 2 - 1)) 42 1 = 1
            · rw [if_pos h6]; exact (by decide : 3 < 6)
            · rw [if_neg h6]; exact (by decide : 1 < 6)
          · rw [if_neg h5]; exact (by decide : 2 < 6)
        · rw [if_neg h4]; exact (by decide : 0 < 6)
    by_cases hc : ltSum c < cap
    · rw [if_pos hc]; exact ⟨ha, (by decide : 0 < 2), fun _ _ => rfl⟩
    · rw [if_neg hc]; exact ⟨ha, (by decide : 1 < 2), fun _ _ => rfl⟩
  · rw [if_neg (show ¬ (3 : Nat) = 0 by decide), if_neg (show ¬ (3 : Nat) = 1 by decide), if_neg (show ¬ (3 : Nat) = 2 by decide), if_pos (show (3 : Nat) = 3 from rfl)]
    exact ⟨(by decide : 0 < 6), (by decide : 1 < 2), fun z => absurd z (by decide : ¬ 1 ≤ 0)⟩
  · rw [if_neg (show ¬ (2 : Nat) = 0 by decide), if_neg (show ¬ (2 : Nat) = 1 by decide), if_pos (show (2 : Nat) = 2 from rfl)]
    by_cases h3 : dg c 47 2 = k / 2
    · rw [if_pos h3]
      by_cases h4 : ack ≤ dg c 43 3 + 1
      · rw [if_pos h4]
        by_cases h5 : dg c 42 1 = 1
        · rw [if_pos h5]; exact ⟨(by decide : 4 < 6), (by decide : 0 < 2), fun _ z => absurd z (by decide : ¬ 4 < 4)⟩
        · rw [if_neg h5]; exact ⟨(by decide : 5 < 6), (by decide : 0 < 2), fun _ z => absurd z (by decide : ¬ 5 < 4)⟩
      · rw [if_neg h4]; exact ⟨(by decide : 0 < 6), (by decide : 0 < 2), fun z => absurd z (by decide : ¬ 1 ≤ 0)⟩
    · rw [if_neg h3]; exact ⟨(by decide : 0 < 6), (by decide : 0 < 2), fun z => absurd z (by decide : ¬ 1 ≤ 0)⟩
  · rw [if_neg (show ¬ (4 : Nat) = 0 by decide), if_neg (show ¬ (4 : Nat) = 1 by decide), if_neg (show ¬ (4 : Nat) = 2 by decide), if_neg (show ¬ (4 : Nat) = 3 by decide)]
    exact ⟨(by decide : 0 < 6), (by decide : 1 < 2), fun z => absurd z (by decide : ¬ 1 ≤ 0)⟩
theorem there_lt {lab : Nat} {c : Int64} {w k : Nat} (hlab : lab ≤ 4) (ht : there lab c w k) : w < 5 ∧ k < 8 := by
  rcases ht with ⟨h, h2⟩ | ⟨h | h, h1, h2⟩ | ⟨h | h, h0, h1, h2⟩ <;> constructor <;> omega
/-- both sides are in the same state -/
def DX (cap : Nat) (c : Int64) (qb qs s2 : Int32) (b2 : Int64) (s5 : Int32) (b5 : Int64) (A1 : Nat → Int32) (m : Int64) (mq mf md : Int32) (A70 A71 A72 A73 : Nat → Int32) : Prop := Sx c m ∧ Lg cap c ∧ Qx qb qs mq A70 ∧ Rx s2 b2 mf A72 ∧ Rx s5 b5 md A73 ∧ Cx A1 A71
def lpOf (w lo : Nat) : Nat := if lo = 1 ∧ (w = 0 ∨ w = 3) then 1 else 0
def llOf (w lo : Nat) : Nat := if lo = 1 ∧ ¬ (w = 0 ∨ w = 3) then 1 else 0
/-- what the class does behind the act -/
def done (c : Int64) (qb qs s2 : Int32) (b2 : Int64) (s5 : Int32) (b5 : Int64) (A1 : Nat → Int32) (w k : Nat) (r : Int64 × Nat × Nat) : Int32 × Int64 × Int32 × Int32 × Int32 × Int64 × Int32 × Int64 × (Nat → Int32) :=
  (Int32.ofNat r.2.1, r.1, (if 4 ≤ r.2.1 then (fX11_takeFromQueue qb qs).1 else qb), (if 4 ≤ r.2.1 then (fX11_takeFromQueue qb qs).2 else qs), (if 4 ≤ r.2.1 then (fX6_add s2 b2 (fX7_valueOf c)).1 else s2), (if 4 ≤ r.2.1 then (fX6_add s2 b2 (fX7_valueOf c)).2 else b2), (if 1 ≤ r.2.1 ∧ r.2.1 < 4 then (fX6_add s5 b5 (Int32.ofNat (k % 2))).1 else s5), (if 1 ≤ r.2.1 ∧ r.2.1 < 4 then (fX6_add s5 b5 (Int32.ofNat (k % 2))).2 else b5), cnt A1 r.2.1 (lpOf w r.2.2) (llOf w r.2.2))
theorem withTold_code : ∀ (w : Fin 5) (k : Fin 8) (t : Fin 2), fX0_withTold (codeN w.val k.val 0) (Int32.ofNat t.val) = codeN w.val k.val t.val := by decide +kernel
theorem code_low : ∀ (w : Fin 5) (k : Fin 8), (fX0_kindOf (codeN w.val k.val 0)) &&& (1 : Int32) = Int32.ofNat (k.val % 2) := by decide +kernel
theorem n0 : (0 : Int32).toNatClampNeg = 0 := rfl
theorem n4 : (4 : Int32).toNatClampNeg = 4 := tnc (n := 4) (by decide)
theorem n5 : (5 : Int32).toNatClampNeg = 5 := tnc (n := 5) (by decide)
theorem n6 : (6 : Int32).toNatClampNeg = 6 := tnc (n := 6) (by decide)
theorem n7 : (7 : Int32).toNatClampNeg = 7 := tnc (n := 7) (by decide)
theorem inb6 : inb 6 8 = true := by decide
theorem inb7 : inb 7 8 = true := by decide
theorem inb4 : inb 4 8 = true := by decide
theorem j170 {cap lab ack cop : Int32} {x : Int64} {out : Int32} {c' : Int64} {qb qs s2 : Int32} {b2 : Int64} {s5 : Int32} {b5 : Int64} {A : Nat → Int32} {lp ll : Nat} (hp : lp < 2) (hl : ll < 2) (h1 : (lg_cmp (x &&& (72057594037927936 : Int64)) 0 = 0) ↔ lp = 0) (h2 : (lg_cmp (x &&& (144115188075855872 : Int64)) 0 = 0) ↔ ll = 0) : fX11_perform_J170 cap lab ack cop x out c' qb qs s2 b2 s5 b5 A = some (out, c', qb, qs, s2, b2, s5, b5, upd (upd A 6 (A 6 + Int32.ofNat lp)) 7 (A 7 + Int32.ofNat ll)) := by
  have h194 : ∀ z : Int32, fX11_perform_J194 cap lab ack cop x out z (A 6) 6 c' qb qs s2 b2 s5 b5 A = some (out, c', qb, qs, s2, b2, s5, b5, upd (upd A 6 (A 6 + z)) 7 (A 7 + Int32.ofNat ll)) := by
    intro z
    unfold fX11_perform_J194 fX11_perform_J220
    rw [if_pos inb6, if_pos inb7, n6, n7, upd_ne (show (7 : Nat) ≠ 6 by decide)]
    rcases (show ll = 0 ∨ ll = 1 by omega) with h | h
    · rw [if_pos (h2.mpr h), h]; rfl
    · rw [if_neg (fun y => by have := h2.mp y; omega), if_pos inb7, h]; rfl
  unfold fX11_perform_J170
  rw [n6, h194, h194]
  rcases (show lp = 0 ∨ lp = 1 by omega) with h | h
  · rw [if_pos (h1.mpr h), h]; rfl
  · rw [if_neg (fun y => by have := h1.mp y; omega), h]; rfl
theorem add0 (x : Int32) : x + Int32.ofNat 0 = x := Int32.add_zero x
theorem cnt_eq (A : Nat → Int32) {o lp ll : Nat} (hp : lp < 2) (hl : ll < 2) (B : Nat → Int32) (h : ∀ i, i ≠ 6 → i ≠ 7 → B i = cnt A o 0 0 i) (h6 : B 6 = A 6) (h7 : B 7 = A 7) : upd (upd B 6 (B 6 + Int32.ofNat lp)) 7 (B 7 + Int32.ofNat ll) = cnt A o lp ll := by
  funext i
  by_cases i7 : i = 7
  · subst i7
    rw [upd_at, h7]
    show _ = if ll = 1 then A 7 + 1 else A 7
    rcases (show ll = 0 ∨ ll = 1 by omega) with h | h
    · subst h; rw [if_neg (by decide), add0]
    · subst h; rw [if_pos rfl]; rfl
  · rw [upd_ne i7]
    by_cases i6 : i = 6
    · subst i6
      rw [upd_at, h6]
      show _ = if lp = 1 then A 6 + 1 else A 6
      rcases (show lp = 0 ∨ lp = 1 by omega) with h | h
      · subst h; rw [if_neg (by decide), add0]
      · subst h; rw [if_pos rfl]; rfl
    · rw [upd_ne i6, h i i6 i7]
      simp only [cnt, if_neg i6, if_neg i7]
theorem pw8 {f g : Nat → Int32} (h0 : f 0 = g 0) (h1 : f 1 = g 1) (h2 : f 2 = g 2) (h3 : f 3 = g 3) (h4 : f 4 = g 4) (h5 : f 5 = g 5) (hb : ∀ i, 8 ≤ i → f i = g i) : ∀ i, i ≠ 6 → i ≠ 7 → f i = g i := by
  intro i i6 i7
  rcases (show i = 0 ∨ i = 1 ∨ i = 2 ∨ i = 3 ∨ i = 4 ∨ i = 5 ∨ 8 ≤ i by omega) with rfl | rfl | rfl | rfl | rfl | rfl | h
  · exact h0
  · exact h1
  · exact h2
  · exact h3
  · exact h4
  · exact h5
  · exact hb i h
theorem cnt_big (A : Nat → Int32) (o lp ll : Nat) {i : Nat} (h : 8 ≤ i) : cnt A o lp ll i = A i := by
  unfold cnt
  rw [if_neg (by omega), if_neg (by omega), if_neg (by omega), if_neg (by omega), if_neg (by omega), if_neg (by omega)]
theorem perform_eq {cap lab ack cop : Nat} {c : Int64} {qb qs s2 : Int32} {b2 : Int64} {s5 : Int32} {b5 : Int64} {A1 : Nat → Int32} {w k : Nat} (hcap : cap ≤ 2) (hlab : lab ≤ 4) (hack : ack ≤ 7) (hcop : cop ≤ 4) (hz : Hz c) (hz' : ∀ told, told < 2 → Hz (stp cap lab ack cop c w k told).1) (hL : Lg cap c) (ht : there lab c w k) {n : Nat} (hn : n ≤ 30) (hq : qs = Int32.ofNat n) : fX11_perform (Int32.ofNat cap) (Int32.ofNat lab) (Int32.ofNat ack) (Int32.ofNat cop) c qb qs s2 b2 s5 b5 A1 (codeN w k 0) = some (done c qb qs s2 b2 s5 b5 A1 w k (stp cap lab ack cop c w k (if n = 0 then 0 else (bi qb 0).toNat))) := by
  obtain ⟨hw5, hk8⟩ := there_lt hlab ht
  have hJ : ∀ t : Nat, t < 2 → fX11_perform_J17 (Int32.ofNat cap) (Int32.ofNat lab) (Int32.ofNat ack) (Int32.ofNat cop) (codeN w k 0) (Int32.ofNat t) c qb qs s2 b2 s5 b5 A1 = some (done c qb qs s2 b2 s5 b5 A1 w k (stp cap lab ack cop c w k t)) := by
    intro t ht2
    unfold fX11_perform_J17
    rw [show fX0_withTold (codeN w k 0) (Int32.ofNat t) = codeN w k t from withTold_code ⟨w, hw5⟩ ⟨k, hk8⟩ ⟨t, ht2⟩, after_eq hcap hlab hack hcop hL ht ht2]
    have hf := stp_facts (cap := cap) (ack := ack) (cop := cop) (told := t) ht
    have hzt := hz' t ht2
    generalize stp cap lab ack cop c w k t = r at hf hzt ⊢
    obtain ⟨c', o, lo⟩ := r
    obtain ⟨ho, hlo, hw1⟩ := hf
    dsimp only at ho hlo hw1 hzt ⊢
    have hlp : lpOf w lo < 2 := by unfold lpOf; split <;> decide
    have hll : llOf w lo < 2 := by unfold llOf; split <;> decide
    have hp1 : (lg_cmp ((c' ||| (mk64 o ||| lostBits w lo)) &&& (72057594037927936 : Int64)) 0 = 0) ↔ lpOf w lo = 0 := by
      rw [kx_p hzt (by omega) hw5 hlo]
      unfold lpOf
      by_cases hx : lo = 1 ∧ (w = 0 ∨ w = 3)
      · rw [if_pos hx]; exact ⟨fun z => absurd hx z, fun z => absurd z (by decide)⟩
      · rw [if_neg hx]; exact ⟨fun _ => rfl, fun _ => hx⟩
    have hl1 : (lg_cmp ((c' ||| (mk64 o ||| lostBits w lo)) &&& (144115188075855872 : Int64)) 0 = 0) ↔ llOf w lo = 0 := by
      rw [kx_l hzt (by omega) hw5 hlo]
      unfold llOf
      by_cases hx : lo = 1 ∧ ¬ (w = 0 ∨ w = 3)
      · rw [if_pos hx]; exact ⟨fun z => absurd hx z, fun z => absurd z (by decide)⟩
      · rw [if_neg hx]; exact ⟨fun _ => rfl, fun _ => hx⟩
    rw [kx_out hzt (by omega) hw5 hlo, kx_state hzt (by omega) hw5 hlo, n0]
    have h89 : 1 ≤ o → o < 4 → fX11_perform_J89 (Int32.ofNat cap) (Int32.ofNat lab) (Int32.ofNat ack) (Int32.ofNat cop) (codeN w k 0) (c' ||| (mk64 o ||| lostBits w lo)) (Int32.ofNat o) c' qb qs s2 b2 s5 b5 (upd A1 0 (A1 0 + 1)) = some (done c qb qs s2 b2 s5 b5 A1 w k (c', o, lo)) := by
      intro h1 h4
      unfold fX11_perform_J89
      rw [if_pos (inb_t (by omega) (by omega)), if_pos (inb_t (by omega) (by omega)), tnc (by omega), show (fX0_kindOf (codeN w k 0)) &&& (1 : Int32) = Int32.ofNat (k % 2) from code_low ⟨w, hw5⟩ ⟨k, hk8⟩, j170 hlp hll hp1 hl1]
      unfold done
      dsimp only
      rw [if_neg (show ¬ 4 ≤ o by omega), if_neg (show ¬ 4 ≤ o by omega), if_neg (show ¬ 4 ≤ o by omega), if_neg (show ¬ 4 ≤ o by omega), if_pos ⟨h1, h4⟩, if_pos ⟨h1, h4⟩]
      rw [cnt_eq A1 hlp hll (o := o)]
      · have hb : ∀ i, 8 ≤ i → upd (upd A1 0 (A1 0 + 1)) o (upd A1 0 (A1 0 + 1) o + 1) i = cnt A1 o 0 0 i := by
          intro i hi
          rw [cnt_big A1 o 0 0 hi, upd_ne (by omega), upd_ne (by omega)]
        rcases (show o = 1 ∨ o = 2 ∨ o = 3 by omega) with rfl | rfl | rfl
        · exact pw8 rfl rfl rfl rfl rfl rfl hb
        · exact pw8 rfl rfl rfl rfl rfl rfl hb
        · exact pw8 rfl rfl rfl rfl rfl rfl hb
      · rcases (show o = 1 ∨ o = 2 ∨ o = 3 by omega) with rfl | rfl | rfl <;> rfl
      · rcases (show o = 1 ∨ o = 2 ∨ o = 3 by omega) with rfl | rfl | rfl <;> rfl
    have h128 : o = 4 ∨ o = 5 → fX11_perform_J128 (Int32.ofNat cap) (Int32.ofNat lab) (Int32.ofNat ack) (Int32.ofNat cop) (fX7_valueOf c) (c' ||| (mk64 o ||| lostBits w lo)) (Int32.ofNat o) c' qb qs s2 b2 s5 b5 (upd A1 0 (A1 0 + 1)) = some (done c qb qs s2 b2 s5 b5 A1 w k (c', o, lo)) := by
      intro h45
      unfold fX11_perform_J128 fX11_perform_J156
      rw [if_pos inb4, if_pos inb4, n4, n5]
      unfold done
      dsimp only
      rw [if_pos (show 4 ≤ o by omega), if_pos (show 4 ≤ o by omega), if_pos (show 4 ≤ o by omega), if_pos (show 4 ≤ o by omega), if_neg (show ¬ (1 ≤ o ∧ o < 4) by omega), if_neg (show ¬ (1 ≤ o ∧ o < 4) by omega)]
      rcases h45 with rfl | rfl
      · rw [if_neg (show ¬ Int32.ofNat 4 = 5 by decide), j170 hlp hll hp1 hl1, cnt_eq A1 hlp hll (o := 4)]
        · refine pw8 rfl rfl rfl rfl (Int32.add_zero _) rfl (fun i hi => ?_)
          rw [cnt_big A1 _ 0 0 hi, upd_ne (by omega), upd_ne (by omega), upd_ne (by omega)]
        · rfl
        · rfl
      · rw [if_pos (show Int32.ofNat 5 = 5 from rfl), j170 hlp hll hp1 hl1, cnt_eq A1 hlp hll (o := 5)]
        · refine pw8 rfl rfl rfl rfl rfl rfl (fun i hi => ?_)
          rw [cnt_big A1 _ 0 0 hi, upd_ne (by omega), upd_ne (by omega), upd_ne (by omega)]
        · rfl
        · rfl
    by_cases o1 : o = 1
    · rw [if_pos (show Int32.ofNat o = 1 by rw [o1]; rfl)]; exact h89 (by omega) (by omega)
    · rw [if_neg (show ¬ Int32.ofNat o = 1 from fun z => o1 ((i32_eq (b := 1) (by omega) (by decide)).mp z))]
      by_cases o2 : o = 2
      · rw [if_pos (show Int32.ofNat o = 2 by rw [o2]; rfl)]; exact h89 (by omega) (by omega)
      · rw [if_neg (show ¬ Int32.ofNat o = 2 from fun z => o2 ((i32_eq (b := 2) (by omega) (by decide)).mp z))]
        by_cases o3 : o = 3
        · rw [if_pos (show Int32.ofNat o = 3 by rw [o3]; rfl)]; exact h89 (by omega) (by omega)
        · rw [if_neg (show ¬ Int32.ofNat o = 3 from fun z => o3 ((i32_eq (b := 3) (by omega) (by decide)).mp z))]
          by_cases o4 : o = 4
          · rw [if_pos (show Int32.ofNat o = 4 by rw [o4]; rfl)]; exact h128 (by omega)
          · rw [if_neg (show ¬ Int32.ofNat o = 4 from fun z => o4 ((i32_eq (b := 4) (by omega) (by decide)).mp z))]
            by_cases o5 : o = 5
            · rw [if_pos (show Int32.ofNat o = 5 by rw [o5]; rfl)]; exact h128 (by omega)
            · rw [if_neg (show ¬ Int32.ofNat o = 5 from fun z => o5 ((i32_eq (b := 5) (by omega) (by decide)).mp z))]
              obtain rfl : o = 0 := by omega
              rw [j170 hlp hll hp1 hl1]
              unfold done
              dsimp only
              rw [if_neg (by decide), if_neg (by decide), if_neg (by decide), if_neg (by decide), if_neg (by decide), if_neg (by decide), cnt_eq A1 hlp hll (o := 0)]
              · refine pw8 rfl rfl rfl rfl rfl rfl (fun i hi => ?_)
                rw [cnt_big A1 _ 0 0 hi, upd_ne (by omega)]
              · rfl
              · rfl
  unfold fX11_perform
  by_cases h0 : n = 0
  · subst h0; subst hq
    rw [if_pos (by decide), if_pos rfl]
    exact hJ 0 (by decide)
  · subst hq
    rw [if_neg (fun z => h0 (by have := (i32_le (b := 0) (by omega) (by decide)).mp z; omega)), if_neg h0, bi_low]
    exact hJ _ (by cases bi qb 0 <;> decide)
