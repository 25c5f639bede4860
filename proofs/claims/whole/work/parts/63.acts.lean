/-! part 63: the reference's act in earnest; both sides act alike -/
def cnt2 (B : Nat → Int32) (o : Nat) : Nat → Int32 := if 1 ≤ o ∧ o < 4 then upd B o (B o + 1) else if o = 5 then upd (upd B 5 (B 5 + 1)) 4 ((upd B 5 (B 5 + 1)) 4 + 1) else if o = 4 then upd B 5 (B 5 + 1) else B
theorem cnt_congr {A B : Nat → Int32} (h : Cx A B) (o lp ll : Nat) : Cx (cnt A o lp ll) (cnt B o lp ll) := by
  intro i hi
  unfold cnt
  rw [h 0 (by decide), h 4 (by decide), h 5 (by decide), h 6 (by decide), h 7 (by decide), h i hi]
theorem valueOf_low (c : Int64) : fX7_valueOf c = Int32.ofNat (dg c 46 1) := fX7_valueOf_dg c
theorem acts101 {c' m' : Int64} {qb qs mq s2 : Int32} {b2 : Int64} {mf s5 : Int32} {b5 : Int64} {md : Int32} {A70 B A72 A73 : Nat → Int32} {o v3 v5 : Nat} {p5 : Int32} (hq : Qx qb qs mq A70) (h2 : Rx s2 b2 mf A72) (h5 : Rx s5 b5 md A73) (ho : o < 6) (hv3 : v3 < 2) (hp : 1 ≤ o → o < 4 → p5 = Int32.ofNat v3) (hv5 : v5 < 2) {F : Nat} (hF : 40 ≤ F) (cap lab ack cop lo wa : Int32) : ∃ mq' mf' md' A70' A72' A73', fX12_acts_J101 F cap lab ack cop p5 (Int32.ofNat v5) m' mq mf md m' (Int32.ofNat o) lo wa A70 B A72 A73 = some (Int32.ofNat o, m', mq', mf', md', m', Int32.ofNat o, lo, wa, A70', cnt2 B o, A72', A73') ∧ Qx (if 4 ≤ o then (fX11_takeFromQueue qb qs).1 else qb) (if 4 ≤ o then (fX11_takeFromQueue qb qs).2 else qs) mq' A70' ∧ Rx (if 4 ≤ o then (fX6_add s2 b2 (Int32.ofNat v5)).1 else s2) (if 4 ≤ o then (fX6_add s2 b2 (Int32.ofNat v5)).2 else b2) mf' A72' ∧ Rx (if 1 ≤ o ∧ o < 4 then (fX6_add s5 b5 (Int32.ofNat v3)).1 else s5) (if 1 ≤ o ∧ o < 4 then (fX6_add s5 b5 (Int32.ofNat v3)).2 else b5) md' A73' := by
  have h178 : ∀ B' : Nat → Int32, 4 ≤ o → ∃ mq' mf' A70' A72', fX12_acts_J178 F cap lab ack cop (Int32.ofNat v5) m' mq mf md m' (Int32.ofNat o) lo wa A70 B' A72 A73 = some (Int32.ofNat o, m', mq', mf', md, m', Int32.ofNat o, lo, wa, A70', B', A72', A73) ∧ Qx (fX11_takeFromQueue qb qs).1 (fX11_takeFromQueue qb qs).2 mq' A70' ∧ Rx (fX6_add s2 b2 (Int32.ofNat v5)).1 (fX6_add s2 b2 (Int32.ofNat v5)).2 mf' A72' := by
    intro B' h4
    obtain ⟨Y, e1, hY⟩ := row_eq h2 hv5 hF
    unfold fX12_acts_J178
    rw [e1]
    simp only [Option.bind_some]
    by_cases h0 : mq ≤ 0
    · rw [if_pos h0]
      refine ⟨_, _, _, _, rfl, ?_, hY⟩
      obtain ⟨n, hn, rfl, rfl, hA, hB⟩ := hq
      have hn0 : n = 0 := by have := (i32_le (b := 0) (by omega) (by decide)).mp h0; omega
      subst hn0
      unfold fX11_takeFromQueue
      rw [if_pos (by decide)]
      exact ⟨0, by decide, rfl, rfl, hA, hB⟩
    · rw [if_neg h0]
      obtain ⟨B2, e2, hB2⟩ := take_eq hq h0 (F := F) (by omega) cap lab ack cop m' Y.1 md m' (Int32.ofNat o) lo wa B' Y.2 A73
      rw [e2]
      exact ⟨_, _, _, _, rfl, hB2, hY⟩
  have h142 : ∀ (B' : Nat → Int32) (md' : Int32) (A73' : Nat → Int32), ¬ (1 ≤ o ∧ o < 4) → md' = md → A73' = A73 → B' = B → ∃ mq' mf' A70' A72', fX12_acts_J142 F cap lab ack cop (Int32.ofNat v5) m' mq mf md m' (Int32.ofNat o) lo wa A70 B A72 A73 = some (Int32.ofNat o, m', mq', mf', md, m', Int32.ofNat o, lo, wa, A70', cnt2 B o, A72', A73) ∧ Qx (if 4 ≤ o then (fX11_takeFromQueue qb qs).1 else qb) (if 4 ≤ o then (fX11_takeFromQueue qb qs).2 else qs) mq' A70' ∧ Rx (if 4 ≤ o then (fX6_add s2 b2 (Int32.ofNat v5)).1 else s2) (if 4 ≤ o then (fX6_add s2 b2 (Int32.ofNat v5)).2 else b2) mf' A72' := by
    intro B' md' A73' h14 _ _ _
    unfold fX12_acts_J142
    by_cases h4 : 4 ≤ o
    · rw [if_neg (fun z => by have := (i32_lt (b := 4) (by omega) (by decide)).mp z; omega), if_pos h4, if_pos h4, if_pos h4, if_pos h4]
      by_cases o5 : o = 5
      · subst o5
        rw [if_pos (show Int32.ofNat 5 = 5 from rfl), n4, n5]
        exact h178 _ h4
      · obtain rfl : o = 4 := by omega
        rw [if_neg (show ¬ Int32.ofNat 4 = 5 by decide), n5]
        exact h178 _ h4
    · obtain rfl : o = 0 := by omega
      rw [if_pos (show Int32.ofNat 0 < 4 by decide), if_neg h4, if_neg h4, if_neg h4, if_neg h4]
      exact ⟨_, _, _, _, rfl, hq, h2⟩
  unfold fX12_acts_J101
  by_cases h14 : 1 ≤ o ∧ o < 4
  · have hw : ¬ fX12_within (Int32.ofNat o) 1 3 = 0 := by
      unfold fX12_within
      rw [if_neg (fun z => by have := (i32_lt (b := 1) (by omega) (by decide)).mp z; omega), if_neg (fun z => by have := (i32_lt (a := 3) (by decide) (by omega)).mp z; omega)]
      decide
    rw [if_neg hw, if_pos (inb_t (by omega) (by omega)), if_pos (inb_t (by omega) (by omega)), hp h14.1 h14.2]
    obtain ⟨Y, e1, hY⟩ := row_eq h5 hv3 hF
    rw [e1, tnc (by omega)]
    simp only [Option.bind_some]
    unfold fX12_acts_J142
    rw [if_pos (show Int32.ofNat o < 4 from (i32_lt (b := 4) (by omega) (by decide)).mpr h14.2), if_neg (show ¬ 4 ≤ o by omega), if_neg (show ¬ 4 ≤ o by omega), if_neg (show ¬ 4 ≤ o by omega), if_neg (show ¬ 4 ≤ o by omega), if_pos h14, if_pos h14]
    refine ⟨mq, mf, Y.1, A70, A72, Y.2, ?_, hq, h2, hY⟩
    rw [show cnt2 B o = upd B o (B o + 1) from if_pos h14]
  · have hw : fX12_within (Int32.ofNat o) 1 3 = 0 := by
      unfold fX12_within
      rcases (show o = 0 ∨ o = 4 ∨ o = 5 by omega) with rfl | rfl | rfl <;> decide
    rw [if_pos hw, if_neg h14, if_neg h14]
    obtain ⟨mq', mf', A70', A72', e, e1, e2⟩ := h142 B md A73 h14 rfl rfl rfl
    exact ⟨mq', mf', md, A70', A72', A73, e, e1, e2, h5⟩
theorem cnt2_eq (A : Nat → Int32) {o lp ll : Nat} (ho : o < 6) (B : Nat → Int32) (h0 : B 0 = A 0 + 1) (h15 : ∀ i, 1 ≤ i → i ≤ 5 → B i = A i) (h6 : B 6 = if lp = 1 then A 6 + 1 else A 6) (h7 : B 7 = if ll = 1 then A 7 + 1 else A 7) : Cx (cnt2 B o) (cnt A o lp ll) := by
  intro i hi
  have b1 := h15 1 (by decide) (by decide)
  have b2 := h15 2 (by decide) (by decide)
  have b3 := h15 3 (by decide) (by decide)
  have b4 := h15 4 (by decide) (by decide)
  have b5 := h15 5 (by decide) (by decide)
  unfold cnt2
  rcases (show o = 0 ∨ o = 1 ∨ o = 2 ∨ o = 3 ∨ o = 4 ∨ o = 5 by omega) with rfl | rfl | rfl | rfl | rfl | rfl <;>
  · rcases (show i = 0 ∨ i = 1 ∨ i = 2 ∨ i = 3 ∨ i = 4 ∨ i = 5 ∨ i = 6 ∨ i = 7 by omega) with rfl | rfl | rfl | rfl | rfl | rfl | rfl | rfl <;> simp [upd, cnt, h0, b1, b2, b3, b4, b5, h6, h7]
abbrev CT := Int32 × Int64 × Int32 × Int32 × Int32 × Int64 × Int32 × Int64 × (Nat → Int32)
abbrev MT := Int32 × Int64 × Int32 × Int32 × Int32 × Int64 × Int32 × Int32 × Int32 × (Nat → Int32) × (Nat → Int32) × (Nat → Int32) × (Nat → Int32)
def DT (cap : Nat) (X : CT) (Y : MT) : Prop := DX cap X.2.1 X.2.2.1 X.2.2.2.1 X.2.2.2.2.1 X.2.2.2.2.2.1 X.2.2.2.2.2.2.1 X.2.2.2.2.2.2.2.1 X.2.2.2.2.2.2.2.2 Y.2.1 Y.2.2.1 Y.2.2.2.1 Y.2.2.2.2.1 Y.2.2.2.2.2.2.2.2.2.1 Y.2.2.2.2.2.2.2.2.2.2.1 Y.2.2.2.2.2.2.2.2.2.2.2.1 Y.2.2.2.2.2.2.2.2.2.2.2.2
theorem acts_eq {cap lab ack cop : Nat} {c : Int64} {qb qs s2 : Int32} {b2 : Int64} {s5 : Int32} {b5 : Int64} {A1 : Nat → Int32} {m : Int64} {mq mf md : Int32} {A70 A71 A72 A73 : Nat → Int32} {w k : Nat} {p4 p5 : Int32} (hcap : cap ≤ 2) (hlab : lab ≤ 4) (hack : ack ≤ 7) (hcop : cop ≤ 4) (hD : DX cap c qb qs s2 b2 s5 b5 A1 m mq mf md A70 A71 A72 A73) (ht : there lab c w k) (ha : args w k p4 p5) {F : Nat} (hF : 40 ≤ F) (x19 : Int64) (x20 x21 x22 : Int32) : ∃ (n : Nat) (Y : MT), n ≤ 30 ∧ qs = Int32.ofNat n ∧ fX12_acts F (Int32.ofNat cap) (Int32.ofNat lab) (Int32.ofNat ack) (Int32.ofNat cop) m mq mf md x19 x20 x21 x22 A70 A71 A72 A73 (Int32.ofNat w) p4 p5 = some Y ∧ Y.1 = Int32.ofNat (stp cap lab ack cop c w k (if n = 0 then 0 else (bi qb 0).toNat)).2.1 ∧ DT cap (done c qb qs s2 b2 s5 b5 A1 w k (stp cap lab ack cop c w k (if n = 0 then 0 else (bi qb 0).toNat))) Y := by
  obtain ⟨hS, hL, hQ, hR2, hR5, hC⟩ := hD
  obtain ⟨n, hn, hqs, hmq, hA, hB⟩ := id hQ
  have htt : (if n = 0 then 0 else (bi qb 0).toNat) < 2 := by
    split
    · decide
    · cases bi qb 0 <;> decide
  obtain ⟨hw5, hk8⟩ := there_lt hlab ht
  have key : ∃ Y : MT, fX12_acts_J17 F (Int32.ofNat cap) (Int32.ofNat lab) (Int32.ofNat ack) (Int32.ofNat cop) (Int32.ofNat w) p4 p5 (Int32.ofNat (if n = 0 then 0 else (bi qb 0).toNat)) m mq mf md x19 x20 x21 x22 A70 A71 A72 A73 = some Y ∧ Y.1 = Int32.ofNat (stp cap lab ack cop c w k (if n = 0 then 0 else (bi qb 0).toNat)).2.1 ∧ DT cap (done c qb qs s2 b2 s5 b5 A1 w k (stp cap lab ack cop c w k (if n = 0 then 0 else (bi qb 0).toNat))) Y := by
    generalize (if n = 0 then 0 else (bi qb 0).toNat) = t at htt ⊢
    unfold fX12_acts_J17
    obtain ⟨m', e1, hS'⟩ := does_eq hcap hlab hack hcop hS hL ht htt ha (F := F) (by omega) x19 x20 x21
    have hL' := stp_lg (ack := ack) hcap hlab hack hcop hL ht htt
    have hf := stp_facts (cap := cap) (ack := ack) (cop := cop) (told := t) ht
    rw [e1, mg_vl hS]
    simp only [Option.bind_some]
    generalize stp cap lab ack cop c w k t = r at hf hS' hL' ⊢
    obtain ⟨c', o, lo⟩ := r
    obtain ⟨ho, hlo, hw1⟩ := hf
    dsimp only at ho hlo hw1 hS' hL' ⊢
    have hp : 1 ≤ o → o < 4 → p5 = Int32.ofNat (k % 2) := fun h1 h2 => (ha.1 (Or.inl (hw1 h1 h2))).2
    have fin : ∀ B : Nat → Int32, B 0 = A71 0 + 1 → (∀ i, 1 ≤ i → i ≤ 5 → B i = A71 i) → (B 6 = if lpOf w lo = 1 then A71 6 + 1 else A71 6) → (B 7 = if llOf w lo = 1 then A71 7 + 1 else A71 7) → ∃ Y : MT, fX12_acts_J101 F (Int32.ofNat cap) (Int32.ofNat lab) (Int32.ofNat ack) (Int32.ofNat cop) p5 (Int32.ofNat (dg c 46 1)) m' mq mf md m' (Int32.ofNat o) (Int32.ofNat lo) (Int32.ofNat ack) A70 B A72 A73 = some Y ∧ Y.1 = Int32.ofNat o ∧ DT cap (done c qb qs s2 b2 s5 b5 A1 w k (c', o, lo)) Y := by
      intro B g0 g15 g6 g7
      obtain ⟨mq', mf', md', A70', A72', A73', e, q1, q2, q3⟩ := acts101 (c' := c') (m' := m') (B := B) hQ hR2 hR5 ho (v3 := k % 2) (by omega) hp (v5 := dg c 46 1) (dg_lt c 46 1) (F := F) hF (Int32.ofNat cap) (Int32.ofNat lab) (Int32.ofNat ack) (Int32.ofNat cop) (Int32.ofNat lo) (Int32.ofNat ack)
      refine ⟨_, e, rfl, hS', hL', q1, ?_, q3, ?_⟩
      · show Rx (if 4 ≤ o then (fX6_add s2 b2 (fX7_valueOf c)).1 else s2) (if 4 ≤ o then (fX6_add s2 b2 (fX7_valueOf c)).2 else b2) mf' A72'
        rw [fX7_valueOf_dg]
        exact q2
      · show Cx (cnt A1 o (lpOf w lo) (llOf w lo)) (cnt2 B o)
        intro i hi
        rw [cnt_congr hC o (lpOf w lo) (llOf w lo) i hi]
        exact (cnt2_eq A71 ho B g0 g15 g6 g7 i hi).symm
    rw [n0]
    rcases (show lo = 0 ∨ lo = 1 by omega) with h | h
    · subst h
      rw [if_pos (show Int32.ofNat 0 = 0 from rfl)]
      refine fin _ (upd_at _ _ _) (fun i h1 h2 => upd_ne (by omega)) ?_ ?_
      · rw [show lpOf w 0 = 0 from if_neg (fun z => absurd z.1 (by decide))]; rfl
      · rw [show llOf w 0 = 0 from if_neg (fun z => absurd z.1 (by decide))]; rfl
    · subst h
      rw [if_neg (show ¬ Int32.ofNat 1 = 0 by decide)]
      have h89 : (w = 0 ∨ w = 3) → ∃ Y : MT, fX12_acts_J89 F (Int32.ofNat cap) (Int32.ofNat lab) (Int32.ofNat ack) (Int32.ofNat cop) p5 (Int32.ofNat (dg c 46 1)) m' mq mf md m' (Int32.ofNat o) (Int32.ofNat 1) (Int32.ofNat ack) A70 (upd A71 0 (A71 0 + 1)) A72 A73 = some Y ∧ Y.1 = Int32.ofNat o ∧ DT cap (done c qb qs s2 b2 s5 b5 A1 w k (c', o, 1)) Y := by
        intro h03
        unfold fX12_acts_J89 fX12_acts_J96
        rw [if_pos inb6, if_pos inb6, n6]
        refine fin _ rfl (fun i h1 h2 => by rw [upd_ne (by omega), upd_ne (by omega)]) ?_ ?_
        · rw [show lpOf w 1 = 1 from if_pos ⟨rfl, h03⟩]; rfl
        · rw [show llOf w 1 = 0 from if_neg (fun z => z.2 h03)]; rfl
      by_cases w0 : w = 0
      · rw [if_pos (show Int32.ofNat w = 0 by rw [w0]; rfl)]; exact h89 (Or.inl w0)
      · rw [if_neg (show ¬ Int32.ofNat w = 0 from fun z => w0 ((i32_eq (b := 0) (by omega) (by decide)).mp z))]
        by_cases w3 : w = 3
        · rw [if_pos (show Int32.ofNat w = 3 by rw [w3]; rfl)]; exact h89 (Or.inr w3)
        · rw [if_neg (show ¬ Int32.ofNat w = 3 from fun z => w3 ((i32_eq (b := 3) (by omega) (by decide)).mp z))]
          have h03 : ¬ (w = 0 ∨ w = 3) := by omega
          unfold fX12_acts_J96
          rw [if_pos inb7, if_pos inb7, n7]
          refine fin _ rfl (fun i h1 h2 => by rw [upd_ne (by omega), upd_ne (by omega)]) ?_ ?_
          · rw [show lpOf w 1 = 0 from if_neg (fun z => h03 z.2)]; rfl
          · rw [show llOf w 1 = 1 from if_pos ⟨rfl, h03⟩]; rfl
  obtain ⟨Y, e, hY⟩ := key
  refine ⟨n, Y, hn, hqs, ?_, hY⟩
  unfold fX12_acts
  by_cases h0 : n = 0
  · subst h0
    rw [hmq, if_pos (show Int32.ofNat 0 ≤ 0 by decide)]
    rw [if_pos rfl, hmq] at e
    exact e
  · rw [if_neg h0] at e
    rw [if_neg (show ¬ mq ≤ 0 from fun z => h0 (by rw [hmq] at z; have := (i32_le (b := 0) (by omega) (by decide)).mp z; omega)), n0, hA 0 (by omega)]
    exact e
/-- both sides act alike -/
theorem both_act {cap lab ack cop : Nat} {c : Int64} {qb qs s2 : Int32} {b2 : Int64} {s5 : Int32} {b5 : Int64} {A1 : Nat → Int32} {m : Int64} {mq mf md : Int32} {A70 A71 A72 A73 : Nat → Int32} {w k : Nat} {p4 p5 : Int32} (hcap : cap ≤ 2) (hlab : lab ≤ 4) (hack : ack ≤ 7) (hcop : cop ≤ 4) (hD : DX cap c qb qs s2 b2 s5 b5 A1 m mq mf md A70 A71 A72 A73) (ht : there lab c w k) (ha : args w k p4 p5) {F : Nat} (hF : 40 ≤ F) (x19 : Int64) (x20 x21 x22 : Int32) : ∃ (X : CT) (Y : MT) (o lp ll : Nat), fX11_perform (Int32.ofNat cap) (Int32.ofNat lab) (Int32.ofNat ack) (Int32.ofNat cop) c qb qs s2 b2 s5 b5 A1 (codeN w k 0) = some X ∧ fX12_acts F (Int32.ofNat cap) (Int32.ofNat lab) (Int32.ofNat ack) (Int32.ofNat cop) m mq mf md x19 x20 x21 x22 A70 A71 A72 A73 (Int32.ofNat w) p4 p5 = some Y ∧ X.1 = Y.1 ∧ X.1 = Int32.ofNat o ∧ o < 6 ∧ DT cap X Y ∧ X.2.2.2.2.2.2.2.2 = cnt A1 o lp ll := by
  obtain ⟨n, Y, hn, hqs, e, e1, hDT⟩ := acts_eq hcap hlab hack hcop hD ht ha hF x19 x20 x21 x22
  have hz' : ∀ told, told < 2 → Hz (stp cap lab ack cop c w k told).1 := by
    intro told hto
    obtain ⟨m', _, hS'⟩ := does_eq hcap hlab hack hcop hD.1 hD.2.1 ht hto ha (F := F) (by omega) x19 x20 x21
    exact hS'.hz
  exact ⟨_, Y, _, _, _, perform_eq hcap hlab hack hcop hD.1.hz hz' hD.2.1 ht hn hqs, e, e1.symm, rfl, (stp_facts ht).1, hDT, rfl⟩
