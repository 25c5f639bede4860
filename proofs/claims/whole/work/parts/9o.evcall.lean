/-! part 9o: every -/
section EVRC
variable {F cap lab ack cop : Nat}
/-- the answers that are kept -/
def CenOk (F cap lab ack cop : Nat) (A67 : Nat → Int32) : Prop := ∀ (x18 : Int32) (x19 : Int64) (x20 x21 x22 x27 x35 x43 x44 x45 x55 : Int32) (A76 A77 A78 : Nat → Int32) (A79 : Nat → Int64) (A80 A81 A82 A83 A84 A85 A86 A87 A88 A89 A90 A91 A92 A93 A94 A95 A96 A100 A101 A102 : Nat → Int32) (w : Nat), w < 10 → ∃ r, fX12_every F (Int32.ofNat cap) (Int32.ofNat lab) (Int32.ofNat ack) (Int32.ofNat cop) x18 x19 x20 x21 x22 x27 x35 x43 x44 x45 x55 A76 A77 A78 A79 A80 A81 A82 A83 A84 A85 A86 A87 A88 A89 A90 A91 A92 A93 A94 A95 A96 A100 A101 A102 (Int32.ofNat w) = some (A67 w, 0, r)
def CEN (F cap lab ack cop : Nat) (counted : Int32) (A67 : Nat → Int32) : Prop := counted = 0 ∨ CenOk F cap lab ack cop A67
theorem cput {n i : Nat} (hi : i < n) (hn : n < 2 ^ 31) (A : Nat → Int32) (x : Int32) : cPut n A (Int32.ofNat i) x = upd A i x := by
  unfold cPut
  rw [if_pos (inb_t (by omega) hi), tnc (by omega)]
theorem cen_row (A : Nat → Int32) (y0 y1 y2 y3 y4 y5 y6 y7 y8 y9 : Int32) : ∀ w, w < 10 → (cPut 10 (cPut 10 (cPut 10 (cPut 10 (cPut 10 (cPut 10 (cPut 10 (cPut 10 (cPut 10 (cPut 10 A 0 y0) 1 y1) 2 y2) 3 y3) 4 y4) 5 y5) 6 y6) 7 y7) 8 y8) 9 y9) w = if w = 0 then y0 else if w = 1 then y1 else if w = 2 then y2 else if w = 3 then y3 else if w = 4 then y4 else if w = 5 then y5 else if w = 6 then y6 else if w = 7 then y7 else if w = 8 then y8 else y9 := by
  intro w hw
  rw [show (0 : Int32) = Int32.ofNat 0 from rfl, show (1 : Int32) = Int32.ofNat 1 from rfl, show (2 : Int32) = Int32.ofNat 2 from rfl, show (3 : Int32) = Int32.ofNat 3 from rfl, show (4 : Int32) = Int32.ofNat 4 from rfl, show (5 : Int32) = Int32.ofNat 5 from rfl, show (6 : Int32) = Int32.ofNat 6 from rfl, show (7 : Int32) = Int32.ofNat 7 from rfl, show (8 : Int32) = Int32.ofNat 8 from rfl, show (9 : Int32) = Int32.ofNat 9 from rfl]
  rw [cput (by decide) (by decide), cput (by decide) (by decide), cput (by decide) (by decide), cput (by decide) (by decide), cput (by decide) (by decide), cput (by decide) (by decide), cput (by decide) (by decide), cput (by decide) (by decide), cput (by decide) (by decide), cput (by decide) (by decide)]
  unfold upd
  rcases (show w = 0 ∨ w = 1 ∨ w = 2 ∨ w = 3 ∨ w = 4 ∨ w = 5 ∨ w = 6 ∨ w = 7 ∨ w = 8 ∨ w = 9 by omega) with rfl | rfl | rfl | rfl | rfl | rfl | rfl | rfl | rfl | rfl <;> rfl
theorem within_n09 {p : Int32} (h : p < 0 ∨ ¬ p ≤ 9) : fX12_within p 0 9 = 0 := by
  rcases h with h | h
  · exact within_neg h
  · unfold fX12_within
    by_cases h0 : p < 0
    · rw [if_pos h0]
    · rw [if_neg h0]
      rw [if_pos (Int32.not_le.mp h)]
theorem every_none {p : Int32} (h : p < 0 ∨ ¬ p ≤ 9) (x0 x1 x2 x3 x18 : Int32) (x19 : Int64) (x20 x21 x22 x27 x35 x43 x44 x45 x55 : Int32) (A76 A77 A78 : Nat → Int32) (A79 : Nat → Int64) (A80 A81 A82 A83 A84 A85 A86 A87 A88 A89 A90 A91 A92 A93 A94 A95 A96 A100 A101 A102 : Nat → Int32) : ∃ r, fX12_every F x0 x1 x2 x3 x18 x19 x20 x21 x22 x27 x35 x43 x44 x45 x55 A76 A77 A78 A79 A80 A81 A82 A83 A84 A85 A86 A87 A88 A89 A90 A91 A92 A93 A94 A95 A96 A100 A101 A102 p = some (-1, 0, r) := by
  unfold fX12_every
  rw [if_pos (within_n09 h)]
  exact ⟨_, rfl⟩
theorem every_far (hs : Stt cap lab ack cop) (hF : 70000 ≤ F) (hN : 6000 < allN cap lab ack cop) {w : Nat} (hw : w < 10) (x18 : Int32) (x19 : Int64) (x20 x21 x22 x27 x35 x43 x44 x45 x55 : Int32) (A76 A77 A78 : Nat → Int32) (A79 : Nat → Int64) (A80 A81 A82 A83 A84 A85 A86 A87 A88 A89 A90 A91 A92 A93 A94 A95 A96 A100 A101 A102 : Nat → Int32) : ∃ r, fX12_every F (Int32.ofNat cap) (Int32.ofNat lab) (Int32.ofNat ack) (Int32.ofNat cop) x18 x19 x20 x21 x22 x27 x35 x43 x44 x45 x55 A76 A77 A78 A79 A80 A81 A82 A83 A84 A85 A86 A87 A88 A89 A90 A91 A92 A93 A94 A95 A96 A100 A101 A102 (Int32.ofNat w) = some (-3, 0, r) := by
  obtain ⟨r, hr⟩ := (laysEvery_eq hs hF x19 x20 x21 x22 x27 x35 x55 A76 A77 A78 A79 A80 A81 A82 A83 A84 A85 A86 A100 A101 A102).2 hN
  have hwi : ¬ fX12_within (Int32.ofNat w) 0 9 = 0 := by
    rw [show (9 : Int32) = Int32.ofNat 9 from rfl, within_nat (by omega) (by decide), if_pos (by omega)]; decide
  unfold fX12_every
  rw [if_neg hwi, hr, Option.bind_some]
  dsimp only
  rw [if_pos rfl]
  exact ⟨_, rfl⟩
theorem every_call (hs : Stt cap lab ack cop) (hF : 70000 ≤ F) {counted : Int32} {ch : Int64} {me ra size known : Int32} {A30 A35 : Nat → Int32} {A38 : Nat → Int64} {A44 A57 A59 A67 : Nat → Int32} (hV : SV F cap lab ack cop ch me ra size known A30 A35 A38 A44 A57 A59) (hC : CEN F cap lab ack cop counted A67) (x311 x312 x426 x427 : Int32) (A33 A37 A46 A48 A50 A52 A54 : Nat → Int32) (p : Int32) (x18 : Int32) (x19 : Int64) (x20 x21 x22 x27 x35 x43 x44 x45 x55 : Int32) (A76 A77 A78 : Nat → Int32) (A79 : Nat → Int64) (A80 A81 A82 A83 A84 A85 A86 A87 A88 A89 A90 A91 A92 A93 A94 A95 A96 A100 A101 A102 : Nat → Int32) :
    ∃ out counted' ch' size' known' y311 y312 y426 y427 B30 B33 B35 B37 B38 B44 B46 B48 B50 B52 B54 B67 r, fX11_every F (Int32.ofNat cap) (Int32.ofNat lab) (Int32.ofNat ack) (Int32.ofNat cop) counted ch size known x311 x312 x426 x427 A30 A33 A35 A37 A38 A44 A46 A48 A50 A52 A54 A67 p = some (out, counted', ch', size', known', y311, y312, y426, y427, B30, B33, B35, B37, B38, B44, B46, B48, B50, B52, B54, B67) ∧ fX12_every F (Int32.ofNat cap) (Int32.ofNat lab) (Int32.ofNat ack) (Int32.ofNat cop) x18 x19 x20 x21 x22 x27 x35 x43 x44 x45 x55 A76 A77 A78 A79 A80 A81 A82 A83 A84 A85 A86 A87 A88 A89 A90 A91 A92 A93 A94 A95 A96 A100 A101 A102 p = some (out, 0, r) ∧ SV F cap lab ack cop ch' me ra size' known' B30 B35 B38 B44 A57 A59 ∧ CEN F cap lab ack cop counted' B67 := by
  unfold fX11_every
  by_cases hn : p < 0
  · rw [if_pos hn]
    obtain ⟨r, hr⟩ := every_none (F := F) (Or.inl hn) (Int32.ofNat cap) (Int32.ofNat lab) (Int32.ofNat ack) (Int32.ofNat cop) x18 x19 x20 x21 x22 x27 x35 x43 x44 x45 x55 A76 A77 A78 A79 A80 A81 A82 A83 A84 A85 A86 A87 A88 A89 A90 A91 A92 A93 A94 A95 A96 A100 A101 A102
    exact ⟨_, _, _, _, _, _, _, _, _, _, _, _, _, _, _, _, _, _, _, _, _, r, rfl, hr, hV, hC⟩
  · rw [if_neg hn]
    by_cases h9 : p ≤ 9
    · obtain ⟨w, hw, rfl⟩ : ∃ w, w < 10 ∧ p = Int32.ofNat w := by
        obtain ⟨k, hk, rfl⟩ := i32_nn hn
        have := (i32_le (b := 9) hk (by decide)).mp h9
        exact ⟨k, by omega, rfl⟩
      have hsm : allN cap lab ack cop < 2 ^ 62 := by
        obtain ⟨⟨c1, c2⟩, ⟨b1, b2⟩, ⟨d1, d2⟩, ⟨e1, e2⟩⟩ := hs
        have h1 : cop ^ (2 * lab) ≤ 4 ^ 8 := Nat.le_trans (Nat.pow_le_pow_left e2 _) (Nat.pow_le_pow_right (by decide) (by omega))
        have hfil : ∀ k, k ≤ 8 → fil cap k ≤ 45 := by
          intro k hk
          unfold fil
          have : k * (k + 1) ≤ 8 * 9 := Nat.mul_le_mul hk (by omega)
          split <;> omega
        have h2 := hfil (2 * lab) (by omega)
        have h3 := hfil lab (by omega)
        have h4 : 4 * lab * lab * ack ≤ 4 * 4 * 4 * 7 := Nat.mul_le_mul (Nat.mul_le_mul (Nat.mul_le_mul (Nat.le_refl 4) b2) b2) d2
        have h5 : allN cap lab ack cop ≤ 4 * 4 * 4 * 7 * 4 ^ 8 * 45 * 45 := Nat.mul_le_mul (Nat.mul_le_mul (Nat.mul_le_mul h4 h1) h2) h3
        exact Nat.lt_of_le_of_lt h5 (by decide)
      have hcmp : (lg_cmp (Int64.ofNat (allN cap lab ack cop)) 6000 ≤ 0) ↔ allN cap lab ack cop ≤ 6000 := by
        rw [lg_cmp_le, Int64.le_iff_toInt_le, Int64.toInt_ofNat_of_lt (by omega)]
        show ((allN cap lab ack cop : Nat) : Int) ≤ 6000 ↔ _
        omega
      rw [if_pos h9, allStates_eq hs (by omega), Option.bind_some]
      by_cases hN : allN cap lab ack cop ≤ 6000
      · rw [if_pos (hcmp.mpr hN)]
        unfold fX9_censusOf
        by_cases h0 : counted = 0
        · rw [if_pos h0]
          obtain ⟨E, Fs, z311, z312, B30, B33, B35, B37, B38, k1, k2, k3, k4, k5⟩ := chartAll_eq hs hN hF size known x311 x312 A30 A33 A35 A37 A38
          obtain ⟨hgk, hK1⟩ := gk_all hs hN k1
          obtain ⟨hg, _⟩ := gk_gr hgk hK1
          obtain ⟨X, m1, m2⟩ := wst_of hg (cgr_of hgk hK1 k4 k5) (fun e he => ot_lt hgk hK1 he) hF A44 A46 A48 A50 A52 A54 x426 x427
          obtain ⟨b, hb, hb4, hbw⟩ := every_m hs hF hN k1 m2 x18 x19 x20 x21 x22 x27 x35 x43 x44 x45 x55 A76 A77 A78 A79 A80 A81 A82 A83 A84 A85 A86 A87 A88 A89 A90 A91 A92 A93 A94 A95 A96 A100 A101 A102
          have hK6 : (allK cap lab ack cop).length ≤ 6000 := by rw [allK_len hs]; exact hN
          have hSA : SA (allK cap lab ack cop) B38 := by obtain ⟨_, _, _, h, _⟩ := k3; exact h
          have hbc : (allK cap lab ack cop)[b]? = some (allK cap lab ack cop)[b] := List.getElem?_eq_getElem hb
          generalize (allK cap lab ack cop)[b] = c at hbc
          have hcen : ∀ B67 : Nat → Int32, (∀ w, w < 10 → B67 w = cenV X.2.2.1 (allK cap lab ack cop).length c b w) → CenOk F cap lab ack cop B67 := by
            intro B67 hB x18 x19 x20 x21 x22 x27 x35 x43 x44 x45 x55 A76 A77 A78 A79 A80 A81 A82 A83 A84 A85 A86 A87 A88 A89 A90 A91 A92 A93 A94 A95 A96 A100 A101 A102 w hw
            obtain ⟨b', hb', hb4', hbw'⟩ := every_m hs hF hN k1 m2 x18 x19 x20 x21 x22 x27 x35 x43 x44 x45 x55 A76 A77 A78 A79 A80 A81 A82 A83 A84 A85 A86 A87 A88 A89 A90 A91 A92 A93 A94 A95 A96 A100 A101 A102
            rw [hb4] at hb4'
            have : b = b' := (i32_eq (by omega) (by omega)).mp (Option.some.inj hb4')
            subst this
            rw [hB w hw]
            exact hbw' c hbc w hw
          have hval : ∀ t : Int32, t = (if fX7_takenOf c = 0 then 0 else 1) → ∀ w, w < 10 → (cPut 10 (cPut 10 (cPut 10 (cPut 10 (cPut 10 (cPut 10 (cPut 10 (cPut 10 (cPut 10 (cPut 10 A67 0 (cAt 6000 X.2.2.1 (Int32.ofNat b))) 1 (Int32.ofNat (allK cap lab ack cop).length)) 2 (fX7_labelOf c)) 3 (fX7_valueOf c)) 4 (fX7_acksOf c)) 5 t) 6 (fX7_lastOf c)) 7 (fX7_packetsIn c)) 8 (fX7_lettersIn c)) 9 (fX7_seenIn c)) w = cenV X.2.2.1 (allK cap lab ack cop).length c b w := by
            intro t ht w hw
            rw [cen_row _ _ _ _ _ _ _ _ _ _ _ w hw, ht]
            rfl
          obtain ⟨r, hr⟩ := hbw c hbc w hw
          rw [k2, Option.bind_some]
          dsimp only
          rw [m1, Option.bind_some, hb4, Option.bind_some, stateAt_eq hSA hbc hK6, Option.bind_some]
          unfold fX9_censusOf_J154
          by_cases ht : fX7_takenOf c = 0
          · rw [if_pos ht, Option.bind_some]
            have hv := hval 0 (by rw [if_pos ht])
            refine ⟨_, _, _, _, _, _, _, _, _, _, _, _, _, _, _, _, _, _, _, _, _, r, rfl, ?_, Or.inl rfl, Or.inr (hcen _ hv)⟩
            dsimp only
            rw [cAt_nat hw (by decide), hv w hw]
            exact hr
          · rw [if_neg ht, Option.bind_some]
            have hv := hval 1 (by rw [if_neg ht])
            refine ⟨_, _, _, _, _, _, _, _, _, _, _, _, _, _, _, _, _, _, _, _, _, r, rfl, ?_, Or.inl rfl, Or.inr (hcen _ hv)⟩
            dsimp only
            rw [cAt_nat hw (by decide), hv w hw]
            exact hr
        · rw [if_neg h0, Option.bind_some]
          rcases hC with h | h
          · exact absurd h h0
          · obtain ⟨r, hr⟩ := h x18 x19 x20 x21 x22 x27 x35 x43 x44 x45 x55 A76 A77 A78 A79 A80 A81 A82 A83 A84 A85 A86 A87 A88 A89 A90 A91 A92 A93 A94 A95 A96 A100 A101 A102 w hw
            refine ⟨_, _, _, _, _, _, _, _, _, _, _, _, _, _, _, _, _, _, _, _, _, r, rfl, ?_, hV, Or.inr h⟩
            dsimp only
            rw [cAt_nat hw (by decide)]
            exact hr
      · rw [if_neg (fun z => hN (hcmp.mp z))]
        obtain ⟨r, hr⟩ := every_far hs hF (by omega) hw x18 x19 x20 x21 x22 x27 x35 x43 x44 x45 x55 A76 A77 A78 A79 A80 A81 A82 A83 A84 A85 A86 A87 A88 A89 A90 A91 A92 A93 A94 A95 A96 A100 A101 A102
        exact ⟨_, _, _, _, _, _, _, _, _, _, _, _, _, _, _, _, _, _, _, _, _, r, rfl, hr, hV, hC⟩
    · rw [if_neg h9]
      obtain ⟨r, hr⟩ := every_none (F := F) (Or.inr h9) (Int32.ofNat cap) (Int32.ofNat lab) (Int32.ofNat ack) (Int32.ofNat cop) x18 x19 x20 x21 x22 x27 x35 x43 x44 x45 x55 A76 A77 A78 A79 A80 A81 A82 A83 A84 A85 A86 A87 A88 A89 A90 A91 A92 A93 A94 A95 A96 A100 A101 A102
      exact ⟨_, _, _, _, _, _, _, _, _, _, _, _, _, _, _, _, _, _, _, _, _, r, rfl, hr, hV, hC⟩
end EVRC
