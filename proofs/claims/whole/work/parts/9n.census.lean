/-! part 9n: what the reference tells of every state -/
section CENS
variable {F cap lab ack cop : Nat}
def cenV (A44 : Nat → Int32) (n : Nat) (c : Int64) (b w : Nat) : Int32 := if w = 0 then cAt 6000 A44 (Int32.ofNat b) else if w = 1 then Int32.ofNat n else if w = 2 then fX7_labelOf c else if w = 3 then fX7_valueOf c else if w = 4 then fX7_acksOf c else if w = 5 then (if fX7_takenOf c = 0 then 0 else 1) else if w = 6 then fX7_lastOf c else if w = 7 then fX7_packetsIn c else if w = 8 then fX7_lettersIn c else fX7_seenIn c
theorem seenOf_sum {c m : Int64} (hS : Sx c m) (hF : 9 ≤ F) (x0 x1 x2 x3 x18 : Int32) (x19 : Int64) (x20 x21 x22 x27 x35 x43 x44 x45 x55 : Int32) (A76 A77 A78 : Nat → Int32) (A79 : Nat → Int64) (A80 A81 A82 A83 A84 A85 A86 A87 A88 A89 A90 A91 A92 A93 A94 A95 A96 A100 A101 A102 : Nat → Int32) : gloop (fun u : (Int32 × Int32) => fX12_every_S212 F x0 x1 x2 x3 m x18 x19 x20 x21 x22 x27 x35 x43 x44 x45 x55 A76 A77 A78 A79 A80 A81 A82 A83 A84 A85 A86 A87 A88 A89 A90 A91 A92 A93 A94 A95 A96 A100 A101 A102 u.1 u.2) F (0, 0) = some (Int32.ofNat (seSum c)) := by
  refine gl_for (st := fun u : (Int32 × Int32) => fX12_every_S212 F x0 x1 x2 x3 m x18 x19 x20 x21 x22 x27 x35 x43 x44 x45 x55 A76 A77 A78 A79 A80 A81 A82 A83 A84 A85 A86 A87 A88 A89 A90 A91 A92 A93 A94 A95 A96 A100 A101 A102 u.1 u.2) 8 (fun i => (Int32.ofNat (sumTo (fun k => dg m (9 + 2 * k) 2) i), Int32.ofNat i)) ?_ ?_ hF
  · intro i hi
    dsimp only
    unfold fX12_every_S212
    have h8 : ¬ (8 : Int32) ≤ Int32.ofNat i := by rw [show (8 : Int32) = Int32.ofNat 8 from rfl, i32_le (by decide) (by omega)]; omega
    rw [if_neg h8, show (9 : Int32) + 2 * Int32.ofNat i = Int32.ofNat (9 + 2 * i) by rw [show (9 : Int32) = Int32.ofNat 9 from rfl, show (2 : Int32) = Int32.ofNat 2 from rfl, i32_mul, i32_add]]
    rw [show fX12_get m (Int32.ofNat (9 + 2 * i)) 2 = Int32.ofNat (dg m (9 + 2 * i) 2) from fX12_get_dg m (w := 2) (by omega) (by omega) (by decide), i32_add, i32_succ]
    rfl
  · dsimp only
    unfold fX12_every_S212
    rw [if_pos (show (8 : Int32) ≤ Int32.ofNat 8 by decide)]
    rw [show sumTo (fun k => dg m (9 + 2 * k) 2) 8 = seSum c from sumTo_congr 8 (fun k hk => hS.dg (blk_seen ⟨k, hk⟩))]
theorem gk_all (hs : Stt cap lab ack cop) (hN : allN cap lab ack cop ≤ 6000) {E : List Edge} {Fs : List Nat} (h : expAll cap lab ack cop 6001 0 (allK cap lab ack cop) [] [0] = some (allK cap lab ack cop, E, Fs)) : Gk cap lab ack cop (allK cap lab ack cop).length (allK cap lab ack cop) E Fs ∧ 1 ≤ (allK cap lab ack cop).length := by
  have hK1 : 1 ≤ (allK cap lab ack cop).length := by rw [allK_len hs]; exact allN_pos hs
  refine ⟨(expAll_gk hs.1.2 hs.2.1.2 hs.2.2.1.2 hs.2.2.2.2 6001 0 (allK cap lab ack cop) [] [0] _ E Fs rfl ?_ h).1, hK1⟩
  exact ⟨inj_of_nodup (all_inj hs), by rw [allK_len hs]; exact hN, fun i x hx => all_good hs (List.mem_of_getElem? hx), Nat.zero_le _, rfl, rfl, rfl, fun s x hs => by omega, fun i e he => by simp at he, by decide⟩
theorem every_m (hs : Stt cap lab ack cop) (hF : 70000 ≤ F) (hN : allN cap lab ack cop ≤ 6000) {E : List Edge} {Fs : List Nat} (hE : expAll cap lab ack cop 6001 0 (allK cap lab ack cop) [] [0] = some (allK cap lab ack cop, E, Fs)) {A44 : Nat → Int32} (hW : WstOk F (allK cap lab ack cop).length (fsOf Fs) (tgOf E) (otOf E) A44) (x18 : Int32) (x19 : Int64) (x20 x21 x22 x27 x35 x43 x44 x45 x55 : Int32) (A76 A77 A78 : Nat → Int32) (A79 : Nat → Int64) (A80 A81 A82 A83 A84 A85 A86 A87 A88 A89 A90 A91 A92 A93 A94 A95 A96 A100 A101 A102 : Nat → Int32) :
    ∃ b, b < (allK cap lab ack cop).length ∧ fX4_hardest F A44 (Int32.ofNat (allK cap lab ack cop).length) = some (Int32.ofNat b) ∧ ∀ c, (allK cap lab ack cop)[b]? = some c → ∀ w, w < 10 → ∃ r, fX12_every F (Int32.ofNat cap) (Int32.ofNat lab) (Int32.ofNat ack) (Int32.ofNat cop) x18 x19 x20 x21 x22 x27 x35 x43 x44 x45 x55 A76 A77 A78 A79 A80 A81 A82 A83 A84 A85 A86 A87 A88 A89 A90 A91 A92 A93 A94 A95 A96 A100 A101 A102 (Int32.ofNat w) = some (cenV A44 (allK cap lab ack cop).length c b w, 0, r) := by
  obtain ⟨M', E', Fs', y19, y20, y21, y55, B76, B77, B78, B79, B80, B81, B82, B83, B84, B85, B86, B100, B101, B102, h1, h2, h3, h4, h5, h6⟩ := (laysEvery_eq hs hF x19 x20 x21 x22 x27 x35 x55 A76 A77 A78 A79 A80 A81 A82 A83 A84 A85 A86 A100 A101 A102).1 hN
  rw [hE] at h1
  obtain ⟨_, h1'⟩ := Prod.mk.inj (Option.some.inj h1)
  obtain ⟨rfl, rfl⟩ := Prod.mk.inj h1'
  obtain ⟨hgk, hK1⟩ := gk_all hs hN hE
  have hK6 : (allK cap lab ack cop).length ≤ 6000 := by rw [allK_len hs]; exact hN
  have hlen := h3.1
  obtain ⟨Y, hY, hYs⟩ := hW B81 B82 B83 x43 x44 x45 A87 A88 A89 A90 A91 A92 A93 A94 A95 A96 (mgr_of hgk hK1 h5 h6)
  have hSA : SA M' B79 := by obtain ⟨_, _, _, h, _⟩ := h4; exact h
  generalize hn : (allK cap lab ack cop).length = n at hK1 hK6 hlen hY hYs hW
  have hch : ∀ s : Nat, ∃ pv : Nat × Nat, s < n → Y.2.2.2.1 s = Int32.ofNat pv.1 ∧ pv.1 < 6001 ∧ pv.2 ≤ 1000000 ∧ Y.2.2.2.2.2.2.2.2.2.2.1 pv.1 = Int32.ofNat pv.2 ∧ cAt 6000 A44 (Int32.ofNat s) = fX12_told (Int32.ofNat pv.2) := by
    intro s
    by_cases h : s < n
    · obtain ⟨p, v, g⟩ := hYs s h
      exact ⟨(p, v), fun _ => g⟩
    · exact ⟨(0, 0), fun z => absurd z h⟩
  obtain ⟨PV, hPV⟩ := Classical.axiomOfChoice hch
  have hm := hard_m (n := n) (W := fun s => (PV s).2) (P := fun s => (PV s).1) hK1 hK6 (fun s h => (hPV s h).2.2.1) (fun s h => (hPV s h).2.1) (A87 := Y.2.2.2.1) (A94 := Y.2.2.2.2.2.2.2.2.2.2.1) (fun s h => (hPV s h).1) (fun s h => (hPV s h).2.2.2.1) hF
  have hc4 := hardest_eq (n := n) (W := fun s => (PV s).2) hK1 hK6 (fun s h => (hPV s h).2.2.1) (A44 := A44) (fun s h => (hPV s h).2.2.2.2) hF
  have hbl := best_le (W := fun s => (PV s).2) (n - 1)
  generalize hb : best (fun s => (PV s).2) (n - 1) = b at hm hc4 hbl
  have hbn : b < n := by omega
  obtain ⟨q1, q2, q3, q4, q5⟩ := hPV b hbn
  refine ⟨b, hbn, hc4, fun c hc w hw => ?_⟩
  obtain ⟨m, hmm, hS⟩ := h3.at hc
  have e79 : B79 b = m := hSA b m hmm
  have hwi : ¬ fX12_within (Int32.ofNat w) 0 9 = 0 := by
    rw [show (9 : Int32) = Int32.ofNat 9 from rfl, within_nat (by omega) (by decide), if_pos (by omega)]; decide
  rw [← hlen] at h2
  unfold fX12_every
  rw [if_neg hwi, h2, Option.bind_some]
  dsimp only
  rw [if_neg (show ¬ (1 : Int32) = 0 by decide)]
  have ne : ∀ j : Nat, j < 10 → w ≠ j → ¬ Int32.ofNat w = Int32.ofNat j := fun j hj h z => h ((i32_eq (by omega) (by omega)).mp z)
  by_cases w1 : w = 1
  · subst w1
    rw [if_pos (show Int32.ofNat 1 = 1 from rfl)]
    exact ⟨_, rfl⟩
  · rw [if_neg (show ¬ Int32.ofNat w = 1 from ne 1 (by omega) w1), hY, Option.bind_some]
    rw [hm, Option.bind_some, if_pos (inb_t (by omega) (by omega)), tnc (show b < 2 ^ 31 by omega), e79]
    unfold cenV
    by_cases w0 : w = 0
    · subst w0
      rw [if_pos (show Int32.ofNat 0 = 0 from rfl), if_pos (inb_t (by omega) (by omega)), q1, if_pos (inb_t (by omega) q2), tnc (by omega), q4, if_pos rfl, q5]
      exact ⟨_, rfl⟩
    · rw [if_neg (show ¬ Int32.ofNat w = 0 from ne 0 (by omega) w0), if_neg (show ¬ Int32.ofNat w = 1 from ne 1 (by omega) w1), if_neg w0, if_neg w1]
      by_cases w2 : w = 2
      · subst w2
        rw [if_pos (show Int32.ofNat 2 = 2 from rfl), if_pos rfl, fX7_labelOf_dg, show fX12_get m 0 2 = Int32.ofNat (dg m 0 2) from fX12_get_dg m (n := 0) (w := 2) (by decide) (by decide) (by decide), hS.dg blk_label]
        exact ⟨_, rfl⟩
      · rw [if_neg (show ¬ Int32.ofNat w = 2 from ne 2 (by omega) w2), if_neg w2]
        by_cases w3 : w = 3
        · subst w3
          rw [if_pos (show Int32.ofNat 3 = 3 from rfl), if_pos rfl, fX7_valueOf_dg, show fX12_get m 2 1 = Int32.ofNat (dg m 2 1) from fX12_get_dg m (n := 2) (w := 1) (by decide) (by decide) (by decide), hS.dg blk_value]
          exact ⟨_, rfl⟩
        · rw [if_neg (show ¬ Int32.ofNat w = 3 from ne 3 (by omega) w3), if_neg w3]
          by_cases w4 : w = 4
          · subst w4
            rw [if_pos (show Int32.ofNat 4 = 4 from rfl), if_pos rfl, fX7_acksOf_dg, show fX12_get m 3 3 = Int32.ofNat (dg m 3 3) from fX12_get_dg m (n := 3) (w := 3) (by decide) (by decide) (by decide), hS.dg blk_acks]
            exact ⟨_, rfl⟩
          · rw [if_neg (show ¬ Int32.ofNat w = 4 from ne 4 (by omega) w4), if_neg w4]
            by_cases w5 : w = 5
            · subst w5
              rw [if_pos (show Int32.ofNat 5 = 5 from rfl), if_pos rfl, takenOf_dg, show fX12_get m 6 1 = Int32.ofNat (dg m 6 1) from fX12_get_dg m (n := 6) (w := 1) (by decide) (by decide) (by decide), hS.dg blk_taken]
              rcases dg1 c 42 with h | h
              · rw [h]; exact ⟨_, rfl⟩
              · rw [h]; exact ⟨_, rfl⟩
            · rw [if_neg (show ¬ Int32.ofNat w = 5 from ne 5 (by omega) w5), if_neg w5]
              by_cases w6 : w = 6
              · subst w6
                rw [if_pos (show Int32.ofNat 6 = 6 from rfl), if_pos rfl, fX7_lastOf_dg, show fX12_get m 7 2 = Int32.ofNat (dg m 7 2) from fX12_get_dg m (n := 7) (w := 2) (by decide) (by decide) (by decide), hS.dg blk_last]
                exact ⟨_, rfl⟩
              · rw [if_neg (show ¬ Int32.ofNat w = 6 from ne 6 (by omega) w6), if_neg w6]
                by_cases w7 : w = 7
                · subst w7
                  rw [if_pos (show Int32.ofNat 7 = 7 from rfl), if_pos rfl, packetsIn_sum, packetsOf_sum hS (by omega)]
                  exact ⟨_, rfl⟩
                · rw [if_neg (show ¬ Int32.ofNat w = 7 from ne 7 (by omega) w7), if_neg w7]
                  by_cases w8 : w = 8
                  · subst w8
                    rw [if_pos (show Int32.ofNat 8 = 8 from rfl), if_pos rfl, lettersIn_sum, lettersOf_sum hS (by omega)]
                    exact ⟨_, rfl⟩
                  · rw [if_neg (show ¬ Int32.ofNat w = 8 from ne 8 (by omega) w8), if_neg w8, seenIn_sum, seenOf_sum hS (by omega)]
                    exact ⟨_, rfl⟩
end CENS
