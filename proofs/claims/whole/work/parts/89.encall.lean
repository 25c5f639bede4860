/-! part 89: enough, the call -/
section ENC
variable {F cap lab ack cop : Nat} {c m : Int64}
def EnOk (F cap lab cop : Nat) (c : Int64) (e : Int32) : Prop := ∀ (m : Int64) (x18 : Int32) (x19 : Int64) (x20 x21 x22 x27 x35 x43 x44 x45 : Int32) (A76 A77 A78 : Nat → Int32) (A79 : Nat → Int64) (A80 A81 A82 A83 A84 A85 A86 A87 A88 A89 A90 A91 A92 A93 A94 A95 A96 : Nat → Int32), Sx c m → ∃ r, fX12_enough F (Int32.ofNat cap) (Int32.ofNat lab) (Int32.ofNat cop) m x18 x19 x20 x21 x22 x27 x35 x43 x44 x45 A76 A77 A78 A79 A80 A81 A82 A83 A84 A85 A86 A87 A88 A89 A90 A91 A92 A93 A94 A95 A96 = some (e, 0, r)
def ENK (F cap lab cop : Nat) (tr : Int64) (e : Int32) : Prop := tr = -1 ∨ EnOk F cap lab cop tr e
theorem least_eq (hs : Stt cap lab ack cop) (hc : Good cap c) (hF : 70000 ≤ F) (s : EC) : ∃ (w : Int32) (s' : EC), gloop (eC F cap lab ack cop c (-1)) F (1, -1, s) = some (w, s') ∧ EnOk F cap lab cop c w := by
  obtain ⟨m0, hS0⟩ := hc.2
  have t0 : EM := (0, 0, 0, 0, 0, 0, 0, 0, 0, fun _ => 0, fun _ => 0, fun _ => 0, fun _ => 0, fun _ => 0, fun _ => 0, fun _ => 0, fun _ => 0, fun _ => 0, fun _ => 0, fun _ => 0, fun _ => 0, fun _ => 0, fun _ => 0, fun _ => 0, fun _ => 0, fun _ => 0, fun _ => 0, fun _ => 0, fun _ => 0, fun _ => 0)
  obtain ⟨w, s', q0, h1, _, _⟩ := enough_go (ack := ack) hs.1 hs.2.1 hs.2.2.2 hc hS0 hF (-1) 7 1 (by decide) (by decide) F (by omega) s t0
  refine ⟨w, s', h1, fun m x18 x19 x20 x21 x22 x27 x35 x43 x44 x45 A76 A77 A78 A79 A80 A81 A82 A83 A84 A85 A86 A87 A88 A89 A90 A91 A92 A93 A94 A95 A96 hS => ?_⟩
  obtain ⟨w2, s2, q, g1, g2, g3⟩ := enough_go (ack := ack) hs.1 hs.2.1 hs.2.2.2 hc hS hF (-1) 7 1 (by decide) (by decide) F (by omega) s (x19, x20, x21, x22, x27, x35, x43, x44, x45, A76, A77, A78, A79, A80, A81, A82, A83, A84, A85, A86, A87, A88, A89, A90, A91, A92, A93, A94, A95, A96)
  rw [h1] at g1
  have hw : w = w2 := (Prod.mk.inj (Option.some.inj g1)).1
  exact enough_m g2 (by rw [hw]; exact g3)
theorem enough_call (hs : Stt cap lab ack cop) (hc : Good cap c) (hS : Sx c m) (hF : 70000 ≤ F) {ch tr : Int64} {me ra size known en : Int32} {A30 A35 : Nat → Int32} {A38 : Nat → Int64} {A44 A57 A59 : Nat → Int32} (hV : SV F cap lab ack cop ch me ra size known A30 A35 A38 A44 A57 A59) (hE : ENK F cap lab cop tr en) (x311 x312 x426 x427 : Int32) (A33 A37 A46 A48 A50 A52 A54 : Nat → Int32) (x18 : Int32) (x19 : Int64) (x20 x21 x22 x27 x35 x43 x44 x45 : Int32) (A76 A77 A78 : Nat → Int32) (A79 : Nat → Int64) (A80 A81 A82 A83 A84 A85 A86 A87 A88 A89 A90 A91 A92 A93 A94 A95 A96 : Nat → Int32) :
    ∃ out ch' en' size' known' y311 y312 y426 y427 B30 B33 B35 B37 B38 B44 B46 B48 B50 B52 B54 r, fX11_enough F c (Int32.ofNat cap) (Int32.ofNat lab) (Int32.ofNat ack) (Int32.ofNat cop) ch tr en size known x311 x312 x426 x427 A30 A33 A35 A37 A38 A44 A46 A48 A50 A52 A54 = some (out, ch', c, en', size', known', y311, y312, y426, y427, B30, B33, B35, B37, B38, B44, B46, B48, B50, B52, B54) ∧ fX12_enough F (Int32.ofNat cap) (Int32.ofNat lab) (Int32.ofNat cop) m x18 x19 x20 x21 x22 x27 x35 x43 x44 x45 A76 A77 A78 A79 A80 A81 A82 A83 A84 A85 A86 A87 A88 A89 A90 A91 A92 A93 A94 A95 A96 = some (out, 0, r) ∧ SV F cap lab ack cop ch' me ra size' known' B30 B35 B38 B44 A57 A59 ∧ ENK F cap lab cop c en' := by
  unfold fX11_enough fX9_leastAcks
  by_cases he : tr = c
  · rw [if_pos ((lg_cmp_eq _ _).mpr he)]
    subst he
    rcases hE with h | h
    · exact absurd h.symm (good_ne hc)
    · obtain ⟨r, hr⟩ := h m x18 x19 x20 x21 x22 x27 x35 x43 x44 x45 A76 A77 A78 A79 A80 A81 A82 A83 A84 A85 A86 A87 A88 A89 A90 A91 A92 A93 A94 A95 A96 hS
      exact ⟨_, _, _, _, _, _, _, _, _, _, _, _, _, _, _, _, _, _, _, _, r, rfl, hr, hV, Or.inr h⟩
  · rw [if_neg (fun z => he ((lg_cmp_eq _ _).mp z))]
    obtain ⟨w, s', h1, h2⟩ := least_eq hs hc hF (size, known, x311, x312, x426, x427, A30, A33, A35, A37, A38, A44, A46, A48, A50, A52, A54)
    obtain ⟨r, hr⟩ := h2 m x18 x19 x20 x21 x22 x27 x35 x43 x44 x45 A76 A77 A78 A79 A80 A81 A82 A83 A84 A85 A86 A87 A88 A89 A90 A91 A92 A93 A94 A95 A96 hS
    unfold eC at h1
    rw [h1]
    exact ⟨_, _, _, _, _, _, _, _, _, _, _, _, _, _, _, _, _, _, _, _, r, rfl, hr, Or.inl rfl, Or.inr h2⟩
end ENC
