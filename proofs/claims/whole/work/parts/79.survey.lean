/-! part 79: the survey's memory; reached, soonest, steps, barren -/
def WstOk (F n : Nat) (fs tg ot : Nat → Nat) (A44 : Nat → Int32) : Prop := ∀ (A81 A82 A83 : Nat → Int32) (x43 x44 x45 : Int32) (A87 A88 A89 A90 A91 A92 A93 A94 A95 A96 : Nat → Int32), MGr n fs tg ot A81 A82 A83 → ∃ Y, fX12_laysWorst F (Int32.ofNat n) A81 A82 A83 x43 x44 x45 A87 A88 A89 A90 A91 A92 A93 A94 A95 A96 = some Y ∧ ∀ s, s < n → ∃ p v : Nat, Y.2.2.2.1 s = Int32.ofNat p ∧ p < 6001 ∧ v ≤ 1000000 ∧ Y.2.2.2.2.2.2.2.2.2.2.1 p = Int32.ofNat v ∧ cAt 6000 A44 (Int32.ofNat s) = fX12_told (Int32.ofNat v)
def SVk (F cap lab ack cop : Nat) (c : Int64) (me ra size known : Int32) (A30 A35 : Nat → Int32) (A38 : Nat → Int64) (A44 A57 A59 : Nat → Int32) : Prop :=
  Good cap c ∧ ((known = 0 ∧ expAll cap lab ack cop 6001 0 [c] [] [0] = none) ∨ (known = 1 ∧ ∃ K E Fs, expAll cap lab ack cop 6001 0 [c] [] [0] = some (K, E, Fs) ∧ size = Int32.ofNat K.length ∧ SA K A38 ∧ CE E A35 ∧ CF Fs A30 ∧ (¬ me = 0 → WstOk F K.length (fsOf Fs) (tgOf E) (otOf E) A44) ∧ (¬ ra = 0 → RngOk K.length (fsOf Fs) (tgOf E) (otOf E) A57 A59)))
def SV (F cap lab ack cop : Nat) (ch : Int64) (me ra size known : Int32) (A30 A35 : Nat → Int32) (A38 : Nat → Int64) (A44 A57 A59 : Nat → Int32) : Prop := ch = -1 ∨ SVk F cap lab ack cop ch me ra size known A30 A35 A38 A44 A57 A59
theorem good_ne {cap : Nat} {c : Int64} (h : Good cap c) : ¬ (-1 : Int64) = c := by
  intro z
  have h1 := good_hz h 63 (by decide)
  rw [← z] at h1
  exact absurd h1 (by decide)
theorem graph_of {cap lab ack cop : Nat} (hs : Stt cap lab ack cop) {c : Int64} (hc : Good cap c) {K : List Int64} {E : List Edge} {Fs : List Nat} (h : expAll cap lab ack cop 6001 0 [c] [] [0] = some (K, E, Fs)) : Gk cap lab ack cop K.length K E Fs ∧ 1 ≤ K.length ∧ K[0]? = some c := by
  obtain ⟨g1, g2⟩ := expAll_gk hs.1.2 hs.2.1.2 hs.2.2.1.2 hs.2.2.2.2 6001 0 [c] [] [0] K E Fs rfl (gk_start hc) h
  exact ⟨g1, g2.1, g2.2 0 c rfl⟩
theorem covers_eq {F cap lab ack cop : Nat} (hs : Stt cap lab ack cop) {ch c : Int64} {me ra size known : Int32} {A30 A35 : Nat → Int32} {A38 : Nat → Int64} {A44 A57 A59 : Nat → Int32} (hV : SV F cap lab ack cop ch me ra size known A30 A35 A38 A44 A57 A59) (hc : Good cap c) (hF : 70000 ≤ F) (x311 x312 : Int32) (A33 A37 : Nat → Int32) : ∃ me' ra' size' known' y311 y312 B30 B33 B35 B37 B38, fX9_covers F (Int32.ofNat cap) (Int32.ofNat lab) (Int32.ofNat ack) (Int32.ofNat cop) ch me ra size known x311 x312 A30 A33 A35 A37 A38 c = some (known', c, me', ra', size', known', y311, y312, B30, B33, B35, B37, B38) ∧ SVk F cap lab ack cop c me' ra' size' known' B30 B35 B38 A44 A57 A59 := by
  unfold fX9_covers
  by_cases he : ch = c
  · rw [if_pos ((lg_cmp_eq _ _).mpr he)]
    subst he
    rcases hV with h | h
    · exact absurd h.symm (good_ne hc)
    · have hk : bzb known = true := by
        rcases h.2 with ⟨h1, _⟩ | ⟨h1, _⟩ <;> rw [h1] <;> decide
      rw [if_pos hk]
      exact ⟨_, _, _, _, _, _, _, _, _, _, _, rfl, h⟩
  · rw [if_neg (fun z => he ((lg_cmp_eq _ _).mp z))]
    rcases chart_eq hs.1.2 hs.2.1.2 hs.2.2.1.2 hs.2.2.2.2 (F := F) (by omega) hc size known x311 x312 A30 A33 A35 A37 A38 with ⟨K, E, Fs, y311, y312, B30, B33, B35, B37, B38, e1, e2, e3, e4, e5⟩ | ⟨e1, x, e2, e3⟩
    · rw [e2]
      simp only [Option.bind_some]
      rw [if_pos (by decide)]
      have hSA : SA K B38 := by obtain ⟨_, _, _, h, _⟩ := e3; exact h
      exact ⟨_, _, _, _, _, _, _, _, _, _, _, rfl, hc, Or.inr ⟨rfl, K, E, Fs, e1, rfl, hSA, e4, e5, fun z => absurd rfl z, fun z => absurd rfl z⟩⟩
    · rw [e2]
      simp only [Option.bind_some]
      obtain ⟨x1, x2, x3⟩ := x
      dsimp only at e3 ⊢
      subst e3
      rw [if_pos (by decide)]
      exact ⟨_, _, _, _, _, _, _, _, _, _, _, rfl, hc, Or.inl ⟨rfl, e1⟩⟩
section CALLS
variable {F cap lab ack cop : Nat} {c m : Int64}
theorem reached_call (hs : Stt cap lab ack cop) (hc : Good cap c) (hS : Sx c m) (hF : 70000 ≤ F) {ch : Int64} {me ra size known : Int32} {A30 A35 : Nat → Int32} {A38 : Nat → Int64} {A44 A57 A59 : Nat → Int32} (hV : SV F cap lab ack cop ch me ra size known A30 A35 A38 A44 A57 A59) (x311 x312 : Int32) (A33 A37 : Nat → Int32) (x18 : Int32) (x19 : Int64) (x20 x21 x22 x27 x35 : Int32) (A76 A77 A78 : Nat → Int32) (A79 : Nat → Int64) (A80 A81 A82 A83 A84 A85 A86 : Nat → Int32) :
    ∃ out me' ra' size' known' y311 y312 B30 B33 B35 B37 B38 r, fX11_reached F c (Int32.ofNat cap) (Int32.ofNat lab) (Int32.ofNat ack) (Int32.ofNat cop) ch me ra size known x311 x312 A30 A33 A35 A37 A38 = some (out, c, me', ra', size', known', y311, y312, B30, B33, B35, B37, B38) ∧ fX12_reached F (Int32.ofNat cap) (Int32.ofNat lab) (Int32.ofNat ack) (Int32.ofNat cop) m x18 x19 x20 x21 x22 x27 x35 A76 A77 A78 A79 A80 A81 A82 A83 A84 A85 A86 = some (out, 0, r) ∧ SVk F cap lab ack cop c me' ra' size' known' B30 B35 B38 A44 A57 A59 := by
  obtain ⟨me', ra', size', known', y311, y312, B30, B33, B35, B37, B38, e1, hK⟩ := covers_eq hs hV hc hF x311 x312 A33 A37
  unfold fX11_reached fX12_reached
  rw [e1]
  simp only [Option.bind_some]
  rcases reaches_eq hs.1.2 (by have := hs.2.1.1; omega) hs.2.1.2 hs.2.2.1.2 hs.2.2.2.2 (F := F) (by omega) hc hS x19 x20 x21 x22 x27 x35 A76 A77 A78 A79 A80 A81 A82 A83 A84 A85 A86 with ⟨K', M', E', Fs', z19, z20, z21, B76, B77, B78, B79, B80, B81, B82, B83, B84, B85, B86, r1, r2, r3, r4, r5, r6⟩ | ⟨r1, r, r2⟩
  · rw [r2]
    simp only [Option.bind_some]
    rw [if_neg (show ¬ (1 : Int32) = 0 by decide)]
    rcases hK.2 with ⟨k1, k2⟩ | ⟨k1, K, E, Fs, k2, k3, k4⟩
    · rw [k2] at r1; exact absurd r1 (by simp)
    · rw [k2] at r1
      obtain ⟨rfl, _⟩ := Prod.mk.inj (Option.some.inj r1)
      rw [if_neg (by rw [k1]; decide), ← r3.1]
      exact ⟨_, _, _, _, _, _, _, _, _, _, _, _, _, rfl, by rw [k3], hK⟩
  · rw [r2]
    simp only [Option.bind_some, ↓reduceIte]
    rcases hK.2 with ⟨k1, k2⟩ | ⟨k1, K, E, Fs, k2, k3⟩
    · rw [if_pos k1]
      exact ⟨_, _, _, _, _, _, _, _, _, _, _, _, _, rfl, rfl, hK⟩
    · rw [k2] at r1; exact absurd r1 (by simp)
theorem wanted_bad : ∀ o : Fin 6, fX12_isWanted (Int32.ofNat o.val) 1 = some (if badO o.val = true then 1 else 0) := by decide +kernel
theorem wanted_good : ∀ o : Fin 6, fX12_isWanted (Int32.ofNat o.val) 0 = some (if goodO o.val = true then 1 else 0) := by decide +kernel
theorem ot_lt {K : List Int64} {E : List Edge} {Fs : List Nat} (h : Gk cap lab ack cop K.length K E Fs) (hK : 1 ≤ K.length) {e : Nat} (he : e < fsOf Fs K.length) : otOf E e < 6 := by
  obtain ⟨hg, hl⟩ := gk_gr h hK
  rw [hl] at he
  obtain ⟨h1, h2, h3, h4, h5, h6, h7, h8, h9, h10⟩ := h
  unfold otOf
  rw [getD_of (List.getElem?_eq_getElem he)]
  exact (h9 e _ (List.getElem?_eq_getElem he)).2.1
theorem range_eq (hs : Stt cap lab ack cop) (hc : Good cap c) (hF : 70000 ≤ F) {me ra : Int32} {K : List Int64} {E : List Edge} {Fs : List Nat} {A30 A35 A57 A59 : Nat → Int32} (hx : expAll cap lab ack cop 6001 0 [c] [] [0] = some (K, E, Fs)) (hCE : CE E A35) (hCF : CF Fs A30) (hra : ¬ ra = 0 → RngOk K.length (fsOf Fs) (tgOf E) (otOf E) A57 A59) (A61 A63 A65 : Nat → Int32) : ∃ ra' B57 B59 B61 B63 B65, fX9_range F (Int32.ofNat K.length) A30 A35 ra A57 A59 A61 A63 A65 = some (ra', B57, B59, B61, B63, B65) ∧ ¬ ra' = 0 ∧ RngOk K.length (fsOf Fs) (tgOf E) (otOf E) B57 B59 := by
  obtain ⟨hgk, hK1, _⟩ := graph_of hs hc hx
  obtain ⟨hg, _⟩ := gk_gr hgk hK1
  unfold fX9_range
  by_cases h0 : ra = 0
  · rw [if_pos h0]
    obtain ⟨B57, B59, B61, B63, B65, e1, e2⟩ := measure_eq hg (cgr_of hgk hK1 hCE hCF) A57 A59 A61 A63 A65 hF
    rw [e1]
    exact ⟨_, _, _, _, _, _, rfl, by decide, e2⟩
  · rw [if_neg h0]
    exact ⟨_, _, _, _, _, _, rfl, h0, hra h0⟩
theorem enc_zero {k : Nat} (h : k < 2 ^ 31) : (if Int32.ofNat k = 0 then (-1 : Int32) else Int32.ofNat k) = enc k := by
  unfold enc
  by_cases h0 : k = 0
  · subst h0; rfl
  · rw [if_neg h0, if_neg (show ¬ Int32.ofNat k = 0 from fun z => h0 ((i32_eq (b := 0) h (by decide)).mp z))]
theorem soonest_call (hs : Stt cap lab ack cop) (hc : Good cap c) (hS : Sx c m) (hF : 70000 ≤ F) {ch : Int64} {me ra size known : Int32} {A30 A35 : Nat → Int32} {A38 : Nat → Int64} {A44 A57 A59 : Nat → Int32} (hV : SV F cap lab ack cop ch me ra size known A30 A35 A38 A44 A57 A59) (x311 x312 : Int32) (A33 A37 A61 A63 A65 : Nat → Int32) (x18 : Int32) (x19 : Int64) (x20 x21 x22 x27 x35 : Int32) (A76 A77 A78 : Nat → Int32) (A79 : Nat → Int64) (A80 A81 A82 A83 A84 A85 A86 A97 : Nat → Int32) :
    ∃ out me' ra' size' known' y311 y312 B30 B33 B35 B37 B38 B57 B59 B61 B63 B65 r, fX11_soonest F c (Int32.ofNat cap) (Int32.ofNat lab) (Int32.ofNat ack) (Int32.ofNat cop) ch me ra size known x311 x312 A30 A33 A35 A37 A38 A57 A59 A61 A63 A65 = some (out, c, me', ra', size', known', y311, y312, B30, B33, B35, B37, B38, B57, B59, B61, B63, B65) ∧ fX12_soonest F (Int32.ofNat cap) (Int32.ofNat lab) (Int32.ofNat ack) (Int32.ofNat cop) m x18 x19 x20 x21 x22 x27 x35 A76 A77 A78 A79 A80 A81 A82 A83 A84 A85 A86 A97 = some (out, 0, r) ∧ SVk F cap lab ack cop c me' ra' size' known' B30 B35 B38 A44 B57 B59 := by
  obtain ⟨me', ra', size', known', y311, y312, B30, B33, B35, B37, B38, e1, hK⟩ := covers_eq hs hV hc hF x311 x312 A33 A37
  unfold fX11_soonest fX12_soonest
  rw [e1]
  simp only [Option.bind_some]
  rcases reaches_eq hs.1.2 (by have := hs.2.1.1; omega) hs.2.1.2 hs.2.2.1.2 hs.2.2.2.2 (F := F) (by omega) hc hS x19 x20 x21 x22 x27 x35 A76 A77 A78 A79 A80 A81 A82 A83 A84 A85 A86 with ⟨K', M', E', Fs', z19, z20, z21, B76, B77, B78, B79, B80, B81, B82, B83, B84, B85, B86, r1, r2, r3, r4, r5, r6⟩ | ⟨r1, r, r2⟩
  · rw [r2]
    simp only [Option.bind_some]
    rw [if_neg (show ¬ (1 : Int32) = 0 by decide)]
    rcases hK.2 with ⟨k1, k2⟩ | ⟨k1, K, E, Fs, k2, k3, k4, k5, k6, k7, k8⟩
    · rw [k2] at r1; exact absurd r1 (by simp)
    · rw [k2] at r1
      obtain ⟨rfl, hr⟩ := Prod.mk.inj (Option.some.inj r1)
      obtain ⟨rfl, rfl⟩ := Prod.mk.inj hr
      obtain ⟨hgk, hK1, _⟩ := graph_of hs hc k2
      obtain ⟨hg, _⟩ := gk_gr hgk hK1
      obtain ⟨ra2, C57, C59, C61, C63, C65, q1, q2, q3⟩ := range_eq hs hc hF (me := me') k2 k5 k6 k8 A61 A63 A65
      obtain ⟨BF, f, g1, g2, g3, g4⟩ := laysFar_eq hg (mgr_of hgk hK1 r5 r6) (w := fun e => badO (otOf E e)) (fl := 1) (fun e he => wanted_bad ⟨otOf E e, ot_lt hgk hK1 he⟩) A97 hF
      rw [if_neg (by rw [k1]; decide), ← r3.1, g1]
      unfold fX9_actsToBad
      rw [k3, q1]
      simp only [Option.bind_some]
      obtain ⟨fb, fg, d1, d2, d3⟩ := id q3
      have h0 := d3 0 hK1
      have hf0 : f 0 = fb 0 := dist_unique hg g2 d1 hK1
      have ha : cAt 6000 C57 0 = Int32.ofNat (fb 0) := h0.1
      have hb : BF (0 : Int32).toNatClampNeg = enc (fb 0) := by rw [n0, g3 0 hK1, hf0]
      rw [ha, hb]
      have hz := enc_zero (k := fb 0) (by have := h0.2.2.1; omega)
      by_cases hz0 : Int32.ofNat (fb 0) = 0
      · rw [if_pos hz0] at hz ⊢
        exact ⟨_, _, _, _, _, _, _, _, _, _, _, _, _, _, _, _, _, _, rfl, by rw [hz], hc, Or.inr ⟨k1, K, E, Fs, k2, rfl, k4, k5, k6, k7, fun _ => q3⟩⟩
      · rw [if_neg hz0] at hz ⊢
        exact ⟨_, _, _, _, _, _, _, _, _, _, _, _, _, _, _, _, _, _, rfl, by rw [hz], hc, Or.inr ⟨k1, K, E, Fs, k2, rfl, k4, k5, k6, k7, fun _ => q3⟩⟩
  · rw [r2]
    simp only [Option.bind_some, ↓reduceIte]
    rcases hK.2 with ⟨k1, k2⟩ | ⟨k1, K, E, Fs, k2, k3⟩
    · rw [if_pos k1]
      exact ⟨_, _, _, _, _, _, _, _, _, _, _, _, _, _, _, _, _, _, rfl, rfl, hK⟩
    · rw [k2] at r1; exact absurd r1 (by simp)
theorem steps_call (hs : Stt cap lab ack cop) (hc : Good cap c) (hS : Sx c m) (hF : 70000 ≤ F) {ch : Int64} {me ra size known : Int32} {A30 A35 : Nat → Int32} {A38 : Nat → Int64} {A44 A57 A59 : Nat → Int32} (hV : SV F cap lab ack cop ch me ra size known A30 A35 A38 A44 A57 A59) (x311 x312 : Int32) (A33 A37 A61 A63 A65 : Nat → Int32) (x18 : Int32) (x19 : Int64) (x20 x21 x22 x27 x35 : Int32) (A76 A77 A78 : Nat → Int32) (A79 : Nat → Int64) (A80 A81 A82 A83 A84 A85 A86 A97 : Nat → Int32) :
    ∃ out me' ra' size' known' y311 y312 B30 B33 B35 B37 B38 B57 B59 B61 B63 B65 r, fX11_steps F c (Int32.ofNat cap) (Int32.ofNat lab) (Int32.ofNat ack) (Int32.ofNat cop) ch me ra size known x311 x312 A30 A33 A35 A37 A38 A57 A59 A61 A63 A65 = some (out, c, me', ra', size', known', y311, y312, B30, B33, B35, B37, B38, B57, B59, B61, B63, B65) ∧ fX12_steps F (Int32.ofNat cap) (Int32.ofNat lab) (Int32.ofNat ack) (Int32.ofNat cop) m x18 x19 x20 x21 x22 x27 x35 A76 A77 A78 A79 A80 A81 A82 A83 A84 A85 A86 A97 = some (out, 0, r) ∧ SVk F cap lab ack cop c me' ra' size' known' B30 B35 B38 A44 B57 B59 := by
  obtain ⟨me', ra', size', known', y311, y312, B30, B33, B35, B37, B38, e1, hK⟩ := covers_eq hs hV hc hF x311 x312 A33 A37
  unfold fX11_steps fX12_steps
  rw [e1]
  simp only [Option.bind_some]
  rcases reaches_eq hs.1.2 (by have := hs.2.1.1; omega) hs.2.1.2 hs.2.2.1.2 hs.2.2.2.2 (F := F) (by omega) hc hS x19 x20 x21 x22 x27 x35 A76 A77 A78 A79 A80 A81 A82 A83 A84 A85 A86 with ⟨K', M', E', Fs', z19, z20, z21, B76, B77, B78, B79, B80, B81, B82, B83, B84, B85, B86, r1, r2, r3, r4, r5, r6⟩ | ⟨r1, r, r2⟩
  · rw [r2]
    simp only [Option.bind_some]
    rw [if_neg (show ¬ (1 : Int32) = 0 by decide)]
    rcases hK.2 with ⟨k1, k2⟩ | ⟨k1, K, E, Fs, k2, k3, k4, k5, k6, k7, k8⟩
    · rw [k2] at r1; exact absurd r1 (by simp)
    · rw [k2] at r1
      obtain ⟨rfl, hr⟩ := Prod.mk.inj (Option.some.inj r1)
      obtain ⟨rfl, rfl⟩ := Prod.mk.inj hr
      obtain ⟨hgk, hK1, _⟩ := graph_of hs hc k2
      obtain ⟨hg, _⟩ := gk_gr hgk hK1
      obtain ⟨ra2, C57, C59, C61, C63, C65, q1, q2, q3⟩ := range_eq hs hc hF (me := me') k2 k5 k6 k8 A61 A63 A65
      obtain ⟨BF, f, g1, g2, g3, g4⟩ := laysFar_eq hg (mgr_of hgk hK1 r5 r6) (w := fun e => goodO (otOf E e)) (fl := 0) (fun e he => wanted_good ⟨otOf E e, ot_lt hgk hK1 he⟩) A97 hF
      rw [if_neg (by rw [k1]; decide), ← r3.1, g1]
      unfold fX9_actsToGood
      rw [k3, q1]
      simp only [Option.bind_some]
      obtain ⟨fb, fg, d1, d2, d3⟩ := id q3
      have h0 := d3 0 hK1
      have hf0 : f 0 = fg 0 := dist_unique hg g2 d2 hK1
      have ha : cAt 6000 C59 0 = Int32.ofNat (fg 0) := h0.2.1
      have hb : BF (0 : Int32).toNatClampNeg = enc (fg 0) := by rw [n0, g3 0 hK1, hf0]
      rw [ha, hb]
      have hz := enc_zero (k := fg 0) (by have := h0.2.2.2; omega)
      by_cases hz0 : Int32.ofNat (fg 0) = 0
      · rw [if_pos hz0] at hz ⊢
        exact ⟨_, _, _, _, _, _, _, _, _, _, _, _, _, _, _, _, _, _, rfl, by rw [hz], hc, Or.inr ⟨k1, K, E, Fs, k2, rfl, k4, k5, k6, k7, fun _ => q3⟩⟩
      · rw [if_neg hz0] at hz ⊢
        exact ⟨_, _, _, _, _, _, _, _, _, _, _, _, _, _, _, _, _, _, rfl, by rw [hz], hc, Or.inr ⟨k1, K, E, Fs, k2, rfl, k4, k5, k6, k7, fun _ => q3⟩⟩
  · rw [r2]
    simp only [Option.bind_some, ↓reduceIte]
    rcases hK.2 with ⟨k1, k2⟩ | ⟨k1, K, E, Fs, k2, k3⟩
    · rw [if_pos k1]
      exact ⟨_, _, _, _, _, _, _, _, _, _, _, _, _, _, _, _, _, _, rfl, rfl, hK⟩
    · rw [k2] at r1; exact absurd r1 (by simp)
theorem barren_call (hs : Stt cap lab ack cop) (hc : Good cap c) (hS : Sx c m) (hF : 70000 ≤ F) {ch : Int64} {me ra size known : Int32} {A30 A35 : Nat → Int32} {A38 : Nat → Int64} {A44 A57 A59 : Nat → Int32} (hV : SV F cap lab ack cop ch me ra size known A30 A35 A38 A44 A57 A59) (x311 x312 : Int32) (A33 A37 A61 A63 A65 : Nat → Int32) (x18 : Int32) (x19 : Int64) (x20 x21 x22 x27 x35 : Int32) (A76 A77 A78 : Nat → Int32) (A79 : Nat → Int64) (A80 A81 A82 A83 A84 A85 A86 A97 : Nat → Int32) :
    ∃ out me' ra' size' known' y311 y312 B30 B33 B35 B37 B38 B57 B59 B61 B63 B65 r, fX11_barren F c (Int32.ofNat cap) (Int32.ofNat lab) (Int32.ofNat ack) (Int32.ofNat cop) ch me ra size known x311 x312 A30 A33 A35 A37 A38 A57 A59 A61 A63 A65 = some (out, c, me', ra', size', known', y311, y312, B30, B33, B35, B37, B38, B57, B59, B61, B63, B65) ∧ fX12_barren F (Int32.ofNat cap) (Int32.ofNat lab) (Int32.ofNat ack) (Int32.ofNat cop) m x18 x19 x20 x21 x22 x27 x35 A76 A77 A78 A79 A80 A81 A82 A83 A84 A85 A86 A97 = some (out, 0, r) ∧ SVk F cap lab ack cop c me' ra' size' known' B30 B35 B38 A44 B57 B59 := by
  obtain ⟨me', ra', size', known', y311, y312, B30, B33, B35, B37, B38, e1, hK⟩ := covers_eq hs hV hc hF x311 x312 A33 A37
  unfold fX11_barren fX12_barren
  rw [e1]
  simp only [Option.bind_some]
  rcases reaches_eq hs.1.2 (by have := hs.2.1.1; omega) hs.2.1.2 hs.2.2.1.2 hs.2.2.2.2 (F := F) (by omega) hc hS x19 x20 x21 x22 x27 x35 A76 A77 A78 A79 A80 A81 A82 A83 A84 A85 A86 with ⟨K', M', E', Fs', z19, z20, z21, B76, B77, B78, B79, B80, B81, B82, B83, B84, B85, B86, r1, r2, r3, r4, r5, r6⟩ | ⟨r1, r, r2⟩
  · rw [r2]
    simp only [Option.bind_some]
    rw [if_neg (show ¬ (1 : Int32) = 0 by decide)]
    rcases hK.2 with ⟨k1, k2⟩ | ⟨k1, K, E, Fs, k2, k3, k4, k5, k6, k7, k8⟩
    · rw [k2] at r1; exact absurd r1 (by simp)
    · rw [k2] at r1
      obtain ⟨rfl, hr⟩ := Prod.mk.inj (Option.some.inj r1)
      obtain ⟨rfl, rfl⟩ := Prod.mk.inj hr
      obtain ⟨hgk, hK1, _⟩ := graph_of hs hc k2
      obtain ⟨hg, _⟩ := gk_gr hgk hK1
      have hn6 := hg.2.1
      obtain ⟨ra2, C57, C59, C61, C63, C65, q1, q2, q3⟩ := range_eq hs hc hF (me := me') k2 k5 k6 k8 A61 A63 A65
      obtain ⟨BF, f, g1, g2, g3, g4⟩ := laysFar_eq hg (mgr_of hgk hK1 r5 r6) (w := fun e => goodO (otOf E e)) (fl := 0) (fun e he => wanted_good ⟨otOf E e, ot_lt hgk hK1 he⟩) A97 hF
      rw [if_neg (by rw [k1]; decide), ← r3.1, g1]
      unfold fX9_withoutGood
      rw [k3, q1]
      simp only [Option.bind_some]
      obtain ⟨fb, fg, d1, d2, d3⟩ := id q3
      have hcl := gl_for (st := fun u2 : (Int32 × Int32) => fX9_withoutGood_S8 F (Int32.ofNat K.length) B30 B35 ra2 C57 C59 C61 C63 C65 u2.1 u2.2) (out := Int32.ofNat (sumTo (fun s => if fg s = 0 then 1 else 0) K.length)) K.length (fun i => (Int32.ofNat (sumTo (fun s => if fg s = 0 then 1 else 0) i), Int32.ofNat i)) (fun i hi => by
        show fX9_withoutGood_S8 F _ _ _ _ _ _ _ _ _ (Int32.ofNat (sumTo (fun s => if fg s = 0 then 1 else 0) i)) (Int32.ofNat i) = _
        unfold fX9_withoutGood_S8 fX9_withoutGood_J39
        have hfi := (d3 i hi).2.2.2
        rw [if_neg (fun z => by have := (i32_le (by omega) (by omega)).mp z; omega), (d3 i hi).2.1, i32_succ]
        by_cases h0 : fg i = 0
        · rw [if_pos (show Int32.ofNat (fg i) = 0 by rw [h0]; rfl), i32_succ]
          simp only [sumTo, if_pos h0]
        · rw [if_neg (show ¬ Int32.ofNat (fg i) = 0 from fun z => h0 ((i32_eq (b := 0) (by omega) (by decide)).mp z)), Int32.add_zero, i32_succ]
          simp only [sumTo, if_neg h0, Nat.add_zero]) (by
        show fX9_withoutGood_S8 F _ _ _ _ _ _ _ _ _ _ (Int32.ofNat K.length) = _
        unfold fX9_withoutGood_S8
        rw [if_pos ((i32_le (by omega) (by omega)).mpr (Nat.le_refl _))]) (F := F) (by omega)
      rw [show (Int32.ofNat (sumTo (fun s => if fg s = 0 then 1 else 0) 0), Int32.ofNat 0) = ((0 : Int32), (0 : Int32)) from rfl] at hcl
      rw [hcl]
      have hml := gl_for (st := fun u5 : (Int32 × Int32) => fX12_barren_S32 F (Int32.ofNat cap) (Int32.ofNat lab) (Int32.ofNat ack) (Int32.ofNat cop) m 0 z19 z20 z21 (Int32.ofNat ack) (Int32.ofNat K.length) (Int32.ofNat E.length) B76 B77 B78 B79 B80 B81 B82 B83 B84 B85 B86 BF u5.1 u5.2) (out := Int32.ofNat (sumTo (fun s => if fg s = 0 then 1 else 0) K.length)) K.length (fun i => (Int32.ofNat (sumTo (fun s => if fg s = 0 then 1 else 0) i), Int32.ofNat i)) (fun i hi => by
        show fX12_barren_S32 F _ _ _ _ _ _ _ _ _ _ _ _ _ _ _ _ _ _ _ _ _ _ _ _ (Int32.ofNat (sumTo (fun s => if fg s = 0 then 1 else 0) i)) (Int32.ofNat i) = _
        unfold fX12_barren_S32 fX12_barren_J52
        have hfi := (d3 i hi).2.2.2
        have hfe : f i = fg i := dist_unique hg g2 d2 hi
        rw [if_neg (fun z => by have := (i32_le (by omega) (by omega)).mp z; omega), if_pos (inb_t (by omega) (by omega)), tnc (by omega), g3 i hi, hfe, i32_succ, i32_succ]
        by_cases h0 : fg i = 0
        · rw [if_neg (fun z => ((enc_nn (by omega)).mp z) h0)]
          simp only [sumTo, if_pos h0]
        · rw [if_pos ((enc_nn (by omega)).mpr h0)]
          simp only [sumTo, if_neg h0, Nat.add_zero]) (by
        show fX12_barren_S32 F _ _ _ _ _ _ _ _ _ _ _ _ _ _ _ _ _ _ _ _ _ _ _ _ _ (Int32.ofNat K.length) = _
        unfold fX12_barren_S32
        rw [if_pos ((i32_le (by omega) (by omega)).mpr (Nat.le_refl _))]) (F := F) (by omega)
      rw [show (Int32.ofNat (sumTo (fun s => if fg s = 0 then 1 else 0) 0), Int32.ofNat 0) = ((0 : Int32), (0 : Int32)) from rfl] at hml
      rw [hml]
      simp only [Option.bind_some]
      exact ⟨_, _, _, _, _, _, _, _, _, _, _, _, _, _, _, _, _, _, rfl, rfl, hc, Or.inr ⟨k1, K, E, Fs, k2, rfl, k4, k5, k6, k7, fun _ => q3⟩⟩
  · rw [r2]
    simp only [Option.bind_some, ↓reduceIte]
    rcases hK.2 with ⟨k1, k2⟩ | ⟨k1, K, E, Fs, k2, k3⟩
    · rw [if_pos k1]
      exact ⟨_, _, _, _, _, _, _, _, _, _, _, _, _, _, _, _, _, _, rfl, rfl, hK⟩
    · rw [k2] at r1; exact absurd r1 (by simp)
end CALLS
