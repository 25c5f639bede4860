/-! part 9y: the class's reader -/
section RDR
variable {cap lab ack cop n : Nat} {b : Nat → Nat} {F : Nat} {A : Nat → Int32}
abbrev UR := Int32 × Int32 × Int32 × Int32 × Int32 × (Nat → Int32) × (Nat → Int32) × (Nat → Int32) × (Nat → Int32)
abbrev UO := Int32 × Int32 × Int32 × Int32 × (Nat → Int32) × (Nat → Int32) × (Nat → Int32) × (Nat → Int32)
def rdS (F n lab : Nat) (A : Nat → Int32) (u6 : UR) : Option (UO ⊕ UR) := fX10_read_S32 F A (Int32.ofNat lab) (Int32.ofNat n) u6.1 u6.2.1 u6.2.2.1 u6.2.2.2.1 u6.2.2.2.2.1 u6.2.2.2.2.2.1 u6.2.2.2.2.2.2.1 u6.2.2.2.2.2.2.2.1 u6.2.2.2.2.2.2.2.2
def Reach {σ ρ : Type} (st : σ → Option (ρ ⊕ σ)) (X X' : σ) (k : Nat) : Prop := ∀ G, gloop st (G + k) X = gloop st G X'
theorem Reach.rfl' {σ ρ : Type} {st : σ → Option (ρ ⊕ σ)} (X : σ) : Reach st X X 0 := fun _ => rfl
theorem reach_one {σ ρ : Type} {st : σ → Option (ρ ⊕ σ)} {X X' : σ} (h : st X = some (.inr X')) : Reach st X X' 1 := fun G => by
  show gloop st (G + 1) X = _
  simp only [gloop, h]
theorem reach_trans {σ ρ : Type} {st : σ → Option (ρ ⊕ σ)} {X Y Z : σ} {j k : Nat} (h1 : Reach st X Y j) (h2 : Reach st Y Z k) : Reach st X Z (j + k) := fun G => by
  rw [show G + (j + k) = (G + k) + j by omega, h1, h2]
theorem sk_idem (n : Nat) (b : Nat → Nat) (k : Nat) : skA n b (skA n b k) = skA n b k := ew_stop (ew_out bl_end k)
theorem sk_ge (n : Nat) (b : Nat → Nat) (k : Nat) : k ≤ skA n b k := ew_ge bl_end k
theorem sk_le {k : Nat} (h : k ≤ n) : skA n b k ≤ n := ew_le bl_end h
theorem ch_lt {k c : Nat} (h : chA n b k = c) (hc : c < 256) : k < n := by
  by_cases z : k < n
  · exact z
  · rw [chA_out (by omega)] at h; omega
/-- a turn: a step that is no again -/
theorem turn_step (hlab : 2 ≤ lab ∧ lab ≤ 4) (h : TxA n b A) (hF : 1000 ≤ F) {p i t : Nat} (hp : p < n) (hc : chA n b p ≠ 93) (hi : i < 64) (ht : t < 264) (hw6 : wOf b p (ewA n b pLe p) ≠ 6) (x7 : Int32) (A13 A15 A17 A19 : Nat → Int32) : ∃ (sz : Int32) (q : Nat) (B13 B15 B17 : Nat → Int32), rdS F n lab A (Int32.ofNat t, Int32.ofNat i, x7, Int32.ofNat p, fcI 0, A13, A15, A17, A19) = some (.inr (Int32.ofNat (t + 1), sz, x7, Int32.ofNat (skA n b q), fcI (finS n b (smA lab n b p)), B13, B15, B17, A19)) ∧ q ≤ n ∧ p ≤ q ∧ (smA lab n b p).1 < 4000 ∧ ((smA lab n b p).1 = 0 → (smA lab n b p).2.1 ≤ n ∧ p + 4 ≤ (smA lab n b p).2.1 ∧ (smA lab n b p).2.2.1 < 6 ∧ (smA lab n b p).2.2.2.1 ≤ 30 ∧ (smA lab n b p).2.2.2.2 ≤ 30 ∧ (chA n b (skA n b (smA lab n b p).2.1) = 59 → q = skA n b (smA lab n b p).2.1 + 1 ∧ sz = Int32.ofNat (i + 1) ∧ B13 = upd A13 i (Int32.ofNat (smA lab n b p).2.2.1) ∧ B15 = upd A15 i (Int32.ofNat (smA lab n b p).2.2.2.1) ∧ B17 = upd A17 i (Int32.ofNat (smA lab n b p).2.2.2.2))) := by
  have hn := h.1
  have hb : ∀ k, k < n → b k < 256 := fun k hk => (h.2 k hk).1
  have hge := ew_ge (n := n) (b := b) le_end p
  obtain ⟨sz, q, B13, B15, B17, e1, e2, e3, e4, e5⟩ := readStep_eq hlab h hF (p := p) (by omega) hi hw6 x7 A13 A15 A17 A19
  refine ⟨sz, q, B13, B15, B17, ?_, e2, by omega, e4, fun z => ?_⟩
  · unfold rdS fX10_read_S32
    dsimp only
    rw [if_neg (fun z => by have := (i32_le (a := 264) (by decide) (by omega)).mp z; omega), if_neg (fun z => by have := (i32_le (by omega) (by omega)).mp z; omega), if_pos ((fcI_eq (by decide)).mpr rfl), peek_eq h p (by omega), if_neg (show ¬ chI n b p = 93 from fun z => hc ((chI_eq hb p (c := 93) (by decide)).mp z)), e1, Option.bind_some]
    unfold fX10_read_J82
    dsimp only
    rw [skip_eq h hF e2, Option.bind_some, i32_succ]
  · obtain ⟨f1, f2, f3, f4, f5, f6⟩ := e5 z
    have hw7 : wOf b p (ewA n b pLe p) ≠ 7 := by
      intro hw
      unfold smA at z
      dsimp only at z
      rw [hw, if_neg (by decide), if_neg (by decide), if_neg (by decide), if_neg (by decide)] at z
      exact absurd z (by show ¬ 8 * p + 1 = 0; omega)
    have := wOf_pos hw7
    exact ⟨f1, by omega, f3, f4, f5, f6⟩
/-- what an again comes to up to its [ -/
def agF (n : Nat) (b : Nat → Nat) (p opn : Nat) : Nat := if opn = 4 then 8 * p + 3 else if (nmA n b 0 30 (ewA n b pLe p)).1 = 0 then (if chA n b (skA n b (nmA n b 0 30 (ewA n b pLe p)).2.2) = 91 then 0 else 8 * skA n b (nmA n b 0 30 (ewA n b pLe p)).2.2 + 1) else (nmA n b 0 30 (ewA n b pLe p)).1
theorem open_step {i opn : Nat} (hi : i < 64) (ho : opn < 4) (A13 A15 A17 A19 : Nat → Int32) (v : Int32) : fX8_open (Int32.ofNat i) (Int32.ofNat opn) A13 A15 A17 A19 v = (Int32.ofNat (i + 1), Int32.ofNat (opn + 1), upd A13 i 6, upd A15 i v, upd A17 i (Int32.ofNat i), upd A19 opn (Int32.ofNat i)) := by
  unfold fX8_open fX8_mayOpen
  rw [if_neg (show ¬ (if (4 : Int32) ≤ Int32.ofNat opn then (0 : Int32) else 1) = 0 by rw [if_neg (fun z => by have := (i32_le (a := 4) (by decide) (by omega)).mp z; omega)]; decide), add_step hi, i32_succ, cput ho (by decide)]
theorem turn_again (h : TxA n b A) (hF : 1000 ≤ F) {p i t opn : Nat} (hp : p < n) (hc : chA n b p ≠ 93) (hi : i < 64) (ht : t < 264) (ho : opn ≤ 4) (hw6 : wOf b p (ewA n b pLe p) = 6) (A13 A15 A17 A19 : Nat → Int32) : agF n b p opn < 4000 ∧ ∃ (sz dp : Int32) (q : Nat) (B13 B15 B17 B19 : Nat → Int32), rdS F n lab A (Int32.ofNat t, Int32.ofNat i, Int32.ofNat opn, Int32.ofNat p, fcI 0, A13, A15, A17, A19) = some (.inr (Int32.ofNat (t + 1), sz, dp, Int32.ofNat (skA n b q), fcI (agF n b p opn), B13, B15, B17, B19)) ∧ q ≤ n ∧ p ≤ q ∧ (agF n b p opn = 0 → opn < 4 ∧ (nmA n b 0 30 (ewA n b pLe p)).1 = 0 ∧ chA n b (skA n b (nmA n b 0 30 (ewA n b pLe p)).2.2) = 91 ∧ (nmA n b 0 30 (ewA n b pLe p)).2.1 ≤ 30 ∧ p + 7 ≤ q ∧ q = skA n b (nmA n b 0 30 (ewA n b pLe p)).2.2 + 1 ∧ sz = Int32.ofNat (i + 1) ∧ dp = Int32.ofNat (opn + 1) ∧ B13 = upd A13 i 6 ∧ B15 = upd A15 i (Int32.ofNat (nmA n b 0 30 (ewA n b pLe p)).2.1) ∧ B17 = upd A17 i (Int32.ofNat i) ∧ B19 = upd A19 opn (Int32.ofNat i)) := by
  have hn := h.1
  have hb : ∀ k, k < n → b k < 256 := fun k hk => (h.2 k hk).1
  have hge := ew_ge (n := n) (b := b) le_end p
  have hle := ew_le (n := n) (b := b) le_end (k := p) (by omega)
  have h5 : p + 5 ≤ ewA n b pLe p := by
    have h6 : wEq b 6 p (ewA n b pLe p) = true := by
      by_cases z : wEq b 6 p (ewA n b pLe p) = true
      · exact z
      · exfalso
        unfold wOf at hw6
        rw [if_neg z] at hw6
        repeat' (split at hw6)
        all_goals omega
    have := ((wEq_iff b 6 p _).mp h6).1
    have e5 : (wdL 6).length = 5 := by decide
    omega
  have hrd : fX10_readWord F (Int32.ofNat n) A (Int32.ofNat p) = some (6, Int32.ofNat (ewA n b pLe p)) := by
    rw [readWord_eq h hF (by omega), hw6]
    rfl
  have hturn : ∀ (sz dp f : Int32) (q : Nat) (B13 B15 B17 B19 : Nat → Int32), q ≤ n → fX10_readAgain F (Int32.ofNat n) A (Int32.ofNat i) (Int32.ofNat opn) (Int32.ofNat (ewA n b pLe p)) (fcI 0) A13 A15 A17 A19 (Int32.ofNat p) = some (sz, dp, Int32.ofNat q, f, B13, B15, B17, B19) → rdS F n lab A (Int32.ofNat t, Int32.ofNat i, Int32.ofNat opn, Int32.ofNat p, fcI 0, A13, A15, A17, A19) = some (.inr (Int32.ofNat (t + 1), sz, dp, Int32.ofNat (skA n b q), f, B13, B15, B17, B19)) := by
    intro sz dp f q B13 B15 B17 B19 hq e
    unfold rdS fX10_read_S32
    dsimp only
    rw [if_neg (fun z => by have := (i32_le (a := 264) (by decide) (by omega)).mp z; omega), if_neg (fun z => by have := (i32_le (by omega) (by omega)).mp z; omega), if_pos ((fcI_eq (by decide)).mpr rfl), peek_eq h p (by omega), if_neg (show ¬ chI n b p = 93 from fun z => hc ((chI_eq hb p (c := 93) (by decide)).mp z))]
    unfold fX10_readStep
    rw [hrd, Option.bind_some]
    dsimp only
    rw [if_neg (show ¬ (6 : Int32) = 0 by decide), if_neg (show ¬ (6 : Int32) = 1 by decide), if_neg (show ¬ (6 : Int32) = 2 by decide), if_neg (show ¬ (6 : Int32) = 3 by decide), if_neg (show ¬ (6 : Int32) = 4 by decide), if_neg (show ¬ (6 : Int32) = 5 by decide), if_pos rfl, e, Option.bind_some]
    dsimp only
    rw [Option.bind_some]
    unfold fX10_read_J82
    dsimp only
    rw [skip_eq h hF hq, Option.bind_some, i32_succ]
  unfold agF
  generalize hE : ewA n b pLe p = e at hge hle h5 hturn
  by_cases h4 : opn = 4
  · rw [if_pos h4]
    refine ⟨by omega, Int32.ofNat i, Int32.ofNat opn, e, A13, A15, A17, A19, hturn _ _ _ e A13 A15 A17 A19 hle ?_, hle, by omega, fun z => absurd z (by omega)⟩
    unfold fX10_readAgain fX8_mayOpen
    rw [h4, if_pos (by decide), show (3 : Int32) = Int32.ofNat 3 from rfl, blame_eq (by decide) (by omega) (by decide) (by decide)]
    rfl
  · rw [if_neg h4]
    obtain ⟨v1, q1, a1, a2, a3, a4, a5, a6, _⟩ := readNumber_eq h hF (lo := 0) (hi := 30) (k := e) (f := 0) hle (by omega) (by omega) (by decide)
    rw [if_pos rfl] at a1
    have hex := expect_eq h hF (k := q1) (c := 91) (f := (nmA n b 0 30 e).1) a2 (by decide) a5
    have hskl := sk_le (n := n) (b := b) a2
    have hskg := sk_ge n b q1
    have hra : fX10_readAgain F (Int32.ofNat n) A (Int32.ofNat i) (Int32.ofNat opn) (Int32.ofNat e) (fcI 0) A13 A15 A17 A19 (Int32.ofNat p) = ((if chA n b (skA n b q1) = 91 then some (Int32.ofNat (skA n b q1 + 1), fcI (nmA n b 0 30 e).1) else some (Int32.ofNat (skA n b q1), fcI (blm (nmA n b 0 30 e).1 (skA n b q1) 1))).bind (fun r4 => some (Int32.ofNat (i + 1), Int32.ofNat (opn + 1), r4.1, r4.2, upd A13 i 6, upd A15 i v1, upd A17 i (Int32.ofNat i), upd A19 opn (Int32.ofNat i)))) := by
      unfold fX10_readAgain
      have hmo : ¬ fX8_mayOpen (Int32.ofNat opn) = 0 := by
        unfold fX8_mayOpen
        rw [if_neg (fun z => by have := (i32_le (a := 4) (by decide) (by omega)).mp z; omega)]
        decide
      rw [if_neg hmo, show (0 : Int32) = Int32.ofNat 0 from rfl, show (30 : Int32) = Int32.ofNat 30 from rfl, a1, Option.bind_some]
      dsimp only
      rw [show (91 : Int32) = Int32.ofNat 91 from rfl, hex, open_step hi (by omega)]
    by_cases z1 : (nmA n b 0 30 e).1 = 0
    · obtain ⟨rfl, rfl, g1⟩ := a4 z1
      rw [if_pos z1]
      by_cases z2 : chA n b (skA n b (nmA n b 0 30 e).2.2) = 91
      · have hlt := ch_lt z2 (by decide)
        rw [if_pos z2] at hra ⊢
        rw [Option.bind_some, z1] at hra
        refine ⟨by omega, _, _, skA n b (nmA n b 0 30 e).2.2 + 1, _, _, _, _, hturn _ _ _ _ _ _ _ _ (by omega) hra, by omega, by omega, fun _ => ⟨by omega, z1, z2, a6, by omega, rfl, rfl, rfl, rfl, rfl, rfl, rfl⟩⟩
      · rw [if_neg z2] at hra ⊢
        rw [Option.bind_some] at hra
        have hbl : blm (nmA n b 0 30 e).1 (skA n b (nmA n b 0 30 e).2.2) 1 = 8 * skA n b (nmA n b 0 30 e).2.2 + 1 := if_pos z1
        rw [hbl] at hra
        exact ⟨by omega, _, _, skA n b (nmA n b 0 30 e).2.2, _, _, _, _, hturn _ _ _ _ _ _ _ _ hskl hra, hskl, by omega, fun z => absurd z (by omega)⟩
    · rw [if_neg z1]
      refine ⟨a5, ?_⟩
      by_cases z2 : chA n b (skA n b q1) = 91
      · have hlt := ch_lt z2 (by decide)
        rw [if_pos z2, Option.bind_some] at hra
        exact ⟨_, _, skA n b q1 + 1, _, _, _, _, hturn _ _ _ _ _ _ _ _ (by omega) hra, by omega, by omega, fun z => absurd z z1⟩
      · rw [if_neg z2, Option.bind_some] at hra
        have hbl : blm (nmA n b 0 30 e).1 (skA n b q1) 1 = (nmA n b 0 30 e).1 := if_neg z1
        rw [hbl] at hra
        exact ⟨_, _, skA n b q1, _, _, _, _, hturn _ _ _ _ _ _ _ _ hskl hra, hskl, by omega, fun z => absurd z z1⟩
/-- a turn: a ] -/
theorem turn_close (h : TxA n b A) (hF : 1000 ≤ F) {p i t opn o : Nat} (hp : p < n) (hc : chA n b p = 93) (hi : i < 64) (ht : t < 264) (ho : opn < 4) (hoi : o < 64) (A13 A15 A17 A19 : Nat → Int32) (h19 : A19 opn = Int32.ofNat o) : ∃ q, rdS F n lab A (Int32.ofNat t, Int32.ofNat i, Int32.ofNat (opn + 1), Int32.ofNat p, fcI 0, A13, A15, A17, A19) = some (.inr (Int32.ofNat (t + 1), Int32.ofNat (i + 1), Int32.ofNat opn, Int32.ofNat (skA n b q), fcI (if chA n b (skA n b (p + 1)) = 59 then 0 else 8 * skA n b (p + 1) + 1), upd A13 i 7, upd A15 i (Int32.ofNat o), upd (upd A17 o (Int32.ofNat i)) i 0, A19)) ∧ q ≤ n ∧ p < q ∧ (chA n b (skA n b (p + 1)) = 59 → q = skA n b (p + 1) + 1) := by
  have hn := h.1
  have hb : ∀ k, k < n → b k < 256 := fun k hk => (h.2 k hk).1
  have hskl := sk_le (n := n) (b := b) (k := p + 1) (by omega)
  have hskg := sk_ge n b (p + 1)
  have hmc : ¬ fX8_mayClose (Int32.ofNat (opn + 1)) = 0 := by
    unfold fX8_mayClose
    rw [if_neg (fun z => by have := (i32_le (b := 0) (by omega) (by decide)).mp z; omega)]
    decide
  have hcl : fX8_close A19 (Int32.ofNat i) (Int32.ofNat (opn + 1)) A13 A15 A17 = (Int32.ofNat (i + 1), Int32.ofNat opn, upd A13 i 7, upd A15 i (Int32.ofNat o), upd (upd A17 o (Int32.ofNat i)) i 0) := by
    unfold fX8_close
    rw [if_neg hmc, i32_pred (by omega) (by omega), show opn + 1 - 1 = opn by omega, cAt_nat (by omega) (by decide), h19, cput hoi (by decide), add_step hi]
  have hex := expect_eq h hF (k := p + 1) (c := 59) (f := 0) (by omega) (by decide) (by decide)
  have hrc : ∀ (q f : Nat), fX10_expect F (Int32.ofNat n) A (Int32.ofNat (p + 1)) (fcI 0) (Int32.ofNat 59) = some (Int32.ofNat q, fcI f) → q ≤ n → rdS F n lab A (Int32.ofNat t, Int32.ofNat i, Int32.ofNat (opn + 1), Int32.ofNat p, fcI 0, A13, A15, A17, A19) = some (.inr (Int32.ofNat (t + 1), Int32.ofNat (i + 1), Int32.ofNat opn, Int32.ofNat (skA n b q), fcI f, upd A13 i 7, upd A15 i (Int32.ofNat o), upd (upd A17 o (Int32.ofNat i)) i 0, A19)) := by
    intro q f e hq
    unfold rdS fX10_read_S32
    dsimp only
    rw [if_neg (fun z => by have := (i32_le (a := 264) (by decide) (by omega)).mp z; omega), if_neg (fun z => by have := (i32_le (by omega) (by omega)).mp z; omega), if_pos ((fcI_eq (by decide)).mpr rfl), peek_eq h p (by omega), if_pos (show chI n b p = 93 from (chI_eq hb p (c := 93) (by decide)).mpr hc)]
    unfold fX10_readClose
    rw [if_neg hmc, i32_succ p, show (59 : Int32) = Int32.ofNat 59 from rfl, e, Option.bind_some, hcl, Option.bind_some]
    unfold fX10_read_J82
    dsimp only
    rw [skip_eq h hF hq, Option.bind_some, i32_succ]
  by_cases z : chA n b (skA n b (p + 1)) = 59
  · have hlt := ch_lt z (by decide)
    rw [if_pos z] at hex ⊢
    exact ⟨skA n b (p + 1) + 1, hrc _ 0 hex (by omega), by omega, by omega, fun _ => rfl⟩
  · rw [if_neg z] at hex ⊢
    exact ⟨skA n b (p + 1), hrc _ _ hex hskl, hskl, by omega, fun y => absurd y z⟩
end RDR
