/-! part 9zb: the reference's again, one round -/
section MAGN
variable {cap lab ack cop : Nat} {F n : Nat} {b : Nat → Nat} {A : Nat → Int32}
def rcM (rec : RCT) (n cap lab ack cop : Nat) (A : Nat → Int32) (X : M21) (o : Int32) : Option M21 := rec (Int32.ofNat cap) (Int32.ofNat lab) (Int32.ofNat ack) (Int32.ofNat cop) (Int32.ofNat n) A X.1 X.2.1 X.2.2.1 X.2.2.2.1 X.2.2.2.2.1 X.2.2.2.2.2.1 X.2.2.2.2.2.2.1 X.2.2.2.2.2.2.2.1 X.2.2.2.2.2.2.2.2.1 X.2.2.2.2.2.2.2.2.2.1 X.2.2.2.2.2.2.2.2.2.2.1 X.2.2.2.2.2.2.2.2.2.2.2.1 X.2.2.2.2.2.2.2.2.2.2.2.2.1 X.2.2.2.2.2.2.2.2.2.2.2.2.2.1 X.2.2.2.2.2.2.2.2.2.2.2.2.2.2.1 X.2.2.2.2.2.2.2.2.2.2.2.2.2.2.2.1 X.2.2.2.2.2.2.2.2.2.2.2.2.2.2.2.2.1 X.2.2.2.2.2.2.2.2.2.2.2.2.2.2.2.2.2.1 X.2.2.2.2.2.2.2.2.2.2.2.2.2.2.2.2.2.2.1 X.2.2.2.2.2.2.2.2.2.2.2.2.2.2.2.2.2.2.2.1 X.2.2.2.2.2.2.2.2.2.2.2.2.2.2.2.2.2.2.2.2 o
abbrev AGR := Option (((M21) ⊕ (M21)) ⊕ (Int32 × M21))
def j92M (rec : RCT) (F n cap lab ack cop : Nat) (A : Nat → Int32) (v1 v3 v4 v5 v6 v7 s0 : Int32) (X : M21) : AGR := fX12_againTold_J92 rec F (Int32.ofNat cap) (Int32.ofNat lab) (Int32.ofNat ack) (Int32.ofNat cop) (Int32.ofNat n) A v1 v3 v4 v5 v6 v7 s0 X.1 X.2.1 X.2.2.1 X.2.2.2.1 X.2.2.2.2.1 X.2.2.2.2.2.1 X.2.2.2.2.2.2.1 X.2.2.2.2.2.2.2.1 X.2.2.2.2.2.2.2.2.1 X.2.2.2.2.2.2.2.2.2.1 X.2.2.2.2.2.2.2.2.2.2.1 X.2.2.2.2.2.2.2.2.2.2.2.1 X.2.2.2.2.2.2.2.2.2.2.2.2.1 X.2.2.2.2.2.2.2.2.2.2.2.2.2.1 X.2.2.2.2.2.2.2.2.2.2.2.2.2.2.1 X.2.2.2.2.2.2.2.2.2.2.2.2.2.2.2.1 X.2.2.2.2.2.2.2.2.2.2.2.2.2.2.2.2.1 X.2.2.2.2.2.2.2.2.2.2.2.2.2.2.2.2.2.1 X.2.2.2.2.2.2.2.2.2.2.2.2.2.2.2.2.2.2.1 X.2.2.2.2.2.2.2.2.2.2.2.2.2.2.2.2.2.2.2.1 X.2.2.2.2.2.2.2.2.2.2.2.2.2.2.2.2.2.2.2.2
def RecOk (n : Nat) (b : Nat → Nat) (A : Nat → Int32) (cap lab ack cop : Nat) (rec : RCT) (o f : Nat) : Prop :=
  (∀ (D : DS) (T : TS5) (k : Nat) (i : Int32), k ≠ 0 → k < 4000 → rcM rec n cap lab ack cop A (mkM D T (Int32.ofNat k) i) (Int32.ofNat o) = some (mkM D T (Int32.ofNat k) i)) ∧
  ∀ (i : Bool) (s : SEA) (D0 D : DS) (p j : Nat), p ≤ n → n - p < f → Sd cap i s D0 D → (i = true → (psA cap lab ack cop n b f p o j).1 = 0 ∧ s.2.2 = false) → ∃ X, rcM rec n cap lab ack cop A (mkM D (TSA n b p) 0 (bI i)) (Int32.ofNat o) = some X ∧ Res n b cap i s D0 (psA cap lab ack cop n b f p o j).1 (psA cap lab ack cop n b f p o j).2.1 (psA cap lab ack cop n b f p o j).2.2.1 X
theorem must_good (h : TxA n b A) (hF : 1000 ≤ F) {p c : Nat} {pc : Int32} (hp : p ≤ n) (hc : c = 59 ∨ c = 91 ∨ c = 93) (e : pc = Int32.ofNat c) (hch : chA n b p = c) : p < n ∧ fX12_must F (Int32.ofNat n) A (TSA n b p).1 (TSA n b p).2.1 (TSA n b p).2.2.1 (TSA n b p).2.2.2.1 (TSA n b p).2.2.2.2 0 pc = some ((TSA n b (skA n b (p + 1))).1, (TSA n b (skA n b (p + 1))).2.1, (TSA n b (skA n b (p + 1))).2.2.1, (TSA n b (skA n b (p + 1))).2.2.2.1, (TSA n b (skA n b (p + 1))).2.2.2.2, 0) := by
  subst e
  refine ⟨?_, by rw [must_m h hF hp hc, if_pos hch]⟩
  by_cases z : p < n
  · exact z
  · rw [chA_out (by omega)] at hch; omega
theorem must_miss (h : TxA n b A) (hF : 1000 ≤ F) {p c : Nat} {pc : Int32} (hp : p ≤ n) (hc : c = 59 ∨ c = 91 ∨ c = 93) (e : pc = Int32.ofNat c) (hch : ¬ chA n b p = c) : fX12_must F (Int32.ofNat n) A (TSA n b p).1 (TSA n b p).2.1 (TSA n b p).2.2.1 (TSA n b p).2.2.2.1 (TSA n b p).2.2.2.2 0 pc = some ((TSA n b p).1, (TSA n b p).2.1, (TSA n b p).2.2.1, (TSA n b p).2.2.2.1, (TSA n b p).2.2.2.2, Int32.ofNat (8 * p + 1)) := by
  subst e
  rw [must_m h hF hp hc, if_neg hch]
theorem must_tok (h : TxA n b A) (hF : 1000 ≤ F) {c : Nat} {pc : Int32} (hc : c = 59 ∨ c = 91 ∨ c = 93) (e : pc = Int32.ofNat c) {T : TS5} {f : Int32} (ht : TokOk n b T f) : ∃ (T' : TS5) (f' : Int32), fX12_must F (Int32.ofNat n) A T.1 T.2.1 T.2.2.1 T.2.2.2.1 T.2.2.2.2 f pc = some (T'.1, T'.2.1, T'.2.2.1, T'.2.2.2.1, T'.2.2.2.2, f') ∧ TokOk n b T' f' := by
  have hn := h.1
  rcases ht with ⟨rfl, p, hp, rfl⟩ | ⟨k, h0, h4, rfl⟩
  · by_cases hch : chA n b p = c
    · obtain ⟨h1, h2⟩ := must_good h hF hp hc e hch
      exact ⟨_, _, h2, Or.inl ⟨rfl, _, sk_in h1, rfl⟩⟩
    · exact ⟨TSA n b p, _, must_miss h hF hp hc e hch, Or.inr ⟨8 * p + 1, by omega, by omega, rfl⟩⟩
  · subst e
    exact ⟨T, _, must_bad F _ A h4 h0 _ _ _ _ _ _, Or.inr ⟨k, h0, h4, rfl⟩⟩
theorem bzb_bI (i : Bool) : bzb (bI i) = true := by
  cases i <;> decide
/-- where a round goes on -/
def nxM (v7 : Int32) (X : M21) : AGR := if X.2.2.2.2.2.2.2.2.2.2.2.2.2.2.2.2.1 = 0 then some (Sum.inr (v7 + 1, X)) else some (Sum.inl (Sum.inl X))
def m93K (v7 : Int32) (D' : DS) (i : Int32) (r22 : Int32 × Int32 × Int32 × Int64 × Int32 × Int32) : AGR := if D'.2.2.2.2.2.2.2.2.2.1 = 0 then some (Sum.inr (v7 + 1, D'.1, D'.2.1, D'.2.2.1, D'.2.2.2.1, D'.2.2.2.2.1, D'.2.2.2.2.2.1, D'.2.2.2.2.2.2.1, D'.2.2.2.2.2.2.2.1, r22.1, r22.2.1, r22.2.2.1, r22.2.2.2.1, r22.2.2.2.2.1, r22.2.2.2.2.2, i, D'.2.2.2.2.2.2.2.2.1, D'.2.2.2.2.2.2.2.2.2.1, D'.2.2.2.2.2.2.2.2.2.2.1, D'.2.2.2.2.2.2.2.2.2.2.2.1, D'.2.2.2.2.2.2.2.2.2.2.2.2.1, D'.2.2.2.2.2.2.2.2.2.2.2.2.2)) else some (Sum.inl (Sum.inl (D'.1, D'.2.1, D'.2.2.1, D'.2.2.2.1, D'.2.2.2.2.1, D'.2.2.2.2.2.1, D'.2.2.2.2.2.2.1, D'.2.2.2.2.2.2.2.1, r22.1, r22.2.1, r22.2.2.1, r22.2.2.2.1, r22.2.2.2.2.1, r22.2.2.2.2.2, i, D'.2.2.2.2.2.2.2.2.1, D'.2.2.2.2.2.2.2.2.2.1, D'.2.2.2.2.2.2.2.2.2.2.1, D'.2.2.2.2.2.2.2.2.2.2.2.1, D'.2.2.2.2.2.2.2.2.2.2.2.2.1, D'.2.2.2.2.2.2.2.2.2.2.2.2.2)))
theorem ag_round (h : TxA n b A) (hF : 1000 ≤ F) {rec : RCT} {o f : Nat} (hrec : RecOk n b A cap lab ack cop rec o f) {q j : Nat} (hq : q ≤ n) (c91 : chA n b (skA n b q) = 91) {i : Bool} {s : SEA} {D0 D : DS} (hR : Sd cap i s D0 D) (hf : n - skA n b (skA n b q + 1) < f) (hi : i = true → (psA cap lab ack cop n b f (skA n b (skA n b q + 1)) o j).1 = 0 ∧ chA n b (psA cap lab ack cop n b f (skA n b (skA n b q + 1)) o j).2.1 = 93 ∧ s.2.2 = false) (v3 v5 v6 v7 isd : Int32) (T : TS5) : ∃ X, j92M rec F n cap lab ack cop A (Int32.ofNat o) v3 (Int32.ofNat (skA n b q)) v5 v6 v7 (bI i) (mkM D T 0 isd) = nxM v7 X ∧ Res n b cap i s D0 (if (psA cap lab ack cop n b f (skA n b (skA n b q + 1)) o j).1 = 0 then (if chA n b (psA cap lab ack cop n b f (skA n b (skA n b q + 1)) o j).2.1 = 93 then 0 else 8 * (psA cap lab ack cop n b f (skA n b (skA n b q + 1)) o j).2.1 + 1) else (psA cap lab ack cop n b f (skA n b (skA n b q + 1)) o j).1) (skA n b ((psA cap lab ack cop n b f (skA n b (skA n b q + 1)) o j).2.1 + 1)) (psA cap lab ack cop n b f (skA n b (skA n b q + 1)) o j).2.2.1 X := by
  have hn := h.1
  have hsq := sk_in (b := b) hq
  obtain ⟨g1, g2⟩ := must_good h hF (pc := 91) hsq (Or.inr (Or.inl rfl)) rfl c91
  have hp2 := sk_in (b := b) (show skA n b q + 1 ≤ n from g1)
  obtain ⟨X, x1, D', T', f', x2, x3, x4, x5, x6, x7⟩ := hrec.2 i s D0 D (skA n b (skA n b q + 1)) j hp2 hf hR (fun z => ⟨(hi z).1, (hi z).2.2⟩)
  subst x2
  unfold rcM mkM at x1
  dsimp only at x1
  unfold j92M mkM fX12_againTold_J92
  dsimp only
  rw [if_pos (bzb_bI i), next_m h hF hsq, Option.bind_some, sk_idem n b, g2, Option.bind_some]
  dsimp only
  rw [x1, Option.bind_some]
  dsimp only
  have fin : ∀ (T2 : TS5) (f2 : Int32), fX12_must F (Int32.ofNat n) A T'.1 T'.2.1 T'.2.2.1 T'.2.2.2.1 T'.2.2.2.2 f' 93 = some (T2.1, T2.2.1, T2.2.2.1, T2.2.2.2.1, T2.2.2.2.2, f2) → ((fX12_must F (Int32.ofNat n) A T'.1 T'.2.1 T'.2.2.1 T'.2.2.2.1 T'.2.2.2.2 f' 93).bind (m93K v7 D' (bI i)) = nxM v7 (mkM D' T2 f2 (bI i))) := by
    intro T2 f2 e2
    rw [e2, Option.bind_some]
    rfl
  generalize psA cap lab ack cop n b f (skA n b (skA n b q + 1)) o j = r at x3 x5 x6 x7 hi
  by_cases r0 : r.1 = 0
  · rw [if_pos r0]
    by_cases hst : i = true → (r.2.2.1 s).2.2 = false
    · obtain ⟨y1, y2, y3⟩ := x7 r0 hst
      subst y1 y3
      by_cases h93 : chA n b r.2.1 = 93
      · obtain ⟨m1, m2⟩ := must_good h hF (pc := 93) y2 (Or.inr (Or.inr rfl)) rfl h93
        rw [if_pos h93]
        exact ⟨_, fin _ _ m2, res_good x3 (sk_in m1)⟩
      · rw [if_neg h93]
        have hni : ¬ i = true := fun z => h93 (hi z).2.1
        exact ⟨_, fin (TSA n b r.2.1) _ (must_miss h hF (pc := 93) y2 (Or.inr (Or.inr rfl)) rfl h93), res_bad (sd_false x3 hni) hni (Nat.succ_ne_zero _) (by omega) _ _ _⟩
    · have hit : i = true := by
        by_cases z : i = true
        · exact z
        · exact absurd (fun y => absurd y z) hst
      obtain ⟨T2, f2, m1, m2⟩ := must_tok h hF (pc := 93) (c := 93) (Or.inr (Or.inr rfl)) rfl x4
      rw [if_pos (hi hit).2.1]
      exact ⟨_, fin T2 f2 m1, D', T2, f2, rfl, x3, m2, by decide, fun z => absurd rfl z, fun _ z => absurd z hst⟩
  · rw [if_neg r0]
    have hni : ¬ i = true := fun z => r0 (hi z).1
    have hf' := x6 r0
    subst hf'
    exact ⟨_, fin T' _ (must_bad F _ A x5 r0 _ _ _ _ _ _), res_bad (sd_false x3 hni) hni r0 x5 _ _ _⟩
/-- no [ -/
theorem ag_none (h : TxA n b A) (hF : 1000 ≤ F) {rec : RCT} {o f : Nat} (hrec : RecOk n b A cap lab ack cop rec o f) {q : Nat} (hq : q ≤ n) (c91 : ¬ chA n b (skA n b q) = 91) (D : DS) (v3 v5 v6 v7 isd : Int32) (T : TS5) : j92M rec F n cap lab ack cop A (Int32.ofNat o) v3 (Int32.ofNat (skA n b q)) v5 v6 v7 (bI false) (mkM D T 0 isd) = nxM v7 (mkM D (TSA n b (skA n b q)) (Int32.ofNat (8 * skA n b q + 1)) (bI false)) := by
  have hn := h.1
  have hsq := sk_in (b := b) hq
  have g2 := must_miss h hF (pc := 91) hsq (Or.inr (Or.inl rfl)) rfl c91
  have x1 := hrec.1 D (TSA n b (skA n b q)) (8 * skA n b q + 1) (bI false) (Nat.succ_ne_zero _) (by omega)
  unfold rcM mkM at x1
  dsimp only at x1
  unfold j92M mkM fX12_againTold_J92
  dsimp only
  rw [if_pos (bzb_bI false), next_m h hF hsq, Option.bind_some, sk_idem n b, g2, Option.bind_some]
  dsimp only
  rw [x1, Option.bind_some]
  dsimp only
  rw [must_bad F _ A (show 8 * skA n b q + 1 < 4000 by omega) (Nat.succ_ne_zero _), Option.bind_some]
  rfl
end MAGN
