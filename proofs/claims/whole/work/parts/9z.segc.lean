/-! part 9z: the class's reader over a whole text -/
section SEGC
variable {cap lab ack cop n : Nat} {b : Nat → Nat} {F : Nat} {A : Nat → Int32}
def CodeAt (L : List STP3) (i : Nat) (B13 B15 B17 : Nat → Int32) : Prop := ∀ (j : Nat) (x : STP3), L[j]? = some x → B13 (i + j) = Int32.ofNat x.1 ∧ B15 (i + j) = Int32.ofNat x.2.1 ∧ B17 (i + j) = Int32.ofNat x.2.2
def SameTo (i : Nat) (A13 A15 A17 B13 B15 B17 : Nat → Int32) : Prop := ∀ j, j < i → B13 j = A13 j ∧ B15 j = A15 j ∧ B17 j = A17 j
theorem code_append {L1 L2 : List STP3} {i : Nat} {B13 B15 B17 C13 C15 C17 : Nat → Int32} (h1 : CodeAt L1 i B13 B15 B17) (hs : SameTo (i + L1.length) B13 B15 B17 C13 C15 C17) (h2 : CodeAt L2 (i + L1.length) C13 C15 C17) : CodeAt (L1 ++ L2) i C13 C15 C17 := by
  intro j x hx
  rw [List.getElem?_append] at hx
  by_cases hj : j < L1.length
  · rw [if_pos hj] at hx
    obtain ⟨a1, a2, a3⟩ := h1 j x hx
    obtain ⟨c1, c2, c3⟩ := hs (i + j) (by omega)
    exact ⟨c1.trans a1, c2.trans a2, c3.trans a3⟩
  · rw [if_neg hj] at hx
    have := h2 _ x hx
    rw [show i + L1.length + (j - L1.length) = i + j by omega] at this
    exact this
theorem same_trans {i j : Nat} {A13 A15 A17 B13 B15 B17 C13 C15 C17 : Nat → Int32} (h1 : SameTo i A13 A15 A17 B13 B15 B17) (h2 : SameTo j B13 B15 B17 C13 C15 C17) (hij : i ≤ j) : SameTo i A13 A15 A17 C13 C15 C17 := fun k hk => by
  obtain ⟨a1, a2, a3⟩ := h1 k hk
  obtain ⟨c1, c2, c3⟩ := h2 k (by omega)
  exact ⟨c1.trans a1, c2.trans a2, c3.trans a3⟩
theorem upd_same (i : Nat) (A13 A15 A17 : Nat → Int32) (x y z : Int32) : SameTo i A13 A15 A17 (upd A13 i x) (upd A15 i y) (upd A17 i z) := fun j hj => ⟨upd_ne (by omega), upd_ne (by omega), upd_ne (by omega)⟩
theorem code_one (i w a c : Nat) (A13 A15 A17 : Nat → Int32) : CodeAt [(w, a, c)] i (upd A13 i (Int32.ofNat w)) (upd A15 i (Int32.ofNat a)) (upd A17 i (Int32.ofNat c)) := by
  intro j x hx
  cases j with
  | zero =>
    obtain rfl := Option.some.inj hx
    exact ⟨upd_at _ _ _, upd_at _ _ _, upd_at _ _ _⟩
  | succ j => simp at hx
/-- the reader's end at a fault -/
def BadEnd (n : Nat) (X : UR) (f : Nat) : Prop := X.2.2.2.2.1 = fcI f ∨ (X.2.2.2.2.1 = fcI 0 ∧ (∃ d : Nat, d < 5 ∧ X.2.2.1 = Int32.ofNat (d + 1)) ∧ X.2.2.2.1 = Int32.ofNat n ∧ f = 8 * n + 1)
theorem ps_zero (f p opn i : Nat) (hc : chA n b p = 256 ∨ chA n b p = 93) : psA cap lab ack cop n b (f + 1) p opn i = (0, p, id, []) := by
  show (if chA n b p = 256 ∨ chA n b p = 93 then _ else _) = _
  rw [if_pos hc]
theorem ps_step (f p opn i : Nat) (hc : ¬ (chA n b p = 256 ∨ chA n b p = 93)) : psA cap lab ack cop n b (f + 1) p opn i = (if (stA cap lab ack cop n b (psA cap lab ack cop n b f) p opn i).1 = 0 then
      (if chA n b (skA n b (stA cap lab ack cop n b (psA cap lab ack cop n b f) p opn i).2.1) = 59 then
        (if (psA cap lab ack cop n b f (skA n b (skA n b (stA cap lab ack cop n b (psA cap lab ack cop n b f) p opn i).2.1 + 1)) opn (i + (stA cap lab ack cop n b (psA cap lab ack cop n b f) p opn i).2.2.2.length)).1 = 0 then (0, (psA cap lab ack cop n b f (skA n b (skA n b (stA cap lab ack cop n b (psA cap lab ack cop n b f) p opn i).2.1 + 1)) opn (i + (stA cap lab ack cop n b (psA cap lab ack cop n b f) p opn i).2.2.2.length)).2.1, fun z => (psA cap lab ack cop n b f (skA n b (skA n b (stA cap lab ack cop n b (psA cap lab ack cop n b f) p opn i).2.1 + 1)) opn (i + (stA cap lab ack cop n b (psA cap lab ack cop n b f) p opn i).2.2.2.length)).2.2.1 ((stA cap lab ack cop n b (psA cap lab ack cop n b f) p opn i).2.2.1 z), (stA cap lab ack cop n b (psA cap lab ack cop n b f) p opn i).2.2.2 ++ (psA cap lab ack cop n b f (skA n b (skA n b (stA cap lab ack cop n b (psA cap lab ack cop n b f) p opn i).2.1 + 1)) opn (i + (stA cap lab ack cop n b (psA cap lab ack cop n b f) p opn i).2.2.2.length)).2.2.2) else ((psA cap lab ack cop n b f (skA n b (skA n b (stA cap lab ack cop n b (psA cap lab ack cop n b f) p opn i).2.1 + 1)) opn (i + (stA cap lab ack cop n b (psA cap lab ack cop n b f) p opn i).2.2.2.length)).1, 0, id, []))
       else (8 * skA n b (stA cap lab ack cop n b (psA cap lab ack cop n b f) p opn i).2.1 + 1, 0, id, []))
    else ((stA cap lab ack cop n b (psA cap lab ack cop n b f) p opn i).1, 0, id, [])) := by
  show (if chA n b p = 256 ∨ chA n b p = 93 then _ else _) = _
  rw [if_neg hc]
/-- what a step or a whole again does with the reader, up to its ; -/
def StR (n : Nat) (b : Nat → Nat) (F lab : Nat) (A : Nat → Int32) (s : RA4) (p opn i t : Nat) (A13 A15 A17 A19 : Nat → Int32) : Prop :=
  (s.1 = 0 ∧ chA n b (skA n b s.2.1) = 59 → ∃ (k t' : Nat) (B13 B15 B17 B19 : Nat → Int32), Reach (rdS F n lab A) (Int32.ofNat t, Int32.ofNat i, Int32.ofNat opn, Int32.ofNat p, fcI 0, A13, A15, A17, A19) (Int32.ofNat t', Int32.ofNat (i + s.2.2.2.length), Int32.ofNat opn, Int32.ofNat (skA n b (skA n b s.2.1 + 1)), fcI 0, B13, B15, B17, B19) k ∧ t' ≤ skA n b s.2.1 + 1 ∧ k + p ≤ skA n b s.2.1 + 1 ∧ p < skA n b s.2.1 + 1 ∧ skA n b s.2.1 < n ∧ 9 * (i + s.2.2.2.length) + 5 * opn ≤ 2 * (skA n b s.2.1 + 1) ∧ SameTo i A13 A15 A17 B13 B15 B17 ∧ CodeAt s.2.2.2 i B13 B15 B17 ∧ ∀ j, j < opn → B19 j = A19 j) ∧
  (∀ f : Nat, f ≠ 0 → ((s.1 = 0 ∧ chA n b (skA n b s.2.1) ≠ 59 ∧ f = 8 * skA n b s.2.1 + 1) ∨ s.1 = f) → f < 4000 ∧ ∃ (k : Nat) (X : UR), Reach (rdS F n lab A) (Int32.ofNat t, Int32.ofNat i, Int32.ofNat opn, Int32.ofNat p, fcI 0, A13, A15, A17, A19) X k ∧ k + p ≤ n + 1 ∧ BadEnd n X f)
theorem simple_r (hlab : 2 ≤ lab ∧ lab ≤ 4) (h : TxA n b A) (hF : 1000 ≤ F) {p opn i t : Nat} (hp : p < n) (hc : chA n b p ≠ 93) (hio : 9 * i + 5 * opn ≤ 2 * p) (ht : t ≤ p) (hw6 : wOf b p (ewA n b pLe p) ≠ 6) (A13 A15 A17 A19 : Nat → Int32) : StR n b F lab A ((smA lab n b p).1, (smA lab n b p).2.1, exE cap lab ack cop (smA lab n b p).2.2, [(smA lab n b p).2.2]) p opn i t A13 A15 A17 A19 := by
  have hn := h.1
  obtain ⟨sz, q, B13, B15, B17, e1, e2, e3, e4, e5⟩ := turn_step hlab h hF hp hc (i := i) (t := t) (by omega) (by omega) hw6 (Int32.ofNat opn) A13 A15 A17 A19
  constructor
  · rintro ⟨z1, z2⟩
    dsimp only at z1 z2 ⊢
    obtain ⟨f1, f2, f3, f4, f5, f6⟩ := e5 z1
    obtain ⟨rfl, rfl, rfl, rfl, rfl⟩ := f6 z2
    have hfin : finS n b (smA lab n b p) = 0 := by unfold finS; rw [if_pos z1, if_pos z2]
    rw [hfin] at e1
    have hg := sk_ge n b (smA lab n b p).2.1
    have hl := ch_lt z2 (by decide)
    refine ⟨1, t + 1, _, _, _, A19, reach_one e1, by omega, by omega, by omega, hl, ?_, upd_same i A13 A15 A17 _ _ _, code_one i _ _ _ A13 A15 A17, fun j _ => rfl⟩
    show 9 * (i + 1) + 5 * opn ≤ _
    omega
  · intro f hf0 hf
    dsimp only at hf
    have hfin : finS n b (smA lab n b p) = f := by
      unfold finS
      rcases hf with ⟨z1, z2, z3⟩ | z1
      · rw [if_pos z1, if_neg z2, z3]
      · rw [if_neg (by omega), z1]
    have hf4 : f < 4000 := by
      rcases hf with ⟨z1, z2, z3⟩ | z1
      · have := sk_le (n := n) (b := b) (e5 z1).1
        omega
      · omega
    rw [hfin] at e1
    exact ⟨hf4, 1, _, reach_one e1, by omega, Or.inl rfl⟩
theorem again_r (h : TxA n b A) (hF : 1000 ≤ F) {rc : Nat → Nat → Nat → RA4} {p opn i t : Nat} (hp : p < n) (hc : chA n b p ≠ 93) (ho : opn ≤ 4) (hio : 9 * i + 5 * opn ≤ 2 * p) (ht : t ≤ p) (hw6 : wOf b p (ewA n b pLe p) = 6) (A13 A15 A17 A19 : Nat → Int32)
    (hrc : ∀ (p' t' : Nat) (C13 C15 C17 C19 : Nat → Int32), p < p' → p' ≤ n → skA n b p' = p' → opn + 1 ≤ 4 → 9 * (i + 1) + 5 * (opn + 1) ≤ 2 * p' → t' ≤ p' →
      ((rc p' (opn + 1) (i + 1)).1 = 0 → ∃ (k t'' : Nat) (B13 B15 B17 B19 : Nat → Int32), Reach (rdS F n lab A) (Int32.ofNat t', Int32.ofNat (i + 1), Int32.ofNat (opn + 1), Int32.ofNat p', fcI 0, C13, C15, C17, C19) (Int32.ofNat t'', Int32.ofNat (i + 1 + (rc p' (opn + 1) (i + 1)).2.2.2.length), Int32.ofNat (opn + 1), Int32.ofNat (rc p' (opn + 1) (i + 1)).2.1, fcI 0, B13, B15, B17, B19) k ∧ t'' ≤ (rc p' (opn + 1) (i + 1)).2.1 ∧ k + p' ≤ (rc p' (opn + 1) (i + 1)).2.1 ∧ (rc p' (opn + 1) (i + 1)).2.1 ≤ n ∧ (chA n b (rc p' (opn + 1) (i + 1)).2.1 = 256 ∨ chA n b (rc p' (opn + 1) (i + 1)).2.1 = 93) ∧ 9 * (i + 1 + (rc p' (opn + 1) (i + 1)).2.2.2.length) + 5 * (opn + 1) ≤ 2 * (rc p' (opn + 1) (i + 1)).2.1 ∧ SameTo (i + 1) C13 C15 C17 B13 B15 B17 ∧ CodeAt (rc p' (opn + 1) (i + 1)).2.2.2 (i + 1) B13 B15 B17 ∧ ∀ j, j < opn + 1 → B19 j = C19 j) ∧
      ((rc p' (opn + 1) (i + 1)).1 ≠ 0 → (rc p' (opn + 1) (i + 1)).1 < 4000 ∧ ∃ (k : Nat) (X : UR), Reach (rdS F n lab A) (Int32.ofNat t', Int32.ofNat (i + 1), Int32.ofNat (opn + 1), Int32.ofNat p', fcI 0, C13, C15, C17, C19) X k ∧ k + p' ≤ n + 1 ∧ BadEnd n X (rc p' (opn + 1) (i + 1)).1)) :
    StR n b F lab A (agA n b rc p opn i) p opn i t A13 A15 A17 A19 := by
  have hn := h.1
  obtain ⟨g0, sz, dp, q, B13, B15, B17, B19, e1, e2, e3, e4⟩ := turn_again (lab := lab) h hF hp hc (i := i) (t := t) (by omega) (by omega) ho hw6 A13 A15 A17 A19
  by_cases hag : agF n b p opn = 0
  · obtain ⟨f1, f2, f3, f4, f5, f6, rfl, rfl, rfl, rfl, rfl, rfl⟩ := e4 hag
    rw [hag] at e1
    have hex : agA n b rc p opn i = (if (rc (skA n b q) (opn + 1) (i + 1)).1 = 0 then (if chA n b (rc (skA n b q) (opn + 1) (i + 1)).2.1 = 93 then (0, (rc (skA n b q) (opn + 1) (i + 1)).2.1 + 1, itE (rc (skA n b q) (opn + 1) (i + 1)).2.2.1 (nmA n b 0 30 (ewA n b pLe p)).2.1, (6, (nmA n b 0 30 (ewA n b pLe p)).2.1, i + 1 + (rc (skA n b q) (opn + 1) (i + 1)).2.2.2.length) :: ((rc (skA n b q) (opn + 1) (i + 1)).2.2.2 ++ [(7, i, 0)])) else (8 * (rc (skA n b q) (opn + 1) (i + 1)).2.1 + 1, 0, id, [])) else ((rc (skA n b q) (opn + 1) (i + 1)).1, 0, id, [])) := by
      unfold agA
      rw [if_neg (by omega), if_pos f2, if_pos f3, ← f6]
    have hsg := sk_ge n b q
    have hsl := sk_le (n := n) (b := b) e2
    obtain ⟨r1, r2⟩ := hrc (skA n b q) (t + 1) (upd A13 i 6) (upd A15 i (Int32.ofNat (nmA n b 0 30 (ewA n b pLe p)).2.1)) (upd A17 i (Int32.ofNat i)) (upd A19 opn (Int32.ofNat i)) (by omega) hsl (sk_idem n b q) (by omega) (by omega) (by omega)
    rw [hex]
    generalize hr : rc (skA n b q) (opn + 1) (i + 1) = r at r1 r2
    by_cases z0 : r.1 = 0
    · obtain ⟨k, t'', C13, C15, C17, C19, m1, m2, m3, m4, m5, m6, m7, m8, m9⟩ := r1 z0
      rw [if_pos z0]
      by_cases z93 : chA n b r.2.1 = 93
      · have hlt := ch_lt z93 (by decide)
        rw [if_pos z93]
        have hc19 : C19 opn = Int32.ofNat i := by rw [m9 opn (by omega), upd_at]
        obtain ⟨q2, s1, s2, s3, s4⟩ := turn_close (lab := lab) h hF hlt z93 (i := i + 1 + r.2.2.2.length) (t := t'') (by omega) (by omega) (opn := opn) (by omega) (o := i) (by omega) C13 C15 C17 C19 hc19
        have hlen : ((6, (nmA n b 0 30 (ewA n b pLe p)).2.1, i + 1 + r.2.2.2.length) :: (r.2.2.2 ++ [(7, i, 0)]) : List STP3).length = 1 + r.2.2.2.length + 1 := by
          rw [List.length_cons, List.length_append, List.length_singleton]; omega
        have hg2 := sk_ge n b (r.2.1 + 1)
        constructor
        · rintro ⟨_, z59⟩
          dsimp only at z59 ⊢
          have hl59 := ch_lt z59 (by decide)
          rw [if_pos z59] at s1
          have hq2 := s4 z59
          rw [hq2] at s1
          rw [hlen]
          have s1' := reach_one s1
          rw [show i + 1 + r.2.2.2.length + 1 = i + (1 + r.2.2.2.length + 1) by omega] at s1'
          refine ⟨1 + k + 1, t'' + 1, _, _, _, C19, reach_trans (reach_trans (reach_one e1) m1) s1', by omega, by omega, by omega, hl59, by omega, ?_, ?_, fun j hj => ?_⟩
          · intro j hj
            obtain ⟨a1, a2, a3⟩ := m7 j (by omega)
            rw [upd_ne (by omega)] at a1 a2 a3
            rw [upd_ne (by omega), upd_ne (by omega), upd_ne (by omega), upd_ne (by omega)]
            exact ⟨a1, a2, a3⟩
          · intro j x hx
            cases j with
            | zero =>
              obtain rfl := Option.some.inj hx
              obtain ⟨a1, a2, a3⟩ := m7 i (by omega)
              rw [upd_at] at a1 a2
              rw [show i + 0 = i from rfl, upd_ne (by omega), upd_ne (by omega), upd_ne (by omega), upd_at]
              exact ⟨a1, a2, rfl⟩
            | succ j =>
              rw [List.getElem?_cons_succ, List.getElem?_append] at hx
              by_cases hj : j < r.2.2.2.length
              · rw [if_pos hj] at hx
                obtain ⟨a1, a2, a3⟩ := m8 j x hx
                rw [show i + 1 + j = i + (j + 1) by omega] at a1 a2 a3
                rw [upd_ne (by omega), upd_ne (by omega), upd_ne (by omega), upd_ne (by omega)]
                exact ⟨a1, a2, a3⟩
              · rw [if_neg hj] at hx
                by_cases hj0 : j - r.2.2.2.length = 0
                · rw [hj0] at hx
                  obtain rfl := Option.some.inj hx
                  rw [show i + (j + 1) = i + 1 + r.2.2.2.length by omega, upd_at, upd_at, upd_at]
                  exact ⟨rfl, rfl, rfl⟩
                · obtain ⟨y, hy⟩ : ∃ y, j - r.2.2.2.length = y + 1 := ⟨j - r.2.2.2.length - 1, by omega⟩
                  rw [hy] at hx; exact absurd hx (by simp)
          · rw [m9 j (by omega), upd_ne (by omega)]
        · intro f hf0 hf
          dsimp only at hf
          rcases hf with ⟨_, z59, rfl⟩ | hz
          · rw [if_neg z59] at s1
            have := sk_le (n := n) (b := b) (k := r.2.1 + 1) (by omega)
            exact ⟨by omega, 1 + k + 1, _, reach_trans (reach_trans (reach_one e1) m1) (reach_one s1), by omega, Or.inl rfl⟩
          · exact absurd hz.symm hf0
      · rw [if_neg z93]
        have hend : chA n b r.2.1 = 256 := m5.resolve_right z93
        constructor
        · rintro ⟨z, _⟩
          exact absurd z (by show ¬ 8 * r.2.1 + 1 = 0; omega)
        · intro f hf0 hf
          dsimp only at hf
          have hf' : f = 8 * r.2.1 + 1 := by
            rcases hf with ⟨z, _⟩ | z
            · omega
            · exact z.symm
          have hrn : r.2.1 = n := by
            by_cases y : r.2.1 < n
            · have := (h.2 r.2.1 y).1
              rw [chA_in y] at hend
              omega
            · omega
          refine ⟨by omega, 1 + k, _, reach_trans (reach_one e1) m1, by omega, Or.inr ⟨rfl, ⟨opn, by omega, rfl⟩, ?_, by omega⟩⟩
          show Int32.ofNat r.2.1 = _
          rw [hrn]
    · obtain ⟨w1, k, X, w2, w3, w4⟩ := r2 z0
      rw [if_neg z0]
      constructor
      · rintro ⟨z, _⟩
        exact absurd z z0
      · intro f hf0 hf
        dsimp only at hf
        have hf' : f = r.1 := by
          rcases hf with ⟨z, _⟩ | z
          · exact absurd z z0
          · exact z.symm
        subst hf'
        exact ⟨w1, 1 + k, X, reach_trans (reach_one e1) w2, by omega, w4⟩
  · have hag1 : (agA n b rc p opn i).1 = agF n b p opn := by
      unfold agA agF
      unfold agF at hag
      by_cases h4 : opn = 4
      · rw [if_pos h4, if_pos h4]
      · rw [if_neg h4] at hag
        rw [if_neg h4, if_neg h4]
        by_cases z1 : (nmA n b 0 30 (ewA n b pLe p)).1 = 0
        · rw [if_pos z1] at hag
          rw [if_pos z1, if_pos z1]
          by_cases z2 : chA n b (skA n b (nmA n b 0 30 (ewA n b pLe p)).2.2) = 91
          · rw [if_pos z2] at hag; exact absurd rfl hag
          · rw [if_neg z2, if_neg z2]
        · rw [if_neg z1, if_neg z1]
    constructor
    · rintro ⟨z, _⟩
      rw [hag1] at z
      exact absurd z hag
    · intro f hf0 hf
      have hf' : f = agF n b p opn := by
        rcases hf with ⟨z, _⟩ | z
        · rw [hag1] at z; exact absurd z hag
        · rw [← hag1]; exact z.symm
      subst hf'
      exact ⟨g0, 1, _, reach_one e1, by omega, Or.inl rfl⟩
/-- the reader over the steps of one level -/
theorem seg_c (hlab : 2 ≤ lab ∧ lab ≤ 4) (h : TxA n b A) (hF : 1000 ≤ F) : ∀ (f p opn i t : Nat) (A13 A15 A17 A19 : Nat → Int32), n - p < f → p ≤ n → skA n b p = p → opn ≤ 4 → 9 * i + 5 * opn ≤ 2 * p → t ≤ p →
    ((psA cap lab ack cop n b f p opn i).1 = 0 → ∃ (k t' : Nat) (B13 B15 B17 B19 : Nat → Int32), Reach (rdS F n lab A) (Int32.ofNat t, Int32.ofNat i, Int32.ofNat opn, Int32.ofNat p, fcI 0, A13, A15, A17, A19) (Int32.ofNat t', Int32.ofNat (i + (psA cap lab ack cop n b f p opn i).2.2.2.length), Int32.ofNat opn, Int32.ofNat (psA cap lab ack cop n b f p opn i).2.1, fcI 0, B13, B15, B17, B19) k ∧ t' ≤ (psA cap lab ack cop n b f p opn i).2.1 ∧ k + p ≤ (psA cap lab ack cop n b f p opn i).2.1 ∧ (psA cap lab ack cop n b f p opn i).2.1 ≤ n ∧ (chA n b (psA cap lab ack cop n b f p opn i).2.1 = 256 ∨ chA n b (psA cap lab ack cop n b f p opn i).2.1 = 93) ∧ 9 * (i + (psA cap lab ack cop n b f p opn i).2.2.2.length) + 5 * opn ≤ 2 * (psA cap lab ack cop n b f p opn i).2.1 ∧ SameTo i A13 A15 A17 B13 B15 B17 ∧ CodeAt (psA cap lab ack cop n b f p opn i).2.2.2 i B13 B15 B17 ∧ ∀ j, j < opn → B19 j = A19 j) ∧
    ((psA cap lab ack cop n b f p opn i).1 ≠ 0 → (psA cap lab ack cop n b f p opn i).1 < 4000 ∧ ∃ (k : Nat) (X : UR), Reach (rdS F n lab A) (Int32.ofNat t, Int32.ofNat i, Int32.ofNat opn, Int32.ofNat p, fcI 0, A13, A15, A17, A19) X k ∧ k + p ≤ n + 1 ∧ BadEnd n X (psA cap lab ack cop n b f p opn i).1) := by
  have hn := h.1
  intro f
  induction f with
  | zero => intro p opn i t A13 A15 A17 A19 hf; omega
  | succ f ih =>
    intro p opn i t A13 A15 A17 A19 hf hp hsk ho hio ht
    by_cases hc : chA n b p = 256 ∨ chA n b p = 93
    · rw [ps_zero f p opn i hc]
      refine ⟨fun _ => ⟨0, t, A13, A15, A17, A19, Reach.rfl' _, ht, by show 0 + p ≤ p; omega, hp, hc, hio, fun j _ => ⟨rfl, rfl, rfl⟩, fun j x hx => by simp at hx, fun j _ => rfl⟩, fun z => absurd rfl z⟩
    · have hpn : p < n := by
        by_cases y : p < n
        · exact y
        · exact absurd (Or.inl (chA_out (by omega))) hc
      have hc93 : chA n b p ≠ 93 := fun z => hc (Or.inr z)
      have hS : StR n b F lab A (stA cap lab ack cop n b (psA cap lab ack cop n b f) p opn i) p opn i t A13 A15 A17 A19 := by
        unfold stA
        by_cases hw6 : wOf b p (ewA n b pLe p) = 6
        · rw [if_pos hw6]
          exact again_r h hF hpn hc93 ho hio ht hw6 A13 A15 A17 A19 (fun p' t' C13 C15 C17 C19 g1 g2 g3 g4 g5 g6 => ih p' (opn + 1) (i + 1) t' C13 C15 C17 C19 (by omega) g2 g3 g4 g5 g6)
        · rw [if_neg hw6]
          exact simple_r hlab h hF hpn hc93 hio ht hw6 A13 A15 A17 A19
      rw [ps_step f p opn i hc]
      generalize stA cap lab ack cop n b (psA cap lab ack cop n b f) p opn i = s at hS
      obtain ⟨S1, S2⟩ := hS
      by_cases z0 : s.1 = 0
      · rw [if_pos z0]
        by_cases z59 : chA n b (skA n b s.2.1) = 59
        · rw [if_pos z59]
          obtain ⟨k, t', B13, B15, B17, B19, m1, m2, m3, m4, m5, m6, m7, m8, m9⟩ := S1 ⟨z0, z59⟩
          have hg := sk_ge n b (skA n b s.2.1 + 1)
          have hl := sk_le (n := n) (b := b) (k := skA n b s.2.1 + 1) (by omega)
          obtain ⟨r1, r2⟩ := ih (skA n b (skA n b s.2.1 + 1)) opn (i + s.2.2.2.length) t' B13 B15 B17 B19 (by omega) hl (sk_idem n b _) ho (by omega) (by omega)
          generalize psA cap lab ack cop n b f (skA n b (skA n b s.2.1 + 1)) opn (i + s.2.2.2.length) = r at r1 r2
          by_cases y0 : r.1 = 0
          · rw [if_pos y0]
            obtain ⟨k2, t2, C13, C15, C17, C19, o1, o2, o3, o4, o5, o6, o7, o8, o9⟩ := r1 y0
            refine ⟨fun _ => ⟨k + k2, t2, C13, C15, C17, C19, ?_, o2, by show k + k2 + p ≤ r.2.1; omega, o4, o5, ?_, same_trans m7 o7 (by omega), code_append m8 o7 o8, fun j hj => (o9 j hj).trans (m9 j hj)⟩, fun z => absurd rfl z⟩
            · have := reach_trans m1 o1
              rw [show i + s.2.2.2.length + r.2.2.2.length = i + (s.2.2.2 ++ r.2.2.2).length by rw [List.length_append]; omega] at this
              exact this
            · show 9 * (i + (s.2.2.2 ++ r.2.2.2).length) + 5 * opn ≤ 2 * r.2.1
              rw [List.length_append]
              omega
          · rw [if_neg y0]
            obtain ⟨w1, k2, X, w2, w3, w4⟩ := r2 y0
            exact ⟨fun z => absurd z y0, fun _ => ⟨w1, k + k2, X, reach_trans m1 w2, by omega, w4⟩⟩
        · rw [if_neg z59]
          obtain ⟨w1, k, X, w2, w3, w4⟩ := S2 (8 * skA n b s.2.1 + 1) (by omega) (Or.inl ⟨z0, z59, rfl⟩)
          exact ⟨fun z => absurd z (by show ¬ 8 * skA n b s.2.1 + 1 = 0; omega), fun _ => ⟨w1, k, X, w2, w3, w4⟩⟩
      · rw [if_neg z0]
        obtain ⟨w1, k, X, w2, w3, w4⟩ := S2 s.1 z0 (Or.inr rfl)
        exact ⟨fun z => absurd z z0, fun _ => ⟨w1, k, X, w2, w3, w4⟩⟩
end SEGC
