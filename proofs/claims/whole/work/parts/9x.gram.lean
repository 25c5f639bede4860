/-! part 9x: what a text means: fault, place, effect, steps -/
section GRAM
abbrev CTA := Int64 × Int32 × Int32 × Int32 × Int64 × Int32 × Int64 × (Nat → Int32)
abbrev SEA := CTA × Nat × Bool
abbrev STP3 := Nat × Nat × Nat
abbrev RA4 := Nat × Nat × (SEA → SEA) × List STP3
variable (cap lab ack cop : Nat)
/-- an act that is done -/
def pfC (t : CTA) (code : Int32) : CTA := match fX11_perform (Int32.ofNat cap) (Int32.ofNat lab) (Int32.ofNat ack) (Int32.ofNat cop) t.1 t.2.1 t.2.2.1 t.2.2.2.1 t.2.2.2.2.1 t.2.2.2.2.2.1 t.2.2.2.2.2.2.1 t.2.2.2.2.2.2.2 code with
  | some r => r.2
  | none => t
def actE (w a v : Nat) (s : SEA) : SEA := if s.2.2 = true then s else if s.2.1 = 600 then (s.1, s.2.1, true) else if fX7_offers (Int32.ofNat lab) s.1.1 (Int32.ofNat w) (Int32.ofNat a) (Int32.ofNat v) = 0 then (s.1, s.2.1, true) else (pfC cap lab ack cop s.1 (fX0_codeOf (Int32.ofNat w) (Int32.ofNat a) (Int32.ofNat v)), s.2.1 + 1, false)
/-- the first packet from a kind on -/
def fpF (c : Int64) : Nat → Nat → Option Nat
  | 0, _ => none
  | f + 1, k => if 1 ≤ dg c (pkPos k) 2 then some k else fpF c f (k + 1)
def clrE : Nat → SEA → SEA
  | 0, s => s
  | m + 1, s => if s.2.2 = true then s else match fpF s.1.1 (2 * lab) 0 with
    | none => s
    | some k => clrE m (actE cap lab ack cop 3 (k / 2) (k % 2) s)
def exE (x : STP3) : SEA → SEA := if x.1 = 5 then clrE cap lab ack cop x.2.1 else actE cap lab ack cop x.1 x.2.1 x.2.2
def itE (E : SEA → SEA) : Nat → SEA → SEA
  | 0, s => s
  | m + 1, s => if s.2.2 = true then s else itE E m (E s)
variable (n : Nat) (b : Nat → Nat)
/-- a step that is no again: fault, the place behind it, the step -/
def smA (p : Nat) : Nat × Nat × STP3 :=
  let e := ewA n b pLe p
  let w := wOf b p e
  if w = 0 then (0, e, (0, 0, 0))
  else if w = 1 ∨ w = 3 then
    (if (nmA n b 0 (lab - 1) e).1 = 0 then
      (if (nmA n b 0 1 (nmA n b 0 (lab - 1) e).2.2).1 = 0 then (0, (nmA n b 0 1 (nmA n b 0 (lab - 1) e).2.2).2.2, (w, (nmA n b 0 (lab - 1) e).2.1, (nmA n b 0 1 (nmA n b 0 (lab - 1) e).2.2).2.1))
       else ((nmA n b 0 1 (nmA n b 0 (lab - 1) e).2.2).1, 0, (0, 0, 0)))
     else ((nmA n b 0 (lab - 1) e).1, 0, (0, 0, 0)))
  else if w = 2 ∨ w = 4 then
    (if (nmA n b 0 (lab - 1) e).1 = 0 then (0, (nmA n b 0 (lab - 1) e).2.2, (w, (nmA n b 0 (lab - 1) e).2.1, 0)) else ((nmA n b 0 (lab - 1) e).1, 0, (0, 0, 0)))
  else if w = 5 then
    (if (nmA n b 1 9 e).1 = 0 then (0, (nmA n b 1 9 e).2.2, (5, (nmA n b 1 9 e).2.1, 0)) else ((nmA n b 1 9 e).1, 0, (0, 0, 0)))
  else (8 * p + 1, 0, (0, 0, 0))
def agA (rc : Nat → Nat → Nat → RA4) (p opn i : Nat) : RA4 :=
  if opn = 4 then (8 * p + 3, 0, id, [])
  else if (nmA n b 0 30 (ewA n b pLe p)).1 = 0 then
    (if chA n b (skA n b (nmA n b 0 30 (ewA n b pLe p)).2.2) = 91 then
      (let r := rc (skA n b (skA n b (nmA n b 0 30 (ewA n b pLe p)).2.2 + 1)) (opn + 1) (i + 1)
       if r.1 = 0 then
         (if chA n b r.2.1 = 93 then (0, r.2.1 + 1, itE r.2.2.1 (nmA n b 0 30 (ewA n b pLe p)).2.1, (6, (nmA n b 0 30 (ewA n b pLe p)).2.1, i + 1 + r.2.2.2.length) :: (r.2.2.2 ++ [(7, i, 0)]))
          else (8 * r.2.1 + 1, 0, id, []))
       else (r.1, 0, id, []))
     else (8 * skA n b (nmA n b 0 30 (ewA n b pLe p)).2.2 + 1, 0, id, []))
  else ((nmA n b 0 30 (ewA n b pLe p)).1, 0, id, [])
def stA (rc : Nat → Nat → Nat → RA4) (p opn i : Nat) : RA4 := if wOf b p (ewA n b pLe p) = 6 then agA n b rc p opn i else ((smA lab n b p).1, (smA lab n b p).2.1, exE cap lab ack cop (smA lab n b p).2.2, [(smA lab n b p).2.2])
def psA : Nat → Nat → Nat → Nat → RA4
  | 0, p, _, _ => (0, p, id, [])
  | f + 1, p, opn, i => if chA n b p = 256 ∨ chA n b p = 93 then (0, p, id, []) else
    let s := stA cap lab ack cop n b (psA f) p opn i
    if s.1 = 0 then
      (if chA n b (skA n b s.2.1) = 59 then
        (let r := psA f (skA n b (skA n b s.2.1 + 1)) opn (i + s.2.2.2.length)
         if r.1 = 0 then (0, r.2.1, fun z => r.2.2.1 (s.2.2.1 z), s.2.2.2 ++ r.2.2.2) else (r.1, 0, id, []))
       else (8 * skA n b s.2.1 + 1, 0, id, []))
    else (s.1, 0, id, [])
variable {cap lab ack cop n b}
variable {F : Nat} {A : Nat → Int32}
theorem wOf_le (b : Nat → Nat) (k e : Nat) : wOf b k e ≤ 7 := by
  unfold wOf
  repeat' split
  all_goals omega
theorem wOf_pos {k e : Nat} (h : wOf b k e ≠ 7) : k + 4 ≤ e := by
  have key : ∀ i : Fin 7, wEq b i.val k e = true → k + 4 ≤ e := by
    intro i hi
    have h1 := ((wEq_iff b i.val k e).mp hi).1
    have h2 := (wd_len i).2
    omega
  unfold wOf at h
  by_cases w0 : wEq b 0 k e = true
  · exact key ⟨0, by decide⟩ w0
  · rw [if_neg w0] at h
    by_cases w1 : wEq b 1 k e = true
    · exact key ⟨1, by decide⟩ w1
    · rw [if_neg w1] at h
      by_cases w2 : wEq b 2 k e = true
      · exact key ⟨2, by decide⟩ w2
      · rw [if_neg w2] at h
        by_cases w3 : wEq b 3 k e = true
        · exact key ⟨3, by decide⟩ w3
        · rw [if_neg w3] at h
          by_cases w4 : wEq b 4 k e = true
          · exact key ⟨4, by decide⟩ w4
          · rw [if_neg w4] at h
            by_cases w5 : wEq b 5 k e = true
            · exact key ⟨5, by decide⟩ w5
            · rw [if_neg w5] at h
              by_cases w6 : wEq b 6 k e = true
              · exact key ⟨6, by decide⟩ w6
              · rw [if_neg w6] at h
                exact absurd rfl h
theorem add_step {i : Nat} (hi : i < 64) (A13 A15 A17 : Nat → Int32) (x y z : Int32) : fX8_add (Int32.ofNat i) A13 A15 A17 x y z = (Int32.ofNat (i + 1), upd A13 i x, upd A15 i y, upd A17 i z) := by
  unfold fX8_add
  rw [if_neg (fun z => by have := (i32_le (a := 64) (by decide) (by omega)).mp z; omega), i32_succ, cput hi (by decide), cput hi (by decide), cput hi (by decide)]
/-- what a step that is no again comes to with its ; -/
def finS (n : Nat) (b : Nat → Nat) (s : Nat × Nat × STP3) : Nat := if s.1 = 0 then (if chA n b (skA n b s.2.1) = 59 then 0 else 8 * skA n b s.2.1 + 1) else s.1
theorem lab_pred (hlab : 2 ≤ lab) (hlab2 : lab ≤ 4) : Int32.ofNat lab - 1 = Int32.ofNat (lab - 1) := i32_pred (by omega) (by omega)
theorem semi_eq (h : TxA n b A) (hF : 1000 ≤ F) (x6 x7 : Int32) (A13 A15 A17 A19 : Nat → Int32) {q f : Nat} (hq : q ≤ n) (hf : f < 4000) : ∃ q', fX10_readStep_J138 F (Int32.ofNat n) A x6 x7 (Int32.ofNat q) (fcI f) A13 A15 A17 A19 = some (x6, x7, Int32.ofNat q', fcI (if f = 0 then (if chA n b (skA n b q) = 59 then 0 else 8 * skA n b q + 1) else f), A13, A15, A17, A19) ∧ q' ≤ n ∧ q ≤ q' ∧ (f = 0 → chA n b (skA n b q) = 59 → q' = skA n b q + 1) := by
  have hn := h.1
  have hge : q ≤ skA n b q := ew_ge (n := n) (b := b) bl_end q
  have hle : skA n b q ≤ n := ew_le (n := n) (b := b) bl_end hq
  unfold fX10_readStep_J138
  rw [show (59 : Int32) = Int32.ofNat 59 from rfl, expect_eq h hF hq (by decide) hf]
  by_cases hc : chA n b (skA n b q) = 59
  · have hlt : skA n b q < n := by
      by_cases z : skA n b q < n
      · exact z
      · rw [chA_out (by omega)] at hc; omega
    rw [if_pos hc, Option.bind_some, if_pos hc]
    refine ⟨skA n b q + 1, ?_, by omega, by omega, fun _ _ => rfl⟩
    by_cases hf0 : f = 0
    · rw [hf0, if_pos rfl]
    · rw [if_neg hf0]
  · rw [if_neg hc, Option.bind_some, if_neg hc]
    exact ⟨skA n b q, rfl, hle, hge, fun _ z => absurd z hc⟩
theorem num_c (w : Nat) {j : Nat} (hj : j < 8) (hw : w ≤ 7) (h : w ≠ 7) : ((if w = 7 then (-1 : Int32) else Int32.ofNat w) = Int32.ofNat j) ↔ w = j := by
  rw [if_neg h]
  exact i32_eq (by omega) (by omega)
abbrev RST := Option (Int32 × Int32 × Int32 × Int32 × (Nat → Int32) × (Nat → Int32) × (Nat → Int32) × (Nat → Int32))
def StepOk (n : Nat) (b : Nat → Nat) (e i : Nat) (x7 : Int32) (A13 A15 A17 A19 : Nat → Int32) (res : RST) (s : Nat × Nat × STP3) : Prop := ∃ (sz : Int32) (q : Nat) (B13 B15 B17 : Nat → Int32), res = some (sz, x7, Int32.ofNat q, fcI (finS n b s), B13, B15, B17, A19) ∧ q ≤ n ∧ e ≤ q ∧ s.1 < 4000 ∧ (s.1 = 0 → s.2.1 ≤ n ∧ e ≤ s.2.1 ∧ s.2.2.1 < 6 ∧ s.2.2.2.1 ≤ 30 ∧ s.2.2.2.2 ≤ 30 ∧ (chA n b (skA n b s.2.1) = 59 → q = skA n b s.2.1 + 1 ∧ sz = Int32.ofNat (i + 1) ∧ B13 = upd A13 i (Int32.ofNat s.2.2.1) ∧ B15 = upd A15 i (Int32.ofNat s.2.2.2.1) ∧ B17 = upd A17 i (Int32.ofNat s.2.2.2.2)))
theorem step_bad (h : TxA n b A) (hF : 1000 ≤ F) {e i q f : Nat} (x6 x7 : Int32) (A13 A15 A17 A19 B13 B15 B17 : Nat → Int32) (hq : q ≤ n) (he : e ≤ q) (hf : f < 4000) (hf0 : f ≠ 0) : StepOk n b e i x7 A13 A15 A17 A19 (fX10_readStep_J138 F (Int32.ofNat n) A x6 x7 (Int32.ofNat q) (fcI f) B13 B15 B17 A19) (f, 0, (0, 0, 0)) := by
  obtain ⟨q', s1, s2, s3, s4⟩ := semi_eq h hF x6 x7 B13 B15 B17 A19 hq hf
  rw [if_neg hf0] at s1
  rw [s1]
  refine ⟨x6, q', B13, B15, B17, ?_, s2, by omega, hf, fun z => absurd z hf0⟩
  unfold finS
  rw [if_neg (show ¬ f = 0 from hf0)]
theorem step_good (h : TxA n b A) (hF : 1000 ≤ F) {e i q w a v : Nat} (x7 : Int32) (A13 A15 A17 A19 : Nat → Int32) (hq : q ≤ n) (he : e ≤ q) (hw : w < 6) (ha : a ≤ 30) (hv : v ≤ 30) : StepOk n b e i x7 A13 A15 A17 A19 (fX10_readStep_J138 F (Int32.ofNat n) A (Int32.ofNat (i + 1)) x7 (Int32.ofNat q) (fcI 0) (upd A13 i (Int32.ofNat w)) (upd A15 i (Int32.ofNat a)) (upd A17 i (Int32.ofNat v)) A19) (0, q, (w, a, v)) := by
  obtain ⟨q', s1, s2, s3, s4⟩ := semi_eq h hF (Int32.ofNat (i + 1)) x7 (upd A13 i (Int32.ofNat w)) (upd A15 i (Int32.ofNat a)) (upd A17 i (Int32.ofNat v)) A19 hq (f := 0) (by decide)
  rw [if_pos rfl] at s1
  rw [s1]
  exact ⟨_, q', _, _, _, rfl, s2, by omega, by show 0 < 4000; decide, fun _ => ⟨hq, he, hw, ha, hv, fun z => ⟨s4 rfl z, rfl, rfl, rfl, rfl⟩⟩⟩
theorem readStep_eq (hlab : 2 ≤ lab ∧ lab ≤ 4) (h : TxA n b A) (hF : 1000 ≤ F) {p i : Nat} (hp : p ≤ n) (hi : i < 64) (hw6 : wOf b p (ewA n b pLe p) ≠ 6) (x7 : Int32) (A13 A15 A17 A19 : Nat → Int32) : StepOk n b (ewA n b pLe p) i x7 A13 A15 A17 A19 (fX10_readStep F (Int32.ofNat n) A (Int32.ofNat i) x7 (Int32.ofNat p) (fcI 0) A13 A15 A17 A19 (Int32.ofNat lab)) (smA lab n b p) := by
  have hn := h.1
  have hge := ew_ge (n := n) (b := b) le_end p
  have hle := ew_le (n := n) (b := b) le_end hp
  have hwl := wOf_le b p (ewA n b pLe p)
  unfold fX10_readStep
  rw [readWord_eq h hF hp, Option.bind_some]
  unfold smA
  dsimp only
  generalize hw : wOf b p (ewA n b pLe p) = w at hw6 hwl
  generalize ewA n b pLe p = e at hge hle
  by_cases w7 : w = 7
  · subst w7
    rw [if_pos rfl, if_neg (show ¬ (-1 : Int32) = 0 by decide), if_neg (show ¬ (-1 : Int32) = 1 by decide), if_neg (show ¬ (-1 : Int32) = 2 by decide), if_neg (show ¬ (-1 : Int32) = 3 by decide), if_neg (show ¬ (-1 : Int32) = 4 by decide), if_neg (show ¬ (-1 : Int32) = 5 by decide), if_neg (show ¬ (-1 : Int32) = 6 by decide)]
    rw [if_neg (show ¬ (7 : Nat) = 0 by decide), if_neg (show ¬ ((7 : Nat) = 1 ∨ (7 : Nat) = 3) by decide), if_neg (show ¬ ((7 : Nat) = 2 ∨ (7 : Nat) = 4) by decide), if_neg (show ¬ (7 : Nat) = 5 by decide)]
    rw [show (1 : Int32) = Int32.ofNat 1 from rfl, blame_eq (by decide) (by omega) (by decide) (by decide)]
    exact step_bad h hF _ x7 A13 A15 A17 A19 A13 A15 A17 (f := 8 * p + 1) hle (Nat.le_refl _) (by omega) (by omega)
  · have hj : ∀ j : Nat, j < 8 → (((if w = 7 then (-1 : Int32) else Int32.ofNat w) = Int32.ofNat j) ↔ w = j) := fun j hj => num_c w hj hwl w7
    have h0 : ((if w = 7 then (-1 : Int32) else Int32.ofNat w) = 0) ↔ w = 0 := hj 0 (by decide)
    have h1 : ((if w = 7 then (-1 : Int32) else Int32.ofNat w) = 1) ↔ w = 1 := hj 1 (by decide)
    have h2 : ((if w = 7 then (-1 : Int32) else Int32.ofNat w) = 2) ↔ w = 2 := hj 2 (by decide)
    have h3 : ((if w = 7 then (-1 : Int32) else Int32.ofNat w) = 3) ↔ w = 3 := hj 3 (by decide)
    have h4 : ((if w = 7 then (-1 : Int32) else Int32.ofNat w) = 4) ↔ w = 4 := hj 4 (by decide)
    have h5 : ((if w = 7 then (-1 : Int32) else Int32.ofNat w) = 5) ↔ w = 5 := hj 5 (by decide)
    have hval : (if w = 7 then (-1 : Int32) else Int32.ofNat w) = Int32.ofNat w := if_neg w7
    have two : w < 6 → StepOk n b e i x7 A13 A15 A17 A19 ((fX10_readNumber F (Int32.ofNat n) A (Int32.ofNat e) (fcI 0) 0 (Int32.ofNat lab - 1)).bind (fun r6 => ((fX10_readNumber F (Int32.ofNat n) A r6.2.1 r6.2.2 0 1).bind (fun r7 => fX10_readStep_J138 F (Int32.ofNat n) A ((fX8_add (Int32.ofNat i) A13 A15 A17 (Int32.ofNat w) r6.1 r7.1).1) x7 r7.2.1 r7.2.2 ((fX8_add (Int32.ofNat i) A13 A15 A17 (Int32.ofNat w) r6.1 r7.1).2.1) ((fX8_add (Int32.ofNat i) A13 A15 A17 (Int32.ofNat w) r6.1 r7.1).2.2.1) ((fX8_add (Int32.ofNat i) A13 A15 A17 (Int32.ofNat w) r6.1 r7.1).2.2.2) A19)))) (if (nmA n b 0 (lab - 1) e).1 = 0 then (if (nmA n b 0 1 (nmA n b 0 (lab - 1) e).2.2).1 = 0 then (0, (nmA n b 0 1 (nmA n b 0 (lab - 1) e).2.2).2.2, (w, (nmA n b 0 (lab - 1) e).2.1, (nmA n b 0 1 (nmA n b 0 (lab - 1) e).2.2).2.1)) else ((nmA n b 0 1 (nmA n b 0 (lab - 1) e).2.2).1, 0, (0, 0, 0))) else ((nmA n b 0 (lab - 1) e).1, 0, (0, 0, 0))) := by
      intro hw
      obtain ⟨v1, q1, a1, a2, a3, a4, a5, a6, _⟩ := readNumber_eq h hF (lo := 0) (hi := lab - 1) (k := e) (f := 0) hle (by omega) (by omega) (by decide)
      rw [if_pos rfl] at a1
      rw [lab_pred hlab.1 hlab.2, show (0 : Int32) = Int32.ofNat 0 from rfl, a1, Option.bind_some]
      dsimp only
      obtain ⟨v2, q2, c1, c2, c3, c4, c5, c6, _⟩ := readNumber_eq h hF (lo := 0) (hi := 1) (k := q1) (f := (nmA n b 0 (lab - 1) e).1) a2 (by omega) (by omega) a5
      rw [show (1 : Int32) = Int32.ofNat 1 from rfl, c1, Option.bind_some]
      dsimp only
      rw [add_step hi]
      dsimp only
      by_cases z1 : (nmA n b 0 (lab - 1) e).1 = 0
      · obtain ⟨rfl, rfl, g1⟩ := a4 z1
        rw [if_pos z1, if_pos z1]
        by_cases z2 : (nmA n b 0 1 (nmA n b 0 (lab - 1) e).2.2).1 = 0
        · obtain ⟨rfl, rfl, g2⟩ := c4 z2
          rw [z2, if_pos rfl]
          exact step_good h hF x7 A13 A15 A17 A19 c2 (by omega) hw a6 c6
        · rw [if_neg z2]
          exact step_bad h hF _ x7 A13 A15 A17 A19 _ _ _ c2 (by omega) c5 z2
      · rw [if_neg z1, if_neg z1]
        exact step_bad h hF _ x7 A13 A15 A17 A19 _ _ _ c2 (by omega) a5 z1
    have one : ∀ (lo hi' : Nat), w < 6 → hi' ≤ 30 → lo ≤ 9 → StepOk n b e i x7 A13 A15 A17 A19 ((fX10_readNumber F (Int32.ofNat n) A (Int32.ofNat e) (fcI 0) (Int32.ofNat lo) (Int32.ofNat hi')).bind (fun r10 => fX10_readStep_J138 F (Int32.ofNat n) A ((fX8_add (Int32.ofNat i) A13 A15 A17 (Int32.ofNat w) r10.1 0).1) x7 r10.2.1 r10.2.2 ((fX8_add (Int32.ofNat i) A13 A15 A17 (Int32.ofNat w) r10.1 0).2.1) ((fX8_add (Int32.ofNat i) A13 A15 A17 (Int32.ofNat w) r10.1 0).2.2.1) ((fX8_add (Int32.ofNat i) A13 A15 A17 (Int32.ofNat w) r10.1 0).2.2.2) A19)) (if (nmA n b lo hi' e).1 = 0 then (0, (nmA n b lo hi' e).2.2, (w, (nmA n b lo hi' e).2.1, 0)) else ((nmA n b lo hi' e).1, 0, (0, 0, 0))) := by
      intro lo hi' hw hhi hlo
      obtain ⟨v1, q1, a1, a2, a3, a4, a5, a6, _⟩ := readNumber_eq h hF (lo := lo) (hi := hi') (k := e) (f := 0) hle hhi hlo (by decide)
      rw [if_pos rfl] at a1
      rw [a1, Option.bind_some]
      dsimp only
      rw [add_step hi]
      dsimp only
      by_cases z1 : (nmA n b lo hi' e).1 = 0
      · obtain ⟨rfl, rfl, g1⟩ := a4 z1
        rw [z1, if_pos rfl]
        exact step_good h hF x7 A13 A15 A17 A19 a2 (by omega) hw a6 (v := 0) (by decide)
      · rw [if_neg z1]
        exact step_bad h hF _ x7 A13 A15 A17 A19 _ _ _ a2 (by omega) a5 z1
    rw [hval]
    rw [hval] at h0 h1 h2 h3 h4 h5
    by_cases w0 : w = 0
    · rw [if_pos (h0.mpr w0), if_pos w0, add_step hi]
      dsimp only
      subst w0
      exact step_good h hF x7 A13 A15 A17 A19 (w := 0) (a := 0) (v := 0) hle (Nat.le_refl _) (by decide) (by decide) (by decide)
    · rw [if_neg (fun z => w0 (h0.mp z)), if_neg w0]
      by_cases w1 : w = 1
      · rw [if_pos (h1.mpr w1), if_pos (show w = 1 ∨ w = 3 from Or.inl w1)]
        exact two (by omega)
      · rw [if_neg (fun z => w1 (h1.mp z))]
        by_cases w2 : w = 2
        · rw [if_pos (h2.mpr w2), if_neg (show ¬ (w = 1 ∨ w = 3) by omega), if_pos (show w = 2 ∨ w = 4 from Or.inl w2)]
          have := one 0 (lab - 1) (by omega) (by omega) (by omega)
          rw [← lab_pred hlab.1 hlab.2] at this
          exact this
        · rw [if_neg (fun z => w2 (h2.mp z))]
          by_cases w3 : w = 3
          · rw [if_pos (h3.mpr w3), if_pos (show w = 1 ∨ w = 3 from Or.inr w3)]
            exact two (by omega)
          · rw [if_neg (fun z => w3 (h3.mp z)), if_neg (show ¬ (w = 1 ∨ w = 3) by omega)]
            by_cases w4 : w = 4
            · rw [if_pos (h4.mpr w4), if_pos (show w = 2 ∨ w = 4 from Or.inr w4)]
              have := one 0 (lab - 1) (by omega) (by omega) (by omega)
              rw [← lab_pred hlab.1 hlab.2] at this
              exact this
            · have w5 : w = 5 := by omega
              rw [if_neg (fun z => w4 (h4.mp z)), if_neg (show ¬ (w = 2 ∨ w = 4) by omega), if_pos (h5.mpr w5), if_pos w5]
              have := one 1 9 (by omega) (by omega) (by omega)
              subst w5
              exact this
end GRAM
