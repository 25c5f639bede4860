/-! part 78: the class spreads from what can be done at once -/
section SPR
variable {n : Nat} {fs tg ot : Nat → Nat} {A30 A35 : Nat → Int32}
theorem canDo_eq (hG : Gr n fs tg) (hC : CGr n fs tg ot A30 A35) {w : Nat → Bool} {mk : Int32} (hw : ∀ e, e < fs n → fX1_hasMark A35 (Int32.ofNat e) mk = (if w e = true then 1 else 0)) {s : Nat} (hs : s < n) {F : Nat} (hF : 70000 ≤ F) : fX5_canDo F A30 A35 (Int32.ofNat s) mk = some (if anyE fs s w = true then 1 else 0) := by
  have hn6 := hG.2.1
  have hmn := gr_mono hG (show s + 1 ≤ n by omega) (Nat.le_refl _)
  have hms := hG.2.2.2.1 s hs
  have h60 := hG.2.2.2.2.1
  unfold fX5_canDo
  rw [hC.1 s (by omega)]
  have step : ∀ e, e < fs (s + 1) → fX5_canDo_S9 F A30 A35 (Int32.ofNat s) mk (Int32.ofNat e) = if w e = true then some (.inl (.inl ())) else some (.inr (Int32.ofNat (e + 1))) := by
    intro e he
    unfold fX5_canDo_S9
    rw [i32_succ, hC.1 (s + 1) (by omega), if_neg (fun z => by have := (i32_le (by omega) (by omega)).mp z; omega), hw e (by omega), i32_succ]
    cases w e
    · rw [if_pos (show (if false = true then (1 : Int32) else 0) = 0 from rfl), if_neg (show ¬ false = true by decide)]
    · rw [if_neg (show ¬ (if true = true then (1 : Int32) else 0) = 0 by decide), if_pos (show true = true from rfl)]
  have key := gl_find (st := fun u2 : Int32 => fX5_canDo_S9 F A30 A35 (Int32.ofNat s) mk u2) (fun e => Int32.ofNat e) (fun e => w e = true) (.inr ()) (fun _ => .inl ()) (fs (s + 1)) (fun e he hP => by
    show fX5_canDo_S9 F A30 A35 (Int32.ofNat s) mk (Int32.ofNat e) = _
    rw [step e he, if_neg hP]) (fun e he hP => by
    show fX5_canDo_S9 F A30 A35 (Int32.ofNat s) mk (Int32.ofNat e) = _
    rw [step e he, if_pos hP]) (by
    show fX5_canDo_S9 F A30 A35 (Int32.ofNat s) mk (Int32.ofNat (fs (s + 1))) = _
    unfold fX5_canDo_S9
    rw [i32_succ, hC.1 (s + 1) (by omega), if_pos ((i32_le (by omega) (by omega)).mpr (Nat.le_refl _))]) (fs (s + 1) - fs s) (fs s) F (by omega) (by omega)
  rcases key with ⟨e, e1, e2, e3, _, e5⟩ | ⟨e1, e2⟩
  · rw [e5, if_pos (anyE_iff.mpr ⟨e, e1, e2, e3⟩)]; rfl
  · rw [e2, if_neg (fun z => by obtain ⟨e, k1, k2, k3⟩ := anyE_iff.mp z; exact e1 e k1 k2 k3)]; rfl
def cntN (T : Nat → Nat) (n : Nat) : Nat := sumTo (fun s => if T s = 0 then 0 else 1) n
theorem cntN_zero : ∀ n, cntN (fun _ => 0) n = 0 := by
  intro n
  induction n with
  | zero => rfl
  | succ n ih =>
    have h : cntN (fun _ => 0) (n + 1) = cntN (fun _ => 0) n + 0 := rfl
    rw [h, ih]
theorem cntN_lt {T : Nat → Nat} {n s : Nat} (hs : s < n) (h : T s = 0) : cntN T n < n := by
  have := sumTo_lt (g := fun s => if T s = 0 then 0 else 1) (h := fun _ => 1) (k := s) n hs (fun j _ => by split <;> decide) (by rw [if_pos h]; decide)
  rw [sumTo_one] at this
  exact this
theorem cntN_le (T : Nat → Nat) (n : Nat) : cntN T n ≤ n := by
  have := sumTo_le' (g := fun s => if T s = 0 then 0 else 1) (h := fun _ => 1) n (fun j _ => by split <;> decide)
  rw [sumTo_one] at this
  exact this
theorem cntN_upd {T : Nat → Nat} {n s v : Nat} (hs : s < n) (h : T s = 0) (hv : v ≠ 0) : cntN (updN T s v) n = cntN T n + 1 := by
  have h1 := sumTo_upd (g := fun s => if T s = 0 then 0 else 1) (h := fun j => if updN T s v j = 0 then 0 else 1) (k := s) n hs (fun j _ hne => by rw [updN_ne hne])
  rw [updN_at, if_pos h, if_neg hv] at h1
  exact h1
/-- the line: who stands in it and how far each is; those before h are done -/
def LI (n : Nat) (fs tg : Nat → Nat) (w : Nat → Bool) (h tail : Nat) (T Ln : Nat → Nat) : Prop :=
  tail = cntN T n ∧ h ≤ tail ∧ (∀ i, i < tail → Ln i < n ∧ 1 ≤ T (Ln i) ∧ T (Ln i) ≤ i + 1) ∧ (∀ s, s < n → T s ≠ 0 → ∃ i, i < tail ∧ Ln i = s) ∧ (∀ i j, i ≤ j → j < tail → T (Ln i) ≤ T (Ln j)) ∧ (h < tail → ∀ j, j < tail → T (Ln j) ≤ T (Ln h) + 1) ∧
  (∀ s, s < n → (T s = 1 ↔ ∃ e, fs s ≤ e ∧ e < fs (s + 1) ∧ w e = true)) ∧ (∀ s, s < n → ∀ k, T s = k + 2 → ∃ e, fs s ≤ e ∧ e < fs (s + 1) ∧ T (tg e) = k + 1) ∧
  (∀ i, i < h → ∀ s e, s < n → fs s ≤ e → e < fs (s + 1) → tg e = Ln i → 1 ≤ T s ∧ T s ≤ T (Ln i) + 1)
theorem li_dist {w : Nat → Bool} {h : Nat} {T Ln : Nat → Nat} (hG : Gr n fs tg) (H : LI n fs tg w h h T Ln) : DistOk n fs tg w T := by
  obtain ⟨h1, h2, h3, h4, h5, h6, h7, h8, h9⟩ := H
  refine ⟨h7, h8, fun s hs e e1 e2 k hk => ?_⟩
  have hlt : e < fs n := Nat.lt_of_lt_of_le e2 (gr_mono hG (by omega) (Nat.le_refl _))
  obtain ⟨i, hi, hL⟩ := h4 (tg e) (hG.2.2.2.2.2 e hlt) (by omega)
  have := h9 i hi s e hs e1 e2 hL.symm
  rw [hL, hk] at this
  exact this
/-- the same with one state's sources gone through up to b -/
def LJ (n : Nat) (fs tg : Nat → Nat) (w : Nat → Bool) (h tail : Nat) (T Ln : Nat → Nat) (P : Nat → Prop) : Prop := LI n fs tg w h tail T Ln ∧ h < tail ∧ ∀ s, s < n → P s → 1 ≤ T s ∧ T s ≤ T (Ln h) + 1
theorem lj_skip {w : Nat → Bool} {h tail : Nat} {T Ln : Nat → Nat} {P : Nat → Prop} (H : LJ n fs tg w h tail T Ln P) {v : Nat} (hv : v < n) (h0 : T v ≠ 0) : LJ n fs tg w h tail T Ln (fun s => P s ∨ s = v) := by
  obtain ⟨H, hlt, hP⟩ := H
  refine ⟨H, hlt, fun s hs hc => ?_⟩
  rcases hc with hc | rfl
  · exact hP s hs hc
  · obtain ⟨i, hi, rfl⟩ := H.2.2.2.1 s hs h0
    exact ⟨by omega, H.2.2.2.2.2.1 hlt i hi⟩
theorem lj_add {w : Nat → Bool} {h tail : Nat} {T Ln : Nat → Nat} {P : Nat → Prop} (hG : Gr n fs tg) (H : LJ n fs tg w h tail T Ln P) {v e : Nat} (hv : v < n) (h0 : T v = 0) (e1 : fs v ≤ e) (e2 : e < fs (v + 1)) (e3 : tg e = Ln h) : LJ n fs tg w h (tail + 1) (updN T v (T (Ln h) + 1)) (updN Ln tail v) (fun s => P s ∨ s = v) := by
  obtain ⟨⟨h1, h2, h3, h4, h5, h6, h7, h8, h9⟩, hlt, hP⟩ := H
  have hne : ∀ i, i < tail → Ln i ≠ v := fun i hi z => by have := (h3 i hi).2.1; rw [z, h0] at this; omega
  have hTL : ∀ i, i < tail → updN T v (T (Ln h) + 1) (Ln i) = T (Ln i) := fun i hi => updN_ne (hne i hi)
  have hLL : ∀ i, i < tail → updN Ln tail v i = Ln i := fun i hi => updN_ne (by omega)
  have hLt : updN Ln tail v tail = v := updN_at _ _ _
  have hTv : updN T v (T (Ln h) + 1) v = T (Ln h) + 1 := updN_at _ _ _
  have hh3 := h3 h hlt
  refine ⟨⟨?_, by omega, fun i hi => ?_, fun s hs hs0 => ?_, fun i j hij hj => ?_, fun _ j hj => ?_, fun s hs => ?_, fun s hs k hk => ?_, fun i hi s e' hs k1 k2 k3 => ?_⟩, by omega, fun s hs hc => ?_⟩
  · rw [cntN_upd hv h0 (by omega), ← h1]
  · by_cases hit : i < tail
    · rw [hLL i hit, hTL i hit]; exact h3 i hit
    · obtain rfl : i = tail := by omega
      rw [hLt, hTv]
      exact ⟨hv, by omega, by omega⟩
  · by_cases hsv : s = v
    · subst hsv; exact ⟨tail, by omega, hLt⟩
    · rw [updN_ne hsv] at hs0
      obtain ⟨i, hi, hL⟩ := h4 s hs hs0
      exact ⟨i, by omega, by rw [hLL i hi]; exact hL⟩
  · by_cases hjt : j < tail
    · rw [hLL i (by omega), hLL j hjt, hTL i (by omega), hTL j hjt]; exact h5 i j hij hjt
    · obtain rfl : j = tail := by omega
      rw [hLt, hTv]
      by_cases hit : i < j
      · rw [hLL i hit, hTL i hit]; exact h6 hlt i hit
      · obtain rfl : i = j := by omega
        rw [hLt, hTv]; exact Nat.le_refl _
  · rw [hLL h hlt, hTL h hlt]
    by_cases hjt : j < tail
    · rw [hLL j hjt, hTL j hjt]; exact h6 hlt j hjt
    · obtain rfl : j = tail := by omega
      rw [hLt, hTv]; exact Nat.le_refl _
  · by_cases hsv : s = v
    · subst hsv
      rw [hTv, ← h7 s hs, h0]
      constructor <;> intro z <;> omega
    · rw [updN_ne hsv]; exact h7 s hs
  · have hte : ∀ e', e' < fs n → tg e' < n := hG.2.2.2.2.2
    have hTs : ∀ x, T x ≠ 0 → updN T v (T (Ln h) + 1) x = T x := fun x hx => updN_ne (fun z => hx (by rw [z]; exact h0))
    by_cases hsv : s = v
    · subst hsv
      rw [hTv] at hk
      refine ⟨e, e1, e2, ?_⟩
      rw [e3, hTL h hlt]; omega
    · rw [updN_ne hsv] at hk
      obtain ⟨e', k1, k2, k3⟩ := h8 s hs k hk
      exact ⟨e', k1, k2, by rw [hTs _ (by omega)]; exact k3⟩
  · rw [hLL i (by omega)] at k3 ⊢
    rw [hTL i (by omega)]
    have := h9 i hi s e' hs k1 k2 k3
    rw [updN_ne (fun z => by rw [z, h0] at this; omega)]
    exact this
  · rw [hLL h hlt, hTL h hlt]
    by_cases hsv : s = v
    · subst hsv; rw [hTv]; omega
    · rw [updN_ne hsv]
      rcases hc with hc | hc
      · exact hP s hs hc
      · exact absurd hc hsv
theorem lj_done {w : Nat → Bool} {h tail : Nat} {T Ln : Nat → Nat} {P : Nat → Prop} (H : LJ n fs tg w h tail T Ln P) (hall : ∀ s e, s < n → fs s ≤ e → e < fs (s + 1) → tg e = Ln h → P s) : LI n fs tg w (h + 1) tail T Ln := by
  obtain ⟨⟨h1, h2, h3, h4, h5, h6, h7, h8, h9⟩, hlt, hP⟩ := H
  refine ⟨h1, by omega, h3, h4, h5, fun hl j hj => ?_, h7, h8, fun i hi s e hs k1 k2 k3 => ?_⟩
  · have a := h6 hlt j hj
    have b := h5 h (h + 1) (by omega) hl
    omega
  · by_cases hih : i < h
    · exact h9 i hih s e hs k1 k2 k3
    · obtain rfl : i = h := by omega
      exact hP s hs (hall s e hs k1 k2 k3)
/-- the arrays of the numbers and of the line -/
def TL (n tail : Nat) (T Ln : Nat → Nat) (A57 A61 : Nat → Int32) : Prop := (∀ s, s < n → cAt 6000 A57 (Int32.ofNat s) = Int32.ofNat (T s)) ∧ ∀ i, i < tail → cAt 6000 A61 (Int32.ofNat i) = Int32.ofNat (Ln i)
theorem spread_eq (hG : Gr n fs tg) (hC : CGr n fs tg ot A30 A35) {w : Nat → Bool} {mk : Int32} (hw : ∀ e, e < fs n → fX1_hasMark A35 (Int32.ofNat e) mk = (if w e = true then 1 else 0)) {A63 A65 : Nat → Int32} (hB : Back n (fs n) fs tg A63 A65) (A57 A61 : Nat → Int32) {F : Nat} (hF : 70000 ≤ F) : ∃ B57 B61 f, fX5_spread F (Int32.ofNat n) A30 A35 A63 A65 A57 A61 mk = some (B57, B61) ∧ DistOk n fs tg w f ∧ (∀ s, s < n → cAt 6000 B57 (Int32.ofNat s) = Int32.ofNat (f s)) ∧ (∀ s, s < n → f s ≤ 6000) := by
  have hn6 := hG.2.1
  have h60 := hG.2.2.2.2.1
  have htg := hG.2.2.2.2.2
  have hball := bck_all (fs n) htg
  unfold fX5_spread
  have l1 := gl_ix (st := fun u1 : (Int32 × Int32 × (Nat → Int32) × (Nat → Int32)) => fX5_spread_S6 F (Int32.ofNat n) A30 A35 A63 A65 mk u1.1 u1.2.1 u1.2.2.1 u1.2.2.2)
    (fun i s => s.2.1 = Int32.ofNat i ∧ ∃ T Ln tail, (∀ t, i ≤ t → T t = 0) ∧ s.1 = Int32.ofNat tail ∧ tail = cntN T n ∧ tail ≤ i ∧ (∀ j, j < tail → Ln j < i ∧ T (Ln j) = 1) ∧ (∀ t, t < i → T t ≤ 1 ∧ (T t = 1 ↔ anyE fs t w = true) ∧ (T t ≠ 0 → ∃ j, j < tail ∧ Ln j = t)) ∧ (∀ t, t < i → cAt 6000 s.2.2.1 (Int32.ofNat t) = Int32.ofNat (T t)) ∧ ∀ j, j < tail → cAt 6000 s.2.2.2 (Int32.ofNat j) = Int32.ofNat (Ln j))
    (fun q => ∃ T Ln tail, q.1 = Int32.ofNat tail ∧ LI n fs tg w 0 tail T Ln ∧ TL n tail T Ln q.2.1 q.2.2) n (by
    rintro i ⟨v4, v5, B57, B61⟩ hi ⟨g1, T, Ln, tail, t1, t2, t3, t4, t5, t6, t7, t8⟩
    dsimp only at g1 t2 t7 t8 ⊢
    subst g1 t2
    unfold fX5_spread_S6
    rw [if_neg (fun z => by have := (i32_le (by omega) (by omega)).mp z; omega), canDo_eq hG hC hw hi hF]
    simp only [Option.bind_some]
    unfold fX5_spread_J33 fX5_spread_J60
    have hput : ∀ x : Int32, cAt 6000 (cPut 6000 B57 (Int32.ofNat i) x) (Int32.ofNat i) = x := fun x => by rw [cAt_put (by omega) (by decide) (by omega), if_pos rfl]
    cases ha : anyE fs i w
    · rw [if_pos (show (if false = true then (1 : Int32) else 0) = 0 from rfl), hput, if_neg (by decide), i32_succ]
      refine ⟨_, rfl, rfl, T, Ln, tail, fun t ht => t1 t (by omega), rfl, t3, by omega, fun j hj => ⟨by have := (t5 j hj).1; omega, (t5 j hj).2⟩, fun t ht => ?_, fun t ht => ?_, t8⟩
      · by_cases hti : t = i
        · subst hti
          have := t1 t (Nat.le_refl _)
          exact ⟨by omega, ⟨fun z => by omega, fun z => by rw [ha] at z; exact absurd z (by decide)⟩, fun z => absurd this z⟩
        · exact t6 t (by omega)
      · show cAt 6000 (cPut 6000 B57 (Int32.ofNat i) 0) (Int32.ofNat t) = _
        rw [cAt_put (by omega) (by decide) (by omega)]
        by_cases hti : t = i
        · subst hti; rw [if_pos rfl, t1 t (Nat.le_refl _)]; rfl
        · rw [if_neg hti]; exact t7 t (by omega)
    · rw [if_neg (show ¬ (if true = true then (1 : Int32) else 0) = 0 by decide), hput, if_pos rfl, i32_succ, i32_succ]
      have h0 := t1 i (Nat.le_refl _)
      have hne : ∀ j, j < tail → Ln j ≠ i := fun j hj z => by have := (t5 j hj).1; omega
      refine ⟨_, rfl, rfl, updN T i 1, updN Ln tail i, tail + 1, fun t ht => ?_, rfl, by rw [cntN_upd hi h0 (by decide), ← t3], by omega, fun j hj => ?_, fun t ht => ?_, fun t ht => ?_, fun j hj => ?_⟩
      · rw [updN_ne (by omega)]; exact t1 t (by omega)
      · by_cases hjt : j < tail
        · rw [updN_ne (show j ≠ tail by omega), updN_ne (hne j hjt)]
          exact ⟨by have := (t5 j hjt).1; omega, (t5 j hjt).2⟩
        · obtain rfl : j = tail := by omega
          rw [updN_at, updN_at]
          exact ⟨by omega, rfl⟩
      · by_cases hti : t = i
        · subst hti
          rw [updN_at]
          exact ⟨Nat.le_refl _, ⟨fun _ => ha, fun _ => rfl⟩, fun _ => ⟨tail, by omega, updN_at _ _ _⟩⟩
        · rw [updN_ne hti]
          obtain ⟨k1, k2, k3⟩ := t6 t (by omega)
          refine ⟨k1, k2, fun z => ?_⟩
          obtain ⟨j, hj, hL⟩ := k3 z
          exact ⟨j, by omega, by rw [updN_ne (by omega)]; exact hL⟩
      · show cAt 6000 (cPut 6000 B57 (Int32.ofNat i) 1) (Int32.ofNat t) = _
        rw [cAt_put (by omega) (by decide) (by omega)]
        by_cases hti : t = i
        · subst hti; rw [if_pos rfl, updN_at]; rfl
        · rw [if_neg hti, updN_ne hti]; exact t7 t (by omega)
      · show cAt 6000 (cPut 6000 B61 (Int32.ofNat tail) (Int32.ofNat i)) (Int32.ofNat j) = _
        rw [cAt_put (by omega) (by decide) (by omega)]
        by_cases hjt : j = tail
        · subst hjt; rw [if_pos rfl, updN_at]
        · rw [if_neg hjt, updN_ne hjt]; exact t8 j (by omega)) (by
    rintro ⟨v4, v5, B57, B61⟩ ⟨g1, T, Ln, tail, t1, t2, t3, t4, t5, t6, t7, t8⟩
    dsimp only at g1 t2 t7 t8 ⊢
    subst g1 t2
    unfold fX5_spread_S6
    rw [if_pos ((i32_le (by omega) (by omega)).mpr (Nat.le_refl _))]
    refine ⟨_, rfl, T, Ln, tail, rfl, ⟨t3, Nat.zero_le _, fun i hi => ⟨(t5 i hi).1, by rw [(t5 i hi).2]; exact Nat.le_refl _, by rw [(t5 i hi).2]; omega⟩, fun s hs h0 => (t6 s hs).2.2 h0, fun i j hij hj => by rw [(t5 i (by omega)).2, (t5 j hj).2]; exact Nat.le_refl _, fun h0 j hj => by rw [(t5 j hj).2]; omega, fun s hs => by rw [(t6 s hs).2.1, anyE_iff], fun s hs k hk => by have := (t6 s hs).1; omega, fun i hi => by omega⟩, t7, t8⟩) F 0 (0, 0, A57, A61) (Nat.zero_le _) ⟨rfl, fun _ => 0, fun _ => 0, 0, fun t _ => rfl, rfl, by
      exact (cntN_zero n).symm, Nat.le_refl _, fun j hj => by omega, fun t ht => by omega, fun t ht => by omega, fun j hj => by omega⟩ (by omega)
  obtain ⟨q1, e1, T0, Ln0, tail0, hq1, hLI0, hTL0⟩ := l1
  rw [e1]
  simp only [Option.bind_some]
  have l2 := gl_inv (st := fun u11 : (Int32 × Int32 × (Nat → Int32) × (Nat → Int32)) => fX5_spread_S69 F (Int32.ofNat n) A30 A35 A63 A65 u11.1 u11.2.1 u11.2.2.1 u11.2.2.2)
    (fun s => ∃ T Ln tail h, s.1 = Int32.ofNat tail ∧ s.2.1 = Int32.ofNat h ∧ LI n fs tg w h tail T Ln ∧ TL n tail T Ln s.2.2.1 s.2.2.2)
    (fun s => n - s.2.1.toNatClampNeg)
    (fun q => ∃ f, DistOk n fs tg w f ∧ (∀ s, s < n → cAt 6000 q.1 (Int32.ofNat s) = Int32.ofNat (f s)) ∧ (∀ s, s < n → f s ≤ 6000)) (by
    rintro ⟨v4, v5, B57, B61⟩ ⟨T, Ln, tail, h, g1, g2, hLI, hTL⟩
    dsimp only at g1 g2 hTL ⊢
    subst g1 g2
    have htn : tail ≤ n := by rw [hLI.1]; exact cntN_le T n
    unfold fX5_spread_S69
    by_cases hht : h < tail
    · right
      rw [if_neg (fun z => by have := (i32_le (by omega) (by omega)).mp z; omega), if_neg (fun z => by have := (i32_le (a := 6000) (by decide) (by omega)).mp z; omega), hTL.2 h hht]
      have hLh := hLI.2.2.1 h hht
      have hbs : bck tg (fs n) (Ln h + 1) ≤ fs n := by have := bck_mono tg (fs n) (show Ln h + 1 ≤ n by omega); omega
      have hbb := bck_mono tg (fs n) (show Ln h ≤ Ln h + 1 by omega)
      rw [hB.1 (Ln h) (by omega)]
      have inner := gl_ix (st := fun u16 : (Int32 × Int32 × (Nat → Int32) × (Nat → Int32)) => fX5_spread_S106 F (Int32.ofNat n) A30 A35 A63 A65 (Int32.ofNat h) (Int32.ofNat (Ln h)) u16.1 u16.2.1 u16.2.2.1 u16.2.2.2)
        (fun j s => ∃ T' Ln' tail', s.2.1 = Int32.ofNat (bck tg (fs n) (Ln h) + j) ∧ s.1 = Int32.ofNat tail' ∧ Ln' h = Ln h ∧ LJ n fs tg w h tail' T' Ln' (fun v => ∃ e, e < fs n ∧ tg e = Ln h ∧ fs v ≤ e ∧ e < fs (v + 1) ∧ posE tg (fs n) e < bck tg (fs n) (Ln h) + j) ∧ TL n tail' T' Ln' s.2.2.1 s.2.2.2)
        (fun q => ∃ T' Ln' tail', q.1 = Int32.ofNat tail' ∧ LI n fs tg w (h + 1) tail' T' Ln' ∧ TL n tail' T' Ln' q.2.1 q.2.2) (bck tg (fs n) (Ln h + 1) - bck tg (fs n) (Ln h)) (by
        rintro j ⟨w4, w7, D57, D61⟩ hj ⟨T', Ln', tail', k1, k2, k3, k4, k5⟩
        dsimp only at k1 k2 k5 ⊢
        subst k1 k2
        have htn' : tail' ≤ n := by rw [k4.1.1]; exact cntN_le T' n
        -- which edge stands at this place
        have hcnt : bck tg (fs n) (Ln h + 1) = bck tg (fs n) (Ln h) + cntT tg (Ln h) (fs n) := bck_succ tg (fs n) (Ln h)
        obtain ⟨e, he1, he2, he3⟩ := cntT_find tg (Ln h) (fs n) (cntT tg (Ln h) (fs n) - 1 - j) (by omega)
        have hpos : posE tg (fs n) e = bck tg (fs n) (Ln h) + j := by
          unfold posE
          rw [he2, he3, hcnt]; omega
        obtain ⟨v, hv1, hv2, hv3, hv4⟩ := hB.2 e he1
        rw [hpos] at hv4
        have huniq : ∀ u e', e' < fs n → tg e' = Ln h → fs u ≤ e' → e' < fs (u + 1) → u < n → posE tg (fs n) e' < bck tg (fs n) (Ln h) + (j + 1) → ((∃ e, e < fs n ∧ tg e = Ln h ∧ fs u ≤ e ∧ e < fs (u + 1) ∧ posE tg (fs n) e < bck tg (fs n) (Ln h) + j) ∨ u = v) := by
          intro u e' p1 p2 p3 p4 p5 p6
          by_cases hee : e' = e
          · right
            subst hee
            rcases Nat.lt_trichotomy u v with hl | hl | hl
            · have := gr_mono hG (show u + 1 ≤ v by omega) (by omega); omega
            · exact hl
            · have := gr_mono hG (show v + 1 ≤ u by omega) (by omega); omega
          · left
            have hne : posE tg (fs n) e' ≠ posE tg (fs n) e := by
              rcases Nat.lt_or_gt_of_ne hee with hl | hl
              · exact fun z => posE_inj tg he1 p1 hl z.symm
              · exact posE_inj tg p1 he1 hl
            exact ⟨e', p1, p2, p3, p4, by omega⟩
        have hto : ∀ {tail'' : Nat} {T'' Ln'' : Nat → Nat}, LJ n fs tg w h tail'' T'' Ln'' (fun s => (∃ e, e < fs n ∧ tg e = Ln h ∧ fs s ≤ e ∧ e < fs (s + 1) ∧ posE tg (fs n) e < bck tg (fs n) (Ln h) + j) ∨ s = v) → LJ n fs tg w h tail'' T'' Ln'' (fun s => ∃ e, e < fs n ∧ tg e = Ln h ∧ fs s ≤ e ∧ e < fs (s + 1) ∧ posE tg (fs n) e < bck tg (fs n) (Ln h) + (j + 1)) := by
          intro tail'' T'' Ln'' ⟨a, b, c⟩
          refine ⟨a, b, fun s hs hc => ?_⟩
          obtain ⟨e', p1, p2, p3, p4, p5⟩ := hc
          exact c s hs (huniq s e' p1 p2 p3 p4 hs p5)
        unfold fX5_spread_S106 fX5_spread_J170
        rw [i32_succ, hB.1 (Ln h + 1) (by omega), if_neg (fun z => by have := (i32_le (by omega) (by omega)).mp z; omega), hv4, k5.1 v hv1, k5.1 (Ln h) hLh.1, i32_succ, i32_succ, i32_succ]
        by_cases h0 : T' v = 0
        · rw [if_pos (show Int32.ofNat (T' v) = 0 by rw [h0]; rfl)]
          have hadd := lj_add hG k4 hv1 h0 hv2 hv3 (by rw [he2, k3])
          have hlt' := cntN_lt hv1 h0
          have htl := k4.1.1
          rw [k3] at hadd
          have hh := k4.2.1
          refine ⟨_, rfl, _, _, _, rfl, rfl, ?_, hto hadd, fun s hs => ?_, fun i hi => ?_⟩
          · rw [updN_ne (by omega)]; exact k3
          · show cAt 6000 (cPut 6000 D57 (Int32.ofNat v) (Int32.ofNat (T' (Ln h) + 1))) (Int32.ofNat s) = _
            rw [cAt_put (by omega) (by decide) (by omega)]
            by_cases hsv : s = v
            · subst hsv; rw [if_pos rfl, updN_at]
            · rw [if_neg hsv, updN_ne hsv]; exact k5.1 s hs
          · show cAt 6000 (cPut 6000 D61 (Int32.ofNat tail') (Int32.ofNat v)) (Int32.ofNat i) = _
            rw [cAt_put (by omega) (by decide) (by omega)]
            by_cases hit : i = tail'
            · subst hit; rw [if_pos rfl, updN_at]
            · rw [if_neg hit, updN_ne hit]; exact k5.2 i (by omega)
        · have hTb : T' v < 2 ^ 31 := by
            obtain ⟨i, hi, hL⟩ := k4.1.2.2.2.1 v hv1 h0
            have := (k4.1.2.2.1 i hi).2.2
            rw [hL] at this; omega
          rw [if_neg (show ¬ Int32.ofNat (T' v) = 0 from fun z => h0 ((i32_eq (b := 0) hTb (by decide)).mp z))]
          exact ⟨_, rfl, T', Ln', tail', rfl, rfl, k3, hto (lj_skip k4 hv1 h0), k5⟩) (by
        rintro ⟨w4, w7, D57, D61⟩ ⟨T', Ln', tail', k1, k2, k3, k4, k5⟩
        dsimp only at k1 k2 k5 ⊢
        subst k1 k2
        unfold fX5_spread_S106
        rw [i32_succ, hB.1 (Ln h + 1) (by omega), if_pos ((i32_le (by omega) (by omega)).mpr (by omega))]
        refine ⟨_, rfl, T', Ln', tail', rfl, lj_done k4 (fun s e hs p1 p2 p3 => ?_), k5⟩
        have hlt : e < fs n := Nat.lt_of_lt_of_le p2 (gr_mono hG (by omega) (Nat.le_refl _))
        rw [k3] at p3
        have := posE_in tg (m := fs n) hlt
        rw [p3] at this
        exact ⟨e, hlt, p3, p1, p2, by omega⟩) F 0 (Int32.ofNat tail, Int32.ofNat (bck tg (fs n) (Ln h)), B57, B61) (Nat.zero_le _) ⟨T, Ln, tail, rfl, rfl, rfl, ⟨hLI, hht, fun s hs ⟨e, p1, p2, p3, p4, p5⟩ => by
          have := posE_in tg (m := fs n) p1
          rw [p2] at this
          omega⟩, hTL⟩ (by omega)
      obtain ⟨q, f1, T', Ln', tail', f2, f3, f4⟩ := inner
      rw [f1]
      simp only [Option.bind_some]
      refine ⟨_, rfl, ⟨T', Ln', tail', h + 1, f2, i32_succ h, f3, f4⟩, ?_⟩
      show n - (Int32.ofNat h + 1).toNatClampNeg < n - (Int32.ofNat h).toNatClampNeg
      rw [i32_succ, tnc (by omega), tnc (by omega)]
      omega
    · left
      have hht' : h = tail := by have := hLI.2.1; omega
      subst hht'
      rw [if_pos ((i32_le (by omega) (by omega)).mpr (Nat.le_refl _))]
      refine ⟨_, rfl, T, li_dist hG hLI, hTL.1, fun s hs => ?_⟩
      by_cases h0 : T s = 0
      · omega
      · obtain ⟨i, hi, hL⟩ := hLI.2.2.2.1 s hs h0
        have := (hLI.2.2.1 i hi).2.2
        rw [hL] at this; omega) F (q1.1, 0, q1.2.1, q1.2.2) ⟨T0, Ln0, tail0, 0, hq1, rfl, hLI0, hTL0⟩ (by
      show n - (0 : Int32).toNatClampNeg < F
      omega)
  obtain ⟨q, e2, f, hf1, hf2, hf3⟩ := l2
  rw [e2]
  exact ⟨q.1, q.2, f, rfl, hf1, hf2, hf3⟩
/-- the class's distances -/
def RngOk (n : Nat) (fs tg ot : Nat → Nat) (A57 A59 : Nat → Int32) : Prop := ∃ fb fg, DistOk n fs tg (fun e => badO (ot e)) fb ∧ DistOk n fs tg (fun e => goodO (ot e)) fg ∧ ∀ s, s < n → cAt 6000 A57 (Int32.ofNat s) = Int32.ofNat (fb s) ∧ cAt 6000 A59 (Int32.ofNat s) = Int32.ofNat (fg s) ∧ fb s ≤ 6000 ∧ fg s ≤ 6000
theorem measure_eq (hG : Gr n fs tg) (hC : CGr n fs tg ot A30 A35) (A57 A59 A61 A63 A65 : Nat → Int32) {F : Nat} (hF : 70000 ≤ F) : ∃ B57 B59 B61 B63 B65, fX5_measure F (Int32.ofNat n) A30 A35 A57 A59 A61 A63 A65 = some (B57, B59, B61, B63, B65) ∧ RngOk n fs tg ot B57 B59 := by
  unfold fX5_measure
  obtain ⟨B63, B65, e1, hB⟩ := turn_eq hG hC A63 A65 hF
  rw [e1]
  simp only [Option.bind_some]
  obtain ⟨B57, B61, fb, e2, f1, f2, f3⟩ := spread_eq hG hC (w := fun e => badO (ot e)) (mk := 1) (fun e he => (hC.2 e he).2.1) hB A57 A61 hF
  rw [e2]
  simp only [Option.bind_some]
  obtain ⟨B59, B61', fg, e3, g1, g2, g3⟩ := spread_eq hG hC (w := fun e => goodO (ot e)) (mk := 2) (fun e he => (hC.2 e he).2.2) hB A59 B61 hF
  rw [e3]
  exact ⟨_, _, _, _, _, rfl, fb, fg, f1, g1, fun s hs => ⟨f2 s hs, g2 s hs, f3 s hs, g3 s hs⟩⟩
end SPR
