/-! part 76: by how many acts: the numbers, and the reference's -/
theorem gl_find {σ ρ : Type} {st : σ → Option (ρ ⊕ σ)} (f : Nat → σ) (P : Nat → Prop) (no : ρ) (yes : Nat → ρ) (b : Nat) (h1 : ∀ e, e < b → ¬ P e → st (f e) = some (.inr (f (e + 1)))) (h2 : ∀ e, e < b → P e → st (f e) = some (.inl (yes e))) (h3 : st (f b) = some (.inl no)) : ∀ (m a F : Nat), a + m = b → m < F → (∃ e, a ≤ e ∧ e < b ∧ P e ∧ (∀ e', a ≤ e' → e' < e → ¬ P e') ∧ gloop st F (f a) = some (yes e)) ∨ ((∀ e, a ≤ e → e < b → ¬ P e) ∧ gloop st F (f a) = some no) := by
  intro m
  induction m with
  | zero =>
    intro a F hab hF
    obtain ⟨G, rfl⟩ : ∃ G, F = G + 1 := ⟨F - 1, by omega⟩
    obtain rfl : a = b := by omega
    exact Or.inr ⟨fun e h1 h2 => by omega, by simp only [gloop, h3]⟩
  | succ m ih =>
    intro a F hab hF
    obtain ⟨G, rfl⟩ : ∃ G, F = G + 1 := ⟨F - 1, by omega⟩
    by_cases hP : P a
    · exact Or.inl ⟨a, Nat.le_refl _, by omega, hP, fun e' h1 h2 => by omega, by simp only [gloop, h2 a (by omega) hP]⟩
    · rcases ih (a + 1) G (by omega) (by omega) with ⟨e, g1, g2, g3, g4, g5⟩ | ⟨g1, g2⟩
      · refine Or.inl ⟨e, by omega, g2, g3, fun e' k1 k2 => ?_, by simp only [gloop, h1 a (by omega) hP]; exact g5⟩
        by_cases hea : e' = a
        · subst hea; exact hP
        · exact g4 e' (by omega) k2
      · refine Or.inr ⟨fun e k1 k2 => ?_, by simp only [gloop, h1 a (by omega) hP]; exact g2⟩
        by_cases hea : e = a
        · subst hea; exact hP
        · exact g1 e (by omega) k2
def anyE (fs : Nat → Nat) (s : Nat) (p : Nat → Bool) : Bool := (List.range (fs (s + 1) - fs s)).any (fun j => p (fs s + j))
theorem anyE_iff {fs : Nat → Nat} {s : Nat} {p : Nat → Bool} : anyE fs s p = true ↔ ∃ e, fs s ≤ e ∧ e < fs (s + 1) ∧ p e = true := by
  unfold anyE
  rw [List.any_eq_true]
  constructor
  · rintro ⟨j, hj, hp⟩
    rw [List.mem_range] at hj
    exact ⟨fs s + j, by omega, by omega, hp⟩
  · rintro ⟨e, h1, h2, hp⟩
    exact ⟨e - fs s, List.mem_range.mpr (by omega), by rw [show fs s + (e - fs s) = e by omega]; exact hp⟩
def DistOk (n : Nat) (fs tg : Nat → Nat) (w : Nat → Bool) (f : Nat → Nat) : Prop :=
  (∀ s, s < n → (f s = 1 ↔ ∃ e, fs s ≤ e ∧ e < fs (s + 1) ∧ w e = true)) ∧
  (∀ s, s < n → ∀ k, f s = k + 2 → ∃ e, fs s ≤ e ∧ e < fs (s + 1) ∧ f (tg e) = k + 1) ∧
  (∀ s, s < n → ∀ e, fs s ≤ e → e < fs (s + 1) → ∀ k, f (tg e) = k + 1 → 1 ≤ f s ∧ f s ≤ k + 2)
theorem dist_le {n : Nat} {fs tg : Nat → Nat} {w : Nat → Bool} {f g : Nat → Nat} (hG : Gr n fs tg) (hf : DistOk n fs tg w f) (hg : DistOk n fs tg w g) : ∀ k s, s < n → f s = k + 1 → 1 ≤ g s ∧ g s ≤ k + 1 := by
  intro k
  induction k with
  | zero =>
    intro s hs h
    have := (hg.1 s hs).mpr ((hf.1 s hs).mp h)
    omega
  | succ k ih =>
    intro s hs h
    obtain ⟨e, e1, e2, e3⟩ := hf.2.1 s hs k h
    have hlt : e < fs n := Nat.lt_of_lt_of_le e2 (gr_mono hG (by omega) (Nat.le_refl _))
    obtain ⟨g1, g2⟩ := ih (tg e) (hG.2.2.2.2.2 e hlt) e3
    have := hg.2.2 s hs e e1 e2 (g (tg e) - 1) (by omega)
    omega
theorem dist_unique {n : Nat} {fs tg : Nat → Nat} {w : Nat → Bool} {f g : Nat → Nat} (hG : Gr n fs tg) (hf : DistOk n fs tg w f) (hg : DistOk n fs tg w g) {s : Nat} (hs : s < n) : f s = g s := by
  by_cases h0 : f s = 0
  · by_cases h1 : g s = 0
    · omega
    · have := dist_le hG hg hf (g s - 1) s hs (by omega)
      omega
  · have a := dist_le hG hf hg (f s - 1) s hs (by omega)
    have b := dist_le hG hg hf (g s - 1) s hs (by omega)
    omega
/-! rounds -/
def cndB (tg : Nat → Nat) (w : Nat → Bool) (fv : Nat → Nat) (r e : Nat) : Bool := if r = 1 then w e else decide (fv (tg e) = r - 1)
def nxt (fs tg : Nat → Nat) (w : Nat → Bool) (r : Nat) (fv : Nat → Nat) : Nat → Nat := fun s => if fv s = 0 ∧ anyE fs s (cndB tg w fv r) = true then r else fv s
def rnd (fs tg : Nat → Nat) (w : Nat → Bool) : Nat → Nat → Nat
  | 0 => fun _ => 0
  | r + 1 => nxt fs tg w (r + 1) (rnd fs tg w r)
section RND
variable {fs tg : Nat → Nat} {w : Nat → Bool}
theorem rnd_le : ∀ r s, rnd fs tg w r s ≤ r := by
  intro r
  induction r with
  | zero => intro s; exact Nat.le_refl _
  | succ r ih =>
    intro s
    show (if _ then r + 1 else rnd fs tg w r s) ≤ r + 1
    split
    · exact Nat.le_refl _
    · have := ih s; omega
theorem rnd_keep {r s : Nat} (h : rnd fs tg w r s ≠ 0) : ∀ j, rnd fs tg w (r + j) s = rnd fs tg w r s := by
  intro j
  induction j with
  | zero => rfl
  | succ j ih =>
    show (if _ then r + j + 1 else rnd fs tg w (r + j) s) = _
    rw [if_neg (fun z => h (by rw [← ih]; exact z.1)), ih]
/-- what stands after k rounds was set in its own round -/
theorem rnd_at {k s : Nat} : ∀ r, rnd fs tg w r s = k + 1 → k + 1 ≤ r ∧ rnd fs tg w (k + 1) s = k + 1 ∧ rnd fs tg w k s = 0 ∧ anyE fs s (cndB tg w (rnd fs tg w k) (k + 1)) = true := by
  intro r
  induction r with
  | zero => intro h; exact absurd h (by show ¬ 0 = k + 1; omega)
  | succ r ih =>
    intro h
    have hd : rnd fs tg w (r + 1) s = if rnd fs tg w r s = 0 ∧ anyE fs s (cndB tg w (rnd fs tg w r) (r + 1)) = true then r + 1 else rnd fs tg w r s := rfl
    by_cases hc : rnd fs tg w r s = 0 ∧ anyE fs s (cndB tg w (rnd fs tg w r) (r + 1)) = true
    · rw [hd, if_pos hc] at h
      obtain rfl : r = k := by omega
      exact ⟨Nat.le_refl _, by rw [hd, if_pos hc], hc.1, hc.2⟩
    · rw [hd, if_neg hc] at h
      obtain ⟨h1, h2, h3, h4⟩ := ih h
      exact ⟨by omega, h2, h3, h4⟩
theorem rnd_dist {n : Nat} (hG : Gr n fs tg) {R : Nat} (hR : 1 ≤ R) (hst : ∀ s, s < n → rnd fs tg w R s = rnd fs tg w (R - 1) s) : DistOk n fs tg w (rnd fs tg w R) := by
  refine ⟨fun s hs => ?_, fun s hs k hk => ?_, fun s hs e e1 e2 k hk => ?_⟩
  · constructor
    · intro h
      obtain ⟨h1, h2, h3, h4⟩ := rnd_at R h
      obtain ⟨e, e1, e2, e3⟩ := anyE_iff.mp h4
      exact ⟨e, e1, e2, by unfold cndB at e3; rw [if_pos rfl] at e3; exact e3⟩
    · rintro ⟨e, e1, e2, e3⟩
      have h1 : rnd fs tg w 1 s = 1 := by
        show (if rnd fs tg w 0 s = 0 ∧ anyE fs s (cndB tg w (rnd fs tg w 0) 1) = true then 1 else _) = 1
        rw [if_pos ⟨rfl, anyE_iff.mpr ⟨e, e1, e2, by unfold cndB; rw [if_pos rfl]; exact e3⟩⟩]
      have := rnd_keep (r := 1) (s := s) (fs := fs) (tg := tg) (w := w) (by omega) (R - 1)
      rw [show 1 + (R - 1) = R by omega] at this
      omega
  · obtain ⟨h1, h2, h3, h4⟩ := rnd_at R hk
    obtain ⟨e, e1, e2, e3⟩ := anyE_iff.mp h4
    refine ⟨e, e1, e2, ?_⟩
    unfold cndB at e3
    rw [if_neg (by omega), decide_eq_true_eq] at e3
    have := rnd_keep (r := k + 1) (s := tg e) (fs := fs) (tg := tg) (w := w) (by omega) (R - (k + 1))
    rw [show k + 1 + (R - (k + 1)) = R by omega] at this
    omega
  · have hlt : e < fs n := Nat.lt_of_lt_of_le e2 (gr_mono hG (by omega) (Nat.le_refl _))
    have ht := hG.2.2.2.2.2 e hlt
    rw [hst _ ht] at hk
    obtain ⟨h1, h2, h3, h4⟩ := rnd_at (R - 1) hk
    have hs2 : rnd fs tg w (k + 2) s ≠ 0 := by
      have hd : rnd fs tg w (k + 1 + 1) s = if rnd fs tg w (k + 1) s = 0 ∧ anyE fs s (cndB tg w (rnd fs tg w (k + 1)) (k + 1 + 1)) = true then k + 1 + 1 else rnd fs tg w (k + 1) s := rfl
      show rnd fs tg w (k + 1 + 1) s ≠ 0
      rw [hd]
      by_cases h0 : rnd fs tg w (k + 1) s = 0
      · rw [if_pos ⟨h0, anyE_iff.mpr ⟨e, e1, e2, by unfold cndB; rw [if_neg (by omega), decide_eq_true_eq, h2]; omega⟩⟩]
        omega
      · rw [if_neg (fun z => h0 z.1)]; exact h0
    have hk2 := rnd_keep hs2 (R - (k + 2))
    rw [show k + 2 + (R - (k + 2)) = R by omega] at hk2
    have hle := rnd_le (fs := fs) (tg := tg) (w := w) (k + 2) s
    omega
end RND
/-! the reference's numbers by rounds -/
def enc (k : Nat) : Int32 := if k = 0 then -1 else Int32.ofNat k
theorem enc_nn {k : Nat} (h : k < 2 ^ 31) : (0 ≤ enc k) ↔ k ≠ 0 := by
  unfold enc
  by_cases h0 : k = 0
  · rw [if_pos h0]; exact ⟨fun z => absurd z (by decide), fun z => absurd h0 z⟩
  · rw [if_neg h0]; exact ⟨fun _ => h0, fun _ => i32_0le h⟩
theorem enc_eq {k r : Nat} (hk : k < 2 ^ 31) (hr : r < 2 ^ 31) (h1 : 1 ≤ r) : (enc k = Int32.ofNat r) ↔ k = r := by
  unfold enc
  by_cases h0 : k = 0
  · rw [if_pos h0]
    refine ⟨fun z => ?_, fun z => by omega⟩
    have := congrArg Int32.toInt z
    rw [i32_int hr] at this
    have h2 : (-1 : Int32).toInt = -1 := rfl
    omega
  · rw [if_neg h0, i32_eq hk hr]
section FAR
variable {n : Nat} {fs tg ot : Nat → Nat} {A81 A82 A83 : Nat → Int32}
theorem canBy_eq (hG : Gr n fs tg) (hM : MGr n fs tg ot A81 A82 A83) {w : Nat → Bool} {fl : Int32} (hw : ∀ e, e < fs n → fX12_isWanted (Int32.ofNat (ot e)) fl = some (if w e = true then 1 else 0)) {fv : Nat → Nat} {A97 : Nat → Int32} (hfv : ∀ s, s < n → A97 s = enc (fv s)) (hfb : ∀ s, s < n → fv s < 2 ^ 31) {s r : Nat} (hs : s < n) (hr : 1 ≤ r) (hr2 : r < 2 ^ 31) {F : Nat} (hF : 70000 ≤ F) : fX12_canBy F A81 A82 A83 A97 (Int32.ofNat s) (Int32.ofNat r) fl = some (if anyE fs s (cndB tg w fv r) = true then 1 else 0) := by
  have hn6 := hG.2.1
  have hmn := gr_mono hG (show s + 1 ≤ n by omega) (Nat.le_refl _)
  have hms := hG.2.2.2.1 s hs
  have h60 := hG.2.2.2.2.1
  unfold fX12_canBy
  rw [if_pos (inb_t (by omega) (by omega)), tnc (by omega), hM.1 s (by omega)]
  have step : ∀ e, e < fs (s + 1) → fX12_canBy_S8 F A81 A82 A83 A97 (Int32.ofNat s) (Int32.ofNat r) fl (Int32.ofNat e) = if cndB tg w fv r e = true then some (.inl (if r = 1 then .inl () else .inr (.inl ()))) else some (.inr (Int32.ofNat (e + 1))) := by
    intro e he
    have hlt : e < fs n := by omega
    have ht := hG.2.2.2.2.2 e hlt
    unfold fX12_canBy_S8 fX12_canBy_J63
    rw [i32_succ, if_pos (inb_t (by omega) (by omega)), tnc (by omega), hM.1 (s + 1) (by omega), if_neg (fun z => by have := (i32_le (by omega) (by omega)).mp z; omega), i32_succ, if_pos (inb_t (by omega) (by omega)), if_pos (inb_t (by omega) (by omega)), tnc (by omega), (hM.2 e hlt).1, (hM.2 e hlt).2, hw e hlt]
    unfold cndB
    by_cases h1 : r = 1
    · subst h1
      rw [if_pos (show Int32.ofNat 1 = 1 from rfl), if_pos rfl]
      simp only [Option.bind_some]
      cases hwe : w e
      · rw [if_pos (show (if false = true then (1 : Int32) else 0) = 0 from rfl), if_neg (show ¬ false = true by decide)]
      · rw [if_neg (show ¬ (if true = true then (1 : Int32) else 0) = 0 by decide), if_pos (show true = true from rfl)]; rfl
    · rw [if_neg (show ¬ Int32.ofNat r = 1 from fun z => h1 ((i32_eq (b := 1) hr2 (by decide)).mp z)), if_neg h1, if_pos (inb_t (by omega) (by omega)), tnc (by omega), hfv _ ht, show Int32.ofNat r - 1 = Int32.ofNat (r - 1) from i32_pred hr hr2]
      by_cases hq : fv (tg e) = r - 1
      · rw [if_pos ((enc_eq (hfb _ ht) (by omega) (by omega)).mpr hq), if_pos (decide_eq_true hq), if_neg h1]
      · rw [if_neg (fun z => hq ((enc_eq (hfb _ ht) (by omega) (by omega)).mp z)), if_neg (by rw [decide_eq_true_eq]; exact hq)]
  have key := gl_find (st := fun u2 : Int32 => fX12_canBy_S8 F A81 A82 A83 A97 (Int32.ofNat s) (Int32.ofNat r) fl u2) (fun e => Int32.ofNat e) (fun e => cndB tg w fv r e = true) (.inr (.inr ())) (fun _ => if r = 1 then .inl () else .inr (.inl ())) (fs (s + 1)) (fun e he hP => by
    show fX12_canBy_S8 F A81 A82 A83 A97 (Int32.ofNat s) (Int32.ofNat r) fl (Int32.ofNat e) = _
    rw [step e he, if_neg hP]) (fun e he hP => by
    show fX12_canBy_S8 F A81 A82 A83 A97 (Int32.ofNat s) (Int32.ofNat r) fl (Int32.ofNat e) = _
    rw [step e he, if_pos hP]) (by
    show fX12_canBy_S8 F A81 A82 A83 A97 (Int32.ofNat s) (Int32.ofNat r) fl (Int32.ofNat (fs (s + 1))) = _
    unfold fX12_canBy_S8
    rw [i32_succ, if_pos (inb_t (by omega) (by omega)), tnc (by omega), hM.1 (s + 1) (by omega), if_pos ((i32_le (by omega) (by omega)).mpr (Nat.le_refl _))]) (fs (s + 1) - fs s) (fs s) F (by omega) (by omega)
  rcases key with ⟨e, e1, e2, e3, _, e5⟩ | ⟨e1, e2⟩
  · rw [e5, if_pos (anyE_iff.mpr ⟨e, e1, e2, e3⟩)]
    simp only [Option.bind_some]
    by_cases h1 : r = 1
    · rw [if_pos h1]; rfl
    · rw [if_neg h1]; rfl
  · rw [e2, if_neg (fun z => by obtain ⟨e, k1, k2, k3⟩ := anyE_iff.mp z; exact e1 e k1 k2 k3)]
    rfl
theorem sumTo_le' {g h : Nat → Nat} : ∀ n, (∀ k, k < n → g k ≤ h k) → sumTo g n ≤ sumTo h n := by
  intro n
  induction n with
  | zero => intro _; exact Nat.le_refl _
  | succ n ih => intro e; simp only [sumTo]; have := ih (fun k hk => e k (by omega)); have := e n (by omega); omega
theorem sumTo_lt {g h : Nat → Nat} {k : Nat} : ∀ n, k < n → (∀ j, j < n → g j ≤ h j) → g k < h k → sumTo g n < sumTo h n := by
  intro n
  induction n with
  | zero => intro hk; omega
  | succ n ih =>
    intro hk e hlt
    simp only [sumTo]
    by_cases hkn : k = n
    · subst hkn
      have := sumTo_le' (g := g) (h := h) k (fun j hj => e j (by omega))
      omega
    · have := ih (by omega) (fun j hj => e j (by omega)) hlt
      have := e n (by omega)
      omega
/-- one round of the reference -/
theorem far_round (hG : Gr n fs tg) (hM : MGr n fs tg ot A81 A82 A83) {w : Nat → Bool} {fl : Int32} (hw : ∀ e, e < fs n → fX12_isWanted (Int32.ofNat (ot e)) fl = some (if w e = true then 1 else 0)) {fv : Nat → Nat} {A97 : Nat → Int32} (hfv : ∀ s, s < n → A97 s = enc (fv s)) {r : Nat} (hr : 1 ≤ r) (hr2 : r < 2 ^ 30) (hfb : ∀ s, fv s < r) {F : Nat} (hF : 70000 ≤ F) : ∃ q, gloop (fun u7 : (Int32 × Int32 × (Nat → Int32)) => fX12_laysFar_S36 F (Int32.ofNat n) A81 A82 A83 fl (Int32.ofNat r) u7.1 u7.2.1 u7.2.2) F (0, 0, A97) = some q ∧ (∀ s, s < n → q.2 s = enc (nxt fs tg w r fv s)) ∧ ((q.1 = 0 ∧ ∀ s, s < n → nxt fs tg w r fv s = fv s) ∨ (q.1 = 1 ∧ ∃ s, s < n ∧ fv s = 0 ∧ nxt fs tg w r fv s = r)) := by
  have hn6 := hG.2.1
  have hmid : ∀ i, i ≤ n → ∀ s, s < n → (if s < i then nxt fs tg w r fv s else fv s) < 2 ^ 31 := by
    intro i _ s _
    have := hfb s
    split
    · unfold nxt; split <;> omega
    · omega
  refine gl_ix (fun i s => s.2.1 = Int32.ofNat i ∧ (∀ t, t < n → s.2.2 t = enc (if t < i then nxt fs tg w r fv t else fv t)) ∧ ((s.1 = 0 ∧ ∀ t, t < i → nxt fs tg w r fv t = fv t) ∨ (s.1 = 1 ∧ ∃ t, t < i ∧ fv t = 0 ∧ nxt fs tg w r fv t = r))) (fun q : Int32 × (Nat → Int32) => (∀ s, s < n → q.2 s = enc (nxt fs tg w r fv s)) ∧ ((q.1 = 0 ∧ ∀ s, s < n → nxt fs tg w r fv s = fv s) ∨ (q.1 = 1 ∧ ∃ s, s < n ∧ fv s = 0 ∧ nxt fs tg w r fv s = r))) n ?_ ?_ F 0 (0, 0, A97) (Nat.zero_le _) ⟨rfl, fun t ht => by rw [if_neg (by omega)]; exact hfv t ht, Or.inl ⟨rfl, fun t ht => by omega⟩⟩ (by omega)
  · rintro i ⟨v2, v4, B⟩ hi ⟨g1, g2, g3⟩
    dsimp only at g1 g2 g3 ⊢
    subst g1
    have hcan := canBy_eq hG hM hw (fv := fun t => if t < i then nxt fs tg w r fv t else fv t) (A97 := B) g2 (hmid i (by omega)) hi hr (by omega) hF
    have hany : anyE fs i (cndB tg w (fun t => if t < i then nxt fs tg w r fv t else fv t) r) = anyE fs i (cndB tg w fv r) := by
      have hc : ∀ e, cndB tg w (fun t => if t < i then nxt fs tg w r fv t else fv t) r e = cndB tg w fv r e := by
        intro e
        unfold cndB
        by_cases h1 : r = 1
        · rw [if_pos h1, if_pos h1]
        · rw [if_neg h1, if_neg h1]
          congr 1
          apply propext
          show ((if tg e < i then nxt fs tg w r fv (tg e) else fv (tg e)) = r - 1) ↔ (fv (tg e) = r - 1)
          by_cases hte : tg e < i
          · rw [if_pos hte]
            unfold nxt
            by_cases hc : fv (tg e) = 0 ∧ anyE fs (tg e) (cndB tg w fv r) = true
            · rw [if_pos hc]; constructor <;> intro z <;> omega
            · rw [if_neg hc]
          · rw [if_neg hte]
      unfold anyE
      congr 1
      funext j
      rw [hc]
    rw [hany] at hcan
    unfold fX12_laysFar_S36 fX12_laysFar_J79
    rw [if_neg (fun z => by have := (i32_le (by omega) (by omega)).mp z; omega), if_pos (inb_t (by omega) (by omega)), tnc (by omega), g2 i hi, if_neg (show ¬ i < i by omega), hcan, i32_succ]
    simp only [Option.bind_some]
    have hfi := hfb i
    have upto : ∀ t, t < n → t ≠ i → (if t < i + 1 then nxt fs tg w r fv t else fv t) = (if t < i then nxt fs tg w r fv t else fv t) := by
      intro t _ hti
      by_cases h : t < i
      · rw [if_pos h, if_pos (by omega)]
      · rw [if_neg h, if_neg (by omega)]
    have keep : nxt fs tg w r fv i = fv i → ∀ t, t < n → B t = enc (if t < i + 1 then nxt fs tg w r fv t else fv t) := by
      intro hq t ht
      by_cases hti : t = i
      · subst hti
        rw [g2 t ht, if_neg (by omega), if_pos (by omega), hq]
      · rw [g2 t ht, upto t ht hti]
    have more : nxt fs tg w r fv i = fv i → ((v2 = 0 ∧ ∀ t, t < i + 1 → nxt fs tg w r fv t = fv t) ∨ (v2 = 1 ∧ ∃ t, t < i + 1 ∧ fv t = 0 ∧ nxt fs tg w r fv t = r)) := by
      intro hq
      rcases g3 with ⟨k1, k2⟩ | ⟨k1, t, k2, k3⟩
      · refine Or.inl ⟨k1, fun t ht => ?_⟩
        by_cases hti : t = i
        · subst hti; exact hq
        · exact k2 t (by omega)
      · exact Or.inr ⟨k1, t, by omega, k3⟩
    by_cases h0 : fv i = 0
    · rw [if_neg (fun z => ((enc_nn (by omega)).mp z) h0)]
      cases ha : anyE fs i (cndB tg w fv r)
      · have hq : nxt fs tg w r fv i = fv i := by unfold nxt; rw [if_neg (by rw [ha]; simp)]
        rw [if_pos (show (if false = true then (1 : Int32) else 0) = 0 from rfl)]
        exact ⟨_, rfl, rfl, keep hq, more hq⟩
      · have hq : nxt fs tg w r fv i = r := by unfold nxt; rw [if_pos ⟨h0, ha⟩]
        rw [if_neg (show ¬ (if true = true then (1 : Int32) else 0) = 0 by decide), if_pos (inb_t (by omega) (by omega))]
        refine ⟨_, rfl, rfl, fun t ht => ?_, Or.inr ⟨rfl, i, by omega, h0, hq⟩⟩
        show upd B i (Int32.ofNat r) t = _
        by_cases hti : t = i
        · subst hti
          rw [upd_at, if_pos (by omega), hq]
          unfold enc; rw [if_neg (by omega)]
        · rw [upd_ne hti, g2 t ht, upto t ht hti]
    · have hq : nxt fs tg w r fv i = fv i := by unfold nxt; rw [if_neg (fun z => h0 z.1)]
      rw [if_pos ((enc_nn (by omega)).mpr h0)]
      exact ⟨_, rfl, rfl, keep hq, more hq⟩
  · rintro ⟨v2, v4, B⟩ ⟨g1, g2, g3⟩
    dsimp only at g1 g2 g3 ⊢
    subst g1
    unfold fX12_laysFar_S36
    rw [if_pos ((i32_le (by omega) (by omega)).mpr (Nat.le_refl _))]
    refine ⟨_, rfl, fun s hs => ?_, g3⟩
    have := g2 s hs
    rw [if_pos hs] at this
    exact this
theorem laysFar_eq (hG : Gr n fs tg) (hM : MGr n fs tg ot A81 A82 A83) {w : Nat → Bool} {fl : Int32} (hw : ∀ e, e < fs n → fX12_isWanted (Int32.ofNat (ot e)) fl = some (if w e = true then 1 else 0)) (A97 : Nat → Int32) {F : Nat} (hF : 70000 ≤ F) : ∃ B f, fX12_laysFar F (Int32.ofNat n) A81 A82 A83 A97 fl = some B ∧ DistOk n fs tg w f ∧ (∀ s, s < n → B s = enc (f s)) ∧ (∀ s, f s ≤ 6002) := by
  have hn6 := hG.2.1
  unfold fX12_laysFar
  have h0 := gl_ix (st := fun u1 : (Int32 × (Nat → Int32)) => fX12_laysFar_S2 F (Int32.ofNat n) A81 A82 A83 fl u1.1 u1.2) (fun i s => s.1 = Int32.ofNat i ∧ ∀ t, t < i → s.2 t = -1) (fun q => ∀ t, t < n → q t = -1) n (by
    rintro i ⟨v, B⟩ hi ⟨g1, g2⟩
    dsimp only at g1 g2 ⊢
    subst g1
    unfold fX12_laysFar_S2
    rw [if_neg (fun z => by have := (i32_le (by omega) (by omega)).mp z; omega), if_pos (inb_t (by omega) (by omega)), tnc (by omega), i32_succ]
    refine ⟨_, rfl, rfl, fun t ht => ?_⟩
    show upd B i (-1) t = -1
    by_cases hti : t = i
    · subst hti; exact upd_at _ _ _
    · rw [upd_ne hti]; exact g2 t (by omega)) (by
    rintro ⟨v, B⟩ ⟨g1, g2⟩
    dsimp only at g1 g2 ⊢
    subst g1
    unfold fX12_laysFar_S2
    rw [if_pos ((i32_le (by omega) (by omega)).mpr (Nat.le_refl _))]
    exact ⟨_, rfl, g2⟩) F 0 (0, A97) (Nat.zero_le _) ⟨rfl, fun t ht => by omega⟩ (by omega)
  obtain ⟨B0, e0, hB0⟩ := h0
  rw [e0]
  simp only [Option.bind_some]
  have key := gl_inv (st := fun u5 : (Int32 × Int32 × (Nat → Int32)) => fX12_laysFar_S27 F (Int32.ofNat n) A81 A82 A83 fl u5.1 u5.2.1 u5.2.2)
    (fun s => ∃ r, s.2.1 = Int32.ofNat (r + 1) ∧ (∀ t, t < n → s.2.2 t = enc (rnd fs tg w r t)) ∧ r ≤ n + 1 ∧ ((s.1 = 0 ∧ 1 ≤ r ∧ ∀ t, t < n → rnd fs tg w r t = rnd fs tg w (r - 1) t) ∨ (s.1 = 1 ∧ r + sumTo (fun t => if rnd fs tg w r t = 0 then 1 else 0) n ≤ n)))
    (fun s => if s.1 = 0 then 0 else 1 + sumTo (fun t => if s.2.2 t = -1 then 1 else 0) n)
    (fun B => ∃ f, DistOk n fs tg w f ∧ (∀ s, s < n → B s = enc (f s)) ∧ (∀ s, f s ≤ 6002)) (by
    rintro ⟨v2, v3, B⟩ ⟨r, g1, g2, g3, g4⟩
    dsimp only at g1 g2 g3 g4 ⊢
    subst g1
    rcases g4 with ⟨k1, k2, k3⟩ | ⟨k1, k2⟩
    · left
      subst k1
      unfold fX12_laysFar_S27
      rw [if_pos rfl]
      exact ⟨_, rfl, _, rnd_dist hG k2 k3, g2, fun s => by have := rnd_le (fs := fs) (tg := tg) (w := w) r s; omega⟩
    · right
      subst k1
      obtain ⟨q, e1, e2, e3⟩ := far_round hG hM hw g2 (r := r + 1) (by omega) (by omega) (fun s => by have := rnd_le (fs := fs) (tg := tg) (w := w) r s; omega) hF
      unfold fX12_laysFar_S27
      rw [if_neg (by decide), e1, i32_succ]
      simp only [Option.bind_some]
      refine ⟨_, rfl, ⟨r + 1, rfl, e2, ?_, ?_⟩, ?_⟩
      · omega
      · rcases e3 with ⟨p1, p2⟩ | ⟨p1, s, p2, p3, p4⟩
        · exact Or.inl ⟨p1, by omega, fun t ht => p2 t ht⟩
        · refine Or.inr ⟨p1, ?_⟩
          have := sumTo_lt (g := fun t => if rnd fs tg w (r + 1) t = 0 then 1 else 0) (h := fun t => if rnd fs tg w r t = 0 then 1 else 0) (k := s) n p2 (fun j hj => by
            by_cases hj0 : rnd fs tg w r j = 0
            · rw [if_pos hj0]; split <;> decide
            · have hk := rnd_keep hj0 1
              rw [if_neg hj0, if_neg (by rw [hk]; exact hj0)]; exact Nat.le_refl _) (by
            rw [if_pos p3, if_neg (by rw [show rnd fs tg w (r + 1) s = r + 1 from p4]; omega)]; decide)
          omega
      · rw [if_neg (show ¬ (1 : Int32) = 0 by decide)]
        rcases e3 with ⟨p1, p2⟩ | ⟨p1, s, p2, p3, p4⟩
        · rw [if_pos p1]; omega
        · rw [if_neg (by rw [p1]; decide)]
          have hm1 : ∀ k : Nat, k < 2 ^ 31 → ((enc k = -1) ↔ k = 0) := by
            intro k hk
            unfold enc
            by_cases h0 : k = 0
            · rw [if_pos h0]; exact ⟨fun _ => h0, fun _ => rfl⟩
            · rw [if_neg h0]
              refine ⟨fun z => ?_, fun z => absurd z h0⟩
              have := congrArg Int32.toInt z
              rw [i32_int hk] at this
              have h2 : (-1 : Int32).toInt = -1 := rfl
              omega
          have := sumTo_lt (g := fun t => if q.2 t = -1 then 1 else 0) (h := fun t => if B t = -1 then 1 else 0) (k := s) n p2 (fun j hj => by
            have hl := rnd_le (fs := fs) (tg := tg) (w := w) r j
            have hl2 := rnd_le (fs := fs) (tg := tg) (w := w) (r + 1) j
            rw [e2 j hj, g2 j hj]
            by_cases hj0 : rnd fs tg w r j = 0
            · rw [if_pos ((hm1 _ (by omega)).mpr hj0)]; split <;> decide
            · have hk := rnd_keep hj0 1
              rw [if_neg (fun z => hj0 ((hm1 _ (by omega)).mp z)), if_neg (fun z => hj0 (by rw [← hk]; exact (hm1 _ (by have : rnd fs tg w (r + 1) j ≤ r + 1 := hl2; omega)).mp z))]; exact Nat.le_refl _) (by
            rw [e2 s p2, g2 s p2, p4, if_neg (fun z => by have := (hm1 _ (by omega)).mp z; omega), if_pos ((hm1 _ (by have := rnd_le (fs := fs) (tg := tg) (w := w) r s; omega)).mpr p3)]
            decide)
          show 1 + sumTo (fun t => if q.2 t = -1 then 1 else 0) n < 1 + sumTo (fun t => if B t = -1 then 1 else 0) n
          omega) F (1, 1, B0) ⟨0, rfl, fun t ht => hB0 t ht, by omega, Or.inr ⟨rfl, by
            have := sumTo_le' (g := fun t => if rnd fs tg w 0 t = 0 then 1 else 0) (h := fun _ => 1) n (fun k _ => by split <;> decide)
            rw [sumTo_one] at this
            omega⟩⟩ (by
      show (if (1 : Int32) = 0 then 0 else 1 + sumTo (fun t => if B0 t = -1 then 1 else 0) n) < F
      rw [if_neg (show ¬ (1 : Int32) = 0 by decide)]
      have := sumTo_le' (g := fun t => if B0 t = -1 then 1 else 0) (h := fun _ => 1) n (fun k _ => by split <;> decide)
      rw [sumTo_one] at this
      omega)
  obtain ⟨B, e1, f, h1, h2, h3⟩ := key
  rw [e1]
  exact ⟨B, f, rfl, h1, h2, h3⟩
end FAR
