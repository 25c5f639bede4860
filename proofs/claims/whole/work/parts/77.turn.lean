/-! part 77: the class turns the edges round -/
theorem cAt_put {N k j : Nat} {A : Nat → Int32} {x : Int32} (hk : k < N) (hN : N < 2 ^ 31) (hj : j < 2 ^ 31) : cAt N (cPut N A (Int32.ofNat k) x) (Int32.ofNat j) = if j = k then x else cAt N A (Int32.ofNat j) := by
  unfold cPut
  rw [if_pos (inb_t (by omega) hk), tnc (by omega)]
  by_cases hjk : j = k
  · subst hjk
    rw [if_pos rfl, cAt_nat hk hN, upd_at]
  · rw [if_neg hjk]
    unfold cAt
    by_cases hi : inb (Int32.ofNat j) N = true
    · rw [if_pos hi, if_pos hi, tnc hj, upd_ne hjk]
    · rw [if_neg hi, if_neg hi]
theorem sumTo_mono' {g : Nat → Nat} {a b : Nat} (h : a ≤ b) : sumTo g a ≤ sumTo g b := sumTo_mono g h
/-- how many of the edges before e lead to t -/
def cntT (tg : Nat → Nat) (t e : Nat) : Nat := sumTo (fun e' => if tg e' = t then 1 else 0) e
theorem cntT_succ (tg : Nat → Nat) (t e : Nat) : cntT tg t (e + 1) = cntT tg t e + (if tg e = t then 1 else 0) := rfl
theorem cntT_le (tg : Nat → Nat) (t : Nat) {a b : Nat} (h : a ≤ b) : cntT tg t a ≤ cntT tg t b := sumTo_mono _ h
theorem cntT_lt (tg : Nat → Nat) {e m : Nat} (h : e < m) : cntT tg (tg e) e < cntT tg (tg e) m := by
  have := cntT_le tg (tg e) (show e + 1 ≤ m by omega)
  rw [cntT_succ, if_pos rfl] at this
  omega
theorem cntT_find (tg : Nat → Nat) (t : Nat) : ∀ m v, v < cntT tg t m → ∃ e, e < m ∧ tg e = t ∧ cntT tg t e = v := by
  intro m
  induction m with
  | zero => intro v hv; exact absurd hv (Nat.not_lt_zero _)
  | succ m ih =>
    intro v hv
    by_cases h : v < cntT tg t m
    · obtain ⟨e, h1, h2, h3⟩ := ih v h
      exact ⟨e, by omega, h2, h3⟩
    · rw [cntT_succ] at hv
      by_cases ht : tg m = t
      · rw [if_pos ht] at hv
        exact ⟨m, by omega, ht, by omega⟩
      · rw [if_neg ht] at hv; omega
/-- where the sources of t's edges begin -/
def bck (tg : Nat → Nat) (m s : Nat) : Nat := sumTo (fun t => cntT tg t m) s
theorem bck_succ (tg : Nat → Nat) (m s : Nat) : bck tg m (s + 1) = bck tg m s + cntT tg s m := rfl
theorem bck_all {tg : Nat → Nat} {n : Nat} : ∀ m, (∀ e, e < m → tg e < n) → bck tg m n = m := by
  intro m
  induction m with
  | zero =>
    intro _
    show sumTo (fun _ => 0) n = 0
    have : ∀ k, sumTo (fun _ => 0) k = 0 := by
      intro k
      induction k with
      | zero => rfl
      | succ k ih => simp only [sumTo]; rw [ih]
    exact this n
  | succ m ih =>
    intro h
    have h1 := ih (fun e he => h e (by omega))
    have h2 := sumTo_upd (g := fun t => cntT tg t m) (h := fun t => cntT tg t (m + 1)) (k := tg m) n (h m (by omega)) (fun j hj hne => by rw [cntT_succ, if_neg (fun z => hne z.symm), Nat.add_zero])
    rw [cntT_succ, if_pos rfl] at h2
    show sumTo (fun t => cntT tg t (m + 1)) n = m + 1
    have h3 : sumTo (fun t => cntT tg t m) n = m := h1
    omega
def posE (tg : Nat → Nat) (m e : Nat) : Nat := bck tg m (tg e + 1) - 1 - cntT tg (tg e) e
theorem posE_in (tg : Nat → Nat) {m e : Nat} (h : e < m) : bck tg m (tg e) ≤ posE tg m e ∧ posE tg m e < bck tg m (tg e + 1) ∧ posE tg m e + cntT tg (tg e) e + 1 = bck tg m (tg e + 1) := by
  have := cntT_lt tg h
  have := bck_succ tg m (tg e)
  unfold posE
  omega
theorem bck_mono (tg : Nat → Nat) (m : Nat) {a b : Nat} (h : a ≤ b) : bck tg m a ≤ bck tg m b := sumTo_mono _ h
theorem posE_inj (tg : Nat → Nat) {m e e' : Nat} (h : e < m) (h' : e' < m) (hne : e' < e) : posE tg m e ≠ posE tg m e' := by
  intro z
  obtain ⟨a1, a2, a3⟩ := posE_in tg h
  obtain ⟨b1, b2, b3⟩ := posE_in tg h'
  by_cases ht : tg e = tg e'
  · have := cntT_le tg (tg e') (show e' + 1 ≤ e by omega)
    rw [cntT_succ, if_pos rfl] at this
    rw [ht] at a3
    omega
  · rcases Nat.lt_or_gt_of_ne ht with hl | hl
    · have := bck_mono tg m (show tg e + 1 ≤ tg e' by omega); omega
    · have := bck_mono tg m (show tg e' + 1 ≤ tg e by omega); omega
/-- what turning round gives -/
def Back (n m : Nat) (fs tg : Nat → Nat) (A63 A65 : Nat → Int32) : Prop := (∀ t, t ≤ n → cAt 6001 A63 (Int32.ofNat t) = Int32.ofNat (bck tg m t)) ∧ ∀ e, e < m → ∃ s, s < n ∧ fs s ≤ e ∧ e < fs (s + 1) ∧ cAt 60000 A65 (Int32.ofNat (posE tg m e)) = Int32.ofNat s
section TURN
variable {n : Nat} {fs tg ot : Nat → Nat} {A30 A35 : Nat → Int32}
theorem turn_eq (hG : Gr n fs tg) (hC : CGr n fs tg ot A30 A35) (A63 A65 : Nat → Int32) {F : Nat} (hF : 70000 ≤ F) : ∃ B63 B65, fX5_turnRound F (Int32.ofNat n) A30 A35 A63 A65 = some (B63, B65) ∧ Back n (fs n) fs tg B63 B65 := by
  have hn1 := hG.1
  have hn6 := hG.2.1
  have h60 := hG.2.2.2.2.1
  have htg := hG.2.2.2.2.2
  have hcm : ∀ t, cntT tg t (fs n) ≤ fs n := fun t => by
    have := sumTo_le' (g := fun e' => if tg e' = t then 1 else 0) (h := fun _ => 1) (fs n) (fun k _ => by split <;> decide)
    rw [sumTo_one] at this
    exact this
  have hball := bck_all (fs n) htg
  have hbm : ∀ s, s ≤ n → bck tg (fs n) s ≤ fs n := fun s hs => by have := bck_mono tg (fs n) hs; omega
  unfold fX5_turnRound
  rw [hC.1 n (Nat.le_refl _)]
  -- the counts
  have l1 := gl_ix (st := fun u3 : (Int32 × (Nat → Int32)) => fX5_turnRound_S22 F (Int32.ofNat n) A30 A35 (Int32.ofNat (fs n)) A65 u3.1 u3.2) (fun e s => s.1 = Int32.ofNat e ∧ ∀ t, t ≤ n → cAt 6001 s.2 (Int32.ofNat t) = Int32.ofNat (if t < n then cntT tg t e else 0)) (fun q => ∀ t, t ≤ n → cAt 6001 q (Int32.ofNat t) = Int32.ofNat (if t < n then cntT tg t (fs n) else 0)) (fs n) (by
    rintro e ⟨v, B⟩ he ⟨g1, g2⟩
    dsimp only at g1 g2 ⊢
    subst g1
    unfold fX5_turnRound_S22
    have ht := htg e he
    rw [if_neg (fun z => by have := (i32_le (by omega) (by omega)).mp z; omega), (hC.2 e he).1, g2 (tg e) (by omega), if_pos ht, i32_succ, i32_succ]
    refine ⟨_, rfl, rfl, fun t htn => ?_⟩
    show cAt 6001 (cPut 6001 B (Int32.ofNat (tg e)) (Int32.ofNat (cntT tg (tg e) e + 1))) (Int32.ofNat t) = _
    rw [cAt_put (by omega) (by decide) (by omega)]
    by_cases hte : t = tg e
    · subst hte
      rw [if_pos rfl, if_pos ht, cntT_succ, if_pos rfl]
    · rw [if_neg hte, g2 t htn]
      by_cases htn' : t < n
      · rw [if_pos htn', if_pos htn', cntT_succ, if_neg (fun z => hte z.symm), Nat.add_zero]
      · rw [if_neg htn', if_neg htn']) (by
    rintro ⟨v, B⟩ ⟨g1, g2⟩
    dsimp only at g1 g2 ⊢
    subst g1
    unfold fX5_turnRound_S22
    rw [if_pos ((i32_le (by omega) (by omega)).mpr (Nat.le_refl _))]
    exact ⟨_, rfl, g2⟩) F 0 (0, cFill 6001 A63 0) (Nat.zero_le _) ⟨rfl, fun t ht => by
      rw [cAt_nat (by omega) (by decide)]
      show (if t < 6001 then (0 : Int32) else A63 t) = _
      rw [if_pos (by omega)]
      split <;> rfl⟩ (by omega)
  obtain ⟨C1, e1, hC1⟩ := l1
  rw [e1]
  simp only [Option.bind_some]
  -- the sums
  have l2 := gl_ix (st := fun u8 : (Int32 × (Nat → Int32)) => fX5_turnRound_S62 F (Int32.ofNat n) A30 A35 A65 u8.1 u8.2) (fun i s => s.1 = Int32.ofNat (i + 1) ∧ ∀ t, t ≤ n → cAt 6001 s.2 (Int32.ofNat t) = Int32.ofNat (if t ≤ i then (if t < n then bck tg (fs n) (t + 1) else fs n) else (if t < n then cntT tg t (fs n) else 0))) (fun q => ∀ t, t ≤ n → cAt 6001 q (Int32.ofNat t) = Int32.ofNat (if t < n then bck tg (fs n) (t + 1) else fs n)) n (by
    rintro i ⟨v, B⟩ hi ⟨g1, g2⟩
    dsimp only at g1 g2 ⊢
    subst g1
    unfold fX5_turnRound_S62
    rw [if_neg (fun z => by have := (i32_lt (by omega) (by omega)).mp z; omega), show Int32.ofNat (i + 1) - 1 = Int32.ofNat i from i32_pred (by omega) (by omega), g2 (i + 1) (by omega), g2 i (by omega), if_neg (show ¬ i + 1 ≤ i by omega), if_pos (Nat.le_refl i), if_pos hi, i32_add, i32_succ]
    refine ⟨_, rfl, rfl, fun t htn => ?_⟩
    show cAt 6001 (cPut 6001 B (Int32.ofNat (i + 1)) (Int32.ofNat ((if i + 1 < n then cntT tg (i + 1) (fs n) else 0) + bck tg (fs n) (i + 1)))) (Int32.ofNat t) = _
    rw [cAt_put (by omega) (by decide) (by omega)]
    by_cases hti : t = i + 1
    · subst hti
      rw [if_pos rfl, if_pos (Nat.le_refl _)]
      by_cases hlt : i + 1 < n
      · rw [if_pos hlt, if_pos hlt, bck_succ tg (fs n) (i + 1), Nat.add_comm]
      · rw [if_neg hlt, if_neg hlt, show i + 1 = n by omega, hball, Nat.zero_add]
    · rw [if_neg hti, g2 t htn]
      by_cases hl : t ≤ i
      · rw [if_pos hl, if_pos (show t ≤ i + 1 by omega)]
      · rw [if_neg hl, if_neg (show ¬ t ≤ i + 1 by omega)]) (by
    rintro ⟨v, B⟩ ⟨g1, g2⟩
    dsimp only at g1 g2 ⊢
    subst g1
    unfold fX5_turnRound_S62
    rw [if_pos ((i32_lt (by omega) (by omega)).mpr (by omega))]
    refine ⟨_, rfl, fun t ht => ?_⟩
    rw [g2 t ht, if_pos ht]) F 0 (1, C1) (Nat.zero_le _) ⟨rfl, fun t ht => by
      show cAt 6001 C1 (Int32.ofNat t) = _
      rw [hC1 t ht]
      by_cases h0 : t ≤ 0
      · obtain rfl : t = 0 := by omega
        rw [if_pos (Nat.le_refl 0), if_pos (show 0 < n by omega), if_pos (show 0 < n by omega)]
        congr 1
        show cntT tg 0 (fs n) = sumTo (fun t => cntT tg t (fs n)) 1
        simp only [sumTo]
        omega
      · rw [if_neg h0]⟩ (by omega)
  obtain ⟨C2, e2, hC2⟩ := l2
  rw [e2]
  simp only [Option.bind_some]
  -- the sources
  have l3 := gl_ix (st := fun u13 : (Int32 × (Nat → Int32) × (Nat → Int32)) => fX5_turnRound_S105 F (Int32.ofNat n) A30 A35 u13.1 u13.2.1 u13.2.2) (fun i s => s.1 = Int32.ofNat i ∧ (∀ t, t ≤ n → cAt 6001 s.2.1 (Int32.ofNat t) = Int32.ofNat (if t < n then bck tg (fs n) (t + 1) - cntT tg t (fs i) else fs n)) ∧ ∀ e', e' < fs i → ∃ s', s' < n ∧ fs s' ≤ e' ∧ e' < fs (s' + 1) ∧ cAt 60000 s.2.2 (Int32.ofNat (posE tg (fs n) e')) = Int32.ofNat s') (fun q : (Nat → Int32) × (Nat → Int32) => (∀ t, t ≤ n → cAt 6001 q.1 (Int32.ofNat t) = Int32.ofNat (if t < n then bck tg (fs n) (t + 1) - cntT tg t (fs n) else fs n)) ∧ ∀ e', e' < fs n → ∃ s', s' < n ∧ fs s' ≤ e' ∧ e' < fs (s' + 1) ∧ cAt 60000 q.2 (Int32.ofNat (posE tg (fs n) e')) = Int32.ofNat s') n (by
    rintro i ⟨v, B63, B65⟩ hi ⟨g1, g2, g3⟩
    dsimp only at g1 g2 g3 ⊢
    subst g1
    have hmi := gr_mono hG (show i + 1 ≤ n by omega) (Nat.le_refl _)
    have hii := hG.2.2.2.1 i hi
    unfold fX5_turnRound_S105
    rw [if_neg (fun z => by have := (i32_le (by omega) (by omega)).mp z; omega), hC.1 i (by omega)]
    have inner := gl_ix (st := fun u16 : (Int32 × (Nat → Int32) × (Nat → Int32)) => fX5_turnRound_S123 F (Int32.ofNat n) A30 A35 (Int32.ofNat i) u16.1 u16.2.1 u16.2.2) (fun j s => s.1 = Int32.ofNat (fs i + j) ∧ (∀ t, t ≤ n → cAt 6001 s.2.1 (Int32.ofNat t) = Int32.ofNat (if t < n then bck tg (fs n) (t + 1) - cntT tg t (fs i + j) else fs n)) ∧ ∀ e', e' < fs i + j → ∃ s', s' < n ∧ fs s' ≤ e' ∧ e' < fs (s' + 1) ∧ cAt 60000 s.2.2 (Int32.ofNat (posE tg (fs n) e')) = Int32.ofNat s') (fun q : (Nat → Int32) × (Nat → Int32) => (∀ t, t ≤ n → cAt 6001 q.1 (Int32.ofNat t) = Int32.ofNat (if t < n then bck tg (fs n) (t + 1) - cntT tg t (fs (i + 1)) else fs n)) ∧ ∀ e', e' < fs (i + 1) → ∃ s', s' < n ∧ fs s' ≤ e' ∧ e' < fs (s' + 1) ∧ cAt 60000 q.2 (Int32.ofNat (posE tg (fs n) e')) = Int32.ofNat s') (fs (i + 1) - fs i) (by
      rintro j ⟨v4, D63, D65⟩ hj ⟨k1, k2, k3⟩
      dsimp only at k1 k2 k3 ⊢
      subst k1
      have he : fs i + j < fs n := by omega
      have ht := htg (fs i + j) he
      obtain ⟨p1, p2, p3⟩ := posE_in tg (m := fs n) he
      have hbt := hbm (tg (fs i + j) + 1) (by omega)
      unfold fX5_turnRound_S123
      rw [i32_succ, hC.1 (i + 1) (by omega), if_neg (fun z => by have := (i32_le (by omega) (by omega)).mp z; omega), (hC.2 _ he).1, k2 _ (by omega), if_pos ht, i32_succ]
      rw [show Int32.ofNat (bck tg (fs n) (tg (fs i + j) + 1) - cntT tg (tg (fs i + j)) (fs i + j)) - 1 = Int32.ofNat (posE tg (fs n) (fs i + j)) by rw [i32_pred (by omega) (by omega)]; congr 1; omega]
      refine ⟨_, rfl, rfl, fun t htn => ?_, fun e' he' => ?_⟩
      · show cAt 6001 (cPut 6001 D63 (Int32.ofNat (tg (fs i + j))) (Int32.ofNat (posE tg (fs n) (fs i + j)))) (Int32.ofNat t) = _
        rw [cAt_put (by omega) (by decide) (by omega), show fs i + (j + 1) = fs i + j + 1 by omega]
        by_cases hte : t = tg (fs i + j)
        · rw [if_pos hte, hte, if_pos ht, cntT_succ, if_pos rfl]
          congr 1
          omega
        · rw [if_neg hte, k2 t htn]
          by_cases htn' : t < n
          · rw [if_pos htn', if_pos htn', cntT_succ tg t (fs i + j), if_neg (show ¬ tg (fs i + j) = t from fun z => hte z.symm)]; rfl
          · rw [if_neg htn', if_neg htn']
      · show ∃ s', s' < n ∧ fs s' ≤ e' ∧ e' < fs (s' + 1) ∧ cAt 60000 (cPut 60000 D65 (Int32.ofNat (posE tg (fs n) (fs i + j))) (Int32.ofNat i)) (Int32.ofNat (posE tg (fs n) e')) = Int32.ofNat s'
        have he'n : e' < fs n := by omega
        obtain ⟨r1, r2, r3⟩ := posE_in tg (m := fs n) he'n
        have hbt' := hbm (tg e' + 1) (by have := htg e' he'n; omega)
        rw [cAt_put (by omega) (by decide) (by omega)]
        by_cases hee : e' = fs i + j
        · subst hee
          rw [if_pos rfl]
          exact ⟨i, hi, by omega, by omega, rfl⟩
        · rw [if_neg (fun z => posE_inj tg he he'n (by omega) z.symm)]
          exact k3 e' (by omega)) (by
      rintro ⟨v4, D63, D65⟩ ⟨k1, k2, k3⟩
      dsimp only at k1 k2 k3 ⊢
      subst k1
      unfold fX5_turnRound_S123
      rw [i32_succ, hC.1 (i + 1) (by omega), if_pos ((i32_le (by omega) (by omega)).mpr (by omega))]
      rw [show fs i + (fs (i + 1) - fs i) = fs (i + 1) by omega] at k2 k3
      exact ⟨_, rfl, k2, k3⟩) F 0 (Int32.ofNat (fs i), B63, B65) (Nat.zero_le _) ⟨rfl, g2, g3⟩ (by omega)
    obtain ⟨q, f1, f2, f3⟩ := inner
    rw [f1]
    simp only [Option.bind_some]
    exact ⟨_, rfl, i32_succ i, f2, f3⟩) (by
    rintro ⟨v, B63, B65⟩ ⟨g1, g2, g3⟩
    dsimp only at g1 g2 g3 ⊢
    subst g1
    unfold fX5_turnRound_S105
    rw [if_pos ((i32_le (by omega) (by omega)).mpr (Nat.le_refl _))]
    exact ⟨_, rfl, g2, g3⟩) F 0 (0, C2, A65) (Nat.zero_le _) ⟨rfl, fun t ht => by
      show cAt 6001 C2 (Int32.ofNat t) = _
      rw [hC2 t ht, hG.2.2.1]; rfl, fun e' he' => by rw [hG.2.2.1] at he'; omega⟩ (by omega)
  obtain ⟨q, e3, h3, h4⟩ := l3
  rw [e3]
  refine ⟨q.1, q.2, rfl, fun t ht => ?_, h4⟩
  rw [h3 t ht]
  by_cases htn : t < n
  · rw [if_pos htn, bck_succ, Nat.add_sub_cancel]
  · rw [if_neg htn, show t = n by omega, hball]
end TURN
