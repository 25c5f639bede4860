/-! part 9z6: the class carries all out -/
section COUT
variable {cap lab ack cop : Nat} {P : List STP3} {A13 A15 A17 : Nat → Int32} {F : Nat}
abbrev CRS := Int32 × Int32 × Int64 × Int32 × Int32 × Int32 × Int64 × Int32 × Int64 × Int32 × Int32 × (Nat → Int32) × (Nat → Int32) × (Nat → Int32)
def crS (F S cap lab ack cop : Nat) (A13 A15 A17 : Nat → Int32) (v1 : Int32) (u2 : CRS) := fX11_carryOut_S18 F (Int32.ofNat S) (Int32.ofNat cap) (Int32.ofNat lab) (Int32.ofNat ack) (Int32.ofNat cop) A13 A15 A17 v1 u2.1 u2.2.1 u2.2.2.1 u2.2.2.2.1 u2.2.2.2.2.1 u2.2.2.2.2.2.1 u2.2.2.2.2.2.2.1 u2.2.2.2.2.2.2.2.1 u2.2.2.2.2.2.2.2.2.1 u2.2.2.2.2.2.2.2.2.2.1 u2.2.2.2.2.2.2.2.2.2.2.1 u2.2.2.2.2.2.2.2.2.2.2.2.1 u2.2.2.2.2.2.2.2.2.2.2.2.2.1 u2.2.2.2.2.2.2.2.2.2.2.2.2.2
def crX (g turn : Int32) (t : CTA) (x7 x8 : Int32) (A21 A23 : Nat → Int32) : CRS := (g, turn, t.1, t.2.1, t.2.2.1, t.2.2.2.1, t.2.2.2.2.1, t.2.2.2.2.2.1, t.2.2.2.2.2.2.1, x7, x8, t.2.2.2.2.2.2.2, A21, A23)
abbrev CRO := Int64 × Int32 × Int32 × Int32 × Int64 × Int32 × Int64 × Int32 × Int32 × (Nat → Int32) × (Nat → Int32) × (Nat → Int32)
def crO (t : CTA) (x7 x8 : Int32) (A21 A23 : Nat → Int32) : CRO := (t.1, t.2.1, t.2.2.1, t.2.2.2.1, t.2.2.2.2.1, t.2.2.2.2.2.1, t.2.2.2.2.2.2.1, x7, x8, t.2.2.2.2.2.2.2, A21, A23)
theorem cr_end {v1 turn : Int32} {t : CTA} {x7 x8 : Int32} {A21 A23 : Nat → Int32} {S : Nat} {G : Nat} (hG : 1 ≤ G) : gloop (crS F S cap lab ack cop A13 A15 A17 v1) G (crX 0 turn t x7 x8 A21 A23) = some (crO t x7 x8 A21 A23) := by
  refine gl_stop ?_ hG
  unfold crS crX fX11_carryOut_S18 crO
  dsimp only
  by_cases h : (1000000 : Int32) ≤ turn
  · rw [if_pos h]
  · rw [if_neg h, if_pos rfl]
theorem mu_step {d dd m p0 p2 p3 : Nat} (hph : (600 - d) * 1000 + p0 ≤ m) (h20 : p2 ≤ p0) (hd : d ≤ dd) (hd6 : dd ≤ 600) (h3 : p3 ≤ 300) (hd5 : d < 600) (hs : dd = d → p3 + 1 ≤ p2) : (600 - dd) * 1000 + p3 ≤ m - 1 ∧ 1 ≤ m := by
  by_cases h : dd = d
  · subst h
    have := hs rfl
    omega
  · omega
theorem mu_turn {turn m G : Nat} (h : turn + m + 1 < 1000000) (h1 : 1 ≤ m) (hG : m + 1 < G + 2) : turn + 1 + (m - 1) + 1 < 1000000 ∧ m - 1 + 1 < G + 1 := by omega
theorem carry_loop (hs : Stt cap lab ack cop) (hF : 1000 ≤ F) (hwf : WfC P 0) (hS : P.length ≤ 53) (hP : CodeAt P 0 A13 A15 A17) (v1 : Int32) : ∀ (m at' dep : Nat) (Lf D : Nat → Nat) (t : CTA) (d turn F' : Nat) (A21 A23 : Nat → Int32), (600 - d) * 1000 + PhA P.length at' dep D d ≤ m → dep ≤ 4 → at' ≤ 60 → d ≤ 600 → MLs dep Lf D A21 A23 → GDt cap t → cn0 t = Int32.ofNat d + v1 → turn + m + 1 < 1000000 → m + 1 < F' →
    ∃ (r : CTA × Nat) (x7 x8 : Int32) (B21 B23 : Nat → Int32), gloop (crS F P.length cap lab ack cop A13 A15 A17 v1) F' (crX 1 (Int32.ofNat turn) t (Int32.ofNat dep) (Int32.ofNat at') A21 A23) = some (crO r.1 x7 x8 B21 B23) ∧ (∃ G, gloop (mcO cap lab ack cop P) G (at', dep, Lf, D, t, d) = some r) ∧ GDt cap r.1 ∧ cn0 r.1 = Int32.ofNat r.2 + v1 := by
  intro m
  induction m using Nat.strongRecOn with
  | ind m ih =>
  intro at' dep Lf D t d turn F' A21 A23 hph hdep hat hd hML hg hcn hturn hF'
  obtain ⟨G, rfl⟩ : ∃ G, F' = G + 2 := ⟨F' - 2, by omega⟩
  have hph3 := ph_le (at' := at') (D := D) (d := d) hdep hS
  obtain ⟨at2, dep2, Lf2, D2, B21, B23, r1, r2, r3, r4, r5, r6⟩ := next_loop (cap := cap) (lab := lab) (ack := ack) (cop := cop) (F := F) hwf hS hP (PhA P.length at' dep D d) at' dep Lf D t d 0 F A21 A23 (Nat.le_refl _) hdep hat hd hML (by omega) (by omega)
  have hdone : t.2.2.2.2.2.2.2 (0 : Int32).toNatClampNeg - v1 = Int32.ofNat d := by
    rw [n0]
    show cn0 t - v1 = _
    rw [hcn, Int32.add_sub_cancel]
  -- the step that comes next
  have hnext : ∃ w : Int32, fX8_next F (Int32.ofNat P.length) A13 A15 A17 (Int32.ofNat dep) (Int32.ofNat at') A21 A23 (Int32.ofNat d) = some (w, Int32.ofNat dep2, (if w = -1 then Int32.ofNat at2 else Int32.ofNat (at2 + 1)), B21, B23) ∧ ((w = -1 ∧ P[at2]? = none) ∨ (w = Int32.ofNat at2 ∧ ∃ x, P[at2]? = some x ∧ x.1 < 6)) := by
    unfold fX8_next
    rcases r6 with ⟨x, hx, hx6, e⟩ | ⟨hx, e⟩
    · rw [show (0 : Int32) = Int32.ofNat 0 from rfl, e, Option.bind_some]
      have hne : ¬ Int32.ofNat at2 = -1 := fun z => by
        have h9 := congrArg Int32.toInt z
        rw [i32_int (by omega)] at h9
        have h8 : (-1 : Int32).toInt = -1 := rfl
        omega
      refine ⟨Int32.ofNat at2, ?_, Or.inr ⟨rfl, x, hx, hx6⟩⟩
      rw [if_neg hne]
      show some ((Int32.ofNat at2 + 1) - 1, Int32.ofNat dep2, Int32.ofNat at2 + 1, B21, B23) = _
      rw [i32_succ, i32_pred (by omega) (by omega), Nat.add_sub_cancel]
    · rw [show (0 : Int32) = Int32.ofNat 0 from rfl, e, Option.bind_some]
      exact ⟨-1, by rw [if_pos rfl]; rfl, Or.inl ⟨rfl, hx⟩⟩
  obtain ⟨w, hn1, hn2⟩ := hnext
  have hgo : ¬ (1000000 : Int32) ≤ Int32.ofNat turn := fun z => by have := (i32_le (a := 1000000) (by decide) (by omega)).mp z; omega
  have e1 : (1 : Int32) ≠ 0 := by decide
  by_cases h600 : d = 600
  · have hst : crS F P.length cap lab ack cop A13 A15 A17 v1 (crX 1 (Int32.ofNat turn) t (Int32.ofNat dep) (Int32.ofNat at') A21 A23) = some (.inr (crX 0 (Int32.ofNat turn + 1) t (Int32.ofNat dep2) (if w = -1 then Int32.ofNat at2 else Int32.ofNat (at2 + 1)) B21 B23)) := by
      unfold crS crX fX11_carryOut_S18 fX11_carryOut_J83 fX11_carryOut_J84
      dsimp only
      rw [if_neg hgo, if_neg e1, hdone, hn1, Option.bind_some, if_pos (show (600 : Int32) ≤ Int32.ofNat d by rw [h600]; decide)]
    refine ⟨(t, d), _, _, _, _, (reach_one hst (G + 1)).trans (cr_end (by omega)), ⟨1, ?_⟩, hg, hcn⟩
    refine gl_stop ?_ (by omega)
    unfold mcO mcS
    dsimp only
    rw [if_pos (by omega)]
  · obtain ⟨k, hk⟩ := r5 (by omega)
    have hn600 : ¬ (600 : Int32) ≤ Int32.ofNat d := fun z => by have := (i32_le (a := 600) (by decide) (by omega)).mp z; omega
    rcases hn2 with ⟨hw, hx⟩ | ⟨hw, x, hx, hx6⟩
    · have hst : crS F P.length cap lab ack cop A13 A15 A17 v1 (crX 1 (Int32.ofNat turn) t (Int32.ofNat dep) (Int32.ofNat at') A21 A23) = some (.inr (crX 0 (Int32.ofNat turn + 1) t (Int32.ofNat dep2) (if w = -1 then Int32.ofNat at2 else Int32.ofNat (at2 + 1)) B21 B23)) := by
        unfold crS crX fX11_carryOut_S18 fX11_carryOut_J83 fX11_carryOut_J84
        dsimp only
        rw [if_neg hgo, if_neg e1, hdone, hn1, Option.bind_some, if_neg hn600, if_pos hw]
      refine ⟨(t, d), _, _, _, _, (reach_one hst (G + 1)).trans (cr_end (by omega)), ⟨1 + k, ?_⟩, hg, hcn⟩
      rw [hk 1]
      refine gl_stop ?_ (by omega)
      unfold mcO mcS
      dsimp only
      rw [if_neg (by omega), hx]
    · have hlt2 : at2 < P.length := (List.getElem?_eq_some_iff.mp hx).1
      obtain ⟨w1, w2, w3, w4⟩ := hwf at2 x hx
      obtain ⟨p1, p2, p3⟩ := hP at2 x hx
      rw [Nat.zero_add] at p1 p2 p3
      obtain ⟨b3, b4⟩ := w3 hx6
      obtain ⟨fl, d1, d2, d3, d4⟩ := doStep_eq hs hF hg (d := d) (at' := at2) (by omega) hx6 b3 b4 (by omega) p1 p2 p3
      obtain ⟨o1, o2, o3, o4, o5⟩ := ef_ex (cap := cap) (lab := lab) (ack := ack) (cop := cop) x (t, d, false) (by show d ≤ 600; omega)
      have hmx : mcO cap lab ack cop P (at2, dep2, Lf2, D2, t, d) = some (if (exE cap lab ack cop x (t, d, false)).2.2 = true then .inl ((exE cap lab ack cop x (t, d, false)).1, (exE cap lab ack cop x (t, d, false)).2.1) else .inr (at2 + 1, dep2, Lf2, D2, (exE cap lab ack cop x (t, d, false)).1, (exE cap lab ack cop x (t, d, false)).2.1)) := by
        unfold mcO mcS
        dsimp only
        rw [if_neg (by omega), hx]
        dsimp only
        rw [if_neg (by omega), if_neg (by omega)]
      generalize exE cap lab ack cop x (t, d, false) = s at d1 d2 d3 d4 o1 o2 o3 o4 o5 hmx
      obtain ⟨t1, dd, st⟩ := s
      dsimp only at d1 d2 d3 d4 o2 o3 hmx
      have hcn1 : cn0 t1 = Int32.ofNat dd + v1 := by
        rw [d3, hcn, Int32.add_assoc, Int32.add_comm v1, ← Int32.add_assoc, i32_add, show d + (dd - d) = dd by omega]
      have hnw : ¬ w = -1 := fun z => by
        rw [hw] at z
        have h9 := congrArg Int32.toInt z
        rw [i32_int (by omega)] at h9
        have h8 : (-1 : Int32).toInt = -1 := rfl
        omega
      have hmost : (600 : Int32) - Int32.ofNat d = Int32.ofNat (600 - d) := i32_sub (a := 600) (by omega)
      have hst : crS F P.length cap lab ack cop A13 A15 A17 v1 (crX 1 (Int32.ofNat turn) t (Int32.ofNat dep) (Int32.ofNat at') A21 A23) = some (.inr (crX (if fl = 0 then 0 else 1) (Int32.ofNat (turn + 1)) t1 (Int32.ofNat dep2) (Int32.ofNat (at2 + 1)) B21 B23)) := by
        unfold crS crX fX11_carryOut_S18 fX11_carryOut_J83 fX11_carryOut_J84
        dsimp only
        rw [if_neg hgo, if_neg e1, hdone, hn1, Option.bind_some, if_neg hn600, if_neg hnw]
        dsimp only
        rw [hmost, hw, d1, Option.bind_some, i32_succ]
        by_cases hfl : fl = 0
        · rw [if_pos hfl, if_pos hfl, if_neg (by rw [← hw]; exact hnw)]
        · rw [if_neg hfl, if_neg hfl, if_neg (by rw [← hw]; exact hnw)]
      rcases d4 with ⟨hfl, hstp⟩ | ⟨hfl, hstp⟩
      · rw [if_pos hfl] at hst
        rw [if_pos hstp] at hmx
        refine ⟨(t1, dd), _, _, _, _, (reach_one hst (G + 1)).trans (cr_end (by omega)), ⟨1 + k, ?_⟩, d2, hcn1⟩
        rw [hk 1]
        exact gl_stop hmx (by omega)
      · rw [if_neg hfl] at hst
        have hphx := ph_le (at' := at2 + 1) (D := D2) (d := dd) r1 hS
        obtain ⟨hless, hm1⟩ := mu_step (p0 := PhA P.length at' dep D d) (p2 := PhA P.length at2 dep2 D2 d) hph r4 o2 o3 hphx (Nat.lt_of_le_of_ne hd h600) (fun z => by
          subst z
          unfold PhA; omega)
        obtain ⟨ht1, ht2⟩ := mu_turn hturn hm1 hF'
        obtain ⟨r, x7, x8, C21, C23, i1, ⟨G2, i2⟩, i3, i4⟩ := ih (m - 1) (Nat.sub_lt hm1 (by decide)) (at2 + 1) dep2 Lf2 D2 t1 dd (turn + 1) (G + 1) B21 B23 hless r1 (Nat.le_trans hlt2 (Nat.le_trans hS (by decide))) o3 r3 d2 hcn1 ht1 ht2
        refine ⟨r, x7, x8, C21, C23, ?_, ?_, i3, i4⟩
        · rw [show G + 2 = (G + 1) + 1 by omega, reach_one hst (G + 1)]
          exact i1
        · by_cases hsb : st = true
          · have h6 := hstp hsb
            rw [if_pos hsb] at hmx
            have hr : r = (t1, dd) := by
              have hm2 : mcO cap lab ack cop P (at2 + 1, dep2, Lf2, D2, t1, dd) = some (.inl (t1, dd)) := by
                unfold mcO mcS
                dsimp only
                rw [if_pos (by omega)]
              cases G2 with
              | zero => exact absurd i2 (by simp [gloop])
              | succ G2 =>
                rw [gl_stop hm2 (by omega)] at i2
                exact (Option.some.inj i2).symm
            rw [hr]
            exact ⟨1 + k, by rw [hk 1]; exact gl_stop hmx (by omega)⟩
          · rw [if_neg hsb] at hmx
            refine ⟨G2 + (k + 1), ?_⟩
            rw [(reach_trans hk (reach_one hmx)) G2]
            exact i2
theorem gl_more {σ ρ : Type} {st : σ → Option (ρ ⊕ σ)} : ∀ (G : Nat) (X : σ) (r : ρ), gloop st G X = some r → ∀ j, gloop st (G + j) X = some r := by
  intro G
  induction G with
  | zero => intro X r h; exact absurd h (by simp [gloop])
  | succ G ih =>
    intro X r h j
    rw [show G + 1 + j = (G + j) + 1 by omega]
    simp only [gloop] at h ⊢
    cases hX : st X with
    | none => rw [hX] at h; exact absurd h (by simp)
    | some y =>
      rw [hX] at h
      cases y with
      | inl y => exact h
      | inr y => exact ih y r h j
theorem gl_same {σ ρ : Type} {st : σ → Option (ρ ⊕ σ)} {G G' : Nat} {X : σ} {r r' : ρ} (h : gloop st G X = some r) (h' : gloop st G' X = some r') : r = r' := by
  have h1 := gl_more G X r h G'
  have h2 := gl_more G' X r' h' G
  rw [Nat.add_comm, h2] at h1
  exact (Option.some.inj h1).symm
/-- carried out -/
theorem carry_c (hs : Stt cap lab ack cop) (hF : 700000 ≤ F) (hwf : WfC P 0) (hS : P.length ≤ 53) (hP : CodeAt P 0 A13 A15 A17) {E : SEA → SEA} (hok : EfOk E) (hE : Does cap lab ack cop P 0 P.length 0 E) {t : CTA} (hg : GDt cap t) (x7 x8 : Int32) (A21 A23 : Nat → Int32) : ∃ (y7 y8 : Int32) (B21 B23 : Nat → Int32), fX11_carryOut F (Int32.ofNat P.length) (Int32.ofNat cap) (Int32.ofNat lab) (Int32.ofNat ack) (Int32.ofNat cop) A13 A15 A17 t.1 t.2.1 t.2.2.1 t.2.2.2.1 t.2.2.2.2.1 t.2.2.2.2.2.1 t.2.2.2.2.2.2.1 x7 x8 t.2.2.2.2.2.2.2 A21 A23 = some (Int32.ofNat (E (t, 0, false)).2.1, (E (t, 0, false)).1.1, (E (t, 0, false)).1.2.1, (E (t, 0, false)).1.2.2.1, (E (t, 0, false)).1.2.2.2.1, (E (t, 0, false)).1.2.2.2.2.1, (E (t, 0, false)).1.2.2.2.2.2.1, (E (t, 0, false)).1.2.2.2.2.2.2.1, y7, y8, (E (t, 0, false)).1.2.2.2.2.2.2.2, B21, B23) ∧ GDt cap (E (t, 0, false)).1 := by
  have hcn : cn0 t = Int32.ofNat 0 + t.2.2.2.2.2.2.2 (0 : Int32).toNatClampNeg := by
    rw [n0]
    show cn0 t = (0 : Int32) + cn0 t
    rw [Int32.zero_add]
  have hph := ph_le (at' := 0) (D := fun _ => 0) (d := 0) (dep := 0) (by decide) hS
  obtain ⟨r, y7, y8, B21, B23, c1, ⟨G, c2⟩, c3, c4⟩ := carry_loop hs (F := F) (by omega) hwf hS hP (t.2.2.2.2.2.2.2 (0 : Int32).toNatClampNeg) 600300 0 0 (fun _ => 0) (fun _ => 0) t 0 0 F A21 A23 (by omega) (by decide) (by decide) (by decide) (fun k hk => absurd hk (Nat.not_lt_zero k)) hg hcn (by decide) (by omega)
  obtain ⟨e1, e2⟩ := hE (fun _ => 0) (fun _ => 0) t 0 (by decide)
  obtain ⟨o1, o2, o3, o4, o5⟩ := hok (t, 0, false) (by show 0 ≤ 600; decide)
  have hr : r = ((E (t, 0, false)).1, (E (t, 0, false)).2.1) := by
    by_cases hgo : (E (t, 0, false)).2.2 = false ∧ (E (t, 0, false)).2.1 < 600
    · obtain ⟨k, Lf', D', q1, q2⟩ := e1 hgo
      refine gl_same c2 (G' := 1 + k) ?_
      rw [q1 1]
      refine gl_stop ?_ (by omega)
      unfold mcO mcS
      dsimp only
      rw [if_neg (by omega), List.getElem?_eq_none (Nat.le_refl _)]
    · obtain ⟨k, q⟩ := e2 (by
        by_cases h : (E (t, 0, false)).2.2 = true
        · exact Or.inl h
        · right
          have hf : (E (t, 0, false)).2.2 = false := by
            cases hh : (E (t, 0, false)).2.2 with
            | true => exact absurd hh h
            | false => rfl
          have : ¬ (E (t, 0, false)).2.1 < 600 := fun z => hgo ⟨hf, z⟩
          omega)
      exact gl_same c2 (q 0)
  subst hr
  refine ⟨y7, y8, B21, B23, ?_, c3⟩
  unfold fX11_carryOut fX8_rewind
  dsimp only
  have c1' : gloop (crS F P.length cap lab ack cop A13 A15 A17 (t.2.2.2.2.2.2.2 (0 : Int32).toNatClampNeg)) F (1, 0, t.1, t.2.1, t.2.2.1, t.2.2.2.1, t.2.2.2.2.1, t.2.2.2.2.2.1, t.2.2.2.2.2.2.1, 0, 0, t.2.2.2.2.2.2.2, A21, A23) = some (crO (E (t, 0, false)).1 y7 y8 B21 B23) := c1
  unfold crS at c1'
  rw [c1', Option.bind_some]
  unfold fX11_carryOut_J91 crO
  dsimp only
  congr 2
  rw [n0] at c4 ⊢
  have c4' : (E (t, 0, false)).1.2.2.2.2.2.2.2 0 = Int32.ofNat (E (t, 0, false)).2.1 + t.2.2.2.2.2.2.2 0 := c4
  rw [c4', Int32.add_sub_cancel]
end COUT
