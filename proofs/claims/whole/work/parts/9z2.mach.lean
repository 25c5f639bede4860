/-! part 9z2: the steps as a machine; effects -/
section MCHN
variable {cap lab ack cop n : Nat} {b : Nat → Nat}
/-- what is known of an effect -/
def EfOk (E : SEA → SEA) : Prop := ∀ s : SEA, s.2.1 ≤ 600 → (s.2.2 = true → E s = s) ∧ s.2.1 ≤ (E s).2.1 ∧ (E s).2.1 ≤ 600 ∧ (s.2.1 = 600 → (E s).1 = s.1) ∧ ((E s).2.2 = false → (E s).2.1 = s.2.1 → E s = s)
theorem ef_id : EfOk id := fun s h => ⟨fun _ => rfl, Nat.le_refl _, h, fun _ => rfl, fun _ _ => rfl⟩
theorem ef_act (w a v : Nat) : EfOk (actE cap lab ack cop w a v) := by
  rintro ⟨t, d, st⟩ h
  dsimp only at h ⊢
  unfold actE
  dsimp only
  by_cases h1 : st = true
  · rw [if_pos h1]
    exact ⟨fun _ => rfl, Nat.le_refl _, h, fun _ => rfl, fun _ _ => rfl⟩
  · rw [if_neg h1]
    by_cases h2 : d = 600
    · rw [if_pos h2]
      exact ⟨fun z => absurd z h1, Nat.le_refl _, h, fun _ => rfl, fun z => absurd z (show ¬ true = false by decide)⟩
    · rw [if_neg h2]
      by_cases h3 : fX7_offers (Int32.ofNat lab) t.1 (Int32.ofNat w) (Int32.ofNat a) (Int32.ofNat v) = 0
      · rw [if_pos h3]
        exact ⟨fun z => absurd z h1, Nat.le_refl _, h, fun _ => rfl, fun z => absurd z (show ¬ true = false by decide)⟩
      · rw [if_neg h3]
        refine ⟨fun z => absurd z h1, Nat.le_succ _, ?_, fun z => absurd z h2, fun _ z => ?_⟩
        · show d + 1 ≤ 600; omega
        · have z' : d + 1 = d := z
          omega
theorem ef_comp {E1 E2 : SEA → SEA} (h1 : EfOk E1) (h2 : EfOk E2) : EfOk (fun z => E2 (E1 z)) := by
  intro s h
  obtain ⟨a1, a2, a3, a4, a5⟩ := h1 s h
  obtain ⟨c1, c2, c3, c4, c5⟩ := h2 (E1 s) a3
  refine ⟨fun z => ?_, Nat.le_trans a2 c2, c3, fun z => ?_, fun z y => ?_⟩
  · have e := a1 z
    show E2 (E1 s) = s
    rw [e] at c1 ⊢
    exact c1 z
  · have e := a4 z
    have e2 : (E1 s).2.1 = 600 := by omega
    exact (c4 e2).trans e
  · have e2 : (E2 (E1 s)).2.1 = (E1 s).2.1 := by
      have y' : (E2 (E1 s)).2.1 = s.2.1 := y
      omega
    have e3 := c5 z e2
    have y' : (E2 (E1 s)).2.1 = s.2.1 := y
    have e4 : (E1 s).2.2 = false := by
      have z' : (E2 (E1 s)).2.2 = false := z
      rw [e3] at z'; exact z'
    exact e3.trans (a5 e4 (by omega))
theorem ef_it {E : SEA → SEA} (h : EfOk E) : ∀ m, EfOk (itE E m) := by
  intro m
  induction m with
  | zero => exact ef_id
  | succ m ih =>
    intro s hs
    have hc := ef_comp h ih s hs
    show ((s.2.2 = true → (if s.2.2 = true then s else itE E m (E s)) = s) ∧ s.2.1 ≤ (if s.2.2 = true then s else itE E m (E s)).2.1 ∧ (if s.2.2 = true then s else itE E m (E s)).2.1 ≤ 600 ∧ (s.2.1 = 600 → (if s.2.2 = true then s else itE E m (E s)).1 = s.1) ∧ ((if s.2.2 = true then s else itE E m (E s)).2.2 = false → (if s.2.2 = true then s else itE E m (E s)).2.1 = s.2.1 → (if s.2.2 = true then s else itE E m (E s)) = s))
    by_cases h1 : s.2.2 = true
    · rw [if_pos h1]
      exact ⟨fun _ => rfl, Nat.le_refl _, hs, fun _ => rfl, fun _ _ => rfl⟩
    · rw [if_neg h1]
      exact ⟨fun z => absurd z h1, hc.2⟩
theorem ef_clr : ∀ m, EfOk (clrE cap lab ack cop m) := by
  intro m
  induction m with
  | zero => exact ef_id
  | succ m ih =>
    intro s hs
    have hu : clrE cap lab ack cop (m + 1) s = if s.2.2 = true then s else match fpF s.1.1 (2 * lab) 0 with | none => s | some k => clrE cap lab ack cop m (actE cap lab ack cop 3 (k / 2) (k % 2) s) := rfl
    rw [hu]
    by_cases h1 : s.2.2 = true
    · rw [if_pos h1]
      exact ⟨fun _ => rfl, Nat.le_refl _, hs, fun _ => rfl, fun _ _ => rfl⟩
    · rw [if_neg h1]
      cases fpF s.1.1 (2 * lab) 0 with
      | none => exact ⟨fun _ => rfl, Nat.le_refl _, hs, fun _ => rfl, fun _ _ => rfl⟩
      | some k =>
        have hc := ef_comp (ef_act (cap := cap) (lab := lab) (ack := ack) (cop := cop) 3 (k / 2) (k % 2)) ih s hs
        exact ⟨fun z => absurd z h1, hc.2⟩
theorem ef_ex (x : STP3) : EfOk (exE cap lab ack cop x) := by
  unfold exE
  by_cases h : x.1 = 5
  · rw [if_pos h]; exact ef_clr _
  · rw [if_neg h]; exact ef_act _ _ _
theorem ef_ag {rc : Nat → Nat → Nat → RA4} (hrc : ∀ p o i, EfOk (rc p o i).2.2.1) (p opn i : Nat) : EfOk (agA n b rc p opn i).2.2.1 := by
  unfold agA
  split
  · exact ef_id
  · split
    · split
      · dsimp only
        split
        · split
          · exact ef_it (hrc _ _ _) _
          · exact ef_id
        · exact ef_id
      · exact ef_id
    · exact ef_id
theorem ef_ps : ∀ (f p opn i : Nat), EfOk (psA cap lab ack cop n b f p opn i).2.2.1 := by
  intro f
  induction f with
  | zero => intro p opn i; exact ef_id
  | succ f ih =>
    intro p opn i
    by_cases hc : chA n b p = 256 ∨ chA n b p = 93
    · rw [ps_zero f p opn i hc]; exact ef_id
    · have hst : EfOk (stA cap lab ack cop n b (psA cap lab ack cop n b f) p opn i).2.2.1 := by
        unfold stA
        split
        · exact ef_ag (fun p o i => ih p o i) p opn i
        · exact ef_ex _
      rw [ps_step f p opn i hc]
      split
      · split
        · split
          · have := ef_comp hst (ih (skA n b (skA n b (stA cap lab ack cop n b (psA cap lab ack cop n b f) p opn i).2.1 + 1)) opn (i + (stA cap lab ack cop n b (psA cap lab ack cop n b f) p opn i).2.2.2.length))
            exact this
          · exact ef_id
        · exact ef_id
      · exact ef_id
/-- the machine: place, depth, rounds left, acts done before, world, acts done -/
abbrev XM := Nat × Nat × (Nat → Nat) × (Nat → Nat) × CTA × Nat
def mcS (cap lab ack cop : Nat) (P : List STP3) (X : XM) : (CTA × Nat) ⊕ XM :=
  if 600 ≤ X.2.2.2.2.2 then .inl (X.2.2.2.2.1, X.2.2.2.2.2) else match P[X.1]? with
    | none => .inl (X.2.2.2.2.1, X.2.2.2.2.2)
    | some x =>
      if x.1 = 6 then (if 0 < x.2.1 ∧ X.2.1 < 4 then .inr (X.1 + 1, X.2.1 + 1, updN X.2.2.1 X.2.1 x.2.1, updN X.2.2.2.1 X.2.1 X.2.2.2.2.2, X.2.2.2.2.1, X.2.2.2.2.2) else .inr (x.2.2 + 1, X.2.1, X.2.2.1, X.2.2.2.1, X.2.2.2.2.1, X.2.2.2.2.2))
      else if x.1 = 7 then (if 1 ≤ X.2.1 ∧ 1 < X.2.2.1 (X.2.1 - 1) ∧ X.2.2.2.1 (X.2.1 - 1) < X.2.2.2.2.2 then .inr (x.2.1 + 1, X.2.1, updN X.2.2.1 (X.2.1 - 1) (X.2.2.1 (X.2.1 - 1) - 1), updN X.2.2.2.1 (X.2.1 - 1) X.2.2.2.2.2, X.2.2.2.2.1, X.2.2.2.2.2) else .inr (X.1 + 1, X.2.1 - 1, X.2.2.1, X.2.2.2.1, X.2.2.2.2.1, X.2.2.2.2.2))
      else if (exE cap lab ack cop x (X.2.2.2.2.1, X.2.2.2.2.2, false)).2.2 = true then .inl ((exE cap lab ack cop x (X.2.2.2.2.1, X.2.2.2.2.2, false)).1, (exE cap lab ack cop x (X.2.2.2.2.1, X.2.2.2.2.2, false)).2.1)
      else .inr (X.1 + 1, X.2.1, X.2.2.1, X.2.2.2.1, (exE cap lab ack cop x (X.2.2.2.2.1, X.2.2.2.2.2, false)).1, (exE cap lab ack cop x (X.2.2.2.2.1, X.2.2.2.2.2, false)).2.1)
def mcO (cap lab ack cop : Nat) (P : List STP3) (X : XM) : Option ((CTA × Nat) ⊕ XM) := some (mcS cap lab ack cop P X)
variable {P : List STP3}
def Sub (L : List STP3) (i : Nat) (P : List STP3) : Prop := ∀ (j : Nat) (x : STP3), L[j]? = some x → P[i + j]? = some x
theorem sub_left {L1 L2 : List STP3} {i : Nat} (h : Sub (L1 ++ L2) i P) : Sub L1 i P := fun j x hx => h j x (by rw [List.getElem?_append, if_pos (List.getElem?_eq_some_iff.mp hx).1]; exact hx)
theorem sub_right {L1 L2 : List STP3} {i : Nat} (h : Sub (L1 ++ L2) i P) : Sub L2 (i + L1.length) P := fun j x hx => by
  have := h (L1.length + j) x (by rw [List.getElem?_append, if_neg (by omega), Nat.add_sub_cancel_left]; exact hx)
  rw [show i + L1.length + j = i + (L1.length + j) by omega]
  exact this
/-- the machine from a place on does what an effect tells -/
def Does (cap lab ack cop : Nat) (P : List STP3) (i j dep : Nat) (E : SEA → SEA) : Prop := ∀ (Lf D : Nat → Nat) (t : CTA) (d : Nat), d < 600 →
  ((E (t, d, false)).2.2 = false ∧ (E (t, d, false)).2.1 < 600 → ∃ (k : Nat) (Lf' D' : Nat → Nat), Reach (mcO cap lab ack cop P) (i, dep, Lf, D, t, d) (j, dep, Lf', D', (E (t, d, false)).1, (E (t, d, false)).2.1) k ∧ ∀ m, m < dep → Lf' m = Lf m ∧ D' m = D m) ∧
  (((E (t, d, false)).2.2 = true ∨ (E (t, d, false)).2.1 = 600) → ∃ k, ∀ G, gloop (mcO cap lab ack cop P) (G + k) (i, dep, Lf, D, t, d) = some ((E (t, d, false)).1, (E (t, d, false)).2.1))
theorem does_id (i dep : Nat) : Does cap lab ack cop P i i dep id := fun Lf D t d hd => ⟨fun _ => ⟨0, Lf, D, Reach.rfl' _, fun _ _ => ⟨rfl, rfl⟩⟩, fun z => by
  rcases z with z | z
  · exact absurd z (show ¬ false = true by decide)
  · have z' : d = 600 := z
    omega⟩
theorem does_simple {i dep : Nat} {x : STP3} (hx : P[i]? = some x) (h6 : x.1 < 6) : Does cap lab ack cop P i (i + 1) dep (exE cap lab ack cop x) := by
  intro Lf D t d hd
  have hm : mcO cap lab ack cop P (i, dep, Lf, D, t, d) = some (if (exE cap lab ack cop x (t, d, false)).2.2 = true then .inl ((exE cap lab ack cop x (t, d, false)).1, (exE cap lab ack cop x (t, d, false)).2.1) else .inr (i + 1, dep, Lf, D, (exE cap lab ack cop x (t, d, false)).1, (exE cap lab ack cop x (t, d, false)).2.1)) := by
    unfold mcO mcS
    dsimp only
    rw [if_neg (by omega), hx]
    dsimp only
    rw [if_neg (by omega), if_neg (by omega)]
  constructor
  · rintro ⟨z1, z2⟩
    rw [if_neg (by rw [z1]; decide)] at hm
    exact ⟨1, Lf, D, reach_one hm, fun _ _ => ⟨rfl, rfl⟩⟩
  · intro z
    by_cases hs : (exE cap lab ack cop x (t, d, false)).2.2 = true
    · rw [if_pos hs] at hm
      refine ⟨1, fun G => ?_⟩
      exact gl_stop hm (by omega)
    · rw [if_neg hs] at hm
      have h600 := z.resolve_left hs
      refine ⟨1 + 1, fun G => ?_⟩
      rw [show G + (1 + 1) = (G + 1) + 1 by omega, reach_one hm (G + 1)]
      refine gl_stop ?_ (by omega)
      unfold mcO mcS
      dsimp only
      rw [if_pos (by omega), h600]
theorem does_comp {i j l dep : Nat} {E1 E2 : SEA → SEA} (ok1 : EfOk E1) (ok2 : EfOk E2) (h1 : Does cap lab ack cop P i j dep E1) (h2 : Does cap lab ack cop P j l dep E2) : Does cap lab ack cop P i l dep (fun z => E2 (E1 z)) := by
  intro Lf D t d hd
  obtain ⟨a1, a2⟩ := h1 Lf D t d hd
  obtain ⟨o1, o2, o3, o4, o5⟩ := ok1 (t, d, false) (by show d ≤ 600; omega)
  generalize hE1 : E1 (t, d, false) = s1 at a1 a2 o1 o2 o3 o4 o5
  obtain ⟨t1, d1, st1⟩ := s1
  dsimp only at a1 a2 o3 ⊢
  rw [hE1]
  obtain ⟨p1, p2, p3, p4, p5⟩ := ok2 (t1, d1, st1) o3
  by_cases hgo : st1 = false ∧ d1 < 600
  · obtain ⟨k, Lf', D', r1, r2⟩ := a1 hgo
    obtain ⟨rfl, hd1⟩ := hgo
    obtain ⟨b1, b2⟩ := h2 Lf' D' t1 d1 hd1
    constructor
    · intro z
      obtain ⟨k2, Lf2, D2, q1, q2⟩ := b1 z
      exact ⟨k + k2, Lf2, D2, reach_trans r1 q1, fun m hm => ⟨(q2 m hm).1.trans (r2 m hm).1, (q2 m hm).2.trans (r2 m hm).2⟩⟩
    · intro z
      obtain ⟨k2, q⟩ := b2 z
      refine ⟨k2 + k, fun G => ?_⟩
      rw [show G + (k2 + k) = (G + k2) + k by omega, r1, q]
  · have hst : st1 = true ∨ d1 = 600 := by
      cases st1 with
      | true => exact Or.inl rfl
      | false => exact Or.inr (by
          have : ¬ d1 < 600 := fun z => hgo ⟨rfl, z⟩
          have o3' : d1 ≤ 600 := o3
          omega)
    obtain ⟨k, q⟩ := a2 hst
    have hsame : (E2 (t1, d1, st1)).1 = t1 ∧ (E2 (t1, d1, st1)).2.1 = d1 := by
      rcases hst with hs | hs
      · rw [p1 hs]; exact ⟨rfl, rfl⟩
      · refine ⟨p4 hs, ?_⟩
        have p2' : d1 ≤ (E2 (t1, d1, st1)).2.1 := p2
        omega
    refine ⟨fun z => ?_, fun _ => ⟨k, fun G => ?_⟩⟩
    · exfalso
      rcases hst with hs | hs
      · rw [p1 hs] at z
        have z1 : st1 = false := z.1
        rw [z1] at hs
        exact absurd hs (by decide)
      · have := z.2
        rw [hsame.2] at this
        omega
    · rw [q G, hsame.1, hsame.2]
/-- the rounds of an again -/
theorem does_rounds {i len dep : Nat} {E : SEA → SEA} (ok : EfOk E) (hcl : P[i + 1 + len]? = some (7, i, 0)) (hb : Does cap lab ack cop P (i + 1) (i + 1 + len) (dep + 1) E) : ∀ (m : Nat), 1 ≤ m → ∀ (Lf D : Nat → Nat) (t : CTA) (d : Nat), d < 600 → Lf dep = m → D dep = d →
    ((itE E m (t, d, false)).2.2 = false ∧ (itE E m (t, d, false)).2.1 < 600 → ∃ (k : Nat) (Lf' D' : Nat → Nat), Reach (mcO cap lab ack cop P) (i + 1, dep + 1, Lf, D, t, d) (i + 1 + len + 1, dep, Lf', D', (itE E m (t, d, false)).1, (itE E m (t, d, false)).2.1) k ∧ ∀ m, m < dep → Lf' m = Lf m ∧ D' m = D m) ∧
    (((itE E m (t, d, false)).2.2 = true ∨ (itE E m (t, d, false)).2.1 = 600) → ∃ k, ∀ G, gloop (mcO cap lab ack cop P) (G + k) (i + 1, dep + 1, Lf, D, t, d) = some ((itE E m (t, d, false)).1, (itE E m (t, d, false)).2.1)) := by
  intro m
  induction m with
  | zero => intro h; omega
  | succ m ih =>
    intro _ Lf D t d hd hL hD
    obtain ⟨a1, a2⟩ := hb Lf D t d hd
    obtain ⟨o1, o2, o3, o4, o5⟩ := ok (t, d, false) (by show d ≤ 600; omega)
    have hit : itE E (m + 1) (t, d, false) = itE E m (E (t, d, false)) := by
      show (if ((t, d, false) : SEA).2.2 = true then _ else _) = _
      rw [if_neg (show ¬ false = true by decide)]
    rw [hit]
    generalize hE1 : E (t, d, false) = s1 at a1 a2 o1 o2 o3 o4 o5
    obtain ⟨t1, d1, st1⟩ := s1
    dsimp only at a1 a2 o2 o3
    obtain ⟨p1, p2, p3, p4, p5⟩ := ef_it ok m (t1, d1, st1) o3
    by_cases hgo : st1 = false ∧ d1 < 600
    · obtain ⟨k, Lf', D', r1, r2⟩ := a1 hgo
      obtain ⟨rfl, hd1⟩ := hgo
      obtain ⟨hL', hD'⟩ := r2 dep (by omega)
      rw [hL] at hL'
      rw [hD] at hD'
      by_cases hback : 1 < m + 1 ∧ d < d1
      · have hm : mcO cap lab ack cop P (i + 1 + len, dep + 1, Lf', D', t1, d1) = some (.inr (i + 1, dep + 1, updN Lf' dep m, updN D' dep d1, t1, d1)) := by
          unfold mcO mcS
          dsimp only
          rw [if_neg (by omega), hcl]
          dsimp only
          rw [if_neg (by decide), if_pos rfl, Nat.add_sub_cancel, if_pos ⟨by omega, by rw [hL']; exact hback.1, by rw [hD']; exact hback.2⟩, hL', Nat.add_sub_cancel]
        obtain ⟨b1, b2⟩ := ih (by omega) (updN Lf' dep m) (updN D' dep d1) t1 d1 hd1 (updN_at _ _ _) (updN_at _ _ _)
        have hr := reach_trans r1 (reach_one hm)
        constructor
        · intro z
          obtain ⟨k2, Lf2, D2, q1, q2⟩ := b1 z
          refine ⟨_, Lf2, D2, reach_trans hr q1, fun j hj => ?_⟩
          obtain ⟨q3, q4⟩ := q2 j hj
          obtain ⟨r3, r4⟩ := r2 j (by omega)
          rw [updN_ne (by omega)] at q3 q4
          exact ⟨q3.trans r3, q4.trans r4⟩
        · intro z
          obtain ⟨k2, q⟩ := b2 z
          refine ⟨k2 + (k + 1), fun G => ?_⟩
          rw [show G + (k2 + (k + 1)) = (G + k2) + (k + 1) by omega, hr, q]
      · have hm : mcO cap lab ack cop P (i + 1 + len, dep + 1, Lf', D', t1, d1) = some (.inr (i + 1 + len + 1, dep, Lf', D', t1, d1)) := by
          unfold mcO mcS
          dsimp only
          rw [if_neg (by omega), hcl]
          dsimp only
          rw [if_neg (by decide), if_pos rfl, Nat.add_sub_cancel, if_neg (fun z => hback ⟨by have := z.2.1; rw [hL'] at this; exact this, by have := z.2.2; rw [hD'] at this; exact this⟩)]
        have hsame : itE E m (t1, d1, false) = (t1, d1, false) := by
          by_cases hm0 : m = 0
          · subst hm0; rfl
          · have hdd : d1 = d := by
              have : ¬ d < d1 := fun z => hback ⟨by omega, z⟩
              omega
            have e0 := o5 rfl hdd
            obtain ⟨rfl, h2⟩ := Prod.mk.inj e0
            obtain ⟨rfl, _⟩ := Prod.mk.inj h2
            clear p1 p2 p3 p4 p5 ih
            have : ∀ j, itE E j (t1, d1, false) = (t1, d1, false) := by
              intro j
              induction j with
              | zero => rfl
              | succ j ihj =>
                show (if ((t1, d1, false) : SEA).2.2 = true then _ else itE E j (E (t1, d1, false))) = _
                rw [if_neg (show ¬ false = true by decide), hE1]
                exact ihj
            exact this m
        rw [hsame]
        refine ⟨fun _ => ⟨k + 1, Lf', D', reach_trans r1 (reach_one hm), fun j hj => r2 j (by omega)⟩, fun z => ?_⟩
        rcases z with z | z
        · exact absurd z (show ¬ false = true by decide)
        · have z' : d1 = 600 := z
          omega
    · have hst : st1 = true ∨ d1 = 600 := by
        cases st1 with
        | true => exact Or.inl rfl
        | false => exact Or.inr (by
            have : ¬ d1 < 600 := fun z => hgo ⟨rfl, z⟩
            omega)
      obtain ⟨k, q⟩ := a2 hst
      have hsame : (itE E m (t1, d1, st1)).1 = t1 ∧ (itE E m (t1, d1, st1)).2.1 = d1 := by
        rcases hst with hs | hs
        · rw [p1 hs]; exact ⟨rfl, rfl⟩
        · refine ⟨p4 hs, ?_⟩
          have p2' : d1 ≤ (itE E m (t1, d1, st1)).2.1 := p2
          omega
      refine ⟨fun z => ?_, fun _ => ⟨k, fun G => ?_⟩⟩
      · exfalso
        rcases hst with hs | hs
        · rw [p1 hs] at z
          have z1 : st1 = false := z.1
          rw [z1] at hs
          exact absurd hs (by decide)
        · have := z.2
          rw [hsame.2] at this
          omega
      · rw [q G, hsame.1, hsame.2]
theorem does_again {i len dep a : Nat} {E : SEA → SEA} (ok : EfOk E) (ho : dep < 4) (hop : P[i]? = some (6, a, i + 1 + len)) (hcl : P[i + 1 + len]? = some (7, i, 0)) (hb : Does cap lab ack cop P (i + 1) (i + 1 + len) (dep + 1) E) : Does cap lab ack cop P i (i + 1 + len + 1) dep (itE E a) := by
  intro Lf D t d hd
  by_cases ha : a = 0
  · subst ha
    have hm : mcO cap lab ack cop P (i, dep, Lf, D, t, d) = some (.inr (i + 1 + len + 1, dep, Lf, D, t, d)) := by
      unfold mcO mcS
      dsimp only
      rw [if_neg (by omega), hop]
      dsimp only
      rw [if_pos rfl, if_neg (by omega)]
    refine ⟨fun _ => ⟨1, Lf, D, reach_one hm, fun _ _ => ⟨rfl, rfl⟩⟩, fun z => ?_⟩
    rcases z with z | z
    · exact absurd z (show ¬ false = true by decide)
    · have z' : d = 600 := z
      omega
  · have hm : mcO cap lab ack cop P (i, dep, Lf, D, t, d) = some (.inr (i + 1, dep + 1, updN Lf dep a, updN D dep d, t, d)) := by
      unfold mcO mcS
      dsimp only
      rw [if_neg (by omega), hop]
      dsimp only
      rw [if_pos rfl, if_pos ⟨by omega, ho⟩]
    obtain ⟨b1, b2⟩ := does_rounds ok hcl hb a (by omega) (updN Lf dep a) (updN D dep d) t d hd (updN_at _ _ _) (updN_at _ _ _)
    constructor
    · intro z
      obtain ⟨k2, Lf2, D2, q1, q2⟩ := b1 z
      refine ⟨_, Lf2, D2, reach_trans (reach_one hm) q1, fun j hj => ?_⟩
      obtain ⟨q3, q4⟩ := q2 j hj
      rw [updN_ne (by omega)] at q3 q4
      exact ⟨q3, q4⟩
    · intro z
      obtain ⟨k2, q⟩ := b2 z
      refine ⟨k2 + 1, fun G => ?_⟩
      rw [show G + (k2 + 1) = (G + k2) + 1 by omega, reach_one hm, q]
end MCHN
