/-! part 9z5: the class does a step; it carries all out -/
section CARR
variable {cap lab ack cop : Nat} {P : List STP3} {A13 A15 A17 : Nat → Int32} {F : Nat}
def GDt (cap : Nat) (t : CTA) : Prop := ∃ (m : Int64) (mq mf md : Int32) (A70 A71 A72 A73 : Nat → Int32), DX cap t.1 t.2.1 t.2.2.1 t.2.2.2.1 t.2.2.2.2.1 t.2.2.2.2.2.1 t.2.2.2.2.2.2.1 t.2.2.2.2.2.2.2 m mq mf md A70 A71 A72 A73
def cn0 (t : CTA) : Int32 := t.2.2.2.2.2.2.2 0
theorem perf_c (hs : Stt cap lab ack cop) {t : CTA} (hg : GDt cap t) {w k : Nat} (ht : there lab t.1 w k) : ∃ o : Int32, fX11_perform (Int32.ofNat cap) (Int32.ofNat lab) (Int32.ofNat ack) (Int32.ofNat cop) t.1 t.2.1 t.2.2.1 t.2.2.2.1 t.2.2.2.2.1 t.2.2.2.2.2.1 t.2.2.2.2.2.2.1 t.2.2.2.2.2.2.2 (codeN w k 0) = some (o, pfC cap lab ack cop t (codeN w k 0)) ∧ GDt cap (pfC cap lab ack cop t (codeN w k 0)) ∧ cn0 (pfC cap lab ack cop t (codeN w k 0)) = cn0 t + 1 := by
  obtain ⟨m, mq, mf, md, A70, A71, A72, A73, hD⟩ := hg
  obtain ⟨X, Y, o, lp, ll, e1, e2, e3, e4, e5, e6, e7⟩ := both_act hs.1.2 hs.2.1.2 hs.2.2.1.2 hs.2.2.2.2 hD ht (args_m w k) (F := 40) (by decide) 0 0 0 0
  have hp : pfC cap lab ack cop t (codeN w k 0) = X.2 := by
    unfold pfC
    rw [e1]
  rw [hp]
  refine ⟨X.1, e1, ⟨_, _, _, _, _, _, _, _, e6⟩, ?_⟩
  unfold cn0
  rw [show X.2.2.2.2.2.2.2.2 = cnt t.2.2.2.2.2.2.2 o lp ll from e7]
  exact if_pos rfl
theorem fp_facts (c : Int64) : ∀ (f k j : Nat), fpF c f k = some j → k ≤ j ∧ j < k + f ∧ 1 ≤ dg c (pkPos j) 2 := by
  intro f
  induction f with
  | zero => intro k j h; exact absurd h (by simp [fpF])
  | succ f ih =>
    intro k j h
    have hu : fpF c (f + 1) k = if 1 ≤ dg c (pkPos k) 2 then some k else fpF c f (k + 1) := rfl
    rw [hu] at h
    by_cases h1 : 1 ≤ dg c (pkPos k) 2
    · rw [if_pos h1] at h
      obtain rfl := Option.some.inj h
      exact ⟨Nat.le_refl _, by omega, h1⟩
    · rw [if_neg h1] at h
      obtain ⟨a, b, c⟩ := ih (k + 1) j h
      exact ⟨by omega, by omega, c⟩
def fpI (o : Option Nat) : Int32 := match o with
  | none => -1
  | some k => Int32.ofNat k
theorem firstP_eq (hlab : lab ≤ 4) (c : Int64) (hF : 100 ≤ F) : fX7_firstPacket F (Int32.ofNat lab) c = some (fpI (fpF c (2 * lab) 0)) := by
  have e2l : (2 : Int32) * Int32.ofNat lab = Int32.ofNat (2 * lab) := i32_mul 2 lab
  have key : ∀ (f k F' : Nat), k + f = 2 * lab → f < F' → (gloop (fun u1 : Int32 => fX7_firstPacket_S2 F (Int32.ofNat lab) c u1) F' (Int32.ofNat k)).bind (Sum.elim (fun t1_23 => some t1_23) (fun t1_31 => some (-1))) = some (fpI (fpF c f k)) := by
    intro f
    induction f with
    | zero =>
      intro k F' hk hF'
      obtain ⟨G, rfl⟩ : ∃ G, F' = G + 1 := ⟨F' - 1, by omega⟩
      simp only [gloop]
      unfold fX7_firstPacket_S2
      rw [e2l, if_pos ((i32_le (by omega) (by omega)).mpr (by omega))]
      rfl
    | succ f ih =>
      intro k F' hk hF'
      obtain ⟨G, rfl⟩ : ∃ G, F' = G + 1 := ⟨F' - 1, by omega⟩
      have hu : fpF c (f + 1) k = if 1 ≤ dg c (pkPos k) 2 then some k else fpF c f (k + 1) := rfl
      have hd := digit_le0 c (n := pkPos k) (by unfold pkPos; omega)
      rw [hu]
      by_cases h1 : 1 ≤ dg c (pkPos k) 2
      · have hst : fX7_firstPacket_S2 F (Int32.ofNat lab) c (Int32.ofNat k) = some (.inl (.inl (Int32.ofNat k))) := by
          unfold fX7_firstPacket_S2
          rw [e2l, if_neg (fun z => by have := (i32_le (by omega) (by omega)).mp z; omega), packetsAt_p k (by omega), if_neg (fun z => hd.mp z h1)]
        simp only [gloop, hst]
        rw [if_pos h1]
        rfl
      · have hst : fX7_firstPacket_S2 F (Int32.ofNat lab) c (Int32.ofNat k) = some (.inr (Int32.ofNat (k + 1))) := by
          unfold fX7_firstPacket_S2
          rw [e2l, if_neg (fun z => by have := (i32_le (by omega) (by omega)).mp z; omega), packetsAt_p k (by omega), if_pos (hd.mpr h1), i32_succ]
        simp only [gloop, hst]
        rw [if_neg h1]
        exact ih (k + 1) G (by omega) (by omega)
  unfold fX7_firstPacket
  exact key (2 * lab) 0 F (by omega) (by omega)
theorem kind_split : ∀ k : Fin 8, fX0_codeOf 3 ((Int32.ofNat k.val) >>> (1 &&& 31)) ((Int32.ofNat k.val) &&& (1 : Int32)) = codeN 3 k.val 0 ∧ fX0_codeOf (Int32.ofNat 3) (Int32.ofNat (k.val / 2)) (Int32.ofNat (k.val % 2)) = codeN 3 k.val 0 := by decide +kernel
theorem lose_offers (hs : Stt cap lab ack cop) {t : CTA} (hg : GDt cap t) {k : Nat} (hk : k < 2 * lab) (h1 : 1 ≤ dg t.1 (pkPos k) 2) : ¬ fX7_offers (Int32.ofNat lab) t.1 (Int32.ofNat 3) (Int32.ofNat (k / 2)) (Int32.ofNat (k % 2)) = 0 := by
  obtain ⟨m, mq, mf, md, A70, A71, A72, A73, hD⟩ := hg
  have hb := hs.2.1
  rcases offers_eq hD.1 (by omega) hb.2 (Int32.ofNat 3) (Int32.ofNat (k / 2)) (Int32.ofNat (k % 2)) with ⟨_, h | h⟩ | ⟨h, _⟩
  · exact absurd h (within_04 (Or.inr (Or.inr (Or.inr (Or.inl rfl)))))
  · rw [there_pk hD.1 (by omega) hb.2 (w := 3) (Or.inr rfl) (show k / 2 < lab by omega) (show k % 2 < 2 by omega), show 2 * (k / 2) + k % 2 = k by omega, if_pos h1] at h
    exact absurd h (by decide)
  · exact h
theorem lose_act (hs : Stt cap lab ack cop) {t : CTA} (hg : GDt cap t) {k d : Nat} (hk : k < 2 * lab) (h1 : 1 ≤ dg t.1 (pkPos k) 2) (hd : d < 600) : actE cap lab ack cop 3 (k / 2) (k % 2) (t, d, false) = (pfC cap lab ack cop t (codeN 3 k 0), d + 1, false) := by
  have hb := hs.2.1
  unfold actE
  dsimp only
  rw [if_neg (show ¬ false = true by decide), if_neg (by omega), if_neg (lose_offers hs hg hk h1), (kind_split ⟨k, by omega⟩).2]
abbrev CLS := Int32 × Int32 × CTA
/-- clear -/
theorem clear_c (hs : Stt cap lab ack cop) (hF : 1000 ≤ F) (a : Nat) (ha : a ≤ 30) (d0 : Nat) : ∀ (m i : Nat) (t : CTA) (F' : Nat), i + m = a → d0 + i ≤ 600 → GDt cap t → m < F' → ∃ t' : CTA, gloop (fun u10 : CLS => fX11_doStep_S59 F (Int32.ofNat cap) (Int32.ofNat lab) (Int32.ofNat ack) (Int32.ofNat cop) A13 A15 A17 (Int32.ofNat (600 - d0)) (Int32.ofNat a) u10.1 u10.2.1 u10.2.2.1 u10.2.2.2.1 u10.2.2.2.2.1 u10.2.2.2.2.2.1 u10.2.2.2.2.2.2.1 u10.2.2.2.2.2.2.2.1 u10.2.2.2.2.2.2.2.2.1 u10.2.2.2.2.2.2.2.2.2) F' (fpI (fpF t.1 (2 * lab) 0), Int32.ofNat i, t) = some t' ∧ t' = (clrE cap lab ack cop m (t, d0 + i, false)).1 ∧ GDt cap t' ∧ d0 + i ≤ (clrE cap lab ack cop m (t, d0 + i, false)).2.1 ∧ (clrE cap lab ack cop m (t, d0 + i, false)).2.1 ≤ 600 ∧ cn0 t' = cn0 t + Int32.ofNat ((clrE cap lab ack cop m (t, d0 + i, false)).2.1 - (d0 + i)) ∧ ((clrE cap lab ack cop m (t, d0 + i, false)).2.2 = true → (clrE cap lab ack cop m (t, d0 + i, false)).2.1 = 600) := by
  have hb := hs.2.1
  intro m
  induction m with
  | zero =>
    intro i t F' hi hd hg hF'
    obtain ⟨G, rfl⟩ : ∃ G, F' = G + 1 := ⟨F' - 1, by omega⟩
    refine ⟨t, ?_, rfl, hg, Nat.le_refl _, hd, ?_, fun z => absurd z (show ¬ false = true by decide)⟩
    · simp only [gloop]
      unfold fX11_doStep_S59
      rw [if_pos ((i32_le (by omega) (by omega)).mpr (by omega))]
    · show cn0 t = cn0 t + Int32.ofNat (d0 + i - (d0 + i))
      rw [Nat.sub_self]
      exact (Int32.add_zero _).symm
  | succ m ih =>
    intro i t F' hi hd hg hF'
    obtain ⟨G, rfl⟩ : ∃ G, F' = G + 1 := ⟨F' - 1, by omega⟩
    have hu : clrE cap lab ack cop (m + 1) (t, d0 + i, false) = match fpF t.1 (2 * lab) 0 with | none => (t, d0 + i, false) | some k => clrE cap lab ack cop m (actE cap lab ack cop 3 (k / 2) (k % 2) (t, d0 + i, false)) := by
      show (if ((t, d0 + i, false) : SEA).2.2 = true then _ else _) = _
      rw [if_neg (show ¬ false = true by decide)]
      rfl
    rw [hu]
    cases hfp : fpF t.1 (2 * lab) 0 with
    | none =>
      dsimp only
      refine ⟨t, ?_, rfl, hg, Nat.le_refl _, hd, ?_, fun z => absurd z (show ¬ false = true by decide)⟩
      · simp only [gloop]
        unfold fX11_doStep_S59
        rw [if_neg (fun z => by have := (i32_le (by omega) (by omega)).mp z; omega)]
        by_cases hm : Int32.ofNat (600 - d0) ≤ Int32.ofNat i
        · rw [if_pos hm]
        · rw [if_neg hm, if_pos (show fpI none = -1 from rfl)]
      · rw [Nat.sub_self]
        exact (Int32.add_zero _).symm
    | some k =>
      obtain ⟨_, f2, f3⟩ := fp_facts t.1 (2 * lab) 0 k hfp
      dsimp only
      by_cases hfull : d0 + i = 600
      · have ha2 : actE cap lab ack cop 3 (k / 2) (k % 2) (t, d0 + i, false) = (t, d0 + i, true) := by
          unfold actE
          dsimp only
          rw [if_neg (show ¬ false = true by decide), if_pos hfull]
        have hst2 : clrE cap lab ack cop m (t, d0 + i, true) = (t, d0 + i, true) := (ef_clr (cap := cap) (lab := lab) (ack := ack) (cop := cop) m (t, d0 + i, true) (by show d0 + i ≤ 600; omega)).1 rfl
        rw [ha2, hst2]
        refine ⟨t, ?_, rfl, hg, Nat.le_refl _, hd, ?_, fun _ => hfull⟩
        · simp only [gloop]
          unfold fX11_doStep_S59
          rw [if_neg (fun z => by have := (i32_le (by omega) (by omega)).mp z; omega), if_pos ((i32_le (by omega) (by omega)).mpr (by omega))]
        · rw [Nat.sub_self]
          exact (Int32.add_zero _).symm
      · have hact := lose_act hs hg (k := k) (d := d0 + i) (by omega) f3 (by omega)
        have hth : there lab t.1 3 k := Or.inr (Or.inl ⟨Or.inr rfl, by omega, f3⟩)
        obtain ⟨o, p1, p2, p3⟩ := perf_c hs hg hth
        rw [hact]
        obtain ⟨t', r1, r2, r3, r4, r5, r6, r7⟩ := ih (i + 1) (pfC cap lab ack cop t (codeN 3 k 0)) G (by omega) (by omega) p2 (by omega)
        rw [show d0 + (i + 1) = d0 + i + 1 by omega] at r2 r4 r5 r6 r7
        refine ⟨t', ?_, r2, r3, by omega, r5, ?_, r7⟩
        · have hst : fX11_doStep_S59 F (Int32.ofNat cap) (Int32.ofNat lab) (Int32.ofNat ack) (Int32.ofNat cop) A13 A15 A17 (Int32.ofNat (600 - d0)) (Int32.ofNat a) (fpI (some k)) (Int32.ofNat i) t.1 t.2.1 t.2.2.1 t.2.2.2.1 t.2.2.2.2.1 t.2.2.2.2.2.1 t.2.2.2.2.2.2.1 t.2.2.2.2.2.2.2 = some (.inr (fpI (fpF (pfC cap lab ack cop t (codeN 3 k 0)).1 (2 * lab) 0), Int32.ofNat (i + 1), pfC cap lab ack cop t (codeN 3 k 0))) := by
            unfold fX11_doStep_S59
            rw [if_neg (fun z => by have := (i32_le (by omega) (by omega)).mp z; omega), if_neg (fun z => by have := (i32_le (by omega) (by omega)).mp z; omega), if_neg (show ¬ fpI (some k) = -1 from fun z => by
              have h9 := congrArg Int32.toInt z
              have h7 : (fpI (some k)).toInt = k := i32_int (by omega)
              rw [h7] at h9
              have h8 : (-1 : Int32).toInt = -1 := rfl
              omega)]
            rw [show fpI (some k) = Int32.ofNat k from rfl, (kind_split ⟨k, by omega⟩).1, p1, Option.bind_some]
            dsimp only
            rw [firstP_eq hb.2 _ (by omega), Option.bind_some, i32_succ]
          simp only [gloop, hst]
          exact r1
        · rw [r6, p3, Int32.add_assoc, show (1 : Int32) = Int32.ofNat 1 from rfl, i32_add]
          congr 2
          omega
/-- a step that is done -/
theorem doStep_eq (hs : Stt cap lab ack cop) (hF : 1000 ≤ F) {t : CTA} (hg : GDt cap t) {d at' : Nat} (hd : d < 600) {x : STP3} (h6 : x.1 < 6) (ha : x.2.1 ≤ 30) (hv : x.2.2 ≤ 30) (hat : at' < 64) (c13 : A13 at' = Int32.ofNat x.1) (c15 : A15 at' = Int32.ofNat x.2.1) (c17 : A17 at' = Int32.ofNat x.2.2) : ∃ fl : Int32, fX11_doStep F (Int32.ofNat cap) (Int32.ofNat lab) (Int32.ofNat ack) (Int32.ofNat cop) A13 A15 A17 t.1 t.2.1 t.2.2.1 t.2.2.2.1 t.2.2.2.2.1 t.2.2.2.2.2.1 t.2.2.2.2.2.2.1 t.2.2.2.2.2.2.2 (Int32.ofNat at') (Int32.ofNat (600 - d)) = some (fl, (exE cap lab ack cop x (t, d, false)).1) ∧ GDt cap (exE cap lab ack cop x (t, d, false)).1 ∧ cn0 (exE cap lab ack cop x (t, d, false)).1 = cn0 t + Int32.ofNat ((exE cap lab ack cop x (t, d, false)).2.1 - d) ∧ ((fl = 0 ∧ (exE cap lab ack cop x (t, d, false)).2.2 = true) ∨ (¬ fl = 0 ∧ ((exE cap lab ack cop x (t, d, false)).2.2 = true → (exE cap lab ack cop x (t, d, false)).2.1 = 600))) := by
  have hb := hs.2.1
  have e13 : cAt 64 A13 (Int32.ofNat at') = Int32.ofNat x.1 := by rw [cAt_nat hat (by decide), c13]
  have e15 : cAt 64 A15 (Int32.ofNat at') = Int32.ofNat x.2.1 := by rw [cAt_nat hat (by decide), c15]
  have e17 : cAt 64 A17 (Int32.ofNat at') = Int32.ofNat x.2.2 := by rw [cAt_nat hat (by decide), c17]
  unfold fX11_doStep exE
  rw [e13, e15, e17]
  by_cases h5 : x.1 = 5
  · rw [if_pos (show Int32.ofNat x.1 = 5 by rw [h5]; rfl), firstP_eq hb.2 _ (by omega), Option.bind_some, if_pos h5]
    obtain ⟨t', r1, r2, r3, r4, r5, r6, r7⟩ := clear_c (A13 := A13) (A15 := A15) (A17 := A17) hs hF x.2.1 ha d x.2.1 0 t F (by omega) (by omega) hg (by omega)
    rw [show d + 0 = d from rfl] at r2 r4 r5 r6 r7
    rw [show (0 : Int32) = Int32.ofNat 0 from rfl]
    refine ⟨1, ?_, ?_, ?_, Or.inr ⟨by decide, r7⟩⟩
    · rw [← r2]
      show (gloop (fun u10 : CLS => fX11_doStep_S59 F (Int32.ofNat cap) (Int32.ofNat lab) (Int32.ofNat ack) (Int32.ofNat cop) A13 A15 A17 (Int32.ofNat (600 - d)) (Int32.ofNat x.2.1) u10.1 u10.2.1 u10.2.2.1 u10.2.2.2.1 u10.2.2.2.2.1 u10.2.2.2.2.2.1 u10.2.2.2.2.2.2.1 u10.2.2.2.2.2.2.2.1 u10.2.2.2.2.2.2.2.2.1 u10.2.2.2.2.2.2.2.2.2) F (fpI (fpF t.1 (2 * lab) 0), Int32.ofNat 0, t)).bind _ = _
      rw [r1, Option.bind_some]
    · rw [← r2]; exact r3
    · rw [← r2]; exact r6
  · rw [if_neg (show ¬ Int32.ofNat x.1 = 5 from fun z => h5 ((i32_eq (b := 5) (by omega) (by decide)).mp z)), if_neg h5]
    unfold actE
    dsimp only
    rw [if_neg (show ¬ false = true by decide), if_neg (show ¬ d = 600 by omega)]
    by_cases hoff : fX7_offers (Int32.ofNat lab) t.1 (Int32.ofNat x.1) (Int32.ofNat x.2.1) (Int32.ofNat x.2.2) = 0
    · rw [if_pos hoff, if_pos hoff]
      refine ⟨0, rfl, hg, ?_, Or.inl ⟨rfl, rfl⟩⟩
      show cn0 t = cn0 t + Int32.ofNat (d - d)
      rw [Nat.sub_self]
      exact (Int32.add_zero _).symm
    · rw [if_neg hoff, if_neg hoff]
      obtain ⟨m, mq, mf, md, A70, A71, A72, A73, hD⟩ := id hg
      rcases offers_eq hD.1 (by omega) hb.2 (Int32.ofNat x.1) (Int32.ofNat x.2.1) (Int32.ofNat x.2.2) with ⟨h, _⟩ | ⟨_, _, _, w, k, g1, g2, g3, g4⟩
      · exact absurd h hoff
      · obtain ⟨o, p1, p2, p3⟩ := perf_c hs hg g2
        rw [g4, p1, Option.bind_some]
        refine ⟨1, rfl, p2, ?_, Or.inr ⟨by decide, fun z => absurd z (show ¬ false = true by decide)⟩⟩
        show cn0 (pfC cap lab ack cop t (codeN w k 0)) = cn0 t + Int32.ofNat (d + 1 - d)
        rw [p3, Nat.add_sub_cancel_left]
        rfl
end CARR
