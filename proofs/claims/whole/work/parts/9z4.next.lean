/-! part 9z4: the class's next step -/
section NEXC
variable {cap lab ack cop : Nat} {P : List STP3} {A13 A15 A17 : Nat → Int32} {F : Nat}
def PhA (S : Nat) (at' dep : Nat) (D : Nat → Nat) (d : Nat) : Nat := (S - at') + sumTo (fun k => if D k < d then S + 1 else 0) dep
def MLs (dep : Nat) (Lf D : Nat → Nat) (A21 A23 : Nat → Int32) : Prop := ∀ k, k < dep → A21 k = Int32.ofNat (Lf k) ∧ A23 k = Int32.ofNat (D k) ∧ Lf k ≤ 30 ∧ D k ≤ 600
abbrev NXS := Int32 × Int32 × Int32 × (Nat → Int32) × (Nat → Int32)
theorem ph_le {S at' dep d : Nat} {D : Nat → Nat} (h : dep ≤ 4) (hS : S ≤ 53) : PhA S at' dep D d ≤ 300 := by
  unfold PhA
  have h1 : sumTo (fun k => if D k < d then S + 1 else 0) dep ≤ dep * (S + 1) := sumTo_le (fun k => by split <;> omega) dep
  have h2 : dep * (S + 1) ≤ 4 * 54 := Nat.mul_le_mul h (by omega)
  omega
theorem next_loop (hwf : WfC P 0) (hS : P.length ≤ 53) (hP : CodeAt P 0 A13 A15 A17) : ∀ (m at' dep : Nat) (Lf D : Nat → Nat) (t : CTA) (d turn F' : Nat) (A21 A23 : Nat → Int32), PhA P.length at' dep D d ≤ m → dep ≤ 4 → at' ≤ 60 → d ≤ 600 → MLs dep Lf D A21 A23 → turn + m < 1000000 → m < F' →
    ∃ (at2 dep2 : Nat) (Lf2 D2 : Nat → Nat) (B21 B23 : Nat → Int32), dep2 ≤ 4 ∧ at2 ≤ 60 ∧ MLs dep2 Lf2 D2 B21 B23 ∧ PhA P.length at2 dep2 D2 d ≤ PhA P.length at' dep D d ∧ (d < 600 → ∃ k, Reach (mcO cap lab ack cop P) (at', dep, Lf, D, t, d) (at2, dep2, Lf2, D2, t, d) k) ∧
      ((∃ x, P[at2]? = some x ∧ x.1 < 6 ∧ gloop (fun u1 : NXS => fX8_next_S2 F (Int32.ofNat P.length) A13 A15 A17 (Int32.ofNat d) u1.1 u1.2.1 u1.2.2.1 u1.2.2.2.1 u1.2.2.2.2) F' (Int32.ofNat turn, Int32.ofNat dep, Int32.ofNat at', A21, A23) = some (.inl (Int32.ofNat dep2, Int32.ofNat at2, B21, B23))) ∨
       (P[at2]? = none ∧ gloop (fun u1 : NXS => fX8_next_S2 F (Int32.ofNat P.length) A13 A15 A17 (Int32.ofNat d) u1.1 u1.2.1 u1.2.2.1 u1.2.2.2.1 u1.2.2.2.2) F' (Int32.ofNat turn, Int32.ofNat dep, Int32.ofNat at', A21, A23) = some (.inr (Int32.ofNat dep2, Int32.ofNat at2, B21, B23)))) := by
  intro m
  induction m using Nat.strongRecOn with
  | ind m ih =>
  intro at' dep Lf D t d turn F' A21 A23 hph hdep hat hd hML hturn hF'
  obtain ⟨G, rfl⟩ : ∃ G, F' = G + 1 := ⟨F' - 1, by omega⟩
  cases hx : P[at']? with
  | none =>
    have hge : P.length ≤ at' := List.getElem?_eq_none_iff.mp hx
    refine ⟨at', dep, Lf, D, A21, A23, hdep, hat, hML, Nat.le_refl _, fun _ => ⟨0, Reach.rfl' _⟩, Or.inr ⟨hx, ?_⟩⟩
    simp only [gloop]
    unfold fX8_next_S2
    rw [if_neg (fun z => by have := (i32_le (a := 1000000) (by decide) (by omega)).mp z; omega), if_neg (i32_nneg (by omega)), if_pos ((i32_le (by omega) (by omega)).mpr hge)]
  | some x =>
    have hlt : at' < P.length := (List.getElem?_eq_some_iff.mp hx).1
    obtain ⟨w1, w2, w3, w4⟩ := hwf at' x hx
    obtain ⟨p1, p2, p3⟩ := hP at' x hx
    rw [Nat.zero_add] at p1 p2 p3 w1 w2
    have c13 : cAt 64 A13 (Int32.ofNat at') = Int32.ofNat x.1 := by rw [cAt_nat (by omega) (by decide), p1]
    have c15 : cAt 64 A15 (Int32.ofNat at') = Int32.ofNat x.2.1 := by rw [cAt_nat (by omega) (by decide), p2]
    have c17 : cAt 64 A17 (Int32.ofNat at') = Int32.ofNat x.2.2 := by rw [cAt_nat (by omega) (by decide), p3]
    by_cases h6 : x.1 = 6
    · obtain ⟨v1, v2, v3⟩ := w1 h6
      by_cases hent : 0 < x.2.1 ∧ dep < 4
      · have hst : fX8_next_S2 F (Int32.ofNat P.length) A13 A15 A17 (Int32.ofNat d) (Int32.ofNat turn) (Int32.ofNat dep) (Int32.ofNat at') A21 A23 = some (.inr (Int32.ofNat (turn + 1), Int32.ofNat (dep + 1), Int32.ofNat (at' + 1), upd A21 dep (Int32.ofNat x.2.1), upd A23 dep (Int32.ofNat d))) := by
          unfold fX8_next_S2 fX8_next_J91
          rw [if_neg (fun z => by have := (i32_le (a := 1000000) (by decide) (by omega)).mp z; omega), if_neg (i32_nneg (by omega)), if_neg (fun z => by have := (i32_le (by omega) (by omega)).mp z; omega), c13, h6, if_pos (show Int32.ofNat 6 = 6 from rfl)]
          unfold fX8_enter fX8_mayOpen
          rw [c15, if_neg (show ¬ Int32.ofNat x.2.1 ≤ 0 from fun z => by have := (i32_le (b := 0) (by omega) (by decide)).mp z; omega), if_neg (show ¬ (if (4 : Int32) ≤ Int32.ofNat dep then (0 : Int32) else 1) = 0 by rw [if_neg (fun z => by have := (i32_le (a := 4) (by decide) (by omega)).mp z; omega)]; decide), i32_succ, i32_succ, i32_succ, cput hent.2 (by decide), cput hent.2 (by decide)]
        have hms : d < 600 → mcO cap lab ack cop P (at', dep, Lf, D, t, d) = some (.inr (at' + 1, dep + 1, updN Lf dep x.2.1, updN D dep d, t, d)) := by
          intro h
          unfold mcO mcS
          dsimp only
          rw [if_neg (by omega), hx]
          dsimp only
          rw [if_pos h6, if_pos hent]
        have hphi : PhA P.length (at' + 1) (dep + 1) (updN D dep d) d + 1 ≤ PhA P.length at' dep D d := by
          unfold PhA
          have e1 : sumTo (fun k => if updN D dep d k < d then P.length + 1 else 0) (dep + 1) = sumTo (fun k => if updN D dep d k < d then P.length + 1 else 0) dep + (if updN D dep d dep < d then P.length + 1 else 0) := rfl
          rw [e1, updN_at, if_neg (by omega), sumTo_congr (h := fun k => if D k < d then P.length + 1 else 0) dep (fun k hk => by rw [updN_ne (by omega)])]
          omega
        obtain ⟨at2, dep2, Lf2, D2, B21, B23, r1, r2, r3, r4, r5, r6⟩ := ih (m - 1) (by omega) (at' + 1) (dep + 1) (updN Lf dep x.2.1) (updN D dep d) t d (turn + 1) G (upd A21 dep (Int32.ofNat x.2.1)) (upd A23 dep (Int32.ofNat d)) (by omega) (by omega) (by omega) hd (fun k hk => by
          by_cases hkd : k = dep
          · subst hkd
            rw [upd_at, upd_at, updN_at, updN_at]
            exact ⟨rfl, rfl, v3, hd⟩
          · rw [upd_ne hkd, upd_ne hkd, updN_ne hkd, updN_ne hkd]
            exact hML k (by omega)) (by omega) (by omega)
        refine ⟨at2, dep2, Lf2, D2, B21, B23, r1, r2, r3, by omega, fun h => ?_, ?_⟩
        · obtain ⟨k, hk⟩ := r5 h
          exact ⟨_, reach_trans (reach_one (hms h)) hk⟩
        · simp only [gloop, hst]
          exact r6
      · have hst : fX8_next_S2 F (Int32.ofNat P.length) A13 A15 A17 (Int32.ofNat d) (Int32.ofNat turn) (Int32.ofNat dep) (Int32.ofNat at') A21 A23 = some (.inr (Int32.ofNat (turn + 1), Int32.ofNat dep, Int32.ofNat (x.2.2 + 1), A21, A23)) := by
          unfold fX8_next_S2 fX8_next_J91
          rw [if_neg (fun z => by have := (i32_le (a := 1000000) (by decide) (by omega)).mp z; omega), if_neg (i32_nneg (by omega)), if_neg (fun z => by have := (i32_le (by omega) (by omega)).mp z; omega), c13, h6, if_pos (show Int32.ofNat 6 = 6 from rfl)]
          unfold fX8_enter fX8_mayOpen fX8_enter_J78
          rw [c15, c17, i32_succ, i32_succ]
          by_cases h0 : x.2.1 = 0
          · rw [if_pos (show Int32.ofNat x.2.1 ≤ 0 from (i32_le (b := 0) (by omega) (by decide)).mpr (by omega))]
          · rw [if_neg (show ¬ Int32.ofNat x.2.1 ≤ 0 from fun z => by have := (i32_le (b := 0) (by omega) (by decide)).mp z; omega), if_pos (show (if (4 : Int32) ≤ Int32.ofNat dep then (0 : Int32) else 1) = 0 by rw [if_pos (show (4 : Int32) ≤ Int32.ofNat dep from (i32_le (a := 4) (by decide) (by omega)).mpr (by omega))])]
        have hms : d < 600 → mcO cap lab ack cop P (at', dep, Lf, D, t, d) = some (.inr (x.2.2 + 1, dep, Lf, D, t, d)) := by
          intro h
          unfold mcO mcS
          dsimp only
          rw [if_neg (by omega), hx]
          dsimp only
          rw [if_pos h6, if_neg hent]
        have hphi : PhA P.length (x.2.2 + 1) dep D d + 1 ≤ PhA P.length at' dep D d := by
          unfold PhA
          omega
        obtain ⟨at2, dep2, Lf2, D2, B21, B23, r1, r2, r3, r4, r5, r6⟩ := ih (m - 1) (by omega) (x.2.2 + 1) dep Lf D t d (turn + 1) G A21 A23 (by omega) hdep (by omega) hd hML (by omega) (by omega)
        refine ⟨at2, dep2, Lf2, D2, B21, B23, r1, r2, r3, by omega, fun h => ?_, ?_⟩
        · obtain ⟨k, hk⟩ := r5 h
          exact ⟨_, reach_trans (reach_one (hms h)) hk⟩
        · simp only [gloop, hst]
          exact r6
    · by_cases h7 : x.1 = 7
      · have v1 := w2 h7
        by_cases hbk : 1 ≤ dep ∧ 1 < Lf (dep - 1) ∧ D (dep - 1) < d
        · obtain ⟨e, rfl⟩ : ∃ e, dep = e + 1 := ⟨dep - 1, by omega⟩
          rw [Nat.add_sub_cancel] at hbk
          obtain ⟨m1, m2, m3, m4⟩ := hML e (by omega)
          have hst : fX8_next_S2 F (Int32.ofNat P.length) A13 A15 A17 (Int32.ofNat d) (Int32.ofNat turn) (Int32.ofNat (e + 1)) (Int32.ofNat at') A21 A23 = some (.inr (Int32.ofNat (turn + 1), Int32.ofNat (e + 1), Int32.ofNat (x.2.1 + 1), upd A21 e (Int32.ofNat (Lf e - 1)), upd A23 e (Int32.ofNat d))) := by
            unfold fX8_next_S2 fX8_next_J91
            rw [if_neg (fun z => by have := (i32_le (a := 1000000) (by decide) (by omega)).mp z; omega), if_neg (i32_nneg (by omega)), if_neg (fun z => by have := (i32_le (by omega) (by omega)).mp z; omega), c13, h7, if_neg (show ¬ Int32.ofNat 7 = 6 by decide), if_pos (show Int32.ofNat 7 = 7 from rfl)]
            unfold fX8_leave
            rw [i32_pred (by omega) (by omega), show e + 1 - 1 = e by omega, if_neg (i32_nneg (by omega)), cAt_nat (by omega) (by decide), m1, if_neg (fun z => by have := (i32_le (b := 1) (by omega) (by decide)).mp z; omega), cAt_nat (by omega) (by decide), m2, if_neg (fun z => by have := (i32_le (by omega) (by omega)).mp z; omega), c15, i32_succ, i32_succ, i32_pred (by omega) (by omega), cput (by omega) (by decide), cput (by omega) (by decide)]
          have hms : d < 600 → mcO cap lab ack cop P (at', e + 1, Lf, D, t, d) = some (.inr (x.2.1 + 1, e + 1, updN Lf e (Lf e - 1), updN D e d, t, d)) := by
            intro h
            unfold mcO mcS
            dsimp only
            rw [if_neg (by omega), hx]
            dsimp only
            rw [if_neg h6, if_pos h7, Nat.add_sub_cancel, if_pos hbk]
          have hphi : PhA P.length (x.2.1 + 1) (e + 1) (updN D e d) d + 1 ≤ PhA P.length at' (e + 1) D d := by
            unfold PhA
            have e1 : sumTo (fun k => if updN D e d k < d then P.length + 1 else 0) (e + 1) = sumTo (fun k => if updN D e d k < d then P.length + 1 else 0) e + (if updN D e d e < d then P.length + 1 else 0) := rfl
            have e2 : sumTo (fun k => if D k < d then P.length + 1 else 0) (e + 1) = sumTo (fun k => if D k < d then P.length + 1 else 0) e + (if D e < d then P.length + 1 else 0) := rfl
            rw [e1, e2, updN_at, if_neg (Nat.lt_irrefl d), if_pos hbk.2.2, sumTo_congr (h := fun k => if D k < d then P.length + 1 else 0) e (fun k hk => by rw [updN_ne (by omega)])]
            omega
          obtain ⟨at2, dep2, Lf2, D2, B21, B23, r1, r2, r3, r4, r5, r6⟩ := ih (m - 1) (by omega) (x.2.1 + 1) (e + 1) (updN Lf e (Lf e - 1)) (updN D e d) t d (turn + 1) G (upd A21 e (Int32.ofNat (Lf e - 1))) (upd A23 e (Int32.ofNat d)) (by omega) hdep (by omega) hd (fun k hk => by
            by_cases hkd : k = e
            · subst hkd
              rw [upd_at, upd_at, updN_at, updN_at]
              exact ⟨rfl, rfl, by omega, hd⟩
            · rw [upd_ne hkd, upd_ne hkd, updN_ne hkd, updN_ne hkd]
              exact hML k hk) (by omega) (by omega)
          refine ⟨at2, dep2, Lf2, D2, B21, B23, r1, r2, r3, by omega, fun h => ?_, ?_⟩
          · obtain ⟨k, hk⟩ := r5 h
            exact ⟨_, reach_trans (reach_one (hms h)) hk⟩
          · simp only [gloop, hst]
            exact r6
        · have hlv : fX8_leave A15 (Int32.ofNat dep) (Int32.ofNat at') A21 A23 (Int32.ofNat d) = (Int32.ofNat (dep - 1), Int32.ofNat (at' + 1), A21, A23) := by
            unfold fX8_leave fX8_leave_J82
            by_cases hd0 : dep = 0
            · subst hd0
              rw [if_pos (show Int32.ofNat 0 - 1 < 0 by decide), if_pos (show Int32.ofNat 0 - 1 < 0 by decide), i32_succ]
              rfl
            · obtain ⟨e, rfl⟩ : ∃ e, dep = e + 1 := ⟨dep - 1, by omega⟩
              rw [Nat.add_sub_cancel] at hbk
              obtain ⟨m1, m2, m3, m4⟩ := hML e (by omega)
              rw [i32_pred (by omega) (by omega), show e + 1 - 1 = e by omega, if_neg (i32_nneg (by omega)), if_neg (i32_nneg (by omega)), cAt_nat (by omega) (by decide), m1, i32_succ]
              by_cases hL : Lf e ≤ 1
              · rw [if_pos (show Int32.ofNat (Lf e) ≤ 1 from (i32_le (b := 1) (by omega) (by decide)).mpr hL)]
              · rw [if_neg (show ¬ Int32.ofNat (Lf e) ≤ 1 from fun z => by have := (i32_le (b := 1) (by omega) (by decide)).mp z; omega), cAt_nat (by omega) (by decide), m2, if_pos ((i32_le (by omega) (by omega)).mpr (by omega))]
          have hst : fX8_next_S2 F (Int32.ofNat P.length) A13 A15 A17 (Int32.ofNat d) (Int32.ofNat turn) (Int32.ofNat dep) (Int32.ofNat at') A21 A23 = some (.inr (Int32.ofNat (turn + 1), Int32.ofNat (dep - 1), Int32.ofNat (at' + 1), A21, A23)) := by
            unfold fX8_next_S2 fX8_next_J91
            rw [if_neg (fun z => by have := (i32_le (a := 1000000) (by decide) (by omega)).mp z; omega), if_neg (i32_nneg (by omega)), if_neg (fun z => by have := (i32_le (by omega) (by omega)).mp z; omega), c13, h7, if_neg (show ¬ Int32.ofNat 7 = 6 by decide), if_pos (show Int32.ofNat 7 = 7 from rfl), hlv, i32_succ]
          have hms : d < 600 → mcO cap lab ack cop P (at', dep, Lf, D, t, d) = some (.inr (at' + 1, dep - 1, Lf, D, t, d)) := by
            intro h
            unfold mcO mcS
            dsimp only
            rw [if_neg (by omega), hx]
            dsimp only
            rw [if_neg h6, if_pos h7, if_neg hbk]
          have hphi : PhA P.length (at' + 1) (dep - 1) D d + 1 ≤ PhA P.length at' dep D d := by
            unfold PhA
            have e1 := sumTo_mono (fun k => if D k < d then P.length + 1 else 0) (show dep - 1 ≤ dep by omega)
            omega
          obtain ⟨at2, dep2, Lf2, D2, B21, B23, r1, r2, r3, r4, r5, r6⟩ := ih (m - 1) (by omega) (at' + 1) (dep - 1) Lf D t d (turn + 1) G A21 A23 (by omega) (by omega) (by omega) hd (fun k hk => hML k (by omega)) (by omega) (by omega)
          refine ⟨at2, dep2, Lf2, D2, B21, B23, r1, r2, r3, by omega, fun h => ?_, ?_⟩
          · obtain ⟨k, hk⟩ := r5 h
            exact ⟨_, reach_trans (reach_one (hms h)) hk⟩
          · simp only [gloop, hst]
            exact r6
      · refine ⟨at', dep, Lf, D, A21, A23, hdep, hat, hML, Nat.le_refl _, fun _ => ⟨0, Reach.rfl' _⟩, Or.inl ⟨x, hx, by omega, ?_⟩⟩
        simp only [gloop]
        unfold fX8_next_S2
        rw [if_neg (fun z => by have := (i32_le (a := 1000000) (by decide) (by omega)).mp z; omega), if_neg (i32_nneg (by omega)), if_neg (fun z => by have := (i32_le (by omega) (by omega)).mp z; omega), c13, if_neg (show ¬ Int32.ofNat x.1 = 6 from fun z => h6 ((i32_eq (b := 6) (by omega) (by decide)).mp z)), if_neg (show ¬ Int32.ofNat x.1 = 7 from fun z => h7 ((i32_eq (b := 7) (by omega) (by decide)).mp z))]
end NEXC
