/-! part 9zc: the reference's again, told -/
section MAGT
variable {cap lab ack cop : Nat} {F n : Nat} {b : Nat → Nat} {A : Nat → Int32}
def agM (rec : RCT) (F n cap lab ack cop : Nat) (A : Nat → Int32) (X : M21) (o : Int32) : Option M21 := fX12_againTold rec F (Int32.ofNat cap) (Int32.ofNat lab) (Int32.ofNat ack) (Int32.ofNat cop) (Int32.ofNat n) A X.1 X.2.1 X.2.2.1 X.2.2.2.1 X.2.2.2.2.1 X.2.2.2.2.2.1 X.2.2.2.2.2.2.1 X.2.2.2.2.2.2.2.1 X.2.2.2.2.2.2.2.2.1 X.2.2.2.2.2.2.2.2.2.1 X.2.2.2.2.2.2.2.2.2.2.1 X.2.2.2.2.2.2.2.2.2.2.2.1 X.2.2.2.2.2.2.2.2.2.2.2.2.1 X.2.2.2.2.2.2.2.2.2.2.2.2.2.1 X.2.2.2.2.2.2.2.2.2.2.2.2.2.2.1 X.2.2.2.2.2.2.2.2.2.2.2.2.2.2.2.1 X.2.2.2.2.2.2.2.2.2.2.2.2.2.2.2.2.1 X.2.2.2.2.2.2.2.2.2.2.2.2.2.2.2.2.2.1 X.2.2.2.2.2.2.2.2.2.2.2.2.2.2.2.2.2.2.1 X.2.2.2.2.2.2.2.2.2.2.2.2.2.2.2.2.2.2.2.1 X.2.2.2.2.2.2.2.2.2.2.2.2.2.2.2.2.2.2.2.2 o
def agS (rec : RCT) (F n cap lab ack cop : Nat) (A : Nat → Int32) (v1 v3 v4 v5 v6 : Int32) (u : Int32 × M21) : AGR := fX12_againTold_S60 rec F (Int32.ofNat cap) (Int32.ofNat lab) (Int32.ofNat ack) (Int32.ofNat cop) (Int32.ofNat n) A v1 v3 v4 v5 v6 u.1 u.2.1 u.2.2.1 u.2.2.2.1 u.2.2.2.2.1 u.2.2.2.2.2.1 u.2.2.2.2.2.2.1 u.2.2.2.2.2.2.2.1 u.2.2.2.2.2.2.2.2.1 u.2.2.2.2.2.2.2.2.2.1 u.2.2.2.2.2.2.2.2.2.2.1 u.2.2.2.2.2.2.2.2.2.2.2.1 u.2.2.2.2.2.2.2.2.2.2.2.2.1 u.2.2.2.2.2.2.2.2.2.2.2.2.2.1 u.2.2.2.2.2.2.2.2.2.2.2.2.2.2.1 u.2.2.2.2.2.2.2.2.2.2.2.2.2.2.2.1 u.2.2.2.2.2.2.2.2.2.2.2.2.2.2.2.2.1 u.2.2.2.2.2.2.2.2.2.2.2.2.2.2.2.2.2.1 u.2.2.2.2.2.2.2.2.2.2.2.2.2.2.2.2.2.2.1 u.2.2.2.2.2.2.2.2.2.2.2.2.2.2.2.2.2.2.2.1 u.2.2.2.2.2.2.2.2.2.2.2.2.2.2.2.2.2.2.2.2.1 u.2.2.2.2.2.2.2.2.2.2.2.2.2.2.2.2.2.2.2.2.2
def j55M (rec : RCT) (F n cap lab ack cop : Nat) (A : Nat → Int32) (v1 v3 v4 v5 v6 : Int32) (X : M21) : Option M21 := fX12_againTold_J55 rec F (Int32.ofNat cap) (Int32.ofNat lab) (Int32.ofNat ack) (Int32.ofNat cop) (Int32.ofNat n) A v1 v3 v4 v5 v6 X.1 X.2.1 X.2.2.1 X.2.2.2.1 X.2.2.2.2.1 X.2.2.2.2.2.1 X.2.2.2.2.2.2.1 X.2.2.2.2.2.2.2.1 X.2.2.2.2.2.2.2.2.1 X.2.2.2.2.2.2.2.2.2.1 X.2.2.2.2.2.2.2.2.2.2.1 X.2.2.2.2.2.2.2.2.2.2.2.1 X.2.2.2.2.2.2.2.2.2.2.2.2.1 X.2.2.2.2.2.2.2.2.2.2.2.2.2.1 X.2.2.2.2.2.2.2.2.2.2.2.2.2.2.1 X.2.2.2.2.2.2.2.2.2.2.2.2.2.2.2.1 X.2.2.2.2.2.2.2.2.2.2.2.2.2.2.2.2.1 X.2.2.2.2.2.2.2.2.2.2.2.2.2.2.2.2.2.1 X.2.2.2.2.2.2.2.2.2.2.2.2.2.2.2.2.2.2.1 X.2.2.2.2.2.2.2.2.2.2.2.2.2.2.2.2.2.2.2.1 X.2.2.2.2.2.2.2.2.2.2.2.2.2.2.2.2.2.2.2.2
def j138M (rec : RCT) (F n cap lab ack cop : Nat) (A : Nat → Int32) (v3 : Int32) (X : M21) : Option M21 := fX12_againTold_J138 rec F (Int32.ofNat cap) (Int32.ofNat lab) (Int32.ofNat ack) (Int32.ofNat cop) (Int32.ofNat n) A v3 X.1 X.2.1 X.2.2.1 X.2.2.2.1 X.2.2.2.2.1 X.2.2.2.2.2.1 X.2.2.2.2.2.2.1 X.2.2.2.2.2.2.2.1 X.2.2.2.2.2.2.2.2.1 X.2.2.2.2.2.2.2.2.2.1 X.2.2.2.2.2.2.2.2.2.2.1 X.2.2.2.2.2.2.2.2.2.2.2.1 X.2.2.2.2.2.2.2.2.2.2.2.2.1 X.2.2.2.2.2.2.2.2.2.2.2.2.2.1 X.2.2.2.2.2.2.2.2.2.2.2.2.2.2.1 X.2.2.2.2.2.2.2.2.2.2.2.2.2.2.2.1 X.2.2.2.2.2.2.2.2.2.2.2.2.2.2.2.2.1 X.2.2.2.2.2.2.2.2.2.2.2.2.2.2.2.2.2.1 X.2.2.2.2.2.2.2.2.2.2.2.2.2.2.2.2.2.2.1 X.2.2.2.2.2.2.2.2.2.2.2.2.2.2.2.2.2.2.2.1 X.2.2.2.2.2.2.2.2.2.2.2.2.2.2.2.2.2.2.2.2
theorem j55_eq (rec : RCT) (v1 v3 v4 v5 v6 : Int32) (X : M21) : j55M rec F n cap lab ack cop A v1 v3 v4 v5 v6 X = (gloop (agS rec F n cap lab ack cop A v1 v3 v4 v5 v6) F (0, X)).bind (Sum.elim (fun t => j138M rec F n cap lab ack cop A v3 t) (fun t => j138M rec F n cap lab ack cop A v3 t)) := rfl
theorem j138_eq (rec : RCT) (i : Bool) (D : DS) (T : TS5) (f isd : Int32) : j138M rec F n cap lab ack cop A (bI i) (mkM D T f isd) = some (mkM D T f (bI i)) := by
  unfold j138M fX12_againTold_J138
  rw [if_pos (bzb_bI i)]
  rfl
theorem j55_of {rec : RCT} {v1 v4 v5 v6 : Int32} {i : Bool} {X0 : M21} {D : DS} {T : TS5} {f isd : Int32} (hg : gloop (agS rec F n cap lab ack cop A v1 (bI i) v4 v5 v6) F (0, X0) = some (.inl (mkM D T f isd)) ∨ gloop (agS rec F n cap lab ack cop A v1 (bI i) v4 v5 v6) F (0, X0) = some (.inr (mkM D T f isd))) : j55M rec F n cap lab ack cop A v1 (bI i) v4 v5 v6 X0 = some (mkM D T f (bI i)) := by
  rw [j55_eq]
  rcases hg with hg | hg
  · rw [hg, Option.bind_some]
    exact j138_eq rec i D T f isd
  · rw [hg, Option.bind_some]
    exact j138_eq rec i D T f isd
theorem ags_end {rec : RCT} {v1 v3 v4 v5 v6 v7 : Int32} (hle : v6 ≤ v7) (X : M21) : agS rec F n cap lab ack cop A v1 v3 v4 v5 v6 (v7, X) = some (.inl (.inr X)) := by
  unfold agS fX12_againTold_S60
  rw [if_pos hle]
theorem ags_chk {rec : RCT} {v1 v3 v4 v6 v7 : Int32} (hle : ¬ v6 ≤ v7) (D : DS) (T : TS5) (isd : Int32) : agS rec F n cap lab ack cop A v1 v3 v4 0 v6 (v7, mkM D T 0 isd) = j92M rec F n cap lab ack cop A v1 v3 v4 0 v6 v7 (bI false) (mkM D T 0 isd) := by
  unfold agS fX12_againTold_S60 fX12_againTold_J91
  rw [if_neg hle, if_pos (show (mkM D T 0 isd).2.2.2.2.2.2.2.2.2.2.2.2.2.1 = 0 from rfl), if_pos rfl]
  rfl
theorem ags_do {rec : RCT} {v1 v3 v4 v6 v7 : Int32} (hle : ¬ v6 ≤ v7) (D : DS) (h66 : D.2.2.2.2.2.2.2.2.2.1 = 0) (T : TS5) (isd : Int32) : agS rec F n cap lab ack cop A v1 v3 v4 1 v6 (v7, mkM D T 0 isd) = j92M rec F n cap lab ack cop A v1 v3 v4 1 v6 v7 (bI true) (mkM D T 0 isd) := by
  unfold agS fX12_againTold_S60
  rw [if_neg hle, if_pos (show (mkM D T 0 isd).2.2.2.2.2.2.2.2.2.2.2.2.2.1 = 0 from rfl), if_neg (show ¬ (1 : Int32) = 0 by decide), if_pos (show (mkM D T 0 isd).2.2.2.2.2.2.2.2.2.2.2.2.2.2.2.2.1 = 0 from h66)]
  rfl
theorem nx_go {v7 : Int32} {D : DS} (h66 : D.2.2.2.2.2.2.2.2.2.1 = 0) (T : TS5) (f isd : Int32) : nxM v7 (mkM D T f isd) = some (.inr (v7 + 1, mkM D T f isd)) := if_pos h66
theorem nx_stop {v7 : Int32} {D : DS} (h66 : D.2.2.2.2.2.2.2.2.2.1 = 1) (T : TS5) (f isd : Int32) : nxM v7 (mkM D T f isd) = some (.inl (.inl (mkM D T f isd))) := if_neg (show ¬ D.2.2.2.2.2.2.2.2.2.1 = 0 by rw [h66]; decide)
/-- gone through once -/
theorem ag_once (hF : 1000 ≤ F) {rec : RCT} {v1 v3 v4 : Int32} {D D' : DS} {T T' : TS5} {f isd : Int32} (h66 : D'.2.2.2.2.2.2.2.2.2.1 = 0) (hj : j92M rec F n cap lab ack cop A v1 v3 v4 0 1 0 (bI false) (mkM D T 0 isd) = nxM 0 (mkM D' T' f (bI false))) : gloop (agS rec F n cap lab ack cop A v1 v3 v4 0 1) F (0, mkM D T 0 isd) = some (.inr (mkM D' T' f (bI false))) := by
  have h1 : agS rec F n cap lab ack cop A v1 v3 v4 0 1 (0, mkM D T 0 isd) = some (.inr (0 + 1, mkM D' T' f (bI false))) := by
    rw [ags_chk (by decide), hj, nx_go h66]
  have h2 := reach_one h1 (F - 1)
  rw [show F - 1 + 1 = F by omega] at h2
  rw [h2]
  exact gl_stop (ags_end (by decide) _) (by omega)
theorem it_zero (E : SEA → SEA) (s : SEA) : itE E 0 s = s := rfl
theorem it_succ (E : SEA → SEA) (m : Nat) (s : SEA) : itE E (m + 1) s = if s.2.2 = true then s else itE E m (E s) := rfl
theorem it_stop (E : SEA → SEA) (m : Nat) {s : SEA} (h : s.2.2 = true) : itE E m s = s := by
  cases m with
  | zero => rfl
  | succ m => rw [it_succ, if_pos h]
/-- done so often -/
theorem ag_loop (h : TxA n b A) (hF : 1000 ≤ F) {rec : RCT} {o f : Nat} (hrec : RecOk n b A cap lab ack cop rec o f) {q j : Nat} (hq : q ≤ n) (c91 : chA n b (skA n b q) = 91) (hf : n - skA n b (skA n b q + 1) < f) (hr0 : (psA cap lab ack cop n b f (skA n b (skA n b q + 1)) o j).1 = 0) (hr93 : chA n b (psA cap lab ack cop n b f (skA n b (skA n b q + 1)) o j).2.1 = 93) (v3 : Int32) {v : Nat} (hv : v ≤ 30) : ∀ (m k : Nat) (s : SEA) (D : DS) (T : TS5) (isd : Int32) (G : Nat), k + m = v → DR cap s D → s.2.2 = false → (m = 0 → T = TSA n b (skA n b ((psA cap lab ack cop n b f (skA n b (skA n b q + 1)) o j).2.1 + 1)) ∧ skA n b ((psA cap lab ack cop n b f (skA n b (skA n b q + 1)) o j).2.1 + 1) ≤ n) → m < G →
    ∃ (D' : DS) (T' : TS5) (f' isd' : Int32), (gloop (agS rec F n cap lab ack cop A (Int32.ofNat o) v3 (Int32.ofNat (skA n b q)) 1 (Int32.ofNat v)) G (Int32.ofNat k, mkM D T 0 isd) = some (.inl (mkM D' T' f' isd')) ∨ gloop (agS rec F n cap lab ack cop A (Int32.ofNat o) v3 (Int32.ofNat (skA n b q)) 1 (Int32.ofNat v)) G (Int32.ofNat k, mkM D T 0 isd) = some (.inr (mkM D' T' f' isd'))) ∧ DR cap (itE (psA cap lab ack cop n b f (skA n b (skA n b q + 1)) o j).2.2.1 m s) D' ∧ TokOk n b T' f' ∧ ((itE (psA cap lab ack cop n b f (skA n b (skA n b q + 1)) o j).2.2.1 m s).2.2 = false → f' = 0 ∧ skA n b ((psA cap lab ack cop n b f (skA n b (skA n b q + 1)) o j).2.1 + 1) ≤ n ∧ T' = TSA n b (skA n b ((psA cap lab ack cop n b f (skA n b (skA n b q + 1)) o j).2.1 + 1))) := by
  intro m
  induction m with
  | zero =>
    intro k s D T isd G hk hD hs0 hT hG
    obtain ⟨t1, t2⟩ := hT rfl
    refine ⟨D, T, 0, isd, Or.inr (gl_stop (ags_end ((i32_le (by omega) (by omega)).mpr (by omega)) _) (by omega)), hD, Or.inl ⟨rfl, _, t2, t1⟩, fun _ => ⟨rfl, t2, t1⟩⟩
  | succ m ih =>
    intro k s D T isd G hk hD hs0 hT hG
    obtain ⟨G, rfl⟩ : ∃ G', G = G' + 1 := ⟨G - 1, by omega⟩
    have hle : ¬ Int32.ofNat v ≤ Int32.ofNat k := fun z => by have := (i32_le (by omega) (by omega)).mp z; omega
    have h66 : D.2.2.2.2.2.2.2.2.2.1 = 0 := by
      rw [hD.2.2.2, hs0]
      rfl
    obtain ⟨X, j1, D1, T1, f1, j2, j3, j4, j5, j6, j7⟩ := ag_round (j := j) h hF hrec hq c91 (i := true) (s := s) (D0 := D) (D := D) ⟨fun _ => hD, fun z => absurd z (by decide)⟩ hf (fun _ => ⟨hr0, hr93, hs0⟩) v3 1 (Int32.ofNat v) (Int32.ofNat k) isd T
    subst j2
    rw [if_pos hr0, if_pos hr93] at j5 j6 j7
    have hD1 : DR cap ((psA cap lab ack cop n b f (skA n b (skA n b q + 1)) o j).2.2.1 s) D1 := j3.1 rfl
    have e1 := (ags_do (rec := rec) (F := F) (n := n) (cap := cap) (lab := lab) (ack := ack) (cop := cop) (A := A) (v1 := Int32.ofNat o) (v3 := v3) (v4 := Int32.ofNat (skA n b q)) hle D h66 T isd).trans j1
    have hsf : ¬ s.2.2 = true := by rw [hs0]; decide
    rw [it_succ, if_neg hsf]
    by_cases hst : ((psA cap lab ack cop n b f (skA n b (skA n b q + 1)) o j).2.2.1 s).2.2 = true
    · have h661 : D1.2.2.2.2.2.2.2.2.2.1 = 1 := by
        rw [hD1.2.2.2, if_pos hst]
      rw [nx_stop h661] at e1
      rw [it_stop _ m hst]
      refine ⟨D1, T1, f1, _, Or.inl (gl_stop e1 (by omega)), hD1, j4, fun z => by rw [z] at hst; exact absurd hst (by decide)⟩
    · have hst' : ((psA cap lab ack cop n b f (skA n b (skA n b q + 1)) o j).2.2.1 s).2.2 = false := by
        cases hh : ((psA cap lab ack cop n b f (skA n b (skA n b q + 1)) o j).2.2.1 s).2.2 with
        | true => exact absurd hh hst
        | false => rfl
      have h661 : D1.2.2.2.2.2.2.2.2.2.1 = 0 := by
        rw [hD1.2.2.2, if_neg hst]
      obtain ⟨y1, y2, y3⟩ := j7 rfl (fun _ => hst')
      subst y1
      rw [nx_go h661, i32_succ] at e1
      obtain ⟨D', T', f', isd', i1, i2, i3, i4⟩ := ih (k + 1) _ D1 T1 (bI true) G (by omega) hD1 hst' (fun _ => ⟨y3, y2⟩) (by omega)
      refine ⟨D', T', f', isd', ?_, i2, i3, i4⟩
      rw [reach_one e1 G]
      exact i1
theorem bI_f : bI false = 0 := rfl
theorem bI_t : bI true = 1 := rfl
theorem nm_ge {lo hi k : Nat} (h : (nmA n b lo hi k).1 = 0) : k ≤ (nmA n b lo hi k).2.2 := by
  have h1 := sk_ge n b k
  have h2 := ew_ge (n := n) (b := b) di_end (skA n b k)
  unfold nmA at h ⊢
  dsimp only at h ⊢
  split at h
  · exact absurd h (Nat.succ_ne_zero _)
  · rename_i g1
    rw [if_neg g1]
    split at h
    · exact absurd h (Nat.succ_ne_zero _)
    · rename_i g2
      rw [if_neg g2]
      show k ≤ ewA n b pDi (skA n b k)
      omega
theorem sm_ge {p : Nat} (h : (smA lab n b p).1 = 0) : p ≤ (smA lab n b p).2.1 := by
  have he := ew_ge (n := n) (b := b) le_end p
  unfold smA at h ⊢
  dsimp only at h ⊢
  split at h
  · rename_i g; rw [if_pos g]; exact he
  · rename_i g
    rw [if_neg g]
    split at h
    · rename_i g1
      rw [if_pos g1]
      split at h
      · rename_i g2
        have a1 := nm_ge g2
        rw [if_pos g2]
        split at h
        · rename_i g3
          have a2 := nm_ge g3
          rw [if_pos g3]
          show p ≤ (nmA n b 0 1 (nmA n b 0 (lab - 1) (ewA n b pLe p)).2.2).2.2
          omega
        · rename_i g3; exact absurd h g3
      · rename_i g2; exact absurd h g2
    · rename_i g1
      rw [if_neg g1]
      split at h
      · rename_i g2
        rw [if_pos g2]
        split at h
        · rename_i g3
          have a1 := nm_ge g3
          rw [if_pos g3]
          show p ≤ (nmA n b 0 (lab - 1) (ewA n b pLe p)).2.2
          omega
        · rename_i g3; exact absurd h g3
      · rename_i g2
        rw [if_neg g2]
        split at h
        · rename_i g3
          rw [if_pos g3]
          split at h
          · rename_i g4
            have a1 := nm_ge g4
            rw [if_pos g4]
            show p ≤ (nmA n b 1 9 (ewA n b pLe p)).2.2
            omega
          · rename_i g4; exact absurd h g4
        · exact absurd h (Nat.succ_ne_zero _)
theorem ps_ge : ∀ (f p opn i : Nat), (psA cap lab ack cop n b f p opn i).1 = 0 → p ≤ (psA cap lab ack cop n b f p opn i).2.1 := by
  intro f
  induction f with
  | zero => intro p opn i _; exact Nat.le_refl _
  | succ f ih =>
    intro p opn i h0
    by_cases hc : chA n b p = 256 ∨ chA n b p = 93
    · rw [ps_zero _ _ _ _ hc]
      exact Nat.le_refl p
    · rw [ps_step _ _ _ _ hc] at h0 ⊢
      by_cases g1 : (stA cap lab ack cop n b (psA cap lab ack cop n b f) p opn i).1 = 0
      · rw [if_pos g1] at h0 ⊢
        by_cases g2 : chA n b (skA n b (stA cap lab ack cop n b (psA cap lab ack cop n b f) p opn i).2.1) = 59
        · rw [if_pos g2] at h0 ⊢
          by_cases g3 : (psA cap lab ack cop n b f (skA n b (skA n b (stA cap lab ack cop n b (psA cap lab ack cop n b f) p opn i).2.1 + 1)) opn (i + (stA cap lab ack cop n b (psA cap lab ack cop n b f) p opn i).2.2.2.length)).1 = 0
          · rw [if_pos g3]
            have a1 := ih _ _ _ g3
            have a2 := sk_ge n b (skA n b (stA cap lab ack cop n b (psA cap lab ack cop n b f) p opn i).2.1 + 1)
            have a3 := sk_ge n b (stA cap lab ack cop n b (psA cap lab ack cop n b f) p opn i).2.1
            have a4 : p ≤ (stA cap lab ack cop n b (psA cap lab ack cop n b f) p opn i).2.1 := by
              unfold stA at g1 ⊢
              by_cases w6 : wOf b p (ewA n b pLe p) = 6
              · rw [if_pos w6] at g1 ⊢
                obtain ⟨_, p', k1, k2, k3, k4, k5, k6⟩ := ag_code g1
                rw [k6]
                have b1 := ih _ _ _ k1
                have b2 := nm_ge k2
                have b3 := ew_ge (n := n) (b := b) le_end p
                have b4 := sk_ge n b (nmA n b 0 30 (ewA n b pLe p)).2.2
                have b5 := sk_ge n b (skA n b (nmA n b 0 30 (ewA n b pLe p)).2.2 + 1)
                show p ≤ (psA cap lab ack cop n b f p' (opn + 1) (i + 1)).2.1 + 1
                omega
              · rw [if_neg w6] at g1 ⊢
                exact sm_ge g1
            show p ≤ (psA cap lab ack cop n b f (skA n b (skA n b (stA cap lab ack cop n b (psA cap lab ack cop n b f) p opn i).2.1 + 1)) opn (i + (stA cap lab ack cop n b (psA cap lab ack cop n b f) p opn i).2.2.2.length)).2.1
            omega
          · rw [if_neg g3] at h0
            exact absurd h0 g3
        · rw [if_neg g2] at h0
          exact absurd h0 (Nat.succ_ne_zero _)
      · rw [if_neg g1] at h0
        exact absurd h0 g1
/-- again, told -/
theorem ag_told (h : TxA n b A) (hF : 1000 ≤ F) {rec : RCT} {opn f : Nat} (hrec : RecOk n b A cap lab ack cop rec (opn + 1) f) (h3 : opn ≤ 3) {p j : Nat} (hp : p ≤ n) {i : Bool} {s : SEA} {D0 D : DS} (hR : Sd cap i s D0 D) (hf : n - ewA n b pLe p < f + 1) (hi : i = true → (agA n b (psA cap lab ack cop n b f) p opn j).1 = 0 ∧ s.2.2 = false) : ∃ X, agM rec F n cap lab ack cop A (mkM D (TSA n b (skA n b (ewA n b pLe p))) 0 (bI i)) (Int32.ofNat (opn + 1)) = some X ∧ Res n b cap i s D0 (agA n b (psA cap lab ack cop n b f) p opn j).1 (skA n b (agA n b (psA cap lab ack cop n b f) p opn j).2.1) (agA n b (psA cap lab ack cop n b f) p opn j).2.2.1 X ∧ ((agA n b (psA cap lab ack cop n b f) p opn j).1 = 0 → ewA n b pLe p ≤ (agA n b (psA cap lab ack cop n b f) p opn j).2.1 ∧ (agA n b (psA cap lab ack cop n b f) p opn j).2.1 ≤ n) := by
  have hn := h.1
  have hle := ew_le (n := n) (b := b) le_end hp
  unfold agA at hi ⊢
  rw [if_neg (show ¬ opn = 4 by omega)] at hi ⊢
  generalize ewA n b pLe p = e at hle hf hi ⊢
  obtain ⟨lt1, ok1, bad1⟩ := num_ok h hF (k := e) (lo := 0) (hi := 30) hle (by decide) (by decide) (plo := 0) (phi := 30) rfl rfl
  by_cases z1 : (nmA n b 0 30 e).1 = 0
  · obtain ⟨q1, q2, e1⟩ := ok1 z1
    have hv := nm_ok z1
    rw [if_pos z1] at hi ⊢
    have hq0 := sk_ge n b (nmA n b 0 30 e).2.2
    have hq := sk_in (b := b) q1
    have hpl := ts_place n b (skA n b (nmA n b 0 30 e).2.2)
    -- the told number leads to the rounds
    have hstart : agM rec F n cap lab ack cop A (mkM D (TSA n b (skA n b e)) 0 (bI i)) (Int32.ofNat (opn + 1)) = if i = true ∧ 0 < (nmA n b 0 30 e).2.1 then j55M rec F n cap lab ack cop A (Int32.ofNat (opn + 1)) (bI i) (Int32.ofNat (skA n b (nmA n b 0 30 e).2.2)) 1 (Int32.ofNat (nmA n b 0 30 e).2.1) (mkM D (TSA n b (skA n b (nmA n b 0 30 e).2.2)) 0 (bI i)) else j55M rec F n cap lab ack cop A (Int32.ofNat (opn + 1)) (bI i) (Int32.ofNat (skA n b (nmA n b 0 30 e).2.2)) 0 1 (mkM D (TSA n b (skA n b (nmA n b 0 30 e).2.2)) 0 (bI i)) := by
      unfold agM mkM fX12_againTold
      dsimp only
      rw [e1, Option.bind_some]
      dsimp only
      rw [hpl, if_pos (show (0 : Int32) ≤ 0 by decide)]
      have e1n : ¬ (1 : Int32) = 0 := by decide
      cases i with
      | false =>
        rw [if_pos bI_f, if_neg (fun z => absurd z.1 (by decide))]
        unfold fX12_againTold_J42 fX12_againTold_J43
        rw [if_pos rfl]
        unfold j55M
        dsimp only
      | true =>
        rw [if_neg (show ¬ bI true = 0 by decide)]
        by_cases hz : 0 < (nmA n b 0 30 e).2.1
        · rw [if_neg (fun z => by have := (i32_le (b := 0) (by omega) (by decide)).mp z; omega), if_pos ⟨rfl, hz⟩]
          unfold fX12_againTold_J43
          rw [if_neg e1n]
          unfold j55M
          dsimp only
        · rw [if_pos (show Int32.ofNat (nmA n b 0 30 e).2.1 ≤ 0 from (i32_le (b := 0) (by omega) (by decide)).mpr (by omega)), if_neg (fun z => hz z.2)]
          unfold fX12_againTold_J42 fX12_againTold_J43
          rw [if_pos rfl]
          unfold j55M
          dsimp only
    rw [hstart]
    generalize hqq : (nmA n b 0 30 e).2.2 = q at *
    generalize hvv : (nmA n b 0 30 e).2.1 = v at *
    by_cases c91 : chA n b (skA n b q) = 91
    · rw [if_pos c91] at hi ⊢
      have hlt := ch_lt c91 (by omega)
      have hp2 := sk_ge n b (skA n b q + 1)
      have hf2 : n - skA n b (skA n b q + 1) < f := by omega
      by_cases hdo : i = true ∧ 0 < v
      · -- done v times
        obtain ⟨hit, hv0⟩ := hdo
        obtain ⟨hf0, hs0⟩ := hi hit
        have hRd := hR.1 hit
        by_cases r0 : (psA cap lab ack cop n b f (skA n b (skA n b q + 1)) (opn + 1) (j + 1)).1 = 0
        · rw [if_pos r0] at hf0 ⊢
          by_cases r93 : chA n b (psA cap lab ack cop n b f (skA n b (skA n b q + 1)) (opn + 1) (j + 1)).2.1 = 93
          · rw [if_pos r93, if_pos ⟨hit, hv0⟩]
            have hr1 := ps_ge _ _ _ _ r0
            have hr2 := ch_lt r93 (by omega)
            obtain ⟨D', T', f', isd', l1, l2, l3, l4⟩ := ag_loop (j := j + 1) h hF hrec q1 c91 hf2 r0 r93 (bI i) hv v 0 s D (TSA n b (skA n b q)) (bI i) F (by omega) hRd hs0 (fun z => by omega) (by omega)
            rw [j55_of l1]
            refine ⟨_, rfl, ⟨D', T', f', rfl, ⟨fun _ => ?_, fun z => absurd hit (by rw [z]; decide)⟩, l3, (by show 0 < 4000; decide), fun z => absurd rfl z, fun _ z => l4 (z hit)⟩, fun _ => ⟨?_, hr2⟩⟩
            · unfold efA
              rw [if_pos hit]
              exact l2
            · show e ≤ (psA cap lab ack cop n b f (skA n b (skA n b q + 1)) (opn + 1) (j + 1)).2.1 + 1
              omega
          · rw [if_neg r93] at hf0
            exact absurd hf0 (Nat.succ_ne_zero _)
        · rw [if_neg r0] at hf0
          exact absurd hf0 r0
      · -- gone through once, and nothing done
        rw [if_neg hdo]
        have h66 : D.2.2.2.2.2.2.2.2.2.1 = 0 := by
          by_cases hit : i = true
          · rw [(hR.1 hit).2.2.2, (hi hit).2]
            rfl
          · exact (hR.2 (by cases i with | true => exact absurd rfl hit | false => rfl)).2
        obtain ⟨X, j1, D1, T1, f1, j2, j3, j4, j5, j6, j7⟩ := ag_round (j := j + 1) h hF hrec q1 c91 (i := false) (s := s) (D0 := D) (D := D) ⟨fun z => absurd z (by decide), fun _ => ⟨rfl, h66⟩⟩ hf2 (fun z => absurd z (by decide)) (bI i) 0 1 0 (bI i) (TSA n b (skA n b q))
        obtain ⟨rfl, _⟩ := j3.2 rfl
        subst j2
        rw [j55_of (Or.inr (ag_once hF h66 j1))]
        have hid : i = true → v = 0 := fun z => by
          by_cases hv0 : 0 < v
          · exact absurd ⟨z, hv0⟩ hdo
          · omega
        by_cases r0 : (psA cap lab ack cop n b f (skA n b (skA n b q + 1)) (opn + 1) (j + 1)).1 = 0
        · rw [if_pos r0] at hi j5 j6 j7 ⊢
          have hr1 := ps_ge _ _ _ _ r0
          by_cases r93 : chA n b (psA cap lab ack cop n b f (skA n b (skA n b q + 1)) (opn + 1) (j + 1)).2.1 = 93
          · rw [if_pos r93] at hi j5 j6 j7 ⊢
            have hr2 := ch_lt r93 (by omega)
            obtain ⟨y1, y2, y3⟩ := j7 rfl (fun z => absurd z (by decide))
            subst y1 y3
            refine ⟨_, rfl, res_good ⟨fun z => ?_, fun z => hR.2 z⟩ y2, fun _ => ⟨?_, hr2⟩⟩
            · unfold efA
              rw [if_pos z]
              show DR cap (itE _ v s) _
              rw [hid z, it_zero]
              exact hR.1 z
            · show e ≤ (psA cap lab ack cop n b f (skA n b (skA n b q + 1)) (opn + 1) (j + 1)).2.1 + 1
              omega
          · rw [if_neg r93] at hi j5 j6 j7 ⊢
            have hni : ¬ i = true := fun z => absurd (hi z).1 (Nat.succ_ne_zero _)
            have hf1 := j6 (Nat.succ_ne_zero _)
            subst hf1
            exact ⟨_, rfl, res_bad hR hni (Nat.succ_ne_zero _) j5 _ _ _, fun z => absurd z (Nat.succ_ne_zero _)⟩
        · rw [if_neg r0] at hi j5 j6 j7 ⊢
          have hni : ¬ i = true := fun z => r0 (hi z).1
          have hf1 := j6 r0
          subst hf1
          exact ⟨_, rfl, res_bad hR hni r0 j5 _ _ _, fun z => absurd z r0⟩
    · rw [if_neg c91] at hi ⊢
      have hni : ¬ i = true := fun z => absurd (hi z).1 (Nat.succ_ne_zero _)
      rw [if_neg (fun z => hni z.1)]
      obtain ⟨hD0, h66⟩ := hR.2 (by cases i with | true => exact absurd rfl hni | false => rfl)
      have hon := ag_once hF h66 (ag_none h hF hrec q1 c91 D (bI i) 0 1 0 (bI i) (TSA n b (skA n b q)))
      rw [j55_of (Or.inr hon)]
      exact ⟨_, rfl, res_bad hR hni (Nat.succ_ne_zero _) (by omega) _ _ _, fun z => absurd z (Nat.succ_ne_zero _)⟩
  · obtain ⟨v, e1⟩ := bad1 z1
    rw [if_neg z1] at hi ⊢
    have hni : ¬ i = true := fun z => z1 (hi z).1
    unfold agM mkM fX12_againTold
    dsimp only
    rw [e1, Option.bind_some]
    dsimp only
    rw [if_neg (fun z => by have := (i32_le (b := 0) (by omega) (by decide)).mp z; omega)]
    exact ⟨_, rfl, res_bad hR hni z1 lt1 _ _ _, fun z => absurd z z1⟩
end MAGT
