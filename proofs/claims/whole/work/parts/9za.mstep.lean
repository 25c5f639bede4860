/-! part 9za: the reference's told step that is no again -/
section MSTEP
variable {cap lab ack cop : Nat} {F n : Nat} {b : Nat → Nat} {A : Nat → Int32}
abbrev TS5 := Int32 × Int32 × Int32 × Int64 × Int32
abbrev M21 := Int64 × Int32 × Int32 × Int32 × Int64 × Int32 × Int32 × Int32 × Int32 × Int32 × Int32 × Int64 × Int32 × Int32 × Int32 × Int32 × Int32 × (Nat → Int32) × (Nat → Int32) × (Nat → Int32) × (Nat → Int32)
abbrev RCT := Int32 → Int32 → Int32 → Int32 → Int32 → (Nat → Int32) → Int64 → Int32 → Int32 → Int32 → Int64 → Int32 → Int32 → Int32 → Int32 → Int32 → Int32 → Int64 → Int32 → Int32 → Int32 → Int32 → Int32 → (Nat → Int32) → (Nat → Int32) → (Nat → Int32) → (Nat → Int32) → Int32 → Option M21
def mkM (D : DS) (T : TS5) (f i : Int32) : M21 := (D.1, D.2.1, D.2.2.1, D.2.2.2.1, D.2.2.2.2.1, D.2.2.2.2.2.1, D.2.2.2.2.2.2.1, D.2.2.2.2.2.2.2.1, T.1, T.2.1, T.2.2.1, T.2.2.2.1, T.2.2.2.2, f, i, D.2.2.2.2.2.2.2.2.1, D.2.2.2.2.2.2.2.2.2.1, D.2.2.2.2.2.2.2.2.2.2.1, D.2.2.2.2.2.2.2.2.2.2.2.1, D.2.2.2.2.2.2.2.2.2.2.2.2.1, D.2.2.2.2.2.2.2.2.2.2.2.2.2)
def bI (i : Bool) : Int32 := if i = true then 1 else 0
def efA (i : Bool) (E : SEA → SEA) (s : SEA) : SEA := if i = true then E s else s
def Sd (cap : Nat) (i : Bool) (s : SEA) (D0 D : DS) : Prop := (i = true → DR cap s D) ∧ (i = false → D = D0 ∧ D.2.2.2.2.2.2.2.2.2.1 = 0)
def TokOk (n : Nat) (b : Nat → Nat) (T : TS5) (f : Int32) : Prop := (f = 0 ∧ ∃ p, p ≤ n ∧ T = TSA n b p) ∨ ∃ k, k ≠ 0 ∧ k < 4000 ∧ f = Int32.ofNat k
def Res (n : Nat) (b : Nat → Nat) (cap : Nat) (i : Bool) (s : SEA) (D0 : DS) (fa pa : Nat) (E : SEA → SEA) (X : M21) : Prop := ∃ (D' : DS) (T : TS5) (f : Int32), X = mkM D' T f (bI i) ∧ Sd cap i (efA i E s) D0 D' ∧ TokOk n b T f ∧ fa < 4000 ∧ (fa ≠ 0 → f = Int32.ofNat fa) ∧ (fa = 0 → (i = true → (E s).2.2 = false) → f = 0 ∧ pa ≤ n ∧ T = TSA n b pa)
def NumOk (F n : Nat) (b : Nat → Nat) (A : Nat → Int32) (k lo hi : Nat) (plo phi : Int32) : Prop := (nmA n b lo hi k).1 < 4000 ∧ ((nmA n b lo hi k).1 = 0 → (nmA n b lo hi k).2.2 ≤ n ∧ k ≤ (nmA n b lo hi k).2.2 ∧ fX12_numberTold F (Int32.ofNat n) A (TSA n b (skA n b k)).1 (TSA n b (skA n b k)).2.1 (TSA n b (skA n b k)).2.2.1 (TSA n b (skA n b k)).2.2.2.1 (TSA n b (skA n b k)).2.2.2.2 0 plo phi = some (Int32.ofNat (nmA n b lo hi k).2.1, (TSA n b (skA n b (nmA n b lo hi k).2.2)).1, (TSA n b (skA n b (nmA n b lo hi k).2.2)).2.1, (TSA n b (skA n b (nmA n b lo hi k).2.2)).2.2.1, (TSA n b (skA n b (nmA n b lo hi k).2.2)).2.2.2.1, (TSA n b (skA n b (nmA n b lo hi k).2.2)).2.2.2.2, 0)) ∧
    ((nmA n b lo hi k).1 ≠ 0 → ∃ v, fX12_numberTold F (Int32.ofNat n) A (TSA n b (skA n b k)).1 (TSA n b (skA n b k)).2.1 (TSA n b (skA n b k)).2.2.1 (TSA n b (skA n b k)).2.2.2.1 (TSA n b (skA n b k)).2.2.2.2 0 plo phi = some (v, (TSA n b (skA n b k)).1, (TSA n b (skA n b k)).2.1, (TSA n b (skA n b k)).2.2.1, (TSA n b (skA n b k)).2.2.2.1, (TSA n b (skA n b k)).2.2.2.2, Int32.ofNat (nmA n b lo hi k).1))
theorem num_ok (h : TxA n b A) (hF : 1000 ≤ F) {k lo hi : Nat} (hk : k ≤ n) (hhi : hi ≤ 30) (hlo : lo ≤ 9) {plo phi : Int32} (e1 : plo = Int32.ofNat lo) (e2 : phi = Int32.ofNat hi) : NumOk F n b A k lo hi plo phi := by
  subst e1 e2
  exact numTold_m h hF hk hhi hlo
theorem wd_inj : ∀ i j : Fin 7, wdL i.val = wdL j.val → i = j := by decide +kernel
theorem wEq_excl {i j p e : Nat} (hi : i < 7) (hj : j < 7) (h1 : wEq b i p e = true) (h2 : wEq b j p e = true) : i = j := by
  obtain ⟨a1, a2⟩ := (wEq_iff b i p e).mp h1
  obtain ⟨c1, c2⟩ := (wEq_iff b j p e).mp h2
  have hl : wdL i = wdL j := by
    refine List.ext_getElem (by omega) (fun k k1 k2 => ?_)
    have d1 := a2 k k1
    have d2 := c2 k k2
    rw [d1] at d2
    rw [List.getD_eq_getElem?_getD, List.getD_eq_getElem?_getD, List.getElem?_eq_getElem k1, List.getElem?_eq_getElem k2] at d2
    exact d2
  exact congrArg Fin.val (wd_inj ⟨i, hi⟩ ⟨j, hj⟩ hl)
theorem wOf_iff {j p e : Nat} (hj : j < 7) : (wEq b j p e = true) ↔ wOf b p e = j := by
  constructor
  · intro h
    have x : ∀ i, i < 7 → i ≠ j → ¬ wEq b i p e = true := fun i hi hne z => hne (wEq_excl hi hj z h)
    unfold wOf
    by_cases h0 : j = 0
    · subst h0; rw [if_pos h]
    · rw [if_neg (x 0 (by decide) (by omega))]
      by_cases h1 : j = 1
      · subst h1; rw [if_pos h]
      · rw [if_neg (x 1 (by decide) (by omega))]
        by_cases h2 : j = 2
        · subst h2; rw [if_pos h]
        · rw [if_neg (x 2 (by decide) (by omega))]
          by_cases h3 : j = 3
          · subst h3; rw [if_pos h]
          · rw [if_neg (x 3 (by decide) (by omega))]
            by_cases h4 : j = 4
            · subst h4; rw [if_pos h]
            · rw [if_neg (x 4 (by decide) (by omega))]
              by_cases h5 : j = 5
              · subst h5; rw [if_pos h]
              · rw [if_neg (x 5 (by decide) (by omega))]
                obtain rfl : j = 6 := by omega
                rw [if_pos h]
  · intro h
    unfold wOf at h
    by_cases w0 : wEq b 0 p e = true
    · rw [if_pos w0] at h; subst h; exact w0
    · rw [if_neg w0] at h
      by_cases w1 : wEq b 1 p e = true
      · rw [if_pos w1] at h; subst h; exact w1
      · rw [if_neg w1] at h
        by_cases w2 : wEq b 2 p e = true
        · rw [if_pos w2] at h; subst h; exact w2
        · rw [if_neg w2] at h
          by_cases w3 : wEq b 3 p e = true
          · rw [if_pos w3] at h; subst h; exact w3
          · rw [if_neg w3] at h
            by_cases w4 : wEq b 4 p e = true
            · rw [if_pos w4] at h; subst h; exact w4
            · rw [if_neg w4] at h
              by_cases w5 : wEq b 5 p e = true
              · rw [if_pos w5] at h; subst h; exact w5
              · rw [if_neg w5] at h
                by_cases w6 : wEq b 6 p e = true
                · rw [if_pos w6] at h; subst h; exact w6
                · rw [if_neg w6] at h; omega
theorem cd_lt : ∀ i : Fin 7, cdO (7 + i.val) < 7 := by decide +kernel
theorem isW_yes (h : TxA n b A) (hF : 1000 ≤ F) {t : Nat} (h7 : 7 ≤ t) (ht : t < 14) {p : Nat} (hp : p ≤ n) (hw : wOf b p (ewA n b pLe p) = cdO t) : fX12_isWord F (sLen t) (sByt t) (TSA n b p).2.2.1 (TSA n b p).2.2.2.1 0 = some 1 := by
  have hc := cd_lt ⟨t - 7, by omega⟩
  dsimp only at hc
  rw [show 7 + (t - 7) = t by omega] at hc
  rw [isWord_m h hF h7 ht hp, if_pos ((wOf_iff hc).mpr hw)]
theorem isW_no (h : TxA n b A) (hF : 1000 ≤ F) {t : Nat} (h7 : 7 ≤ t) (ht : t < 14) {p : Nat} (hp : p ≤ n) (hw : wOf b p (ewA n b pLe p) ≠ cdO t) : fX12_isWord F (sLen t) (sByt t) (TSA n b p).2.2.1 (TSA n b p).2.2.2.1 0 = some 0 := by
  have hc := cd_lt ⟨t - 7, by omega⟩
  dsimp only at hc
  rw [show 7 + (t - 7) = t by omega] at hc
  rw [isWord_m h hF h7 ht hp, if_neg (fun z => hw ((wOf_iff hc).mp z))]
theorem acting_any (hs : Stt cap lab ack cop) (hF : 40 ≤ F) {i : Bool} {s : SEA} {D0 D : DS} (hR : Sd cap i s D0 D) {w a v : Nat} {p2 p3 : Int32} (hw : w < 5) (hT : TldA w a v p2 p3) {f : Int32} (hf : i = true → f = 0) : ∃ D', fX12_acting F (Int32.ofNat cap) (Int32.ofNat lab) (Int32.ofNat ack) (Int32.ofNat cop) f (bI i) D.1 D.2.1 D.2.2.1 D.2.2.2.1 D.2.2.2.2.1 D.2.2.2.2.2.1 D.2.2.2.2.2.2.1 D.2.2.2.2.2.2.2.1 D.2.2.2.2.2.2.2.2.1 D.2.2.2.2.2.2.2.2.2.1 D.2.2.2.2.2.2.2.2.2.2.1 D.2.2.2.2.2.2.2.2.2.2.2.1 D.2.2.2.2.2.2.2.2.2.2.2.2.1 D.2.2.2.2.2.2.2.2.2.2.2.2.2 (Int32.ofNat w) p2 p3 = some D' ∧ Sd cap i (efA i (actE cap lab ack cop w a v) s) D0 D' := by
  cases i with
  | true =>
    obtain ⟨D', e1, e2⟩ := acting_do hs hF (hR.1 rfl) hw hT
    rw [hf rfl]
    exact ⟨D', e1, fun _ => e2, fun z => absurd z (by decide)⟩
  | false => exact ⟨D, acting_off _ _ _ _ _ D _ _ _, fun z => absurd z (by decide), fun _ => hR.2 rfl⟩
theorem acting_idle (x0 x1 x2 x3 x63 : Int32) (D : DS) (p1 p2 p3 : Int32) {i : Bool} (hi : ¬ i = true) : fX12_acting F x0 x1 x2 x3 x63 (bI i) D.1 D.2.1 D.2.2.1 D.2.2.2.1 D.2.2.2.2.1 D.2.2.2.2.2.1 D.2.2.2.2.2.2.1 D.2.2.2.2.2.2.2.1 D.2.2.2.2.2.2.2.2.1 D.2.2.2.2.2.2.2.2.2.1 D.2.2.2.2.2.2.2.2.2.2.1 D.2.2.2.2.2.2.2.2.2.2.2.1 D.2.2.2.2.2.2.2.2.2.2.2.2.1 D.2.2.2.2.2.2.2.2.2.2.2.2.2 p1 p2 p3 = some D := by
  rw [show bI i = 0 from if_neg hi]
  exact acting_off _ _ _ _ _ D _ _ _
theorem sd_false {i : Bool} {s s' : SEA} {D0 D : DS} (hR : Sd cap i s D0 D) (hi : ¬ i = true) : Sd cap i s' D0 D := ⟨fun z => absurd z hi, hR.2⟩
def oneA (n : Nat) (b : Nat → Nat) (w lo hi e : Nat) : Nat × Nat × STP3 := if (nmA n b lo hi e).1 = 0 then (0, (nmA n b lo hi e).2.2, (w, (nmA n b lo hi e).2.1, 0)) else ((nmA n b lo hi e).1, 0, (0, 0, 0))
def twoA (n : Nat) (b : Nat → Nat) (w hi e : Nat) : Nat × Nat × STP3 :=
  if (nmA n b 0 hi e).1 = 0 then
      (if (nmA n b 0 1 (nmA n b 0 hi e).2.2).1 = 0 then (0, (nmA n b 0 1 (nmA n b 0 hi e).2.2).2.2, (w, (nmA n b 0 hi e).2.1, (nmA n b 0 1 (nmA n b 0 hi e).2.2).2.1))
       else ((nmA n b 0 1 (nmA n b 0 hi e).2.2).1, 0, (0, 0, 0)))
     else ((nmA n b 0 hi e).1, 0, (0, 0, 0))
theorem res_bad {i : Bool} {s : SEA} {D0 D : DS} (hR : Sd cap i s D0 D) (hi : ¬ i = true) {fa : Nat} (h0 : fa ≠ 0) (h4 : fa < 4000) (T : TS5) (pa : Nat) (E : SEA → SEA) : Res n b cap i s D0 fa pa E (mkM D T (Int32.ofNat fa) (bI i)) :=
  ⟨D, T, _, rfl, sd_false hR hi, Or.inr ⟨fa, h0, h4, rfl⟩, h4, fun _ => rfl, fun z => absurd z h0⟩
theorem res_good {i : Bool} {s : SEA} {D0 D' : DS} {E : SEA → SEA} (hR : Sd cap i (efA i E s) D0 D') {pa : Nat} (hp : pa ≤ n) : Res n b cap i s D0 0 pa E (mkM D' (TSA n b pa) 0 (bI i)) :=
  ⟨D', _, 0, rfl, hR, Or.inl ⟨rfl, pa, hp, rfl⟩, by decide, fun z => absurd rfl z, fun _ _ => ⟨rfl, hp, rfl⟩⟩
theorem sk_in {k : Nat} (h : k ≤ n) : skA n b k ≤ n := ew_le (n := n) (b := b) bl_end h
/-- one number -/
theorem j130_any (hs : Stt cap lab ack cop) (h : TxA n b A) (hF : 1000 ≤ F) (rec : RCT) {e : Nat} (he : e ≤ n) {i : Bool} {s : SEA} {D0 D : DS} (hR : Sd cap i s D0 D) {w : Nat} (hw : w = 2 ∨ w = 4) (pl tk nm : Int32) (wd : Int64) (hi : i = true → (oneA n b w 0 (lab - 1) e).1 = 0) : ∃ X, fX12_stepTold_J130 rec F (Int32.ofNat cap) (Int32.ofNat lab) (Int32.ofNat ack) (Int32.ofNat cop) (Int32.ofNat n) A (Int32.ofNat w) D.1 D.2.1 D.2.2.1 D.2.2.2.1 D.2.2.2.2.1 D.2.2.2.2.2.1 D.2.2.2.2.2.2.1 D.2.2.2.2.2.2.2.1 pl (Int32.ofNat e) tk wd nm 0 (bI i) D.2.2.2.2.2.2.2.2.1 D.2.2.2.2.2.2.2.2.2.1 D.2.2.2.2.2.2.2.2.2.2.1 D.2.2.2.2.2.2.2.2.2.2.2.1 D.2.2.2.2.2.2.2.2.2.2.2.2.1 D.2.2.2.2.2.2.2.2.2.2.2.2.2 = some X ∧ Res n b cap i s D0 (oneA n b w 0 (lab - 1) e).1 (skA n b (oneA n b w 0 (lab - 1) e).2.1) (exE cap lab ack cop (oneA n b w 0 (lab - 1) e).2.2) X ∧ ((oneA n b w 0 (lab - 1) e).1 = 0 → e ≤ (oneA n b w 0 (lab - 1) e).2.1 ∧ (oneA n b w 0 (lab - 1) e).2.1 ≤ n) := by
  have hb := hs.2.1
  obtain ⟨lt1, ok1, bad1⟩ := num_ok h hF (k := e) (lo := 0) (hi := lab - 1) he (by omega) (by decide) (plo := 0) (phi := Int32.ofNat lab - 1) rfl (lab_pred hb.1 hb.2)
  unfold fX12_stepTold_J130
  rw [next_m h hF he, Option.bind_some]
  unfold oneA at hi ⊢
  by_cases z1 : (nmA n b 0 (lab - 1) e).1 = 0
  · obtain ⟨q1, q2, e1⟩ := ok1 z1
    rw [if_pos z1] at hi ⊢
    rw [e1, Option.bind_some]
    dsimp only
    obtain ⟨D', a1, a2⟩ := acting_any (F := F) hs (by omega) hR (w := w) (a := (nmA n b 0 (lab - 1) e).2.1) (v := 0) (p2 := Int32.ofNat (nmA n b 0 (lab - 1) e).2.1) (p3 := -1) (by omega) (Or.inr (Or.inr ⟨hw, rfl⟩)) (f := 0) (fun _ => rfl)
    rw [a1, Option.bind_some]
    refine ⟨_, rfl, ?_, fun _ => ⟨q2, q1⟩⟩
    have hex : exE cap lab ack cop (w, (nmA n b 0 (lab - 1) e).2.1, 0) = actE cap lab ack cop w (nmA n b 0 (lab - 1) e).2.1 0 := by
      unfold exE
      rw [if_neg (show ¬ w = 5 by omega)]
    rw [hex]
    exact res_good a2 (sk_in q1)
  · obtain ⟨v, e1⟩ := bad1 z1
    rw [if_neg z1] at hi ⊢
    have hni : ¬ i = true := fun z => z1 (hi z)
    rw [e1, Option.bind_some]
    dsimp only
    rw [acting_idle _ _ _ _ _ D _ _ _ hni, Option.bind_some]
    exact ⟨_, rfl, res_bad hR hni z1 lt1 _ _ _, fun z => absurd z z1⟩
/-- two numbers -/
theorem j59_any (hs : Stt cap lab ack cop) (h : TxA n b A) (hF : 1000 ≤ F) (rec : RCT) {e : Nat} (he : e ≤ n) {i : Bool} {s : SEA} {D0 D : DS} (hR : Sd cap i s D0 D) {w : Nat} (hw : w = 1 ∨ w = 3) (pl tk nm : Int32) (wd : Int64) (hi : i = true → (twoA n b w (lab - 1) e).1 = 0) : ∃ X, fX12_stepTold_J59 rec F (Int32.ofNat cap) (Int32.ofNat lab) (Int32.ofNat ack) (Int32.ofNat cop) (Int32.ofNat n) A (Int32.ofNat w) D.1 D.2.1 D.2.2.1 D.2.2.2.1 D.2.2.2.2.1 D.2.2.2.2.2.1 D.2.2.2.2.2.2.1 D.2.2.2.2.2.2.2.1 pl (Int32.ofNat e) tk wd nm 0 (bI i) D.2.2.2.2.2.2.2.2.1 D.2.2.2.2.2.2.2.2.2.1 D.2.2.2.2.2.2.2.2.2.2.1 D.2.2.2.2.2.2.2.2.2.2.2.1 D.2.2.2.2.2.2.2.2.2.2.2.2.1 D.2.2.2.2.2.2.2.2.2.2.2.2.2 = some X ∧ Res n b cap i s D0 (twoA n b w (lab - 1) e).1 (skA n b (twoA n b w (lab - 1) e).2.1) (exE cap lab ack cop (twoA n b w (lab - 1) e).2.2) X ∧ ((twoA n b w (lab - 1) e).1 = 0 → e ≤ (twoA n b w (lab - 1) e).2.1 ∧ (twoA n b w (lab - 1) e).2.1 ≤ n) := by
  have hb := hs.2.1
  obtain ⟨lt1, ok1, bad1⟩ := num_ok h hF (k := e) (lo := 0) (hi := lab - 1) he (by omega) (by decide) (plo := 0) (phi := Int32.ofNat lab - 1) rfl (lab_pred hb.1 hb.2)
  unfold fX12_stepTold_J59
  rw [next_m h hF he, Option.bind_some]
  unfold twoA at hi ⊢
  by_cases z1 : (nmA n b 0 (lab - 1) e).1 = 0
  · obtain ⟨q1, q2, e1⟩ := ok1 z1
    obtain ⟨lt2, ok2, bad2⟩ := num_ok h hF (k := (nmA n b 0 (lab - 1) e).2.2) (lo := 0) (hi := 1) q1 (by decide) (by decide) (plo := 0) (phi := 1) rfl rfl
    rw [if_pos z1] at hi ⊢
    rw [e1, Option.bind_some]
    dsimp only
    by_cases z2 : (nmA n b 0 1 (nmA n b 0 (lab - 1) e).2.2).1 = 0
    · obtain ⟨q3, q4, e2⟩ := ok2 z2
      rw [if_pos z2] at hi ⊢
      rw [e2, Option.bind_some]
      dsimp only
      obtain ⟨D', a1, a2⟩ := acting_any (F := F) hs (by omega) hR (w := w) (a := (nmA n b 0 (lab - 1) e).2.1) (v := (nmA n b 0 1 (nmA n b 0 (lab - 1) e).2.2).2.1) (p2 := Int32.ofNat (nmA n b 0 (lab - 1) e).2.1) (p3 := Int32.ofNat (nmA n b 0 1 (nmA n b 0 (lab - 1) e).2.2).2.1) (by omega) (Or.inr (Or.inl ⟨hw, rfl, rfl⟩)) (f := 0) (fun _ => rfl)
      rw [a1, Option.bind_some]
      refine ⟨_, rfl, ?_, fun _ => ⟨by omega, q3⟩⟩
      have hex : exE cap lab ack cop (w, (nmA n b 0 (lab - 1) e).2.1, (nmA n b 0 1 (nmA n b 0 (lab - 1) e).2.2).2.1) = actE cap lab ack cop w (nmA n b 0 (lab - 1) e).2.1 (nmA n b 0 1 (nmA n b 0 (lab - 1) e).2.2).2.1 := by
        unfold exE
        rw [if_neg (show ¬ w = 5 by omega)]
      rw [hex]
      exact res_good a2 (sk_in q3)
    · obtain ⟨v, e2⟩ := bad2 z2
      rw [if_neg z2] at hi ⊢
      have hni : ¬ i = true := fun z => z2 (hi z)
      rw [e2, Option.bind_some]
      dsimp only
      rw [acting_idle _ _ _ _ _ D _ _ _ hni, Option.bind_some]
      exact ⟨_, rfl, res_bad hR hni z2 lt2 _ _ _, fun z => absurd z z2⟩
  · obtain ⟨v, e1⟩ := bad1 z1
    rw [if_neg z1] at hi ⊢
    have hni : ¬ i = true := fun z => z1 (hi z)
    rw [e1, Option.bind_some]
    dsimp only
    rw [numTold_bad F _ A lt1 z1, Option.bind_some]
    dsimp only
    rw [acting_idle _ _ _ _ _ D _ _ _ hni, Option.bind_some]
    exact ⟨_, rfl, res_bad hR hni z1 lt1 _ _ _, fun z => absurd z z1⟩
def stM (rec : RCT) (F n cap lab ack cop : Nat) (A : Nat → Int32) (X : M21) (o : Int32) : Option M21 := fX12_stepTold rec F (Int32.ofNat cap) (Int32.ofNat lab) (Int32.ofNat ack) (Int32.ofNat cop) (Int32.ofNat n) A X.1 X.2.1 X.2.2.1 X.2.2.2.1 X.2.2.2.2.1 X.2.2.2.2.2.1 X.2.2.2.2.2.2.1 X.2.2.2.2.2.2.2.1 X.2.2.2.2.2.2.2.2.1 X.2.2.2.2.2.2.2.2.2.1 X.2.2.2.2.2.2.2.2.2.2.1 X.2.2.2.2.2.2.2.2.2.2.2.1 X.2.2.2.2.2.2.2.2.2.2.2.2.1 X.2.2.2.2.2.2.2.2.2.2.2.2.2.1 X.2.2.2.2.2.2.2.2.2.2.2.2.2.2.1 X.2.2.2.2.2.2.2.2.2.2.2.2.2.2.2.1 X.2.2.2.2.2.2.2.2.2.2.2.2.2.2.2.2.1 X.2.2.2.2.2.2.2.2.2.2.2.2.2.2.2.2.2.1 X.2.2.2.2.2.2.2.2.2.2.2.2.2.2.2.2.2.2.1 X.2.2.2.2.2.2.2.2.2.2.2.2.2.2.2.2.2.2.2.1 X.2.2.2.2.2.2.2.2.2.2.2.2.2.2.2.2.2.2.2.2 o
theorem ts_word {p e : Nat} (he : e = ewA n b pLe p) (hlt : p < e) : (TSA n b p).2.1 = Int32.ofNat e := by
  subst he
  have hl : pLe (chA n b p) = true := ew_in le_end (Nat.le_refl _) hlt
  have hle : pLe (chA n b p) = true ↔ (97 ≤ chA n b p ∧ chA n b p ≤ 122) := by unfold pLe; exact decide_eq_true_iff
  have := hle.mp hl
  unfold TSA
  rw [if_neg (by omega), if_pos hl]
/-- what clear does once its number is told -/
def clM (F cap lab ack cop : Nat) (D : DS) (i : Int32) (r19 : Int32 × Int32 × Int32 × Int32 × Int64 × Int32 × Int32) : Option M21 := (if i = 0 then some (D.1, D.2.1, D.2.2.1, D.2.2.2.1, D.2.2.2.2.1, D.2.2.2.2.2.1, D.2.2.2.2.2.2.1, D.2.2.2.2.2.2.2.1, r19.2.1, r19.2.2.1, r19.2.2.2.1, r19.2.2.2.2.1, r19.2.2.2.2.2.1, r19.2.2.2.2.2.2, i, D.2.2.2.2.2.2.2.2.1, D.2.2.2.2.2.2.2.2.2.1, D.2.2.2.2.2.2.2.2.2.2.1, D.2.2.2.2.2.2.2.2.2.2.2.1, D.2.2.2.2.2.2.2.2.2.2.2.2.1, D.2.2.2.2.2.2.2.2.2.2.2.2.2) else (if D.2.2.2.2.2.2.2.2.2.1 = 0 then (if r19.2.2.2.2.2.2 = 0 then ((fX12_clears F (Int32.ofNat cap) (Int32.ofNat lab) (Int32.ofNat ack) (Int32.ofNat cop) r19.2.2.2.2.2.2 i D.1 D.2.1 D.2.2.1 D.2.2.2.1 D.2.2.2.2.1 D.2.2.2.2.2.1 D.2.2.2.2.2.2.1 D.2.2.2.2.2.2.2.1 D.2.2.2.2.2.2.2.2.1 D.2.2.2.2.2.2.2.2.2.1 D.2.2.2.2.2.2.2.2.2.2.1 D.2.2.2.2.2.2.2.2.2.2.2.1 D.2.2.2.2.2.2.2.2.2.2.2.2.1 D.2.2.2.2.2.2.2.2.2.2.2.2.2 r19.1).bind (fun r23 => some (r23.1, r23.2.1, r23.2.2.1, r23.2.2.2.1, r23.2.2.2.2.1, r23.2.2.2.2.2.1, r23.2.2.2.2.2.2.1, r23.2.2.2.2.2.2.2.1, r19.2.1, r19.2.2.1, r19.2.2.2.1, r19.2.2.2.2.1, r19.2.2.2.2.2.1, r19.2.2.2.2.2.2, i, r23.2.2.2.2.2.2.2.2.1, r23.2.2.2.2.2.2.2.2.2.1, r23.2.2.2.2.2.2.2.2.2.2.1, r23.2.2.2.2.2.2.2.2.2.2.2.1, r23.2.2.2.2.2.2.2.2.2.2.2.2.1, r23.2.2.2.2.2.2.2.2.2.2.2.2.2))) else some (D.1, D.2.1, D.2.2.1, D.2.2.2.1, D.2.2.2.2.1, D.2.2.2.2.2.1, D.2.2.2.2.2.2.1, D.2.2.2.2.2.2.2.1, r19.2.1, r19.2.2.1, r19.2.2.2.1, r19.2.2.2.2.1, r19.2.2.2.2.2.1, r19.2.2.2.2.2.2, i, D.2.2.2.2.2.2.2.2.1, D.2.2.2.2.2.2.2.2.2.1, D.2.2.2.2.2.2.2.2.2.2.1, D.2.2.2.2.2.2.2.2.2.2.2.1, D.2.2.2.2.2.2.2.2.2.2.2.2.1, D.2.2.2.2.2.2.2.2.2.2.2.2.2)) else some (D.1, D.2.1, D.2.2.1, D.2.2.2.1, D.2.2.2.2.1, D.2.2.2.2.2.1, D.2.2.2.2.2.2.1, D.2.2.2.2.2.2.2.1, r19.2.1, r19.2.2.1, r19.2.2.2.1, r19.2.2.2.2.1, r19.2.2.2.2.2.1, r19.2.2.2.2.2.2, i, D.2.2.2.2.2.2.2.2.1, D.2.2.2.2.2.2.2.2.2.1, D.2.2.2.2.2.2.2.2.2.2.1, D.2.2.2.2.2.2.2.2.2.2.2.1, D.2.2.2.2.2.2.2.2.2.2.2.2.1, D.2.2.2.2.2.2.2.2.2.2.2.2.2)))
theorem clM_off (D : DS) {i : Bool} (hi : ¬ i = true) (v : Int32) (T : TS5) (f : Int32) : clM F cap lab ack cop D (bI i) (v, T.1, T.2.1, T.2.2.1, T.2.2.2.1, T.2.2.2.2, f) = some (mkM D T f (bI i)) := by
  unfold clM
  rw [if_pos (show bI i = 0 from if_neg hi)]
  rfl
theorem clM_stop {D : DS} {i : Bool} (hi : i = true) (h66 : D.2.2.2.2.2.2.2.2.2.1 = 1) (v : Int32) (T : TS5) (f : Int32) : clM F cap lab ack cop D (bI i) (v, T.1, T.2.1, T.2.2.1, T.2.2.2.1, T.2.2.2.2, f) = some (mkM D T f (bI i)) := by
  unfold clM
  rw [if_neg (show ¬ bI i = 0 by rw [hi]; decide), if_neg (show ¬ D.2.2.2.2.2.2.2.2.2.1 = 0 by rw [h66]; decide)]
  rfl
theorem clM_do {D D' : DS} {i : Bool} (hi : i = true) (h66 : D.2.2.2.2.2.2.2.2.2.1 = 0) (v : Int32) (T : TS5) (he : fX12_clears F (Int32.ofNat cap) (Int32.ofNat lab) (Int32.ofNat ack) (Int32.ofNat cop) 0 1 D.1 D.2.1 D.2.2.1 D.2.2.2.1 D.2.2.2.2.1 D.2.2.2.2.2.1 D.2.2.2.2.2.2.1 D.2.2.2.2.2.2.2.1 D.2.2.2.2.2.2.2.2.1 D.2.2.2.2.2.2.2.2.2.1 D.2.2.2.2.2.2.2.2.2.2.1 D.2.2.2.2.2.2.2.2.2.2.2.1 D.2.2.2.2.2.2.2.2.2.2.2.2.1 D.2.2.2.2.2.2.2.2.2.2.2.2.2 v = some D') : clM F cap lab ack cop D (bI i) (v, T.1, T.2.1, T.2.2.1, T.2.2.2.1, T.2.2.2.2, 0) = some (mkM D' T 0 (bI i)) := by
  have hb : bI i = 1 := by rw [hi]; rfl
  rw [hb]
  unfold clM
  rw [if_neg (show ¬ (1 : Int32) = 0 by decide), if_pos h66, if_pos rfl, he, Option.bind_some]
  rfl
theorem clr_any (hs : Stt cap lab ack cop) (h : TxA n b A) (hF : 1000 ≤ F) {e : Nat} (he : e ≤ n) {i : Bool} {s : SEA} {D0 D : DS} (hR : Sd cap i s D0 D) (pl tk nm : Int32) (wd : Int64) (hi : i = true → (oneA n b 5 1 9 e).1 = 0) : ∃ X, ((fX12_next F (Int32.ofNat n) 0 A pl (Int32.ofNat e) tk wd nm).bind (fun r18 => ((fX12_numberTold F (Int32.ofNat n) A r18.1 r18.2.1 r18.2.2.1 r18.2.2.2.1 r18.2.2.2.2 0 1 9).bind (fun r19 => clM F cap lab ack cop D (bI i) r19)))) = some X ∧ Res n b cap i s D0 (oneA n b 5 1 9 e).1 (skA n b (oneA n b 5 1 9 e).2.1) (exE cap lab ack cop (oneA n b 5 1 9 e).2.2) X ∧ ((oneA n b 5 1 9 e).1 = 0 → e ≤ (oneA n b 5 1 9 e).2.1 ∧ (oneA n b 5 1 9 e).2.1 ≤ n) := by
  obtain ⟨lt1, ok1, bad1⟩ := num_ok h hF (k := e) (lo := 1) (hi := 9) he (by decide) (by decide) (plo := 1) (phi := 9) rfl rfl
  rw [next_m h hF he, Option.bind_some]
  unfold oneA at hi ⊢
  by_cases z1 : (nmA n b 1 9 e).1 = 0
  · obtain ⟨q1, q2, g1⟩ := ok1 z1
    have hv := nm_ok z1
    rw [if_pos z1] at hi ⊢
    rw [g1, Option.bind_some]
    have hex : exE cap lab ack cop (5, (nmA n b 1 9 e).2.1, 0) = clrE cap lab ack cop (nmA n b 1 9 e).2.1 := by
      unfold exE
      rw [if_pos rfl]
    dsimp only
    rw [hex]
    generalize (nmA n b 1 9 e).2.2 = q at q1 q2
    generalize (nmA n b 1 9 e).2.1 = v at hv
    by_cases hit : i = true
    · have hRd := hR.1 hit
      have hfin : ∀ D', DR cap (clrE cap lab ack cop v s) D' → Sd cap i (efA i (clrE cap lab ack cop v) s) D0 D' := fun D' hD' => ⟨fun _ => by
        unfold efA
        rw [if_pos hit]
        exact hD', fun z => absurd hit (by rw [z]; decide)⟩
      by_cases hst : s.2.2 = true
      · have h66 := hRd.2.2.2
        rw [if_pos hst] at h66
        have hid : clrE cap lab ack cop v s = s := (ef_clr (cap := cap) (lab := lab) (ack := ack) (cop := cop) v s hRd.2.2.1).1 hst
        rw [clM_stop hit h66]
        exact ⟨_, rfl, res_good (hfin D (by rw [hid]; exact hRd)) (sk_in q1), fun _ => ⟨q2, q1⟩⟩
      · have h66 := hRd.2.2.2
        rw [if_neg hst] at h66
        obtain ⟨D', a1, a2⟩ := clears_do (F := F) hs (by omega) (a := v) (by omega) hRd
        rw [clM_do hit h66 (Int32.ofNat v) (TSA n b (skA n b q)) a1]
        exact ⟨_, rfl, res_good (hfin D' a2) (sk_in q1), fun _ => ⟨q2, q1⟩⟩
    · rw [clM_off D hit]
      exact ⟨_, rfl, res_good (sd_false hR hit) (sk_in q1), fun _ => ⟨q2, q1⟩⟩
  · obtain ⟨v, g1⟩ := bad1 z1
    rw [if_neg z1] at hi ⊢
    have hni : ¬ i = true := fun z => z1 (hi z)
    rw [g1, Option.bind_some, clM_off D hni]
    exact ⟨_, rfl, res_bad hR hni z1 lt1 _ _ _, fun z => absurd z z1⟩
/-- a told step that is no again -/
theorem st_simple (hs : Stt cap lab ack cop) (h : TxA n b A) (hF : 1000 ≤ F) (rec : RCT) {p : Nat} (hp : p ≤ n) {i : Bool} {s : SEA} {D0 D : DS} (hR : Sd cap i s D0 D) (hi : i = true → (smA lab n b p).1 = 0) (h6 : wOf b p (ewA n b pLe p) ≠ 6) (o : Int32) : ∃ X, stM rec F n cap lab ack cop A (mkM D (TSA n b p) 0 (bI i)) o = some X ∧ Res n b cap i s D0 (smA lab n b p).1 (skA n b (smA lab n b p).2.1) (exE cap lab ack cop (smA lab n b p).2.2) X ∧ ((smA lab n b p).1 = 0 → p < (smA lab n b p).2.1 ∧ (smA lab n b p).2.1 ≤ n) := by
  have hn := h.1
  have hb := hs.2.1
  have hge := ew_ge (n := n) (b := b) le_end p
  have hle := ew_le (n := n) (b := b) le_end hp
  have hwl := wOf_le b p (ewA n b pLe p)
  have hpl := ts_place n b p
  have hy : ∀ t, 7 ≤ t → t < 14 → wOf b p (ewA n b pLe p) = cdO t → fX12_isWord F (sLen t) (sByt t) (TSA n b p).2.2.1 (TSA n b p).2.2.2.1 0 = some 1 := fun t h1 h2 h3 => isW_yes h hF h1 h2 hp h3
  have hno : ∀ t, 7 ≤ t → t < 14 → wOf b p (ewA n b pLe p) ≠ cdO t → fX12_isWord F (sLen t) (sByt t) (TSA n b p).2.2.1 (TSA n b p).2.2.2.1 0 = some 0 := fun t h1 h2 h3 => isW_no h hF h1 h2 hp h3
  have e1 : ¬ (1 : Int32) = 0 := by decide
  unfold stM mkM fX12_stepTold
  dsimp only
  by_cases w7 : wOf b p (ewA n b pLe p) = 7
  · have hsm : smA lab n b p = (8 * p + 1, 0, (0, 0, 0)) := by
      unfold smA
      dsimp only
      rw [w7, if_neg (show ¬ (7 : Nat) = 0 by decide), if_neg (show ¬ ((7 : Nat) = 1 ∨ (7 : Nat) = 3) by decide), if_neg (show ¬ ((7 : Nat) = 2 ∨ (7 : Nat) = 4) by decide), if_neg (show ¬ (7 : Nat) = 5 by decide)]
    rw [hsm] at hi ⊢
    have hni : ¬ i = true := fun z => absurd (hi z) (Nat.succ_ne_zero _)
    rw [w7] at hno
    rw [hno 7 (by decide) (by decide) (by decide), Option.bind_some, if_pos rfl, hno 8 (by decide) (by decide) (by decide), Option.bind_some, if_pos rfl, hno 9 (by decide) (by decide) (by decide), Option.bind_some, if_pos rfl, hno 10 (by decide) (by decide) (by decide), Option.bind_some, if_pos rfl, hno 11 (by decide) (by decide) (by decide), Option.bind_some, if_pos rfl, hno 12 (by decide) (by decide) (by decide), Option.bind_some, if_pos rfl, hno 13 (by decide) (by decide) (by decide), Option.bind_some, if_pos rfl]
    have hw : fX12_wrong (TSA n b p).1 0 1 = Int32.ofNat (8 * p + 1) := by
      rw [hpl]
      exact wrong_eq (p := p) (k := 1)
    rw [hw]
    exact ⟨_, rfl, res_bad hR hni (Nat.succ_ne_zero _) (by omega) _ _ _, fun z => absurd z (Nat.succ_ne_zero _)⟩
  · have h4 := wOf_pos w7
    have hts := ts_word (n := n) (b := b) (p := p) rfl (by omega)
    rw [hts]
    have lift : ∀ {x : Nat × Nat × STP3}, (x.1 = 0 → ewA n b pLe p ≤ x.2.1 ∧ x.2.1 ≤ n) → (x.1 = 0 → p < x.2.1 ∧ x.2.1 ≤ n) := fun g z => ⟨by have := (g z).1; omega, (g z).2⟩
    generalize hw : wOf b p (ewA n b pLe p) = w at hy hno w7 h6 hwl
    by_cases w0 : w = 0
    · subst w0
      have hsm : smA lab n b p = (0, ewA n b pLe p, (0, 0, 0)) := by
        unfold smA
        dsimp only
        rw [hw, if_pos rfl]
      rw [hsm, hy 7 (by decide) (by decide) (by decide), Option.bind_some, if_neg e1, next_m h hF hle, Option.bind_some]
      obtain ⟨D', a1, a2⟩ := acting_any (F := F) hs (by omega) hR (w := 0) (a := 0) (v := 0) (p2 := -1) (p3 := -1) (by decide) (Or.inl rfl) (f := 0) (fun _ => rfl)
      rw [show (0 : Int32) = Int32.ofNat 0 from rfl] at a1
      rw [show (0 : Int32) = Int32.ofNat 0 from rfl, a1, Option.bind_some]
      exact ⟨_, rfl, res_good a2 (sk_in hle), fun _ => ⟨by show p < ewA n b pLe p; omega, hle⟩⟩
    · by_cases w1 : w = 1
      · subst w1
        have hsm : smA lab n b p = twoA n b 1 (lab - 1) (ewA n b pLe p) := by
          unfold smA twoA
          dsimp only
          rw [hw, if_neg (show ¬ (1 : Nat) = 0 by decide), if_pos (show (1 : Nat) = 1 ∨ (1 : Nat) = 3 from Or.inl rfl)]
        rw [hsm] at hi ⊢
        rw [hno 7 (by decide) (by decide) (by decide), Option.bind_some, if_pos rfl, hy 8 (by decide) (by decide) (by decide), Option.bind_some, if_neg e1]
        unfold fX12_stepTold_J44
        rw [hno 9 (by decide) (by decide) (by decide), Option.bind_some, if_pos rfl]
        obtain ⟨X, x1, x2, x3⟩ := j59_any hs h hF rec hle hR (w := 1) (Or.inl rfl) (TSA n b p).1 (TSA n b p).2.2.1 (TSA n b p).2.2.2.2 (TSA n b p).2.2.2.1 hi
        exact ⟨X, x1, x2, lift x3⟩
      · by_cases w3 : w = 3
        · subst w3
          have hsm : smA lab n b p = twoA n b 3 (lab - 1) (ewA n b pLe p) := by
            unfold smA twoA
            dsimp only
            rw [hw, if_neg (show ¬ (3 : Nat) = 0 by decide), if_pos (show (3 : Nat) = 1 ∨ (3 : Nat) = 3 from Or.inr rfl)]
          rw [hsm] at hi ⊢
          rw [hno 7 (by decide) (by decide) (by decide), Option.bind_some, if_pos rfl, hno 8 (by decide) (by decide) (by decide), Option.bind_some, if_pos rfl, hy 9 (by decide) (by decide) (by decide), Option.bind_some, if_neg e1]
          unfold fX12_stepTold_J44
          rw [hy 9 (by decide) (by decide) (by decide), Option.bind_some, if_neg e1]
          obtain ⟨X, x1, x2, x3⟩ := j59_any hs h hF rec hle hR (w := 3) (Or.inr rfl) (TSA n b p).1 (TSA n b p).2.2.1 (TSA n b p).2.2.2.2 (TSA n b p).2.2.2.1 hi
          exact ⟨X, x1, x2, lift x3⟩
        · by_cases w2 : w = 2
          · subst w2
            have hsm : smA lab n b p = oneA n b 2 0 (lab - 1) (ewA n b pLe p) := by
              unfold smA oneA
              dsimp only
              rw [hw, if_neg (show ¬ (2 : Nat) = 0 by decide), if_neg (show ¬ ((2 : Nat) = 1 ∨ (2 : Nat) = 3) by decide), if_pos (show (2 : Nat) = 2 ∨ (2 : Nat) = 4 from Or.inl rfl)]
            rw [hsm] at hi ⊢
            rw [hno 7 (by decide) (by decide) (by decide), Option.bind_some, if_pos rfl, hno 8 (by decide) (by decide) (by decide), Option.bind_some, if_pos rfl, hno 9 (by decide) (by decide) (by decide), Option.bind_some, if_pos rfl, hy 10 (by decide) (by decide) (by decide), Option.bind_some, if_neg e1]
            unfold fX12_stepTold_J115
            rw [hno 11 (by decide) (by decide) (by decide), Option.bind_some, if_pos rfl]
            obtain ⟨X, x1, x2, x3⟩ := j130_any hs h hF rec hle hR (w := 2) (Or.inl rfl) (TSA n b p).1 (TSA n b p).2.2.1 (TSA n b p).2.2.2.2 (TSA n b p).2.2.2.1 hi
            exact ⟨X, x1, x2, lift x3⟩
          · by_cases w4 : w = 4
            · subst w4
              have hsm : smA lab n b p = oneA n b 4 0 (lab - 1) (ewA n b pLe p) := by
                unfold smA oneA
                dsimp only
                rw [hw, if_neg (show ¬ (4 : Nat) = 0 by decide), if_neg (show ¬ ((4 : Nat) = 1 ∨ (4 : Nat) = 3) by decide), if_pos (show (4 : Nat) = 2 ∨ (4 : Nat) = 4 from Or.inr rfl)]
              rw [hsm] at hi ⊢
              rw [hno 7 (by decide) (by decide) (by decide), Option.bind_some, if_pos rfl, hno 8 (by decide) (by decide) (by decide), Option.bind_some, if_pos rfl, hno 9 (by decide) (by decide) (by decide), Option.bind_some, if_pos rfl, hno 10 (by decide) (by decide) (by decide), Option.bind_some, if_pos rfl, hy 11 (by decide) (by decide) (by decide), Option.bind_some, if_neg e1]
              unfold fX12_stepTold_J115
              rw [hy 11 (by decide) (by decide) (by decide), Option.bind_some, if_neg e1]
              obtain ⟨X, x1, x2, x3⟩ := j130_any hs h hF rec hle hR (w := 4) (Or.inr rfl) (TSA n b p).1 (TSA n b p).2.2.1 (TSA n b p).2.2.2.2 (TSA n b p).2.2.2.1 hi
              exact ⟨X, x1, x2, lift x3⟩
            · obtain rfl : w = 5 := by omega
              have hsm : smA lab n b p = oneA n b 5 1 9 (ewA n b pLe p) := by
                unfold smA oneA
                dsimp only
                rw [hw, if_neg (show ¬ (5 : Nat) = 0 by decide), if_neg (show ¬ ((5 : Nat) = 1 ∨ (5 : Nat) = 3) by decide), if_neg (show ¬ ((5 : Nat) = 2 ∨ (5 : Nat) = 4) by decide), if_pos rfl]
              rw [hsm] at hi ⊢
              rw [hno 7 (by decide) (by decide) (by decide), Option.bind_some, if_pos rfl, hno 8 (by decide) (by decide) (by decide), Option.bind_some, if_pos rfl, hno 9 (by decide) (by decide) (by decide), Option.bind_some, if_pos rfl, hno 10 (by decide) (by decide) (by decide), Option.bind_some, if_pos rfl, hno 11 (by decide) (by decide) (by decide), Option.bind_some, if_pos rfl, hno 12 (by decide) (by decide) (by decide), Option.bind_some, if_pos rfl, hy 13 (by decide) (by decide) (by decide), Option.bind_some, if_neg e1]
              obtain ⟨X, x1, x2, x3⟩ := clr_any hs h hF hle hR (TSA n b p).1 (TSA n b p).2.2.1 (TSA n b p).2.2.2.2 (TSA n b p).2.2.2.1 hi
              exact ⟨X, x1, x2, lift x3⟩
end MSTEP
