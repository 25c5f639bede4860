/-! part 9zd: the reference goes through a text -/
section MPS
variable {cap lab ack cop : Nat} {F n : Nat} {b : Nat → Nat} {A : Nat → Int32}
theorem st_any (hs : Stt cap lab ack cop) (h : TxA n b A) (hF : 1000 ≤ F) {rec : RCT} {opn f : Nat} (h4 : opn ≤ 4) (hrec : opn ≤ 3 → RecOk n b A cap lab ack cop rec (opn + 1) f) {p j : Nat} (hp : p ≤ n) {i : Bool} {s : SEA} {D0 D : DS} (hR : Sd cap i s D0 D) (hf : n - p < f + 1) (hi : i = true → (stA cap lab ack cop n b (psA cap lab ack cop n b f) p opn j).1 = 0 ∧ s.2.2 = false) : ∃ X, stM rec F n cap lab ack cop A (mkM D (TSA n b p) 0 (bI i)) (Int32.ofNat opn) = some X ∧ Res n b cap i s D0 (stA cap lab ack cop n b (psA cap lab ack cop n b f) p opn j).1 (skA n b (stA cap lab ack cop n b (psA cap lab ack cop n b f) p opn j).2.1) (stA cap lab ack cop n b (psA cap lab ack cop n b f) p opn j).2.2.1 X ∧ ((stA cap lab ack cop n b (psA cap lab ack cop n b f) p opn j).1 = 0 → p ≤ (stA cap lab ack cop n b (psA cap lab ack cop n b f) p opn j).2.1 ∧ (stA cap lab ack cop n b (psA cap lab ack cop n b f) p opn j).2.1 ≤ n) := by
  have hn := h.1
  unfold stA at hi ⊢
  by_cases w6 : wOf b p (ewA n b pLe p) = 6
  · rw [if_pos w6] at hi ⊢
    have hge := ew_ge (n := n) (b := b) le_end p
    have hle := ew_le (n := n) (b := b) le_end hp
    have h4p := wOf_pos (b := b) (k := p) (e := ewA n b pLe p) (by rw [w6]; decide)
    have hts := ts_word (n := n) (b := b) (p := p) rfl (by omega)
    have hpl := ts_place n b p
    have hno : ∀ t, 7 ≤ t → t < 14 → (6 : Nat) ≠ cdO t → fX12_isWord F (sLen t) (sByt t) (TSA n b p).2.2.1 (TSA n b p).2.2.2.1 0 = some 0 := fun t h1 h2 h3 => isW_no h hF h1 h2 hp (by rw [w6]; exact h3)
    have hy : fX12_isWord F (sLen 12) (sByt 12) (TSA n b p).2.2.1 (TSA n b p).2.2.2.1 0 = some 1 := isW_yes h hF (by decide) (by decide) hp (by rw [w6]; decide)
    have e1 : ¬ (1 : Int32) = 0 := by decide
    unfold stM mkM fX12_stepTold
    dsimp only
    rw [hno 7 (by decide) (by decide) (by decide), Option.bind_some, if_pos rfl, hno 8 (by decide) (by decide) (by decide), Option.bind_some, if_pos rfl, hno 9 (by decide) (by decide) (by decide), Option.bind_some, if_pos rfl, hno 10 (by decide) (by decide) (by decide), Option.bind_some, if_pos rfl, hno 11 (by decide) (by decide) (by decide), Option.bind_some, if_pos rfl, hy, Option.bind_some, if_neg e1]
    by_cases o4 : opn = 4
    · subst o4
      have hag : agA n b (psA cap lab ack cop n b f) p 4 j = (8 * p + 3, 0, id, []) := if_pos rfl
      rw [hag] at hi ⊢
      have hni : ¬ i = true := fun z => absurd (hi z).1 (Nat.succ_ne_zero _)
      have hw : fX12_wrong (TSA n b p).1 0 3 = Int32.ofNat (8 * p + 3) := by
        rw [hpl]
        exact wrong_eq (p := p) (k := 3)
      have h83 : 8 * p + 3 < 4000 := by omega
      rw [if_pos (show Int32.ofNat 4 = 4 from rfl), hw]
      unfold fX12_stepTold_J177
      rw [next_bad _ _ _ h83 (Nat.succ_ne_zero _), Option.bind_some]
      unfold fX12_againTold
      dsimp only
      rw [numTold_bad F _ A h83 (Nat.succ_ne_zero _), Option.bind_some]
      dsimp only
      rw [if_neg (fun z => by have := (i32_le (b := 0) (by omega) (by decide)).mp z; omega), Option.bind_some]
      exact ⟨_, rfl, res_bad hR hni (Nat.succ_ne_zero _) h83 (TSA n b p) _ _, fun z => absurd z (Nat.succ_ne_zero _)⟩
    · have h3 : opn ≤ 3 := by omega
      rw [if_neg (show ¬ Int32.ofNat opn = 4 from fun z => o4 ((i32_eq (b := 4) (by omega) (by decide)).mp z)), hts]
      obtain ⟨X, x1, x2, x3⟩ := ag_told h hF (hrec h3) h3 (j := j) hp hR (by omega) hi
      unfold agM mkM at x1
      dsimp only at x1
      unfold fX12_stepTold_J177
      rw [next_m h hF hle, Option.bind_some, i32_succ]
      rw [x1, Option.bind_some]
      exact ⟨X, rfl, x2, fun z => ⟨by have := (x3 z).1; omega, (x3 z).2⟩⟩
  · rw [if_neg w6] at hi ⊢
    obtain ⟨X, x1, x2, x3⟩ := st_simple hs h hF rec hp hR (fun z => (hi z).1) w6 (Int32.ofNat opn)
    exact ⟨X, x1, x2, fun z => ⟨Nat.le_of_lt (x3 z).1, (x3 z).2⟩⟩
abbrev PSR := Option ((M21 ⊕ M21) ⊕ M21)
def psS (rec : RCT) (F n cap lab ack cop : Nat) (A : Nat → Int32) (o : Int32) (u : M21) : PSR := fX12_stepsTold_S0 rec F (Int32.ofNat cap) (Int32.ofNat lab) (Int32.ofNat ack) (Int32.ofNat cop) (Int32.ofNat n) A o u.1 u.2.1 u.2.2.1 u.2.2.2.1 u.2.2.2.2.1 u.2.2.2.2.2.1 u.2.2.2.2.2.2.1 u.2.2.2.2.2.2.2.1 u.2.2.2.2.2.2.2.2.1 u.2.2.2.2.2.2.2.2.2.1 u.2.2.2.2.2.2.2.2.2.2.1 u.2.2.2.2.2.2.2.2.2.2.2.1 u.2.2.2.2.2.2.2.2.2.2.2.2.1 u.2.2.2.2.2.2.2.2.2.2.2.2.2.1 u.2.2.2.2.2.2.2.2.2.2.2.2.2.2.1 u.2.2.2.2.2.2.2.2.2.2.2.2.2.2.2.1 u.2.2.2.2.2.2.2.2.2.2.2.2.2.2.2.2.1 u.2.2.2.2.2.2.2.2.2.2.2.2.2.2.2.2.2.1 u.2.2.2.2.2.2.2.2.2.2.2.2.2.2.2.2.2.2.1 u.2.2.2.2.2.2.2.2.2.2.2.2.2.2.2.2.2.2.2.1 u.2.2.2.2.2.2.2.2.2.2.2.2.2.2.2.2.2.2.2.2
def j31M (rec : RCT) (F n cap lab ack cop : Nat) (A : Nat → Int32) (o : Int32) (u : M21) : PSR := fX12_stepsTold_J31 rec F (Int32.ofNat cap) (Int32.ofNat lab) (Int32.ofNat ack) (Int32.ofNat cop) (Int32.ofNat n) A o u.1 u.2.1 u.2.2.1 u.2.2.2.1 u.2.2.2.2.1 u.2.2.2.2.2.1 u.2.2.2.2.2.2.1 u.2.2.2.2.2.2.2.1 u.2.2.2.2.2.2.2.2.1 u.2.2.2.2.2.2.2.2.2.1 u.2.2.2.2.2.2.2.2.2.2.1 u.2.2.2.2.2.2.2.2.2.2.2.1 u.2.2.2.2.2.2.2.2.2.2.2.2.1 u.2.2.2.2.2.2.2.2.2.2.2.2.2.1 u.2.2.2.2.2.2.2.2.2.2.2.2.2.2.1 u.2.2.2.2.2.2.2.2.2.2.2.2.2.2.2.1 u.2.2.2.2.2.2.2.2.2.2.2.2.2.2.2.2.1 u.2.2.2.2.2.2.2.2.2.2.2.2.2.2.2.2.2.1 u.2.2.2.2.2.2.2.2.2.2.2.2.2.2.2.2.2.2.1 u.2.2.2.2.2.2.2.2.2.2.2.2.2.2.2.2.2.2.2.1 u.2.2.2.2.2.2.2.2.2.2.2.2.2.2.2.2.2.2.2.2
def m59K (X : M21) (r8 : Int32 × Int32 × Int32 × Int64 × Int32 × Int32) : PSR := if X.2.2.2.2.2.2.2.2.2.2.2.2.2.2.2.2.1 = 0 then some (Sum.inr (X.1, X.2.1, X.2.2.1, X.2.2.2.1, X.2.2.2.2.1, X.2.2.2.2.2.1, X.2.2.2.2.2.2.1, X.2.2.2.2.2.2.2.1, r8.1, r8.2.1, r8.2.2.1, r8.2.2.2.1, r8.2.2.2.2.1, r8.2.2.2.2.2, X.2.2.2.2.2.2.2.2.2.2.2.2.2.2.1, X.2.2.2.2.2.2.2.2.2.2.2.2.2.2.2.1, X.2.2.2.2.2.2.2.2.2.2.2.2.2.2.2.2.1, X.2.2.2.2.2.2.2.2.2.2.2.2.2.2.2.2.2.1, X.2.2.2.2.2.2.2.2.2.2.2.2.2.2.2.2.2.2.1, X.2.2.2.2.2.2.2.2.2.2.2.2.2.2.2.2.2.2.2.1, X.2.2.2.2.2.2.2.2.2.2.2.2.2.2.2.2.2.2.2.2)) else (if X.2.2.2.2.2.2.2.2.2.2.2.2.2.2.1 = 0 then some (Sum.inr (X.1, X.2.1, X.2.2.1, X.2.2.2.1, X.2.2.2.2.1, X.2.2.2.2.2.1, X.2.2.2.2.2.2.1, X.2.2.2.2.2.2.2.1, r8.1, r8.2.1, r8.2.2.1, r8.2.2.2.1, r8.2.2.2.2.1, r8.2.2.2.2.2, X.2.2.2.2.2.2.2.2.2.2.2.2.2.2.1, X.2.2.2.2.2.2.2.2.2.2.2.2.2.2.2.1, X.2.2.2.2.2.2.2.2.2.2.2.2.2.2.2.2.1, X.2.2.2.2.2.2.2.2.2.2.2.2.2.2.2.2.2.1, X.2.2.2.2.2.2.2.2.2.2.2.2.2.2.2.2.2.2.1, X.2.2.2.2.2.2.2.2.2.2.2.2.2.2.2.2.2.2.2.1, X.2.2.2.2.2.2.2.2.2.2.2.2.2.2.2.2.2.2.2.2)) else some (Sum.inl (Sum.inl (X.1, X.2.1, X.2.2.1, X.2.2.2.1, X.2.2.2.2.1, X.2.2.2.2.2.1, X.2.2.2.2.2.2.1, X.2.2.2.2.2.2.2.1, r8.1, r8.2.1, r8.2.2.1, r8.2.2.2.1, r8.2.2.2.2.1, r8.2.2.2.2.2, X.2.2.2.2.2.2.2.2.2.2.2.2.2.2.1, X.2.2.2.2.2.2.2.2.2.2.2.2.2.2.2.1, X.2.2.2.2.2.2.2.2.2.2.2.2.2.2.2.2.1, X.2.2.2.2.2.2.2.2.2.2.2.2.2.2.2.2.2.1, X.2.2.2.2.2.2.2.2.2.2.2.2.2.2.2.2.2.2.1, X.2.2.2.2.2.2.2.2.2.2.2.2.2.2.2.2.2.2.2.1, X.2.2.2.2.2.2.2.2.2.2.2.2.2.2.2.2.2.2.2.2))))
theorem j31_eq (rec : RCT) (o : Int32) (X0 : M21) : j31M rec F n cap lab ack cop A o X0 = (stM rec F n cap lab ack cop A X0 o).bind (fun X => (fX12_must F (Int32.ofNat n) A X.2.2.2.2.2.2.2.2.1 X.2.2.2.2.2.2.2.2.2.1 X.2.2.2.2.2.2.2.2.2.2.1 X.2.2.2.2.2.2.2.2.2.2.2.1 X.2.2.2.2.2.2.2.2.2.2.2.2.1 X.2.2.2.2.2.2.2.2.2.2.2.2.2.1 59).bind (m59K X)) := rfl
theorem pss_end (rec : RCT) (o : Int32) (D : DS) {p : Nat} (hc : chA n b p = 256) (i : Int32) : psS rec F n cap lab ack cop A o (mkM D (TSA n b p) 0 i) = some (.inl (.inr (mkM D (TSA n b p) 0 i))) := by
  have ht := (ts_end n b p).mpr hc
  unfold psS mkM fX12_stepsTold_S0
  dsimp only
  rw [if_pos rfl, if_pos ht]
theorem pss_93 (h : TxA n b A) (rec : RCT) (o : Int32) (D : DS) {p : Nat} (hc : chA n b p = 93) (i : Int32) : psS rec F n cap lab ack cop A o (mkM D (TSA n b p) 0 i) = some (.inl (.inr (mkM D (TSA n b p) 0 i))) := by
  obtain ⟨t1, t2⟩ := (ts_sign h (p := p) (c := 93) (Or.inr (Or.inr rfl))).mpr hc
  unfold psS mkM fX12_stepsTold_S0
  dsimp only
  rw [if_pos rfl, if_neg (show ¬ (TSA n b p).2.2.1 = 0 by rw [t1]; decide), if_pos t1, if_pos (show (TSA n b p).2.2.2.2 = 93 from t2)]
theorem pss_bad (rec : RCT) (o : Int32) (D : DS) (T : TS5) {k : Nat} (h0 : k ≠ 0) (hk : k < 4000) (i : Int32) : psS rec F n cap lab ack cop A o (mkM D T (Int32.ofNat k) i) = some (.inl (.inr (mkM D T (Int32.ofNat k) i))) := by
  unfold psS mkM fX12_stepsTold_S0
  dsimp only
  rw [if_neg (show ¬ Int32.ofNat k = 0 from fun z => h0 ((i32_eq (b := 0) (by omega) (by decide)).mp z))]
theorem pss_go (h : TxA n b A) (rec : RCT) (o : Int32) (D : DS) {p : Nat} (hc : ¬ (chA n b p = 256 ∨ chA n b p = 93)) (i : Int32) : psS rec F n cap lab ack cop A o (mkM D (TSA n b p) 0 i) = j31M rec F n cap lab ack cop A o (mkM D (TSA n b p) 0 i) := by
  have ht : ¬ (TSA n b p).2.2.1 = 0 := fun z => hc (Or.inl ((ts_end n b p).mp z))
  have hg := ts_sign h (p := p) (c := 93) (Or.inr (Or.inr rfl))
  unfold psS mkM fX12_stepsTold_S0
  dsimp only
  rw [if_pos rfl, if_neg ht]
  by_cases t3 : (TSA n b p).2.2.1 = 3
  · rw [if_pos t3, if_neg (show ¬ (TSA n b p).2.2.2.2 = 93 from fun z => hc (Or.inr (hg.mp ⟨t3, z⟩)))]
    rfl
  · rw [if_neg t3]
    rfl
theorem efa_comp (i : Bool) (E1 E2 : SEA → SEA) (s : SEA) : efA i E2 (efA i E1 s) = efA i (fun z => E2 (E1 z)) s := by
  cases i <;> rfl
theorem sd_66 {i : Bool} {s : SEA} {D0 D : DS} (hR : Sd cap i s D0 D) (h : i = true → s.2.2 = false) : D.2.2.2.2.2.2.2.2.2.1 = 0 := by
  cases i with
  | true => rw [(hR.1 rfl).2.2.2, h rfl]; rfl
  | false => exact (hR.2 rfl).2
theorem m59_go {D : DS} (h66 : D.2.2.2.2.2.2.2.2.2.1 = 0) (T T2 : TS5) (f f2 i : Int32) : m59K (mkM D T f i) (T2.1, T2.2.1, T2.2.2.1, T2.2.2.2.1, T2.2.2.2.2, f2) = some (.inr (mkM D T2 f2 i)) := if_pos h66
theorem m59_stop {D : DS} (h66 : D.2.2.2.2.2.2.2.2.2.1 = 1) (T T2 : TS5) (f f2 : Int32) : m59K (mkM D T f 1) (T2.1, T2.2.1, T2.2.2.1, T2.2.2.2.1, T2.2.2.2.2, f2) = some (.inl (.inl (mkM D T2 f2 1))) := by
  unfold m59K
  rw [if_neg (show ¬ (mkM D T f 1).2.2.2.2.2.2.2.2.2.2.2.2.2.2.2.2.1 = 0 from fun z => by
    have z' : D.2.2.2.2.2.2.2.2.2.1 = 0 := z
    rw [h66] at z'
    exact absurd z' (by decide)), if_neg (show ¬ (mkM D T f 1).2.2.2.2.2.2.2.2.2.2.2.2.2.2.1 = 0 from (by decide : ¬ (1 : Int32) = 0))]
  rfl
theorem rc_eq (d : Nat) (X : M21) (o : Int32) : rcM (fX12_stepsTold F (d + 1)) n cap lab ack cop A X o = (gloop (psS (fX12_stepsTold F d) F n cap lab ack cop A o) F X).bind (Sum.elim (fun t => some t) (fun t => some t)) := rfl
def LoopOk (F n : Nat) (b : Nat → Nat) (A : Nat → Int32) (cap lab ack cop f d opn : Nat) : Prop := ∀ (i : Bool) (s : SEA) (D0 D : DS) (p j G : Nat), p ≤ n → n - p < f → f ≤ G → Sd cap i s D0 D → (i = true → (psA cap lab ack cop n b f p opn j).1 = 0 ∧ s.2.2 = false) → ∃ X, (gloop (psS (fX12_stepsTold F d) F n cap lab ack cop A (Int32.ofNat opn)) G (mkM D (TSA n b p) 0 (bI i)) = some (.inl X) ∨ gloop (psS (fX12_stepsTold F d) F n cap lab ack cop A (Int32.ofNat opn)) G (mkM D (TSA n b p) 0 (bI i)) = some (.inr X)) ∧ Res n b cap i s D0 (psA cap lab ack cop n b f p opn j).1 (psA cap lab ack cop n b f p opn j).2.1 (psA cap lab ack cop n b f p opn j).2.2.1 X
theorem rec_of (hF : 1000 ≤ F) {f d opn : Nat} (hf : f ≤ F) (hL : LoopOk F n b A cap lab ack cop f d opn) : RecOk n b A cap lab ack cop (fX12_stepsTold F (d + 1)) opn f := by
  refine ⟨fun D T k i h0 hk => ?_, fun i s D0 D p j hp hnp hR hi => ?_⟩
  · rw [rc_eq, gl_stop (pss_bad _ _ D T h0 hk i) (by omega)]
    rfl
  · obtain ⟨X, x1, x2⟩ := hL i s D0 D p j F hp hnp hf hR hi
    refine ⟨X, ?_, x2⟩
    rw [rc_eq]
    rcases x1 with x1 | x1
    · rw [x1]; rfl
    · rw [x1]; rfl
theorem ps_told (hs : Stt cap lab ack cop) (h : TxA n b A) (hF : 1000 ≤ F) : ∀ (f : Nat), f ≤ 1000 → ∀ (d opn : Nat), opn ≤ 4 → 4 ≤ opn + d → LoopOk F n b A cap lab ack cop f d opn := by
  have hn := h.1
  intro f
  induction f with
  | zero => intro _ d opn _ _ i s D0 D p j G _ hnp; exact absurd hnp (Nat.not_lt_zero _)
  | succ f ih =>
    intro hf d opn h4 hd i s D0 D p j G hp hnp hG hR hi
    obtain ⟨G, rfl⟩ : ∃ G', G = G' + 1 := ⟨G - 1, by omega⟩
    by_cases hc : chA n b p = 256 ∨ chA n b p = 93
    · rw [ps_zero _ _ _ _ hc] at hi ⊢
      refine ⟨_, Or.inr (gl_stop ?_ (by omega)), res_good (E := id) (D' := D) ⟨fun z => ?_, hR.2⟩ hp⟩
      · rcases hc with hc | hc
        · exact pss_end _ _ D hc _
        · exact pss_93 h _ _ D hc _
      · unfold efA
        rw [if_pos z]
        exact hR.1 z
    · have hlt : p < n := by
        by_cases z : p < n
        · exact z
        · exact absurd (Or.inl (chA_out (by omega))) hc
      have hrec : opn ≤ 3 → RecOk n b A cap lab ack cop (fX12_stepsTold F d) (opn + 1) f := by
        intro h3
        obtain ⟨d, rfl⟩ : ∃ d', d = d' + 1 := ⟨d - 1, by omega⟩
        exact rec_of hF (by omega) (ih (by omega) d (opn + 1) (by omega) (by omega))
      rw [ps_step _ _ _ _ hc] at hi ⊢
      have hst0 : i = true → (stA cap lab ack cop n b (psA cap lab ack cop n b f) p opn j).1 = 0 := fun z => by
        have := (hi z).1
        by_cases g1 : (stA cap lab ack cop n b (psA cap lab ack cop n b f) p opn j).1 = 0
        · exact g1
        · rw [if_neg g1] at this; exact absurd this g1
      obtain ⟨X, x1, ⟨D1, T1, f1, x2, x3, x4, x5, x6, x7⟩, x8⟩ := st_any hs h hF h4 hrec (j := j) hp hR hnp (fun z => ⟨hst0 z, (hi z).2⟩)
      subst x2
      have hgo := (pss_go (F := F) (cap := cap) (lab := lab) (ack := ack) (cop := cop) h (fX12_stepsTold F d) (Int32.ofNat opn) D hc (bI i)).trans (j31_eq (F := F) (n := n) (cap := cap) (lab := lab) (ack := ack) (cop := cop) (A := A) (fX12_stepsTold F d) (Int32.ofNat opn) (mkM D (TSA n b p) 0 (bI i)))
      rw [x1, Option.bind_some] at hgo
      have hgo' : ∀ (T2 : TS5) (f2 : Int32), fX12_must F (Int32.ofNat n) A T1.1 T1.2.1 T1.2.2.1 T1.2.2.2.1 T1.2.2.2.2 f1 59 = some (T2.1, T2.2.1, T2.2.2.1, T2.2.2.2.1, T2.2.2.2.2, f2) → psS (fX12_stepsTold F d) F n cap lab ack cop A (Int32.ofNat opn) (mkM D (TSA n b p) 0 (bI i)) = m59K (mkM D1 T1 f1 (bI i)) (T2.1, T2.2.1, T2.2.2.1, T2.2.2.2.1, T2.2.2.2.2, f2) := fun T2 f2 e2 => hgo.trans ((congrArg (fun z => Option.bind z (m59K (mkM D1 T1 f1 (bI i)))) e2).trans rfl)
      have hG1 : 1 ≤ G := by omega
      by_cases g1 : (stA cap lab ack cop n b (psA cap lab ack cop n b f) p opn j).1 = 0
      · rw [if_pos g1] at hi ⊢
        obtain ⟨q1, q2⟩ := x8 g1
        have hsk := sk_in (b := b) q2
        have hskg := sk_ge n b (stA cap lab ack cop n b (psA cap lab ack cop n b f) p opn j).2.1
        by_cases hstp : i = true → ((stA cap lab ack cop n b (psA cap lab ack cop n b f) p opn j).2.2.1 s).2.2 = false
        · obtain ⟨y1, y2, y3⟩ := x7 g1 hstp
          subst y1 y3
          have h66 : D1.2.2.2.2.2.2.2.2.2.1 = 0 := sd_66 x3 (fun z => by
            unfold efA
            rw [if_pos z]
            exact hstp z)
          by_cases g2 : chA n b (skA n b (stA cap lab ack cop n b (psA cap lab ack cop n b f) p opn j).2.1) = 59
          · rw [if_pos g2] at hi ⊢
            obtain ⟨m1, m2⟩ := must_good h hF (pc := 59) y2 (Or.inl rfl) rfl g2
            have e1 := (hgo' _ _ m2).trans (m59_go h66 _ _ _ _ _)
            have hp2 := sk_in (b := b) (show skA n b (stA cap lab ack cop n b (psA cap lab ack cop n b f) p opn j).2.1 + 1 ≤ n from m1)
            have hp3 := sk_ge n b (skA n b (stA cap lab ack cop n b (psA cap lab ack cop n b f) p opn j).2.1 + 1)
            have hsr : i = true → (psA cap lab ack cop n b f (skA n b (skA n b (stA cap lab ack cop n b (psA cap lab ack cop n b f) p opn j).2.1 + 1)) opn (j + (stA cap lab ack cop n b (psA cap lab ack cop n b f) p opn j).2.2.2.length)).1 = 0 ∧ (efA i (stA cap lab ack cop n b (psA cap lab ack cop n b f) p opn j).2.2.1 s).2.2 = false := fun z => by
              have hz := (hi z).1
              refine ⟨?_, ?_⟩
              · by_cases g3 : (psA cap lab ack cop n b f (skA n b (skA n b (stA cap lab ack cop n b (psA cap lab ack cop n b f) p opn j).2.1 + 1)) opn (j + (stA cap lab ack cop n b (psA cap lab ack cop n b f) p opn j).2.2.2.length)).1 = 0
                · exact g3
                · rw [if_neg g3] at hz; exact absurd hz g3
              · unfold efA
                rw [if_pos z]
                exact hstp z
            obtain ⟨X2, r1, D2, T2, f2, r2, r3, r4, r5, r6, r7⟩ := ih (by omega) d opn h4 hd i _ D0 D1 (skA n b (skA n b (stA cap lab ack cop n b (psA cap lab ack cop n b f) p opn j).2.1 + 1)) (j + (stA cap lab ack cop n b (psA cap lab ack cop n b f) p opn j).2.2.2.length) G hp2 (by omega) (by omega) x3 hsr
            rw [efa_comp] at r3
            refine ⟨X2, ?_, ?_⟩
            · rw [reach_one e1 G]
              exact r1
            · by_cases g3 : (psA cap lab ack cop n b f (skA n b (skA n b (stA cap lab ack cop n b (psA cap lab ack cop n b f) p opn j).2.1 + 1)) opn (j + (stA cap lab ack cop n b (psA cap lab ack cop n b f) p opn j).2.2.2.length)).1 = 0
              · rw [if_pos g3]
                refine ⟨D2, T2, f2, r2, r3, r4, by show 0 < 4000; decide, fun z => absurd rfl z, fun _ z => r7 g3 (fun y => ?_)⟩
                have := z y
                unfold efA
                rw [if_pos y]
                exact this
              · rw [if_neg g3]
                have hni : ¬ i = true := fun z => g3 (hsr z).1
                refine ⟨D2, T2, f2, r2, sd_false r3 hni, r4, r5, fun _ => r6 g3, fun z => absurd z g3⟩
          · rw [if_neg g2] at hi ⊢
            have hni : ¬ i = true := fun z => absurd (hi z).1 (Nat.succ_ne_zero _)
            have m2 := must_miss h hF (pc := 59) y2 (Or.inl rfl) rfl g2
            have e1 := (hgo' (TSA n b (skA n b (stA cap lab ack cop n b (psA cap lab ack cop n b f) p opn j).2.1)) _ m2).trans (m59_go h66 _ _ _ _ _)
            refine ⟨_, Or.inr ?_, res_bad (sd_false x3 hni) hni (Nat.succ_ne_zero _) (by omega) (TSA n b (skA n b (stA cap lab ack cop n b (psA cap lab ack cop n b f) p opn j).2.1)) _ _⟩
            rw [reach_one e1 G]
            exact gl_stop (pss_bad _ _ D1 _ (Nat.succ_ne_zero _) (by omega) _) hG1
        · have hit : i = true := by
            by_cases z : i = true
            · exact z
            · exact absurd (fun y => absurd y z) hstp
          have hs1 : ((stA cap lab ack cop n b (psA cap lab ack cop n b f) p opn j).2.2.1 s).2.2 = true := by
            cases hh : ((stA cap lab ack cop n b (psA cap lab ack cop n b f) p opn j).2.2.1 s).2.2 with
            | true => rfl
            | false => exact absurd (fun _ => hh) hstp
          have hz := (hi hit).1
          by_cases g2 : chA n b (skA n b (stA cap lab ack cop n b (psA cap lab ack cop n b f) p opn j).2.1) = 59
          · rw [if_pos g2] at hz ⊢
            by_cases g3 : (psA cap lab ack cop n b f (skA n b (skA n b (stA cap lab ack cop n b (psA cap lab ack cop n b f) p opn j).2.1 + 1)) opn (j + (stA cap lab ack cop n b (psA cap lab ack cop n b f) p opn j).2.2.2.length)).1 = 0
            · rw [if_pos g3]
              have hD1 : DR cap ((stA cap lab ack cop n b (psA cap lab ack cop n b f) p opn j).2.2.1 s) D1 := by
                have := x3.1 hit
                unfold efA at this
                rw [if_pos hit] at this
                exact this
              have h66 : D1.2.2.2.2.2.2.2.2.2.1 = 1 := by
                rw [hD1.2.2.2, if_pos hs1]
              obtain ⟨T2, f2, m1, m2⟩ := must_tok h hF (pc := 59) (c := 59) (Or.inl rfl) rfl x4
              have e1 := hgo' T2 f2 m1
              have hb1 : bI i = 1 := by rw [hit]; rfl
              rw [hb1] at e1 ⊢
              rw [m59_stop h66] at e1
              have hid := ((ef_ps (cap := cap) (lab := lab) (ack := ack) (cop := cop) (n := n) (b := b) f (skA n b (skA n b (stA cap lab ack cop n b (psA cap lab ack cop n b f) p opn j).2.1 + 1)) opn (j + (stA cap lab ack cop n b (psA cap lab ack cop n b f) p opn j).2.2.2.length)) ((stA cap lab ack cop n b (psA cap lab ack cop n b f) p opn j).2.2.1 s) hD1.2.2.1).1 hs1
              refine ⟨_, Or.inl (gl_stop e1 (by omega)), D1, T2, f2, by rw [hb1], ⟨fun _ => ?_, fun z => absurd hit (by rw [z]; decide)⟩, m2, by show 0 < 4000; decide, fun z => absurd rfl z, fun _ z => ?_⟩
              · unfold efA
                rw [if_pos hit]
                show DR cap ((psA cap lab ack cop n b f (skA n b (skA n b (stA cap lab ack cop n b (psA cap lab ack cop n b f) p opn j).2.1 + 1)) opn (j + (stA cap lab ack cop n b (psA cap lab ack cop n b f) p opn j).2.2.2.length)).2.2.1 ((stA cap lab ack cop n b (psA cap lab ack cop n b f) p opn j).2.2.1 s)) D1
                rw [hid]
                exact hD1
              · have hzz : ((psA cap lab ack cop n b f (skA n b (skA n b (stA cap lab ack cop n b (psA cap lab ack cop n b f) p opn j).2.1 + 1)) opn (j + (stA cap lab ack cop n b (psA cap lab ack cop n b f) p opn j).2.2.2.length)).2.2.1 ((stA cap lab ack cop n b (psA cap lab ack cop n b f) p opn j).2.2.1 s)).2.2 = false := z hit
                rw [hid, hs1] at hzz
                exact absurd hzz (by decide)
            · rw [if_neg g3] at hz
              exact absurd hz g3
          · rw [if_neg g2] at hz
            exact absurd hz (Nat.succ_ne_zero _)
      · rw [if_neg g1] at hi ⊢
        have hni : ¬ i = true := fun z => g1 (hi z).1
        have hf1 := x6 g1
        subst hf1
        have h66 : D1.2.2.2.2.2.2.2.2.2.1 = 0 := sd_66 x3 (fun z => absurd z hni)
        have e1 := (hgo' T1 _ (must_bad F _ A x5 g1 _ _ _ _ _ _)).trans (m59_go h66 _ _ _ _ _)
        refine ⟨_, Or.inr ?_, res_bad (sd_false x3 hni) hni g1 x5 T1 _ _⟩
        rw [reach_one e1 G]
        exact gl_stop (pss_bad _ _ D1 _ g1 x5 _) hG1
end MPS
