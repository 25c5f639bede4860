/-! part 64: the acts that are possible, as a list -/
theorem gl_ix {σ ρ : Type} {st : σ → Option (ρ ⊕ σ)} (I : Nat → σ → Prop) (Q : ρ → Prop) (n : Nat) (step : ∀ i s, i < n → I i s → ∃ s', st s = some (.inr s') ∧ I (i + 1) s') (last : ∀ s, I n s → ∃ r, st s = some (.inl r) ∧ Q r) : ∀ (F i : Nat) (s : σ), i ≤ n → I i s → n - i < F → ∃ r, gloop st F s = some r ∧ Q r := by
  intro F
  induction F with
  | zero => intro i s _ _ h; omega
  | succ F ih =>
    intro i s hi hI hF
    by_cases hn : i < n
    · obtain ⟨s', e, hI'⟩ := step i s hn hI
      obtain ⟨r, hr, hQ⟩ := ih (i + 1) s' (by omega) hI' (by omega)
      exact ⟨r, by simp only [gloop, e]; exact hr, hQ⟩
    · obtain rfl : i = n := by omega
      obtain ⟨r, e, hQ⟩ := last s hI
      exact ⟨r, by simp only [gloop, e], hQ⟩
abbrev Act := Nat × Nat × Nat
def pksTo (c : Int64) (w : Nat) : Nat → List Act
  | 0 => []
  | k + 1 => pksTo c w k ++ (if 1 ≤ dg c (pkPos k) 2 then [(w, k, 0)] else [])
def goes (ack : Nat) (c : Int64) (l : Nat) : Bool := decide (dg c 47 2 = l) && decide (ack ≤ dg c 43 3 + 1)
def ltsTo (ack : Nat) (c : Int64) (w : Nat) (d : Bool) : Nat → List Act
  | 0 => []
  | l + 1 => ltsTo ack c w d l ++ (if 1 ≤ dg c (ltPos l) 2 then (w, 2 * l, 0) :: (if d && goes ack c l then [(w, 2 * l, 1)] else []) else [])
def acts3 (lab ack : Nat) (c : Int64) (d : Bool) : List Act := ((0, 0, 0) :: pksTo c 1 (2 * lab)) ++ ltsTo ack c 2 d lab
def acts5 (lab ack : Nat) (c : Int64) (d : Bool) : List Act := (acts3 lab ack c d ++ pksTo c 3 (2 * lab)) ++ ltsTo ack c 4 false lab
theorem sumTo_mono (g : Nat → Nat) {a b : Nat} (h : a ≤ b) : sumTo g a ≤ sumTo g b := by
  induction b with
  | zero => obtain rfl : a = 0 := by omega
            exact Nat.le_refl _
  | succ b ih =>
    by_cases hb : a = b + 1
    · subst hb; exact Nat.le_refl _
    · have := ih (by omega); simp only [sumTo]; omega
theorem pks_len (c : Int64) (w : Nat) : ∀ n, (pksTo c w n).length ≤ sumTo (fun k => dg c (8 + 2 * (7 - k)) 2) n := by
  intro n
  induction n with
  | zero => exact Nat.le_refl _
  | succ n ih =>
    simp only [pksTo, sumTo, List.length_append]
    by_cases h : 1 ≤ dg c (pkPos n) 2
    · rw [if_pos h]
      have : 1 ≤ dg c (8 + 2 * (7 - n)) 2 := h
      simp only [List.length_cons, List.length_nil]; omega
    · rw [if_neg h]; simp only [List.length_nil]; omega
theorem lts_len (ack : Nat) (c : Int64) (w : Nat) (d : Bool) : ∀ n, (ltsTo ack c w d n).length ≤ sumTo (fun k => dg c (2 * (3 - k)) 2) n + (if d = true ∧ dg c 47 2 < n then 1 else 0) := by
  intro n
  induction n with
  | zero => exact Nat.zero_le _
  | succ n ih =>
    simp only [ltsTo, sumTo, List.length_append]
    have hm : (if d = true ∧ dg c 47 2 < n then 1 else 0) ≤ (if d = true ∧ dg c 47 2 < n + 1 then 1 else 0) := by
      by_cases h : d = true ∧ dg c 47 2 < n
      · rw [if_pos h, if_pos ⟨h.1, by omega⟩]; exact Nat.le_refl _
      · rw [if_neg h]; exact Nat.zero_le _
    by_cases h : 1 ≤ dg c (ltPos n) 2
    · rw [if_pos h]
      have h' : 1 ≤ dg c (2 * (3 - n)) 2 := h
      cases hg : (d && goes ack c n)
      · simp only [List.length_cons, List.length_nil, Bool.false_eq_true, if_false]; omega
      · rw [Bool.and_eq_true] at hg
        have h47 : dg c 47 2 = n := by
          have := hg.2
          unfold goes at this
          rw [Bool.and_eq_true, decide_eq_true_eq] at this
          exact this.1
        rw [if_neg (show ¬ (d = true ∧ dg c 47 2 < n) by omega)] at ih
        rw [if_pos (show d = true ∧ dg c 47 2 < n + 1 from ⟨hg.1, by omega⟩)]
        simp only [List.length_cons, List.length_nil, if_true]; omega
    · rw [if_neg h]; simp only [List.length_nil]; omega
theorem acts_len {cap lab ack : Nat} {c : Int64} {d : Bool} (hcap : cap ≤ 2) (hlab : lab ≤ 4) (hL : Lg cap c) : (acts5 lab ack c d).length ≤ 10 := by
  unfold acts5 acts3
  simp only [List.length_append, List.length_cons]
  have h1 := pks_len c 1 (2 * lab)
  have h2 := pks_len c 3 (2 * lab)
  have h3 := lts_len ack c 2 d lab
  have h4 := lts_len ack c 4 false lab
  have h5 : sumTo (fun k => dg c (8 + 2 * (7 - k)) 2) (2 * lab) ≤ pkSum c := sumTo_mono _ (by omega)
  have h6 : sumTo (fun k => dg c (2 * (3 - k)) 2) lab ≤ ltSum c := sumTo_mono _ hlab
  have h7 : (if d = true ∧ dg c 47 2 < lab then 1 else 0) ≤ 1 := by split <;> decide
  rw [if_neg (show ¬ (false = true ∧ dg c 47 2 < lab) from fun z => absurd z.1 (by decide))] at h4
  obtain ⟨g1, g2⟩ := hL
  omega
def Hold {T : Type} (R : Nat → T → Prop) (L : List T) : Prop := ∀ i x, L[i]? = some x → R i x
theorem hold_snoc {T : Type} {R R' : Nat → T → Prop} {L : List T} {y : T} (h : Hold R L) (h1 : ∀ i x, i < L.length → R i x → R' i x) (h2 : R' L.length y) : Hold R' (L ++ [y]) := by
  intro i x hx
  rw [List.getElem?_append] at hx
  by_cases hi : i < L.length
  · rw [if_pos hi] at hx
    exact h1 i x hi (h i x hx)
  · rw [if_neg hi] at hx
    by_cases he : i = L.length
    · subst he
      rw [Nat.sub_self] at hx
      obtain rfl : y = x := Option.some.inj hx
      exact h2
    · obtain ⟨j, hj⟩ : ∃ j, i - L.length = j + 1 := ⟨i - L.length - 1, by omega⟩
      rw [hj] at hx
      exact absurd hx (by simp)
/-- the class's list -/
def Hc (A : Nat → Int32) (L : List Act) : Prop := Hold (fun i x => A i = codeN x.1 x.2.1 x.2.2) L
theorem add_eq {A : Nat → Int32} {L : List Act} (h : Hc A L) (hl : L.length < 10) (w k t : Nat) : ∃ B, fX0_add (Int32.ofNat L.length) A (codeN w k t) = (Int32.ofNat (L ++ [(w, k, t)]).length, B) ∧ Hc B (L ++ [(w, k, t)]) := by
  unfold fX0_add
  rw [if_neg (fun z => by have := (i32_le (a := 10) (by decide) (by omega)).mp z; omega), i32_succ]
  refine ⟨_, by rw [List.length_append]; rfl, ?_⟩
  unfold cPut
  rw [if_pos (inb_t (by omega) hl), tnc (by omega)]
  exact hold_snoc h (fun i x hi e => by rw [upd_ne (by omega)]; exact e) (upd_at _ _ _)
theorem pks_le (c : Int64) (w : Nat) {a b : Nat} (h : a ≤ b) : (pksTo c w a).length ≤ (pksTo c w b).length := by
  induction b with
  | zero => obtain rfl : a = 0 := by omega
            exact Nat.le_refl _
  | succ b ih =>
    by_cases hb : a = b + 1
    · subst hb; exact Nat.le_refl _
    · have := ih (by omega); simp only [pksTo, List.length_append]; omega
theorem lts_le (ack : Nat) (c : Int64) (w : Nat) (d : Bool) {a b : Nat} (h : a ≤ b) : (ltsTo ack c w d a).length ≤ (ltsTo ack c w d b).length := by
  induction b with
  | zero => obtain rfl : a = 0 := by omega
            exact Nat.le_refl _
  | succ b ih =>
    by_cases hb : a = b + 1
    · subst hb; exact Nat.le_refl _
    · have := ih (by omega); simp only [ltsTo, List.length_append]; omega
theorem code_pk : ∀ (w : Fin 4) (k : Fin 8), (w.val = 1 ∨ w.val = 3) → (Int32.ofNat w.val) ||| ((Int32.ofNat k.val) <<< (3 &&& 31)) = codeN w.val k.val 0 := by decide +kernel
theorem code_lt : ∀ (w : Fin 5) (l : Fin 4), (w.val = 2 ∨ w.val = 4) → (Int32.ofNat w.val) ||| ((Int32.ofNat l.val) <<< (4 &&& 31)) = codeN w.val (2 * l.val) 0 := by decide +kernel
theorem digit_le0 (c : Int64) {n : Nat} (hn : n < 64) : (fX7_digit c (Int32.ofNat n) ≤ 0) ↔ ¬ 1 ≤ dg c n 2 := by
  have := dg2_le c n
  rw [fX7_digit_dg c hn, show (0 : Int32) = Int32.ofNat 0 from rfl, i32_le (by omega) (by decide)]
  omega
theorem addPackets_eq {lab : Nat} {c : Int64} {A : Nat → Int32} {L : List Act} {w : Nat} (hlab : lab ≤ 4) (hw : w = 1 ∨ w = 3) (h : Hc A L) (hl : (L ++ pksTo c w (2 * lab)).length ≤ 10) {F : Nat} (hF : 9 ≤ F) : ∃ B, fX0_addPackets F (Int32.ofNat lab) (Int32.ofNat L.length) A (Int32.ofNat w) c = some (Int32.ofNat (L ++ pksTo c w (2 * lab)).length, B) ∧ Hc B (L ++ pksTo c w (2 * lab)) := by
  unfold fX0_addPackets
  have key := gl_ix (st := fun u1 : (Int32 × Int32 × (Nat → Int32)) => fX0_addPackets_S3 F (Int32.ofNat lab) (Int32.ofNat w) c u1.1 u1.2.1 u1.2.2) (fun i s => s.1 = Int32.ofNat i ∧ s.2.1 = Int32.ofNat (L ++ pksTo c w i).length ∧ Hc s.2.2 (L ++ pksTo c w i)) (fun r => r.1 = Int32.ofNat (L ++ pksTo c w (2 * lab)).length ∧ Hc r.2 (L ++ pksTo c w (2 * lab))) (2 * lab) ?_ ?_ F 0 (0, Int32.ofNat L.length, A) (by omega) ⟨rfl, by simp [pksTo], by simpa [pksTo] using h⟩ (by omega)
  · obtain ⟨r, e, e1, e2⟩ := key
    rw [e]
    exact ⟨r.2, by simp only [Option.bind_some]; rw [e1], e2⟩
  · rintro i ⟨v5, sz, B⟩ hi ⟨h1, h2, h3⟩
    dsimp only at h1 h2 h3 ⊢
    subst h1 h2
    unfold fX0_addPackets_S3
    rw [show (2 : Int32) * Int32.ofNat lab = Int32.ofNat (2 * lab) from i32_mul 2 lab, if_neg (fun z => by have := (i32_le (by omega) (by omega)).mp z; omega), packetsAt_p i (by omega)]
    by_cases hd : 1 ≤ dg c (pkPos i) 2
    · rw [if_neg (fun z => (digit_le0 c (by unfold pkPos; omega)).mp z hd)]
      have hlen : (L ++ pksTo c w i).length < 10 := by
        have h4 := pks_le c w (show i + 1 ≤ 2 * lab by omega)
        simp only [pksTo, if_pos hd, List.length_append, List.length_cons, List.length_nil] at h4 hl ⊢
        omega
      rw [code_pk ⟨w, by omega⟩ ⟨i, by omega⟩ hw]
      obtain ⟨B2, e, hB2⟩ := add_eq h3 hlen w i 0
      have e5 : L ++ pksTo c w i ++ [(w, i, 0)] = L ++ pksTo c w (i + 1) := by simp only [pksTo, if_pos hd, List.append_assoc]
      rw [e5] at e hB2
      rw [e]
      exact ⟨_, rfl, i32_succ i, rfl, hB2⟩
    · rw [if_pos ((digit_le0 c (by unfold pkPos; omega)).mpr hd)]
      have e5 : pksTo c w (i + 1) = pksTo c w i := by simp only [pksTo, if_neg hd, List.append_nil]
      rw [e5]
      exact ⟨_, rfl, i32_succ i, rfl, h3⟩
  · rintro ⟨v5, sz, B⟩ ⟨h1, h2, h3⟩
    dsimp only at h1 h2 h3 ⊢
    subst h1 h2
    unfold fX0_addPackets_S3
    rw [show (2 : Int32) * Int32.ofNat lab = Int32.ofNat (2 * lab) from i32_mul 2 lab, if_pos ((i32_le (by omega) (by omega)).mpr (by omega))]
    exact ⟨_, rfl, rfl, h3⟩
theorem goes_eq {ack l : Nat} (c : Int64) (hl : l < 4) (hack : ack ≤ 7) : (fX7_goesOnBy (Int32.ofNat ack) c (Int32.ofNat l) = 0) ↔ goes ack c l = false := by
  have h47 := dg_lt c 47 2
  have h43 := dg_lt c 43 3
  unfold fX7_goesOnBy goes
  rw [fX7_labelOf_dg, fX7_acksOf_dg, i32_succ]
  by_cases h1 : dg c 47 2 = l
  · rw [if_pos (show Int32.ofNat (dg c 47 2) = Int32.ofNat l by rw [h1])]
    by_cases h2 : ack ≤ dg c 43 3 + 1
    · rw [if_neg (fun z => by have := (i32_lt (by omega) (by omega)).mp z; omega)]
      simp [h1, h2]
    · rw [if_pos ((i32_lt (by omega) (by omega)).mpr (by omega))]
      simp [h2]
  · rw [if_neg (fun z => h1 ((i32_eq (by omega) (by omega)).mp z))]
    simp [h1]
theorem addLetters_eq {lab ack : Nat} {c : Int64} {A : Nat → Int32} {L : List Act} {d : Bool} {pd x82 : Int32} (hlab : lab ≤ 4) (hack : ack ≤ 7) (hpd : pd = 0 ↔ d = false) (h : Hc A L) (hl : (L ++ ltsTo ack c 2 d lab).length ≤ 10) {F : Nat} (hF : 9 ≤ F) : ∃ r, gloop (fun u4 : (Int32 × Int32 × (Nat → Int32)) => fX0_list_S20 F (Int32.ofNat lab) (Int32.ofNat ack) c pd x82 u4.1 u4.2.1 u4.2.2) F (0, Int32.ofNat L.length, A) = some r ∧ r.1 = Int32.ofNat (L ++ ltsTo ack c 2 d lab).length ∧ Hc r.2 (L ++ ltsTo ack c 2 d lab) := by
  refine gl_ix (fun i s => s.1 = Int32.ofNat i ∧ s.2.1 = Int32.ofNat (L ++ ltsTo ack c 2 d i).length ∧ Hc s.2.2 (L ++ ltsTo ack c 2 d i)) (fun r : Int32 × (Nat → Int32) => r.1 = Int32.ofNat (L ++ ltsTo ack c 2 d lab).length ∧ Hc r.2 (L ++ ltsTo ack c 2 d lab)) lab ?_ ?_ F 0 (0, Int32.ofNat L.length, A) (by omega) ⟨rfl, by simp [ltsTo], by simpa [ltsTo] using h⟩ (by omega)
  · rintro i ⟨v5, sz, B⟩ hi ⟨h1, h2, h3⟩
    dsimp only at h1 h2 h3 ⊢
    subst h1 h2
    unfold fX0_list_S20
    rw [if_neg (fun z => by have := (i32_le (by omega) (by omega)).mp z; omega), lettersAt_p i (by omega)]
    by_cases hd : 1 ≤ dg c (ltPos i) 2
    · rw [if_neg (fun z => (digit_le0 c (by unfold ltPos; omega)).mp z hd)]
      have h4 := lts_le ack c 2 d (show i + 1 ≤ lab by omega)
      rw [show (2 : Int32) = Int32.ofNat 2 from rfl, code_lt ⟨2, by decide⟩ ⟨i, by omega⟩ (Or.inl rfl)]
      dsimp only
      cases hg : (d && goes ack c i)
      · have e5 : L ++ ltsTo ack c 2 d i ++ [(2, 2 * i, 0)] = L ++ ltsTo ack c 2 d (i + 1) := by simp only [ltsTo, if_pos hd, hg, List.append_assoc]; rfl
        have hlen : (L ++ ltsTo ack c 2 d i).length < 10 := by
          have : (L ++ ltsTo ack c 2 d i ++ [(2, 2 * i, 0)]).length ≤ 10 := by rw [e5]; simp only [List.length_append] at hl h4 ⊢; omega
          simp only [List.length_append, List.length_cons, List.length_nil] at this ⊢
          omega
        obtain ⟨B2, e, hB2⟩ := add_eq h3 hlen 2 (2 * i) 0
        rw [e5] at e hB2
        rw [e]
        by_cases hp0 : pd = 0
        · rw [if_pos hp0]
          exact ⟨_, rfl, i32_succ i, rfl, hB2⟩
        · have hdt : d = true := by cases d; exact absurd (hpd.mpr rfl) hp0; rfl
          have hgo : goes ack c i = false := by rw [hdt, Bool.true_and] at hg; exact hg
          rw [if_neg hp0, if_pos ((goes_eq c (by omega) hack).mpr hgo)]
          exact ⟨_, rfl, i32_succ i, rfl, hB2⟩
      · rw [Bool.and_eq_true] at hg
        have hp0 : ¬ pd = 0 := fun z => by have := hpd.mp z; rw [hg.1] at this; exact absurd this (by decide)
        have e5 : L ++ ltsTo ack c 2 d i ++ [(2, 2 * i, 0)] ++ [(2, 2 * i, 1)] = L ++ ltsTo ack c 2 d (i + 1) := by simp only [ltsTo, if_pos hd, hg.1, hg.2, List.append_assoc]; rfl
        have hlen2 : (L ++ ltsTo ack c 2 d i ++ [(2, 2 * i, 0)]).length < 10 := by
          have : (L ++ ltsTo ack c 2 d i ++ [(2, 2 * i, 0)] ++ [(2, 2 * i, 1)]).length ≤ 10 := by rw [e5]; simp only [List.length_append] at hl h4 ⊢; omega
          simp only [List.length_append, List.length_cons, List.length_nil] at this ⊢
          omega
        have hlen : (L ++ ltsTo ack c 2 d i).length < 10 := by
          simp only [List.length_append, List.length_cons, List.length_nil] at hlen2 ⊢
          omega
        obtain ⟨B2, e, hB2⟩ := add_eq h3 hlen 2 (2 * i) 0
        obtain ⟨B3, e3, hB3⟩ := add_eq hB2 hlen2 2 (2 * i) 1
        rw [e5] at e3 hB3
        rw [e, if_neg hp0, if_neg (fun z => by have := (goes_eq c (by omega) hack).mp z; rw [hg.2] at this; exact absurd this (by decide))]
        dsimp only
        rw [show fX0_withTold (codeN 2 (2 * i) 0) 1 = codeN 2 (2 * i) 1 from withTold_code ⟨2, by decide⟩ ⟨2 * i, by omega⟩ ⟨1, by decide⟩, e3]
        exact ⟨_, rfl, i32_succ i, rfl, hB3⟩
    · rw [if_pos ((digit_le0 c (by unfold ltPos; omega)).mpr hd)]
      have e5 : ltsTo ack c 2 d (i + 1) = ltsTo ack c 2 d i := by simp only [ltsTo, if_neg hd, List.append_nil]
      rw [e5]
      exact ⟨_, rfl, i32_succ i, rfl, h3⟩
  · rintro ⟨v5, sz, B⟩ ⟨h1, h2, h3⟩
    dsimp only at h1 h2 h3 ⊢
    subst h1 h2
    unfold fX0_list_S20
    rw [if_pos ((i32_le (by omega) (by omega)).mpr (by omega))]
    exact ⟨_, rfl, rfl, h3⟩
theorem loseLetters_eq {lab ack : Nat} {c : Int64} {A : Nat → Int32} {L : List Act} {x2 x82 : Int32} (hlab : lab ≤ 4) (h : Hc A L) (hl : (L ++ ltsTo ack c 4 false lab).length ≤ 10) {F : Nat} (hF : 9 ≤ F) : ∃ r, gloop (fun u18 : (Int32 × Int32 × (Nat → Int32)) => fX0_list_S104 F (Int32.ofNat lab) x2 c x82 u18.1 u18.2.1 u18.2.2) F (0, Int32.ofNat L.length, A) = some r ∧ r.1 = Int32.ofNat (L ++ ltsTo ack c 4 false lab).length ∧ Hc r.2 (L ++ ltsTo ack c 4 false lab) := by
  refine gl_ix (fun i s => s.1 = Int32.ofNat i ∧ s.2.1 = Int32.ofNat (L ++ ltsTo ack c 4 false i).length ∧ Hc s.2.2 (L ++ ltsTo ack c 4 false i)) (fun r : Int32 × (Nat → Int32) => r.1 = Int32.ofNat (L ++ ltsTo ack c 4 false lab).length ∧ Hc r.2 (L ++ ltsTo ack c 4 false lab)) lab ?_ ?_ F 0 (0, Int32.ofNat L.length, A) (by omega) ⟨rfl, by simp [ltsTo], by simpa [ltsTo] using h⟩ (by omega)
  · rintro i ⟨v5, sz, B⟩ hi ⟨h1, h2, h3⟩
    dsimp only at h1 h2 h3 ⊢
    subst h1 h2
    unfold fX0_list_S104
    rw [if_neg (fun z => by have := (i32_le (by omega) (by omega)).mp z; omega), lettersAt_p i (by omega)]
    by_cases hd : 1 ≤ dg c (ltPos i) 2
    · rw [if_neg (fun z => (digit_le0 c (by unfold ltPos; omega)).mp z hd)]
      have h4 := lts_le ack c 4 false (show i + 1 ≤ lab by omega)
      rw [show (4 : Int32) ||| (Int32.ofNat i <<< (4 &&& 31)) = codeN 4 (2 * i) 0 from code_lt ⟨4, by decide⟩ ⟨i, by omega⟩ (Or.inr rfl)]
      have e5 : L ++ ltsTo ack c 4 false i ++ [(4, 2 * i, 0)] = L ++ ltsTo ack c 4 false (i + 1) := by simp only [ltsTo, if_pos hd, Bool.false_and, List.append_assoc]; rfl
      have hlen : (L ++ ltsTo ack c 4 false i).length < 10 := by
        have : (L ++ ltsTo ack c 4 false i ++ [(4, 2 * i, 0)]).length ≤ 10 := by rw [e5]; simp only [List.length_append] at hl h4 ⊢; omega
        simp only [List.length_append, List.length_cons, List.length_nil] at this ⊢
        omega
      obtain ⟨B2, e, hB2⟩ := add_eq h3 hlen 4 (2 * i) 0
      rw [e5] at e hB2
      rw [e]
      exact ⟨_, rfl, i32_succ i, rfl, hB2⟩
    · rw [if_pos ((digit_le0 c (by unfold ltPos; omega)).mpr hd)]
      have e5 : ltsTo ack c 4 false (i + 1) = ltsTo ack c 4 false i := by simp only [ltsTo, if_neg hd, List.append_nil]
      rw [e5]
      exact ⟨_, rfl, i32_succ i, rfl, h3⟩
  · rintro ⟨v5, sz, B⟩ ⟨h1, h2, h3⟩
    dsimp only at h1 h2 h3 ⊢
    subst h1 h2
    unfold fX0_list_S104
    rw [if_pos ((i32_le (by omega) (by omega)).mpr (by omega))]
    exact ⟨_, rfl, rfl, h3⟩
theorem list_eq {cap lab ack : Nat} {c : Int64} {d : Bool} {pd : Int32} (hcap : cap ≤ 2) (hlab : lab ≤ 4) (hack : ack ≤ 7) (hL : Lg cap c) (hpd : pd = 0 ↔ d = false) {F : Nat} (hF : 9 ≤ F) (x81 x82 : Int32) (A : Nat → Int32) : ∃ B, fX0_list F (Int32.ofNat lab) (Int32.ofNat ack) x81 x82 A c pd = some (Int32.ofNat (acts5 lab ack c d).length, Int32.ofNat (acts3 lab ack c d).length, B) ∧ Hc B (acts5 lab ack c d) := by
  have hlen := acts_len (ack := ack) (d := d) hcap hlab hL
  have h5 : (acts5 lab ack c d).length = (acts3 lab ack c d ++ pksTo c 3 (2 * lab)).length + (ltsTo ack c 4 false lab).length := by unfold acts5; rw [List.length_append]
  have h4 : (acts3 lab ack c d ++ pksTo c 3 (2 * lab)).length = (acts3 lab ack c d).length + (pksTo c 3 (2 * lab)).length := List.length_append
  have h3 : (acts3 lab ack c d).length = ((0, 0, 0) :: pksTo c 1 (2 * lab)).length + (ltsTo ack c 2 d lab).length := by unfold acts3; rw [List.length_append]
  unfold fX0_list
  obtain ⟨B0, e0, hB0⟩ := add_eq (A := A) (L := []) (fun i x hx => by simp at hx) (by decide) 0 0 0
  rw [show fX0_add 0 A 0 = _ from e0]
  obtain ⟨B1, e1, hB1⟩ := addPackets_eq (c := c) (w := 1) hlab (Or.inl rfl) hB0 (by show ((0, 0, 0) :: pksTo c 1 (2 * lab)).length ≤ 10; omega) hF
  dsimp only
  rw [show Int32.ofNat 1 = 1 from rfl] at e1
  rw [e1]
  simp only [Option.bind_some]
  obtain ⟨r2, e2, e2a, hB2⟩ := addLetters_eq (c := c) (d := d) (pd := pd) (x82 := x82) hlab hack hpd hB1 (by show (acts3 lab ack c d).length ≤ 10; omega) hF
  rw [e2]
  simp only [Option.bind_some]
  rw [e2a]
  obtain ⟨B3, e3, hB3⟩ := addPackets_eq (c := c) (w := 3) hlab (Or.inr rfl) hB2 (by show (acts3 lab ack c d ++ pksTo c 3 (2 * lab)).length ≤ 10; omega) hF
  rw [show Int32.ofNat 3 = 3 from rfl] at e3
  rw [e3]
  simp only [Option.bind_some]
  obtain ⟨r4, e4, e4a, hB4⟩ := loseLetters_eq (c := c) (ack := ack) (x2 := Int32.ofNat ack) (x82 := Int32.ofNat ([] ++ [((0, 0, 0) : Act)] ++ pksTo c 1 (2 * lab) ++ ltsTo ack c 2 d lab).length) hlab hB3 (by show (acts5 lab ack c d).length ≤ 10; omega) hF
  rw [e4]
  simp only [Option.bind_some]
  exact ⟨r4.2, by rw [e4a]; rfl, hB4⟩
