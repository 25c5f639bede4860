/-! part 75: the chart as a graph; reached -/
/-- what is known of a chart whose first k states have their edges -/
def Gk (cap lab ack cop k : Nat) (K : List Int64) (E : List Edge) (Fs : List Nat) : Prop :=
  Inj K ∧ K.length ≤ 6000 ∧ Gd cap K ∧ k ≤ K.length ∧ Fs.length = k + 1 ∧ Fs[0]? = some 0 ∧ Fs[k]? = some E.length ∧
  (∀ (s : Nat) (c : Int64), s < k → K[s]? = some c → ∃ f, Fs[s]? = some f ∧ Fs[s + 1]? = some (f + (acts5 lab ack c true).length) ∧ f + (acts5 lab ack c true).length ≤ E.length ∧ ∀ (j : Nat) (a : Act), (acts5 lab ack c true)[j]? = some a → ∃ t, E[f + j]? = some (t, a, (stp cap lab ack cop c a.1 a.2.1 a.2.2).2.1) ∧ K[t]? = some (stp cap lab ack cop c a.1 a.2.1 a.2.2).1) ∧
  (∀ (i : Nat) (e : Edge), E[i]? = some e → e.1 < K.length ∧ e.2.2 < 6 ∧ e.2.1.1 < 5 ∧ e.2.1.2.1 < 8 ∧ e.2.1.2.2 < 2) ∧ E.length ≤ 10 * k
theorem expActs_edges {cap lab ack cop : Nat} (hcap : cap ≤ 2) (hlab : lab ≤ 4) (hack : ack ≤ 7) (hcop : cop ≤ 4) {c : Int64} (hc : Good cap c) : ∀ (as : List Act) (K : List Int64) (E : List Edge) (K' : List Int64) (E' : List Edge), Ok lab c as → Inj K → K.length ≤ 6000 → Gd cap K → expActs cap lab ack cop c as K E = some (K', E') → (∀ (i : Nat) (e : Edge), E[i]? = some e → e.1 < K.length ∧ e.2.2 < 6 ∧ e.2.1.1 < 5 ∧ e.2.1.2.1 < 8 ∧ e.2.1.2.2 < 2) → ∀ (i : Nat) (e : Edge), E'[i]? = some e → e.1 < K'.length ∧ e.2.2 < 6 ∧ e.2.1.1 < 5 ∧ e.2.1.2.1 < 8 ∧ e.2.1.2.2 < 2 := by
  intro as
  induction as with
  | nil =>
    intro K E K' E' _ _ _ _ h hE
    obtain ⟨rfl, rfl⟩ := Prod.mk.inj (Option.some.inj h)
    exact hE
  | cons a as ih =>
    intro K E K' E' hOk hI hl hG h hE
    simp only [expActs] at h
    cases hn : numb K (stp cap lab ack cop c a.1 a.2.1 a.2.2).1 with
    | none => rw [hn] at h; exact absurd h (by simp)
    | some r =>
      rw [hn] at h
      obtain ⟨t, K1⟩ := r
      have ha := hOk a List.mem_cons_self
      obtain ⟨g1, g2, g3, g4, g5⟩ := numb_facts hI hl hG (stp_good (ack := ack) (cop := cop) hcap hlab hack hcop hc ha.1 ha.2) hn
      obtain ⟨w5, k8⟩ := there_lt hlab ha.1
      refine ih K1 _ K' E' (fun x hx => hOk x (List.mem_cons_of_mem _ hx)) g1 g2 g3 h (fun i e he => ?_)
      rw [List.getElem?_append] at he
      by_cases hi : i < E.length
      · rw [if_pos hi] at he
        have := hE i e he
        have := g4.1
        exact ⟨by omega, by omega, by omega, by omega, by omega⟩
      · rw [if_neg hi] at he
        by_cases h0 : i - E.length = 0
        · rw [h0] at he
          obtain rfl := (Option.some.inj he).symm
          exact ⟨(List.getElem?_eq_some_iff.mp g5).1, (stp_facts ha.1).1, w5, k8, ha.2⟩
        · obtain ⟨j, hj⟩ : ∃ j, i - E.length = j + 1 := ⟨i - E.length - 1, by omega⟩
          rw [hj] at he; exact absurd he (by simp)
theorem expAll_gk {cap lab ack cop : Nat} (hcap : cap ≤ 2) (hlab : lab ≤ 4) (hack : ack ≤ 7) (hcop : cop ≤ 4) : ∀ (n k : Nat) (K : List Int64) (E : List Edge) (Fs : List Nat) (K' : List Int64) (E' : List Edge) (Fs' : List Nat), k + n = 6001 → Gk cap lab ack cop k K E Fs → expAll cap lab ack cop n k K E Fs = some (K', E', Fs') → Gk cap lab ack cop K'.length K' E' Fs' ∧ Grow K K' := by
  intro n
  induction n with
  | zero =>
    intro k K E Fs K' E' Fs' hkn h _
    have := h.2.1
    have := h.2.2.2.1
    omega
  | succ n ih =>
    intro k K E Fs K' E' Fs' hkn h he
    obtain ⟨h1, h2, h3, h4, h5, h6, h7, h8, h9, h10⟩ := id h
    simp only [expAll] at he
    cases hk : K[k]? with
    | none =>
      rw [hk] at he
      obtain ⟨rfl, he2⟩ := Prod.mk.inj (Option.some.inj he)
      obtain ⟨rfl, rfl⟩ := Prod.mk.inj he2
      have hge : K.length ≤ k := List.getElem?_eq_none_iff.mp hk
      obtain rfl : k = K.length := by omega
      exact ⟨h, Grow.refl K⟩
    | some c =>
      rw [hk] at he
      have hc := h3 k c hk
      dsimp only at he
      cases hx : expActs cap lab ack cop c (acts5 lab ack c true) K E with
      | none => rw [hx] at he; exact absurd he (by simp)
      | some r =>
        obtain ⟨K1, E1⟩ := r
        rw [hx] at he
        dsimp only at he
        obtain ⟨q1, q2, q3, q4, q5, q6, q7⟩ := expActs_facts hcap hlab hack hcop hc _ _ _ _ _ (acts5_ok lab ack c true) h1 h2 h3 hx
        have qe := expActs_edges hcap hlab hack hcop hc _ _ _ _ _ (acts5_ok lab ack c true) h1 h2 h3 hx h9
        have hlen := acts_len (ack := ack) (d := true) hcap hlab hc.1
        have hkl : k < K.length := (List.getElem?_eq_some_iff.mp hk).1
        have hkG := q4.2 k c hk
        have hgk : Gk cap lab ack cop (k + 1) K1 E1 (Fs ++ [E1.length]) := by
          refine ⟨q1, q2, q3, by have := q4.1; omega, by rw [List.length_append, List.length_singleton, h5], snoc_pre _ _ h6, ?_, fun s x hs hx' => ?_, qe, by omega⟩
          · rw [← h5]; exact snoc_edge Fs _
          · by_cases hsk : s < k
            · have hxK : K[s]? = some x := by
                have hsl : s < K.length := by omega
                have e1 := q4.2 s _ (List.getElem?_eq_getElem hsl)
                rw [e1] at hx'
                rw [List.getElem?_eq_getElem hsl]; exact hx'
              obtain ⟨f, f1, f2, f3, f4⟩ := h8 s x hsk hxK
              refine ⟨f, snoc_pre _ _ f1, snoc_pre _ _ f2, by omega, fun j a ha => ?_⟩
              obtain ⟨t, t1, t2⟩ := f4 j a ha
              exact ⟨t, q6 _ _ t1, q4.2 _ _ t2⟩
            · obtain rfl : s = k := by omega
              rw [hkG] at hx'
              obtain rfl := Option.some.inj hx'
              refine ⟨E.length, snoc_pre _ _ h7, ?_, by omega, q7⟩
              rw [← h5, ← q5]; exact snoc_edge Fs _
        obtain ⟨r1, r2⟩ := ih (k + 1) K1 E1 (Fs ++ [E1.length]) K' E' Fs' (by omega) hgk he
        exact ⟨r1, q4.trans r2⟩
theorem gk_start {cap lab ack cop : Nat} {c : Int64} (hc : Good cap c) : Gk cap lab ack cop 0 [c] [] [0] := by
  refine ⟨?_, (by show 1 ≤ 6000; decide), ?_, Nat.zero_le _, rfl, rfl, rfl, fun s x hs => by omega, fun i e he => by simp at he, by decide⟩
  · intro i j x hi hj
    cases i with
    | zero => cases j with
      | zero => rfl
      | succ j => simp at hj
    | succ i => simp at hi
  · intro i x hx
    cases i with
    | zero => obtain rfl : c = x := Option.some.inj hx; exact hc
    | succ i => simp at hx
/-! the graph by functions -/
def fsOf (Fs : List Nat) (s : Nat) : Nat := Fs.getD s 0
def tgOf (E : List Edge) (e : Nat) : Nat := (E.getD e (0, (0, 0, 0), 0)).1
def otOf (E : List Edge) (e : Nat) : Nat := (E.getD e (0, (0, 0, 0), 0)).2.2
def badO (o : Nat) : Bool := decide (o = 2) || decide (o = 3) || decide (o = 5)
def goodO (o : Nat) : Bool := decide (o = 1)
/-- n states, the edges of s are those from fs s on, tg e their targets -/
def Gr (n : Nat) (fs tg : Nat → Nat) : Prop := 1 ≤ n ∧ n ≤ 6000 ∧ fs 0 = 0 ∧ (∀ s, s < n → fs s < fs (s + 1)) ∧ fs n ≤ 60000 ∧ ∀ e, e < fs n → tg e < n
theorem getD_of {T : Type} {L : List T} {i : Nat} {x d : T} (h : L[i]? = some x) : L.getD i d = x := by
  rw [List.getD_eq_getElem?_getD, h]; rfl
theorem gk_gr {cap lab ack cop : Nat} {K : List Int64} {E : List Edge} {Fs : List Nat} (h : Gk cap lab ack cop K.length K E Fs) (hK : 1 ≤ K.length) : Gr K.length (fsOf Fs) (tgOf E) ∧ fsOf Fs K.length = E.length := by
  obtain ⟨h1, h2, h3, h4, h5, h6, h7, h8, h9, h10⟩ := h
  have hl : fsOf Fs K.length = E.length := getD_of h7
  refine ⟨⟨hK, h2, getD_of h6, fun s hs => ?_, by rw [hl]; omega, fun e he => ?_⟩, hl⟩
  · obtain ⟨f, f1, f2, _⟩ := h8 s _ hs (List.getElem?_eq_getElem hs)
    have hp := acts5_pos lab ack K[s] true
    rw [show fsOf Fs s = f from getD_of f1, show fsOf Fs (s + 1) = _ from getD_of f2]
    omega
  · rw [hl] at he
    have := h9 e _ (List.getElem?_eq_getElem he)
    rw [show tgOf E e = (E[e]).1 by unfold tgOf; rw [getD_of (List.getElem?_eq_getElem he)]]
    exact this.1
theorem gr_mono {n : Nat} {fs tg : Nat → Nat} (h : Gr n fs tg) {a b : Nat} (hab : a ≤ b) (hb : b ≤ n) : fs a ≤ fs b := by
  induction b with
  | zero => obtain rfl : a = 0 := by omega
            exact Nat.le_refl _
  | succ b ih =>
    by_cases he : a = b + 1
    · subst he; exact Nat.le_refl _
    · have := ih (by omega) (by omega)
      have := h.2.2.2.1 b (by omega)
      omega
/-- the class's arrays hold the graph -/
def CGr (n : Nat) (fs tg : Nat → Nat) (ot : Nat → Nat) (A30 A35 : Nat → Int32) : Prop := (∀ s, s ≤ n → cAt 6001 A30 (Int32.ofNat s) = Int32.ofNat (fs s)) ∧ ∀ e, e < fs n → fX1_targetOf A35 (Int32.ofNat e) = Int32.ofNat (tg e) ∧ fX1_hasMark A35 (Int32.ofNat e) 1 = (if badO (ot e) = true then 1 else 0) ∧ fX1_hasMark A35 (Int32.ofNat e) 2 = (if goodO (ot e) = true then 1 else 0)
/-- the reference's arrays hold the graph -/
def MGr (n : Nat) (fs tg : Nat → Nat) (ot : Nat → Nat) (A81 A82 A83 : Nat → Int32) : Prop := (∀ s, s ≤ n → A81 s = Int32.ofNat (fs s)) ∧ ∀ e, e < fs n → A82 e = Int32.ofNat (tg e) ∧ A83 e = Int32.ofNat (ot e)
theorem and_mark {t o : Nat} (ht : t < 6000) (ho : o < 6) : (((Int32.ofNat (4 * t + mkOf o)) &&& 1) = 0 ↔ badO o = false) ∧ (((Int32.ofNat (4 * t + mkOf o)) &&& 2) = 0 ↔ goodO o = false) ∧ (Int32.ofNat (4 * t + mkOf o)) >>> (2 &&& 31) = Int32.ofNat t := by
  have hm : mkOf o < 4 := by unfold mkOf; split <;> (try decide); split <;> (try decide); split <;> (try decide); split <;> decide
  have hb : ∀ i, i < 32 → bi (Int32.ofNat (4 * t + mkOf o)) i = (4 * t + mkOf o).testBit i := by
    intro i hi
    show (Int32.ofNat (4 * t + mkOf o)).toBitVec.toNat.testBit i = _
    rw [i32_nat, Nat.mod_eq_of_lt (by omega)]
  have ht2 : ∀ i, (4 * t + mkOf o).testBit i = if i < 2 then (mkOf o).testBit i else t.testBit (i - 2) := by
    intro i
    rw [show 4 * t + mkOf o = 2 ^ 2 * t + mkOf o by omega, Nat.testBit_two_pow_mul_add _ hm]
  have key : ∀ (M : Int32) (j : Nat), j < 2 → (∀ i : Nat, i < 32 → bi M i = decide (i = j)) → ((Int32.ofNat (4 * t + mkOf o) &&& M) = 0 ↔ (mkOf o).testBit j = false) := by
    intro M j hj hM
    constructor
    · intro h
      have h0 : bi (Int32.ofNat (4 * t + mkOf o) &&& M) j = false := by
        rw [h]
        have k0 : ∀ i : Fin 32, bi (0 : Int32) i.val = false := by decide +kernel
        exact k0 ⟨j, by omega⟩
      rw [bi_and, hb j (by omega), hM j (by omega), ht2, if_pos hj] at h0
      simpa using h0
    · intro h
      apply bi_ext
      intro i hi
      have k0 : ∀ i : Fin 32, bi (0 : Int32) i.val = false := by decide +kernel
      rw [bi_and, hb i hi, hM i hi, show bi (0 : Int32) i = false from k0 ⟨i, hi⟩, ht2]
      by_cases hij : i = j
      · subst hij
        rw [if_pos hj, h]; rfl
      · simp [hij]
  have m1 : ∀ i : Fin 32, bi (1 : Int32) i.val = decide (i.val = 0) := by decide +kernel
  have m2 : ∀ i : Fin 32, bi (2 : Int32) i.val = decide (i.val = 1) := by decide +kernel
  refine ⟨?_, ?_, ?_⟩
  · rw [key 1 0 (by decide) (fun i hi => m1 ⟨i, hi⟩)]
    rcases (show o = 0 ∨ o = 1 ∨ o = 2 ∨ o = 3 ∨ o = 4 ∨ o = 5 by omega) with rfl | rfl | rfl | rfl | rfl | rfl <;> decide
  · rw [key 2 1 (by decide) (fun i hi => m2 ⟨i, hi⟩)]
    rcases (show o = 0 ∨ o = 1 ∨ o = 2 ∨ o = 3 ∨ o = 4 ∨ o = 5 by omega) with rfl | rfl | rfl | rfl | rfl | rfl <;> decide
  · apply bi_ext
    intro i hi
    have e1 : bi ((Int32.ofNat (4 * t + mkOf o)) >>> (2 &&& 31)) i = if i + 2 < 32 then bi (Int32.ofNat (4 * t + mkOf o)) (i + 2) else bi (Int32.ofNat (4 * t + mkOf o)) 31 := by
      unfold bi
      rw [Int32.toBitVec_shiftRight]
      rw [show ((2 &&& 31 : Int32).toBitVec.smod 32) = 2#32 by decide +kernel, BitVec.sshiftRight_eq']
      rw [show (2#32).toNat = 2 from rfl, BitVec.getLsbD_sshiftRight]
      by_cases h : i + 2 < 32
      · rw [if_pos h]
        have : ¬ 32 ≤ i := by omega
        simp [this, Nat.add_comm 2 i, h]
      · rw [if_neg h]
        have h2 : ¬ 2 + i < 32 := by omega
        have : ¬ 32 ≤ i := by omega
        simp [this, h2, BitVec.msb_eq_getLsbD_last]
    have hti : bi (Int32.ofNat t) i = t.testBit i := by
      show (Int32.ofNat t).toBitVec.toNat.testBit i = _
      rw [i32_nat, Nat.mod_eq_of_lt (by omega)]
    rw [e1, hti]
    by_cases h : i + 2 < 32
    · rw [if_pos h, hb _ h, ht2, if_neg (by omega), Nat.add_sub_cancel]
    · rw [if_neg h, hb 31 (by decide), ht2, if_neg (by decide)]
      rw [Nat.testBit_lt_two_pow (Nat.lt_of_lt_of_le ht (show 6000 ≤ 2 ^ 29 by decide)), Nat.testBit_lt_two_pow (Nat.lt_of_lt_of_le ht (Nat.le_trans (show 6000 ≤ 2 ^ 30 by decide) (Nat.pow_le_pow_right (by decide) (by omega))))]
theorem cgr_of {cap lab ack cop : Nat} {K : List Int64} {E : List Edge} {Fs : List Nat} (h : Gk cap lab ack cop K.length K E Fs) (hK : 1 ≤ K.length) {A30 A35 : Nat → Int32} (hCE : CE E A35) (hCF : CF Fs A30) : CGr K.length (fsOf Fs) (tgOf E) (otOf E) A30 A35 := by
  obtain ⟨hg, hl⟩ := gk_gr h hK
  obtain ⟨h1, h2, h3, h4, h5, h6, h7, h8, h9, h10⟩ := id h
  refine ⟨fun s hs => ?_, fun e he => ?_⟩
  · have hsl : s < Fs.length := by omega
    rw [cAt_nat (by omega) (by decide), hCF s _ (List.getElem?_eq_getElem hsl)]
    unfold fsOf
    rw [getD_of (List.getElem?_eq_getElem hsl)]
  · rw [hl] at he
    have hx := hCE e _ (List.getElem?_eq_getElem he)
    have hq := h9 e _ (List.getElem?_eq_getElem he)
    have e1 : tgOf E e = (E[e]).1 := by unfold tgOf; rw [getD_of (List.getElem?_eq_getElem he)]
    have e2 : otOf E e = (E[e]).2.2 := by unfold otOf; rw [getD_of (List.getElem?_eq_getElem he)]
    rw [e1, e2]
    obtain ⟨m1, m2, m3⟩ := and_mark (t := (E[e]).1) (o := (E[e]).2.2) (by omega) hq.2.1
    have hc : cAt 60000 A35 (Int32.ofNat e) = Int32.ofNat (4 * (E[e]).1 + mkOf (E[e]).2.2) := by rw [cAt_nat (by omega) (by decide)]; exact hx
    refine ⟨?_, ?_, ?_⟩
    · unfold fX1_targetOf; rw [hc]; exact m3
    · unfold fX1_hasMark
      rw [hc]
      cases hb : badO (E[e]).2.2
      · rw [if_pos (m1.mpr hb)]; rfl
      · rw [if_neg (fun z => by have := m1.mp z; rw [hb] at this; exact absurd this (by decide)), if_pos rfl]
    · unfold fX1_hasMark
      rw [hc]
      cases hb : goodO (E[e]).2.2
      · rw [if_pos (m2.mpr hb)]; rfl
      · rw [if_neg (fun z => by have := m2.mp z; rw [hb] at this; exact absurd this (by decide)), if_pos rfl]
theorem mgr_of {cap lab ack cop : Nat} {K : List Int64} {E : List Edge} {Fs : List Nat} (h : Gk cap lab ack cop K.length K E Fs) (hK : 1 ≤ K.length) {A81 A82 A83 A84 A85 A86 : Nat → Int32} (hME : ME E A82 A83 A84 A85 A86) (hCF : CF Fs A81) : MGr K.length (fsOf Fs) (tgOf E) (otOf E) A81 A82 A83 := by
  obtain ⟨hg, hl⟩ := gk_gr h hK
  obtain ⟨h1, h2, h3, h4, h5, h6, h7, h8, h9, h10⟩ := id h
  refine ⟨fun s hs => ?_, fun e he => ?_⟩
  · have hsl : s < Fs.length := by omega
    rw [hCF s _ (List.getElem?_eq_getElem hsl)]
    unfold fsOf
    rw [getD_of (List.getElem?_eq_getElem hsl)]
  · rw [hl] at he
    have hx := hME e _ (List.getElem?_eq_getElem he)
    have e1 : tgOf E e = (E[e]).1 := by unfold tgOf; rw [getD_of (List.getElem?_eq_getElem he)]
    have e2 : otOf E e = (E[e]).2.2 := by unfold otOf; rw [getD_of (List.getElem?_eq_getElem he)]
    rw [e1, e2]
    exact ⟨hx.1, hx.2.1⟩
