/-! part 9k: what comes of an act is legal; all states are closed -/
section CLOS
variable {cap lab ack cop : Nat}
theorem leg_pk (hs : Stt cap lab ack cop) {c : Int64} (h : Leg cap lab ack cop c) {k x : Nat} (hk : k < 2 * lab) (hx : x ≤ cap) : Leg cap lab ack cop (pt c (pkPos k) 2 x) := by
  have := leg_put hs h (i := 5 + 2 * lab + k) (x := x) (by omega) (by unfold dLim; rw [if_neg (by omega), if_neg (by omega)]; omega)
  rw [cPos_pk hk, dWid_2 (by omega)] at this
  exact this
theorem leg_lt (hs : Stt cap lab ack cop) {c : Int64} (h : Leg cap lab ack cop c) {l x : Nat} (hl : l < lab) (hx : x ≤ cap) : Leg cap lab ack cop (pt c (ltPos l) 2 x) := by
  have := leg_put hs h (i := 5 + 4 * lab + l) (x := x) (by omega) (by unfold dLim; rw [if_neg (by omega), if_neg (by omega)]; omega)
  rw [cPos_lt, dWid_2 (by omega)] at this
  exact this
theorem leg_se (hs : Stt cap lab ack cop) {c : Int64} (h : Leg cap lab ack cop c) {k x : Nat} (hk : k < 2 * lab) (hx : x < cop) : Leg cap lab ack cop (pt c (sePos k) 2 x) := by
  have := leg_put hs h (i := 5 + k) (x := x) (by omega) (by unfold dLim; rw [if_neg (by omega), if_pos (by omega)]; exact hx)
  rw [cPos_se hk, dWid_2 (by omega)] at this
  exact this
theorem leg_digits (hs : Stt cap lab ack cop) {c : Int64} (h : Leg cap lab ack cop c) : dg c 47 2 < lab ∧ dg c 46 1 < 2 ∧ dg c 43 3 < ack ∧ dg c 42 1 < 2 ∧ dg c 40 2 < lab ∧ (∀ k, k < 2 * lab → dg c (pkPos k) 2 ≤ cap) ∧ (∀ l, l < lab → dg c (ltPos l) 2 ≤ cap) := by
  refine ⟨leg_dg hs h (i := 0) (by omega), leg_dg hs h (i := 1) (by omega), leg_dg hs h (i := 2) (by omega), leg_dg hs h (i := 3) (by omega), leg_dg hs h (i := 4) (by omega), fun k hk => ?_, fun l hl => ?_⟩
  · have := leg_dg hs h (i := 5 + 2 * lab + k) (by omega)
    rw [cPos_pk hk, dWid_2 (by omega)] at this
    unfold dLim at this
    rw [if_neg (by omega), if_neg (by omega)] at this
    omega
  · have := leg_dg hs h (i := 5 + 4 * lab + l) (by omega)
    rw [cPos_lt, dWid_2 (by omega)] at this
    unfold dLim at this
    rw [if_neg (by omega), if_neg (by omega)] at this
    omega
theorem leg_dlv (hs : Stt cap lab ack cop) {c : Int64} (h : Leg cap lab ack cop c) {k : Nat} (hk : k < 2 * lab) : Leg cap lab ack cop (dlv c k).1 := by
  have h1 : Leg cap lab ack cop (pt c 40 2 (k / 2)) := leg_put hs h (i := 4) (x := k / 2) (by omega) (by show k / 2 < lab; omega)
  have h2 := leg_clr hs h1 8 (Nat.le_refl _)
  unfold dlv
  dsimp only
  by_cases a : k = kOf c
  · rw [if_pos a]
    by_cases b : dg c 42 1 = 1
    · rw [if_pos b]; exact h2
    · rw [if_neg b]; exact leg_put hs h2 (i := 3) (x := 1) (by omega) (by show 1 < 2; omega)
  · rw [if_neg a]; exact h2
theorem leg_arr (hs : Stt cap lab ack cop) {c : Int64} (h : Leg cap lab ack cop c) {k : Nat} (hk : k < 2 * lab) : Leg cap lab ack cop (arr cop c k).1 := by
  obtain ⟨g1, g2, g3, g4, g5, g6, g7⟩ := leg_digits hs h
  have := g6 k hk
  have h1 : Leg cap lab ack cop (pt c (pkPos k) 2 (dg c (pkPos k) 2 - 1)) := leg_pk hs h hk (by omega)
  unfold arr
  dsimp only
  by_cases a : k / 2 = dg c 40 2
  · rw [if_pos a]; exact h1
  · rw [if_neg a]
    by_cases b : cop ≤ dg c (sePos k) 2 + 1
    · rw [if_pos b]; exact leg_dlv hs h1 hk
    · rw [if_neg b]; exact leg_se hs h1 hk (by omega)
theorem leg_snd (hs : Stt cap lab ack cop) {c : Int64} (h : Leg cap lab ack cop c) {a b n t : Nat} (ha : a < lab) (hb : b < 2) (hn : n < ack) (ht : t < 2) : Leg cap lab ack cop (snd4 c a b n t) := by
  have h1 : Leg cap lab ack cop (pt c 47 2 a) := leg_put hs h (i := 0) (x := a) (by omega) ha
  have h2 : Leg cap lab ack cop (pt (pt c 47 2 a) 46 1 b) := leg_put hs h1 (i := 1) (x := b) (by omega) hb
  have h3 : Leg cap lab ack cop (pt (pt (pt c 47 2 a) 46 1 b) 43 3 n) := leg_put hs h2 (i := 2) (x := n) (by omega) hn
  exact leg_put hs h3 (i := 3) (x := t) (by omega) ht
theorem leg_stp (hs : Stt cap lab ack cop) {c : Int64} (h : Leg cap lab ack cop c) (hL : Lg cap c) {w k told : Nat} (ht : there lab c w k) (hto : told < 2) : Leg cap lab ack cop (stp cap lab ack cop c w k told).1 := by
  obtain ⟨⟨c1, c2⟩, ⟨b1, b2⟩, ⟨d1, d2⟩, ⟨e1, e2⟩⟩ := id hs
  obtain ⟨g1, g2, g3, g4, g5, g6, g7⟩ := leg_digits hs h
  unfold stp
  rcases ht with ⟨rfl, rfl⟩ | ⟨hw, hk, h1⟩ | ⟨hw, hk2, hk, h1⟩
  · rw [if_pos rfl]
    have hk : kOf c < 2 * lab := by unfold kOf; omega
    by_cases a : pkSum c < cap
    · rw [if_pos a]
      have := dg_le_pk c (kOf_lt c)
      exact leg_pk hs h hk (by omega)
    · rw [if_neg a]; exact h
  · have := g6 k hk
    rcases hw with rfl | rfl
    · rw [if_neg (by decide), if_pos rfl]
      have h2 := leg_arr hs h hk
      by_cases a : ltSum c < cap
      · rw [if_pos a]
        have := dg_le_lt c (k := k / 2) (by omega)
        exact leg_lt hs h2 (by omega) (by omega)
      · rw [if_neg a]; exact h2
    · rw [if_neg (by decide), if_neg (by decide), if_neg (by decide), if_pos rfl]
      exact leg_pk hs h hk (by omega)
  · have := g7 (k / 2) hk
    have h2 : Leg cap lab ack cop (pt c (ltPos (k / 2)) 2 (dg c (ltPos (k / 2)) 2 - 1)) := leg_lt hs h hk (by omega)
    rcases hw with rfl | rfl
    · rw [if_neg (by decide), if_neg (by decide), if_pos rfl]
      by_cases a : dg c 47 2 = k / 2
      · rw [if_pos a]
        by_cases b : ack ≤ dg c 43 3 + 1
        · rw [if_pos b]
          exact leg_snd hs h2 (by split <;> omega) hto (by omega) (by omega)
        · rw [if_neg b]
          exact leg_put hs h2 (i := 2) (x := dg c 43 3 + 1) (by omega) (by show _ < ack; omega)
      · rw [if_neg a]; exact h2
    · rw [if_neg (by decide), if_neg (by decide), if_neg (by decide), if_neg (by decide)]
      exact h2
/-- all states -/
def allL (cap lab ack cop : Nat) : List (List Nat) := enumL (mxS cap lab ack cop) (5 + 5 * lab) []
def allK (cap lab ack cop : Nat) : List Int64 := (allL cap lab ack cop).map (cOf lab)
theorem mem_all {z : List Nat} : z ∈ allL cap lab ack cop ↔ okL (mxS cap lab ack cop) z ∧ z.length = 5 + 5 * lab := by
  unfold allL
  rw [mem_enumL _ _ [] z trivial]
  constructor
  · rintro ⟨h, s, h1, rfl⟩; rw [List.append_nil] at h ⊢; exact ⟨h, h1⟩
  · rintro ⟨h, h1⟩; exact ⟨h, z, h1, (List.append_nil z).symm⟩
theorem ok_lim (hs : Stt cap lab ack cop) : ∀ z : List Nat, z.length ≤ 5 + 5 * lab → okL (mxS cap lab ack cop) z → ∀ i, i < z.length → dv z i < dLim cap lab ack cop i := by
  intro z
  induction z with
  | nil => intro _ _ i h; simp at h
  | cons v p ih =>
    intro hl h i hi
    rw [List.length_cons] at hl hi
    show (if i = p.length then v else dv p i) < _
    by_cases a : i = p.length
    · subst a
      rw [if_pos rfl]
      have := mx_lim hs p (by omega)
      have := h.1
      omega
    · rw [if_neg a]; exact ih (by omega) h.2 i (by omega)
theorem lim_ok (hs : Stt cap lab ack cop) : ∀ z : List Nat, z.length ≤ 5 + 5 * lab → (∀ i, i < z.length → dv z i < dLim cap lab ack cop i) → pkSum (cOf lab z) ≤ cap → ltSum (cOf lab z) ≤ cap → okL (mxS cap lab ack cop) z := by
  intro z
  induction z with
  | nil => intro _ _ _ _; trivial
  | cons v p ih =>
    intro hl h h1 h2
    have hf := dv_fit hs _ h
    rw [List.length_cons] at hl
    have e1 := pk_step hs.2.1.2 (p := p) (by omega) hf
    have e2 := lt_step hs.2.1.2 (p := p) (by omega) hf
    have h0 := h p.length (by rw [List.length_cons]; omega)
    have e : dv (v :: p) p.length = v := if_pos rfl
    rw [e] at h0
    have hp := ih (by omega) (fun i hi => by
      have h3 := h i (by rw [List.length_cons]; omega)
      have e3 : dv (v :: p) i = dv p i := if_neg (by omega)
      rw [e3] at h3
      exact h3) (by omega) (by omega)
    exact ⟨(test_iff hs (by omega) hp h0).mp ⟨h1, h2⟩, hp⟩
theorem leg_mem (hs : Stt cap lab ack cop) {c : Int64} : c ∈ allK cap lab ack cop ↔ Leg cap lab ack cop c ∧ Lg cap c := by
  unfold allK
  rw [List.mem_map]
  constructor
  · rintro ⟨z, hz, rfl⟩
    obtain ⟨h1, h2⟩ := mem_all.mp hz
    exact ⟨⟨z, h2, fun i hi => ok_lim hs z (by omega) h1 i (by omega), rfl⟩, ok_sums hs z (by omega) h1⟩
  · rintro ⟨⟨z, h1, h2, rfl⟩, h3, h4⟩
    exact ⟨z, mem_all.mpr ⟨lim_ok hs z (by omega) (fun i hi => h2 i (by omega)) h3 h4, h1⟩, rfl⟩
theorem all_good (hs : Stt cap lab ack cop) {c : Int64} (h : c ∈ allK cap lab ack cop) : Good cap c := by
  obtain ⟨⟨z, h1, h2, rfl⟩, h3⟩ := (leg_mem hs).mp h
  exact ⟨h3, _, of_sx hs.2.1.2 z (by omega) (dv_fit hs z (fun i hi => h2 i (by omega)))⟩
theorem all_inj (hs : Stt cap lab ack cop) : (allK cap lab ack cop).Nodup := by
  unfold allK
  have hn : (allL cap lab ack cop).Nodup := enumL_nodup _ _ [] trivial
  have hm : ∀ z ∈ allL cap lab ack cop, okL (mxS cap lab ack cop) z ∧ z.length = 5 + 5 * lab := fun z hz => mem_all.mp hz
  generalize allL cap lab ack cop = L at hn hm
  induction L with
  | nil => exact List.nodup_nil
  | cons z L ih =>
    obtain ⟨n1, n2⟩ := List.nodup_cons.mp hn
    obtain ⟨o1, o2⟩ := hm z List.mem_cons_self
    refine List.nodup_cons.mpr ⟨fun hc => ?_, ih n2 (fun y hy => hm y (List.mem_cons_of_mem _ hy))⟩
    obtain ⟨y, hy, e⟩ := List.mem_map.mp hc
    obtain ⟨p1, p2⟩ := hm y (List.mem_cons_of_mem _ hy)
    have := cOf_inj hs.2.1.2 p2 o2 (ok_fit hs y (by omega) p1) (ok_fit hs z (by omega) o1) e
    rw [this] at hy
    exact n1 hy
theorem inj_of_nodup {K : List Int64} (h : K.Nodup) : Inj K := fun i j c hi hj => (List.getElem?_inj (List.getElem?_eq_some_iff.mp hi).1 h).mp (hi.trans hj.symm)
theorem expActs_closed {K : List Int64} (hI : Inj K) {c : Int64} : ∀ (as : List Act) (E : List Edge), (∀ a ∈ as, (stp cap lab ack cop c a.1 a.2.1 a.2.2).1 ∈ K) → ∃ E', expActs cap lab ack cop c as K E = some (K, E') := by
  intro as
  induction as with
  | nil => intro E _; exact ⟨E, rfl⟩
  | cons a as ih =>
    intro E h
    obtain ⟨t, ht⟩ := List.getElem?_of_mem (h a List.mem_cons_self)
    simp only [expActs]
    rw [numb_old hI ht]
    exact ih _ (fun x hx => h x (List.mem_cons_of_mem _ hx))
theorem expAll_closed {K : List Int64} (hI : Inj K) (hc : ∀ c ∈ K, ∀ a ∈ acts5 lab ack c true, (stp cap lab ack cop c a.1 a.2.1 a.2.2).1 ∈ K) : ∀ (n k : Nat) (E : List Edge) (Fs : List Nat), ∃ E' Fs', expAll cap lab ack cop n k K E Fs = some (K, E', Fs') := by
  intro n
  induction n with
  | zero => intro k E Fs; exact ⟨E, Fs, rfl⟩
  | succ n ih =>
    intro k E Fs
    simp only [expAll]
    cases hk : K[k]? with
    | none => exact ⟨E, Fs, rfl⟩
    | some c =>
      obtain ⟨E1, h1⟩ := expActs_closed hI (acts5 lab ack c true) E (hc c (List.mem_of_getElem? hk))
      dsimp only
      rw [h1]
      exact ih (k + 1) E1 _
theorem all_closed (hs : Stt cap lab ack cop) : ∃ E Fs, expAll cap lab ack cop 6001 0 (allK cap lab ack cop) [] [0] = some (allK cap lab ack cop, E, Fs) :=
  expAll_closed (inj_of_nodup (all_inj hs)) (fun c hc a ha => by
    obtain ⟨h1, h2⟩ := (leg_mem hs).mp hc
    obtain ⟨t1, t2⟩ := acts5_ok lab ack c true a ha
    exact (leg_mem hs).mpr ⟨leg_stp hs h1 h2 t1 t2, stp_lg hs.1.2 hs.2.1.2 hs.2.2.1.2 hs.2.2.2.2 h2 t1 t2⟩) 6001 0 [] [0]
end CLOS
