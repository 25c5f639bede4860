/-! part 65: the reference's list of acts; what is offered -/
def mLab (w k : Nat) : Int32 := if w = 0 then -1 else Int32.ofNat (k / 2)
def mVal (w k : Nat) : Int32 := if w = 1 ∨ w = 3 then Int32.ofNat (k % 2) else -1
def Hm (A B C : Nat → Int32) (L : List Act) : Prop := Hold (fun i x => A i = Int32.ofNat x.1 ∧ B i = mLab x.1 x.2.1 ∧ C i = mVal x.1 x.2.1) L
theorem lays_eq {A B C : Nat → Int32} {L : List Act} (h : Hm A B C L) (hl : L.length < 40) (w k : Nat) : ∃ A' B' C', fX12_lays A B C (Int32.ofNat L.length) (Int32.ofNat w) (mLab w k) (mVal w k) = some (Int32.ofNat (L ++ [(w, k, 0)]).length, A', B', C') ∧ Hm A' B' C' (L ++ [(w, k, 0)]) := by
  unfold fX12_lays
  rw [if_pos (inb_t (by omega) hl), if_pos (inb_t (by omega) hl), if_pos (inb_t (by omega) hl), i32_succ, tnc (by omega)]
  refine ⟨_, _, _, by rw [List.length_append]; rfl, ?_⟩
  exact hold_snoc h (fun i x hi e => by rw [upd_ne (by omega), upd_ne (by omega), upd_ne (by omega)]; exact e) ⟨upd_at _ _ _, upd_at _ _ _, upd_at _ _ _⟩
section P65
variable {c m : Int64} {lab : Nat}
theorem hasLabel_n {lab l : Nat} (hl : l < lab) (hlab : lab ≤ 4) : fX7_hasLabel (Int32.ofNat lab) (Int32.ofNat l) = 1 := by
  unfold fX7_hasLabel
  rw [if_neg (i32_nneg (by omega)), if_neg (fun z => by have := (i32_le (by omega) (by omega)).mp z; omega)]
theorem hasKind_n {lab l v : Nat} (hl : l < lab) (hlab : lab ≤ 4) (hv : v < 2) : fX7_hasKind (Int32.ofNat lab) (Int32.ofNat l) (Int32.ofNat v) = 1 := by
  unfold fX7_hasKind
  rw [hasLabel_n hl hlab, if_neg (by decide)]
  rcases (show v = 0 ∨ v = 1 by omega) with rfl | rfl
  · rw [if_pos (show Int32.ofNat 0 = 0 from rfl)]
  · rw [if_neg (show ¬ Int32.ofNat 1 = 0 by decide), if_pos (show Int32.ofNat 1 = 1 from rfl)]
theorem isThere_pk (hS : Sx c m) (h1 : 1 ≤ lab) (hlab : lab ≤ 4) {l v : Nat} (hl : l < lab) (hv : v < 2) : fX12_isThere_J16 (Int32.ofNat lab) m (Int32.ofNat l) (Int32.ofNat v) = if 1 ≤ dg c (pkPos (2 * l + v)) 2 then 1 else 0 := by
  unfold fX12_isThere_J16
  rw [kind_eq h1 (by omega), hasKind_n hl hlab hv, if_neg (by decide), packetAt_m ⟨l, by omega⟩ ⟨v, hv⟩]
  dsimp only
  rw [mg_pk hS (by omega)]
  by_cases h : 1 ≤ dg c (pkPos (2 * l + v)) 2
  · rw [if_pos h, if_neg (fun z => by have := (i32_le (b := 0) (by have := dg2_le c (pkPos (2 * l + v)); omega) (by decide)).mp z; omega)]
  · rw [if_neg h, if_pos (show Int32.ofNat (dg c (pkPos (2 * l + v)) 2) ≤ 0 by rw [show dg c (pkPos (2 * l + v)) 2 = 0 by omega]; decide)]
theorem isThere_lt (hS : Sx c m) (h1 : 1 ≤ lab) (hlab : lab ≤ 4) {l : Nat} (hl : l < lab) : fX12_isThere_J58 (Int32.ofNat lab) m (Int32.ofNat l) = if 1 ≤ dg c (ltPos l) 2 then 1 else 0 := by
  unfold fX12_isThere_J58
  rw [label_eq h1 (by omega), hasLabel_n hl hlab, if_neg (by decide), letterAt_m ⟨l, by omega⟩]
  dsimp only
  rw [mg_lt hS (by omega)]
  by_cases h : 1 ≤ dg c (ltPos l) 2
  · rw [if_pos h, if_neg (fun z => by have := (i32_le (b := 0) (by have := dg2_le c (ltPos l); omega) (by decide)).mp z; omega)]
  · rw [if_neg h, if_pos (show Int32.ofNat (dg c (ltPos l) 2) ≤ 0 by rw [show dg c (ltPos l) 2 = 0 by omega]; decide)]
theorem there_w (x : Int32) (p4 p5 : Int32) : (fX12_isThere x m 1 p4 p5 = fX12_isThere_J16 x m p4 p5) ∧ (fX12_isThere x m 3 p4 p5 = fX12_isThere_J16 x m p4 p5) ∧ (fX12_isThere x m 2 p4 p5 = fX12_isThere_J58 x m p4) ∧ (fX12_isThere x m 4 p4 p5 = fX12_isThere_J58 x m p4) := by
  unfold fX12_isThere
  refine ⟨?_, ?_, ?_, ?_⟩
  · rw [if_neg (by decide), if_pos rfl]
  · rw [if_neg (by decide), if_neg (by decide), if_pos rfl]
  · rw [if_neg (by decide), if_neg (by decide), if_neg (by decide), if_pos rfl]
  · rw [if_neg (by decide), if_neg (by decide), if_neg (by decide), if_neg (by decide), if_pos rfl]
theorem there_pk (hS : Sx c m) (h1 : 1 ≤ lab) (hlab : lab ≤ 4) {w l v : Nat} (hw : w = 1 ∨ w = 3) (hl : l < lab) (hv : v < 2) : fX12_isThere (Int32.ofNat lab) m (Int32.ofNat w) (Int32.ofNat l) (Int32.ofNat v) = if 1 ≤ dg c (pkPos (2 * l + v)) 2 then 1 else 0 := by
  rcases hw with rfl | rfl
  · exact ((there_w _ _ _).1).trans (isThere_pk hS h1 hlab hl hv)
  · exact ((there_w _ _ _).2.1).trans (isThere_pk hS h1 hlab hl hv)
theorem there_ltr (hS : Sx c m) (h1 : 1 ≤ lab) (hlab : lab ≤ 4) {w l : Nat} (hw : w = 2 ∨ w = 4) (hl : l < lab) (p5 : Int32) : fX12_isThere (Int32.ofNat lab) m (Int32.ofNat w) (Int32.ofNat l) p5 = if 1 ≤ dg c (ltPos l) 2 then 1 else 0 := by
  rcases hw with rfl | rfl
  · exact ((there_w _ _ _).2.2.1).trans (isThere_lt hS h1 hlab hl)
  · exact ((there_w _ _ _).2.2.2).trans (isThere_lt hS h1 hlab hl)
/-- packets laid, kind by kind -/
theorem laysP_eq (hS : Sx c m) (h1 : 1 ≤ lab) (hlab : lab ≤ 4) {w : Nat} (hw : w = 1 ∨ w = 3) {A B C : Nat → Int32} {L : List Act} (h : Hm A B C L) (hl : L.length + (pksTo c w (2 * lab)).length < 40) {F : Nat} (hF : 9 ≤ F) : ∃ A' B' C', fX12_laysSort F (Int32.ofNat lab) A B C m (Int32.ofNat L.length) (Int32.ofNat w) = some (Int32.ofNat (L ++ pksTo c w (2 * lab)).length, A', B', C') ∧ Hm A' B' C' (L ++ pksTo c w (2 * lab)) := by
  unfold fX12_laysSort
  have key := gl_ix (st := fun u1 : (Int32 × Int32 × (Nat → Int32) × (Nat → Int32) × (Nat → Int32)) => fX12_laysSort_S6 F (Int32.ofNat lab) m (Int32.ofNat w) u1.1 u1.2.1 u1.2.2.1 u1.2.2.2.1 u1.2.2.2.2) (fun i s => s.2.1 = Int32.ofNat i ∧ s.1 = Int32.ofNat (L ++ pksTo c w (2 * i)).length ∧ Hm s.2.2.1 s.2.2.2.1 s.2.2.2.2 (L ++ pksTo c w (2 * i))) (fun r => r.1 = Int32.ofNat (L ++ pksTo c w (2 * lab)).length ∧ Hm r.2.1 r.2.2.1 r.2.2.2 (L ++ pksTo c w (2 * lab))) lab ?_ ?_ F 0 (Int32.ofNat L.length, 0, A, B, C) (by omega) ⟨rfl, by simp [pksTo], by simpa [pksTo] using h⟩ (by omega)
  · obtain ⟨r, e, e1, e2⟩ := key
    rw [e]
    exact ⟨_, _, _, by simp only [Option.bind_some]; rw [e1], e2⟩
  · rintro i ⟨sz, v6, A1, B1, C1⟩ hi ⟨g1, g2, g3⟩
    dsimp only at g1 g2 g3 ⊢
    subst g1 g2
    unfold fX12_laysSort_S6
    rw [if_neg (fun z => by have := (i32_le (by omega) (by omega)).mp z; omega), if_neg (show ¬ Int32.ofNat w = 2 from fun z => by have := (i32_eq (b := 2) (by omega) (by decide)).mp z; omega), if_neg (show ¬ Int32.ofNat w = 4 from fun z => by have := (i32_eq (b := 4) (by omega) (by decide)).mp z; omega)]
    have inner := gl_ix (st := fun u6 : (Int32 × Int32 × (Nat → Int32) × (Nat → Int32) × (Nat → Int32)) => fX12_laysSort_S59 F (Int32.ofNat lab) m (Int32.ofNat w) (Int32.ofNat i) u6.1 u6.2.1 u6.2.2.1 u6.2.2.2.1 u6.2.2.2.2) (fun v s => s.2.1 = Int32.ofNat v ∧ s.1 = Int32.ofNat (L ++ pksTo c w (2 * i + v)).length ∧ Hm s.2.2.1 s.2.2.2.1 s.2.2.2.2 (L ++ pksTo c w (2 * i + v))) (fun r => r.1 = Int32.ofNat (L ++ pksTo c w (2 * (i + 1))).length ∧ Hm r.2.1 r.2.2.1 r.2.2.2 (L ++ pksTo c w (2 * (i + 1)))) 2 ?_ ?_ F 0 (Int32.ofNat (L ++ pksTo c w (2 * i)).length, 0, A1, B1, C1) (by omega) ⟨rfl, rfl, g3⟩ (by omega)
    · obtain ⟨r, e, e1, e2⟩ := inner
      rw [e]
      exact ⟨_, rfl, i32_succ i, e1, e2⟩
    · rintro v ⟨sz, v7, A2, B2, C2⟩ hv ⟨k1, k2, k3⟩
      dsimp only at k1 k2 k3 ⊢
      subst k1 k2
      unfold fX12_laysSort_S59
      rw [if_neg (show ¬ (2 : Int32) ≤ Int32.ofNat v from fun z => by have := (i32_le (a := 2) (by decide) (by omega)).mp z; omega), there_pk hS h1 hlab hw hi hv]
      by_cases hd : 1 ≤ dg c (pkPos (2 * i + v)) 2
      · rw [if_pos hd, if_neg (by decide)]
        have hlen : (L ++ pksTo c w (2 * i + v)).length < 40 := by
          have h4 := pks_le c w (show 2 * i + v ≤ 2 * lab by omega)
          rw [List.length_append]; omega
        obtain ⟨A3, B3, C3, e, h3⟩ := lays_eq k3 hlen w (2 * i + v)
        have e5 : L ++ pksTo c w (2 * i + v) ++ [(w, 2 * i + v, 0)] = L ++ pksTo c w (2 * i + (v + 1)) := by
          rw [show 2 * i + (v + 1) = 2 * i + v + 1 by omega]
          simp only [pksTo, if_pos hd, List.append_assoc]
        rw [e5] at e h3
        rw [show mLab w (2 * i + v) = Int32.ofNat i by unfold mLab; rw [if_neg (by omega), show (2 * i + v) / 2 = i by omega], show mVal w (2 * i + v) = Int32.ofNat v by unfold mVal; rw [if_pos hw, show (2 * i + v) % 2 = v by omega]] at e
        rw [e]
        exact ⟨_, rfl, i32_succ v, rfl, h3⟩
      · rw [if_neg hd, if_pos rfl]
        have e5 : pksTo c w (2 * i + (v + 1)) = pksTo c w (2 * i + v) := by
          rw [show 2 * i + (v + 1) = 2 * i + v + 1 by omega]
          simp only [pksTo, if_neg hd, List.append_nil]
        rw [e5]
        exact ⟨_, rfl, i32_succ v, rfl, k3⟩
    · rintro ⟨sz, v7, A2, B2, C2⟩ ⟨k1, k2, k3⟩
      dsimp only at k1 k2 k3 ⊢
      subst k1 k2
      unfold fX12_laysSort_S59
      rw [if_pos (show (2 : Int32) ≤ Int32.ofNat 2 by decide)]
      exact ⟨_, rfl, rfl, k3⟩
  · rintro ⟨sz, v6, A1, B1, C1⟩ ⟨g1, g2, g3⟩
    dsimp only at g1 g2 g3 ⊢
    subst g1 g2
    unfold fX12_laysSort_S6
    rw [if_pos ((i32_le (by omega) (by omega)).mpr (by omega))]
    exact ⟨_, rfl, rfl, g3⟩
theorem laysL_eq (hS : Sx c m) (h1 : 1 ≤ lab) (hlab : lab ≤ 4) {w : Nat} (hw : w = 2 ∨ w = 4) {A B C : Nat → Int32} {L : List Act} (h : Hm A B C L) (ack : Nat) (hl : L.length + (ltsTo ack c w false lab).length < 40) {F : Nat} (hF : 9 ≤ F) : ∃ A' B' C', fX12_laysSort F (Int32.ofNat lab) A B C m (Int32.ofNat L.length) (Int32.ofNat w) = some (Int32.ofNat (L ++ ltsTo ack c w false lab).length, A', B', C') ∧ Hm A' B' C' (L ++ ltsTo ack c w false lab) := by
  unfold fX12_laysSort
  have key := gl_ix (st := fun u1 : (Int32 × Int32 × (Nat → Int32) × (Nat → Int32) × (Nat → Int32)) => fX12_laysSort_S6 F (Int32.ofNat lab) m (Int32.ofNat w) u1.1 u1.2.1 u1.2.2.1 u1.2.2.2.1 u1.2.2.2.2) (fun i s => s.2.1 = Int32.ofNat i ∧ s.1 = Int32.ofNat (L ++ ltsTo ack c w false i).length ∧ Hm s.2.2.1 s.2.2.2.1 s.2.2.2.2 (L ++ ltsTo ack c w false i)) (fun r => r.1 = Int32.ofNat (L ++ ltsTo ack c w false lab).length ∧ Hm r.2.1 r.2.2.1 r.2.2.2 (L ++ ltsTo ack c w false lab)) lab ?_ ?_ F 0 (Int32.ofNat L.length, 0, A, B, C) (by omega) ⟨rfl, by simp [ltsTo], by simpa [ltsTo] using h⟩ (by omega)
  · obtain ⟨r, e, e1, e2⟩ := key
    rw [e]
    exact ⟨_, _, _, by simp only [Option.bind_some]; rw [e1], e2⟩
  · rintro i ⟨sz, v6, A1, B1, C1⟩ hi ⟨g1, g2, g3⟩
    dsimp only at g1 g2 g3 ⊢
    subst g1 g2
    have hJ : ∃ s', fX12_laysSort_J27 F (Int32.ofNat lab) m (Int32.ofNat w) (Int32.ofNat (L ++ ltsTo ack c w false i).length) (Int32.ofNat i) A1 B1 C1 = some (.inr s') ∧ s'.2.1 = Int32.ofNat (i + 1) ∧ s'.1 = Int32.ofNat (L ++ ltsTo ack c w false (i + 1)).length ∧ Hm s'.2.2.1 s'.2.2.2.1 s'.2.2.2.2 (L ++ ltsTo ack c w false (i + 1)) := by
      unfold fX12_laysSort_J27
      rw [there_ltr hS h1 hlab hw hi]
      by_cases hd : 1 ≤ dg c (ltPos i) 2
      · rw [if_pos hd, if_neg (by decide)]
        have hlen : (L ++ ltsTo ack c w false i).length < 40 := by
          have h4 := lts_le ack c w false (show i ≤ lab by omega)
          rw [List.length_append]; omega
        obtain ⟨A3, B3, C3, e, h3⟩ := lays_eq g3 hlen w (2 * i)
        have e5 : L ++ ltsTo ack c w false i ++ [(w, 2 * i, 0)] = L ++ ltsTo ack c w false (i + 1) := by
          simp only [ltsTo, if_pos hd, Bool.false_and, List.append_assoc]; rfl
        rw [e5] at e h3
        rw [show mLab w (2 * i) = Int32.ofNat i by unfold mLab; rw [if_neg (by omega), show (2 * i) / 2 = i by omega], show mVal w (2 * i) = -1 by unfold mVal; rw [if_neg (by omega)]] at e
        rw [e]
        exact ⟨_, rfl, i32_succ i, rfl, h3⟩
      · rw [if_neg hd, if_pos rfl]
        have e5 : ltsTo ack c w false (i + 1) = ltsTo ack c w false i := by
          simp only [ltsTo, if_neg hd, List.append_nil]
        rw [e5]
        exact ⟨_, rfl, i32_succ i, rfl, g3⟩
    unfold fX12_laysSort_S6
    rw [if_neg (fun z => by have := (i32_le (by omega) (by omega)).mp z; omega)]
    rcases hw with rfl | rfl
    · rw [if_pos (show Int32.ofNat 2 = 2 from rfl)]; exact hJ
    · rw [if_neg (show ¬ Int32.ofNat 4 = 2 by decide), if_pos (show Int32.ofNat 4 = 4 from rfl)]; exact hJ
  · rintro ⟨sz, v6, A1, B1, C1⟩ ⟨g1, g2, g3⟩
    dsimp only at g1 g2 g3 ⊢
    subst g1 g2
    unfold fX12_laysSort_S6
    rw [if_pos ((i32_le (by omega) (by omega)).mpr (by omega))]
    exact ⟨_, rfl, rfl, g3⟩
theorem lays_acts {cap : Nat} (hcap : cap ≤ 2) (hS : Sx c m) (hL : Lg cap c) (h1 : 1 ≤ lab) (hlab : lab ≤ 4) (ack : Nat) (A B C : Nat → Int32) {pl : Int32} {F : Nat} (hF : 9 ≤ F) : ∃ A' B' C', fX12_laysActs F (Int32.ofNat lab) A B C m pl = some (Int32.ofNat (if pl = 0 then acts3 lab ack c false else acts5 lab ack c false).length, A', B', C') ∧ Hm A' B' C' (if pl = 0 then acts3 lab ack c false else acts5 lab ack c false) := by
  have hlen := acts_len (ack := ack) (d := false) hcap hlab hL
  have h5 : (acts5 lab ack c false).length = (acts3 lab ack c false ++ pksTo c 3 (2 * lab)).length + (ltsTo ack c 4 false lab).length := by unfold acts5; rw [List.length_append]
  have h4 : (acts3 lab ack c false ++ pksTo c 3 (2 * lab)).length = (acts3 lab ack c false).length + (pksTo c 3 (2 * lab)).length := List.length_append
  have h3 : (acts3 lab ack c false).length = ((0, 0, 0) :: pksTo c 1 (2 * lab)).length + (ltsTo ack c 2 false lab).length := by unfold acts3; rw [List.length_append]
  have h2 : ((0, 0, 0) :: pksTo c 1 (2 * lab)).length = (pksTo c 1 (2 * lab)).length + 1 := rfl
  unfold fX12_laysActs
  obtain ⟨A0, B0, C0, e0, g0⟩ := lays_eq (A := A) (B := B) (C := C) (L := []) (fun i x hx => by simp at hx) (by decide) 0 0
  rw [show Int32.ofNat ([] : List Act).length = 0 from rfl, show Int32.ofNat 0 = 0 from rfl, show mLab 0 0 = -1 from rfl, show mVal 0 0 = -1 from rfl] at e0
  rw [e0]
  simp only [Option.bind_some]
  obtain ⟨A1, B1, C1, e1, g1⟩ := laysP_eq hS h1 hlab (w := 1) (Or.inl rfl) g0 (by show 1 + _ < 40; omega) hF
  rw [show Int32.ofNat 1 = 1 from rfl] at e1
  rw [e1]
  simp only [Option.bind_some]
  obtain ⟨A2, B2, C2, e2, g2⟩ := laysL_eq hS h1 hlab (w := 2) (Or.inl rfl) g1 ack (by show ((0, 0, 0) :: pksTo c 1 (2 * lab)).length + _ < 40; omega) hF
  rw [show Int32.ofNat 2 = 2 from rfl] at e2
  rw [e2]
  simp only [Option.bind_some]
  by_cases hp : pl = 0
  · rw [if_pos hp, if_pos hp]
    exact ⟨_, _, _, rfl, g2⟩
  · rw [if_neg hp, if_neg hp]
    obtain ⟨A3, B3, C3, e3, g3⟩ := laysP_eq hS h1 hlab (w := 3) (Or.inr rfl) g2 (by show (acts3 lab ack c false).length + _ < 40; omega) hF
    rw [show Int32.ofNat 3 = 3 from rfl] at e3
    rw [e3]
    simp only [Option.bind_some]
    obtain ⟨A4, B4, C4, e4, g4⟩ := laysL_eq hS h1 hlab (w := 4) (Or.inr rfl) g3 ack (by show (acts3 lab ack c false ++ pksTo c 3 (2 * lab)).length + _ < 40; omega) hF
    rw [show Int32.ofNat 4 = 4 from rfl] at e4
    rw [e4]
    exact ⟨_, _, _, rfl, g4⟩
end P65
/-! every act of the list is there -/
def Ok (lab : Nat) (c : Int64) (L : List Act) : Prop := ∀ x ∈ L, there lab c x.1 x.2.1 ∧ x.2.2 < 2
theorem pks_ok {lab : Nat} (c : Int64) {w : Nat} (hw : w = 1 ∨ w = 3) : ∀ n, n ≤ 2 * lab → Ok lab c (pksTo c w n) := by
  intro n
  induction n with
  | zero => intro _ x hx; simp [pksTo] at hx
  | succ n ih =>
    intro hn x hx
    simp only [pksTo, List.mem_append] at hx
    rcases hx with hx | hx
    · exact ih (by omega) x hx
    · by_cases hd : 1 ≤ dg c (pkPos n) 2
      · rw [if_pos hd] at hx
        obtain rfl := List.mem_singleton.mp hx
        exact ⟨Or.inr (Or.inl ⟨hw, (by omega : n < 2 * lab), hd⟩), (by decide : 0 < 2)⟩
      · rw [if_neg hd] at hx; simp at hx
theorem lts_ok {lab : Nat} (ack : Nat) (c : Int64) {w : Nat} (hw : w = 2 ∨ w = 4) (d : Bool) : ∀ n, n ≤ lab → Ok lab c (ltsTo ack c w d n) := by
  intro n
  induction n with
  | zero => intro _ x hx; simp [ltsTo] at hx
  | succ n ih =>
    intro hn x hx
    simp only [ltsTo, List.mem_append] at hx
    rcases hx with hx | hx
    · exact ih (by omega) x hx
    · by_cases hd : 1 ≤ dg c (ltPos n) 2
      · have ht : there lab c w (2 * n) := Or.inr (Or.inr ⟨hw, by omega, by omega, by rw [show 2 * n / 2 = n by omega]; exact hd⟩)
        rw [if_pos hd] at hx
        rcases List.mem_cons.mp hx with rfl | hx
        · exact ⟨ht, (by decide : 0 < 2)⟩
        · cases hg : (d && goes ack c n)
          · rw [hg] at hx; simp at hx
          · rw [hg] at hx
            obtain rfl := List.mem_singleton.mp hx
            exact ⟨ht, (by decide : 1 < 2)⟩
      · rw [if_neg hd] at hx; simp at hx
theorem acts3_ok (lab ack : Nat) (c : Int64) (d : Bool) : Ok lab c (acts3 lab ack c d) := by
  intro x hx
  unfold acts3 at hx
  rcases List.mem_append.mp hx with hx | hx
  · rcases List.mem_cons.mp hx with rfl | hx
    · exact ⟨Or.inl ⟨rfl, rfl⟩, (by decide : 0 < 2)⟩
    · exact pks_ok c (Or.inl rfl) _ (Nat.le_refl _) x hx
  · exact lts_ok ack c (Or.inl rfl) d _ (Nat.le_refl _) x hx
theorem acts5_ok (lab ack : Nat) (c : Int64) (d : Bool) : Ok lab c (acts5 lab ack c d) := by
  intro x hx
  unfold acts5 at hx
  rcases List.mem_append.mp hx with hx | hx
  · rcases List.mem_append.mp hx with hx | hx
    · exact acts3_ok lab ack c d x hx
    · exact pks_ok c (Or.inr rfl) _ (Nat.le_refl _) x hx
  · exact lts_ok ack c (Or.inr rfl) false _ (Nat.le_refl _) x hx
theorem args_m (w k : Nat) : args w k (mLab w k) (mVal w k) := by
  refine ⟨fun h => ⟨?_, ?_⟩, fun h => ?_⟩
  · unfold mLab; rw [if_neg (by omega)]
  · unfold mVal; rw [if_pos h]
  · unfold mLab; rw [if_neg (by omega)]
