/-! part 72: what is reached: the spec, and the class's chart -/
abbrev Edge := Nat × Act × Nat
def mkOf (o : Nat) : Nat := if o = 1 then 2 else if o = 2 then 1 else if o = 3 then 1 else if o = 5 then 1 else 0
def expActs (cap lab ack cop : Nat) (c : Int64) : List Act → List Int64 → List Edge → Option (List Int64 × List Edge)
  | [], K, E => some (K, E)
  | a :: as, K, E => match numb K (stp cap lab ack cop c a.1 a.2.1 a.2.2).1 with
    | none => none
    | some r => expActs cap lab ack cop c as r.2 (E ++ [(r.1, a, (stp cap lab ack cop c a.1 a.2.1 a.2.2).2.1)])
def expAll (cap lab ack cop : Nat) : Nat → Nat → List Int64 → List Edge → List Nat → Option (List Int64 × List Edge × List Nat)
  | 0, _, K, E, Fs => some (K, E, Fs)
  | n + 1, k, K, E, Fs => match K[k]? with
    | none => some (K, E, Fs)
    | some c => match expActs cap lab ack cop c (acts5 lab ack c true) K E with
      | none => none
      | some r => expAll cap lab ack cop n (k + 1) r.1 r.2 (Fs ++ [r.2.length])
def Good (cap : Nat) (c : Int64) : Prop := Lg cap c ∧ ∃ m, Sx c m
def Gd (cap : Nat) (K : List Int64) : Prop := ∀ (i : Nat) (c : Int64), K[i]? = some c → Good cap c
theorem stp_good {cap lab ack cop : Nat} {c : Int64} {w k told : Nat} (hcap : cap ≤ 2) (hlab : lab ≤ 4) (hack : ack ≤ 7) (hcop : cop ≤ 4) (h : Good cap c) (ht : there lab c w k) (hto : told < 2) : Good cap (stp cap lab ack cop c w k told).1 := by
  obtain ⟨hL, m, hS⟩ := h
  refine ⟨stp_lg hcap hlab hack hcop hL ht hto, ?_⟩
  obtain ⟨m', _, hS'⟩ := does_eq hcap hlab hack hcop hS hL ht hto (args_m w k) (F := 9) (by decide) 0 0 0
  exact ⟨m', hS'⟩
theorem numb_facts {cap : Nat} {K K' : List Int64} {c : Int64} {t : Nat} (hI : Inj K) (hl : K.length ≤ 6000) (hG : Gd cap K) (hc : Good cap c) (h : numb K c = some (t, K')) : Inj K' ∧ K'.length ≤ 6000 ∧ Gd cap K' ∧ Grow K K' ∧ K'[t]? = some c := by
  by_cases he : ∃ t : Nat, K[t]? = some c
  · obtain ⟨t', ht'⟩ := he
    rw [numb_old hI ht'] at h
    obtain ⟨rfl, rfl⟩ := Prod.mk.inj (Option.some.inj h)
    exact ⟨hI, hl, hG, Grow.refl K, ht'⟩
  · have hn : ∀ t : Nat, ¬ K[t]? = some c := fun t z => he ⟨t, z⟩
    by_cases hlt : K.length < 6000
    · rw [numb_new hn hlt] at h
      obtain ⟨rfl, rfl⟩ := Prod.mk.inj (Option.some.inj h)
      refine ⟨inj_snoc hI hn, by rw [List.length_append, List.length_singleton]; omega, fun i x hx => ?_, Grow.snoc K c, snoc_at K c⟩
      rw [List.getElem?_append] at hx
      by_cases hi : i < K.length
      · rw [if_pos hi] at hx; exact hG i x hx
      · rw [if_neg hi] at hx
        by_cases h0 : i - K.length = 0
        · rw [h0] at hx
          obtain rfl : c = x := Option.some.inj hx
          exact hc
        · obtain ⟨j, hj⟩ : ∃ j, i - K.length = j + 1 := ⟨i - K.length - 1, by omega⟩
          rw [hj] at hx; exact absurd hx (by simp)
    · rw [numb_none hn hlt] at h; exact absurd h (by simp)
theorem snoc_edge {T : Type} (E : List T) (e : T) : (E ++ [e])[E.length]? = some e := by
  rw [List.getElem?_append, if_neg (by omega), Nat.sub_self]; rfl
theorem snoc_pre {T : Type} (E : List T) (e : T) {i : Nat} {x : T} (h : E[i]? = some x) : (E ++ [e])[i]? = some x := by
  have hi : i < E.length := (List.getElem?_eq_some_iff.mp h).1
  rw [List.getElem?_append, if_pos hi]; exact h
/-- the edges of one state, and the states that are new -/
theorem expActs_facts {cap lab ack cop : Nat} (hcap : cap ≤ 2) (hlab : lab ≤ 4) (hack : ack ≤ 7) (hcop : cop ≤ 4) {c : Int64} (hc : Good cap c) : ∀ (as : List Act) (K : List Int64) (E : List Edge) (K' : List Int64) (E' : List Edge), Ok lab c as → Inj K → K.length ≤ 6000 → Gd cap K → expActs cap lab ack cop c as K E = some (K', E') → Inj K' ∧ K'.length ≤ 6000 ∧ Gd cap K' ∧ Grow K K' ∧ E'.length = E.length + as.length ∧ (∀ (i : Nat) (e : Edge), E[i]? = some e → E'[i]? = some e) ∧ (∀ (j : Nat) (a : Act), as[j]? = some a → ∃ t, E'[E.length + j]? = some (t, a, (stp cap lab ack cop c a.1 a.2.1 a.2.2).2.1) ∧ K'[t]? = some (stp cap lab ack cop c a.1 a.2.1 a.2.2).1) := by
  intro as
  induction as with
  | nil =>
    intro K E K' E' _ hI hl hG h
    obtain ⟨rfl, rfl⟩ := Prod.mk.inj (Option.some.inj h)
    exact ⟨hI, hl, hG, Grow.refl _, rfl, fun i e h => h, fun j a h => by simp at h⟩
  | cons a as ih =>
    intro K E K' E' hOk hI hl hG h
    simp only [expActs] at h
    cases hn : numb K (stp cap lab ack cop c a.1 a.2.1 a.2.2).1 with
    | none => rw [hn] at h; exact absurd h (by simp)
    | some r =>
      rw [hn] at h
      obtain ⟨t, K1⟩ := r
      have ha := hOk a List.mem_cons_self
      obtain ⟨g1, g2, g3, g4, g5⟩ := numb_facts hI hl hG (stp_good (ack := ack) (cop := cop) hcap hlab hack hcop hc ha.1 ha.2) hn
      obtain ⟨k1, k2, k3, k4, k5, k6, k7⟩ := ih K1 _ K' E' (fun x hx => hOk x (List.mem_cons_of_mem _ hx)) g1 g2 g3 h
      rw [List.length_append, List.length_singleton] at k5 k7
      refine ⟨k1, k2, k3, g4.trans k4, by rw [k5, List.length_cons]; omega, fun i e he => k6 i e (snoc_pre E _ he), fun j b hb => ?_⟩
      cases j with
      | zero =>
        obtain rfl : a = b := Option.some.inj hb
        exact ⟨t, k6 _ _ (snoc_edge E _), k4.2 _ _ g5⟩
      | succ j =>
        obtain ⟨t', e1, e2⟩ := k7 j b hb
        exact ⟨t', by rw [show E.length + (j + 1) = E.length + 1 + j by omega]; exact e1, e2⟩
/-- the chart's edges in the class's array -/
def CE (E : List Edge) (A35 : Nat → Int32) : Prop := Hold (fun i e => A35 i = Int32.ofNat (4 * e.1 + mkOf e.2.2)) E
def CF (Fs : List Nat) (A : Nat → Int32) : Prop := Hold (fun i x => A i = Int32.ofNat x) Fs
theorem mark_eq : ∀ o : Fin 8, fX1_markOf (Int32.ofNat o.val) = Int32.ofNat (mkOf o.val) := by decide +kernel
theorem good_hz {cap : Nat} {c : Int64} (h : Good cap c) : Hz c := h.2.elim fun _ hS => hS.hz
theorem cExp {cap lab ack cop : Nat} (hcap : cap ≤ 2) (hlab : lab ≤ 4) (hack : ack ≤ 7) (hcop : cop ≤ 4) {c : Int64} (hc : Good cap c) {k : Nat} {L : List Act} {A33 : Nat → Int32} (hL : Hc A33 L) (hOk : Ok lab c L) (hlen : L.length ≤ 10) {F : Nat} (hF : 16390 ≤ F) (x312 : Int32) (A30 : Nat → Int32) : ∀ (as pre : List Act) (F' : Nat) (K : List Int64) (E : List Edge) (A35 A37 : Nat → Int32) (A38 : Nat → Int64), L = pre ++ as → as.length < F' → CA K A37 A38 → CE E A35 → K[k]? = some c → E.length + as.length ≤ 60000 →
    (∃ (K' : List Int64) (E' : List Edge) (A35' A37' : Nat → Int32) (A38' : Nat → Int64), expActs cap lab ack cop c as K E = some (K', E') ∧ gloop (fun u6 : (Int32 × Int32 × Int32 × (Nat → Int32) × (Nat → Int32) × (Nat → Int64)) => fX1_expandAll_S36 F (Int32.ofNat cap) (Int32.ofNat lab) (Int32.ofNat ack) (Int32.ofNat cop) (Int32.ofNat k) (Int32.ofNat L.length) x312 A30 A33 u6.1 u6.2.1 u6.2.2.1 u6.2.2.2.1 u6.2.2.2.2.1 u6.2.2.2.2.2) F' (Int32.ofNat E.length, Int32.ofNat pre.length, Int32.ofNat K.length, A35, A37, A38) = some (.inr (Int32.ofNat E'.length, Int32.ofNat K'.length, A35', A37', A38')) ∧ CA K' A37' A38' ∧ CE E' A35')
    ∨ (expActs cap lab ack cop c as K E = none ∧ ∃ x, gloop (fun u6 : (Int32 × Int32 × Int32 × (Nat → Int32) × (Nat → Int32) × (Nat → Int64)) => fX1_expandAll_S36 F (Int32.ofNat cap) (Int32.ofNat lab) (Int32.ofNat ack) (Int32.ofNat cop) (Int32.ofNat k) (Int32.ofNat L.length) x312 A30 A33 u6.1 u6.2.1 u6.2.2.1 u6.2.2.2.1 u6.2.2.2.2.1 u6.2.2.2.2.2) F' (Int32.ofNat E.length, Int32.ofNat pre.length, Int32.ofNat K.length, A35, A37, A38) = some (.inl x)) := by
  intro as
  induction as with
  | nil =>
    intro pre F' K E A35 A37 A38 hLe hF' hCA hCE hk hE
    obtain ⟨G, rfl⟩ : ∃ G, F' = G + 1 := ⟨F' - 1, by omega⟩
    left
    refine ⟨K, E, A35, A37, A38, rfl, ?_, hCA, hCE⟩
    rw [List.append_nil] at hLe
    simp only [gloop]
    unfold fX1_expandAll_S36
    rw [hLe, if_pos ((i32_le (by rw [← hLe]; omega) (by rw [← hLe]; omega)).mpr (Nat.le_refl _))]
  | cons a as ih =>
    intro pre F' K E A35 A37 A38 hLe hF' hCA hCE hk hE
    rw [List.length_cons] at hF' hE
    obtain ⟨G, rfl⟩ : ∃ G, F' = G + 1 := ⟨F' - 1, by omega⟩
    have hLl : L.length = pre.length + (as.length + 1) := by rw [hLe, List.length_append, List.length_cons]
    have hLa : L[pre.length]? = some a := by rw [hLe, List.getElem?_append, if_neg (by omega), Nat.sub_self]; rfl
    have haL : a ∈ L := List.mem_of_getElem? hLa
    obtain ⟨hta, hto⟩ := hOk a haL
    obtain ⟨hw5, hk8⟩ := there_lt hlab hta
    have hK6 : K.length ≤ 6000 := by obtain ⟨_, _, _, _, _, h⟩ := hCA; exact h
    have hSA : SA K A38 := by obtain ⟨_, _, _, h, _⟩ := hCA; exact h
    have hst : fX1_expandAll_S36 F (Int32.ofNat cap) (Int32.ofNat lab) (Int32.ofNat ack) (Int32.ofNat cop) (Int32.ofNat k) (Int32.ofNat L.length) x312 A30 A33 (Int32.ofNat E.length) (Int32.ofNat pre.length) (Int32.ofNat K.length) A35 A37 A38 = ((fX1_numberOf F (Int32.ofNat K.length) A37 A38 (stp cap lab ack cop c a.1 a.2.1 a.2.2).1).bind (fun r12 => (if r12.1 = (-1) then some (.inl (.inl (r12.2.1, A35, r12.2.2.1, r12.2.2.2))) else some (.inr (Int32.ofNat (E.length + 1), Int32.ofNat (pre.length + 1), r12.2.1, (cPut 60000 A35 (Int32.ofNat E.length) ((4 * r12.1) + Int32.ofNat (mkOf (stp cap lab ack cop c a.1 a.2.1 a.2.2).2.1))), r12.2.2.1, r12.2.2.2))))) := by
      unfold fX1_expandAll_S36
      rw [if_neg (fun z => by have := (i32_le (by omega) (by omega)).mp z; omega), if_neg (fun z => by have := (i32_le (a := 10) (by decide) (by omega)).mp z; omega), stateAt_eq hSA hk hK6]
      simp only [Option.bind_some]
      have hf := stp_facts (cap := cap) (ack := ack) (cop := cop) (told := a.2.2) hta
      have hzs : Hz (stp cap lab ack cop c a.1 a.2.1 a.2.2).1 := good_hz (stp_good hcap hlab hack hcop hc hta hto)
      rw [cAt_nat (by omega) (by decide), show A33 pre.length = codeN a.1 a.2.1 a.2.2 from hL _ _ hLa, after_eq hcap hlab hack hcop hc.1 hta hto, kx_state hzs (by omega) hw5 hf.2.1, kx_out hzs (by omega) hw5 hf.2.1, show fX1_markOf (Int32.ofNat (stp cap lab ack cop c a.1 a.2.1 a.2.2).2.1) = Int32.ofNat (mkOf (stp cap lab ack cop c a.1 a.2.1 a.2.2).2.1) from mark_eq ⟨_, Nat.lt_of_lt_of_le hf.1 (by decide)⟩, i32_succ, i32_succ]
    simp only [gloop, hst, expActs]
    rcases cNumb hCA (stp cap lab ack cop c a.1 a.2.1 a.2.2).1 hF with ⟨t, K', A37', A38', e1, e2, e3, e4, e5⟩ | ⟨e1, e2⟩
    · have htl : t < K'.length := (List.getElem?_eq_some_iff.mp e5).1
      have hK6' : K'.length ≤ 6000 := by obtain ⟨_, _, _, _, _, h⟩ := e3; exact h
      rw [e1, e2]
      simp only [Option.bind_some]
      rw [if_neg (show ¬ Int32.ofNat t = -1 from fun z => by have h9 := congrArg Int32.toInt z; rw [i32_int (by omega)] at h9; have h8 : (-1 : Int32).toInt = -1 := rfl; omega)]
      have hCE' : CE (E ++ [(t, a, (stp cap lab ack cop c a.1 a.2.1 a.2.2).2.1)]) (cPut 60000 A35 (Int32.ofNat E.length) (4 * Int32.ofNat t + Int32.ofNat (mkOf (stp cap lab ack cop c a.1 a.2.1 a.2.2).2.1))) := by
        unfold cPut
        rw [if_pos (inb_t (by omega) (by omega)), tnc (by omega), show (4 : Int32) * Int32.ofNat t = Int32.ofNat (4 * t) from i32_mul 4 t, i32_add]
        exact hold_snoc hCE (fun i x hi e => by rw [upd_ne (by omega)]; exact e) (upd_at _ _ _)
      have := ih (pre ++ [a]) G K' (E ++ [(t, a, (stp cap lab ack cop c a.1 a.2.1 a.2.2).2.1)]) _ A37' A38' (by rw [hLe, List.append_assoc]; rfl) (by omega) e3 hCE' (e4.2 _ _ hk) (by rw [List.length_append, List.length_singleton]; omega)
      rw [List.length_append, List.length_append, List.length_singleton, List.length_singleton] at this
      exact this
    · rw [e1, e2]
      simp only [Option.bind_some, ↓reduceIte]
      exact Or.inr ⟨trivial, _, rfl⟩
theorem acts5_pos (lab ack : Nat) (c : Int64) (d : Bool) : 1 ≤ (acts5 lab ack c d).length := by
  unfold acts5 acts3
  simp only [List.length_append, List.length_cons]
  omega
theorem cExpAll {cap lab ack cop : Nat} (hcap : cap ≤ 2) (hlab : lab ≤ 4) (hack : ack ≤ 7) (hcop : cop ≤ 4) {F : Nat} (hF : 16390 ≤ F) : ∀ (n k F' : Nat) (K : List Int64) (E : List Edge) (Fs : List Nat) (x311 x312 : Int32) (A30 A33 A35 A37 : Nat → Int32) (A38 : Nat → Int64), k + n = 6001 → n < F' → k ≤ K.length → Gd cap K → CA K A37 A38 → CE E A35 → CF Fs A30 → Fs.length = k + 1 → E.length ≤ 10 * k →
    (∃ (K' : List Int64) (E' : List Edge) (Fs' : List Nat) (y311 y312 : Int32) (A30' A33' A35' A37' : Nat → Int32) (A38' : Nat → Int64), expAll cap lab ack cop n k K E Fs = some (K', E', Fs') ∧ gloop (fun u1 : (Int32 × Int32 × Int32 × Int32 × Int32 × (Nat → Int32) × (Nat → Int32) × (Nat → Int32) × (Nat → Int32) × (Nat → Int64)) => fX1_expandAll_S4 F (Int32.ofNat cap) (Int32.ofNat lab) (Int32.ofNat ack) (Int32.ofNat cop) u1.1 u1.2.1 u1.2.2.1 u1.2.2.2.1 u1.2.2.2.2.1 u1.2.2.2.2.2.1 u1.2.2.2.2.2.2.1 u1.2.2.2.2.2.2.2.1 u1.2.2.2.2.2.2.2.2.1 u1.2.2.2.2.2.2.2.2.2) F' (Int32.ofNat E.length, Int32.ofNat k, Int32.ofNat K.length, x311, x312, A30, A33, A35, A37, A38) = some (.inr (Int32.ofNat K'.length, y311, y312, A30', A33', A35', A37', A38')) ∧ CA K' A37' A38' ∧ CE E' A35' ∧ CF Fs' A30')
    ∨ (expAll cap lab ack cop n k K E Fs = none ∧ ∃ x, gloop (fun u1 : (Int32 × Int32 × Int32 × Int32 × Int32 × (Nat → Int32) × (Nat → Int32) × (Nat → Int32) × (Nat → Int32) × (Nat → Int64)) => fX1_expandAll_S4 F (Int32.ofNat cap) (Int32.ofNat lab) (Int32.ofNat ack) (Int32.ofNat cop) u1.1 u1.2.1 u1.2.2.1 u1.2.2.2.1 u1.2.2.2.2.1 u1.2.2.2.2.2.1 u1.2.2.2.2.2.2.1 u1.2.2.2.2.2.2.2.1 u1.2.2.2.2.2.2.2.2.1 u1.2.2.2.2.2.2.2.2.2) F' (Int32.ofNat E.length, Int32.ofNat k, Int32.ofNat K.length, x311, x312, A30, A33, A35, A37, A38) = some (.inl x)) := by
  intro n
  induction n with
  | zero =>
    intro k F' K E Fs x311 x312 A30 A33 A35 A37 A38 hkn _ hkK _ hCA
    have hK6 : K.length ≤ 6000 := by obtain ⟨_, _, _, _, _, h⟩ := hCA; exact h
    omega
  | succ n ih =>
    intro k F' K E Fs x311 x312 A30 A33 A35 A37 A38 hkn hF' hkK hG hCA hCE hCF hFs hE
    obtain ⟨G, rfl⟩ : ∃ G, F' = G + 1 := ⟨F' - 1, by omega⟩
    have hK6 : K.length ≤ 6000 := by obtain ⟨_, _, _, _, _, h⟩ := hCA; exact h
    have hSA : SA K A38 := by obtain ⟨_, _, _, h, _⟩ := hCA; exact h
    have hI : Inj K := by obtain ⟨_, _, _, _, h, _⟩ := hCA; exact h
    by_cases hke : k < K.length
    · have hk : K[k]? = some K[k] := List.getElem?_eq_getElem hke
      generalize K[k] = c at hk
      have hc := hG k c hk
      have hlen := acts_len (ack := ack) (d := true) hcap hlab hc.1
      obtain ⟨B, eL, hB⟩ := list_eq (d := true) (pd := 1) hcap hlab hack hc.1 (by decide) (F := F) (by omega) x311 x312 A33
      have inner := cExp hcap hlab hack hcop hc hB (acts5_ok lab ack c true) hlen hF (Int32.ofNat (acts3 lab ack c true).length) A30 (k := k) (acts5 lab ack c true) [] F K E A35 A37 A38 rfl (by omega) hCA hCE hk (by omega)
      have hst : fX1_expandAll_S4 F (Int32.ofNat cap) (Int32.ofNat lab) (Int32.ofNat ack) (Int32.ofNat cop) (Int32.ofNat E.length) (Int32.ofNat k) (Int32.ofNat K.length) x311 x312 A30 A33 A35 A37 A38 = (gloop (fun u6 : (Int32 × Int32 × Int32 × (Nat → Int32) × (Nat → Int32) × (Nat → Int64)) => fX1_expandAll_S36 F (Int32.ofNat cap) (Int32.ofNat lab) (Int32.ofNat ack) (Int32.ofNat cop) (Int32.ofNat k) (Int32.ofNat (acts5 lab ack c true).length) (Int32.ofNat (acts3 lab ack c true).length) A30 B u6.1 u6.2.1 u6.2.2.1 u6.2.2.2.1 u6.2.2.2.2.1 u6.2.2.2.2.2) F (Int32.ofNat E.length, Int32.ofNat 0, Int32.ofNat K.length, A35, A37, A38)).bind (Sum.elim (fun t6_96 => some (.inl (.inl (t6_96.1, Int32.ofNat (acts5 lab ack c true).length, Int32.ofNat (acts3 lab ack c true).length, A30, B, t6_96.2.1, t6_96.2.2.1, t6_96.2.2.2)))) (fun t6_128 => some (.inr (t6_128.1, Int32.ofNat (k + 1), t6_128.2.1, Int32.ofNat (acts5 lab ack c true).length, Int32.ofNat (acts3 lab ack c true).length, (cPut 6001 A30 (Int32.ofNat (k + 1)) t6_128.1), B, t6_128.2.2.1, t6_128.2.2.2.1, t6_128.2.2.2.2)))) := by
        unfold fX1_expandAll_S4 fX1_expandAll_J128
        rw [if_neg (fun z => by have := (i32_le (by omega) (by omega)).mp z; omega), if_neg (fun z => by have := (i32_le (a := 6000) (by decide) (by omega)).mp z; omega), stateAt_eq hSA hk hK6]
        simp only [Option.bind_some]
        rw [eL, i32_succ]
        rfl
      simp only [gloop, hst, expAll, hk]
      rcases inner with ⟨K', E', A35', A37', A38', e1, e2, e3, e4⟩ | ⟨e1, x, e2⟩
      · obtain ⟨q1, q2, q3, q4, q5, q6, q7⟩ := expActs_facts hcap hlab hack hcop hc _ _ _ _ _ (acts5_ok lab ack c true) hI hK6 hG e1
        rw [show Int32.ofNat ([] : List Act).length = Int32.ofNat 0 from rfl] at e2
        rw [e1, e2]
        simp only [Option.bind_some, Sum.elim_inr]
        refine ih (k + 1) G K' E' (Fs ++ [E'.length]) _ _ _ B A35' A37' A38' (by omega) (by omega) (by have := q4.1; omega) q3 e3 e4 ?_ (by rw [List.length_append, List.length_singleton, hFs]) (by omega)
        unfold cPut
        rw [if_pos (inb_t (by omega) (by omega)), tnc (by omega)]
        refine hold_snoc hCF (fun i x hi e => by rw [upd_ne (by omega)]; exact e) ?_
        rw [hFs]
        exact upd_at _ _ _
      · rw [show Int32.ofNat ([] : List Act).length = Int32.ofNat 0 from rfl] at e2
        rw [e1, e2]
        simp only [Option.bind_some, Sum.elim_inl]
        exact Or.inr ⟨trivial, _, rfl⟩
    · left
      have hk : K[k]? = none := List.getElem?_eq_none (by omega)
      refine ⟨K, E, Fs, x311, x312, A30, A33, A35, A37, A38, by simp only [expAll, hk], ?_, hCA, hCE, hCF⟩
      simp only [gloop]
      unfold fX1_expandAll_S4
      rw [if_pos ((i32_le (by omega) (by omega)).mpr (by omega))]
/-- the class's chart of a state -/
theorem ca_empty (A37 : Nat → Int32) (A38 : Nat → Int64) : CA [] (cFill 16384 A37 0) A38 := ⟨fun _ => 0, ht_empty _, fun s hs => if_pos hs, fun i c h => by simp at h, fun i j c h => by simp at h, by decide⟩
theorem chart_eq {cap lab ack cop : Nat} (hcap : cap ≤ 2) (hlab : lab ≤ 4) (hack : ack ≤ 7) (hcop : cop ≤ 4) {F : Nat} (hF : 16390 ≤ F) {c : Int64} (hc : Good cap c) (x282 x283 x311 x312 : Int32) (A30 A33 A35 A37 : Nat → Int32) (A38 : Nat → Int64) :
    (∃ (K' : List Int64) (E' : List Edge) (Fs' : List Nat) (y311 y312 : Int32) (A30' A33' A35' A37' : Nat → Int32) (A38' : Nat → Int64), expAll cap lab ack cop 6001 0 [c] [] [0] = some (K', E', Fs') ∧ fX1_chart F (Int32.ofNat cap) (Int32.ofNat lab) (Int32.ofNat ack) (Int32.ofNat cop) x282 x283 x311 x312 A30 A33 A35 A37 A38 c = some (Int32.ofNat K'.length, 1, y311, y312, A30', A33', A35', A37', A38') ∧ CA K' A37' A38' ∧ CE E' A35' ∧ CF Fs' A30')
    ∨ (expAll cap lab ack cop 6001 0 [c] [] [0] = none ∧ ∃ x, fX1_chart F (Int32.ofNat cap) (Int32.ofNat lab) (Int32.ofNat ack) (Int32.ofNat cop) x282 x283 x311 x312 A30 A33 A35 A37 A38 c = some x ∧ x.2.1 = 0) := by
  unfold fX1_chart fX1_clear
  dsimp only
  rcases cNumb (ca_empty A37 A38) c hF with ⟨t, K', A37', A38', e1, e2, e3, e4, e5⟩ | ⟨e1, e2⟩
  · rw [show Int32.ofNat ([] : List Int64).length = 0 from rfl] at e2
    rw [numb_new (fun t h => by simp at h) (by decide)] at e1
    obtain ⟨rfl, rfl⟩ := Prod.mk.inj (Option.some.inj e1)
    rw [e2]
    simp only [Option.bind_some]
    have hCF : CF [0] (cPut 6001 A30 0 0) := by
      intro i x hx
      cases i with
      | zero =>
        obtain rfl : 0 = x := Option.some.inj hx
        unfold cPut
        rw [if_pos (by decide)]; exact upd_at _ _ _
      | succ i => simp at hx
    have key := cExpAll hcap hlab hack hcop hF 6001 0 F ([] ++ [c]) [] [0] x311 x312 (cPut 6001 A30 0 0) A33 A35 A37' A38' (by decide) (by omega) (Nat.zero_le _) (fun i x hx => by
      cases i with
      | zero => obtain rfl : c = x := Option.some.inj hx; exact hc
      | succ i => simp at hx) e3 (fun i x hx => by simp at hx) hCF rfl (by decide)
    unfold fX1_expandAll
    rcases key with ⟨K', E', Fs', y311, y312, B30, B33, B35, B37, B38, k1, k2, k3, k4, k5⟩ | ⟨k1, x, k2⟩
    · left
      rw [show Int32.ofNat ([] : List Edge).length = 0 from rfl, show Int32.ofNat 0 = 0 from rfl] at k2
      rw [k2]
      simp only [Option.bind_some, Sum.elim_inr]
      rw [if_pos (by decide)]
      exact ⟨_, _, _, _, _, _, _, _, _, _, k1, rfl, k3, k4, k5⟩
    · right
      rw [show Int32.ofNat ([] : List Edge).length = 0 from rfl, show Int32.ofNat 0 = 0 from rfl] at k2
      rw [k2]
      simp only [Option.bind_some, Sum.elim_inl]
      rw [if_pos (by decide)]
      exact ⟨k1, _, rfl, rfl⟩
  · rw [numb_new (fun t h => by simp at h) (by decide)] at e1
    exact absurd e1 (by simp)
