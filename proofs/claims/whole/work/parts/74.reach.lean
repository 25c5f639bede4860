/-! part 74: the reference reaches what the class charts -/
theorem mEdgesOf {cap lab ack cop : Nat} (hcap : cap ≤ 2) (h1 : 1 ≤ lab) (hlab : lab ≤ 4) (hack : ack ≤ 7) (hcop : cop ≤ 4) {F : Nat} (hF : 16390 ≤ F) {k : Nat} {K M : List Int64} {E : List Edge} {Fs : List Nat} {c : Int64} (hk : K[k]? = some c) (hc : Lg cap c) (hKM : KM K M) {A79 : Nat → Int64} {A80 A81 A82 A83 A84 A85 A86 : Nat → Int32} (hMA : MA M A79 A80) (hME : ME E A82 A83 A84 A85 A86) (hCF : 1 ≤ k → CF Fs A81) (hFs : Fs.length = k + 1) (hFl : Fs[k]? = some E.length) (hE : E.length ≤ 10 * k) (x19 : Int64) (x20 x21 : Int32) (A76 A77 A78 : Nat → Int32) :
    (∃ (K' M' : List Int64) (E' : List Edge) (y19 : Int64) (y20 y21 : Int32) (A76' A77' A78' : Nat → Int32) (A79' : Nat → Int64) (A80' A81' A82' A83' A84' A85' A86' : Nat → Int32), expActs cap lab ack cop c (acts5 lab ack c true) K E = some (K', E') ∧ fX12_edgesOf F (Int32.ofNat cap) (Int32.ofNat lab) (Int32.ofNat cop) (Int32.ofNat ack) x19 x20 x21 (Int32.ofNat M.length) (Int32.ofNat E.length) A76 A77 A78 A79 A80 A81 A82 A83 A84 A85 A86 (Int32.ofNat k) = some (1, y19, y20, y21, Int32.ofNat M'.length, Int32.ofNat E'.length, A76', A77', A78', A79', A80', A81', A82', A83', A84', A85', A86') ∧ KM K' M' ∧ MA M' A79' A80' ∧ ME E' A82' A83' A84' A85' A86' ∧ CF (Fs ++ [E'.length]) A81')
    ∨ (expActs cap lab ack cop c (acts5 lab ack c true) K E = none ∧ ∃ r, fX12_edgesOf F (Int32.ofNat cap) (Int32.ofNat lab) (Int32.ofNat cop) (Int32.ofNat ack) x19 x20 x21 (Int32.ofNat M.length) (Int32.ofNat E.length) A76 A77 A78 A79 A80 A81 A82 A83 A84 A85 A86 (Int32.ofNat k) = some (0, r)) := by
  have hM6 : M.length ≤ 6000 := by obtain ⟨_, _, _, _, _, h⟩ := hMA; exact h
  have hSA : SA M A79 := by obtain ⟨_, _, _, h, _⟩ := hMA; exact h
  obtain ⟨m, hm, hS⟩ := hKM.at hk
  have hkl : k < M.length := (List.getElem?_eq_some_iff.mp hm).1
  have hlen := acts_len (ack := ack) (d := false) hcap hlab hc
  obtain ⟨A', B', C', eL, hL⟩ := lays_acts hcap hS hc h1 hlab ack A76 A77 A78 (pl := 1) (F := F) (by omega)
  rw [if_neg (by decide)] at eL hL
  unfold fX12_edgesOf
  rw [if_pos (inb_t (by omega) (by omega)), if_pos (inb_t (by omega) (by omega)), tnc (show k < 2 ^ 31 by omega), hSA k m hm, eL]
  simp only [Option.bind_some]
  rcases mExp hcap hlab hack hcop hS hc (k := k) hL (acts5_ok lab ack c false) hlen hF (upd A81 k (Int32.ofNat E.length)) (acts5 lab ack c false) [] F K M E x19 x20 x21 A79 A80 A82 A83 A84 A85 A86 rfl (by omega) hKM hMA hME hm (by omega) with ⟨K', M', E', y19, y20, y21, A79', A80', A82', A83', A84', A85', A86', e1, e2, e3, e4, e5, e6⟩ | ⟨e1, x, e2, e3⟩
  · rw [show Int32.ofNat ([] : List Act).length = 0 from rfl] at e2
    rw [tels_acts] at e1
    rw [e2]
    simp only [Option.bind_some, Sum.elim_inr]
    rw [i32_succ, if_pos (inb_t (by omega) (by omega)), tnc (show k + 1 < 2 ^ 31 by omega)]
    refine Or.inl ⟨K', M', E', _, _, _, _, _, _, _, _, _, _, _, _, _, _, e1, rfl, e3, e4, e5, ?_⟩
    have hCF' : CF Fs (upd A81 k (Int32.ofNat E.length)) := by
      intro i v hv
      by_cases hik : i = k
      · subst hik
        rw [hFl] at hv
        obtain rfl := Option.some.inj hv
        exact upd_at _ _ _
      · show upd A81 k (Int32.ofNat E.length) i = _
        have hi : i < Fs.length := (List.getElem?_eq_some_iff.mp hv).1
        rw [upd_ne hik]; exact hCF (by omega) i v hv
    refine hold_snoc hCF' (fun i v hi e => by rw [upd_ne (by omega)]; exact e) ?_
    rw [hFs]; exact upd_at _ _ _
  · rw [show Int32.ofNat ([] : List Act).length = 0 from rfl] at e2
    rw [tels_acts] at e1
    rw [e2]
    simp only [Option.bind_some]
    refine Or.inr ⟨e1, ?_⟩
    rcases x with x | x | x
    · exact ⟨_, rfl⟩
    · exact ⟨_, rfl⟩
    · exact absurd rfl (e3 x)
abbrev RT := Int64 × Int32 × Int32 × Int32 × Int32 × (Nat → Int32) × (Nat → Int32) × (Nat → Int32) × (Nat → Int64) × (Nat → Int32) × (Nat → Int32) × (Nat → Int32) × (Nat → Int32) × (Nat → Int32) × (Nat → Int32) × (Nat → Int32)
theorem mExpAll {cap lab ack cop : Nat} (hcap : cap ≤ 2) (h1 : 1 ≤ lab) (hlab : lab ≤ 4) (hack : ack ≤ 7) (hcop : cop ≤ 4) {F : Nat} (hF : 16390 ≤ F) : ∀ (n k F' : Nat) (K M : List Int64) (E : List Edge) (Fs : List Nat) (x19 : Int64) (x20 x21 : Int32) (A76 A77 A78 : Nat → Int32) (A79 : Nat → Int64) (A80 A81 A82 A83 A84 A85 A86 : Nat → Int32), k + n = 6001 → n < F' → k ≤ K.length → 1 ≤ K.length → Gd cap K → KM K M → MA M A79 A80 → ME E A82 A83 A84 A85 A86 → (1 ≤ k → CF Fs A81) → Fs.length = k + 1 → Fs[k]? = some E.length → E.length ≤ 10 * k →
    (∃ (K' M' : List Int64) (E' : List Edge) (Fs' : List Nat) (y19 : Int64) (y20 y21 : Int32) (A76' A77' A78' : Nat → Int32) (A79' : Nat → Int64) (A80' A81' A82' A83' A84' A85' A86' : Nat → Int32), expAll cap lab ack cop n k K E Fs = some (K', E', Fs') ∧ gloop (fun u4 : (Int32 × RT) => fX12_reaches_S17 F (Int32.ofNat cap) (Int32.ofNat lab) (Int32.ofNat cop) (Int32.ofNat ack) u4.1 u4.2.1 u4.2.2.1 u4.2.2.2.1 u4.2.2.2.2.1 u4.2.2.2.2.2.1 u4.2.2.2.2.2.2.1 u4.2.2.2.2.2.2.2.1 u4.2.2.2.2.2.2.2.2.1 u4.2.2.2.2.2.2.2.2.2.1 u4.2.2.2.2.2.2.2.2.2.2.1 u4.2.2.2.2.2.2.2.2.2.2.2.1 u4.2.2.2.2.2.2.2.2.2.2.2.2.1 u4.2.2.2.2.2.2.2.2.2.2.2.2.2.1 u4.2.2.2.2.2.2.2.2.2.2.2.2.2.2.1 u4.2.2.2.2.2.2.2.2.2.2.2.2.2.2.2.1 u4.2.2.2.2.2.2.2.2.2.2.2.2.2.2.2.2) F' (Int32.ofNat k, x19, x20, x21, Int32.ofNat M.length, Int32.ofNat E.length, A76, A77, A78, A79, A80, A81, A82, A83, A84, A85, A86) = some (.inr (y19, y20, y21, Int32.ofNat M'.length, Int32.ofNat E'.length, A76', A77', A78', A79', A80', A81', A82', A83', A84', A85', A86')) ∧ KM K' M' ∧ MA M' A79' A80' ∧ ME E' A82' A83' A84' A85' A86' ∧ CF Fs' A81')
    ∨ (expAll cap lab ack cop n k K E Fs = none ∧ ∃ x, gloop (fun u4 : (Int32 × RT) => fX12_reaches_S17 F (Int32.ofNat cap) (Int32.ofNat lab) (Int32.ofNat cop) (Int32.ofNat ack) u4.1 u4.2.1 u4.2.2.1 u4.2.2.2.1 u4.2.2.2.2.1 u4.2.2.2.2.2.1 u4.2.2.2.2.2.2.1 u4.2.2.2.2.2.2.2.1 u4.2.2.2.2.2.2.2.2.1 u4.2.2.2.2.2.2.2.2.2.1 u4.2.2.2.2.2.2.2.2.2.2.1 u4.2.2.2.2.2.2.2.2.2.2.2.1 u4.2.2.2.2.2.2.2.2.2.2.2.2.1 u4.2.2.2.2.2.2.2.2.2.2.2.2.2.1 u4.2.2.2.2.2.2.2.2.2.2.2.2.2.2.1 u4.2.2.2.2.2.2.2.2.2.2.2.2.2.2.2.1 u4.2.2.2.2.2.2.2.2.2.2.2.2.2.2.2.2) F' (Int32.ofNat k, x19, x20, x21, Int32.ofNat M.length, Int32.ofNat E.length, A76, A77, A78, A79, A80, A81, A82, A83, A84, A85, A86) = some (.inl x)) := by
  intro n
  induction n with
  | zero =>
    intro k F' K M E Fs x19 x20 x21 A76 A77 A78 A79 A80 A81 A82 A83 A84 A85 A86 hkn _ hkK _ _ hKM hMA
    have hM6 : M.length ≤ 6000 := by obtain ⟨_, _, _, _, _, h⟩ := hMA; exact h
    have := hKM.1
    omega
  | succ n ih =>
    intro k F' K M E Fs x19 x20 x21 A76 A77 A78 A79 A80 A81 A82 A83 A84 A85 A86 hkn hF' hkK hK1 hG hKM hMA hME hCF hFs hFl hE
    obtain ⟨G, rfl⟩ : ∃ G, F' = G + 1 := ⟨F' - 1, by omega⟩
    have hM6 : M.length ≤ 6000 := by obtain ⟨_, _, _, _, _, h⟩ := hMA; exact h
    have hIM : Inj M := by obtain ⟨_, _, _, _, h, _⟩ := hMA; exact h
    have hIK := hKM.inj hIM
    have hlenKM := hKM.1
    by_cases hke : k < K.length
    · have hk : K[k]? = some K[k] := List.getElem?_eq_getElem hke
      generalize K[k] = c at hk
      have hc := hG k c hk
      simp only [gloop, expAll, hk]
      unfold fX12_reaches_S17
      rw [if_neg (fun z => by have := (i32_le (by omega) (by omega)).mp z; omega)]
      rcases mEdgesOf hcap h1 hlab hack hcop hF hk hc.1 hKM hMA hME hCF hFs hFl hE x19 x20 x21 A76 A77 A78 with ⟨K', M', E', y19, y20, y21, A76', A77', A78', A79', A80', A81', A82', A83', A84', A85', A86', e1, e2, e3, e4, e5, e6⟩ | ⟨e1, r, e2⟩
      · obtain ⟨q1, q2, q3, q4, q5, q6, q7⟩ := expActs_facts hcap hlab hack hcop hc _ _ _ _ _ (acts5_ok lab ack c true) hIK (by omega) hG e1
        have hlen := acts_len (ack := ack) (d := true) hcap hlab hc.1
        rw [e1, e2]
        simp only [Option.bind_some]
        rw [if_neg (show ¬ (1 : Int32) = 0 by decide), i32_succ]
        refine ih (k + 1) G K' M' E' (Fs ++ [E'.length]) _ _ _ _ _ _ A79' A80' A81' A82' A83' A84' A85' A86' (by omega) (by omega) (by have := q4.1; omega) (by have := q4.1; omega) q3 e3 e4 e5 (fun _ => e6) (by rw [List.length_append, List.length_singleton, hFs]) ?_ (by omega)
        rw [← hFs]; exact snoc_edge Fs _
      · rw [e1, e2]
        simp only [Option.bind_some, ↓reduceIte]
        exact Or.inr ⟨trivial, _, rfl⟩
    · left
      have hk : K[k]? = none := List.getElem?_eq_none (by omega)
      refine ⟨K, M, E, Fs, x19, x20, x21, A76, A77, A78, A79, A80, A81, A82, A83, A84, A85, A86, by simp only [expAll, hk], ?_, hKM, hMA, hME, hCF (by omega)⟩
      simp only [gloop]
      unfold fX12_reaches_S17
      rw [if_pos ((i32_le (by omega) (by omega)).mpr (by omega))]
theorem begins_eq {F : Nat} (hF : 16390 ≤ F) (a b : Int32) (A : Nat → Int32) : ∃ B, fX12_begins F a b A = some (0, 0, B) ∧ ∀ s, s < 16384 → B s = 0 := by
  unfold fX12_begins
  have key := gl_ix (st := fun u3 : (Int32 × (Nat → Int32)) => fX12_begins_S12 F 0 0 u3.1 u3.2) (fun i s => s.1 = Int32.ofNat i ∧ ∀ j, j < i → s.2 j = 0) (fun r => ∀ j, j < 16384 → r j = 0) 16384 (by
    rintro i ⟨v, B⟩ hi ⟨g1, g2⟩
    dsimp only at g1 g2 ⊢
    subst g1
    unfold fX12_begins_S12
    rw [if_neg (fun z => by have := (i32_le (a := 16384) (by decide) (by omega)).mp z; omega), if_pos (inb_t (by omega) hi), tnc (by omega), i32_succ]
    refine ⟨_, rfl, rfl, fun j hj => ?_⟩
    show upd B i 0 j = 0
    by_cases h : j = i
    · subst h; exact upd_at _ _ _
    · rw [upd_ne h]; exact g2 j (by omega)) (by
    rintro ⟨v, B⟩ ⟨g1, g2⟩
    dsimp only at g1 g2 ⊢
    subst g1
    unfold fX12_begins_S12
    rw [if_pos (show (16384 : Int32) ≤ Int32.ofNat 16384 by decide)]
    exact ⟨_, rfl, g2⟩) F 0 (0, A) (by omega) ⟨rfl, fun j hj => by omega⟩ (by omega)
  obtain ⟨r, e, hr⟩ := key
  rw [e]
  exact ⟨r, rfl, hr⟩
theorem reaches_eq {cap lab ack cop : Nat} (hcap : cap ≤ 2) (h1 : 1 ≤ lab) (hlab : lab ≤ 4) (hack : ack ≤ 7) (hcop : cop ≤ 4) {F : Nat} (hF : 16390 ≤ F) {c m : Int64} (hc : Good cap c) (hS : Sx c m) (x19 : Int64) (x20 x21 x22 x27 x35 : Int32) (A76 A77 A78 : Nat → Int32) (A79 : Nat → Int64) (A80 A81 A82 A83 A84 A85 A86 : Nat → Int32) :
    (∃ (K' M' : List Int64) (E' : List Edge) (Fs' : List Nat) (y19 : Int64) (y20 y21 : Int32) (A76' A77' A78' : Nat → Int32) (A79' : Nat → Int64) (A80' A81' A82' A83' A84' A85' A86' : Nat → Int32), expAll cap lab ack cop 6001 0 [c] [] [0] = some (K', E', Fs') ∧ fX12_reaches F (Int32.ofNat cap) (Int32.ofNat lab) (Int32.ofNat cop) x19 x20 x21 x22 x27 x35 A76 A77 A78 A79 A80 A81 A82 A83 A84 A85 A86 m (Int32.ofNat ack) = some (1, y19, y20, y21, Int32.ofNat ack, Int32.ofNat M'.length, Int32.ofNat E'.length, A76', A77', A78', A79', A80', A81', A82', A83', A84', A85', A86') ∧ KM K' M' ∧ MA M' A79' A80' ∧ ME E' A82' A83' A84' A85' A86' ∧ CF Fs' A81')
    ∨ (expAll cap lab ack cop 6001 0 [c] [] [0] = none ∧ ∃ r, fX12_reaches F (Int32.ofNat cap) (Int32.ofNat lab) (Int32.ofNat cop) x19 x20 x21 x22 x27 x35 A76 A77 A78 A79 A80 A81 A82 A83 A84 A85 A86 m (Int32.ofNat ack) = some (0, r)) := by
  unfold fX12_reaches
  obtain ⟨B, eB, hB⟩ := begins_eq hF x27 x35 A80
  have hM0 : MA [] A79 B := ⟨fun _ => 0, ht_empty _, fun s hs => hB s hs, fun i c h => by simp at h, fun i j c h => by simp at h, by decide⟩
  rw [eB]
  simp only [Option.bind_some]
  rcases mFind hM0 m hF with ⟨t, f1, _⟩ | ⟨f1, f2, A79', A80', f3, f4⟩
  · simp at f1
  · rw [show Int32.ofNat ([] : List Int64).length = 0 from rfl] at f3
    rw [f3]
    simp only [Option.bind_some]
    have hKM : KM ([] ++ [c]) ([] ++ [m]) := KM.snoc (K := []) (M := []) ⟨rfl, fun i x y h => by simp at h⟩ hS
    have hG : Gd cap ([] ++ [c]) := fun i x hx => by
      cases i with
      | zero => obtain rfl : c = x := Option.some.inj hx; exact hc
      | succ i => simp at hx
    have key := mExpAll hcap h1 hlab hack hcop hF 6001 0 F ([] ++ [c]) ([] ++ [m]) [] [0] x19 x20 x21 A76 A77 A78 A79' A80' A81 A82 A83 A84 A85 A86 (by decide) (by omega) (Nat.zero_le _) (Nat.le_refl _) hG hKM (f4 (by decide)) (fun i x hx => by simp at hx) (fun z => absurd z (by decide)) rfl rfl (by decide)
    rcases key with ⟨K', M', E', Fs', y19, y20, y21, B76, B77, B78, B79, B80, B81, B82, B83, B84, B85, B86, k1, k2, k3, k4, k5, k6⟩ | ⟨k1, x, k2⟩
    · rw [show Int32.ofNat ([] : List Edge).length = 0 from rfl, show Int32.ofNat 0 = 0 from rfl] at k2
      rw [show Int32.ofNat (([] ++ [m] : List Int64)).length = Int32.ofNat (([] : List Int64).length + 1) from rfl] at k2
      rw [k2]
      exact Or.inl ⟨_, _, _, _, _, _, _, _, _, _, _, _, _, _, _, _, _, _, k1, rfl, k3, k4, k5, k6⟩
    · rw [show Int32.ofNat ([] : List Edge).length = 0 from rfl, show Int32.ofNat 0 = 0 from rfl] at k2
      rw [show Int32.ofNat (([] ++ [m] : List Int64)).length = Int32.ofNat (([] : List Int64).length + 1) from rfl] at k2
      rw [k2]
      exact Or.inr ⟨k1, _, rfl⟩
