/-! part 9l: all states charted -/
section CHAL
variable {F cap lab ack cop : Nat}
theorem lStp_at (mx : List Nat → Nat) (e : Option (List Nat)) (z : List Nat) (rest : List (List Nat)) : ∀ pre : List (List Nat), lStp mx (pre ++ z :: rest) e → foNx mx 0 z = (rest.head?).or e := by
  intro pre
  induction pre with
  | nil => intro h; exact h.1
  | cons y pre ih => intro h; exact ih h.2
theorem cOf_zeros (hlab : lab ≤ 4) : ∀ k, k ≤ 5 + 5 * lab → cOf lab (List.replicate k 0 ++ []) = 0 := by
  intro k
  induction k with
  | zero => intro _; rfl
  | succ k ih =>
    intro h
    have hl := rep_len k []
    rw [List.length_nil, Nat.add_zero] at hl
    have h1 := cPos_le hlab (i := k) (by omega)
    have hw := dWid_in k
    rw [rep_cons, cOf_cons, hl, ih (by omega)]
    have h2 := put_self 0 (cPosD lab k) (dWid k)
    rw [dg_zero] at h2
    exact (pt_put 0 (by omega) (by omega) hw (Nat.two_pow_pos _)).uniq h2
theorem all_len_eq (hs : Stt cap lab ack cop) : (allL cap lab ack cop).length = allN cap lab ack cop := enum_all hs
theorem allK_len (hs : Stt cap lab ack cop) : (allK cap lab ack cop).length = allN cap lab ack cop := by
  unfold allK
  rw [List.length_map, all_len_eq hs]
theorem all_head : (allL cap lab ack cop).head? = some (List.replicate (5 + 5 * lab) 0 ++ []) := (enumL_ok _ _ []).1
theorem all_step : lStp (mxS cap lab ack cop) (allL cap lab ack cop) none := (enumL_ok (mxS cap lab ack cop) (5 + 5 * lab) []).2
theorem allN_pos (hs : Stt cap lab ack cop) : 1 ≤ allN cap lab ack cop := by
  rw [← all_len_eq hs]
  have h := all_head (cap := cap) (lab := lab) (ack := ack) (cop := cop)
  cases hL : allL cap lab ack cop with
  | nil => rw [hL] at h; simp at h
  | cons a l => rw [List.length_cons]; omega
abbrev CL5 := Int64 × Int32 × Int32 × (Nat → Int32) × (Nat → Int64)
theorem number_all (hs : Stt cap lab ack cop) (hN : allN cap lab ack cop ≤ 6000) (hF : 70000 ≤ F) (x283 x311 x312 : Int32) (A30 A33 A35 : Nat → Int32) : ∀ (rest pre : List (List Nat)) (F' : Nat) (A37 : Nat → Int32) (A38 : Nat → Int64), allL cap lab ack cop = pre ++ rest → CA (pre.map (cOf lab)) A37 A38 → rest.length < F' → ∃ (B37 : Nat → Int32) (B38 : Nat → Int64), gloop (fun u2 : CL5 => fX1_chartAll_S9 F (Int32.ofNat cap) (Int32.ofNat lab) (Int32.ofNat ack) (Int32.ofNat cop) x283 x311 x312 A30 A33 A35 u2.1 u2.2.1 u2.2.2.1 u2.2.2.2.1 u2.2.2.2.2) F' (encL lab rest.head?, Int32.ofNat pre.length, Int32.ofNat (pre.map (cOf lab)).length, A37, A38) = some (Int32.ofNat (allK cap lab ack cop).length, B37, B38) ∧ CA (allK cap lab ack cop) B37 B38 := by
  intro rest
  induction rest with
  | nil =>
    intro pre F' A37 A38 hL hCA hF'
    obtain ⟨G, rfl⟩ : ∃ G, F' = G + 1 := ⟨F' - 1, by omega⟩
    rw [List.append_nil] at hL
    have hK : allK cap lab ack cop = pre.map (cOf lab) := by unfold allK; rw [hL]
    refine ⟨A37, A38, ?_, by rw [hK]; exact hCA⟩
    rw [hK]
    simp only [gloop]
    unfold fX1_chartAll_S9
    by_cases h : (6000 : Int32) ≤ Int32.ofNat pre.length
    · rw [if_pos h]
    · rw [if_neg h, if_pos ((lg_cmp_eq _ _).mpr (by rfl))]
  | cons z rest ih =>
    intro pre F' A37 A38 hL hCA hF'
    rw [List.length_cons] at hF'
    obtain ⟨G, rfl⟩ : ∃ G, F' = G + 1 := ⟨F' - 1, by omega⟩
    have hlen := all_len_eq hs
    rw [hL, List.length_append, List.length_cons] at hlen
    have hz : z ∈ allL cap lab ack cop := by rw [hL]; exact List.mem_append_right _ List.mem_cons_self
    obtain ⟨z1, z2⟩ := mem_all.mp hz
    have hzk : cOf lab z ∈ allK cap lab ack cop := List.mem_map.mpr ⟨z, hz, rfl⟩
    have hgood := all_good hs hzk
    have hst := all_step (cap := cap) (lab := lab) (ack := ack) (cop := cop)
    rw [hL] at hst
    have hnx := lStp_at _ none z rest pre hst
    rw [Option.or_none] at hnx
    have hnd := all_inj hs
    unfold allK at hnd
    rw [hL, List.map_append, List.map_cons] at hnd
    have hlm : (pre.map (cOf lab)).length = pre.length := List.length_map _
    have e0 : encL lab (z :: rest).head? = cOf lab z := rfl
    rw [e0]
    rcases cNumb hCA (cOf lab z) (F := F) (by omega) with ⟨t, K', B37, B38, e1, e2, e3, e4, e5⟩ | ⟨e1, e2⟩
    · rw [numb_new (not_at hnd) (by rw [hlm]; omega)] at e1
      obtain ⟨rfl, rfl⟩ := Prod.mk.inj (Option.some.inj e1)
      have := ih (pre ++ [z]) G B37 B38 (by rw [hL, List.append_assoc]; rfl) (by rw [List.map_append]; exact e3) (by omega)
      obtain ⟨C37, C38, g1, g2⟩ := this
      refine ⟨C37, C38, ?_, g2⟩
      simp only [gloop]
      have hone : fX1_chartAll_S9 F (Int32.ofNat cap) (Int32.ofNat lab) (Int32.ofNat ack) (Int32.ofNat cop) x283 x311 x312 A30 A33 A35 (cOf lab z) (Int32.ofNat pre.length) (Int32.ofNat (pre.map (cOf lab)).length) A37 A38 = some (.inr (encL lab rest.head?, Int32.ofNat (pre.length + 1), Int32.ofNat (pre.map (cOf lab) ++ [cOf lab z]).length, B37, B38)) := by
        unfold fX1_chartAll_S9
        rw [if_neg (fun y => by have := (i32_le (a := 6000) (by decide) (by omega)).mp y; omega), if_neg (fun y => good_ne hgood ((lg_cmp_eq _ _).mp y).symm), e2, Option.bind_some, following_eq hs z2 z1 (by omega), Option.bind_some, hnx, i32_succ]
      rw [hone]
      dsimp only
      rw [List.length_append, List.length_singleton] at g1
      rw [show (pre.map (cOf lab) ++ [cOf lab z]) = (pre ++ [z]).map (cOf lab) by rw [List.map_append]; rfl]
      exact g1
    · rw [numb_new (not_at hnd) (by rw [hlm]; omega)] at e1
      exact absurd e1 (by simp)
theorem chartAll_eq (hs : Stt cap lab ack cop) (hN : allN cap lab ack cop ≤ 6000) (hF : 70000 ≤ F) (x282 x283 x311 x312 : Int32) (A30 A33 A35 A37 : Nat → Int32) (A38 : Nat → Int64) : ∃ (E : List Edge) (Fs : List Nat) (y311 y312 : Int32) (B30 B33 B35 B37 : Nat → Int32) (B38 : Nat → Int64), expAll cap lab ack cop 6001 0 (allK cap lab ack cop) [] [0] = some (allK cap lab ack cop, E, Fs) ∧ fX1_chartAll F (Int32.ofNat cap) (Int32.ofNat lab) (Int32.ofNat ack) (Int32.ofNat cop) x282 x283 x311 x312 A30 A33 A35 A37 A38 = some (Int32.ofNat (allK cap lab ack cop).length, 1, y311, y312, B30, B33, B35, B37, B38) ∧ CA (allK cap lab ack cop) B37 B38 ∧ CE E B35 ∧ CF Fs B30 := by
  obtain ⟨E, Fs, hE⟩ := all_closed hs
  have hlen := all_len_eq hs
  obtain ⟨C37, C38, n1, n2⟩ := number_all hs hN hF x283 x311 x312 (cPut 6001 A30 0 0) A33 A35 (allL cap lab ack cop) [] F (cFill 16384 A37 0) A38 rfl (ca_empty A37 A38) (by omega)
  have e0 : encL lab (allL cap lab ack cop).head? = 0 := by
    rw [all_head]
    exact cOf_zeros hs.2.1.2 _ (Nat.le_refl _)
  rw [e0, show Int32.ofNat ([] : List (List Nat)).length = 0 from rfl, show Int32.ofNat (([] : List (List Nat)).map (cOf lab)).length = 0 from rfl] at n1
  unfold fX1_chartAll fX1_clear
  dsimp only
  rw [n1, Option.bind_some]
  unfold fX1_chartAll_J43
  have hCF : CF [0] (cPut 6001 A30 0 0) := by
    intro i x hx
    cases i with
    | zero =>
      obtain rfl : 0 = x := Option.some.inj hx
      unfold cPut
      rw [if_pos (by decide)]; exact upd_at _ _ _
    | succ i => simp at hx
  have key := cExpAll hs.1.2 hs.2.1.2 hs.2.2.1.2 hs.2.2.2.2 (F := F) (by omega) 6001 0 F (allK cap lab ack cop) [] [0] x311 x312 (cPut 6001 A30 0 0) A33 A35 C37 C38 (by decide) (by omega) (Nat.zero_le _) (fun i x hx => all_good hs (List.mem_of_getElem? hx)) n2 (fun i x hx => by simp at hx) hCF rfl (by decide)
  rcases key with ⟨K', E', Fs', y311, y312, B30, B33, B35, B37, B38, k1, k2, k3, k4, k5⟩ | ⟨k1, x, k2⟩
  · rw [hE] at k1
    obtain ⟨rfl, k1'⟩ := Prod.mk.inj (Option.some.inj k1)
    obtain ⟨rfl, rfl⟩ := Prod.mk.inj k1'
    rw [show Int32.ofNat ([] : List Edge).length = 0 from rfl, show Int32.ofNat 0 = 0 from rfl] at k2
    have ke : fX1_expandAll F (Int32.ofNat cap) (Int32.ofNat lab) (Int32.ofNat ack) (Int32.ofNat cop) (Int32.ofNat (allK cap lab ack cop).length) x311 x312 (cPut 6001 A30 0 0) A33 A35 C37 C38 = some (1, Int32.ofNat (allK cap lab ack cop).length, y311, y312, B30, B33, B35, B37, B38) := by
      unfold fX1_expandAll
      rw [k2]
      rfl
    rw [ke, Option.bind_some, if_pos (show bzb (1 : Int32) = true by decide)]
    exact ⟨E, Fs, y311, y312, B30, B33, B35, B37, B38, hE, rfl, k3, k4, k5⟩
  · rw [hE] at k1
    exact absurd k1 (by simp)
end CHAL
