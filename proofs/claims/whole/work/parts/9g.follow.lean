/-! part 9g: the state that follows -/
section FOLW
variable {cap lab ack cop : Nat}
def encL (lab : Nat) : Option (List Nat) → Int64
  | none => -1
  | some z => cOf lab z
theorem follow_loop {mx : List Nat → Nat} {st : Int64 → Int32 → Option (((Int64 × Int32) ⊕ Int64) ⊕ (Int64 × Int32))} {K : (Int64 × Int32) ⊕ Int64 → Option Int64} (B N k0 : Nat)
    (Hneg : ∀ x, st x (Int32.ofNat 0 - 1) = some (.inl (.inr x)))
    (Hgo : ∀ (j v : Nat) (p : List Nat), j < N → p.length = B + j → okL mx (v :: p) → st (cOf lab (List.replicate (k0 + N - (j + 1)) 0 ++ v :: p)) (Int32.ofNat j) = if v < mx p then some (.inl (.inl (cOf lab (List.replicate (k0 + N - (j + 1)) 0 ++ v :: p), Int32.ofNat j))) else some (.inr (cOf lab (List.replicate (k0 + N - j) 0 ++ p), Int32.ofNat j - 1)))
    (HK : ∀ (j v : Nat) (p : List Nat), j < N → p.length = B + j → okL mx (v :: p) → v < mx p → K (.inl (cOf lab (List.replicate (k0 + N - (j + 1)) 0 ++ v :: p), Int32.ofNat j)) = some (cOf lab (List.replicate (k0 + N - (j + 1)) 0 ++ (v + 1) :: p)))
    (Hend : ∀ q : List Nat, q.length = B → okL mx q → K (.inr (cOf lab (List.replicate (k0 + N) 0 ++ q))) = some (encL lab (foNx mx (k0 + N) q))) (hN : N < 100) :
    ∀ (j : Nat) (q : List Nat) (F : Nat), j ≤ N → q.length = B + j → okL mx q → j < F → (gloop (fun u : Int64 × Int32 => st u.1 u.2) F (cOf lab (List.replicate (k0 + N - j) 0 ++ q), Int32.ofNat j - 1)).bind K = some (encL lab (foNx mx (k0 + N - j) q)) := by
  intro j
  induction j with
  | zero =>
    intro q F _ hq hok hF
    obtain ⟨G, rfl⟩ : ∃ G, F = G + 1 := ⟨F - 1, by omega⟩
    simp only [gloop]
    rw [Hneg]
    exact Hend q hq hok
  | succ j ih =>
    intro q F hj hq hok hF
    obtain ⟨G, rfl⟩ : ∃ G, F = G + 1 := ⟨F - 1, by omega⟩
    cases q with
    | nil => simp at hq
    | cons v p =>
      rw [List.length_cons] at hq
      have e : Int32.ofNat (j + 1) - 1 = Int32.ofNat j := i32_pred (by omega) (by omega)
      have ef : foNx mx (k0 + N - (j + 1)) (v :: p) = if v < mx p then some (List.replicate (k0 + N - (j + 1)) 0 ++ ((v + 1) :: p)) else foNx mx (k0 + N - (j + 1) + 1) p := rfl
      simp only [gloop]
      rw [e, Hgo j v p (by omega) (by omega) hok, ef]
      by_cases h : v < mx p
      · rw [if_pos h, if_pos h]
        exact HK j v p (by omega) (by omega) hok h
      · rw [if_neg h, if_neg h, show k0 + N - (j + 1) + 1 = k0 + N - j by omega]
        exact ih p G (by omega) (by omega) hok.2 (by omega)
theorem cPos_lt {j : Nat} : cPosD lab (5 + 4 * lab + j) = ltPos j := by
  unfold cPosD
  rw [if_neg (by omega), if_neg (by omega), if_neg (by omega)]
  congr 1
  omega
theorem cPos_pk {j : Nat} (h : j < 2 * lab) : cPosD lab (5 + 2 * lab + j) = pkPos j := by
  unfold cPosD
  rw [if_neg (by omega), if_neg (by omega), if_pos (by omega)]
  congr 1
  omega
theorem cPos_se {j : Nat} (h : j < 2 * lab) : cPosD lab (5 + j) = sePos j := by
  unfold cPosD
  rw [if_neg (by omega), if_pos (by omega)]
  congr 1
  omega
theorem dWid_2 {i : Nat} (h : 5 ≤ i) : dWid i = 2 := by
  unfold dWid
  rw [if_neg (by omega), if_neg (by omega), if_neg (by omega)]
theorem add_neg1 (x : Int32) : x + (-1) = x - 1 := by rw [Int32.sub_eq_add_neg]
theorem neg_one_lt : (Int32.ofNat 0 - 1 : Int32) < 0 := by decide
theorem clr_low (hlab : lab ≤ 4) {v : Nat} {p : List Nat} (hf : fitL (v :: p)) {k : Nat} (h : k + p.length < 5 + 5 * lab) : pt (cOf lab (List.replicate k 0 ++ v :: p)) (cPosD lab p.length) (dWid p.length) 0 = cOf lab (List.replicate (k + 1) 0 ++ p) := by
  rw [cOf_low hlab v 0 p hf.1 (Nat.two_pow_pos _) k h, rep_snoc]
theorem inc_low (hlab : lab ≤ 4) {v : Nat} {p : List Nat} (hf : fitL (v :: p)) {k : Nat} (h : k + p.length < 5 + 5 * lab) (h5 : 5 ≤ p.length) (hv : v + 1 < 4) : cOf lab (List.replicate k 0 ++ v :: p) + ((1 : Int64) <<< ((Int32.ofNat (cPosD lab p.length)).toInt64 &&& 63)) = cOf lab (List.replicate k 0 ++ (v + 1) :: p) := by
  have hw := dWid_2 h5
  have hd := dg_low hlab hf h
  have hle := cPos_le hlab (i := p.length) (by omega)
  rw [hw] at hd hle
  rw [add_pt _ (by omega) (by omega), hd, ← hw]
  exact cOf_low hlab v (v + 1) p hf.1 (by rw [hw]; exact hv) k h
theorem lets_loop (hs : Stt cap lab ack cop) {F0 : Nat} {K : (Int64 × Int32) ⊕ Int64 → Option Int64}
    (HK : ∀ c j, K (.inl (c, Int32.ofNat j)) = some (c + ((1 : Int64) <<< ((fX7_lettersAt (Int32.ofNat j)).toInt64 &&& 63))))
    (Hend : ∀ q : List Nat, q.length = 5 + 4 * lab → okL (mxS cap lab ack cop) q → K (.inr (cOf lab (List.replicate (0 + lab) 0 ++ q))) = some (encL lab (foNx (mxS cap lab ack cop) (0 + lab) q))) {q : List Nat} (hq : q.length = 5 + 4 * lab + lab) (hok : okL (mxS cap lab ack cop) q) {F : Nat} (hF : 100 ≤ F) :
    (gloop (fun u : Int64 × Int32 => fX7_following_S10 F0 (Int32.ofNat cap) (Int32.ofNat lab) (Int32.ofNat ack) (Int32.ofNat cop) u.1 u.2) F (cOf lab q, Int32.ofNat lab - 1)).bind K = some (encL lab (foNx (mxS cap lab ack cop) 0 q)) := by
  obtain ⟨⟨a1, a2⟩, ⟨b1, b2⟩, ⟨c1, c2⟩, ⟨d1, d2⟩⟩ := id hs
  have hm : ∀ (j : Nat) (p : List Nat), p.length = 5 + 4 * lab + j → mxS cap lab ack cop p = cap - (p.take (p.length - (5 + 4 * lab))).sum := by
    intro j p hp
    unfold mxS
    rw [if_neg (by omega), if_neg (by omega)]
  have key := follow_loop (lab := lab) (mx := mxS cap lab ack cop) (st := fun a b => fX7_following_S10 F0 (Int32.ofNat cap) (Int32.ofNat lab) (Int32.ofNat ack) (Int32.ofNat cop) a b) (K := K) (5 + 4 * lab) lab 0 (fun x => by
      unfold fX7_following_S10
      rw [if_pos neg_one_lt]) (fun j v p hj hp hok => by
      have hf : fitL (v :: p) := ok_fit hs _ (by rw [List.length_cons]; omega) hok
      have e2 : ltSum (cOf lab (List.replicate (0 + lab - (j + 1)) 0 ++ v :: p)) = (p.take (p.length - (5 + 4 * lab))).sum + v := by
        rw [lt_low b2 _ hf _ (by rw [List.length_cons]; omega), lt_step b2 (by omega) hf, if_pos (by omega), lt_take b2 p (by omega) hf.2]
      have hb := ltSum_le (cOf lab (List.replicate (0 + lab - (j + 1)) 0 ++ v :: p))
      rw [e2] at hb
      unfold fX7_following_S10
      rw [if_neg (i32_nneg (by omega)), lettersIn_sum, lettersAt_p j (by omega), e2, hm j p hp]
      by_cases h : v < cap - (p.take (p.length - (5 + 4 * lab))).sum
      · rw [if_pos h, if_neg (fun z => by have := (i32_le (by omega) (by omega)).mp z; omega)]
      · have hx := hok.1
        rw [hm j p hp] at hx
        have hc := clr_low b2 hf (k := 0 + lab - (j + 1)) (by omega)
        rw [hp, cPos_lt, dWid_2 (by omega)] at hc
        rw [if_neg h, if_pos ((i32_le (by omega) (by omega)).mpr (by omega)), show (0 : Int32) = Int32.ofNat 0 from rfl, withDigit_pt _ (by unfold ltPos; omega) (by decide), hc, show 0 + lab - (j + 1) + 1 = 0 + lab - j by omega, add_neg1]) (fun j v p hj hp hok hlt => by
      have hf : fitL (v :: p) := ok_fit hs _ (by rw [List.length_cons]; omega) hok
      rw [hm j p hp] at hlt
      have := inc_low b2 hf (k := 0 + lab - (j + 1)) (by omega) (by omega) (by omega)
      rw [hp, cPos_lt] at this
      rw [HK, lettersAt_p j (by omega), this]) Hend (by omega) lab q F (Nat.le_refl _) hq hok (by omega)
  rw [show 0 + lab - lab = 0 by omega] at key
  exact key
theorem pks_loop (hs : Stt cap lab ack cop) {F0 : Nat} {K : (Int64 × Int32) ⊕ Int64 → Option Int64}
    (HK : ∀ c j, K (.inl (c, Int32.ofNat j)) = some (c + ((1 : Int64) <<< ((fX7_packetsAt (Int32.ofNat j)).toInt64 &&& 63))))
    (Hend : ∀ q : List Nat, q.length = 5 + 2 * lab → okL (mxS cap lab ack cop) q → K (.inr (cOf lab (List.replicate (lab + 2 * lab) 0 ++ q))) = some (encL lab (foNx (mxS cap lab ack cop) (lab + 2 * lab) q))) {q : List Nat} (hq : q.length = 5 + 2 * lab + 2 * lab) (hok : okL (mxS cap lab ack cop) q) {F : Nat} (hF : 100 ≤ F) :
    (gloop (fun u : Int64 × Int32 => fX7_following_S63 F0 (Int32.ofNat cap) (Int32.ofNat lab) (Int32.ofNat ack) (Int32.ofNat cop) u.1 u.2) F (cOf lab (List.replicate lab 0 ++ q), Int32.ofNat (2 * lab) - 1)).bind K = some (encL lab (foNx (mxS cap lab ack cop) lab q)) := by
  obtain ⟨⟨a1, a2⟩, ⟨b1, b2⟩, ⟨c1, c2⟩, ⟨d1, d2⟩⟩ := id hs
  have hm : ∀ (j : Nat) (p : List Nat), j < 2 * lab → p.length = 5 + 2 * lab + j → mxS cap lab ack cop p = cap - (p.take (p.length - (5 + 2 * lab))).sum := by
    intro j p hj hp
    unfold mxS
    rw [if_neg (by omega), if_pos (by omega)]
  have key := follow_loop (lab := lab) (mx := mxS cap lab ack cop) (st := fun a b => fX7_following_S63 F0 (Int32.ofNat cap) (Int32.ofNat lab) (Int32.ofNat ack) (Int32.ofNat cop) a b) (K := K) (5 + 2 * lab) (2 * lab) lab (fun x => by
      unfold fX7_following_S63
      rw [if_pos neg_one_lt]) (fun j v p hj hp hok => by
      have hf : fitL (v :: p) := ok_fit hs _ (by rw [List.length_cons]; omega) hok
      have e2 : pkSum (cOf lab (List.replicate (lab + 2 * lab - (j + 1)) 0 ++ v :: p)) = (p.take (p.length - (5 + 2 * lab))).sum + v := by
        rw [pk_low b2 _ hf _ (by rw [List.length_cons]; omega), pk_step b2 (by omega) hf, if_pos (by omega), pk_take b2 p (by omega) hf.2]
      have hb := pkSum_le (cOf lab (List.replicate (lab + 2 * lab - (j + 1)) 0 ++ v :: p))
      rw [e2] at hb
      unfold fX7_following_S63
      rw [if_neg (i32_nneg (by omega)), packetsIn_sum, packetsAt_p j (by omega), e2, hm j p hj hp]
      by_cases h : v < cap - (p.take (p.length - (5 + 2 * lab))).sum
      · rw [if_pos h, if_neg (fun z => by have := (i32_le (by omega) (by omega)).mp z; omega)]
      · have hx := hok.1
        rw [hm j p hj hp] at hx
        have hc := clr_low b2 hf (k := lab + 2 * lab - (j + 1)) (by omega)
        rw [hp, cPos_pk hj, dWid_2 (by omega)] at hc
        rw [if_neg h, if_pos ((i32_le (by omega) (by omega)).mpr (by omega)), show (0 : Int32) = Int32.ofNat 0 from rfl, withDigit_pt _ (by unfold pkPos; omega) (by decide), hc, show lab + 2 * lab - (j + 1) + 1 = lab + 2 * lab - j by omega, add_neg1]) (fun j v p hj hp hok hlt => by
      have hf : fitL (v :: p) := ok_fit hs _ (by rw [List.length_cons]; omega) hok
      rw [hm j p hj hp] at hlt
      have := inc_low b2 hf (k := lab + 2 * lab - (j + 1)) (by omega) (by omega) (by omega)
      rw [hp, cPos_pk hj] at this
      rw [HK, packetsAt_p j (by omega), this]) Hend (by omega) (2 * lab) q F (Nat.le_refl _) hq hok (by omega)
  rw [show lab + 2 * lab - 2 * lab = lab by omega] at key
  exact key
theorem sees_loop (hs : Stt cap lab ack cop) {F0 : Nat} {K : (Int64 × Int32) ⊕ Int64 → Option Int64}
    (HK : ∀ c j, K (.inl (c, Int32.ofNat j)) = some (c + ((1 : Int64) <<< ((fX7_seenAt (Int32.ofNat j)).toInt64 &&& 63))))
    (Hend : ∀ q : List Nat, q.length = 5 → okL (mxS cap lab ack cop) q → K (.inr (cOf lab (List.replicate (lab + 2 * lab + 2 * lab) 0 ++ q))) = some (encL lab (foNx (mxS cap lab ack cop) (lab + 2 * lab + 2 * lab) q))) {q : List Nat} (hq : q.length = 5 + 2 * lab) (hok : okL (mxS cap lab ack cop) q) {F : Nat} (hF : 100 ≤ F) :
    (gloop (fun u : Int64 × Int32 => fX7_following_S116 F0 (Int32.ofNat cap) (Int32.ofNat lab) (Int32.ofNat ack) (Int32.ofNat cop) u.1 u.2) F (cOf lab (List.replicate (lab + 2 * lab) 0 ++ q), Int32.ofNat (2 * lab) - 1)).bind K = some (encL lab (foNx (mxS cap lab ack cop) (lab + 2 * lab) q)) := by
  obtain ⟨⟨a1, a2⟩, ⟨b1, b2⟩, ⟨c1, c2⟩, ⟨d1, d2⟩⟩ := id hs
  have hm : ∀ (j : Nat) (p : List Nat), j < 2 * lab → p.length = 5 + j → mxS cap lab ack cop p = cop - 1 := by
    intro j p hj hp
    unfold mxS dLim
    rw [if_pos (by omega), if_neg (by omega), if_pos (by omega)]
  have key := follow_loop (lab := lab) (mx := mxS cap lab ack cop) (st := fun a b => fX7_following_S116 F0 (Int32.ofNat cap) (Int32.ofNat lab) (Int32.ofNat ack) (Int32.ofNat cop) a b) (K := K) 5 (2 * lab) (lab + 2 * lab) (fun x => by
      unfold fX7_following_S116
      rw [if_pos neg_one_lt]) (fun j v p hj hp hok => by
      have hf : fitL (v :: p) := ok_fit hs _ (by rw [List.length_cons]; omega) hok
      have hd := dg_low b2 hf (k := lab + 2 * lab + 2 * lab - (j + 1)) (by omega)
      rw [hp, cPos_se hj, dWid_2 (by omega)] at hd
      have hx := hok.1
      rw [hm j p hj hp] at hx
      unfold fX7_following_S116
      rw [if_neg (i32_nneg (by omega)), seenAt_p j (by omega), fX7_digit_dg _ (by unfold sePos; omega), hd, i32_succ, hm j p hj hp]
      by_cases h : v < cop - 1
      · rw [if_pos h, if_neg (fun z => by have := (i32_le (by omega) (by omega)).mp z; omega)]
      · have hc := clr_low b2 hf (k := lab + 2 * lab + 2 * lab - (j + 1)) (by omega)
        rw [hp, cPos_se hj, dWid_2 (by omega)] at hc
        rw [if_neg h, if_pos ((i32_le (by omega) (by omega)).mpr (by omega)), show (0 : Int32) = Int32.ofNat 0 from rfl, withDigit_pt _ (by unfold sePos; omega) (by decide), hc, show lab + 2 * lab + 2 * lab - (j + 1) + 1 = lab + 2 * lab + 2 * lab - j by omega, add_neg1]) (fun j v p hj hp hok hlt => by
      have hf : fitL (v :: p) := ok_fit hs _ (by rw [List.length_cons]; omega) hok
      rw [hm j p hj hp] at hlt
      have := inc_low b2 hf (k := lab + 2 * lab + 2 * lab - (j + 1)) (by omega) (by omega) (by omega)
      rw [hp, cPos_se hj] at this
      rw [HK, seenAt_p j (by omega), this]) Hend (by omega) (2 * lab) q F (Nat.le_refl _) hq hok (by omega)
  rw [show lab + 2 * lab + 2 * lab - 2 * lab = lab + 2 * lab by omega] at key
  exact key
end FOLW
