/-! part 9f: digits put low, sums of the digits -/
section LOWD
variable {cap lab ack cop : Nat}
theorem pt_comm (c : Int64) {n w v n' w' v' : Nat} (h1 : n + w ≤ 49) (h2 : n' + w' ≤ 49) (hw : w = 1 ∨ w = 2 ∨ w = 3) (hw' : w' = 1 ∨ w' = 2 ∨ w' = 3) (hv : v < 2 ^ w) (hv' : v' < 2 ^ w') (hd : n' + w' ≤ n ∨ n + w ≤ n') : pt (pt c n w v) n' w' v' = pt (pt c n' w' v') n w v := by
  apply bt_ext
  intro i hi
  rw [bt_pt _ (by omega) (by omega) hw' hv' hi, bt_pt _ (by omega) (by omega) hw hv hi, bt_pt _ (by omega) (by omega) hw hv hi, bt_pt _ (by omega) (by omega) hw' hv' hi]
  by_cases a : n ≤ i ∧ i < n + w
  · rw [if_pos a, if_pos a, if_neg (by omega)]
  · rw [if_neg a, if_neg a]
theorem pt_over (c : Int64) {n w v v' : Nat} (h1 : n + w ≤ 49) (hw : w = 1 ∨ w = 2 ∨ w = 3) (hv : v < 2 ^ w) (hv' : v' < 2 ^ w) : pt (pt c n w v) n w v' = pt c n w v' := by
  apply bt_ext
  intro i hi
  rw [bt_pt _ (by omega) (by omega) hw hv' hi, bt_pt _ (by omega) (by omega) hw hv hi, bt_pt _ (by omega) (by omega) hw hv' hi]
  by_cases a : n ≤ i ∧ i < n + w
  · rw [if_pos a, if_pos a]
  · rw [if_neg a, if_neg a, if_neg a]
theorem rep_len (k : Nat) (z : List Nat) : (List.replicate k 0 ++ z).length = k + z.length := by rw [List.length_append, List.length_replicate]
theorem rep_snoc (k : Nat) (p : List Nat) : List.replicate k 0 ++ 0 :: p = List.replicate (k + 1) 0 ++ p := by
  rw [List.replicate_succ', List.append_assoc]; rfl
theorem fit_rep : ∀ (k : Nat) (z : List Nat), fitL z → fitL (List.replicate k 0 ++ z) := by
  intro k
  induction k with
  | zero => intro z h; exact h
  | succ k ih => intro z h; exact ⟨Nat.two_pow_pos _, ih z h⟩
theorem cOf_cons (lab v : Nat) (p : List Nat) : cOf lab (v :: p) = pt (cOf lab p) (cPosD lab p.length) (dWid p.length) v := rfl
theorem rep_cons (k : Nat) (z : List Nat) : List.replicate (k + 1) 0 ++ z = (0 : Nat) :: (List.replicate k 0 ++ z) := rfl
theorem cOf_low (hlab : lab ≤ 4) (v x : Nat) (p : List Nat) (hv : v < 2 ^ dWid p.length) (hx : x < 2 ^ dWid p.length) : ∀ k, k + p.length < 5 + 5 * lab → pt (cOf lab (List.replicate k 0 ++ v :: p)) (cPosD lab p.length) (dWid p.length) x = cOf lab (List.replicate k 0 ++ x :: p) := by
  intro k
  induction k with
  | zero =>
    intro h
    show pt (pt (cOf lab p) _ _ v) _ _ x = pt (cOf lab p) _ _ x
    exact pt_over _ (cPos_le hlab (by omega)) (dWid_in _) hv hx
  | succ k ih =>
    intro h
    have hl := rep_len k (v :: p)
    have hl' := rep_len k (x :: p)
    rw [List.length_cons] at hl hl'
    rw [rep_cons, rep_cons, cOf_cons, cOf_cons]
    rw [hl, hl', pt_comm _ (cPos_le hlab (by omega)) (cPos_le hlab (by omega)) (dWid_in _) (dWid_in _) (Nat.two_pow_pos _) hx (apart_at hlab (by omega) (by omega) (by omega)), ih (by omega)]
theorem dv_app : ∀ (s : List Nat) (v : Nat) (p : List Nat), dv (s ++ v :: p) p.length = v := by
  intro s
  induction s with
  | nil => intro v p; exact if_pos rfl
  | cons a s ih =>
    intro v p
    have h : (s ++ v :: p).length = s.length + (p.length + 1) := by rw [List.length_append, List.length_cons]
    show (if p.length = (s ++ v :: p).length then a else dv (s ++ v :: p) p.length) = v
    rw [if_neg (by omega)]
    exact ih v p
theorem dg_low (hlab : lab ≤ 4) {v : Nat} {p : List Nat} (hf : fitL (v :: p)) {k : Nat} (h : k + p.length < 5 + 5 * lab) : dg (cOf lab (List.replicate k 0 ++ v :: p)) (cPosD lab p.length) (dWid p.length) = v := by
  rw [dg_cOf hlab _ (by rw [rep_len, List.length_cons]; omega) (fit_rep k _ hf) _ (by omega)]
  exact dv_app _ v p
theorem pk_step (hlab : lab ≤ 4) {v : Nat} {p : List Nat} (hp : p.length < 5 + 5 * lab) (hf : fitL (v :: p)) : pkSum (cOf lab (v :: p)) = pkSum (cOf lab p) + (if 5 + 2 * lab ≤ p.length ∧ p.length < 5 + 4 * lab then v else 0) := by
  have h0 : dg (cOf lab p) (cPosD lab p.length) (dWid p.length) = 0 := by
    rw [dg_cOf hlab p (by omega) hf.2 _ hp]
    exact dv_ge p _ (Nat.le_refl _)
  have hw := dWid_in p.length
  have hle := cPos_le hlab hp
  show pkSum (pt (cOf lab p) (cPosD lab p.length) (dWid p.length) v) = _
  by_cases h : 5 + 2 * lab ≤ p.length ∧ p.length < 5 + 4 * lab
  · rw [if_pos h]
    have e1 : cPosD lab p.length = 8 + 2 * (7 - (p.length - 5 - 2 * lab)) := by
      unfold cPosD
      rw [if_neg (by omega), if_neg (by omega), if_pos h.2]
      rfl
    have e2 : dWid p.length = 2 := by
      unfold dWid
      rw [if_neg (by omega), if_neg (by omega), if_neg (by omega)]
    have hv := hf.1
    rw [e2] at hv
    rw [e1, e2] at h0 ⊢
    have := pkSum_put (c := cOf lab p) (k := p.length - 5 - 2 * lab) (by omega) hv (pt2 (cOf lab p) (by omega) hv)
    omega
  · rw [if_neg h, Nat.add_zero]
    refine pkSum_pt _ (by omega) (by omega) hw hf.1 ?_
    unfold cPosD
    by_cases h5 : p.length < 5
    · rw [if_pos h5]
      right
      repeat' split
      all_goals omega
    · rw [if_neg h5]
      by_cases h2 : p.length < 5 + 2 * lab
      · rw [if_pos h2]
        right
        unfold sePos
        omega
      · rw [if_neg h2, if_neg (by omega)]
        left
        unfold ltPos dWid
        rw [if_neg (by omega), if_neg (by omega), if_neg (by omega)]
        omega
theorem lt_step (hlab : lab ≤ 4) {v : Nat} {p : List Nat} (hp : p.length < 5 + 5 * lab) (hf : fitL (v :: p)) : ltSum (cOf lab (v :: p)) = ltSum (cOf lab p) + (if 5 + 4 * lab ≤ p.length then v else 0) := by
  have h0 : dg (cOf lab p) (cPosD lab p.length) (dWid p.length) = 0 := by
    rw [dg_cOf hlab p (by omega) hf.2 _ hp]
    exact dv_ge p _ (Nat.le_refl _)
  have hw := dWid_in p.length
  have hle := cPos_le hlab hp
  show ltSum (pt (cOf lab p) (cPosD lab p.length) (dWid p.length) v) = _
  by_cases h : 5 + 4 * lab ≤ p.length
  · rw [if_pos h]
    have e1 : cPosD lab p.length = 2 * (3 - (p.length - 5 - 4 * lab)) := by
      unfold cPosD
      rw [if_neg (by omega), if_neg (by omega), if_neg (by omega)]
      rfl
    have e2 : dWid p.length = 2 := by
      unfold dWid
      rw [if_neg (by omega), if_neg (by omega), if_neg (by omega)]
    have hv := hf.1
    rw [e2] at hv
    rw [e1, e2] at h0 ⊢
    have := ltSum_put (c := cOf lab p) (k := p.length - 5 - 4 * lab) (by omega) hv (pt2 (cOf lab p) (by omega) hv)
    omega
  · rw [if_neg h, Nat.add_zero]
    refine ltSum_pt _ (by omega) (by omega) hw hf.1 ?_
    unfold cPosD
    by_cases h5 : p.length < 5
    · rw [if_pos h5]
      repeat' split
      all_goals omega
    · rw [if_neg h5]
      by_cases h2 : p.length < 5 + 2 * lab
      · rw [if_pos h2]
        unfold sePos
        omega
      · rw [if_neg h2, if_pos (by omega)]
        unfold pkPos
        omega
theorem pk_low (hlab : lab ≤ 4) (z : List Nat) (hf : fitL z) : ∀ k, k + z.length ≤ 5 + 5 * lab → pkSum (cOf lab (List.replicate k 0 ++ z)) = pkSum (cOf lab z) := by
  intro k
  induction k with
  | zero => intro _; rfl
  | succ k ih =>
    intro h
    rw [rep_cons, pk_step (v := 0) (p := List.replicate k 0 ++ z) hlab (by rw [rep_len]; omega) ⟨Nat.two_pow_pos _, fit_rep k z hf⟩, ih (by omega), ite_self, Nat.add_zero]
theorem lt_low (hlab : lab ≤ 4) (z : List Nat) (hf : fitL z) : ∀ k, k + z.length ≤ 5 + 5 * lab → ltSum (cOf lab (List.replicate k 0 ++ z)) = ltSum (cOf lab z) := by
  intro k
  induction k with
  | zero => intro _; rfl
  | succ k ih =>
    intro h
    rw [rep_cons, lt_step (v := 0) (p := List.replicate k 0 ++ z) hlab (by rw [rep_len]; omega) ⟨Nat.two_pow_pos _, fit_rep k z hf⟩, ih (by omega), ite_self, Nat.add_zero]
theorem sum0 (c : Int64) (h : c = 0) : pkSum c = 0 ∧ ltSum c = 0 := by
  subst h
  exact ⟨by unfold pkSum; simp only [sumTo, dg_zero], by unfold ltSum; simp only [sumTo, dg_zero]⟩
theorem pk_take (hlab : lab ≤ 4) : ∀ z : List Nat, z.length ≤ 5 + 4 * lab → fitL z → pkSum (cOf lab z) = (z.take (z.length - (5 + 2 * lab))).sum := by
  intro z
  induction z with
  | nil => intro _ _; rw [List.take_nil]; exact (sum0 _ rfl).1
  | cons v p ih =>
    intro hl hf
    rw [List.length_cons] at hl
    rw [pk_step hlab (by omega) hf, ih (by omega) hf.2, List.length_cons]
    by_cases h : 5 + 2 * lab ≤ p.length
    · rw [if_pos ⟨h, by omega⟩, show p.length + 1 - (5 + 2 * lab) = (p.length - (5 + 2 * lab)) + 1 by omega, List.take_succ_cons, List.sum_cons, Nat.add_comm]
    · rw [if_neg (by omega), show p.length + 1 - (5 + 2 * lab) = 0 by omega, show p.length - (5 + 2 * lab) = 0 by omega, List.take_zero, List.take_zero, Nat.add_zero]
theorem lt_take (hlab : lab ≤ 4) : ∀ z : List Nat, z.length ≤ 5 + 5 * lab → fitL z → ltSum (cOf lab z) = (z.take (z.length - (5 + 4 * lab))).sum := by
  intro z
  induction z with
  | nil => intro _ _; rw [List.take_nil]; exact (sum0 _ rfl).2
  | cons v p ih =>
    intro hl hf
    rw [List.length_cons] at hl
    rw [lt_step hlab (by omega) hf, ih (by omega) hf.2, List.length_cons]
    by_cases h : 5 + 4 * lab ≤ p.length
    · rw [if_pos h, show p.length + 1 - (5 + 4 * lab) = (p.length - (5 + 4 * lab)) + 1 by omega, List.take_succ_cons, List.sum_cons, Nat.add_comm]
    · rw [if_neg h, show p.length + 1 - (5 + 4 * lab) = 0 by omega, show p.length - (5 + 4 * lab) = 0 by omega, List.take_zero, List.take_zero, Nat.add_zero]
end LOWD
