/-! part 9j: legal states stay legal -/
section LEGL
variable {cap lab ack cop : Nat}
def Leg (cap lab ack cop : Nat) (c : Int64) : Prop := ∃ z : List Nat, z.length = 5 + 5 * lab ∧ (∀ i, i < 5 + 5 * lab → dv z i < dLim cap lab ack cop i) ∧ c = cOf lab z
def setD : List Nat → Nat → Nat → List Nat
  | [], _, _ => []
  | v :: p, i, x => (if i = p.length then x else v) :: setD p i x
theorem setD_len : ∀ (z : List Nat) (i x : Nat), (setD z i x).length = z.length := by
  intro z
  induction z with
  | nil => intro i x; rfl
  | cons v p ih => intro i x; show (setD p i x).length + 1 = p.length + 1; rw [ih]
theorem setD_dv : ∀ (z : List Nat) (i x j : Nat), i < z.length → dv (setD z i x) j = if j = i then x else dv z j := by
  intro z
  induction z with
  | nil => intro i x j h; simp at h
  | cons v p ih =>
    intro i x j h
    rw [List.length_cons] at h
    show (if j = (setD p i x).length then (if i = p.length then x else v) else dv (setD p i x) j) = if j = i then x else (if j = p.length then v else dv p j)
    rw [setD_len]
    by_cases hj : j = p.length
    · rw [if_pos hj, if_pos hj]
      by_cases hi : i = p.length
      · rw [if_pos hi, if_pos (by omega)]
      · rw [if_neg hi, if_neg (by omega)]
    · rw [if_neg hj, if_neg hj]
      by_cases hi : i < p.length
      · exact ih i x j hi
      · have hs : dv (setD p i x) j = dv p j := by
          have : ∀ q : List Nat, q.length ≤ i → setD q i x = q := by
            intro q
            induction q with
            | nil => intro _; rfl
            | cons a q ihq =>
              intro hq
              rw [List.length_cons] at hq
              show (if i = q.length then x else a) :: setD q i x = a :: q
              rw [if_neg (by omega), ihq (by omega)]
          rw [this p (by omega)]
        rw [hs, if_neg (by omega)]
theorem dv_fit (hs : Stt cap lab ack cop) : ∀ z : List Nat, (∀ i, i < z.length → dv z i < dLim cap lab ack cop i) → fitL z := by
  intro z
  induction z with
  | nil => intro _; trivial
  | cons v p ih =>
    intro h
    have h0 := h p.length (by rw [List.length_cons]; omega)
    have e : dv (v :: p) p.length = v := if_pos rfl
    rw [e] at h0
    refine ⟨dLim_fit hs h0, ih (fun i hi => ?_)⟩
    have h1 := h i (by rw [List.length_cons]; omega)
    have e1 : dv (v :: p) i = dv p i := if_neg (by omega)
    rw [e1] at h1
    exact h1
theorem setD_cOf (hlab : lab ≤ 4) {i x : Nat} (hx : x < 2 ^ dWid i) : ∀ z : List Nat, z.length ≤ 5 + 5 * lab → fitL z → i < z.length → cOf lab (setD z i x) = pt (cOf lab z) (cPosD lab i) (dWid i) x := by
  intro z
  induction z with
  | nil => intro _ _ h; simp at h
  | cons v p ih =>
    intro hl hf hi
    rw [List.length_cons] at hl hi
    show pt (cOf lab (setD p i x)) (cPosD lab (setD p i x).length) (dWid (setD p i x).length) (if i = p.length then x else v) = pt (pt (cOf lab p) (cPosD lab p.length) (dWid p.length) v) (cPosD lab i) (dWid i) x
    rw [setD_len]
    by_cases h : i = p.length
    · subst h
      have hs : setD p p.length x = p := by
        have : ∀ q : List Nat, q.length ≤ p.length → setD q p.length x = q := by
          intro q
          induction q with
          | nil => intro _; rfl
          | cons a q ihq =>
            intro hq
            rw [List.length_cons] at hq
            show (if p.length = q.length then x else a) :: setD q p.length x = a :: q
            rw [if_neg (by omega), ihq (by omega)]
        exact this p (Nat.le_refl _)
      rw [if_pos rfl, hs, pt_over _ (cPos_le hlab (by omega)) (dWid_in _) hf.1 hx]
    · rw [if_neg h, ih (by omega) hf.2 (by omega)]
      exact pt_comm _ (cPos_le hlab (by omega)) (cPos_le hlab (by omega)) (dWid_in _) (dWid_in _) hx hf.1 (apart_at hlab (by omega) (by omega) (Ne.symm h))
theorem leg_put (hs : Stt cap lab ack cop) {c : Int64} (h : Leg cap lab ack cop c) {i x : Nat} (hi : i < 5 + 5 * lab) (hx : x < dLim cap lab ack cop i) : Leg cap lab ack cop (pt c (cPosD lab i) (dWid i) x) := by
  obtain ⟨z, h1, h2, rfl⟩ := h
  have hf := dv_fit hs z (fun i hi => h2 i (by omega))
  refine ⟨setD z i x, by rw [setD_len]; exact h1, fun j hj => ?_, (setD_cOf hs.2.1.2 (dLim_fit hs hx) z (by omega) hf (by omega)).symm⟩
  rw [setD_dv z i x j (by omega)]
  by_cases hj2 : j = i
  · subst hj2; rw [if_pos rfl]; exact hx
  · rw [if_neg hj2]; exact h2 j hj
theorem leg_dg (hs : Stt cap lab ack cop) {c : Int64} (h : Leg cap lab ack cop c) {i : Nat} (hi : i < 5 + 5 * lab) : dg c (cPosD lab i) (dWid i) < dLim cap lab ack cop i := by
  obtain ⟨z, h1, h2, rfl⟩ := h
  have hf := dv_fit hs z (fun i hi => h2 i (by omega))
  rw [dg_cOf hs.2.1.2 z (by omega) hf i hi]
  exact h2 i hi
theorem dg_away (hlab : lab ≤ 4) {n w : Nat} (hn : n + w ≤ 64) (ha : ∀ i, i < 5 + 5 * lab → n + w ≤ cPosD lab i ∨ cPosD lab i + dWid i ≤ n) : ∀ z : List Nat, z.length ≤ 5 + 5 * lab → fitL z → dg (cOf lab z) n w = 0 := by
  intro z
  induction z with
  | nil => intro _ _; exact dg_zero n w
  | cons v p ih =>
    intro hl hf
    rw [List.length_cons] at hl
    show dg (pt (cOf lab p) (cPosD lab p.length) (dWid p.length) v) n w = 0
    rw [put_dg_ne (cOf_put hlab (by omega) hf.1 _) hn (ha p.length (by omega))]
    exact ih (by omega) hf.2
theorem awayS : ∀ (lab : Fin 5) (k : Fin 8) (i : Fin 25), 2 * lab.val ≤ k.val → i.val < 5 + 5 * lab.val → sePos k.val + 2 ≤ cPosD lab.val i.val ∨ cPosD lab.val i.val + dWid i.val ≤ sePos k.val := by decide +kernel
theorem leg_clr (hs : Stt cap lab ack cop) {c : Int64} (h : Leg cap lab ack cop c) : ∀ k, k ≤ 8 → Leg cap lab ack cop (clrTo c k) := by
  obtain ⟨⟨c1, c2⟩, ⟨b1, b2⟩, ⟨d1, d2⟩, ⟨e1, e2⟩⟩ := id hs
  intro k
  induction k with
  | zero => intro _; exact h
  | succ k ih =>
    intro hk
    have h1 := ih (by omega)
    show Leg cap lab ack cop (pt (clrTo c k) (sePos k) 2 0)
    by_cases hl : k < 2 * lab
    · have := leg_put hs h1 (i := 5 + k) (x := 0) (by omega) (dLim_pos hs _)
      rw [cPos_se hl, dWid_2 (by omega)] at this
      exact this
    · obtain ⟨z, g1, g2, g3⟩ := id h1
      have hf := dv_fit hs z (fun i hi => g2 i (by omega))
      have h0 : dg (clrTo c k) (sePos k) 2 = 0 := by
        rw [g3]
        exact dg_away b2 (by unfold sePos; omega) (fun i hi => awayS ⟨lab, by omega⟩ ⟨k, by omega⟩ ⟨i, by omega⟩ (by show 2 * lab ≤ k; omega) hi) z (by omega) hf
      have e := (pt2 (clrTo c k) (n := sePos k) (v := 0) (by unfold sePos; omega) (by decide)).uniq (by have := put_self (clrTo c k) (sePos k) 2; rw [h0] at this; exact this)
      rw [e]
      exact h1
end LEGL
