/-! part 9e: a row of digits as a state, on both sides -/
section PLC
def cPosD (lab i : Nat) : Nat := if i < 5 then (if i = 0 then 47 else if i = 1 then 46 else if i = 2 then 43 else if i = 3 then 42 else 40) else if i < 5 + 2 * lab then sePos (i - 5) else if i < 5 + 4 * lab then pkPos (i - 5 - 2 * lab) else ltPos (i - 5 - 4 * lab)
theorem blkD : ∀ (lab : Fin 5) (i : Fin 25), i.val < 5 + 5 * lab.val → blk (dPos lab.val i.val) (cPosD lab.val i.val) (dWid i.val) = true := by decide +kernel
theorem apartD : ∀ (lab : Fin 5) (i j : Fin 25), i.val < 5 + 5 * lab.val → j.val < 5 + 5 * lab.val → ¬ i.val = j.val → cPosD lab.val i.val + dWid i.val ≤ cPosD lab.val j.val ∨ cPosD lab.val j.val + dWid j.val ≤ cPosD lab.val i.val := by decide +kernel
theorem dWid_in (i : Nat) : dWid i = 1 ∨ dWid i = 2 ∨ dWid i = 3 := by
  unfold dWid
  repeat' split
  all_goals decide
variable {cap lab ack cop : Nat}
def cOf (lab : Nat) : List Nat → Int64
  | [] => 0
  | v :: p => pt (cOf lab p) (cPosD lab p.length) (dWid p.length) v
def mOf (lab : Nat) : List Nat → Int64
  | [] => 0
  | v :: p => pt (mOf lab p) (dPos lab p.length) (dWid p.length) v
def fitL : List Nat → Prop
  | [] => True
  | v :: p => v < 2 ^ dWid p.length ∧ fitL p
def dv : List Nat → Nat → Nat
  | [], _ => 0
  | v :: p, i => if i = p.length then v else dv p i
theorem blk_at (hlab : lab ≤ 4) {i : Nat} (hi : i < 5 + 5 * lab) : blk (dPos lab i) (cPosD lab i) (dWid i) = true := blkD ⟨lab, by omega⟩ ⟨i, by omega⟩ hi
theorem apart_at (hlab : lab ≤ 4) {i j : Nat} (hi : i < 5 + 5 * lab) (hj : j < 5 + 5 * lab) (h : i ≠ j) : cPosD lab i + dWid i ≤ cPosD lab j ∨ cPosD lab j + dWid j ≤ cPosD lab i := apartD ⟨lab, by omega⟩ ⟨i, by omega⟩ ⟨j, by omega⟩ hi hj h
theorem cPos_le (hlab : lab ≤ 4) {i : Nat} (hi : i < 5 + 5 * lab) : cPosD lab i + dWid i ≤ 49 := (blk.le (blk_at hlab hi)).2
theorem dPos_le (hlab : lab ≤ 4) {i : Nat} (hi : i < 5 + 5 * lab) : dPos lab i + dWid i ≤ 49 := (blk.le (blk_at hlab hi)).1
theorem sx_zero : Sx 0 0 := ⟨fun i _ => by rw [z64, z64], fun i _ => z64 i, fun i _ => z64 i⟩
theorem cOf_put (hlab : lab ≤ 4) {v : Nat} {p : List Nat} (hp : p.length < 5 + 5 * lab) (hv : v < 2 ^ dWid p.length) (c : Int64) : IsPut c (pt c (cPosD lab p.length) (dWid p.length) v) (cPosD lab p.length) (dWid p.length) v := by
  have h := cPos_le hlab hp
  have hw := dWid_in p.length
  exact pt_put c (by omega) (by omega) hw hv
theorem of_sx (hlab : lab ≤ 4) : ∀ z : List Nat, z.length ≤ 5 + 5 * lab → fitL z → Sx (cOf lab z) (mOf lab z) := by
  intro z
  induction z with
  | nil => intro _ _; exact sx_zero
  | cons v p ih =>
    intro hl hf
    rw [List.length_cons] at hl
    have h := dPos_le hlab (i := p.length) (by omega)
    have hw := dWid_in p.length
    exact (ih (by omega) hf.2).put (blk_at hlab (by omega)) (cOf_put hlab (by omega) hf.1 _) (pt_put _ (by omega) (by omega) hw hf.1)
theorem dg_zero (n w : Nat) : dg 0 n w = 0 := by
  apply Nat.eq_of_testBit_eq
  intro i
  rw [dg_bit, z64, Bool.and_false, Nat.zero_testBit]
theorem dg_cOf (hlab : lab ≤ 4) : ∀ z : List Nat, z.length ≤ 5 + 5 * lab → fitL z → ∀ i, i < 5 + 5 * lab → dg (cOf lab z) (cPosD lab i) (dWid i) = dv z i := by
  intro z
  induction z with
  | nil => intro _ _ i _; exact dg_zero _ _
  | cons v p ih =>
    intro hl hf i hi
    rw [List.length_cons] at hl
    have hq := cOf_put hlab (p := p) (by omega) hf.1 (cOf lab p)
    have h1 := cPos_le hlab hi
    have h2 := cPos_le hlab (i := p.length) (by omega)
    show dg (pt (cOf lab p) (cPosD lab p.length) (dWid p.length) v) (cPosD lab i) (dWid i) = if i = p.length then v else dv p i
    by_cases h : i = p.length
    · rw [if_pos h, h]
      exact put_dg hq (by omega) hf.1
    · rw [if_neg h, put_dg_ne hq (by omega) (apart_at hlab hi (by omega) h)]
      exact ih (by omega) hf.2 i hi
theorem dv_ge : ∀ (z : List Nat) (i : Nat), z.length ≤ i → dv z i = 0 := by
  intro z
  induction z with
  | nil => intro i _; rfl
  | cons v p ih =>
    intro i h
    rw [List.length_cons] at h
    show (if i = p.length then v else dv p i) = 0
    rw [if_neg (by omega)]
    exact ih i (by omega)
theorem dv_inj : ∀ (z z' : List Nat), z.length = z'.length → (∀ i, i < z.length → dv z i = dv z' i) → z = z' := by
  intro z
  induction z with
  | nil => intro z' h _; exact (List.eq_nil_of_length_eq_zero h.symm).symm
  | cons v p ih =>
    intro z' h hd
    cases z' with
    | nil => simp at h
    | cons w q =>
      rw [List.length_cons, List.length_cons] at h
      have hl : p.length = q.length := by omega
      have h0 := hd p.length (by rw [List.length_cons]; omega)
      have e1 : dv (v :: p) p.length = v := if_pos rfl
      have e2 : dv (w :: q) p.length = w := if_pos hl
      rw [e1, e2] at h0
      have hq : p = q := ih q hl (fun i hi => by
        have h1 := hd i (by rw [List.length_cons]; omega)
        have e3 : dv (v :: p) i = dv p i := if_neg (by omega)
        have e4 : dv (w :: q) i = dv q i := if_neg (by omega)
        rw [e3, e4] at h1
        exact h1)
      rw [h0, hq]
theorem cOf_inj (hlab : lab ≤ 4) {z z' : List Nat} (hl : z.length = 5 + 5 * lab) (hl' : z'.length = 5 + 5 * lab) (hf : fitL z) (hf' : fitL z') (h : cOf lab z = cOf lab z') : z = z' := dv_inj z z' (by omega) (fun i hi => by
  rw [← dg_cOf hlab z (by omega) hf i (by omega), h, dg_cOf hlab z' (by omega) hf' i (by omega)])
/-- the limits keep within the widths -/
theorem mxS_fit (hs : Stt cap lab ack cop) (p : List Nat) (hp : p.length < 5 + 5 * lab) : mxS cap lab ack cop p < 2 ^ dWid p.length := by
  obtain ⟨⟨a1, a2⟩, ⟨b1, b2⟩, ⟨c1, c2⟩, ⟨d1, d2⟩⟩ := hs
  unfold mxS
  by_cases h : p.length < 5 + 2 * lab
  · rw [if_pos h]
    unfold dLim dWid
    by_cases h5 : p.length < 5
    · rw [if_pos h5]
      generalize p.length = n at h5
      rcases (show n = 0 ∨ n = 1 ∨ n = 2 ∨ n = 3 ∨ n = 4 by omega) with rfl | rfl | rfl | rfl | rfl
      · show lab - 1 < 4; omega
      · show 2 - 1 < 2; omega
      · show ack - 1 < 8; omega
      · show 2 - 1 < 2; omega
      · show lab - 1 < 4; omega
    · rw [if_neg h5, if_pos h, if_neg (by omega), if_neg (by omega), if_neg (by omega)]
      show cop - 1 < 4
      omega
  · rw [if_neg h]
    have e : dWid p.length = 2 := by
      unfold dWid
      rw [if_neg (by omega), if_neg (by omega), if_neg (by omega)]
    rw [e]
    show _ < 4
    split <;> omega
theorem ok_fit (hs : Stt cap lab ack cop) : ∀ z : List Nat, z.length ≤ 5 + 5 * lab → okL (mxS cap lab ack cop) z → fitL z := by
  intro z
  induction z with
  | nil => intro _ _; trivial
  | cons v p ih =>
    intro hl h
    rw [List.length_cons] at hl
    exact ⟨Nat.lt_of_le_of_lt h.1 (mxS_fit hs p (by omega)), ih (by omega) h.2⟩
theorem enumL_nodup (mx : List Nat → Nat) : ∀ (k : Nat) (p : List Nat), okL mx p → (enumL mx k p).Nodup := by
  intro k
  induction k with
  | zero => intro p _; exact List.nodup_cons.mpr ⟨List.not_mem_nil, List.nodup_nil⟩
  | succ k ih =>
    intro p hp
    have key : ∀ n v, v + n ≤ mx p + 1 → (enumB (enumL mx k) p v n).Nodup := by
      intro n
      induction n with
      | zero => intro v _; exact List.nodup_nil
      | succ n ihn =>
        intro v hv
        show (enumL mx k (v :: p) ++ enumB (enumL mx k) p (v + 1) n).Nodup
        refine List.nodup_append.mpr ⟨ih (v :: p) ⟨by omega, hp⟩, ihn (v + 1) (by omega), fun a ha b hb hab => ?_⟩
        subst hab
        obtain ⟨w, h1, h2, h3⟩ := (mem_enumB (enumL mx k) p a n (v + 1)).mp hb
        obtain ⟨_, s, hs, e1⟩ := (mem_enumL mx k (v :: p) a ⟨by omega, hp⟩).mp ha
        obtain ⟨_, s', hs', e2⟩ := (mem_enumL mx k (w :: p) a ⟨by omega, hp⟩).mp h3
        have := (List.append_inj (e1.symm.trans e2) (by omega)).2
        have := (List.cons.inj this).1
        omega
    exact key _ 0 (by omega)
end PLC
