/-! part 9h: the state that follows, whole -/
section FOLX
variable {cap lab ack cop : Nat}
theorem mask_last : ∀ i : Fin 64, bt (-3298534883329) i.val = !(decide (40 ≤ i.val) && decide (i.val < 42)) := by decide +kernel
theorem mask_taken : ∀ i : Fin 64, bt (-4398046511105) i.val = !(decide (42 ≤ i.val) && decide (i.val < 43)) := by decide +kernel
theorem clear_put (c M : Int64) {n w : Nat} (h : ∀ i : Fin 64, bt M i.val = !(decide (n ≤ i.val) && decide (i.val < n + w))) : IsPut c (c &&& M) n w 0 := by
  intro i hi
  rw [bt_and, h ⟨i, hi⟩]
  by_cases h : n ≤ i ∧ i < n + w
  · rw [if_pos h, Nat.zero_testBit]
    have h1 : decide (n ≤ i) = true := decide_eq_true h.1
    have h2 : decide (i < n + w) = true := decide_eq_true h.2
    simp [h1, h2]
  · rw [if_neg h]
    have h1 : (decide (n ≤ i) && decide (i < n + w)) = false := by
      simp only [Bool.and_eq_false_iff, decide_eq_false_iff_not]
      omega
    rw [h1]
    simp
theorem clear_last (c : Int64) : c &&& (-3298534883329) = pt c 40 2 0 := (clear_put c _ mask_last).uniq (pt_put c (by decide) (by decide) (by decide) (by decide))
theorem clear_taken (c : Int64) : c &&& (-4398046511105) = pt c 42 1 0 := (clear_put c _ mask_taken).uniq (pt_put c (by decide) (by decide) (by decide) (by decide))
theorem clear_acks (c : Int64) : fX7_withoutAcks c = pt c 43 3 0 := (sel_zero c).uniq (pt_put c (by decide) (by decide) (by decide) (by decide))
theorem add_one {c K : Int64} {n w : Nat} (hn : n + w ≤ 64) (hn2 : n < 64) (hw : w = 1 ∨ w = 2 ∨ w = 3) (hd : dg c n w + 1 < 2 ^ w) (hK : K = (1 : Int64) <<< Int64.ofNat n) : c + K = pt c n w (dg c n w + 1) := by
  rw [hK]
  exact (put_inc (pt_put c hn hn2 hw hd) hn hn2 hd).symm
theorem one_40 : (1099511627776 : Int64) = (1 : Int64) <<< Int64.ofNat 40 := by decide +kernel
theorem one_42 : (4398046511104 : Int64) = (1 : Int64) <<< Int64.ofNat 42 := by decide +kernel
theorem one_43 : (8796093022208 : Int64) = (1 : Int64) <<< Int64.ofNat 43 := by decide +kernel
theorem one_46 : (70368744177664 : Int64) = (1 : Int64) <<< Int64.ofNat 46 := by decide +kernel
theorem carry_tb : ∀ (l : Fin 3) (i : Fin 3), (2 * l.val + 1 + 1).testBit i.val = if i.val = 0 then false else (l.val + 1).testBit (i.val - 1) := by decide +kernel
theorem carry_put (c : Int64) {l : Nat} (hl : l < 3) : IsPut c (pt (pt c 46 1 0) 47 2 (l + 1)) 46 3 (2 * l + 1 + 1) := by
  intro i hi
  rw [bt_pt _ (by decide) (by decide) (by decide) (by show l + 1 < 4; omega) hi, bt_pt _ (by decide) (by decide) (by decide) (by decide) hi]
  by_cases h : 46 ≤ i ∧ i < 46 + 3
  · rw [if_pos h, carry_tb ⟨l, hl⟩ ⟨i - 46, by omega⟩]
    by_cases h0 : i = 46
    · subst h0
      rw [if_neg (by omega), if_pos (by omega), if_pos (by show 46 - 46 = 0; rfl), Nat.zero_testBit]
    · rw [if_pos (by omega), if_neg (by show ¬ i - 46 = 0; omega)]
      congr 1
  · rw [if_neg h, if_neg (by omega), if_neg (by omega)]
theorem five_of {q : List Nat} (h : q.length = 5) : ∃ a4 a3 a2 a1 a0, q = [a4, a3, a2, a1, a0] := by
  rcases q with _ | ⟨a, _ | ⟨b, _ | ⟨c, _ | ⟨d, _ | ⟨e, _ | ⟨f, q⟩⟩⟩⟩⟩⟩
  · simp at h
  · simp at h
  · simp at h
  · simp at h
  · simp at h
  · exact ⟨a, b, c, d, e, rfl⟩
  · simp at h
theorem sender_next (hs : Stt cap lab ack cop) {k a3 a2 a1 a0 : Nat} (hk : k + 4 = 5 + 5 * lab) (hok : okL (mxS cap lab ack cop) [a3, a2, a1, a0]) : fX7_followingSender (Int32.ofNat lab) (Int32.ofNat ack) (cOf lab (List.replicate k 0 ++ [a3, a2, a1, a0])) = encL lab (foNx (mxS cap lab ack cop) k [a3, a2, a1, a0]) := by
  obtain ⟨⟨c1, c2⟩, ⟨b1, b2⟩, ⟨d1, d2⟩, ⟨e1, e2⟩⟩ := id hs
  have hf := ok_fit hs _ (by show 4 ≤ _; omega) hok
  have m3 : mxS cap lab ack cop [a2, a1, a0] = 1 := by unfold mxS; rw [if_pos (by show 3 < _; omega)]; rfl
  have m2 : mxS cap lab ack cop [a1, a0] = ack - 1 := by unfold mxS; rw [if_pos (by show 2 < _; omega)]; rfl
  have m1 : mxS cap lab ack cop [a0] = 1 := by unfold mxS; rw [if_pos (by show 1 < _; omega)]; rfl
  have m0 : mxS cap lab ack cop [] = lab - 1 := by unfold mxS; rw [if_pos (by show 0 < _; omega)]; rfl
  have h3 := hok.1
  have h2 := hok.2.1
  have h1 := hok.2.2.1
  have h0 := hok.2.2.2.1
  rw [m3] at h3
  rw [m2] at h2
  rw [m1] at h1
  rw [m0] at h0
  have q3 : dg (cOf lab (List.replicate k 0 ++ [a3, a2, a1, a0])) 42 1 = a3 := dg_low b2 hf (k := k) (by show k + 3 < _; omega)
  have s3 : foNx (mxS cap lab ack cop) k [a3, a2, a1, a0] = if a3 < mxS cap lab ack cop [a2, a1, a0] then some (List.replicate k 0 ++ [a3 + 1, a2, a1, a0]) else foNx (mxS cap lab ack cop) (k + 1) [a2, a1, a0] := rfl
  have s2 : foNx (mxS cap lab ack cop) (k + 1) [a2, a1, a0] = if a2 < mxS cap lab ack cop [a1, a0] then some (List.replicate (k + 1) 0 ++ [a2 + 1, a1, a0]) else foNx (mxS cap lab ack cop) (k + 1 + 1) [a1, a0] := rfl
  have s1 : foNx (mxS cap lab ack cop) (k + 1 + 1) [a1, a0] = if a1 < mxS cap lab ack cop [a0] then some (List.replicate (k + 1 + 1) 0 ++ [a1 + 1, a0]) else foNx (mxS cap lab ack cop) (k + 1 + 1 + 1) [a0] := rfl
  have s0 : foNx (mxS cap lab ack cop) (k + 1 + 1 + 1) [a0] = if a0 < mxS cap lab ack cop [] then some (List.replicate (k + 1 + 1 + 1) 0 ++ [a0 + 1]) else none := rfl
  rw [m3] at s3
  rw [m2] at s2
  rw [m1] at s1
  rw [m0] at s0
  unfold fX7_followingSender
  rw [takenOf_dg, q3]
  by_cases g3 : a3 = 0
  · subst g3
    rw [if_pos (show 0 < 1 by decide)] at s3
    rw [s3, if_pos (by rw [if_pos rfl]), add_one (n := 42) (w := 1) (by decide) (by decide) (by decide) (by rw [q3]; decide) one_42, q3]
    exact cOf_low b2 0 1 [a2, a1, a0] (by show 0 < 2; decide) (by show 1 < 2; decide) k (by show k + 3 < _; omega)
  · have w3 : pt (cOf lab (List.replicate k 0 ++ [a3, a2, a1, a0])) 42 1 0 = cOf lab (List.replicate (k + 1) 0 ++ [a2, a1, a0]) := clr_low b2 hf (k := k) (by show k + 3 < _; omega)
    have q2 : dg (cOf lab (List.replicate (k + 1) 0 ++ [a2, a1, a0])) 43 3 = a2 := dg_low b2 hf.2 (k := k + 1) (by show k + 1 + 2 < _; omega)
    rw [if_neg (show ¬ a3 < 1 by omega)] at s3
    rw [s3, if_neg (by rw [if_neg g3]; decide), clear_taken, w3, fX7_acksOf_dg, q2, i32_succ]
    by_cases g2 : a2 < ack - 1
    · rw [if_pos g2] at s2
      rw [s2, if_neg (fun z => by have := (i32_le (by omega) (by omega)).mp z; omega), add_one (n := 43) (w := 3) (by decide) (by decide) (by decide) (by rw [q2]; show a2 + 1 < 8; omega) one_43, q2]
      exact cOf_low b2 a2 (a2 + 1) [a1, a0] (by show a2 < 8; omega) (by show a2 + 1 < 8; omega) (k + 1) (by show k + 1 + 2 < _; omega)
    · have w2 : pt (cOf lab (List.replicate (k + 1) 0 ++ [a2, a1, a0])) 43 3 0 = cOf lab (List.replicate (k + 1 + 1) 0 ++ [a1, a0]) := clr_low b2 hf.2 (k := k + 1) (by show k + 1 + 2 < _; omega)
      have q1 : dg (cOf lab (List.replicate (k + 1 + 1) 0 ++ [a1, a0])) 46 1 = a1 := dg_low b2 hf.2.2 (k := k + 1 + 1) (by show k + 1 + 1 + 1 < _; omega)
      have q0 : dg (cOf lab (List.replicate (k + 1 + 1) 0 ++ [a1, a0])) 47 2 = a0 := by
        have hz : List.replicate (k + 1 + 1) 0 ++ [a1, a0] = List.replicate (k + 1 + 1) 0 ++ [a1] ++ a0 :: [] := by rw [List.append_assoc]; rfl
        have := dg_cOf b2 (List.replicate (k + 1 + 1) 0 ++ [a1, a0]) (by rw [rep_len]; show _ + 2 ≤ _; omega) (fit_rep _ _ hf.2.2) 0 (by omega)
        rw [hz] at this ⊢
        exact this.trans (dv_app _ a0 [])
      rw [if_neg g2] at s2
      rw [s2, if_pos ((i32_le (by omega) (by omega)).mpr (by omega)), clear_acks, w2, fX7_valueOf_dg, q1, fX7_labelOf_dg, q0, i32_succ]
      by_cases g1 : a1 = 0
      · subst g1
        rw [if_pos (show 0 < 1 by decide)] at s1
        rw [s1, if_pos (show Int32.ofNat 0 = 0 from rfl), add_one (n := 46) (w := 1) (by decide) (by decide) (by decide) (by rw [q1]; decide) one_46, q1]
        exact cOf_low b2 0 1 [a0] (by show 0 < 2; decide) (by show 1 < 2; decide) (k + 1 + 1) (by show k + 1 + 1 + 1 < _; omega)
      · obtain rfl : a1 = 1 := by omega
        rw [if_neg (show ¬ 1 < 1 by decide)] at s1
        rw [s1, if_neg (show ¬ Int32.ofNat 1 = 0 by decide)]
        by_cases g0 : a0 < lab - 1
        · have w1 : pt (cOf lab (List.replicate (k + 1 + 1) 0 ++ [1, a0])) 46 1 0 = cOf lab (List.replicate (k + 1 + 1 + 1) 0 ++ [a0]) := clr_low b2 hf.2.2 (k := k + 1 + 1) (by show k + 1 + 1 + 1 < _; omega)
          have w0 : pt (cOf lab (List.replicate (k + 1 + 1 + 1) 0 ++ [a0])) 47 2 (a0 + 1) = cOf lab (List.replicate (k + 1 + 1 + 1) 0 ++ [a0 + 1]) := cOf_low b2 a0 (a0 + 1) [] (by show a0 < 4; omega) (by show a0 + 1 < 4; omega) (k + 1 + 1 + 1) (by show k + 1 + 1 + 1 + 0 < _; omega)
          have kk : dg (cOf lab (List.replicate (k + 1 + 1) 0 ++ [1, a0])) 46 3 = 2 * a0 + 1 := by
            rw [kOf_3]; unfold kOf; rw [q0, q1]
          rw [if_pos g0] at s0
          rw [s0, if_neg (fun z => by have := (i32_le (by omega) (by omega)).mp z; omega), add_one (n := 46) (w := 3) (by decide) (by decide) (by decide) (by rw [kk]; show 2 * a0 + 1 + 1 < 8; omega) one_46, kk]
          have hp := carry_put (cOf lab (List.replicate (k + 1 + 1) 0 ++ [1, a0])) (l := a0) (by omega)
          rw [w1, w0] at hp
          exact (pt_put _ (by decide) (by decide) (by decide) (by show 2 * a0 + 1 + 1 < 8; omega)).uniq hp
        · rw [if_neg g0] at s0
          rw [s0, if_pos ((i32_le (by omega) (by omega)).mpr (by omega))]
          rfl
theorem following_eq (hs : Stt cap lab ack cop) {z : List Nat} (hz : z.length = 5 + 5 * lab) (hok : okL (mxS cap lab ack cop) z) {F : Nat} (hF : 100 ≤ F) : fX7_following F (Int32.ofNat cap) (Int32.ofNat lab) (Int32.ofNat ack) (Int32.ofNat cop) (cOf lab z) = some (encL lab (foNx (mxS cap lab ack cop) 0 z)) := by
  obtain ⟨⟨c1, c2⟩, ⟨b1, b2⟩, ⟨d1, d2⟩, ⟨e1, e2⟩⟩ := id hs
  have e2l : (2 : Int32) * Int32.ofNat lab = Int32.ofNat (2 * lab) := i32_mul 2 lab
  unfold fX7_following
  rw [e2l]
  refine lets_loop hs (fun c j => rfl) (fun q hq hok => ?_) (by omega) hok hF
  rw [Nat.zero_add]
  dsimp only [Sum.elim_inr]
  refine pks_loop hs (fun c j => rfl) (fun q hq hok => ?_) (by omega) hok hF
  dsimp only [Sum.elim_inr]
  refine sees_loop hs (fun c j => rfl) (fun q hq hok => ?_) hq hok hF
  dsimp only [Sum.elim_inr]
  obtain ⟨a4, a3, a2, a1, a0, rfl⟩ := five_of hq
  have hf := ok_fit hs _ (by show 5 ≤ _; omega) hok
  have m4 : mxS cap lab ack cop [a3, a2, a1, a0] = lab - 1 := by unfold mxS; rw [if_pos (by show 4 < _; omega)]; rfl
  have h4 := hok.1
  rw [m4] at h4
  have q4 : dg (cOf lab (List.replicate (lab + 2 * lab + 2 * lab) 0 ++ [a4, a3, a2, a1, a0])) 40 2 = a4 := dg_low b2 hf (by show _ + 4 < _; omega)
  have s4 : foNx (mxS cap lab ack cop) (lab + 2 * lab + 2 * lab) [a4, a3, a2, a1, a0] = if a4 < mxS cap lab ack cop [a3, a2, a1, a0] then some (List.replicate (lab + 2 * lab + 2 * lab) 0 ++ [a4 + 1, a3, a2, a1, a0]) else foNx (mxS cap lab ack cop) (lab + 2 * lab + 2 * lab + 1) [a3, a2, a1, a0] := rfl
  rw [m4] at s4
  rw [fX7_lastOf_dg, q4, i32_succ]
  by_cases g4 : a4 < lab - 1
  · rw [if_pos g4] at s4
    rw [s4, if_neg (fun z => by have := (i32_le (by omega) (by omega)).mp z; omega), add_one (n := 40) (w := 2) (by decide) (by decide) (by decide) (by rw [q4]; show a4 + 1 < 4; omega) one_40, q4]
    exact congrArg some (cOf_low b2 a4 (a4 + 1) [a3, a2, a1, a0] (by show a4 < 4; omega) (by show a4 + 1 < 4; omega) _ (by show _ + 4 < _; omega))
  · have w4 : pt (cOf lab (List.replicate (lab + 2 * lab + 2 * lab) 0 ++ [a4, a3, a2, a1, a0])) 40 2 0 = cOf lab (List.replicate (lab + 2 * lab + 2 * lab + 1) 0 ++ [a3, a2, a1, a0]) := clr_low b2 hf (by show _ + 4 < _; omega)
    rw [if_neg g4] at s4
    rw [s4, if_pos ((i32_le (by omega) (by omega)).mpr (by omega)), clear_last, w4]
    exact congrArg some (sender_next hs (by omega) hok.2)
end FOLX
