/-! part 9c: the channels' part of the states -/
section PKL
variable {cap lab ack cop : Nat}
theorem sumTo_times (g : Nat → Nat) (c : Nat) : ∀ n, sumTo (fun v => g v * c) n = sumTo g n * c := by
  intro n
  induction n with
  | zero => show 0 = 0 * c; rw [Nat.zero_mul]
  | succ n ih => show sumTo (fun v => g v * c) n + g n * c = (sumTo g n + g n) * c; rw [ih, Nat.add_mul]
theorem packets_len : ∀ (k : Nat) (p : List Nat), p.length + k = 5 + 4 * lab → 5 + 2 * lab ≤ p.length → (enumL (mxS cap lab ack cop) (k + lab) p).length = cntC (cap - (p.take (p.length - (5 + 2 * lab))).sum) k * cntC cap lab := by
  intro k
  induction k with
  | zero =>
    intro p h1 h2
    have hm : mxS cap lab ack cop p = cap := by
      unfold mxS
      rw [if_neg (by omega), if_neg (by omega), show p.length - (5 + 4 * lab) = 0 by omega, List.take_zero, List.sum_nil, Nat.sub_zero]
    rw [Nat.zero_add, letters_len lab p (by omega) (by omega), hm]
    show _ = 1 * _
    rw [Nat.one_mul]
  | succ k ih =>
    intro p h1 h2
    have hm : mxS cap lab ack cop p = cap - (p.take (p.length - (5 + 2 * lab))).sum := by
      unfold mxS
      rw [if_neg (by omega), if_pos (by omega)]
    rw [show k + 1 + lab = (k + lab) + 1 by omega]
    show (enumB (enumL (mxS cap lab ack cop) (k + lab)) p 0 (mxS cap lab ack cop p + 1)).length = sumTo (fun v => cntC (cap - (p.take (p.length - (5 + 2 * lab))).sum - v) k) (cap - (p.take (p.length - (5 + 2 * lab))).sum + 1) * cntC cap lab
    rw [hm, enumB_len _ p (fun w => cntC (cap - (p.take (p.length - (5 + 2 * lab))).sum - w) k * cntC cap lab) _ 0 (fun w _ hw => ?_), ← sumTo_times]
    · congr 1
      funext i
      rw [Nat.zero_add]
    · rw [ih (w :: p) (by show p.length + 1 + k = _; omega) (by show _ ≤ p.length + 1; omega)]
      congr 2
      show cap - ((w :: p).take (p.length + 1 - (5 + 2 * lab))).sum = _
      rw [show p.length + 1 - (5 + 2 * lab) = (p.length - (5 + 2 * lab)) + 1 by omega, List.take_succ_cons, List.sum_cons]
      omega
end PKL
