/-! part 9b: the digits of the states, their limits -/
section MXS
def mxS (cap lab ack cop : Nat) (p : List Nat) : Nat := if p.length < 5 + 2 * lab then dLim cap lab ack cop p.length - 1 else if p.length < 5 + 4 * lab then cap - (p.take (p.length - (5 + 2 * lab))).sum else cap - (p.take (p.length - (5 + 4 * lab))).sum
variable {cap lab ack cop : Nat}
theorem letters_len : ∀ (k : Nat) (p : List Nat), p.length + k = 5 + 5 * lab → 5 + 4 * lab ≤ p.length → (enumL (mxS cap lab ack cop) k p).length = cntC (mxS cap lab ack cop p) k := by
  intro k
  induction k with
  | zero => intro p _ _; rfl
  | succ k ih =>
    intro p h1 h2
    show (enumB (enumL (mxS cap lab ack cop) k) p 0 (mxS cap lab ack cop p + 1)).length = sumTo (fun v => cntC (mxS cap lab ack cop p - v) k) (mxS cap lab ack cop p + 1)
    rw [enumB_len _ p (fun w => cntC (mxS cap lab ack cop p - w) k) _ 0 (fun w _ hw => ?_)]
    · congr 1
      funext i
      rw [Nat.zero_add]
    · rw [ih (w :: p) (by show p.length + 1 + k = _; omega) (by show _ ≤ p.length + 1; omega)]
      congr 1
      unfold mxS
      rw [if_neg (by show ¬ p.length + 1 < _; omega), if_neg (by show ¬ p.length + 1 < _; omega), if_neg (by omega), if_neg (by omega)]
      show cap - ((w :: p).take (p.length + 1 - (5 + 4 * lab))).sum = _
      rw [show p.length + 1 - (5 + 4 * lab) = (p.length - (5 + 4 * lab)) + 1 by omega, List.take_succ_cons, List.sum_cons]
      omega
end MXS
