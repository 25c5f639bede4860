/-! part 9d: how many rows of digits there are -/
section ALLD
def prodD (cap lab ack cop : Nat) : Nat → Nat
  | 0 => 1
  | r + 1 => dLim cap lab ack cop (5 + 2 * lab - (r + 1)) * prodD cap lab ack cop r
variable {cap lab ack cop : Nat}
theorem dLim_pos (hs : Stt cap lab ack cop) (i : Nat) : 1 ≤ dLim cap lab ack cop i := by
  obtain ⟨⟨a1, a2⟩, ⟨b1, b2⟩, ⟨c1, c2⟩, ⟨d1, d2⟩⟩ := hs
  unfold dLim
  repeat' split
  all_goals omega
theorem sumTo_const (c : Nat) : ∀ n, sumTo (fun _ => c) n = n * c := by
  intro n
  induction n with
  | zero => show 0 = 0 * c; rw [Nat.zero_mul]
  | succ n ih => show sumTo (fun _ => c) n + c = (n + 1) * c; rw [ih, Nat.succ_mul]
theorem all_len (hs : Stt cap lab ack cop) : ∀ (r : Nat) (p : List Nat), p.length + r = 5 + 2 * lab → (enumL (mxS cap lab ack cop) (r + (2 * lab + lab)) p).length = prodD cap lab ack cop r * (cntC cap (2 * lab) * cntC cap lab) := by
  intro r
  induction r with
  | zero =>
    intro p h
    rw [Nat.zero_add, packets_len (2 * lab) p (by omega) (by omega), show p.length - (5 + 2 * lab) = 0 by omega, List.take_zero, List.sum_nil, Nat.sub_zero]
    show _ = 1 * _
    rw [Nat.one_mul]
  | succ r ih =>
    intro p h
    have hl := dLim_pos hs p.length
    have hm : mxS cap lab ack cop p = dLim cap lab ack cop p.length - 1 := by
      unfold mxS
      rw [if_pos (by omega)]
    rw [show r + 1 + (2 * lab + lab) = (r + (2 * lab + lab)) + 1 by omega]
    show (enumB (enumL (mxS cap lab ack cop) (r + (2 * lab + lab))) p 0 (mxS cap lab ack cop p + 1)).length = dLim cap lab ack cop (5 + 2 * lab - (r + 1)) * prodD cap lab ack cop r * (cntC cap (2 * lab) * cntC cap lab)
    rw [hm, enumB_len _ p (fun _ => prodD cap lab ack cop r * (cntC cap (2 * lab) * cntC cap lab)) _ 0 (fun w _ hw => ih (w :: p) (by show p.length + 1 + r = _; omega)), sumTo_const, show dLim cap lab ack cop p.length - 1 + 1 = dLim cap lab ack cop (5 + 2 * lab - (r + 1)) by rw [show 5 + 2 * lab - (r + 1) = p.length by omega]; omega, Nat.mul_assoc]
theorem prodD_seen : ∀ r, r ≤ 2 * lab → prodD cap lab ack cop r = cop ^ r := by
  intro r
  induction r with
  | zero => intro _; rfl
  | succ r ih =>
    intro h
    show dLim cap lab ack cop (5 + 2 * lab - (r + 1)) * prodD cap lab ack cop r = _
    rw [ih (by omega), Nat.pow_succ, Nat.mul_comm]
    unfold dLim
    rw [if_neg (by omega), if_pos (by omega)]
theorem enum_all (hs : Stt cap lab ack cop) : (enumL (mxS cap lab ack cop) (5 + 5 * lab) []).length = allN cap lab ack cop := by
  obtain ⟨⟨a1, a2⟩, hs2⟩ := id hs
  rw [show 5 + 5 * lab = (2 * lab + 5) + (2 * lab + lab) by omega, all_len hs (2 * lab + 5) [] (by show 0 + _ = _; omega), cntC_fil a1 a2, cntC_fil a1 a2]
  show dLim cap lab ack cop (5 + 2 * lab - (2 * lab + 4 + 1)) * (dLim cap lab ack cop (5 + 2 * lab - (2 * lab + 3 + 1)) * (dLim cap lab ack cop (5 + 2 * lab - (2 * lab + 2 + 1)) * (dLim cap lab ack cop (5 + 2 * lab - (2 * lab + 1 + 1)) * (dLim cap lab ack cop (5 + 2 * lab - (2 * lab + 1)) * prodD cap lab ack cop (2 * lab))))) * _ = _
  rw [prodD_seen _ (Nat.le_refl _), show 5 + 2 * lab - (2 * lab + 4 + 1) = 0 by omega, show 5 + 2 * lab - (2 * lab + 3 + 1) = 1 by omega, show 5 + 2 * lab - (2 * lab + 2 + 1) = 2 by omega, show 5 + 2 * lab - (2 * lab + 1 + 1) = 3 by omega, show 5 + 2 * lab - (2 * lab + 1) = 4 by omega]
  show lab * (2 * (ack * (2 * (lab * cop ^ (2 * lab))))) * (fil cap (2 * lab) * fil cap lab) = 4 * lab * lab * ack * cop ^ (2 * lab) * fil cap (2 * lab) * fil cap lab
  rw [← Nat.mul_assoc (_ * _) (fil cap (2 * lab))]
  congr 2
  have e1 : ∀ P : Nat, lab * (2 * (ack * (2 * (lab * P)))) = (2 * 2) * (lab * (lab * (ack * P))) := by
    intro P
    ac_rfl
  rw [e1]
  show 4 * (lab * (lab * (ack * cop ^ (2 * lab)))) = _
  simp only [Nat.mul_assoc]
end ALLD
