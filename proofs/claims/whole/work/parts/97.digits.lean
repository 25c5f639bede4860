/-! part 97: the reference's digits -/
section DIGS
variable (cap lab ack cop : Nat)
def dPos (lab i : Nat) : Nat := if i < 5 then (if i = 0 then 0 else if i = 1 then 2 else if i = 2 then 3 else if i = 3 then 6 else 7) else if i < 5 + 2 * lab then 9 + 2 * (i - 5) else if i < 5 + 4 * lab then 25 + 2 * (i - 5 - 2 * lab) else 41 + 2 * (i - 5 - 4 * lab)
def dWid (i : Nat) : Nat := if i = 1 then 1 else if i = 2 then 3 else if i = 3 then 1 else 2
def dLim (cap lab ack cop i : Nat) : Nat := if i < 5 then (if i = 0 then lab else if i = 1 then 2 else if i = 2 then ack else if i = 3 then 2 else lab) else if i < 5 + 2 * lab then cop else cap + 1
def NDg (i : Nat) (s : Int32 × (Nat → Int32) × (Nat → Int32) × (Nat → Int32)) : Prop := s.1 = Int32.ofNat i ∧ ∀ j, j < i → s.2.1 j = Int32.ofNat (dPos lab j) ∧ s.2.2.1 j = Int32.ofNat (dWid j) ∧ s.2.2.2 j = Int32.ofNat (dLim cap lab ack cop j)
variable {cap lab ack cop}
theorem digit_put {i : Nat} (hi : i < 25) {s : Int32 × (Nat → Int32) × (Nat → Int32) × (Nat → Int32)} (h : NDg cap lab ack cop i s) {p w l : Int32} (hp : p = Int32.ofNat (dPos lab i)) (hw : w = Int32.ofNat (dWid i)) (hl : l = Int32.ofNat (dLim cap lab ack cop i)) : ∃ s', fX12_digit s.1 s.2.1 s.2.2.1 s.2.2.2 p w l = some s' ∧ NDg cap lab ack cop (i + 1) s' := by
  obtain ⟨x, A, B, C⟩ := s
  obtain ⟨h1, h2⟩ := h
  dsimp only at h1 h2 ⊢
  subst h1 hp hw hl
  unfold fX12_digit
  rw [if_pos (inb_t (by omega) hi), if_pos (inb_t (by omega) hi), if_pos (inb_t (by omega) hi), tnc (by omega), i32_succ]
  refine ⟨_, rfl, rfl, fun j hj => ?_⟩
  show upd A i _ j = _ ∧ upd B i _ j = _ ∧ upd C i _ j = _
  by_cases h : j = i
  · subst h; rw [upd_at, upd_at, upd_at]; exact ⟨rfl, rfl, rfl⟩
  · rw [upd_ne h, upd_ne h, upd_ne h]; exact h2 j (by omega)
theorem digits_eq (hs : Stt cap lab ack cop) {F : Nat} (hF : 100 ≤ F) (x55 : Int32) (A100 A101 A102 : Nat → Int32) : ∃ r, fX12_laysDigits F (Int32.ofNat cap) (Int32.ofNat lab) (Int32.ofNat ack) (Int32.ofNat cop) x55 A100 A101 A102 = some r ∧ NDg cap lab ack cop (5 + 5 * lab) r := by
  obtain ⟨h1, h2, h3, h4⟩ := hs
  have e2 : (2 : Int32) * Int32.ofNat lab = Int32.ofNat (2 * lab) := i32_mul 2 lab
  unfold fX12_laysDigits
  obtain ⟨r1, q1, g1⟩ := digit_put (cap := cap) (lab := lab) (ack := ack) (cop := cop) (i := 0) (by decide) (s := (0, A100, A101, A102)) ⟨rfl, fun j hj => absurd hj (Nat.not_lt_zero _)⟩ (p := 0) (w := 2) (l := Int32.ofNat lab) rfl rfl rfl
  rw [q1, Option.bind_some]
  obtain ⟨r2, q2, g2⟩ := digit_put (by decide) g1 (p := 2) (w := 1) (l := 2) rfl rfl rfl
  rw [q2, Option.bind_some]
  obtain ⟨r3, q3, g3⟩ := digit_put (by decide) g2 (p := 3) (w := 3) (l := Int32.ofNat ack) rfl rfl rfl
  rw [q3, Option.bind_some]
  obtain ⟨r4, q4, g4⟩ := digit_put (by decide) g3 (p := 6) (w := 1) (l := 2) rfl rfl rfl
  rw [q4, Option.bind_some]
  obtain ⟨r5, q5, g5⟩ := digit_put (by decide) g4 (p := 7) (w := 2) (l := Int32.ofNat lab) rfl rfl rfl
  rw [q5, Option.bind_some]
  have l1 := gl_ix (st := fun u7 : (Int32 × Int32 × (Nat → Int32) × (Nat → Int32) × (Nat → Int32)) => fX12_laysDigits_S53 F (Int32.ofNat cap) (Int32.ofNat lab) (Int32.ofNat ack) (Int32.ofNat cop) u7.1 u7.2.1 u7.2.2.1 u7.2.2.2.1 u7.2.2.2.2) (fun k s => s.1 = Int32.ofNat k ∧ NDg cap lab ack cop (5 + k) s.2) (fun r => NDg cap lab ack cop (5 + 2 * lab) r) (2 * lab) (by
    rintro k ⟨v, s⟩ hk ⟨g, gs⟩
    dsimp only at g gs ⊢
    subst g
    unfold fX12_laysDigits_S53
    obtain ⟨s', q, gq⟩ := digit_put (by omega) gs (p := 9 + 2 * Int32.ofNat k) (w := 2) (l := Int32.ofNat cop) (by rw [show (2 : Int32) * Int32.ofNat k = Int32.ofNat (2 * k) from i32_mul 2 k, show (9 : Int32) + Int32.ofNat (2 * k) = Int32.ofNat (9 + 2 * k) from i32_add 9 _]; unfold dPos; rw [if_neg (by omega), if_pos (by omega), Nat.add_sub_cancel_left]) (by unfold dWid; rw [if_neg (by omega), if_neg (by omega), if_neg (by omega)]; rfl) (by unfold dLim; rw [if_neg (by omega), if_pos (by omega)])
    rw [e2, if_neg (fun z => by have := (i32_le (by omega) (by omega)).mp z; omega), q, i32_succ]
    exact ⟨_, rfl, rfl, gq⟩) (by
    rintro ⟨v, s⟩ ⟨g, gs⟩
    dsimp only at g gs ⊢
    subst g
    unfold fX12_laysDigits_S53
    rw [e2, if_pos ((i32_le (by omega) (by omega)).mpr (Nat.le_refl _))]
    exact ⟨_, rfl, gs⟩) F 0 (0, r5) (Nat.zero_le _) ⟨rfl, g5⟩ (by omega)
  obtain ⟨r6, q6, g6⟩ := l1
  rw [q6, Option.bind_some]
  have l2 := gl_ix (st := fun u10 : (Int32 × Int32 × (Nat → Int32) × (Nat → Int32) × (Nat → Int32)) => fX12_laysDigits_S86 F (Int32.ofNat cap) (Int32.ofNat lab) (Int32.ofNat ack) (Int32.ofNat cop) u10.1 u10.2.1 u10.2.2.1 u10.2.2.2.1 u10.2.2.2.2) (fun k s => s.1 = Int32.ofNat k ∧ NDg cap lab ack cop (5 + 2 * lab + k) s.2) (fun r => NDg cap lab ack cop (5 + 2 * lab + 2 * lab) r) (2 * lab) (by
    rintro k ⟨v, s⟩ hk ⟨g, gs⟩
    dsimp only at g gs ⊢
    subst g
    unfold fX12_laysDigits_S86
    obtain ⟨s', q, gq⟩ := digit_put (by omega) gs (p := 25 + 2 * Int32.ofNat k) (w := 2) (l := Int32.ofNat cap + 1) (by rw [show (2 : Int32) * Int32.ofNat k = Int32.ofNat (2 * k) from i32_mul 2 k, show (25 : Int32) + Int32.ofNat (2 * k) = Int32.ofNat (25 + 2 * k) from i32_add 25 _]; unfold dPos; rw [if_neg (by omega), if_neg (by omega), if_pos (by omega), show 5 + 2 * lab + k - 5 - 2 * lab = k by omega]) (by unfold dWid; rw [if_neg (by omega), if_neg (by omega), if_neg (by omega)]; rfl) (by unfold dLim; rw [if_neg (by omega), if_neg (by omega), i32_succ])
    rw [e2, if_neg (fun z => by have := (i32_le (by omega) (by omega)).mp z; omega), q, i32_succ]
    exact ⟨_, rfl, rfl, gq⟩) (by
    rintro ⟨v, s⟩ ⟨g, gs⟩
    dsimp only at g gs ⊢
    subst g
    unfold fX12_laysDigits_S86
    rw [e2, if_pos ((i32_le (by omega) (by omega)).mpr (Nat.le_refl _))]
    exact ⟨_, rfl, gs⟩) F 0 (0, r6) (Nat.zero_le _) ⟨rfl, g6⟩ (by omega)
  obtain ⟨r7, q7, g7⟩ := l2
  rw [q7, Option.bind_some]
  have l3 := gl_ix (st := fun u13 : (Int32 × Int32 × (Nat → Int32) × (Nat → Int32) × (Nat → Int32)) => fX12_laysDigits_S121 F (Int32.ofNat cap) (Int32.ofNat lab) (Int32.ofNat ack) (Int32.ofNat cop) u13.1 u13.2.1 u13.2.2.1 u13.2.2.2.1 u13.2.2.2.2) (fun k s => s.1 = Int32.ofNat k ∧ NDg cap lab ack cop (5 + 2 * lab + 2 * lab + k) s.2) (fun r => NDg cap lab ack cop (5 + 2 * lab + 2 * lab + lab) r) lab (by
    rintro k ⟨v, s⟩ hk ⟨g, gs⟩
    dsimp only at g gs ⊢
    subst g
    unfold fX12_laysDigits_S121
    obtain ⟨s', q, gq⟩ := digit_put (by omega) gs (p := 41 + 2 * Int32.ofNat k) (w := 2) (l := Int32.ofNat cap + 1) (by rw [show (2 : Int32) * Int32.ofNat k = Int32.ofNat (2 * k) from i32_mul 2 k, show (41 : Int32) + Int32.ofNat (2 * k) = Int32.ofNat (41 + 2 * k) from i32_add 41 _]; unfold dPos; rw [if_neg (by omega), if_neg (by omega), if_neg (by omega), show 5 + 2 * lab + 2 * lab + k - 5 - 4 * lab = k by omega]) (by unfold dWid; rw [if_neg (by omega), if_neg (by omega), if_neg (by omega)]; rfl) (by unfold dLim; rw [if_neg (by omega), if_neg (by omega), i32_succ])
    rw [if_neg (fun z => by have := (i32_le (by omega) (by omega)).mp z; omega), q, i32_succ]
    exact ⟨_, rfl, rfl, gq⟩) (by
    rintro ⟨v, s⟩ ⟨g, gs⟩
    dsimp only at g gs ⊢
    subst g
    unfold fX12_laysDigits_S121
    rw [if_pos ((i32_le (by omega) (by omega)).mpr (Nat.le_refl _))]
    exact ⟨_, rfl, gs⟩) F 0 (0, r7) (Nat.zero_le _) ⟨rfl, g7⟩ (by omega)
  obtain ⟨r8, q8, g8⟩ := l3
  rw [q8, Option.bind_some]
  refine ⟨_, rfl, ?_⟩
  rw [show 5 + 5 * lab = 5 + 2 * lab + 2 * lab + lab by omega]
  exact g8
end DIGS
