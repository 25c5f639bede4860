/-! part 9a: how many ways the channels can be filled; lengths -/
section CNTC
def cntC : Nat → Nat → Nat
  | _, 0 => 1
  | s, k + 1 => sumTo (fun v => cntC (s - v) k) (s + 1)
theorem cntC_none (k : Nat) : cntC 0 k = 1 := by
  induction k with
  | zero => rfl
  | succ k ih =>
    show 0 + cntC (0 - 0) k = 1
    rw [Nat.sub_zero, ih]
theorem cntC_one (k : Nat) : cntC 1 k = 1 + k := by
  induction k with
  | zero => rfl
  | succ k ih =>
    show 0 + cntC (1 - 0) k + cntC (1 - 1) k = _
    rw [Nat.sub_zero, Nat.sub_self, ih, cntC_none]
    omega
theorem tri_succ (k : Nat) : (k + 1) * (k + 1 + 1) / 2 = k * (k + 1) / 2 + (k + 1) := by
  have e : (k + 1) * (k + 1 + 1) = k * (k + 1) + (k + 1) * 2 := by
    rw [Nat.mul_succ, Nat.mul_succ, Nat.mul_succ, Nat.succ_mul]
    omega
  rw [e, Nat.add_mul_div_right _ _ (by decide)]
theorem cntC_two (k : Nat) : cntC 2 k = 1 + k + k * (k + 1) / 2 := by
  induction k with
  | zero => rfl
  | succ k ih =>
    show 0 + cntC (2 - 0) k + cntC (2 - 1) k + cntC (2 - 2) k = _
    rw [Nat.sub_zero, Nat.sub_self, show 2 - 1 = 1 from rfl, ih, cntC_one, cntC_none, tri_succ]
    omega
theorem cntC_fil {cap : Nat} (h1 : 1 ≤ cap) (h2 : cap ≤ 2) (k : Nat) : cntC cap k = fil cap k := by
  unfold fil
  rcases (show cap = 1 ∨ cap = 2 by omega) with rfl | rfl
  · rw [if_pos (Nat.le_refl _)]; exact cntC_one k
  · rw [if_neg (by decide)]; exact cntC_two k
theorem enumB_len (g : List Nat → List (List Nat)) (p : List Nat) (f : Nat → Nat) : ∀ (n v : Nat), (∀ w, v ≤ w → w < v + n → (g (w :: p)).length = f w) → (enumB g p v n).length = sumTo (fun i => f (v + i)) n := by
  intro n
  induction n with
  | zero => intro v _; rfl
  | succ n ih =>
    intro v h
    show (g (v :: p) ++ enumB g p (v + 1) n).length = _
    rw [List.length_append, h v (Nat.le_refl _) (by omega), ih (v + 1) (fun w h1 h2 => h w (by omega) (by omega))]
    have key : ∀ m, f v + sumTo (fun i => f (v + 1 + i)) m = sumTo (fun i => f (v + i)) (m + 1) := by
      intro m
      induction m with
      | zero => show f v + 0 = 0 + f (v + 0); rw [Nat.add_zero, Nat.add_zero, Nat.zero_add]
      | succ m ihm =>
        show f v + (sumTo (fun i => f (v + 1 + i)) m + f (v + 1 + m)) = sumTo (fun i => f (v + i)) (m + 1) + f (v + (m + 1))
        rw [← ihm, show v + 1 + m = v + (m + 1) by omega]
        omega
    exact key n
end CNTC
