/-! part 98: counting through all rows of digits, in the abstract -/
section ENUM
variable (mx : List Nat → Nat)
def foNx : Nat → List Nat → Option (List Nat)
  | _, [] => none
  | k, v :: p => if v < mx p then some (List.replicate k 0 ++ ((v + 1) :: p)) else foNx (k + 1) p
def enumB (g : List Nat → List (List Nat)) (p : List Nat) : Nat → Nat → List (List Nat)
  | _, 0 => []
  | v, n + 1 => g (v :: p) ++ enumB g p (v + 1) n
def enumL : Nat → List Nat → List (List Nat)
  | 0, p => [p]
  | k + 1, p => enumB (enumL k) p 0 (mx p + 1)
def lStp : List (List Nat) → Option (List Nat) → Prop
  | [], _ => True
  | x :: l, e => foNx mx 0 x = (l.head?).or e ∧ lStp l e
theorem lStp_append (l1 l2 : List (List Nat)) (e : Option (List Nat)) (h1 : lStp mx l1 ((l2.head?).or e)) (h2 : lStp mx l2 e) : lStp mx (l1 ++ l2) e := by
  induction l1 with
  | nil => exact h2
  | cons x l1 ih =>
    obtain ⟨a1, a2⟩ := h1
    refine ⟨?_, ih a2⟩
    show foNx mx 0 x = ((l1 ++ l2).head?).or e
    rw [a1, List.head?_append, Option.or_assoc]
theorem enumL_ok : ∀ (k : Nat) (p : List Nat), (enumL mx k p).head? = some (List.replicate k 0 ++ p) ∧ lStp mx (enumL mx k p) (foNx mx k p) := by
  intro k
  induction k with
  | zero => intro p; exact ⟨rfl, rfl, trivial⟩
  | succ k ih =>
    intro p
    have blocks : ∀ (n v : Nat), v + n = mx p + 1 → (enumB (enumL mx k) p v n).head? = (if n = 0 then none else some (List.replicate k 0 ++ (v :: p))) ∧ lStp mx (enumB (enumL mx k) p v n) (foNx mx (k + 1) p) := by
      intro n
      induction n with
      | zero => intro v _; exact ⟨rfl, trivial⟩
      | succ n ihn =>
        intro v hv
        obtain ⟨b1, b2⟩ := ihn (v + 1) (by omega)
        obtain ⟨c1, c2⟩ := ih (v :: p)
        refine ⟨?_, ?_⟩
        · show (enumL mx k (v :: p) ++ enumB (enumL mx k) p (v + 1) n).head? = _
          rw [List.head?_append, c1, if_neg (by omega)]
          rfl
        · show lStp mx (enumL mx k (v :: p) ++ enumB (enumL mx k) p (v + 1) n) _
          refine lStp_append mx _ _ _ ?_ b2
          rw [b1]
          have e : foNx mx k (v :: p) = if v < mx p then some (List.replicate k 0 ++ ((v + 1) :: p)) else foNx mx (k + 1) p := rfl
          rw [e] at c2
          by_cases hn : n = 0
          · rw [if_neg (by omega)] at c2
            rw [if_pos hn]
            exact c2
          · rw [if_pos (by omega)] at c2
            rw [if_neg hn]
            exact c2
    obtain ⟨b1, b2⟩ := blocks (mx p + 1) 0 (by omega)
    refine ⟨?_, b2⟩
    show (enumB (enumL mx k) p 0 (mx p + 1)).head? = _
    rw [b1, if_neg (by omega), List.replicate_succ', List.append_assoc]
    rfl
end ENUM
