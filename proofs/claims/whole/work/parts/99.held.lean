/-! part 99: what the enumeration holds -/
section ENUMM
variable (mx : List Nat → Nat)
def okL : List Nat → Prop
  | [] => True
  | v :: p => v ≤ mx p ∧ okL p
theorem okL_tail : ∀ (s p : List Nat), okL mx (s ++ p) → okL mx p := by
  intro s
  induction s with
  | nil => intro p h; exact h
  | cons v s ih => intro p h; exact ih p h.2
theorem mem_enumB (g : List Nat → List (List Nat)) (p z : List Nat) : ∀ (n v : Nat), z ∈ enumB g p v n ↔ ∃ w, v ≤ w ∧ w < v + n ∧ z ∈ g (w :: p) := by
  intro n
  induction n with
  | zero =>
    intro v
    constructor
    · intro h; exact absurd h (List.not_mem_nil)
    · rintro ⟨w, h1, h2, _⟩; omega
  | succ n ih =>
    intro v
    show z ∈ g (v :: p) ++ enumB g p (v + 1) n ↔ _
    rw [List.mem_append, ih (v + 1)]
    constructor
    · rintro (h | ⟨w, h1, h2, h3⟩)
      · exact ⟨v, Nat.le_refl _, by omega, h⟩
      · exact ⟨w, by omega, by omega, h3⟩
    · rintro ⟨w, h1, h2, h3⟩
      by_cases h : w = v
      · subst h; exact Or.inl h3
      · exact Or.inr ⟨w, by omega, by omega, h3⟩
theorem mem_enumL : ∀ (k : Nat) (p z : List Nat), okL mx p → (z ∈ enumL mx k p ↔ okL mx z ∧ ∃ s : List Nat, s.length = k ∧ z = s ++ p) := by
  intro k
  induction k with
  | zero =>
    intro p z hp
    show z ∈ [p] ↔ _
    rw [List.mem_singleton]
    constructor
    · rintro rfl; exact ⟨hp, [], rfl, rfl⟩
    · rintro ⟨_, s, hs, rfl⟩
      rw [List.eq_nil_of_length_eq_zero hs]
      rfl
  | succ k ih =>
    intro p z hp
    show z ∈ enumB (enumL mx k) p 0 (mx p + 1) ↔ _
    rw [mem_enumB]
    constructor
    · rintro ⟨w, _, hw, h⟩
      obtain ⟨h1, s, hs, rfl⟩ := (ih (w :: p) z ⟨by omega, hp⟩).mp h
      exact ⟨h1, s ++ [w], by rw [List.length_append, hs]; rfl, by rw [List.append_assoc]; rfl⟩
    · rintro ⟨h1, s, hs, rfl⟩
      rcases List.eq_nil_or_concat s with rfl | ⟨s', w, rfl⟩
      · exact absurd hs (by simp)
      · rw [List.length_concat] at hs
        have e : s'.concat w ++ p = s' ++ (w :: p) := by rw [List.concat_eq_append, List.append_assoc]; rfl
        rw [e] at h1 ⊢
        have hw := (okL_tail mx s' (w :: p) h1).1
        exact ⟨w, Nat.zero_le _, by omega, (ih (w :: p) _ ⟨hw, hp⟩).mpr ⟨h1, s', by omega, rfl⟩⟩
end ENUMM
