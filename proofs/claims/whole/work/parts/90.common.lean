/-! part 90: the longest common part of two rows -/
def lc : List Int32 → List Int32 → Nat
  | [], _ => 0
  | _ :: _, [] => 0
  | x :: A, y :: B => if x = y then lc A B + 1 else max (lc A (y :: B)) (lc (x :: A) B)
termination_by A B => A.length + B.length
theorem lc_nil (A : List Int32) : lc A [] = 0 := by cases A <;> simp [lc]
theorem lc_nil' (A : List Int32) : lc [] A = 0 := by simp [lc]
theorem lc_same {x y : Int32} (h : x = y) (A B : List Int32) : lc (x :: A) (y :: B) = lc A B + 1 := by rw [lc, if_pos h]
theorem lc_other {x y : Int32} (h : ¬ x = y) (A B : List Int32) : lc (x :: A) (y :: B) = max (lc A (y :: B)) (lc (x :: A) B) := by rw [lc, if_neg h]
theorem lc_max : ∀ (n : Nat) (A B : List Int32), A.length + B.length ≤ n → (∃ l : List Int32, l.Sublist A ∧ l.Sublist B ∧ l.length = lc A B) ∧ ∀ l : List Int32, l.Sublist A → l.Sublist B → l.length ≤ lc A B := by
  intro n
  induction n with
  | zero =>
    intro A B h
    have hA : A = [] := List.eq_nil_of_length_eq_zero (by omega)
    subst hA
    rw [lc_nil']
    refine ⟨⟨[], List.Sublist.slnil, List.nil_sublist _, rfl⟩, fun l h1 _ => ?_⟩
    have := h1.length_le
    exact this
  | succ n ih =>
    intro A B h
    cases A with
    | nil =>
      rw [lc_nil']
      exact ⟨⟨[], List.Sublist.slnil, List.nil_sublist _, rfl⟩, fun l h1 _ => h1.length_le⟩
    | cons x A =>
      cases B with
      | nil =>
        rw [lc_nil]
        exact ⟨⟨[], List.nil_sublist _, List.Sublist.slnil, rfl⟩, fun l _ h2 => h2.length_le⟩
      | cons y B =>
        have hl : A.length + 1 + (B.length + 1) ≤ n + 1 := h
        by_cases hxy : x = y
        · subst hxy
          rw [lc_same rfl]
          obtain ⟨⟨l, l1, l2, l3⟩, hm⟩ := ih A B (by omega)
          refine ⟨⟨x :: l, l1.cons₂ x, l2.cons₂ x, by rw [← l3]; rfl⟩, fun l h1 h2 => ?_⟩
          have a1 : l.tail.Sublist A := h1.tail
          have a2 : l.tail.Sublist B := h2.tail
          have := hm _ a1 a2
          rw [List.length_tail] at this
          omega
        · rw [lc_other hxy]
          obtain ⟨⟨l, l1, l2, l3⟩, hm⟩ := ih A (y :: B) (by show A.length + (B.length + 1) ≤ n; omega)
          obtain ⟨⟨k, k1, k2, k3⟩, hk⟩ := ih (x :: A) B (by show A.length + 1 + B.length ≤ n; omega)
          refine ⟨?_, fun j h1 h2 => ?_⟩
          · by_cases hc : lc (x :: A) B ≤ lc A (y :: B)
            · exact ⟨l, l1.cons x, l2, by rw [l3]; omega⟩
            · exact ⟨k, k1, k2.cons y, by rw [k3]; omega⟩
          · rcases List.sublist_cons_iff.mp h1 with h3 | ⟨r, rfl, h3⟩
            · have := hm j h3 h2; omega
            · rcases List.sublist_cons_iff.mp h2 with h4 | ⟨r', h5, h4⟩
              · have := hk _ h1 h4; omega
              · exact absurd (List.cons.inj h5).1 hxy
theorem lc_rev (A B : List Int32) : lc A.reverse B.reverse = lc A B := by
  obtain ⟨⟨l, l1, l2, l3⟩, hm⟩ := lc_max _ A B (Nat.le_refl _)
  obtain ⟨⟨k, k1, k2, k3⟩, hk⟩ := lc_max _ A.reverse B.reverse (Nat.le_refl _)
  have h1 := hk l.reverse (List.reverse_sublist.mpr l1) (List.reverse_sublist.mpr l2)
  have h2 := hm k.reverse (by have := List.reverse_sublist.mpr k1; rwa [List.reverse_reverse] at this) (by have := List.reverse_sublist.mpr k2; rwa [List.reverse_reverse] at this)
  rw [List.length_reverse] at h1 h2
  omega
