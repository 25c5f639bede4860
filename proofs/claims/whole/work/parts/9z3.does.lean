/-! part 9z3: what the steps of a text do; how they are laid -/
section DOPS2
variable {cap lab ack cop n : Nat} {b : Nat → Nat} {P : List STP3}
theorem nm_ok {lo hi k : Nat} (h : (nmA n b lo hi k).1 = 0) : (nmA n b lo hi k).2.1 ≤ hi := by
  unfold nmA at h ⊢
  dsimp only at h ⊢
  split at h
  · exact absurd h (by show ¬ 8 * _ + 1 = 0; omega)
  · split at h
    · exact absurd h (by show ¬ 8 * _ + 2 = 0; omega)
    · rename_i h1 h2
      rw [if_neg h1, if_neg h2]
      show nvA b _ _ ≤ hi
      omega
theorem sm_ok (hlab : lab ≤ 4) {p : Nat} (h : (smA lab n b p).1 = 0) : (smA lab n b p).2.2.1 < 6 ∧ (smA lab n b p).2.2.2.1 ≤ 30 ∧ (smA lab n b p).2.2.2.2 ≤ 30 := by
  unfold smA at h ⊢
  dsimp only at h ⊢
  generalize wOf b p (ewA n b pLe p) = w at h ⊢
  by_cases w0 : w = 0
  · rw [if_pos w0]; exact ⟨(show 0 < 6 by decide), (show 0 ≤ 30 by decide), (show 0 ≤ 30 by decide)⟩
  · rw [if_neg w0] at h ⊢
    by_cases w1 : w = 1 ∨ w = 3
    · rw [if_pos w1] at h ⊢
      by_cases z1 : (nmA n b 0 (lab - 1) (ewA n b pLe p)).1 = 0
      · rw [if_pos z1] at h ⊢
        by_cases z2 : (nmA n b 0 1 (nmA n b 0 (lab - 1) (ewA n b pLe p)).2.2).1 = 0
        · rw [if_pos z2]
          have a1 := nm_ok z1
          have a2 := nm_ok z2
          refine ⟨?_, ?_, ?_⟩
          · show w < 6; omega
          · show (nmA n b 0 (lab - 1) (ewA n b pLe p)).2.1 ≤ 30; omega
          · show (nmA n b 0 1 (nmA n b 0 (lab - 1) (ewA n b pLe p)).2.2).2.1 ≤ 30; omega
        · rw [if_neg z2] at h; exact absurd h z2
      · rw [if_neg z1] at h; exact absurd h z1
    · rw [if_neg w1] at h ⊢
      by_cases w2 : w = 2 ∨ w = 4
      · rw [if_pos w2] at h ⊢
        by_cases z1 : (nmA n b 0 (lab - 1) (ewA n b pLe p)).1 = 0
        · rw [if_pos z1]
          have a1 := nm_ok z1
          refine ⟨?_, ?_, ?_⟩
          · show w < 6; omega
          · show (nmA n b 0 (lab - 1) (ewA n b pLe p)).2.1 ≤ 30; omega
          · show 0 ≤ 30; omega
        · rw [if_neg z1] at h; exact absurd h z1
      · rw [if_neg w2] at h ⊢
        by_cases w5 : w = 5
        · rw [if_pos w5] at h ⊢
          by_cases z1 : (nmA n b 1 9 (ewA n b pLe p)).1 = 0
          · rw [if_pos z1]
            have a1 := nm_ok z1
            refine ⟨?_, ?_, ?_⟩
            · show 5 < 6; omega
            · show (nmA n b 1 9 (ewA n b pLe p)).2.1 ≤ 30; omega
            · show 0 ≤ 30; omega
          · rw [if_neg z1] at h; exact absurd h z1
        · rw [if_neg w5] at h; exact absurd h (by show ¬ 8 * p + 1 = 0; omega)
/-- jumps go where they should -/
def WfC (L : List STP3) (i : Nat) : Prop := ∀ (j : Nat) (x : STP3), L[j]? = some x → (x.1 = 6 → i + j < x.2.2 ∧ x.2.2 < i + L.length ∧ x.2.1 ≤ 30) ∧ (x.1 = 7 → x.2.1 < i + j) ∧ (x.1 < 6 → x.2.1 ≤ 30 ∧ x.2.2 ≤ 30) ∧ x.1 ≤ 7
theorem wf_append {L1 L2 : List STP3} {i : Nat} (h1 : WfC L1 i) (h2 : WfC L2 (i + L1.length)) : WfC (L1 ++ L2) i := by
  intro j x hx
  rw [List.getElem?_append] at hx
  by_cases hj : j < L1.length
  · rw [if_pos hj] at hx
    obtain ⟨a1, a2, a3, a4⟩ := h1 j x hx
    exact ⟨fun z => by have := a1 z; rw [List.length_append]; omega, a2, a3, a4⟩
  · rw [if_neg hj] at hx
    obtain ⟨a1, a2, a3, a4⟩ := h2 _ x hx
    exact ⟨fun z => by have := a1 z; rw [List.length_append]; omega, fun z => by have := a2 z; omega, a3, a4⟩
/-- what is known of the steps of one step or again -/
theorem ag_code {rc : Nat → Nat → Nat → RA4} {p opn i : Nat} (h : (agA n b rc p opn i).1 = 0) : opn ≠ 4 ∧ ∃ p', (rc p' (opn + 1) (i + 1)).1 = 0 ∧ (nmA n b 0 30 (ewA n b pLe p)).1 = 0 ∧ chA n b (skA n b (nmA n b 0 30 (ewA n b pLe p)).2.2) = 91 ∧ p' = skA n b (skA n b (nmA n b 0 30 (ewA n b pLe p)).2.2 + 1) ∧ chA n b (rc p' (opn + 1) (i + 1)).2.1 = 93 ∧ agA n b rc p opn i = (0, (rc p' (opn + 1) (i + 1)).2.1 + 1, itE (rc p' (opn + 1) (i + 1)).2.2.1 (nmA n b 0 30 (ewA n b pLe p)).2.1, (6, (nmA n b 0 30 (ewA n b pLe p)).2.1, i + 1 + (rc p' (opn + 1) (i + 1)).2.2.2.length) :: ((rc p' (opn + 1) (i + 1)).2.2.2 ++ [(7, i, 0)])) := by
  unfold agA at h ⊢
  by_cases h4 : opn = 4
  · rw [if_pos h4] at h; exact absurd h (by show ¬ 8 * p + 3 = 0; omega)
  · rw [if_neg h4] at h
    by_cases z1 : (nmA n b 0 30 (ewA n b pLe p)).1 = 0
    · rw [if_pos z1] at h
      by_cases z2 : chA n b (skA n b (nmA n b 0 30 (ewA n b pLe p)).2.2) = 91
      · rw [if_pos z2] at h
        dsimp only at h
        by_cases z3 : (rc (skA n b (skA n b (nmA n b 0 30 (ewA n b pLe p)).2.2 + 1)) (opn + 1) (i + 1)).1 = 0
        · rw [if_pos z3] at h
          by_cases z4 : chA n b (rc (skA n b (skA n b (nmA n b 0 30 (ewA n b pLe p)).2.2 + 1)) (opn + 1) (i + 1)).2.1 = 93
          · refine ⟨h4, _, z3, z1, z2, rfl, z4, ?_⟩
            rw [if_neg h4, if_pos z1, if_pos z2]
            dsimp only
            rw [if_pos z3, if_pos z4]
          · rw [if_neg z4] at h; exact absurd h (by show ¬ 8 * _ + 1 = 0; omega)
        · rw [if_neg z3] at h; exact absurd h z3
      · rw [if_neg z2] at h; exact absurd h (by show ¬ 8 * _ + 1 = 0; omega)
    · rw [if_neg z1] at h; exact absurd h z1
theorem ag_len (a i k : Nat) (L : List STP3) : ((6, a, k) :: (L ++ [(7, i, 0)]) : List STP3).length = 1 + L.length + 1 := by
  rw [List.length_cons, List.length_append, List.length_singleton]; omega
theorem wf_ps (hlab : lab ≤ 4) : ∀ (f p opn i : Nat), (psA cap lab ack cop n b f p opn i).1 = 0 → WfC (psA cap lab ack cop n b f p opn i).2.2.2 i := by
  intro f
  induction f with
  | zero => intro p opn i _ j x hx; exact absurd hx (by show ¬ ([] : List STP3)[j]? = some x; simp)
  | succ f ih =>
    intro p opn i
    by_cases hc : chA n b p = 256 ∨ chA n b p = 93
    · rw [ps_zero f p opn i hc]
      intro _ j x hx
      exact absurd hx (by show ¬ ([] : List STP3)[j]? = some x; simp)
    · have hst : (stA cap lab ack cop n b (psA cap lab ack cop n b f) p opn i).1 = 0 → WfC (stA cap lab ack cop n b (psA cap lab ack cop n b f) p opn i).2.2.2 i := by
        unfold stA
        by_cases hw6 : wOf b p (ewA n b pLe p) = 6
        · rw [if_pos hw6]
          intro h
          obtain ⟨h4, p', r0, r1, r2, r3, r4, e⟩ := ag_code h
          have hw := ih p' (opn + 1) (i + 1) r0
          have ha := nm_ok r1
          rw [e]
          dsimp only
          intro j x hx
          rw [ag_len]
          cases j with
          | zero =>
            obtain rfl := Option.some.inj hx
            exact ⟨fun _ => ⟨by show i + 0 < i + 1 + _; omega, by show i + 1 + _ < _; omega, ha⟩, fun z => absurd z (show ¬ 6 = 7 by decide), fun z => absurd z (show ¬ 6 < 6 by decide), show 6 ≤ 7 by decide⟩
          | succ j =>
            rw [List.getElem?_cons_succ, List.getElem?_append] at hx
            by_cases hj : j < (psA cap lab ack cop n b f p' (opn + 1) (i + 1)).2.2.2.length
            · rw [if_pos hj] at hx
              obtain ⟨a1, a2, a3, a4⟩ := hw j x hx
              exact ⟨fun z => by have := a1 z; omega, fun z => by have := a2 z; omega, a3, a4⟩
            · rw [if_neg hj] at hx
              by_cases hj0 : j - (psA cap lab ack cop n b f p' (opn + 1) (i + 1)).2.2.2.length = 0
              · rw [hj0] at hx
                obtain rfl := Option.some.inj hx
                exact ⟨fun z => absurd z (show ¬ 7 = 6 by decide), fun _ => by show i < i + (j + 1); omega, fun z => absurd z (show ¬ 7 < 6 by decide), show 7 ≤ 7 by decide⟩
              · obtain ⟨y, hy⟩ : ∃ y, j - (psA cap lab ack cop n b f p' (opn + 1) (i + 1)).2.2.2.length = y + 1 := ⟨j - (psA cap lab ack cop n b f p' (opn + 1) (i + 1)).2.2.2.length - 1, by omega⟩
                rw [hy] at hx; exact absurd hx (by simp)
        · rw [if_neg hw6]
          intro h
          obtain ⟨a1, a2, a3⟩ := sm_ok hlab h
          intro j x hx
          cases j with
          | zero =>
            obtain rfl := Option.some.inj hx
            exact ⟨fun z => by omega, fun z => by omega, fun _ => ⟨a2, a3⟩, by omega⟩
          | succ j => exact absurd hx (by simp)
      rw [ps_step f p opn i hc]
      intro h
      by_cases z0 : (stA cap lab ack cop n b (psA cap lab ack cop n b f) p opn i).1 = 0
      · rw [if_pos z0] at h ⊢
        by_cases z59 : chA n b (skA n b (stA cap lab ack cop n b (psA cap lab ack cop n b f) p opn i).2.1) = 59
        · rw [if_pos z59] at h ⊢
          by_cases y0 : (psA cap lab ack cop n b f (skA n b (skA n b (stA cap lab ack cop n b (psA cap lab ack cop n b f) p opn i).2.1 + 1)) opn (i + (stA cap lab ack cop n b (psA cap lab ack cop n b f) p opn i).2.2.2.length)).1 = 0
          · rw [if_pos y0]
            exact wf_append (hst z0) (ih _ _ _ y0)
          · rw [if_neg y0] at h; exact absurd h y0
        · rw [if_neg z59] at h; exact absurd h (by show ¬ 8 * _ + 1 = 0; omega)
      · rw [if_neg z0] at h; exact absurd h z0
theorem does_ps (hlab : lab ≤ 4) : ∀ (f p opn i : Nat), opn ≤ 4 → (psA cap lab ack cop n b f p opn i).1 = 0 → Sub (psA cap lab ack cop n b f p opn i).2.2.2 i P → Does cap lab ack cop P i (i + (psA cap lab ack cop n b f p opn i).2.2.2.length) opn (psA cap lab ack cop n b f p opn i).2.2.1 := by
  intro f
  induction f with
  | zero => intro p opn i _ _ _; exact does_id i opn
  | succ f ih =>
    intro p opn i ho
    by_cases hc : chA n b p = 256 ∨ chA n b p = 93
    · rw [ps_zero f p opn i hc]
      intro _ _
      exact does_id i opn
    · have hst : (stA cap lab ack cop n b (psA cap lab ack cop n b f) p opn i).1 = 0 → Sub (stA cap lab ack cop n b (psA cap lab ack cop n b f) p opn i).2.2.2 i P → EfOk (stA cap lab ack cop n b (psA cap lab ack cop n b f) p opn i).2.2.1 ∧ Does cap lab ack cop P i (i + (stA cap lab ack cop n b (psA cap lab ack cop n b f) p opn i).2.2.2.length) opn (stA cap lab ack cop n b (psA cap lab ack cop n b f) p opn i).2.2.1 := by
        unfold stA
        by_cases hw6 : wOf b p (ewA n b pLe p) = 6
        · rw [if_pos hw6]
          intro h hs
          refine ⟨ef_ag (fun p o i => ef_ps f p o i) p opn i, ?_⟩
          obtain ⟨h4, p', r0, r1, r2, r3, r4, e⟩ := ag_code h
          rw [e] at hs ⊢
          dsimp only at hs ⊢
          have h0 := hs 0 _ rfl
          have hs1 : Sub (psA cap lab ack cop n b f p' (opn + 1) (i + 1)).2.2.2 (i + 1) P := by
            intro j x hx
            have := hs (j + 1) x (by rw [List.getElem?_cons_succ, List.getElem?_append, if_pos (List.getElem?_eq_some_iff.mp hx).1]; exact hx)
            rw [show i + 1 + j = i + (j + 1) by omega]
            exact this
          have hcl : P[i + 1 + (psA cap lab ack cop n b f p' (opn + 1) (i + 1)).2.2.2.length]? = some (7, i, 0) := by
            have := hs ((psA cap lab ack cop n b f p' (opn + 1) (i + 1)).2.2.2.length + 1) (7, i, 0) (by rw [List.getElem?_cons_succ, List.getElem?_append, if_neg (by omega), Nat.sub_self]; rfl)
            rw [show i + 1 + (psA cap lab ack cop n b f p' (opn + 1) (i + 1)).2.2.2.length = i + ((psA cap lab ack cop n b f p' (opn + 1) (i + 1)).2.2.2.length + 1) by omega]
            exact this
          have hd := ih p' (opn + 1) (i + 1) (by omega) r0 hs1
          have := does_again (a := (nmA n b 0 30 (ewA n b pLe p)).2.1) (ef_ps f p' (opn + 1) (i + 1)) (by omega) h0 hcl hd
          rw [ag_len, show i + (1 + (psA cap lab ack cop n b f p' (opn + 1) (i + 1)).2.2.2.length + 1) = i + 1 + (psA cap lab ack cop n b f p' (opn + 1) (i + 1)).2.2.2.length + 1 by omega]
          exact this
        · rw [if_neg hw6]
          intro h hs
          obtain ⟨a1, a2, a3⟩ := sm_ok hlab h
          refine ⟨ef_ex _, ?_⟩
          have h0 := hs 0 _ rfl
          exact does_simple h0 a1
      rw [ps_step f p opn i hc]
      intro h
      by_cases z0 : (stA cap lab ack cop n b (psA cap lab ack cop n b f) p opn i).1 = 0
      · rw [if_pos z0] at h ⊢
        by_cases z59 : chA n b (skA n b (stA cap lab ack cop n b (psA cap lab ack cop n b f) p opn i).2.1) = 59
        · rw [if_pos z59] at h ⊢
          by_cases y0 : (psA cap lab ack cop n b f (skA n b (skA n b (stA cap lab ack cop n b (psA cap lab ack cop n b f) p opn i).2.1 + 1)) opn (i + (stA cap lab ack cop n b (psA cap lab ack cop n b f) p opn i).2.2.2.length)).1 = 0
          · rw [if_pos y0]
            intro hs
            dsimp only at hs ⊢
            obtain ⟨s1, s2⟩ := hst z0 (sub_left hs)
            have s3 := ih _ opn _ ho y0 (sub_right hs)
            have := does_comp s1 (ef_ps f _ opn _) s2 s3
            rw [List.length_append, ← Nat.add_assoc]
            exact this
          · rw [if_neg y0] at h; exact absurd h y0
        · rw [if_neg z59] at h; exact absurd h (by show ¬ 8 * _ + 1 = 0; omega)
      · rw [if_neg z0] at h; exact absurd h z0
end DOPS2
