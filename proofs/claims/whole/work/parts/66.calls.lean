/-! part 66: act, possible, run -/
theorem gl_two {σ τ ρ π : Type} {st1 : σ → Option (ρ ⊕ σ)} {st2 : τ → Option (π ⊕ τ)} (I : Nat → σ → τ → Prop) (Q : ρ → π → Prop) (n : Nat) (step : ∀ i s t, i < n → I i s t → ∃ s' t', st1 s = some (.inr s') ∧ st2 t = some (.inr t') ∧ I (i + 1) s' t') (last : ∀ s t, I n s t → ∃ r q, st1 s = some (.inl r) ∧ st2 t = some (.inl q) ∧ Q r q) : ∀ (F i : Nat) (s : σ) (t : τ), i ≤ n → I i s t → n - i < F → ∃ r q, gloop st1 F s = some r ∧ gloop st2 F t = some q ∧ Q r q := by
  intro F
  induction F with
  | zero => intro i s t _ _ h; omega
  | succ F ih =>
    intro i s t hi hI hF
    by_cases hn : i < n
    · obtain ⟨s', t', e1, e2, hI'⟩ := step i s t hn hI
      obtain ⟨r, q, h1, h2, hQ⟩ := ih (i + 1) s' t' (by omega) hI' (by omega)
      exact ⟨r, q, by simp only [gloop, e1]; exact h1, by simp only [gloop, e2]; exact h2, hQ⟩
    · obtain rfl : i = n := by omega
      obtain ⟨r, q, e1, e2, hQ⟩ := last s t hI
      exact ⟨r, q, by simp only [gloop, e1], by simp only [gloop, e2], hQ⟩
theorem i32_div {a b : Nat} (ha : a < 2 ^ 31) (hb : b < 2 ^ 31) : Int32.ofNat a / Int32.ofNat b = Int32.ofNat (a / b) := by
  have hd : a / b ≤ a := Nat.div_le_self a b
  apply Int32.toInt_inj.mp
  have hne : Int32.ofNat a ≠ Int32.minValue := by
    intro z
    have := congrArg Int32.toInt z
    rw [i32_int ha] at this
    have h2 : Int32.minValue.toInt = -2147483648 := by decide +kernel
    omega
  rw [Int32.toInt_div_of_ne_left _ _ hne, i32_int ha, i32_int hb, i32_int (by omega)]
  exact (Int.ofNat_tdiv a b).symm
theorem i32_rem {a b : Nat} (ha : a < 2 ^ 31) (hb : b < 2 ^ 31) : Int32.ofNat a - Int32.ofNat a / Int32.ofNat b * Int32.ofNat b = Int32.ofNat (a % b) := by
  rw [i32_div ha hb, i32_mul, i32_sub (Nat.div_mul_le_self a b)]
  congr 1
  have := Nat.div_add_mod a b
  rw [Nat.mul_comm] at this
  omega
theorem code_of_pk : ∀ (w : Fin 4) (a : Fin 4) (b : Fin 2), (w.val = 1 ∨ w.val = 3) → fX0_codeOf (Int32.ofNat w.val) (Int32.ofNat a.val) (Int32.ofNat b.val) = codeN w.val (2 * a.val + b.val) 0 := by decide +kernel
theorem code_of_lt : ∀ (w : Fin 5) (a : Fin 4), (w.val = 2 ∨ w.val = 4) → (Int32.ofNat w.val ||| (Int32.ofNat a.val <<< (4 &&& 31))) ||| (0 : Int32) = codeN w.val (2 * a.val) 0 := by decide +kernel
theorem within_04 {p : Int32} (h : p = 0 ∨ p = 1 ∨ p = 2 ∨ p = 3 ∨ p = 4) : ¬ fX12_within p 0 4 = 0 := by
  rcases h with rfl | rfl | rfl | rfl | rfl <;> decide
theorem within_n04 {p : Int32} (h : ¬ (p = 0 ∨ p = 1 ∨ p = 2 ∨ p = 3 ∨ p = 4)) : fX12_within p 0 4 = 0 := by
  unfold fX12_within
  by_cases h1 : p < 0
  · rw [if_pos h1]
  · rw [if_neg h1]
    by_cases h2 : (4 : Int32) < p
    · rw [if_pos h2]
    · exfalso
      have h6 : p < Int32.ofNat 5 := by
        rw [Int32.lt_iff_toInt_lt] at h2 ⊢
        rw [i32_int (by decide)]
        have : (4 : Int32).toInt = 4 := rfl
        omega
      obtain ⟨k, hk, rfl⟩ := i32_dig (n := 5) (by decide) h1 h6
      rcases (show k = 0 ∨ k = 1 ∨ k = 2 ∨ k = 3 ∨ k = 4 by omega) with rfl | rfl | rfl | rfl | rfl
      · exact h (Or.inl rfl)
      · exact h (Or.inr (Or.inl rfl))
      · exact h (Or.inr (Or.inr (Or.inl rfl)))
      · exact h (Or.inr (Or.inr (Or.inr (Or.inl rfl))))
      · exact h (Or.inr (Or.inr (Or.inr (Or.inr rfl))))
theorem offers_eq {c m : Int64} {lab : Nat} (hS : Sx c m) (h1 : 1 ≤ lab) (hlab : lab ≤ 4) (p1 p2 p3 : Int32) : (fX7_offers (Int32.ofNat lab) c p1 p2 p3 = 0 ∧ (fX12_within p1 0 4 = 0 ∨ fX12_isThere (Int32.ofNat lab) m p1 p2 p3 = 0)) ∨ (¬ fX7_offers (Int32.ofNat lab) c p1 p2 p3 = 0 ∧ ¬ fX12_within p1 0 4 = 0 ∧ ¬ fX12_isThere (Int32.ofNat lab) m p1 p2 p3 = 0 ∧ ∃ w k, p1 = Int32.ofNat w ∧ there lab c w k ∧ args w k p2 p3 ∧ fX0_codeOf p1 p2 p3 = codeN w k 0) := by
  have hpk : ∀ w : Nat, (w = 1 ∨ w = 3) → p1 = Int32.ofNat w → fX7_offers (Int32.ofNat lab) c p1 p2 p3 = (if (fX7_hasKind (Int32.ofNat lab) p2 p3) = 0 then 0 else (if (fX7_digit c (fX7_packetsAt ((2 * p2) + p3))) ≤ 0 then 0 else 1)) → fX12_isThere (Int32.ofNat lab) m p1 p2 p3 = fX12_isThere_J16 (Int32.ofNat lab) m p2 p3 → (fX7_offers (Int32.ofNat lab) c p1 p2 p3 = 0 ∧ (fX12_within p1 0 4 = 0 ∨ fX12_isThere (Int32.ofNat lab) m p1 p2 p3 = 0)) ∨ (¬ fX7_offers (Int32.ofNat lab) c p1 p2 p3 = 0 ∧ ¬ fX12_within p1 0 4 = 0 ∧ ¬ fX12_isThere (Int32.ofNat lab) m p1 p2 p3 = 0 ∧ ∃ w k, p1 = Int32.ofNat w ∧ there lab c w k ∧ args w k p2 p3 ∧ fX0_codeOf p1 p2 p3 = codeN w k 0) := by
    intro w hw hp e1 e2
    have hin : ¬ fX12_within p1 0 4 = 0 := within_04 (by rcases hw with rfl | rfl <;> rw [hp] <;> decide)
    rw [e1, e2]
    by_cases hk : fX7_hasKind (Int32.ofNat lab) p2 p3 = 0
    · rw [if_pos hk]
      refine Or.inl ⟨rfl, Or.inr ?_⟩
      unfold fX12_isThere_J16
      rw [kind_eq h1 (by omega), if_pos hk]
    · rw [if_neg hk]
      obtain ⟨k, hkk, a, b, ha, hb, rfl, rfl, hkv⟩ := kind_dig hlab hk
      rw [hkk, isThere_pk hS h1 hlab ha hb, packetsAt_p k.val k.isLt, ← hkv]
      by_cases hd : 1 ≤ dg c (pkPos k.val) 2
      · rw [if_pos hd, if_neg (fun z => (digit_le0 c (by unfold pkPos; omega)).mp z hd)]
        refine Or.inr ⟨by decide, hin, by decide, w, k.val, hp, Or.inr (Or.inl ⟨hw, by omega, hd⟩), ⟨fun _ => ⟨by rw [show k.val / 2 = a by omega], by rw [show k.val % 2 = b by omega]⟩, fun z => by omega⟩, ?_⟩
        rw [hp, hkv]
        exact code_of_pk ⟨w, by omega⟩ ⟨a, by omega⟩ ⟨b, hb⟩ hw
      · rw [if_neg hd, if_pos ((digit_le0 c (by unfold pkPos; omega)).mpr hd)]
        exact Or.inl ⟨rfl, Or.inr rfl⟩
  have hlt : ∀ w : Nat, (w = 2 ∨ w = 4) → p1 = Int32.ofNat w → fX7_offers (Int32.ofNat lab) c p1 p2 p3 = (if (fX7_hasLabel (Int32.ofNat lab) p2) = 0 then 0 else (if (fX7_digit c (fX7_lettersAt p2)) ≤ 0 then 0 else 1)) → fX12_isThere (Int32.ofNat lab) m p1 p2 p3 = fX12_isThere_J58 (Int32.ofNat lab) m p2 → (fX7_offers (Int32.ofNat lab) c p1 p2 p3 = 0 ∧ (fX12_within p1 0 4 = 0 ∨ fX12_isThere (Int32.ofNat lab) m p1 p2 p3 = 0)) ∨ (¬ fX7_offers (Int32.ofNat lab) c p1 p2 p3 = 0 ∧ ¬ fX12_within p1 0 4 = 0 ∧ ¬ fX12_isThere (Int32.ofNat lab) m p1 p2 p3 = 0 ∧ ∃ w k, p1 = Int32.ofNat w ∧ there lab c w k ∧ args w k p2 p3 ∧ fX0_codeOf p1 p2 p3 = codeN w k 0) := by
    intro w hw hp e1 e2
    have hin : ¬ fX12_within p1 0 4 = 0 := within_04 (by rcases hw with rfl | rfl <;> rw [hp] <;> decide)
    rw [e1, e2]
    by_cases hk : fX7_hasLabel (Int32.ofNat lab) p2 = 0
    · rw [if_pos hk]
      refine Or.inl ⟨rfl, Or.inr ?_⟩
      unfold fX12_isThere_J58
      rw [label_eq h1 (by omega), if_pos hk]
    · rw [if_neg hk]
      obtain ⟨l, hl, rfl⟩ := label_dig (by omega) hk
      rw [isThere_lt hS h1 hlab hl, lettersAt_p l (by omega)]
      by_cases hd : 1 ≤ dg c (ltPos l) 2
      · rw [if_pos hd, if_neg (fun z => (digit_le0 c (by unfold ltPos; omega)).mp z hd)]
        refine Or.inr ⟨by decide, hin, by decide, w, 2 * l, hp, Or.inr (Or.inr ⟨hw, by omega, by omega, by rw [show 2 * l / 2 = l by omega]; exact hd⟩), ⟨fun z => by omega, fun _ => by rw [show 2 * l / 2 = l by omega]⟩, ?_⟩
        have hc : fX0_codeOf p1 (Int32.ofNat l) p3 = (p1 ||| (Int32.ofNat l <<< (4 &&& 31))) ||| (0 : Int32) := by
          unfold fX0_codeOf
          rcases hw with rfl | rfl <;> subst hp
          · rw [if_neg (show ¬ Int32.ofNat 2 = 0 by decide), if_neg (show ¬ Int32.ofNat 2 = 1 by decide), if_neg (show ¬ Int32.ofNat 2 = 3 by decide)]
          · rw [if_neg (show ¬ Int32.ofNat 4 = 0 by decide), if_neg (show ¬ Int32.ofNat 4 = 1 by decide), if_neg (show ¬ Int32.ofNat 4 = 3 by decide)]
        rw [hc, hp]
        exact code_of_lt ⟨w, by omega⟩ ⟨l, by omega⟩ hw
      · rw [if_neg hd, if_pos ((digit_le0 c (by unfold ltPos; omega)).mpr hd)]
        exact Or.inl ⟨rfl, Or.inr rfl⟩
  have ht := there_w (m := m) (Int32.ofNat lab) p2 p3
  by_cases p0 : p1 = 0
  · subst p0
    refine Or.inr ⟨by unfold fX7_offers; rw [if_pos rfl]; decide, by decide, by unfold fX12_isThere; rw [if_pos rfl]; decide, 0, 0, rfl, Or.inl ⟨rfl, rfl⟩, ⟨fun z => by omega, fun z => by omega⟩, ?_⟩
    unfold fX0_codeOf
    rw [if_pos rfl]; rfl
  · by_cases p11 : p1 = 1
    · subst p11
      exact hpk 1 (Or.inl rfl) rfl (by unfold fX7_offers; rw [if_neg (show ¬ (1 : Int32) = 0 by decide), if_pos (show (1 : Int32) = 1 from rfl)]) ht.1
    · by_cases p12 : p1 = 2
      · subst p12
        exact hlt 2 (Or.inl rfl) rfl (by unfold fX7_offers; rw [if_neg (show ¬ (2 : Int32) = 0 by decide), if_neg (show ¬ (2 : Int32) = 1 by decide), if_pos (show (2 : Int32) = 2 from rfl)]) ht.2.2.1
      · by_cases p13 : p1 = 3
        · subst p13
          exact hpk 3 (Or.inr rfl) rfl (by unfold fX7_offers; rw [if_neg (show ¬ (3 : Int32) = 0 by decide), if_neg (show ¬ (3 : Int32) = 1 by decide), if_neg (show ¬ (3 : Int32) = 2 by decide), if_pos (show (3 : Int32) = 3 from rfl)]) ht.2.1
        · by_cases p14 : p1 = 4
          · subst p14
            exact hlt 4 (Or.inr rfl) rfl (by unfold fX7_offers; rw [if_neg (show ¬ (4 : Int32) = 0 by decide), if_neg (show ¬ (4 : Int32) = 1 by decide), if_neg (show ¬ (4 : Int32) = 2 by decide), if_neg (show ¬ (4 : Int32) = 3 by decide), if_pos (show (4 : Int32) = 4 from rfl)]) ht.2.2.2
          · refine Or.inl ⟨by unfold fX7_offers; rw [if_neg p0, if_neg p11, if_neg p12, if_neg p13, if_neg p14], Or.inl (within_n04 ?_)⟩
            rintro (h | h | h | h | h) <;> contradiction
theorem act_eq {cap lab ack cop : Nat} {c : Int64} {qb qs s2 : Int32} {b2 : Int64} {s5 : Int32} {b5 : Int64} {A1 : Nat → Int32} {m : Int64} {mq mf md : Int32} {A70 A71 A72 A73 : Nat → Int32} (hcap : cap ≤ 2) (h1 : 1 ≤ lab) (hlab : lab ≤ 4) (hack : ack ≤ 7) (hcop : cop ≤ 4) (hD : DX cap c qb qs s2 b2 s5 b5 A1 m mq mf md A70 A71 A72 A73) {F : Nat} (hF : 40 ≤ F) (x18 : Int32) (x19 : Int64) (x20 x21 x22 p1 p2 p3 : Int32) : ∃ out c' qb' qs' s2' b2' s5' b5' A1' m' mq' mf' md' y19 y20 y21 y22 A70' A71' A72' A73', fX11_act (Int32.ofNat cap) (Int32.ofNat lab) (Int32.ofNat ack) (Int32.ofNat cop) c qb qs s2 b2 s5 b5 A1 p1 p2 p3 = some (out, c', qb', qs', s2', b2', s5', b5', A1') ∧ fX12_act F (Int32.ofNat cap) (Int32.ofNat lab) (Int32.ofNat ack) (Int32.ofNat cop) m mq mf md x18 x19 x20 x21 x22 A70 A71 A72 A73 p1 p2 p3 = some (out, m', mq', mf', md', 0, y19, y20, y21, y22, A70', A71', A72', A73') ∧ DX cap c' qb' qs' s2' b2' s5' b5' A1' m' mq' mf' md' A70' A71' A72' A73' := by
  unfold fX11_act fX12_act
  rcases offers_eq hD.1 h1 hlab p1 p2 p3 with ⟨e1, e2⟩ | ⟨e1, e2, e3, w, k, rfl, ht, ha, hcode⟩
  · rw [if_pos e1]
    by_cases hw : fX12_within p1 0 4 = 0
    · rw [if_pos hw]
      exact ⟨_, _, _, _, _, _, _, _, _, _, _, _, _, _, _, _, _, _, _, _, _, rfl, rfl, hD⟩
    · rw [if_neg hw, if_pos (e2.resolve_left hw)]
      exact ⟨_, _, _, _, _, _, _, _, _, _, _, _, _, _, _, _, _, _, _, _, _, rfl, rfl, hD⟩
  · rw [if_neg e1, if_neg e2, if_neg e3, hcode]
    obtain ⟨X, Y, o, lp, ll, eX, eY, hXY, ho, ho6, hDT, hcnt⟩ := both_act hcap hlab hack hcop hD ht ha hF x19 x20 x21 x22
    rw [eX, eY]
    simp only [Option.bind_some]
    exact ⟨_, _, _, _, _, _, _, _, _, _, _, _, _, _, _, _, _, _, _, _, _, rfl, by rw [hXY], hDT⟩
theorem part_0 : ∀ (w : Fin 5) (k : Fin 8), fX0_part (codeN w.val k.val 0) 0 = Int32.ofNat w.val ∧ fX0_part (codeN w.val k.val 0) 1 = mLab w.val k.val ∧ fX0_part (codeN w.val k.val 0) 2 = mVal w.val k.val := by decide +kernel
theorem acts5_told {lab ack : Nat} {c : Int64} : ∀ x ∈ acts5 lab ack c false, x.2.2 = 0 := by
  have hp : ∀ w n, ∀ x ∈ pksTo c w n, x.2.2 = 0 := by
    intro w n
    induction n with
    | zero => intro x hx; simp [pksTo] at hx
    | succ n ih =>
      intro x hx
      simp only [pksTo, List.mem_append] at hx
      rcases hx with hx | hx
      · exact ih x hx
      · split at hx
        · obtain rfl := List.mem_singleton.mp hx; rfl
        · simp at hx
  have hl : ∀ w n, ∀ x ∈ ltsTo ack c w false n, x.2.2 = 0 := by
    intro w n
    induction n with
    | zero => intro x hx; simp [ltsTo] at hx
    | succ n ih =>
      intro x hx
      simp only [ltsTo, List.mem_append] at hx
      rcases hx with hx | hx
      · exact ih x hx
      · split at hx
        · rw [Bool.false_and, if_neg (by decide)] at hx
          obtain rfl := List.mem_singleton.mp hx; rfl
        · simp at hx
  intro x hx
  unfold acts5 acts3 at hx
  rcases List.mem_append.mp hx with hx | hx
  · rcases List.mem_append.mp hx with hx | hx
    · rcases List.mem_append.mp hx with hx | hx
      · rcases List.mem_cons.mp hx with rfl | hx
        · rfl
        · exact hp _ _ x hx
      · exact hl _ _ x hx
    · exact hp _ _ x hx
  · exact hl _ _ x hx
theorem cAt_nat {n i : Nat} {f : Nat → Int32} (hi : i < n) (hn : n < 2 ^ 31) : cAt n f (Int32.ofNat i) = f i := by
  unfold cAt
  rw [if_pos (inb_t (by omega) hi), tnc (by omega)]
theorem hold_get {T : Type} {R : Nat → T → Prop} {L : List T} (h : Hold R L) {i : Nat} (hi : i < L.length) : ∃ x, x ∈ L ∧ R i x := ⟨L[i], List.getElem_mem hi, h i _ (List.getElem?_eq_getElem hi)⟩
theorem possible_eq {cap lab ack : Nat} {c m : Int64} (hcap : cap ≤ 2) (h1 : 1 ≤ lab) (hlab : lab ≤ 4) (hack : ack ≤ 7) (hS : Sx c m) (hL : Lg cap c) {F : Nat} (hF : 9 ≤ F) (x81 x82 : Int32) (A10 : Nat → Int32) (th : Int32) (A76 A77 A78 : Nat → Int32) (p1 p2 : Int32) : ∃ r x81' x82' A10' A76' A77' A78', fX11_possible F c (Int32.ofNat lab) (Int32.ofNat ack) x81 x82 A10 p1 p2 = some (r, x81', x82', A10') ∧ fX12_possible F (Int32.ofNat lab) m th A76 A77 A78 p1 p2 = some (r, 0, A76', A77', A78') := by
  unfold fX11_possible fX12_possible
  have hw : (fX12_within p2 0 2 = 0 ∧ (p2 < 0 ∨ ¬ p2 ≤ 2)) ∨ (¬ fX12_within p2 0 2 = 0 ∧ ¬ p2 < 0 ∧ p2 ≤ 2) := by
    unfold fX12_within
    by_cases a : p2 < 0
    · rw [if_pos a]; exact Or.inl ⟨rfl, Or.inl a⟩
    · rw [if_neg a]
      by_cases b : (2 : Int32) < p2
      · rw [if_pos b]
        refine Or.inl ⟨rfl, Or.inr (fun z => ?_)⟩
        rw [Int32.lt_iff_toInt_lt] at b; rw [Int32.le_iff_toInt_le] at z; omega
      · rw [if_neg b]
        refine Or.inr ⟨by decide, a, ?_⟩
        rw [Int32.lt_iff_toInt_lt] at b; rw [Int32.le_iff_toInt_le]; omega
  rcases hw with ⟨w1, w2⟩ | ⟨w1, w2, w3⟩
  · rw [if_pos w1]
    by_cases a : p2 < 0
    · rw [if_pos a]; exact ⟨_, _, _, _, _, _, _, rfl, rfl⟩
    · rw [if_neg a, if_neg (w2.resolve_left a)]; exact ⟨_, _, _, _, _, _, _, rfl, rfl⟩
  · rw [if_neg w1, if_neg w2, if_pos w3]
    obtain ⟨B, e1, hB⟩ := list_eq (d := false) (pd := 0) hcap hlab hack hL (by decide) hF x81 x82 A10
    obtain ⟨A', B', C', e2, hM⟩ := lays_acts hcap hS hL h1 hlab ack A76 A77 A78 (pl := 1) hF
    rw [if_neg (by decide)] at e2 hM
    have hlen := acts_len (ack := ack) (d := false) hcap hlab hL
    rw [e1, e2]
    simp only [Option.bind_some]
    by_cases hp : p1 = -1
    · rw [if_pos hp, if_pos hp]
      exact ⟨_, _, _, _, _, _, _, rfl, rfl⟩
    · rw [if_neg hp, if_neg hp]
      have hpos : 1 ≤ (acts5 lab ack c false).length := by
        unfold acts5 acts3
        simp only [List.length_append, List.length_cons]
        omega
      rw [i32_pred hpos (by omega)]
      by_cases a : p1 < 0
      · rw [if_pos a, within_neg a, if_pos rfl]
        exact ⟨_, _, _, _, _, _, _, rfl, rfl⟩
      · rw [if_neg a]
        obtain ⟨i, hi, rfl⟩ := i32_nn a
        rw [within_nat hi (by omega)]
        by_cases hb : i < (acts5 lab ack c false).length
        · rw [if_pos ((i32_lt hi (by omega)).mpr hb), if_pos (show i ≤ (acts5 lab ack c false).length - 1 by omega), if_neg (by decide), cAt_nat (by omega) (by decide)]
          have g1 := hB i _ (List.getElem?_eq_getElem hb)
          have g2 := hM i _ (List.getElem?_eq_getElem hb)
          have g3 := acts5_ok lab ack c false _ (List.getElem_mem hb)
          have g4 := acts5_told _ (List.getElem_mem hb)
          generalize (acts5 lab ack c false)[i] = x at g1 g2 g3 g4
          obtain ⟨w5, k8⟩ := there_lt hlab g3.1
          have hpt := part_0 ⟨x.1, w5⟩ ⟨x.2.1, k8⟩
          rw [g1, g4, if_pos (inb_t (by omega) (by omega)), if_pos (inb_t (by omega) (by omega)), if_pos (inb_t (by omega) (by omega)), tnc hi]
          obtain ⟨q, hq, rfl⟩ := i32_nn w2
          rw [show (2 : Int32) = Int32.ofNat 2 from rfl, i32_le hq (by decide)] at w3
          rcases (show q = 0 ∨ q = 1 ∨ q = 2 by omega) with rfl | rfl | rfl
          · rw [if_pos (show Int32.ofNat 0 = 0 from rfl), g2.1]
            exact ⟨_, _, _, _, _, _, _, by rw [show fX0_part (codeN x.1 x.2.1 0) (Int32.ofNat 0) = _ from hpt.1], rfl⟩
          · rw [if_neg (show ¬ Int32.ofNat 1 = 0 by decide), if_pos (show Int32.ofNat 1 = 1 from rfl), g2.2.1]
            exact ⟨_, _, _, _, _, _, _, by rw [show fX0_part (codeN x.1 x.2.1 0) (Int32.ofNat 1) = _ from hpt.2.1], rfl⟩
          · rw [if_neg (show ¬ Int32.ofNat 2 = 0 by decide), if_neg (show ¬ Int32.ofNat 2 = 1 by decide), g2.2.2]
            exact ⟨_, _, _, _, _, _, _, by rw [show fX0_part (codeN x.1 x.2.1 0) (Int32.ofNat 2) = _ from hpt.2.2], rfl⟩
        · rw [if_neg (fun z => hb ((i32_lt hi (by omega)).mp z)), if_neg (show ¬ i ≤ (acts5 lab ack c false).length - 1 by omega), if_pos rfl]
          exact ⟨_, _, _, _, _, _, _, rfl, rfl⟩
