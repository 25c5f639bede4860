/-! part 73: the reference's chart -/
theorem stp_four {cap lab ack cop : Nat} {c : Int64} {w k told : Nat} (ht : there lab c w k) : 4 ≤ (stp cap lab ack cop c w k told).2.1 ↔ (w = 2 ∧ goes ack c (k / 2) = true) := by
  have hf := stp_facts (cap := cap) (ack := ack) (cop := cop) (told := told) ht
  by_cases hw : w = 2
  · subst hw
    unfold stp goes
    rw [if_neg (show ¬ (2 : Nat) = 0 by decide), if_neg (show ¬ (2 : Nat) = 1 by decide), if_pos (show (2 : Nat) = 2 from rfl)]
    by_cases h1 : dg c 47 2 = k / 2
    · rw [if_pos h1]
      by_cases h2 : ack ≤ dg c 43 3 + 1
      · rw [if_pos h2]
        have h3 : 4 ≤ (if dg c 42 1 = 1 then 4 else 5) := by split <;> decide
        exact ⟨fun _ => ⟨rfl, by simp [h1, h2]⟩, fun _ => h3⟩
      · rw [if_neg h2]
        exact ⟨fun z => absurd z (by show ¬ 4 ≤ 0; decide), fun z => absurd z.2 (by simp [h2])⟩
    · rw [if_neg h1]
      exact ⟨fun z => absurd z (by show ¬ 4 ≤ 0; decide), fun z => absurd z.2 (by simp [h1])⟩
  · refine ⟨fun z => ?_, fun z => absurd z.1 hw⟩
    exfalso
    unfold stp at z
    rcases ht with ⟨h, _⟩ | ⟨h | h, h1, h2⟩ | ⟨h | h, h0, h1, h2⟩ <;> subst h
    · rw [if_pos rfl] at z
      by_cases hc : pkSum c < cap
      · rw [if_pos hc] at z; exact absurd z (by show ¬ 4 ≤ 0; decide)
      · rw [if_neg hc] at z; exact absurd z (by show ¬ 4 ≤ 0; decide)
    · rw [if_neg (show ¬ (1 : Nat) = 0 by decide), if_pos (show (1 : Nat) = 1 from rfl)] at z
      have ha : (arr cop c k).2 < 4 := by
        unfold arr
        by_cases h3 : k / 2 = dg c 40 2
        · rw [if_pos h3]; exact (by decide : 0 < 4)
        · rw [if_neg h3]
          by_cases h4 : cop ≤ dg c (sePos k) 2 + 1
          · rw [if_pos h4]
            unfold dlv
            by_cases h5 : k = kOf (pt c (pkPos k) 2 (dg c (pkPos k) 2 - 1))
            · rw [if_pos h5]
              by_cases h6 : dg (pt c (pkPos k) 2 (dg c (pkPos k) 2 - 1)) 42 1 = 1
              · rw [if_pos h6]; exact (by decide : 3 < 4)
              · rw [if_neg h6]; exact (by decide : 1 < 4)
            · rw [if_neg h5]; exact (by decide : 2 < 4)
          · rw [if_neg h4]; exact (by decide : 0 < 4)
      by_cases hc : ltSum c < cap
      · rw [if_pos hc] at z
        have z' : 4 ≤ (arr cop c k).2 := z
        omega
      · rw [if_neg hc] at z
        have z' : 4 ≤ (arr cop c k).2 := z
        omega
    · rw [if_neg (show ¬ (3 : Nat) = 0 by decide), if_neg (show ¬ (3 : Nat) = 1 by decide), if_neg (show ¬ (3 : Nat) = 2 by decide), if_pos (show (3 : Nat) = 3 from rfl)] at z
      exact absurd z (by show ¬ 4 ≤ 0; decide)
    · exact hw rfl
    · rw [if_neg (show ¬ (4 : Nat) = 0 by decide), if_neg (show ¬ (4 : Nat) = 1 by decide), if_neg (show ¬ (4 : Nat) = 2 by decide), if_neg (show ¬ (4 : Nat) = 3 by decide)] at z
      exact absurd z (by show ¬ 4 ≤ 0; decide)
def tels (cap lab ack cop : Nat) (c : Int64) : List Act → List Act
  | [] => []
  | x :: xs => (if 4 ≤ (stp cap lab ack cop c x.1 x.2.1 0).2.1 then [(x.1, x.2.1, 0), (x.1, x.2.1, 1)] else [(x.1, x.2.1, 0)]) ++ tels cap lab ack cop c xs
theorem tels_append (cap lab ack cop : Nat) (c : Int64) : ∀ as bs, tels cap lab ack cop c (as ++ bs) = tels cap lab ack cop c as ++ tels cap lab ack cop c bs := by
  intro as bs
  induction as with
  | nil => rfl
  | cons a as ih => simp only [List.cons_append, tels, ih, List.append_assoc]
theorem tels_pks {cap lab ack cop : Nat} (c : Int64) {w : Nat} (hw : w = 1 ∨ w = 3) : ∀ n, n ≤ 2 * lab → tels cap lab ack cop c (pksTo c w n) = pksTo c w n := by
  intro n
  induction n with
  | zero => intro _; rfl
  | succ n ih =>
    intro hn
    simp only [pksTo]
    rw [tels_append, ih (by omega)]
    by_cases hd : 1 ≤ dg c (pkPos n) 2
    · rw [if_pos hd]
      have ht : there lab c w n := Or.inr (Or.inl ⟨hw, by omega, hd⟩)
      simp only [tels]
      rw [if_neg (fun z => by have := ((stp_four (cap := cap) (ack := ack) (cop := cop) (told := 0) ht).mp z).1; omega)]
      rfl
    · rw [if_neg hd]; rfl
theorem tels_lts {cap lab ack cop : Nat} (c : Int64) : ∀ n, n ≤ lab → tels cap lab ack cop c (ltsTo ack c 2 false n) = ltsTo ack c 2 true n := by
  intro n
  induction n with
  | zero => intro _; rfl
  | succ n ih =>
    intro hn
    simp only [ltsTo]
    rw [tels_append, ih (by omega)]
    by_cases hd : 1 ≤ dg c (ltPos n) 2
    · rw [if_pos hd, if_pos hd, Bool.false_and, Bool.true_and, if_neg (show ¬ false = true by decide)]
      have ht : there lab c 2 (2 * n) := Or.inr (Or.inr ⟨Or.inl rfl, by omega, by omega, by rw [show 2 * n / 2 = n by omega]; exact hd⟩)
      have h4 := stp_four (cap := cap) (ack := ack) (cop := cop) (told := 0) ht
      rw [show 2 * n / 2 = n by omega] at h4
      simp only [tels]
      cases hg : goes ack c n
      · rw [if_neg (fun z => by have := (h4.mp z).2; rw [hg] at this; exact absurd this (by decide)), if_neg (show ¬ false = true by decide)]
        rfl
      · rw [if_pos (h4.mpr ⟨rfl, hg⟩), if_pos rfl]
        rfl
    · rw [if_neg hd, if_neg hd]; rfl
theorem tels_lose {cap lab ack cop : Nat} (c : Int64) : ∀ n, n ≤ lab → tels cap lab ack cop c (ltsTo ack c 4 false n) = ltsTo ack c 4 false n := by
  intro n
  induction n with
  | zero => intro _; rfl
  | succ n ih =>
    intro hn
    simp only [ltsTo]
    rw [tels_append, ih (by omega)]
    by_cases hd : 1 ≤ dg c (ltPos n) 2
    · rw [if_pos hd, Bool.false_and, if_neg (show ¬ false = true by decide)]
      have ht : there lab c 4 (2 * n) := Or.inr (Or.inr ⟨Or.inr rfl, by omega, by omega, by rw [show 2 * n / 2 = n by omega]; exact hd⟩)
      simp only [tels]
      rw [if_neg (fun z => by have := ((stp_four (cap := cap) (ack := ack) (cop := cop) (told := 0) ht).mp z).1; omega)]
      rfl
    · rw [if_neg hd]; rfl
theorem tels_acts (cap lab ack cop : Nat) (c : Int64) : tels cap lab ack cop c (acts5 lab ack c false) = acts5 lab ack c true := by
  unfold acts5 acts3
  rw [tels_append, tels_append, tels_append, tels_lose c lab (Nat.le_refl _), tels_pks c (Or.inr rfl) _ (Nat.le_refl _), tels_lts c lab (Nat.le_refl _)]
  congr 3
  simp only [tels]
  rw [tels_pks c (Or.inl rfl) _ (Nat.le_refl _), if_neg (fun z => by have := ((stp_four (cap := cap) (ack := ack) (cop := cop) (told := 0) (Or.inl ⟨rfl, rfl⟩ : there lab c 0 0)).mp z).1; omega)]
  rfl
/-- the chart's edges in the reference's arrays -/
def ME (E : List Edge) (A82 A83 A84 A85 A86 : Nat → Int32) : Prop := Hold (fun i e => A82 i = Int32.ofNat e.1 ∧ A83 i = Int32.ofNat e.2.2 ∧ A84 i = Int32.ofNat (e.2.1.1 + 100 * e.2.1.2.2) ∧ A85 i = mLab e.2.1.1 e.2.1.2.1 ∧ A86 i = mVal e.2.1.1 e.2.1.2.1) E
theorem mEdge {cap lab ack cop : Nat} (hcap : cap ≤ 2) (hlab : lab ≤ 4) (hack : ack ≤ 7) (hcop : cop ≤ 4) {c m : Int64} (hS : Sx c m) (hLg : Lg cap c) {A76 A77 A78 : Nat → Int32} {L : List Act} (hL : Hm A76 A77 A78 L) (hlen : L.length ≤ 10) {i : Nat} {x : Act} (hx : L[i]? = some x) (ht : there lab c x.1 x.2.1) {told : Nat} (hto : told < 2) {K M : List Int64} {E : List Edge} (hKM : KM K M) {A79 : Nat → Int64} {A80 A82 A83 A84 A85 A86 : Nat → Int32} (hMA : MA M A79 A80) (hME : ME E A82 A83 A84 A85 A86) (hE : E.length < 84000) {F : Nat} (hF : 16390 ≤ F) (x19 : Int64) (x20 x21 : Int32) :
    (∃ (t : Nat) (K' M' : List Int64) (y19 : Int64) (y20 y21 : Int32) (A79' : Nat → Int64) (A80' A82' A83' A84' A85' A86' : Nat → Int32), numb K (stp cap lab ack cop c x.1 x.2.1 told).1 = some (t, K') ∧ fX12_edge F (Int32.ofNat cap) (Int32.ofNat lab) (Int32.ofNat cop) (Int32.ofNat ack) A76 A77 A78 x19 x20 x21 (Int32.ofNat M.length) (Int32.ofNat E.length) A79 A80 A82 A83 A84 A85 A86 m (Int32.ofNat i) (Int32.ofNat told) = some (1, y19, y20, y21, Int32.ofNat M'.length, Int32.ofNat (E.length + 1), A79', A80', A82', A83', A84', A85', A86') ∧ KM K' M' ∧ MA M' A79' A80' ∧ ME (E ++ [(t, (x.1, x.2.1, told), (stp cap lab ack cop c x.1 x.2.1 told).2.1)]) A82' A83' A84' A85' A86' ∧ Grow M M')
    ∨ (numb K (stp cap lab ack cop c x.1 x.2.1 told).1 = none ∧ ∃ r, fX12_edge F (Int32.ofNat cap) (Int32.ofNat lab) (Int32.ofNat cop) (Int32.ofNat ack) A76 A77 A78 x19 x20 x21 (Int32.ofNat M.length) (Int32.ofNat E.length) A79 A80 A82 A83 A84 A85 A86 m (Int32.ofNat i) (Int32.ofNat told) = some (0, r)) := by
  have hi : i < L.length := (List.getElem?_eq_some_iff.mp hx).1
  have hM6 : M.length ≤ 6000 := by obtain ⟨_, _, _, _, _, h⟩ := hMA; exact h
  have hIM : Inj M := by obtain ⟨_, _, _, _, h, _⟩ := hMA; exact h
  have hIK := hKM.inj hIM
  have hm := hL i x hx
  obtain ⟨m', e1, hS'⟩ := does_eq hcap hlab hack hcop hS hLg ht hto (args_m x.1 x.2.1) (F := F) (by omega) x19 x20 x21
  have hin : inb (Int32.ofNat i) 40 = true := inb_t (by omega) (by omega)
  have heE : inb (Int32.ofNat E.length) 84000 = true := inb_t (by omega) hE
  unfold fX12_edge
  rw [if_pos hin, if_pos hin, if_pos hin, tnc (by omega), hm.1, hm.2.1, hm.2.2, e1]
  simp only [Option.bind_some]
  have hJ : ∀ (t : Nat) (K' M' : List Int64) (B79 : Nat → Int64) (B80 : Nat → Int32), KM K' M' → MA M' B79 B80 → Grow M M' → ∃ (A82' A83' A84' A85' A86' : Nat → Int32), fX12_edge_J70 F (Int32.ofNat cap) (Int32.ofNat lab) (Int32.ofNat cop) (Int32.ofNat ack) A76 A77 A78 (Int32.ofNat i) (Int32.ofNat told) (Int32.ofNat t) m' (Int32.ofNat (stp cap lab ack cop c x.1 x.2.1 told).2.1) (Int32.ofNat (stp cap lab ack cop c x.1 x.2.1 told).2.2) (Int32.ofNat M'.length) (Int32.ofNat E.length) B79 B80 A82 A83 A84 A85 A86 = some (1, m', Int32.ofNat (stp cap lab ack cop c x.1 x.2.1 told).2.1, Int32.ofNat (stp cap lab ack cop c x.1 x.2.1 told).2.2, Int32.ofNat M'.length, Int32.ofNat (E.length + 1), B79, B80, A82', A83', A84', A85', A86') ∧ ME (E ++ [(t, (x.1, x.2.1, told), (stp cap lab ack cop c x.1 x.2.1 told).2.1)]) A82' A83' A84' A85' A86' := by
    intro t K' M' B79 B80 _ _ _
    unfold fX12_edge_J70
    rw [if_pos heE, if_pos heE, if_pos hin, if_pos heE, if_pos hin, if_pos heE, if_pos hin, if_pos heE, tnc (by omega), tnc (show i < 2 ^ 31 by omega), hm.1, hm.2.1, hm.2.2, i32_succ, show (100 : Int32) * Int32.ofNat told = Int32.ofNat (100 * told) from i32_mul 100 told, i32_add]
    refine ⟨_, _, _, _, _, rfl, hold_snoc hME (fun j e hj he => ?_) ⟨upd_at _ _ _, upd_at _ _ _, upd_at _ _ _, upd_at _ _ _, upd_at _ _ _⟩⟩
    rw [upd_ne (by omega), upd_ne (by omega), upd_ne (by omega), upd_ne (by omega), upd_ne (by omega)]
    exact he
  rcases mFind hMA m' hF with ⟨t, f1, f2⟩ | ⟨f1, f2, A79', A80', f3, f4⟩
  · left
    rw [f2]
    simp only [Option.bind_some]
    have htl : t < M.length := (List.getElem?_eq_some_iff.mp f1).1
    rw [if_pos (i32_0le (by omega))]
    obtain ⟨c2, hc2, hS2⟩ := hKM.at' f1
    obtain rfl := hS'.inj hS2
    obtain ⟨A82', A83', A84', A85', A86', j1, j2⟩ := hJ t K M A79 A80 hKM hMA (Grow.refl M)
    exact ⟨t, K, M, _, _, _, _, _, _, _, _, _, _, numb_old hIK hc2, j1, hKM, hMA, j2, Grow.refl M⟩
  · rw [f2]
    simp only [Option.bind_some]
    rw [if_neg (show ¬ (0 : Int32) ≤ -1 by decide)]
    have hnK : ∀ t : Nat, ¬ K[t]? = some (stp cap lab ack cop c x.1 x.2.1 told).1 := by
      intro t z
      obtain ⟨m2, hm2, hS2⟩ := hKM.at z
      obtain rfl := hS'.fn hS2
      exact f1 t hm2
    by_cases h6 : M.length < 6000
    · left
      rw [if_neg (show ¬ Int32.ofNat M.length = 6000 from fun z => by have := (i32_eq (b := 6000) (by omega) (by decide)).mp z; omega), f3]
      simp only [Option.bind_some]
      rw [show Int32.ofNat (M.length + 1) - 1 = Int32.ofNat M.length from i32_pred (by omega) (by omega)]
      have hKM' := hKM.snoc hS'
      obtain ⟨A82', A83', A84', A85', A86', j1, j2⟩ := hJ M.length _ _ A79' A80' hKM' (f4 h6) (Grow.snoc M m')
      rw [List.length_append, List.length_singleton] at j1
      refine ⟨M.length, _, _, _, _, _, _, _, _, _, _, _, _, ?_, by rw [List.length_append, List.length_singleton]; exact j1, hKM', f4 h6, j2, Grow.snoc M m'⟩
      rw [numb_new hnK (by rw [hKM.1]; exact h6), hKM.1]
    · right
      rw [if_pos (show Int32.ofNat M.length = 6000 from (i32_eq (b := 6000) (by omega) (by decide)).mpr (by omega))]
      exact ⟨numb_none hnK (by rw [hKM.1]; exact h6), _, rfl⟩
theorem S24_go {F : Nat} {x69_0 : Int32} {x69_1 : Int32} {x69_3 : Int32} {x69_22 : Int32} {v1 : Int32} {v2 : Int32} {A76 : Nat → Int32} {A77 : Nat → Int32} {A78 : Nat → Int32} {A81 : Nat → Int32} {v3 : Int32} {x69_19 : Int64} {x69_20 : Int32} {x69_21 : Int32} {x69_27 : Int32} {x69_35 : Int32} {A79 : Nat → Int64} {A80 : Nat → Int32} {A82 : Nat → Int32} {A83 : Nat → Int32} {A84 : Nat → Int32} {A85 : Nat → Int32} {A86 : Nat → Int32} (h0 : ¬ (v2 ≤ v3)) (h1 : inb v1 6001 = true) : fX12_edgesOf_S24 F x69_0 x69_1 x69_3 x69_22 v1 v2 A76 A77 A78 A81 v3 x69_19 x69_20 x69_21 x69_27 x69_35 A79 A80 A82 A83 A84 A85 A86 = ((fX12_edge F x69_0 x69_1 x69_3 x69_22 A76 A77 A78 x69_19 x69_20 x69_21 x69_27 x69_35 A79 A80 A82 A83 A84 A85 A86 (A79 v1.toNatClampNeg) v3 0).bind (fun r8 => (if r8.1 = 0 then some (Sum.inl (Sum.inl (r8.2.1, r8.2.2.1, r8.2.2.2.1, r8.2.2.2.2.1, r8.2.2.2.2.2.1, r8.2.2.2.2.2.2.1, r8.2.2.2.2.2.2.2.1, r8.2.2.2.2.2.2.2.2.1, r8.2.2.2.2.2.2.2.2.2.1, r8.2.2.2.2.2.2.2.2.2.2.1, r8.2.2.2.2.2.2.2.2.2.2.2.1, r8.2.2.2.2.2.2.2.2.2.2.2.2))) else (if inb (r8.2.2.2.2.2.1 - 1) 84000 = true then (if (r8.2.2.2.2.2.2.2.2.2.1 (r8.2.2.2.2.2.1 - 1).toNatClampNeg) < 4 then fX12_edgesOf_J78 F x69_0 x69_1 x69_3 x69_22 v1 v2 v3 r8.2.1 r8.2.2.1 r8.2.2.2.1 r8.2.2.2.2.1 r8.2.2.2.2.2.1 A76 A77 A78 r8.2.2.2.2.2.2.1 r8.2.2.2.2.2.2.2.1 A81 r8.2.2.2.2.2.2.2.2.1 r8.2.2.2.2.2.2.2.2.2.1 r8.2.2.2.2.2.2.2.2.2.2.1 r8.2.2.2.2.2.2.2.2.2.2.2.1 r8.2.2.2.2.2.2.2.2.2.2.2.2 else (if inb v1 6001 = true then ((fX12_edge F x69_0 x69_1 x69_3 x69_22 A76 A77 A78 r8.2.1 r8.2.2.1 r8.2.2.2.1 r8.2.2.2.2.1 r8.2.2.2.2.2.1 r8.2.2.2.2.2.2.1 r8.2.2.2.2.2.2.2.1 r8.2.2.2.2.2.2.2.2.1 r8.2.2.2.2.2.2.2.2.2.1 r8.2.2.2.2.2.2.2.2.2.2.1 r8.2.2.2.2.2.2.2.2.2.2.2.1 r8.2.2.2.2.2.2.2.2.2.2.2.2 (r8.2.2.2.2.2.2.1 v1.toNatClampNeg) v3 1).bind (fun r14 => (if r14.1 = 0 then some (Sum.inl (Sum.inr (Sum.inl (r14.2.1, r14.2.2.1, r14.2.2.2.1, r14.2.2.2.2.1, r14.2.2.2.2.2.1, r14.2.2.2.2.2.2.1, r14.2.2.2.2.2.2.2.1, r14.2.2.2.2.2.2.2.2.1, r14.2.2.2.2.2.2.2.2.2.1, r14.2.2.2.2.2.2.2.2.2.2.1, r14.2.2.2.2.2.2.2.2.2.2.2.1, r14.2.2.2.2.2.2.2.2.2.2.2.2)))) else fX12_edgesOf_J78 F x69_0 x69_1 x69_3 x69_22 v1 v2 v3 r14.2.1 r14.2.2.1 r14.2.2.2.1 r14.2.2.2.2.1 r14.2.2.2.2.2.1 A76 A77 A78 r14.2.2.2.2.2.2.1 r14.2.2.2.2.2.2.2.1 A81 r14.2.2.2.2.2.2.2.2.1 r14.2.2.2.2.2.2.2.2.2.1 r14.2.2.2.2.2.2.2.2.2.2.1 r14.2.2.2.2.2.2.2.2.2.2.2.1 r14.2.2.2.2.2.2.2.2.2.2.2.2))) else none)) else none)))) := by
  unfold fX12_edgesOf_S24
  rw [if_neg h0, if_pos h1]
abbrev ET := Int64 × Int32 × Int32 × Int32 × Int32 × (Nat → Int64) × (Nat → Int32) × (Nat → Int32) × (Nat → Int32) × (Nat → Int32) × (Nat → Int32) × (Nat → Int32)
theorem mExp {cap lab ack cop : Nat} (hcap : cap ≤ 2) (hlab : lab ≤ 4) (hack : ack ≤ 7) (hcop : cop ≤ 4) {c m : Int64} (hS : Sx c m) (hLg : Lg cap c) {k : Nat} {A76 A77 A78 : Nat → Int32} {L : List Act} (hL : Hm A76 A77 A78 L) (hOk : Ok lab c L) (hlen : L.length ≤ 10) {F : Nat} (hF : 16390 ≤ F) (A81 : Nat → Int32) : ∀ (bs pre : List Act) (F' : Nat) (K M : List Int64) (E : List Edge) (x19 : Int64) (x20 x21 : Int32) (A79 : Nat → Int64) (A80 A82 A83 A84 A85 A86 : Nat → Int32), L = pre ++ bs → bs.length < F' → KM K M → MA M A79 A80 → ME E A82 A83 A84 A85 A86 → M[k]? = some m → E.length + 2 * bs.length ≤ 83000 →
    (∃ (K' M' : List Int64) (E' : List Edge) (y19 : Int64) (y20 y21 : Int32) (A79' : Nat → Int64) (A80' A82' A83' A84' A85' A86' : Nat → Int32), expActs cap lab ack cop c (tels cap lab ack cop c bs) K E = some (K', E') ∧ gloop (fun u5 : (Int32 × ET) => fX12_edgesOf_S24 F (Int32.ofNat cap) (Int32.ofNat lab) (Int32.ofNat cop) (Int32.ofNat ack) (Int32.ofNat k) (Int32.ofNat L.length) A76 A77 A78 A81 u5.1 u5.2.1 u5.2.2.1 u5.2.2.2.1 u5.2.2.2.2.1 u5.2.2.2.2.2.1 u5.2.2.2.2.2.2.1 u5.2.2.2.2.2.2.2.1 u5.2.2.2.2.2.2.2.2.1 u5.2.2.2.2.2.2.2.2.2.1 u5.2.2.2.2.2.2.2.2.2.2.1 u5.2.2.2.2.2.2.2.2.2.2.2.1 u5.2.2.2.2.2.2.2.2.2.2.2.2) F' (Int32.ofNat pre.length, x19, x20, x21, Int32.ofNat M.length, Int32.ofNat E.length, A79, A80, A82, A83, A84, A85, A86) = some (.inr (.inr (y19, y20, y21, Int32.ofNat M'.length, Int32.ofNat E'.length, A79', A80', A82', A83', A84', A85', A86'))) ∧ KM K' M' ∧ MA M' A79' A80' ∧ ME E' A82' A83' A84' A85' A86' ∧ Grow M M')
    ∨ (expActs cap lab ack cop c (tels cap lab ack cop c bs) K E = none ∧ ∃ x, gloop (fun u5 : (Int32 × ET) => fX12_edgesOf_S24 F (Int32.ofNat cap) (Int32.ofNat lab) (Int32.ofNat cop) (Int32.ofNat ack) (Int32.ofNat k) (Int32.ofNat L.length) A76 A77 A78 A81 u5.1 u5.2.1 u5.2.2.1 u5.2.2.2.1 u5.2.2.2.2.1 u5.2.2.2.2.2.1 u5.2.2.2.2.2.2.1 u5.2.2.2.2.2.2.2.1 u5.2.2.2.2.2.2.2.2.1 u5.2.2.2.2.2.2.2.2.2.1 u5.2.2.2.2.2.2.2.2.2.2.1 u5.2.2.2.2.2.2.2.2.2.2.2.1 u5.2.2.2.2.2.2.2.2.2.2.2.2) F' (Int32.ofNat pre.length, x19, x20, x21, Int32.ofNat M.length, Int32.ofNat E.length, A79, A80, A82, A83, A84, A85, A86) = some x ∧ ∀ y, ¬ x = .inr (.inr y)) := by
  intro bs
  induction bs with
  | nil =>
    intro pre F' K M E x19 x20 x21 A79 A80 A82 A83 A84 A85 A86 hLe hF' hKM hMA hME hk hE
    obtain ⟨G, rfl⟩ : ∃ G, F' = G + 1 := ⟨F' - 1, by omega⟩
    left
    refine ⟨K, M, E, x19, x20, x21, A79, A80, A82, A83, A84, A85, A86, rfl, ?_, hKM, hMA, hME, Grow.refl M⟩
    rw [List.append_nil] at hLe
    simp only [gloop]
    unfold fX12_edgesOf_S24
    rw [hLe, if_pos ((i32_le (by rw [← hLe]; omega) (by rw [← hLe]; omega)).mpr (Nat.le_refl _))]
  | cons b bs ih =>
    intro pre F' K M E x19 x20 x21 A79 A80 A82 A83 A84 A85 A86 hLe hF' hKM hMA hME hk hE
    rw [List.length_cons] at hF' hE
    obtain ⟨G, rfl⟩ : ∃ G, F' = G + 1 := ⟨F' - 1, by omega⟩
    have hLl : L.length = pre.length + (bs.length + 1) := by rw [hLe, List.length_append, List.length_cons]
    have hLb : L[pre.length]? = some b := by rw [hLe, List.getElem?_append, if_neg (by omega), Nat.sub_self]; rfl
    obtain ⟨htb, _⟩ := hOk b (List.mem_of_getElem? hLb)
    have hM6 : M.length ≤ 6000 := by obtain ⟨_, _, _, _, _, h⟩ := hMA; exact h
    have hkl : k < M.length := (List.getElem?_eq_some_iff.mp hk).1
    have hk1 : inb (Int32.ofNat k) 6001 = true := inb_t (by omega) (by omega)
    have hSA : SA M A79 := by obtain ⟨_, _, _, h, _⟩ := hMA; exact h
    have hnext : ∀ (K' M' : List Int64) (E' : List Edge) (y19 : Int64) (y20 y21 : Int32) (B79 : Nat → Int64) (B80 B82 B83 B84 B85 B86 : Nat → Int32), KM K' M' → MA M' B79 B80 → ME E' B82 B83 B84 B85 B86 → Grow M M' → E'.length + 2 * bs.length ≤ 83000 → _ := fun K' M' E' y19 y20 y21 B79 B80 B82 B83 B84 B85 B86 g1 g2 g3 g4 g5 => ih (pre ++ [b]) G K' M' E' y19 y20 y21 B79 B80 B82 B83 B84 B85 B86 (by rw [hLe, List.append_assoc]; rfl) (by omega) g1 g2 g3 (g4.2 _ _ hk) g5
    have hpl : (pre ++ [b]).length = pre.length + 1 := by rw [List.length_append, List.length_singleton]
    simp only [gloop]
    rw [S24_go (v3 := Int32.ofNat pre.length) (v2 := Int32.ofNat L.length) (v1 := Int32.ofNat k) (fun z => by have := (i32_le (by omega) (by omega)).mp z; omega) hk1, tnc (show k < 2 ^ 31 by omega), hSA k m hk]
    rcases mEdge hcap hlab hack hcop hS hLg hL hlen hLb htb (told := 0) (by decide) hKM hMA hME (by omega) hF x19 x20 x21 with ⟨t, K1, M1, y19, y20, y21, B79, B80, B82, B83, B84, B85, B86, e1, e2, e3, e4, e5, e6⟩ | ⟨e1, r, e2⟩
    · rw [show Int32.ofNat 0 = 0 from rfl] at e2
      rw [e2]
      simp only [Option.bind_some]
      have ho6 := (stp_facts (cap := cap) (ack := ack) (cop := cop) (told := 0) htb).1
      have h83 : B83 E.length = Int32.ofNat (stp cap lab ack cop c b.1 b.2.1 0).2.1 := (e5 _ _ (snoc_edge E _)).2.1
      rw [if_neg (show ¬ (1 : Int32) = 0 by decide), show Int32.ofNat (E.length + 1) - 1 = Int32.ofNat E.length from i32_pred (by omega) (by omega), if_pos (inb_t (by omega) (by omega)), tnc (by omega), h83]
      have hEl : (E ++ [(t, (b.1, b.2.1, 0), (stp cap lab ack cop c b.1 b.2.1 0).2.1)]).length = E.length + 1 := by rw [List.length_append, List.length_singleton]
      have h4i : (Int32.ofNat (stp cap lab ack cop c b.1 b.2.1 0).2.1 < 4) ↔ (stp cap lab ack cop c b.1 b.2.1 0).2.1 < 4 := i32_lt (b := 4) (by omega) (by decide)
      by_cases h4 : 4 ≤ (stp cap lab ack cop c b.1 b.2.1 0).2.1
      · rw [if_neg (fun z => by have := h4i.mp z; omega), if_pos hk1]
        have hM6' : M1.length ≤ 6000 := by obtain ⟨_, _, _, _, _, h⟩ := e4; exact h
        have hSA1 : SA M1 B79 := by obtain ⟨_, _, _, h, _⟩ := e4; exact h
        rw [hSA1 k m (e6.2 _ _ hk)]
        have htl : tels cap lab ack cop c (b :: bs) = (b.1, b.2.1, 0) :: (b.1, b.2.1, 1) :: tels cap lab ack cop c bs := by simp only [tels]; rw [if_pos h4]; rfl
        rw [htl]
        simp only [expActs, e1]
        rcases mEdge hcap hlab hack hcop hS hLg hL hlen hLb htb (told := 1) (by decide) e3 e4 e5 (by omega) hF y19 y20 y21 with ⟨t2, K2, M2, z19, z20, z21, C79, C80, C82, C83, C84, C85, C86, f1, f2, f3, f4, f5, f6⟩ | ⟨f1, r, f2⟩
        · rw [show Int32.ofNat 1 = 1 from rfl, hEl] at f2
          rw [f2, f1]
          simp only [Option.bind_some]
          rw [if_neg (show ¬ (1 : Int32) = 0 by decide)]
          unfold fX12_edgesOf_J78
          have := hnext K2 M2 _ z19 z20 z21 C79 C80 C82 C83 C84 C85 C86 f3 f4 f5 (e6.trans f6) (by rw [List.length_append, List.length_singleton, hEl]; omega)
          rw [hpl, ← i32_succ, List.length_append, List.length_singleton, hEl] at this
          rcases this with ⟨K', M', E', w19, w20, w21, D79, D80, D82, D83, D84, D85, D86, g1, g2, g3, g4, g5, g6⟩ | ⟨g1, x, g2, g3⟩
          · exact Or.inl ⟨K', M', E', w19, w20, w21, D79, D80, D82, D83, D84, D85, D86, g1, g2, g3, g4, g5, (e6.trans f6).trans g6⟩
          · exact Or.inr ⟨g1, x, g2, g3⟩
        · rw [show Int32.ofNat 1 = 1 from rfl, hEl] at f2
          rw [f2, f1]
          simp only [Option.bind_some, ↓reduceIte]
          exact Or.inr ⟨trivial, _, rfl, fun y z => by cases z⟩
      · rw [if_pos (h4i.mpr (by omega))]
        have htl : tels cap lab ack cop c (b :: bs) = (b.1, b.2.1, 0) :: tels cap lab ack cop c bs := by simp only [tels]; rw [if_neg h4]; rfl
        rw [htl]
        simp only [expActs, e1]
        unfold fX12_edgesOf_J78
        have := hnext K1 M1 _ y19 y20 y21 B79 B80 B82 B83 B84 B85 B86 e3 e4 e5 e6 (by rw [hEl]; omega)
        rw [hpl, ← i32_succ, hEl] at this
        rcases this with ⟨K', M', E', w19, w20, w21, D79, D80, D82, D83, D84, D85, D86, g1, g2, g3, g4, g5, g6⟩ | ⟨g1, x, g2, g3⟩
        · exact Or.inl ⟨K', M', E', w19, w20, w21, D79, D80, D82, D83, D84, D85, D86, g1, g2, g3, g4, g5, e6.trans g6⟩
        · exact Or.inr ⟨g1, x, g2, g3⟩
    · rw [show Int32.ofNat 0 = 0 from rfl] at e2
      rw [e2]
      simp only [Option.bind_some, ↓reduceIte]
      right
      refine ⟨?_, _, rfl, fun y z => by cases z⟩
      by_cases h4 : 4 ≤ (stp cap lab ack cop c b.1 b.2.1 0).2.1
      · simp only [tels, if_pos h4, List.cons_append, List.nil_append, expActs, e1]
      · simp only [tels, if_neg h4, List.cons_append, List.nil_append, expActs, e1]
