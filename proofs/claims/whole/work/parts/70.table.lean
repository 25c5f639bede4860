/-! part 70: a table that finds numbers -/
def updN (f : Nat → Nat) (k x : Nat) : Nat → Nat := fun j => if j = k then x else f j
theorem updN_at (f : Nat → Nat) (k x : Nat) : updN f k x k = x := if_pos rfl
theorem updN_ne {f : Nat → Nat} {k j x : Nat} (h : j ≠ k) : updN f k x j = f j := if_neg h
def Inj (K : List Int64) : Prop := ∀ (i j : Nat) (c : Int64), K[i]? = some c → K[j]? = some c → i = j
def HT (h : Int64 → Nat) (T : Nat → Nat) (K : List Int64) : Prop := (∀ s, s < 16384 → T s ≤ K.length) ∧ (∀ (i : Nat) (c : Int64), K[i]? = some c → ∃ d, d < 16384 ∧ T ((h c + d) % 16384) = i + 1 ∧ ∀ e, e < d → ¬ T ((h c + e) % 16384) = 0) ∧ sumTo (fun s => if T s = 0 then 0 else 1) 16384 = K.length
theorem least {P : Nat → Prop} : ∀ n, (∃ d, d < n ∧ P d) → ∃ d, d < n ∧ P d ∧ ∀ e, e < d → ¬ P e := by
  intro n
  induction n with
  | zero => rintro ⟨d, hd, _⟩; omega
  | succ n ih =>
    rintro ⟨d, hd, hP⟩
    by_cases h : ∃ d, d < n ∧ P d
    · obtain ⟨d, h1, h2, h3⟩ := ih h
      exact ⟨d, by omega, h2, h3⟩
    · refine ⟨d, hd, hP, fun e he hPe => h ⟨e, by omega, hPe⟩⟩
theorem sumTo_one : ∀ n, sumTo (fun _ => 1) n = n := by
  intro n
  induction n with
  | zero => rfl
  | succ n ih => simp only [sumTo]; rw [ih]
theorem ht_stop {h : Int64 → Nat} {T : Nat → Nat} {K : List Int64} (H : HT h T K) (hK : K.length < 16384) (x : Int64) (hx : h x < 16384) : ∃ d, d < 16384 ∧ (T ((h x + d) % 16384) = 0 ∨ K[T ((h x + d) % 16384) - 1]? = some x) ∧ ∀ e, e < d → ¬ (T ((h x + e) % 16384) = 0 ∨ K[T ((h x + e) % 16384) - 1]? = some x) := by
  apply least 16384
  by_cases hz : ∃ s, s < 16384 ∧ T s = 0
  · obtain ⟨s, hs, hT⟩ := hz
    refine ⟨(s + 16384 - h x) % 16384, Nat.mod_lt _ (by decide), Or.inl ?_⟩
    rw [show (h x + (s + 16384 - h x) % 16384) % 16384 = s by omega]
    exact hT
  · exfalso
    have h1 : sumTo (fun s => if T s = 0 then 0 else 1) 16384 = sumTo (fun _ => 1) 16384 := sumTo_congr 16384 (fun k hk => if_neg (fun z => hz ⟨k, hk, z⟩))
    rw [H.2.2, sumTo_one] at h1
    omega
theorem ht_new {h : Int64 → Nat} {T : Nat → Nat} {K : List Int64} (H : HT h T K) {x : Int64} {d : Nat} (hd : T ((h x + d) % 16384) = 0) (hb : ∀ e, e < d → ¬ (T ((h x + e) % 16384) = 0 ∨ K[T ((h x + e) % 16384) - 1]? = some x)) (i : Nat) : ¬ K[i]? = some x := by
  intro hi
  obtain ⟨d', h1, h2, h3⟩ := H.2.1 i x hi
  by_cases hlt : d' < d
  · refine hb d' hlt (Or.inr ?_)
    rw [h2, Nat.add_sub_cancel]; exact hi
  · by_cases he : d' = d
    · subst he; omega
    · exact h3 d (by omega) hd
theorem ht_put {h : Int64 → Nat} {T : Nat → Nat} {K : List Int64} (H : HT h T K) {x : Int64} {d : Nat} (hd1 : d < 16384) (hd : T ((h x + d) % 16384) = 0) (hb : ∀ e, e < d → ¬ (T ((h x + e) % 16384) = 0 ∨ K[T ((h x + e) % 16384) - 1]? = some x)) : HT h (updN T ((h x + d) % 16384) (K.length + 1)) (K ++ [x]) := by
  refine ⟨fun s hs => ?_, fun i c hi => ?_, ?_⟩
  · rw [List.length_append]
    by_cases he : s = (h x + d) % 16384
    · subst he; rw [updN_at]; exact Nat.le_refl _
    · rw [updN_ne he]; have := H.1 s hs; show _ ≤ K.length + 1; omega
  · rw [List.getElem?_append] at hi
    by_cases hl : i < K.length
    · rw [if_pos hl] at hi
      obtain ⟨d', h1, h2, h3⟩ := H.2.1 i c hi
      refine ⟨d', h1, ?_, fun e he => ?_⟩
      · rw [updN_ne (fun z => by rw [z] at h2; omega)]; exact h2
      · by_cases hz : (h c + e) % 16384 = (h x + d) % 16384
        · rw [hz, updN_at]; omega
        · rw [updN_ne hz]; exact h3 e he
    · rw [if_neg hl] at hi
      have hi0 : i = K.length := by
        rcases (show i = K.length ∨ ∃ j, i - K.length = j + 1 from by
          by_cases h0 : i = K.length
          · exact Or.inl h0
          · exact Or.inr ⟨i - K.length - 1, by omega⟩) with h0 | ⟨j, hj⟩
        · exact h0
        · rw [hj] at hi; exact absurd hi (by simp)
      subst hi0
      rw [Nat.sub_self] at hi
      obtain rfl : x = c := Option.some.inj hi
      refine ⟨d, hd1, updN_at _ _ _, fun e he => ?_⟩
      by_cases hz : (h x + e) % 16384 = (h x + d) % 16384
      · rw [hz, updN_at]; omega
      · rw [updN_ne hz]; exact fun z => hb e he (Or.inl z)
  · have h1 := sumTo_upd (g := fun s => if T s = 0 then 0 else 1) (h := fun s => if updN T ((h x + d) % 16384) (K.length + 1) s = 0 then 0 else 1) (k := (h x + d) % 16384) 16384 (Nat.mod_lt _ (by decide)) (fun j hj hne => by rw [updN_ne hne])
    rw [updN_at, if_pos hd, if_neg (by omega), H.2.2] at h1
    rw [Nat.add_zero] at h1
    rw [List.length_append, h1, List.length_singleton]
theorem ht_empty (h : Int64 → Nat) : HT h (fun _ => 0) [] := by
  refine ⟨fun s _ => Nat.zero_le _, fun i c hi => by simp at hi, ?_⟩
  have : ∀ n, sumTo (fun _ => 0) n = 0 := by
    intro n
    induction n with
    | zero => rfl
    | succ n ih => simp only [sumTo]; rw [ih]
  exact (sumTo_congr 16384 (fun k _ => if_pos rfl)).trans (this 16384)
theorem inj_snoc {K : List Int64} (h : Inj K) {x : Int64} (hx : ∀ i : Nat, ¬ K[i]? = some x) : Inj (K ++ [x]) := by
  have at' : ∀ (i : Nat) (c : Int64), (K ++ [x])[i]? = some c → (i < K.length ∧ K[i]? = some c) ∨ (i = K.length ∧ c = x) := by
    intro i c hi
    rw [List.getElem?_append] at hi
    by_cases hl : i < K.length
    · rw [if_pos hl] at hi; exact Or.inl ⟨hl, hi⟩
    · rw [if_neg hl] at hi
      by_cases h0 : i = K.length
      · subst h0
        rw [Nat.sub_self] at hi
        exact Or.inr ⟨rfl, (Option.some.inj hi).symm⟩
      · obtain ⟨j, hj⟩ : ∃ j, i - K.length = j + 1 := ⟨i - K.length - 1, by omega⟩
        rw [hj] at hi; exact absurd hi (by simp)
  intro i j c hi hj
  rcases at' i c hi with ⟨i1, i2⟩ | ⟨i1, i2⟩
  · rcases at' j c hj with ⟨j1, j2⟩ | ⟨j1, j2⟩
    · exact h i j c i2 j2
    · subst j2; exact absurd i2 (hx i)
  · rcases at' j c hj with ⟨j1, j2⟩ | ⟨j1, j2⟩
    · subst i2; exact absurd j2 (hx j)
    · omega
/-! the hash -/
def hOf (k x : Int64) : Nat := (x * k).toBitVec.toNat >>> 50
theorem hOf_lt (k x : Int64) : hOf k x < 16384 := by
  unfold hOf
  rw [Nat.shiftRight_eq_div_pow]
  have := (x * k).toBitVec.isLt
  omega
theorem hOf_eq (k x : Int64) : ((((x * k).toUInt64 >>> ((50 : Int32).toInt64.toUInt64 &&& Int64.toUInt64 63)).toInt64).toInt32) = Int32.ofNat (hOf k x) := by
  rw [show ((50 : Int32).toInt64.toUInt64 &&& Int64.toUInt64 63) = UInt64.ofNat 50 from sh32u ⟨50, by decide⟩]
  apply i32_of_nat
  rw [Int64.toBitVec_toInt32, BitVec.signExtend_eq_setWidth_of_le _ (by decide), BitVec.toNat_setWidth, ushr_dg _ (by decide)]
  have := hOf_lt k x
  unfold hOf at this ⊢
  exact Nat.mod_eq_of_lt (by omega)
/-- the numbers of a table, as they stand in an array -/
def TA (T : Nat → Nat) (A : Nat → Int32) : Prop := ∀ s, s < 16384 → A s = Int32.ofNat (T s)
def SA (K : List Int64) (A : Nat → Int64) : Prop := ∀ (i : Nat) (c : Int64), K[i]? = some c → A i = c
theorem TA.upd {T : Nat → Nat} {A : Nat → Int32} (h : TA T A) (k v : Nat) : TA (updN T k v) (upd A k (Int32.ofNat v)) := by
  intro s hs
  by_cases he : s = k
  · subst he; rw [updN_at, upd_at]
  · rw [updN_ne he, upd_ne he]; exact h s hs
theorem SA.snoc {K : List Int64} {A : Nat → Int64} (h : SA K A) (x : Int64) : SA (K ++ [x]) (vp_updL A K.length x) := by
  intro i c hi
  rw [List.getElem?_append] at hi
  by_cases hl : i < K.length
  · rw [if_pos hl] at hi
    rw [show vp_updL A K.length x i = A i from if_neg (by omega)]
    exact h i c hi
  · rw [if_neg hl] at hi
    by_cases h0 : i = K.length
    · subst h0
      rw [Nat.sub_self] at hi
      rw [show vp_updL A K.length x K.length = x from if_pos rfl]
      exact Option.some.inj hi
    · obtain ⟨j, hj⟩ : ∃ j, i - K.length = j + 1 := ⟨i - K.length - 1, by omega⟩
      rw [hj] at hi; exact absurd hi (by simp)
def posOf (c : Int64) : List Int64 → Nat → Option Nat
  | [], _ => none
  | x :: xs, n => if x = c then some n else posOf c xs (n + 1)
theorem posOf_some {c : Int64} : ∀ (K : List Int64) (n t : Nat), K[t]? = some c → (∀ j, j < t → ¬ K[j]? = some c) → posOf c K n = some (n + t) := by
  intro K
  induction K with
  | nil => intro n t h _; simp at h
  | cons x xs ih =>
    intro n t h hj
    unfold posOf
    cases t with
    | zero =>
      rw [if_pos (Option.some.inj h)]; rfl
    | succ t =>
      rw [if_neg (fun z => hj 0 (by omega) (by rw [z]; rfl)), ih (n + 1) t h (fun j hj2 => hj (j + 1) (by omega))]
      congr 1
      omega
theorem posOf_none {c : Int64} : ∀ (K : List Int64) (n : Nat), (∀ t : Nat, ¬ K[t]? = some c) → posOf c K n = none := by
  intro K
  induction K with
  | nil => intro n _; rfl
  | cons x xs ih =>
    intro n h
    unfold posOf
    rw [if_neg (fun z => h 0 (by rw [z]; rfl)), ih (n + 1) (fun t => h (t + 1))]
/-- a state's number, a new one if it has none; none if there are 6000 -/
def numb (K : List Int64) (c : Int64) : Option (Nat × List Int64) :=
  match posOf c K 0 with
  | some t => some (t, K)
  | none => if K.length < 6000 then some (K.length, K ++ [c]) else none
theorem numb_old {K : List Int64} {c : Int64} {t : Nat} (hI : Inj K) (h : K[t]? = some c) : numb K c = some (t, K) := by
  unfold numb
  rw [posOf_some K 0 t h (fun j hj z => by have := hI _ _ _ z h; omega), Nat.zero_add]
theorem numb_new {K : List Int64} {c : Int64} (h : ∀ t : Nat, ¬ K[t]? = some c) (hl : K.length < 6000) : numb K c = some (K.length, K ++ [c]) := by
  unfold numb
  rw [posOf_none K 0 h]
  exact if_pos hl
theorem numb_none {K : List Int64} {c : Int64} (h : ∀ t : Nat, ¬ K[t]? = some c) (hl : ¬ K.length < 6000) : numb K c = none := by
  unfold numb
  rw [posOf_none K 0 h]
  exact if_neg hl
