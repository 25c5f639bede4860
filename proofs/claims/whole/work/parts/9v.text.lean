/-! part 9v: the text of a script: places, words, numbers -/
section TXTA
def chA (n : Nat) (b : Nat → Nat) (k : Nat) : Nat := if k < n then b k else 256
def ewF (n : Nat) (b : Nat → Nat) (p : Nat → Bool) : Nat → Nat → Nat
  | 0, k => k
  | f + 1, k => if p (chA n b k) = true then ewF n b p f (k + 1) else k
def ewA (n : Nat) (b : Nat → Nat) (p : Nat → Bool) (k : Nat) : Nat := ewF n b p (n - k) k
def pBl (x : Nat) : Bool := decide (x = 32)
def pLe (x : Nat) : Bool := decide (97 ≤ x ∧ x ≤ 122)
def pDi (x : Nat) : Bool := decide (48 ≤ x ∧ x ≤ 57)
def skA (n : Nat) (b : Nat → Nat) (k : Nat) : Nat := ewA n b pBl k
variable {n : Nat} {b : Nat → Nat} {p : Nat → Bool}
theorem chA_in {k : Nat} (h : k < n) : chA n b k = b k := if_pos h
theorem chA_out {k : Nat} (h : n ≤ k) : chA n b k = 256 := if_neg (by omega)
theorem ew_go (hp : p 256 = false) {k : Nat} (h : p (chA n b k) = true) : k < n ∧ ewA n b p k = ewA n b p (k + 1) := by
  have hk : k < n := by
    by_cases hk : k < n
    · exact hk
    · rw [chA_out (by omega), hp] at h; exact absurd h (by decide)
  refine ⟨hk, ?_⟩
  unfold ewA
  obtain ⟨m, hm⟩ : ∃ m, n - k = m + 1 := ⟨n - k - 1, by omega⟩
  rw [hm, show n - (k + 1) = m by omega]
  show (if p (chA n b k) = true then ewF n b p m (k + 1) else k) = _
  rw [if_pos h]
theorem ew_stop {k : Nat} (h : ¬ p (chA n b k) = true) : ewA n b p k = k := by
  unfold ewA
  cases hm : n - k with
  | zero => rfl
  | succ m =>
    show (if p (chA n b k) = true then ewF n b p m (k + 1) else k) = k
    rw [if_neg h]
theorem ew_facts (hp : p 256 = false) : ∀ (m k : Nat), n - k = m → k ≤ ewA n b p k ∧ (k ≤ n → ewA n b p k ≤ n) ∧ ¬ p (chA n b (ewA n b p k)) = true ∧ ∀ j, k ≤ j → j < ewA n b p k → p (chA n b j) = true := by
  intro m
  induction m with
  | zero =>
    intro k hk
    have hs : ¬ p (chA n b k) = true := by rw [chA_out (by omega), hp]; decide
    rw [ew_stop hs]
    exact ⟨Nat.le_refl _, fun h => h, hs, fun j h1 h2 => by omega⟩
  | succ m ih =>
    intro k hk
    by_cases h : p (chA n b k) = true
    · obtain ⟨h1, h2⟩ := ew_go hp h
      obtain ⟨g1, g2, g3, g4⟩ := ih (k + 1) (by omega)
      rw [h2]
      refine ⟨by omega, fun _ => g2 (by omega), g3, fun j j1 j2 => ?_⟩
      by_cases hj : j = k
      · subst hj; exact h
      · exact g4 j (by omega) j2
    · rw [ew_stop h]
      exact ⟨Nat.le_refl _, fun h => h, h, fun j h1 h2 => by omega⟩
theorem ew_ge (hp : p 256 = false) (k : Nat) : k ≤ ewA n b p k := (ew_facts hp (n - k) k rfl).1
theorem ew_le (hp : p 256 = false) {k : Nat} (h : k ≤ n) : ewA n b p k ≤ n := (ew_facts hp (n - k) k rfl).2.1 h
theorem ew_out (hp : p 256 = false) (k : Nat) : ¬ p (chA n b (ewA n b p k)) = true := (ew_facts hp (n - k) k rfl).2.2.1
theorem ew_in (hp : p 256 = false) {k j : Nat} (h1 : k ≤ j) (h2 : j < ewA n b p k) : p (chA n b j) = true := (ew_facts hp (n - k) k rfl).2.2.2 j h1 h2
theorem bl_end : pBl 256 = false := by decide
theorem le_end : pLe 256 = false := by decide
theorem di_end : pDi 256 = false := by decide
/-- the byte at a place as an int -/
def chI (n : Nat) (b : Nat → Nat) (k : Nat) : Int32 := if k < n then Int32.ofNat (b k) else -1
def TxA (n : Nat) (b : Nat → Nat) (A : Nat → Int32) : Prop := n ≤ 240 ∧ ∀ k, k < n → b k < 256 ∧ A k = Int32.ofNat (b k)
theorem neg_lt_nat {c : Nat} (hc : c < 2 ^ 31) : (-1 : Int32) < Int32.ofNat c := by
  rw [Int32.lt_iff_toInt_lt, i32_int hc]
  have : (-1 : Int32).toInt = -1 := rfl
  omega
theorem chI_eq (hb : ∀ k, k < n → b k < 256) (k : Nat) {c : Nat} (hc : c < 256) : (chI n b k = Int32.ofNat c) ↔ chA n b k = c := by
  unfold chI chA
  by_cases h : k < n
  · have := hb k h
    rw [if_pos h, if_pos h]
    exact i32_eq (by omega) (by omega)
  · rw [if_neg h, if_neg h]
    refine ⟨fun z => ?_, fun z => by omega⟩
    have := neg_lt_nat (c := c) (by omega)
    rw [← z] at this
    exact absurd this (Int32.lt_irrefl)
theorem chI_lt (hb : ∀ k, k < n → b k < 256) (k : Nat) {c : Nat} (hc : c < 256) : (chI n b k < Int32.ofNat c) ↔ (n ≤ k ∨ chA n b k < c) := by
  unfold chI chA
  by_cases h : k < n
  · have := hb k h
    rw [if_pos h, if_pos h, i32_lt (by omega) (by omega)]
    omega
  · rw [if_neg h, if_neg h]
    exact ⟨fun _ => Or.inl (by omega), fun _ => neg_lt_nat (by omega)⟩
theorem chI_gt (hb : ∀ k, k < n → b k < 256) (k : Nat) {c : Nat} (hc : c < 256) : (Int32.ofNat c < chI n b k) ↔ (k < n ∧ c < chA n b k) := by
  unfold chI chA
  by_cases h : k < n
  · have := hb k h
    rw [if_pos h, if_pos h, i32_lt (by omega) (by omega)]
    omega
  · rw [if_neg h, if_neg h]
    refine ⟨fun z => ?_, fun z => by omega⟩
    have := neg_lt_nat (c := c) (by omega)
    exact absurd (Int32.lt_trans z this) (Int32.lt_irrefl)
theorem small_eq (hb : ∀ k, k < n → b k < 256) (k : Nat) : fX12_isSmall (chI n b k) = if pLe (chA n b k) = true then 1 else 0 := by
  unfold fX12_isSmall
  have h1 := chI_lt hb k (c := 97) (by decide)
  have h2 := chI_gt hb k (c := 122) (by decide)
  have hp : (pLe (chA n b k) = true) ↔ (97 ≤ chA n b k ∧ chA n b k ≤ 122) := by unfold pLe; exact decide_eq_true_iff
  have hout : n ≤ k → chA n b k = 256 := chA_out
  by_cases h : pLe (chA n b k) = true
  · have := hp.mp h
    rw [if_pos h, if_neg (fun z => by have := h1.mp z; omega), if_neg (fun z => by have := h2.mp z; omega)]
  · rw [if_neg h]
    by_cases g : chI n b k < 97
    · rw [if_pos g]
    · rw [if_neg g, if_pos]
      have g' : ¬ (n ≤ k ∨ chA n b k < 97) := fun z => g (h1.mpr z)
      have h' : ¬ (97 ≤ chA n b k ∧ chA n b k ≤ 122) := fun z => h (hp.mpr z)
      exact h2.mpr (by omega)
theorem digit_is (hb : ∀ k, k < n → b k < 256) (k : Nat) : fX12_isDigit (chI n b k) = if pDi (chA n b k) = true then 1 else 0 := by
  unfold fX12_isDigit
  have h1 := chI_lt hb k (c := 48) (by decide)
  have h2 := chI_gt hb k (c := 57) (by decide)
  have hp : (pDi (chA n b k) = true) ↔ (48 ≤ chA n b k ∧ chA n b k ≤ 57) := by unfold pDi; exact decide_eq_true_iff
  have hout : n ≤ k → chA n b k = 256 := chA_out
  by_cases h : pDi (chA n b k) = true
  · have := hp.mp h
    rw [if_pos h, if_neg (fun z => by have := h1.mp z; omega), if_neg (fun z => by have := h2.mp z; omega)]
  · rw [if_neg h]
    by_cases g : chI n b k < 48
    · rw [if_pos g]
    · rw [if_neg g, if_pos]
      have g' : ¬ (n ≤ k ∨ chA n b k < 48) := fun z => g (h1.mpr z)
      have h' : ¬ (48 ≤ chA n b k ∧ chA n b k ≤ 57) := fun z => h (hp.mpr z)
      exact h2.mpr (by omega)
theorem peek_eq {A : Nat → Int32} (h : TxA n b A) (k : Nat) (hk : k ≤ n) : fX10_peek (Int32.ofNat n) (Int32.ofNat k) A = chI n b k := by
  unfold fX10_peek chI
  have hn := h.1
  by_cases hl : k < n
  · rw [if_pos hl, if_neg (fun z => by have := (i32_le (by omega) (by omega)).mp z; omega), cAt_nat (by omega) (by decide), (h.2 k hl).2]
  · rw [if_neg hl, if_pos ((i32_le (by omega) (by omega)).mpr (by omega))]
theorem byte_eq {A : Nat → Int32} (h : TxA n b A) (k : Nat) (hk : k ≤ n) : fX12_byteAt (Int32.ofNat n) A (Int32.ofNat k) = some (chI n b k) := by
  unfold fX12_byteAt chI
  have hn := h.1
  by_cases hl : k < n
  · rw [if_pos hl, if_neg (fun z => by have := (i32_le (by omega) (by omega)).mp z; omega), if_pos (inb_t (by omega) (by omega)), tnc (by omega), (h.2 k hl).2]
  · rw [if_neg hl, if_pos ((i32_le (by omega) (by omega)).mpr (by omega))]
/-- a loop that goes on while a byte is of a kind -/
theorem ew_loop {st : Int32 → Option (Int32 ⊕ Int32)} (hp : p 256 = false) (hst : ∀ k, k ≤ n → st (Int32.ofNat k) = if p (chA n b k) = true then some (.inr (Int32.ofNat (k + 1))) else some (.inl (Int32.ofNat k))) : ∀ (m k F : Nat), n - k = m → k ≤ n → m < F → gloop st F (Int32.ofNat k) = some (Int32.ofNat (ewA n b p k)) := by
  intro m
  induction m with
  | zero =>
    intro k F hm hk hF
    obtain ⟨G, rfl⟩ : ∃ G, F = G + 1 := ⟨F - 1, by omega⟩
    have hs : ¬ p (chA n b k) = true := by rw [chA_out (by omega), hp]; decide
    simp only [gloop, hst k hk]
    rw [if_neg hs, ew_stop hs]
  | succ m ih =>
    intro k F hm hk hF
    obtain ⟨G, rfl⟩ : ∃ G, F = G + 1 := ⟨F - 1, by omega⟩
    simp only [gloop, hst k hk]
    by_cases h : p (chA n b k) = true
    · obtain ⟨h1, h2⟩ := ew_go hp h
      rw [if_pos h, h2]
      exact ih (k + 1) G (by omega) (by omega) (by omega)
    · rw [if_neg h, ew_stop h]
variable {F : Nat} {A : Nat → Int32}
theorem skip_eq (h : TxA n b A) (hF : 1000 ≤ F) {k : Nat} (hk : k ≤ n) : fX10_skipBlanks F (Int32.ofNat n) A (Int32.ofNat k) = some (Int32.ofNat (skA n b k)) := by
  have hn := h.1
  have hb : ∀ k, k < n → b k < 256 := fun k hk => (h.2 k hk).1
  unfold fX10_skipBlanks
  have key := ew_loop (n := n) (b := b) (st := fun u1 : Int32 => fX10_skipBlanks_S0 F (Int32.ofNat n) A u1) bl_end (fun k hk => by
    unfold fX10_skipBlanks_S0
    rw [peek_eq h k hk]
    have h32 : (chI n b k = 32) ↔ chA n b k = 32 := chI_eq hb k (c := 32) (by decide)
    have hbl : (pBl (chA n b k) = true) ↔ chA n b k = 32 := by unfold pBl; exact decide_eq_true_iff
    by_cases hl : n ≤ k
    · rw [if_pos ((i32_le (by omega) (by omega)).mpr hl), if_neg (fun z => by have := hbl.mp z; rw [chA_out hl] at this; omega)]
    · rw [if_neg (fun z => hl ((i32_le (by omega) (by omega)).mp z))]
      by_cases hc : chA n b k = 32
      · rw [if_pos (h32.mpr hc), if_pos (hbl.mpr hc), i32_succ]
      · rw [if_neg (fun z => hc (h32.mp z)), if_neg (fun z => hc (hbl.mp z))]) (n - k) k F rfl hk (by omega)
  rw [key]
  rfl
end TXTA
