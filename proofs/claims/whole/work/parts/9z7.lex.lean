/-! part 9z7: the reference's tokens -/
section LEXM
variable {n : Nat} {b : Nat → Nat} {F : Nat} {A : Nat → Int32}
def fo256 (g : Nat → Nat) : Nat → Nat
  | 0 => 0
  | m + 1 => 256 * fo256 g m + g m
def hsA (b : Nat → Nat) (p : Nat) : Nat → Nat
  | 0 => 0
  | m + 1 => if m < 7 then 256 * hsA b p m + b (p + m) else 0
theorem fo_lt {g : Nat → Nat} : ∀ m, (∀ j, j < m → g j < 256) → fo256 g m < 256 ^ m := by
  intro m
  induction m with
  | zero => intro _; show 0 < 1; decide
  | succ m ih =>
    intro h
    have h1 := ih (fun j hj => h j (by omega))
    have h2 := h m (by omega)
    show 256 * fo256 g m + g m < 256 ^ (m + 1)
    rw [Nat.pow_succ]
    omega
theorem fo_inj {f g : Nat → Nat} : ∀ (m l : Nat), (∀ j, j < m → 1 ≤ f j ∧ f j < 256) → (∀ j, j < l → 1 ≤ g j ∧ g j < 256) → fo256 f m = fo256 g l → m = l ∧ ∀ j, j < m → f j = g j := by
  intro m
  induction m with
  | zero =>
    intro l _ hg e
    cases l with
    | zero => exact ⟨rfl, fun j hj => absurd hj (Nat.not_lt_zero j)⟩
    | succ l =>
      have h1 := hg l (by omega)
      have e' : 0 = 256 * fo256 g l + g l := e
      omega
  | succ m ih =>
    intro l hf hg e
    cases l with
    | zero =>
      have h1 := hf m (by omega)
      have e' : 256 * fo256 f m + f m = 0 := e
      omega
    | succ l =>
      have h1 := hf m (by omega)
      have h2 := hg l (by omega)
      have e' : 256 * fo256 f m + f m = 256 * fo256 g l + g l := e
      obtain ⟨i1, i2⟩ := ih l (fun j hj => hf j (by omega)) (fun j hj => hg j (by omega)) (by omega)
      subst i1
      refine ⟨rfl, fun j hj => ?_⟩
      by_cases hjm : j = m
      · subst hjm; omega
      · exact i2 j (by omega)
theorem hs_fo (b : Nat → Nat) (p : Nat) : ∀ m, m ≤ 7 → hsA b p m = fo256 (fun j => b (p + j)) m := by
  intro m
  induction m with
  | zero => intro _; rfl
  | succ m ih =>
    intro h
    show (if m < 7 then 256 * hsA b p m + b (p + m) else 0) = 256 * fo256 (fun j => b (p + j)) m + b (p + m)
    rw [if_pos (by omega), ih (by omega)]
theorem hs_big (b : Nat → Nat) (p : Nat) {m : Nat} (h : 8 ≤ m) : hsA b p m = 0 := by
  obtain ⟨k, rfl⟩ : ∃ k, m = k + 1 := ⟨m - 1, by omega⟩
  show (if k < 7 then _ else 0) = 0
  rw [if_neg (by omega)]
theorem i32_i64 {v : Nat} (hv : v < 2 ^ 31) : (Int32.ofNat v).toInt64 = Int64.ofNat v := by
  apply bt_ext
  intro i hi
  rw [bt_i32 hv hi, ofnat_bit hi]
/-- the token at a place -/
def TSA (n : Nat) (b : Nat → Nat) (p : Nat) : Int32 × Int32 × Int32 × Int64 × Int32 :=
  if chA n b p = 256 then (Int32.ofNat p, Int32.ofNat p, 0, 0, 0)
  else if pLe (chA n b p) = true then (Int32.ofNat p, Int32.ofNat (ewA n b pLe p), 1, Int64.ofNat (hsA b p (ewA n b pLe p - p)), 0)
  else if pDi (chA n b p) = true then (Int32.ofNat p, Int32.ofNat (ewA n b pDi p), 2, 0, Int32.ofNat (nvA b p (ewA n b pDi p)))
  else if chA n b p = 59 ∨ chA n b p = 91 ∨ chA n b p = 93 then (Int32.ofNat p, Int32.ofNat (p + 1), 3, 0, Int32.ofNat (chA n b p))
  else (Int32.ofNat p, Int32.ofNat (p + 1), 4, 0, 0)
theorem le_byte (h : TxA n b A) {j : Nat} (hd : pLe (chA n b j) = true) : j < n ∧ 97 ≤ b j ∧ b j ≤ 122 := by
  have hp : (pLe (chA n b j) = true) ↔ (97 ≤ chA n b j ∧ chA n b j ≤ 122) := by unfold pLe; exact decide_eq_true_iff
  have := hp.mp hd
  by_cases hj : j < n
  · rw [chA_in hj] at this; exact ⟨hj, this⟩
  · rw [chA_out (by omega)] at this; omega
theorem word_loop (h : TxA n b A) (hF : 1000 ≤ F) {p : Nat} (hp : p ≤ n) (x63 x58 x60 x62 : Int32) : gloop (fun u41 : (Int32 × Int64) => fX12_next_S97 F (Int32.ofNat n) x63 A (Int32.ofNat p) x58 x60 x62 u41.1 u41.2) F (Int32.ofNat p, 0) = some (Int32.ofNat (ewA n b pLe p), Int64.ofNat (hsA b p (ewA n b pLe p - p))) := by
  have hn := h.1
  have hb : ∀ k, k < n → b k < 256 := fun k hk => (h.2 k hk).1
  have dge := ew_ge (n := n) (b := b) le_end p
  have dle := ew_le (n := n) (b := b) le_end hp
  have din : ∀ j, p ≤ j → j < ewA n b pLe p → pLe (chA n b j) = true := fun j h1 h2 => ew_in le_end h1 h2
  have dout := ew_out (n := n) (b := b) le_end p
  generalize ewA n b pLe p = e at dge dle din dout
  have key := gl_for (st := fun u41 : (Int32 × Int64) => fX12_next_S97 F (Int32.ofNat n) x63 A (Int32.ofNat p) x58 x60 x62 u41.1 u41.2) (out := (Int32.ofNat e, Int64.ofNat (hsA b p (e - p)))) (e - p) (fun j => (Int32.ofNat (p + j), Int64.ofNat (hsA b p j))) (fun j hj => by
    obtain ⟨d1, d2, d3⟩ := le_byte h (din (p + j) (by omega) (by omega))
    have hc : chI n b (p + j) = Int32.ofNat (b (p + j)) := if_pos d1
    dsimp only
    unfold fX12_next_S97 fX12_next_J145
    rw [byte_eq h (p + j) (by omega), Option.bind_some, small_eq hb, if_pos (din (p + j) (by omega) (by omega)), if_neg (by decide), i32_sub (by omega), Nat.add_sub_cancel_left, i32_succ]
    by_cases h7 : j < 7
    · rw [if_neg (fun z => by have := (i32_le (a := 7) (by decide) (by omega)).mp z; omega), Option.bind_some, hc, i32_i64 (by omega)]
      have e1 : hsA b p (j + 1) = 256 * hsA b p j + b (p + j) := if_pos h7
      rw [e1, show (256 : Int64) = Int64.ofNat 256 from rfl, ← Int64.ofNat_mul, ← Int64.ofNat_add]
      rfl
    · rw [if_pos (show (7 : Int32) ≤ Int32.ofNat j from (i32_le (a := 7) (by decide) (by omega)).mpr (by omega))]
      have e1 : hsA b p (j + 1) = 0 := if_neg h7
      rw [e1]
      rfl) (by
    dsimp only
    rw [show p + (e - p) = e by omega]
    unfold fX12_next_S97
    rw [byte_eq h e dle, Option.bind_some, small_eq hb, if_neg dout, if_pos rfl]) (F := F) (by omega)
  exact key
theorem num_loop (h : TxA n b A) (hF : 1000 ≤ F) {p : Nat} (hp : p ≤ n) (x63 x58 x60 : Int32) (x61 : Int64) : gloop (fun u22 : (Int32 × Int32) => fX12_next_S178 F (Int32.ofNat n) x63 A (Int32.ofNat p) x58 x60 x61 u22.1 u22.2) F (Int32.ofNat p, 0) = some (Int32.ofNat (ewA n b pDi p), Int32.ofNat (nvA b p (ewA n b pDi p))) := by
  have hn := h.1
  have hb : ∀ k, k < n → b k < 256 := fun k hk => (h.2 k hk).1
  have dge := ew_ge (n := n) (b := b) di_end p
  have dle := ew_le (n := n) (b := b) di_end hp
  have din : ∀ j, p ≤ j → j < ewA n b pDi p → pDi (chA n b j) = true := fun j h1 h2 => ew_in di_end h1 h2
  have dout := ew_out (n := n) (b := b) di_end p
  generalize ewA n b pDi p = e at dge dle din dout
  have key := gl_for (st := fun u22 : (Int32 × Int32) => fX12_next_S178 F (Int32.ofNat n) x63 A (Int32.ofNat p) x58 x60 x61 u22.1 u22.2) (out := (Int32.ofNat e, Int32.ofNat (nvA b p e))) (e - p) (fun j => (Int32.ofNat (p + j), Int32.ofNat (nvA b p (p + j)))) (fun j hj => by
    obtain ⟨d1, d2, d3⟩ := di_byte h (din (p + j) (by omega) (by omega))
    have hc : chI n b (p + j) = Int32.ofNat (b (p + j)) := if_pos d1
    dsimp only
    unfold fX12_next_S178 fX12_next_J228
    rw [byte_eq h (p + j) (by omega), Option.bind_some, digit_is hb, if_pos (din (p + j) (by omega) (by omega)), if_neg (by decide), i32_sub (by omega), Nat.add_sub_cancel_left, i32_succ]
    by_cases h2 : j < 2
    · rw [if_neg (fun z => by have := (i32_le (a := 2) (by decide) (by omega)).mp z; omega), Option.bind_some, hc, show (10 : Int32) * Int32.ofNat (nvA b p (p + j)) = Int32.ofNat (10 * nvA b p (p + j)) from i32_mul 10 _, i32_add, show (48 : Int32) = Int32.ofNat 48 from rfl, i32_sub (by omega)]
      congr 4
      unfold nvA
      rcases (show j = 0 ∨ j = 1 by omega) with rfl | rfl
      · rw [if_pos (by omega), if_neg (by omega), if_pos (by omega)]
        rw [Nat.add_zero] at *
        omega
      · obtain ⟨_, f2, f3⟩ := di_byte h (din p (by omega) (by omega))
        rw [if_neg (by omega), if_pos (by omega), if_neg (by omega), if_neg (by omega), if_pos (by omega)]
        omega
    · rw [if_pos (show (2 : Int32) ≤ Int32.ofNat j from (i32_le (a := 2) (by decide) (by omega)).mpr (by omega))]
      have e1 : nvA b p (p + (j + 1)) = 1000 := by
        unfold nvA
        rw [if_neg (by omega), if_neg (by omega), if_neg (by omega)]
      rw [e1]
      rfl) (by
    dsimp only
    rw [show p + (e - p) = e by omega]
    unfold fX12_next_S178
    rw [byte_eq h e dle, Option.bind_some, digit_is hb, if_neg dout, if_pos rfl]) (F := F) (by omega)
  have h0 : nvA b p (p + 0) = 0 := by unfold nvA; rw [if_pos (by omega)]
  rw [h0] at key
  exact key
/-- the token that comes next -/
theorem next_m (h : TxA n b A) (hF : 1000 ≤ F) {k : Nat} (hk : k ≤ n) (pl tk : Int32) (wd : Int64) (nm : Int32) : fX12_next F (Int32.ofNat n) 0 A pl (Int32.ofNat k) tk wd nm = some (TSA n b (skA n b k)) := by
  have hn := h.1
  have hb : ∀ k, k < n → b k < 256 := fun k hk => (h.2 k hk).1
  unfold fX12_next
  rw [if_pos (by decide)]
  have key := ew_loop (n := n) (b := b) (st := fun u2 : Int32 => fX12_next_S13 F (Int32.ofNat n) 0 A pl (Int32.ofNat k) tk wd nm u2) bl_end (fun j hj => by
    unfold fX12_next_S13
    rw [byte_eq h j hj, Option.bind_some]
    have h32 : (chI n b j = 32) ↔ chA n b j = 32 := chI_eq hb j (c := 32) (by decide)
    have hbl : (pBl (chA n b j) = true) ↔ chA n b j = 32 := by unfold pBl; exact decide_eq_true_iff
    by_cases hc : chA n b j = 32
    · rw [if_pos (h32.mpr hc), if_pos (hbl.mpr hc), i32_succ]
    · rw [if_neg (fun z => hc (h32.mp z)), if_neg (fun z => hc (hbl.mp z))]) (n - k) k F rfl hk (by omega)
  rw [key, Option.bind_some]
  have hle : skA n b k ≤ n := sk_le hk
  change (fX12_byteAt (Int32.ofNat n) A (Int32.ofNat (skA n b k))).bind _ = _
  show _ = some (TSA n b (skA n b k))
  have hsk : ewA n b pBl k = skA n b k := rfl
  rw [hsk]
  generalize skA n b k = p at hle
  rw [byte_eq h p hle, Option.bind_some]
  unfold TSA
  by_cases h256 : chA n b p = 256
  · have hpn : n ≤ p := by
      by_cases y : p < n
      · have := hb p y
        rw [chA_in y] at h256
        omega
      · omega
    have hc : chI n b p = -1 := if_neg (by omega)
    rw [hc, if_pos rfl, if_pos h256]
  · have hpn : p < n := by
      by_cases y : p < n
      · exact y
      · exact absurd (chA_out (by omega)) h256
    have hc : chI n b p = Int32.ofNat (b p) := if_pos hpn
    have hbp := hb p hpn
    have hne : ¬ chI n b p = -1 := fun z => by
      rw [hc] at z
      have h9 := congrArg Int32.toInt z
      rw [i32_int (by omega)] at h9
      have h8 : (-1 : Int32).toInt = -1 := rfl
      omega
    rw [if_neg hne, if_neg h256, small_eq hb]
    by_cases hl : pLe (chA n b p) = true
    · rw [if_pos hl, if_neg (by decide), if_pos hl, word_loop h hF hle, Option.bind_some]
    · rw [if_neg hl, if_pos rfl, if_neg hl, digit_is hb]
      by_cases hd : pDi (chA n b p) = true
      · rw [if_pos hd, if_neg (by decide), if_pos hd, num_loop h hF hle, Option.bind_some]
      · rw [if_neg hd, if_pos rfl, if_neg hd]
        have h59 : (chI n b p = 59) ↔ chA n b p = 59 := chI_eq hb p (c := 59) (by decide)
        have h91 : (chI n b p = 91) ↔ chA n b p = 91 := chI_eq hb p (c := 91) (by decide)
        have h93 : (chI n b p = 93) ↔ chA n b p = 93 := chI_eq hb p (c := 93) (by decide)
        have hci : chI n b p = Int32.ofNat (chA n b p) := by rw [hc, chA_in hpn]
        unfold fX12_next_J262
        by_cases z1 : chA n b p = 59
        · rw [if_pos (h59.mpr z1), if_pos (Or.inl z1), i32_succ, hci]
        · rw [if_neg (fun z => z1 (h59.mp z))]
          by_cases z2 : chA n b p = 91
          · rw [if_pos (h91.mpr z2), if_pos (Or.inr (Or.inl z2)), i32_succ, hci]
          · rw [if_neg (fun z => z2 (h91.mp z))]
            by_cases z3 : chA n b p = 93
            · rw [if_pos (h93.mpr z3), if_pos (Or.inr (Or.inr z3)), i32_succ, hci]
            · rw [if_neg (fun z => z3 (h93.mp z)), if_neg (by omega), i32_succ]
theorem next_bad (F : Nat) (sz : Int32) (A : Nat → Int32) {f : Nat} (hf : f < 4000) (hf0 : f ≠ 0) (pl en tk : Int32) (wd : Int64) (nm : Int32) : fX12_next F sz (Int32.ofNat f) A pl en tk wd nm = some (pl, en, tk, wd, nm) := by
  unfold fX12_next
  rw [if_neg (fun z => by have := (i32_le (b := 0) (by omega) (by decide)).mp z; omega)]
end LEXM
