/-! part 9z8: the reference's words, signs and numbers -/
section TOKM
variable {n : Nat} {b : Nat → Nat} {F : Nat} {A : Nat → Int32}
def cdT : List Nat := [0, 1, 3, 2, 4, 6, 5]
def cdO (t : Nat) : Nat := cdT.getD (t - 7) 0
theorem t_len : ∀ i : Fin 7, sLen (7 + i.val) = (wdL (cdO (7 + i.val))).length ∧ cdO (7 + i.val) < 7 := by decide +kernel
theorem t_chr : ∀ (i : Fin 7) (j : Fin 6), j.val < (wdL (cdO (7 + i.val))).length → chAt (sByt (7 + i.val)) j.val = Int32.ofNat ((wdL (cdO (7 + i.val))).getD j.val 0) ∧ 1 ≤ (wdL (cdO (7 + i.val))).getD j.val 0 ∧ (wdL (cdO (7 + i.val))).getD j.val 0 < 256 := by decide +kernel
theorem packed_eq (hF : 1000 ≤ F) {t : Nat} (h7 : 7 ≤ t) (ht : t < 14) : fX12_packed F (sLen t) (sByt t) = some (Int64.ofNat (fo256 (fun j => (wdL (cdO t)).getD j 0) (wdL (cdO t)).length)) := by
  obtain ⟨i, rfl⟩ : ∃ i, t = 7 + i := ⟨t - 7, by omega⟩
  obtain ⟨hl, hc7⟩ := t_len ⟨i, by omega⟩
  dsimp only at hl hc7
  obtain ⟨l6, l4⟩ := wd_len ⟨cdO (7 + i), hc7⟩
  dsimp only at l6 l4
  unfold fX12_packed
  rw [hl]
  have key := gl_for (st := fun u1 : (Int64 × Int32) => fX12_packed_S4 F (wdL (cdO (7 + i))).length (sByt (7 + i)) u1.1 u1.2) (out := Int64.ofNat (fo256 (fun j => (wdL (cdO (7 + i))).getD j 0) (wdL (cdO (7 + i))).length)) (wdL (cdO (7 + i))).length (fun j => (Int64.ofNat (fo256 (fun j => (wdL (cdO (7 + i))).getD j 0) j), Int32.ofNat j)) (fun j hj => by
    obtain ⟨c1, c2, c3⟩ := t_chr ⟨i, by omega⟩ ⟨j, by omega⟩ hj
    dsimp only at c1 c2 c3 ⊢
    unfold fX12_packed_S4
    rw [nI_nat, if_neg (fun z => by have := (i32_le (by omega) (by omega)).mp z; omega), if_pos (inb_t (by omega) hj), tnc (by omega), c1, i32_i64 (by omega), i32_succ, show (256 : Int64) = Int64.ofNat 256 from rfl, ← Int64.ofNat_mul, ← Int64.ofNat_add]
    rfl) (by
    dsimp only
    unfold fX12_packed_S4
    rw [nI_nat, if_pos ((i32_le (by omega) (by omega)).mpr (Nat.le_refl _))]) (F := F) (by omega)
  have key' : gloop (fun u1 : (Int64 × Int32) => fX12_packed_S4 F (wdL (cdO (7 + i))).length (sByt (7 + i)) u1.1 u1.2) F (0, 0) = some (Int64.ofNat (fo256 (fun j => (wdL (cdO (7 + i))).getD j 0) (wdL (cdO (7 + i))).length)) := key
  rw [key']
  rfl
theorem i64_inj {x y : Nat} (hx : x < 2 ^ 63) (hy : y < 2 ^ 63) : (Int64.ofNat x = Int64.ofNat y) ↔ x = y := by
  constructor
  · intro h
    have := congrArg Int64.toInt h
    rw [Int64.toInt_ofNat_of_lt hx, Int64.toInt_ofNat_of_lt hy] at this
    omega
  · intro h; rw [h]
theorem ts_place (n : Nat) (b : Nat → Nat) (p : Nat) : (TSA n b p).1 = Int32.ofNat p := by
  unfold TSA
  repeat' split
  all_goals rfl
/-- whether the token is a word -/
theorem isWord_m (h : TxA n b A) (hF : 1000 ≤ F) {t : Nat} (h7 : 7 ≤ t) (ht : t < 14) {p : Nat} (hp : p ≤ n) : fX12_isWord F (sLen t) (sByt t) (TSA n b p).2.2.1 (TSA n b p).2.2.2.1 0 = some (if wEq b (cdO t) p (ewA n b pLe p) = true then 1 else 0) := by
  have hn := h.1
  have hb : ∀ k, k < n → b k < 256 := fun k hk => (h.2 k hk).1
  have hc7 : cdO t < 7 := by
    have := (t_len ⟨t - 7, by omega⟩).2
    dsimp only at this
    rw [show 7 + (t - 7) = t by omega] at this
    exact this
  obtain ⟨l6, l4⟩ := wd_len ⟨cdO t, hc7⟩
  dsimp only at l6 l4
  unfold fX12_isWord
  rw [if_pos rfl]
  by_cases hl : pLe (chA n b p) = true
  · obtain ⟨d1, d2, d3⟩ := le_byte h hl
    have hne : ¬ chA n b p = 256 := by rw [chA_in d1]; have := hb p d1; omega
    have hts : TSA n b p = (Int32.ofNat p, Int32.ofNat (ewA n b pLe p), 1, Int64.ofNat (hsA b p (ewA n b pLe p - p)), 0) := by
      unfold TSA
      rw [if_neg hne, if_pos hl]
    rw [hts]
    dsimp only
    rw [if_pos rfl, packed_eq hF h7 ht, Option.bind_some]
    have dge := ew_ge (n := n) (b := b) le_end p
    have dle := ew_le (n := n) (b := b) le_end hp
    have din : ∀ j, p ≤ j → j < ewA n b pLe p → pLe (chA n b j) = true := fun j h1 h2 => ew_in le_end h1 h2
    generalize ewA n b pLe p = e at dge dle din
    have hw : ∀ j, j < (wdL (cdO t)).length → 1 ≤ (wdL (cdO t)).getD j 0 ∧ (wdL (cdO t)).getD j 0 < 256 := fun j hj => by
      have := (t_chr ⟨t - 7, by omega⟩ ⟨j, by omega⟩ (by show j < (wdL (cdO (7 + (t - 7)))).length; rw [show 7 + (t - 7) = t by omega]; exact hj)).2
      dsimp only at this
      rw [show 7 + (t - 7) = t by omega] at this
      exact this
    have hbb : ∀ j, j < e - p → 1 ≤ b (p + j) ∧ b (p + j) < 256 := fun j hj => by
      obtain ⟨c1, c2, c3⟩ := le_byte h (din (p + j) (by omega) (by omega))
      omega
    have hpk := fo_lt (g := fun j => (wdL (cdO t)).getD j 0) (wdL (cdO t)).length (fun j hj => (hw j hj).2)
    have h6 : (256 : Nat) ^ (wdL (cdO t)).length ≤ 256 ^ 7 := Nat.pow_le_pow_right (by decide) (by omega)
    have hpk1 : 1 ≤ fo256 (fun j => (wdL (cdO t)).getD j 0) (wdL (cdO t)).length := by
      obtain ⟨k, hk⟩ : ∃ k, (wdL (cdO t)).length = k + 1 := ⟨(wdL (cdO t)).length - 1, by omega⟩
      have := (hw k (by omega)).1
      rw [hk]
      show 1 ≤ 256 * fo256 _ k + (wdL (cdO t)).getD k 0
      omega
    have hiff : hsA b p (e - p) = fo256 (fun j => (wdL (cdO t)).getD j 0) (wdL (cdO t)).length ↔ wEq b (cdO t) p e = true := by
      rw [wEq_iff]
      constructor
      · intro z
        by_cases h8 : 8 ≤ e - p
        · rw [hs_big b p h8] at z; omega
        · rw [hs_fo b p _ (by omega)] at z
          obtain ⟨i1, i2⟩ := fo_inj (e - p) (wdL (cdO t)).length hbb hw z
          exact ⟨i1, fun j hj => i2 j (by omega)⟩
      · rintro ⟨z1, z2⟩
        rw [hs_fo b p _ (by omega), z1]
        have : ∀ m, m ≤ (wdL (cdO t)).length → fo256 (fun j => b (p + j)) m = fo256 (fun j => (wdL (cdO t)).getD j 0) m := by
          intro m
          induction m with
          | zero => intro _; rfl
          | succ m ih =>
            intro hm
            show 256 * fo256 _ m + b (p + m) = 256 * fo256 _ m + (wdL (cdO t)).getD m 0
            rw [ih (by omega), z2 m (by omega)]
        exact this _ (Nat.le_refl _)
    have hhs : hsA b p (e - p) < 256 ^ 7 := by
      by_cases h8 : 8 ≤ e - p
      · rw [hs_big b p h8]; decide
      · rw [hs_fo b p _ (by omega)]
        exact Nat.lt_of_lt_of_le (fo_lt _ (fun j hj => (hbb j hj).2)) (Nat.pow_le_pow_right (by decide) (by omega))
    by_cases hw2 : wEq b (cdO t) p e = true
    · rw [if_pos ((lg_cmp_eq _ _).mpr (by rw [hiff.mpr hw2])), if_pos hw2]
    · rw [if_neg (fun z => hw2 (hiff.mp ((i64_inj (by omega) (by omega)).mp ((lg_cmp_eq _ _).mp z)))), if_neg hw2]
  · have htk : ¬ (TSA n b p).2.2.1 = 1 := by
      unfold TSA
      split
      · exact (show ¬ (0 : Int32) = 1 by decide)
      · split
        · exact (show ¬ (2 : Int32) = 1 by decide)
        · split
          · exact (show ¬ (3 : Int32) = 1 by decide)
          · exact (show ¬ (4 : Int32) = 1 by decide)
    have hst := ew_stop (n := n) (b := b) hl
    rw [if_neg htk, hst, if_neg (fun z => by
      have := ((wEq_iff b (cdO t) p p).mp z).1
      omega)]
theorem ts_sign (h : TxA n b A) {p c : Nat} (hc : c = 59 ∨ c = 91 ∨ c = 93) : ((TSA n b p).2.2.1 = 3 ∧ (TSA n b p).2.2.2.2 = Int32.ofNat c) ↔ chA n b p = c := by
  have hb : ∀ k, k < n → b k < 256 := fun k hk => (h.2 k hk).1
  have hle : ∀ x, pLe x = true ↔ (97 ≤ x ∧ x ≤ 122) := fun x => by unfold pLe; exact decide_eq_true_iff
  have hdi : ∀ x, pDi x = true ↔ (48 ≤ x ∧ x ≤ 57) := fun x => by unfold pDi; exact decide_eq_true_iff
  have hch : chA n b p ≤ 256 := by
    unfold chA
    split
    · rename_i hp; have := hb p hp; omega
    · exact Nat.le_refl _
  unfold TSA
  by_cases h1 : chA n b p = 256
  · rw [if_pos h1]
    exact ⟨fun z => absurd z.1 (show ¬ (0 : Int32) = 3 by decide), fun z => by omega⟩
  · rw [if_neg h1]
    by_cases h2 : pLe (chA n b p) = true
    · rw [if_pos h2]
      have := (hle _).mp h2
      exact ⟨fun z => absurd z.1 (show ¬ (1 : Int32) = 3 by decide), fun z => by omega⟩
    · rw [if_neg h2]
      by_cases h3 : pDi (chA n b p) = true
      · rw [if_pos h3]
        have := (hdi _).mp h3
        exact ⟨fun z => absurd z.1 (show ¬ (2 : Int32) = 3 by decide), fun z => by omega⟩
      · rw [if_neg h3]
        by_cases h4 : chA n b p = 59 ∨ chA n b p = 91 ∨ chA n b p = 93
        · rw [if_pos h4]
          exact ⟨fun z => (i32_eq (by omega) (by omega)).mp z.2, fun z => ⟨rfl, by show Int32.ofNat (chA n b p) = _; rw [z]⟩⟩
        · rw [if_neg h4]
          exact ⟨fun z => absurd z.1 (show ¬ (4 : Int32) = 3 by decide), fun z => by omega⟩
theorem ts_end (n : Nat) (b : Nat → Nat) (p : Nat) : ((TSA n b p).2.2.1 = 0) ↔ chA n b p = 256 := by
  unfold TSA
  by_cases h1 : chA n b p = 256
  · rw [if_pos h1]; exact ⟨fun _ => h1, fun _ => rfl⟩
  · rw [if_neg h1]
    refine ⟨fun z => ?_, fun z => absurd z h1⟩
    exfalso
    revert z
    split
    · exact (show ¬ (1 : Int32) = 0 by decide)
    · split
      · exact (show ¬ (2 : Int32) = 0 by decide)
      · split
        · exact (show ¬ (3 : Int32) = 0 by decide)
        · exact (show ¬ (4 : Int32) = 0 by decide)
theorem wrong_eq {p k : Nat} : fX12_wrong (Int32.ofNat p) 0 (Int32.ofNat k) = Int32.ofNat (8 * p + k) := by
  unfold fX12_wrong
  rw [if_pos rfl, show (8 : Int32) * Int32.ofNat p = Int32.ofNat (8 * p) from i32_mul 8 p, i32_add]
theorem ts_next (h : TxA n b A) {p c : Nat} (hc : c = 59 ∨ c = 91 ∨ c = 93) (hp : chA n b p = c) : (TSA n b p).2.1 = Int32.ofNat (p + 1) := by
  have hle : ∀ x, pLe x = true ↔ (97 ≤ x ∧ x ≤ 122) := fun x => by unfold pLe; exact decide_eq_true_iff
  have hdi : ∀ x, pDi x = true ↔ (48 ≤ x ∧ x ≤ 57) := fun x => by unfold pDi; exact decide_eq_true_iff
  unfold TSA
  rw [if_neg (by omega), if_neg (fun z => by have := (hle _).mp z; omega), if_neg (fun z => by have := (hdi _).mp z; omega), if_pos (by omega)]
/-- a sign that must come -/
theorem must_m (h : TxA n b A) (hF : 1000 ≤ F) {p c : Nat} (hp : p ≤ n) (hc : c = 59 ∨ c = 91 ∨ c = 93) : fX12_must F (Int32.ofNat n) A (TSA n b p).1 (TSA n b p).2.1 (TSA n b p).2.2.1 (TSA n b p).2.2.2.1 (TSA n b p).2.2.2.2 0 (Int32.ofNat c) = if chA n b p = c then some ((TSA n b (skA n b (p + 1))).1, (TSA n b (skA n b (p + 1))).2.1, (TSA n b (skA n b (p + 1))).2.2.1, (TSA n b (skA n b (p + 1))).2.2.2.1, (TSA n b (skA n b (p + 1))).2.2.2.2, 0) else some ((TSA n b p).1, (TSA n b p).2.1, (TSA n b p).2.2.1, (TSA n b p).2.2.2.1, (TSA n b p).2.2.2.2, Int32.ofNat (8 * p + 1)) := by
  have hn := h.1
  have hs := ts_sign h (p := p) hc
  have hpl := ts_place n b p
  unfold fX12_must
  rw [if_pos rfl]
  have hbad : fX12_must_J23 F (Int32.ofNat n) A (TSA n b p).1 (TSA n b p).2.1 (TSA n b p).2.2.1 (TSA n b p).2.2.2.1 (TSA n b p).2.2.2.2 0 = some ((TSA n b p).1, (TSA n b p).2.1, (TSA n b p).2.2.1, (TSA n b p).2.2.2.1, (TSA n b p).2.2.2.2, Int32.ofNat (8 * p + 1)) := by
    unfold fX12_must_J23 fX12_must_J28
    rw [hpl, show (1 : Int32) = Int32.ofNat 1 from rfl, wrong_eq, next_bad _ _ _ (by omega) (by omega), Option.bind_some]
  by_cases hcp : chA n b p = c
  · obtain ⟨s1, s2⟩ := hs.mpr hcp
    have hlt := ch_lt hcp (by omega)
    rw [if_pos s1, if_pos s2, if_pos hcp]
    unfold fX12_must_J28
    rw [ts_next h hc hcp, next_m h hF (by omega), Option.bind_some]
  · rw [if_neg hcp]
    by_cases s1 : (TSA n b p).2.2.1 = 3
    · rw [if_pos s1]
      by_cases s2 : (TSA n b p).2.2.2.2 = Int32.ofNat c
      · exact absurd (hs.mp ⟨s1, s2⟩) hcp
      · rw [if_neg s2]
        exact hbad
    · rw [if_neg s1]
      exact hbad
theorem must_bad (F : Nat) (sz : Int32) (A : Nat → Int32) {f : Nat} (hf : f < 4000) (hf0 : f ≠ 0) (pl en tk : Int32) (wd : Int64) (nm c : Int32) : fX12_must F sz A pl en tk wd nm (Int32.ofNat f) c = some (pl, en, tk, wd, nm, Int32.ofNat f) := by
  have hne : ¬ Int32.ofNat f = 0 := fun z => hf0 ((i32_eq (b := 0) (by omega) (by decide)).mp z)
  unfold fX12_must
  rw [if_neg hne]
  unfold fX12_must_J28
  rw [next_bad _ _ _ hf hf0, Option.bind_some]
theorem within_gen {v lo hi : Nat} (hv : v < 2 ^ 31) (hl : lo < 2 ^ 31) (hh : hi < 2 ^ 31) : (fX12_within (Int32.ofNat v) (Int32.ofNat lo) (Int32.ofNat hi) = 0) ↔ (v < lo ∨ hi < v) := by
  unfold fX12_within
  by_cases h1 : v < lo
  · rw [if_pos ((i32_lt hv hl).mpr h1)]
    exact ⟨fun _ => Or.inl h1, fun _ => rfl⟩
  · rw [if_neg (fun z => h1 ((i32_lt hv hl).mp z))]
    by_cases h2 : hi < v
    · rw [if_pos ((i32_lt hh hv).mpr h2)]
      exact ⟨fun _ => Or.inr h2, fun _ => rfl⟩
    · rw [if_neg (fun z => h2 ((i32_lt hh hv).mp z))]
      exact ⟨fun z => absurd z (by decide), fun z => by omega⟩
/-- a number that is told -/
theorem numTold_m (h : TxA n b A) (hF : 1000 ≤ F) {k lo hi : Nat} (hk : k ≤ n) (hhi : hi ≤ 30) (hlo : lo ≤ 9) : (nmA n b lo hi k).1 < 4000 ∧ ((nmA n b lo hi k).1 = 0 → (nmA n b lo hi k).2.2 ≤ n ∧ k ≤ (nmA n b lo hi k).2.2 ∧ fX12_numberTold F (Int32.ofNat n) A (TSA n b (skA n b k)).1 (TSA n b (skA n b k)).2.1 (TSA n b (skA n b k)).2.2.1 (TSA n b (skA n b k)).2.2.2.1 (TSA n b (skA n b k)).2.2.2.2 0 (Int32.ofNat lo) (Int32.ofNat hi) = some (Int32.ofNat (nmA n b lo hi k).2.1, (TSA n b (skA n b (nmA n b lo hi k).2.2)).1, (TSA n b (skA n b (nmA n b lo hi k).2.2)).2.1, (TSA n b (skA n b (nmA n b lo hi k).2.2)).2.2.1, (TSA n b (skA n b (nmA n b lo hi k).2.2)).2.2.2.1, (TSA n b (skA n b (nmA n b lo hi k).2.2)).2.2.2.2, 0)) ∧
    ((nmA n b lo hi k).1 ≠ 0 → ∃ v, fX12_numberTold F (Int32.ofNat n) A (TSA n b (skA n b k)).1 (TSA n b (skA n b k)).2.1 (TSA n b (skA n b k)).2.2.1 (TSA n b (skA n b k)).2.2.2.1 (TSA n b (skA n b k)).2.2.2.2 0 (Int32.ofNat lo) (Int32.ofNat hi) = some (v, (TSA n b (skA n b k)).1, (TSA n b (skA n b k)).2.1, (TSA n b (skA n b k)).2.2.1, (TSA n b (skA n b k)).2.2.2.1, (TSA n b (skA n b k)).2.2.2.2, Int32.ofNat (nmA n b lo hi k).1)) := by
  have hn := h.1
  have hb : ∀ k, k < n → b k < 256 := fun k hk => (h.2 k hk).1
  have hge := sk_ge n b k
  have hle := sk_le (n := n) (b := b) hk
  unfold nmA
  dsimp only
  generalize skA n b k = p at hge hle
  have dge := ew_ge (n := n) (b := b) di_end p
  have dle := ew_le (n := n) (b := b) di_end hle
  have din : ∀ j, p ≤ j → j < ewA n b pDi p → pDi (chA n b j) = true := fun j h1 h2 => ew_in di_end h1 h2
  have hpl := ts_place n b p
  have hdi : ∀ x, pDi x = true ↔ (48 ≤ x ∧ x ≤ 57) := fun x => by unfold pDi; exact decide_eq_true_iff
  have hle' : ∀ x, pLe x = true ↔ (97 ≤ x ∧ x ≤ 122) := fun x => by unfold pLe; exact decide_eq_true_iff
  unfold fX12_numberTold
  rw [if_pos rfl]
  by_cases hd : pDi (chA n b p) = true
  · obtain ⟨d1, d2, d3⟩ := di_byte h hd
    have hgo := (ew_go di_end hd).2
    have hg2 := ew_ge (n := n) (b := b) di_end (p + 1)
    have hts : TSA n b p = (Int32.ofNat p, Int32.ofNat (ewA n b pDi p), 2, 0, Int32.ofNat (nvA b p (ewA n b pDi p))) := by
      unfold TSA
      have := (hdi _).mp hd
      rw [if_neg (by omega), if_neg (fun z => by have := (hle' _).mp z; omega), if_pos hd]
    have hv : nvA b p (ewA n b pDi p) ≤ 1000 := by
      unfold nvA
      rw [if_neg (by omega)]
      by_cases h1 : ewA n b pDi p - p = 1
      · rw [if_pos h1]; omega
      · rw [if_neg h1]
        by_cases h2 : ewA n b pDi p - p = 2
        · obtain ⟨_, f4, f5⟩ := di_byte h (din (p + 1) (by omega) (by omega))
          rw [if_pos h2]; omega
        · rw [if_neg h2]
          exact Nat.le_refl _
    rw [hts]
    dsimp only
    rw [if_pos rfl, if_neg (show ¬ ewA n b pDi p = p by omega)]
    unfold fX12_numberTold_J20
    rw [if_pos rfl]
    have hwi := within_gen (v := nvA b p (ewA n b pDi p)) (lo := lo) (hi := hi) (by omega) (by omega) (by omega)
    by_cases hbad : nvA b p (ewA n b pDi p) < lo ∨ hi < nvA b p (ewA n b pDi p)
    · rw [if_pos hbad, if_pos (hwi.mpr hbad)]
      refine ⟨by show 8 * p + 2 < 4000; omega, fun z => absurd z (by show ¬ 8 * p + 2 = 0; omega), fun _ => ⟨Int32.ofNat (nvA b p (ewA n b pDi p)), ?_⟩⟩
      unfold fX12_numberTold_J44
      rw [show (2 : Int32) = Int32.ofNat 2 from rfl, wrong_eq, next_bad _ _ _ (by omega) (by omega), Option.bind_some]
    · rw [if_neg hbad, if_neg (fun z => hbad (hwi.mp z))]
      refine ⟨by show 0 < 4000; decide, fun _ => ⟨dle, by show k ≤ ewA n b pDi p; omega, ?_⟩, fun z => absurd rfl z⟩
      unfold fX12_numberTold_J44
      rw [next_m h hF dle, Option.bind_some]
  · have hst := ew_stop (n := n) (b := b) hd
    have htk : ¬ (TSA n b p).2.2.1 = 2 := by
      unfold TSA
      split
      · exact (show ¬ (0 : Int32) = 2 by decide)
      · split
        · exact (show ¬ (1 : Int32) = 2 by decide)
        · split
          · exact (show ¬ (3 : Int32) = 2 by decide)
          · exact (show ¬ (4 : Int32) = 2 by decide)
    rw [if_neg htk, hst, if_pos rfl]
    refine ⟨by show 8 * p + 1 < 4000; omega, fun z => absurd z (by show ¬ 8 * p + 1 = 0; omega), fun _ => ⟨(TSA n b p).2.2.2.2, ?_⟩⟩
    unfold fX12_numberTold_J20 fX12_numberTold_J44
    have hw : fX12_wrong (TSA n b p).1 0 1 = Int32.ofNat (8 * p + 1) := by
      rw [hpl]
      exact wrong_eq (p := p) (k := 1)
    rw [hw, if_neg (fun z => by have := (i32_eq (b := 0) (by omega) (by decide)).mp z; omega), next_bad _ _ _ (by omega) (by omega), Option.bind_some]
theorem numTold_bad (F : Nat) (sz : Int32) (A : Nat → Int32) {f : Nat} (hf : f < 4000) (hf0 : f ≠ 0) (pl en tk : Int32) (wd : Int64) (nm lo hi : Int32) : fX12_numberTold F sz A pl en tk wd nm (Int32.ofNat f) lo hi = some (nm, pl, en, tk, wd, nm, Int32.ofNat f) := by
  have hne : ¬ Int32.ofNat f = 0 := fun z => hf0 ((i32_eq (b := 0) (by omega) (by decide)).mp z)
  unfold fX12_numberTold
  rw [if_neg hne]
  unfold fX12_numberTold_J20 fX12_numberTold_J44
  rw [if_neg hne, next_bad _ _ _ hf hf0, Option.bind_some]
end TOKM
