/-! part 71: numbers of states on both sides -/
def Grow (K K' : List Int64) : Prop := K.length ≤ K'.length ∧ ∀ (i : Nat) (c : Int64), K[i]? = some c → K'[i]? = some c
theorem Grow.refl (K : List Int64) : Grow K K := ⟨Nat.le_refl _, fun _ _ h => h⟩
theorem Grow.trans {K L M : List Int64} (h : Grow K L) (g : Grow L M) : Grow K M := ⟨Nat.le_trans h.1 g.1, fun i c e => g.2 i c (h.2 i c e)⟩
theorem Grow.snoc (K : List Int64) (c : Int64) : Grow K (K ++ [c]) := by
  refine ⟨by rw [List.length_append]; omega, fun i x h => ?_⟩
  have hi : i < K.length := (List.getElem?_eq_some_iff.mp h).1
  rw [List.getElem?_append, if_pos hi]; exact h
theorem snoc_at (K : List Int64) (c : Int64) : (K ++ [c])[K.length]? = some c := by
  rw [List.getElem?_append, if_neg (by omega), Nat.sub_self]; rfl
def cKey : Int64 := -7046029254386353131
def mKey : Int64 := 7046029254386353131
def CA (K : List Int64) (A37 : Nat → Int32) (A38 : Nat → Int64) : Prop := ∃ T, HT (hOf cKey) T K ∧ TA T A37 ∧ SA K A38 ∧ Inj K ∧ K.length ≤ 6000
def MA (M : List Int64) (A79 : Nat → Int64) (A80 : Nat → Int32) : Prop := ∃ T, HT (hOf mKey) T M ∧ TA T A80 ∧ SA M A79 ∧ Inj M ∧ M.length ≤ 6000
theorem slot_and {s : Nat} (hs : s < 16384) : (Int32.ofNat s + 1) &&& (16383 : Int32) = Int32.ofNat ((s + 1) % 16384) := by
  rw [i32_succ]
  apply i32_of_nat
  rw [Int32.toBitVec_and, BitVec.toNat_and, i32_nat, Nat.mod_eq_of_lt (show s + 1 < 2 ^ 32 by omega), show (16383 : Int32).toBitVec.toNat = 2 ^ 14 - 1 from rfl, Nat.and_two_pow_sub_one_eq_mod]
theorem slot_rem {s : Nat} (hs : s < 16384) : (Int32.ofNat s + 1) - (Int32.ofNat s + 1) / 16384 * 16384 = Int32.ofNat ((s + 1) % 16384) := by
  rw [i32_succ]
  exact i32_rem (b := 16384) (by omega) (by decide)
theorem num_sub {T : Nat → Nat} {s : Nat} (h : ¬ T s = 0) (hb : T s < 2 ^ 31) : Int32.ofNat (T s) - 1 = Int32.ofNat (T s - 1) := i32_pred (by omega) hb
theorem stateAt_eq {K : List Int64} {A38 : Nat → Int64} (h : SA K A38) {i : Nat} {c : Int64} (hi : K[i]? = some c) (hl : K.length ≤ 6000) : fX1_stateAt A38 (Int32.ofNat i) = some c := by
  have hlt : i < K.length := (List.getElem?_eq_some_iff.mp hi).1
  unfold fX1_stateAt
  rw [if_neg (i32_nneg (by omega)), if_neg (fun z => by have := (i32_le (a := 6000) (by decide) (by omega)).mp z; omega), if_pos (inb_t (by omega) (by omega)), tnc (by omega), h i c hi]
theorem ht_probe {h : Int64 → Nat} {T : Nat → Nat} {K : List Int64} (H : HT h T K) (hK : K.length < 16384) (x : Int64) (hx : h x < 16384) : ∃ (p : Nat → Nat) (d : Nat), p 0 = h x ∧ (∀ e, p e < 16384) ∧ (∀ e, (p e + 1) % 16384 = p (e + 1)) ∧ d < 16384 ∧ (∀ e, e < d → ∃ (i : Nat) (y : Int64), T (p e) = i + 1 ∧ K[i]? = some y ∧ ¬ y = x) ∧ ((∃ i : Nat, T (p d) = i + 1 ∧ K[i]? = some x) ∨ (T (p d) = 0 ∧ (∀ t : Nat, ¬ K[t]? = some x) ∧ HT h (updN T (p d) (K.length + 1)) (K ++ [x]))) := by
  obtain ⟨d, hd1, hd2, hd3⟩ := ht_stop H hK x hx
  refine ⟨fun e => (h x + e) % 16384, d, ?_, fun e => Nat.mod_lt _ (by decide), fun e => ?_, hd1, fun e he => ?_, ?_⟩
  · show (h x + 0) % 16384 = h x
    omega
  · show ((h x + e) % 16384 + 1) % 16384 = (h x + (e + 1)) % 16384
    omega
  · have hne := hd3 e he
    have h0 : ¬ T ((h x + e) % 16384) = 0 := fun z => hne (Or.inl z)
    have hlt := H.1 _ (Nat.mod_lt (h x + e) (show 16384 > 0 by decide))
    have hl : T ((h x + e) % 16384) - 1 < K.length := by omega
    exact ⟨T ((h x + e) % 16384) - 1, K[T ((h x + e) % 16384) - 1], by show T ((h x + e) % 16384) = _; omega, List.getElem?_eq_getElem hl, fun z => hne (Or.inr (by rw [List.getElem?_eq_getElem hl]; exact congrArg some z))⟩
  · by_cases h0 : T ((h x + d) % 16384) = 0
    · exact Or.inr ⟨h0, fun t => ht_new H h0 hd3 t, ht_put H hd1 h0 hd3⟩
    · exact Or.inl ⟨T ((h x + d) % 16384) - 1, by show T ((h x + d) % 16384) = _; omega, hd2.resolve_left h0⟩
theorem cNumb {K : List Int64} {A37 : Nat → Int32} {A38 : Nat → Int64} (h : CA K A37 A38) (c : Int64) {F : Nat} (hF : 16390 ≤ F) : (∃ t K' A37' A38', numb K c = some (t, K') ∧ fX1_numberOf F (Int32.ofNat K.length) A37 A38 c = some (Int32.ofNat t, Int32.ofNat K'.length, A37', A38') ∧ CA K' A37' A38' ∧ Grow K K' ∧ K'[t]? = some c) ∨ (numb K c = none ∧ fX1_numberOf F (Int32.ofNat K.length) A37 A38 c = some (-1, Int32.ofNat K.length, A37, A38)) := by
  obtain ⟨T, hT, hTA, hSA, hI, hl⟩ := id h
  obtain ⟨p, d, hp0, hp, hps, hd1, hpre, hend⟩ := ht_probe hT (by omega) c (hOf_lt cKey c)
  have hcA : ∀ e, cAt 16384 A37 (Int32.ofNat (p e)) = Int32.ofNat (T (p e)) := by
    intro e
    rw [cAt_nat (hp e) (by decide), hTA _ (hp e)]
  have nsub : ∀ i : Nat, i < 2 ^ 31 - 1 → Int32.ofNat (i + 1) - 1 = Int32.ofNat i := fun i hi => i32_pred (by omega) (by omega)
  have pand : ∀ e, (Int32.ofNat (p e) + 1) &&& (16383 : Int32) = Int32.ofNat (p (e + 1)) := fun e => by rw [slot_and (hp e), hps e]
  have step : ∀ e, e < d → fX1_numberOf_S13 F c (Int32.ofNat K.length) A37 A38 (Int32.ofNat (p e)) (Int32.ofNat e) = some (.inr (Int32.ofNat (p (e + 1)), Int32.ofNat (e + 1))) := by
    intro e he
    obtain ⟨i, y, e1, e2, e3⟩ := hpre e he
    have hi : i < K.length := (List.getElem?_eq_some_iff.mp e2).1
    unfold fX1_numberOf_S13
    rw [if_neg (fun z => by have := (i32_le (a := 16384) (by decide) (by omega)).mp z; omega), hcA e, e1, nsub i (by omega), if_pos (i32_0le (by omega)), stateAt_eq hSA e2 hl]
    simp only [Option.bind_some]
    rw [if_neg (fun z => e3 ((lg_cmp_eq _ _).mp z)), pand e, i32_succ]
  have hslot : (((c * (-7046029254386353131)).toUInt64 >>> ((50 : Int32).toInt64.toUInt64 &&& Int64.toUInt64 63)).toInt64).toInt32 = Int32.ofNat (p 0) := by rw [hp0]; exact hOf_eq cKey c
  unfold fX1_numberOf
  rw [hslot]
  rcases hend with ⟨i, e1, e2⟩ | ⟨e1, e2, e3⟩
  · have hi : i < K.length := (List.getElem?_eq_some_iff.mp e2).1
    have hlast : fX1_numberOf_S13 F c (Int32.ofNat K.length) A37 A38 (Int32.ofNat (p d)) (Int32.ofNat d) = some (.inl (.inr (.inl (Int32.ofNat i)))) := by
      unfold fX1_numberOf_S13
      rw [if_neg (fun z => by have := (i32_le (a := 16384) (by decide) (by omega)).mp z; omega), hcA d, e1, nsub i (by omega), if_pos (i32_0le (by omega)), stateAt_eq hSA e2 hl]
      simp only [Option.bind_some]
      rw [if_pos ((lg_cmp_eq _ _).mpr rfl)]
    have hg := gl_for (st := fun u1 : (Int32 × Int32) => fX1_numberOf_S13 F c (Int32.ofNat K.length) A37 A38 u1.1 u1.2) d (fun e => (Int32.ofNat (p e), Int32.ofNat e)) step hlast (F := F) (by omega)
    rw [show Int32.ofNat 0 = 0 from rfl] at hg
    rw [hg]
    exact Or.inl ⟨_, _, _, _, numb_old hI e2, rfl, h, Grow.refl K, e2⟩
  · have hlast : fX1_numberOf_S13 F c (Int32.ofNat K.length) A37 A38 (Int32.ofNat (p d)) (Int32.ofNat d) = some (.inl (.inl (Int32.ofNat (p d)))) := by
      unfold fX1_numberOf_S13
      rw [if_neg (fun z => by have := (i32_le (a := 16384) (by decide) (by omega)).mp z; omega), hcA d, e1, if_neg (show ¬ 0 ≤ Int32.ofNat 0 - 1 by decide)]
    have hg := gl_for (st := fun u1 : (Int32 × Int32) => fX1_numberOf_S13 F c (Int32.ofNat K.length) A37 A38 u1.1 u1.2) d (fun e => (Int32.ofNat (p e), Int32.ofNat e)) step hlast (F := F) (by omega)
    rw [show Int32.ofNat 0 = 0 from rfl] at hg
    rw [hg]
    simp only [Option.bind_some, Sum.elim_inl]
    unfold fX1_append
    rw [if_neg (i32_nneg (by omega))]
    by_cases hlt : K.length < 6000
    · left
      rw [if_pos (show Int32.ofNat K.length < 6000 from (i32_lt (b := 6000) (by omega) (by decide)).mpr hlt), if_pos (inb_t (by omega) (by omega)), tnc (by omega), i32_succ, nsub _ (by omega)]
      refine ⟨_, _, _, _, numb_new e2 hlt, by rw [List.length_append, List.length_singleton]; rfl, ⟨_, e3, ?_, hSA.snoc c, inj_snoc hI e2, by rw [List.length_append, List.length_singleton]; omega⟩, Grow.snoc K c, snoc_at K c⟩
      unfold cPut
      rw [if_pos (inb_t (by have := hp d; omega) (hp d)), tnc (by have := hp d; omega)]
      exact hTA.upd _ _
    · right
      rw [if_neg (show ¬ Int32.ofNat K.length < 6000 from fun z => hlt ((i32_lt (b := 6000) (by omega) (by decide)).mp z))]
      exact ⟨numb_none e2 hlt, rfl⟩
/-- the reference looks a number up -/
theorem mFind {M : List Int64} {A79 : Nat → Int64} {A80 : Nat → Int32} (h : MA M A79 A80) (x : Int64) {F : Nat} (hF : 16390 ≤ F) : (∃ t, M[t]? = some x ∧ fX12_numberOf F A79 A80 x = some (Int32.ofNat t)) ∨ ((∀ t : Nat, ¬ M[t]? = some x) ∧ fX12_numberOf F A79 A80 x = some (-1) ∧ ∃ A79' A80', fX12_comes F (Int32.ofNat M.length) A79 A80 x = some (Int32.ofNat (M.length + 1), A79', A80') ∧ (M.length < 6000 → MA (M ++ [x]) A79' A80')) := by
  obtain ⟨T, hT, hTA, hSA, hI, hl⟩ := id h
  obtain ⟨p, d, hp0, hp, hps, hd1, hpre, hend⟩ := ht_probe hT (by omega) x (hOf_lt mKey x)
  have hTl : ∀ s, s < 16384 → T s < 2 ^ 31 := fun s hs => by have := hT.1 s hs; omega
  have h80 : ∀ e, A80 (p e) = Int32.ofNat (T (p e)) := fun e => hTA _ (hp e)
  have pin : ∀ e, inb (Int32.ofNat (p e)) 16384 = true := fun e => inb_t (by have := hp e; omega) (hp e)
  have ptn : ∀ e, (Int32.ofNat (p e)).toNatClampNeg = p e := fun e => tnc (by have := hp e; omega)
  have prem : ∀ e, (Int32.ofNat (p e) + 1) - (Int32.ofNat (p e) + 1) / 16384 * 16384 = Int32.ofNat (p (e + 1)) := fun e => by rw [slot_rem (hp e), hps e]
  have nle : ∀ i : Nat, i < 2 ^ 31 - 1 → ¬ Int32.ofNat (i + 1) ≤ 0 := fun i hi z => by
    have := (i32_le (b := 0) (by omega) (by decide)).mp z; omega
  have nsub : ∀ i : Nat, i < 2 ^ 31 - 1 → Int32.ofNat (i + 1) - 1 = Int32.ofNat i := fun i hi => i32_pred (by omega) (by omega)
  have hslot : fX12_slotOf x = Int32.ofNat (p 0) := by rw [hp0]; exact hOf_eq mKey x
  have step : ∀ e, e < d → fX12_numberOf_S5 F A79 A80 x (Int32.ofNat (p e)) = some (.inr (Int32.ofNat (p (e + 1)))) := by
    intro e he
    obtain ⟨i, y, e1, e2, e3⟩ := hpre e he
    have hi : i < M.length := (List.getElem?_eq_some_iff.mp e2).1
    unfold fX12_numberOf_S5
    rw [if_pos (pin e), ptn, h80 e, e1, if_neg (nle i (by omega)), if_pos (pin e), nsub i (by omega), if_pos (inb_t (by omega) (by omega)), tnc (by omega), hSA i y e2, if_neg (fun z => e3 ((lg_cmp_eq _ _).mp z)), prem e]
  rcases hend with ⟨i, e1, e2⟩ | ⟨e1, e2, e3⟩
  · have hi : i < M.length := (List.getElem?_eq_some_iff.mp e2).1
    have hlast : fX12_numberOf_S5 F A79 A80 x (Int32.ofNat (p d)) = some (.inl (.inl (Int32.ofNat (p d)))) := by
      unfold fX12_numberOf_S5
      rw [if_pos (pin d), ptn, h80 d, e1, if_neg (nle i (by omega)), if_pos (pin d), nsub i (by omega), if_pos (inb_t (by omega) (by omega)), tnc (by omega), hSA i x e2, if_pos ((lg_cmp_eq _ _).mpr rfl)]
    have hg := gl_for (st := fun u2 : Int32 => fX12_numberOf_S5 F A79 A80 x u2) d (fun e => Int32.ofNat (p e)) step hlast (F := F) (by omega)
    refine Or.inl ⟨i, e2, ?_⟩
    unfold fX12_numberOf
    rw [hslot, hg]
    simp only [Option.bind_some, Sum.elim_inl]
    rw [if_pos (pin d), ptn, h80 d, e1, nsub i (by omega)]
  · have hlast : fX12_numberOf_S5 F A79 A80 x (Int32.ofNat (p d)) = some (.inl (.inr ())) := by
      unfold fX12_numberOf_S5
      rw [if_pos (pin d), ptn, h80 d, e1, if_pos (show Int32.ofNat 0 ≤ 0 by decide)]
    have hg := gl_for (st := fun u2 : Int32 => fX12_numberOf_S5 F A79 A80 x u2) d (fun e => Int32.ofNat (p e)) step hlast (F := F) (by omega)
    have cstep : ∀ e, e < d → fX12_comes_S5 F x (Int32.ofNat M.length) A79 A80 (Int32.ofNat (p e)) = some (.inr (Int32.ofNat (p (e + 1)))) := by
      intro e he
      obtain ⟨i, y, g1, g2, g3⟩ := hpre e he
      have hi : i < M.length := (List.getElem?_eq_some_iff.mp g2).1
      unfold fX12_comes_S5
      rw [if_pos (pin e), ptn, h80 e, g1, if_neg (nle i (by omega)), prem e]
    have clast : fX12_comes_S5 F x (Int32.ofNat M.length) A79 A80 (Int32.ofNat (p d)) = some (.inl (Int32.ofNat (p d))) := by
      unfold fX12_comes_S5
      rw [if_pos (pin d), ptn, h80 d, e1, if_pos (show Int32.ofNat 0 ≤ 0 by decide)]
    have cg := gl_for (st := fun u2 : Int32 => fX12_comes_S5 F x (Int32.ofNat M.length) A79 A80 u2) d (fun e => Int32.ofNat (p e)) cstep clast (F := F) (by omega)
    refine Or.inr ⟨e2, ?_, vp_updL A79 M.length x, upd A80 (p d) (Int32.ofNat (M.length + 1)), ?_, fun hlt => ⟨_, e3, hTA.upd _ _, hSA.snoc x, inj_snoc hI e2, by rw [List.length_append, List.length_singleton]; omega⟩⟩
    · unfold fX12_numberOf
      rw [hslot, hg]
      rfl
    · unfold fX12_comes
      rw [hslot, cg]
      simp only [Option.bind_some]
      rw [if_pos (inb_t (by omega) (by omega)), if_pos (pin d), tnc (by omega), ptn, i32_succ]
/-- the same states in the same order -/
def KM (K M : List Int64) : Prop := K.length = M.length ∧ ∀ (i : Nat) (c m : Int64), K[i]? = some c → M[i]? = some m → Sx c m
theorem KM.at {K M : List Int64} (h : KM K M) {i : Nat} {c : Int64} (hi : K[i]? = some c) : ∃ m, M[i]? = some m ∧ Sx c m := by
  have hl : i < M.length := by rw [← h.1]; exact (List.getElem?_eq_some_iff.mp hi).1
  exact ⟨M[i], List.getElem?_eq_getElem hl, h.2 i c _ hi (List.getElem?_eq_getElem hl)⟩
theorem KM.at' {K M : List Int64} (h : KM K M) {i : Nat} {m : Int64} (hi : M[i]? = some m) : ∃ c, K[i]? = some c ∧ Sx c m := by
  have hl : i < K.length := by rw [h.1]; exact (List.getElem?_eq_some_iff.mp hi).1
  exact ⟨K[i], List.getElem?_eq_getElem hl, h.2 i _ m (List.getElem?_eq_getElem hl) hi⟩
theorem KM.snoc {K M : List Int64} (h : KM K M) {c m : Int64} (hS : Sx c m) : KM (K ++ [c]) (M ++ [m]) := by
  refine ⟨by rw [List.length_append, List.length_append, h.1]; rfl, fun i x y hx hy => ?_⟩
  rw [List.getElem?_append] at hx hy
  by_cases hl : i < K.length
  · rw [if_pos hl] at hx
    rw [if_pos (by rw [← h.1]; exact hl)] at hy
    exact h.2 i x y hx hy
  · rw [if_neg hl] at hx
    rw [if_neg (by rw [← h.1]; exact hl)] at hy
    by_cases h0 : i = K.length
    · subst h0
      rw [Nat.sub_self] at hx
      rw [h.1, Nat.sub_self] at hy
      obtain rfl : c = x := Option.some.inj hx
      obtain rfl : m = y := Option.some.inj hy
      exact hS
    · obtain ⟨j, hj⟩ : ∃ j, i - K.length = j + 1 := ⟨i - K.length - 1, by omega⟩
      rw [hj] at hx; exact absurd hx (by simp)
theorem KM.inj {K M : List Int64} (h : KM K M) (hI : Inj M) : Inj K := by
  intro i j c hi hj
  obtain ⟨m, hm, hS⟩ := h.at hi
  obtain ⟨m', hm', hS'⟩ := h.at hj
  obtain rfl := hS.fn hS'
  exact hI i j m hm hm'
