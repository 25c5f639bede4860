/-! part 80: way -/
def firstE (p : Nat → Bool) : Nat → Nat → Nat
  | 0, a => a
  | m + 1, a => if p a = true then a else firstE p m (a + 1)
theorem firstE_eq {p : Nat → Bool} : ∀ (m a e : Nat), a ≤ e → e < a + m → p e = true → (∀ e', a ≤ e' → e' < e → ¬ p e' = true) → firstE p m a = e := by
  intro m
  induction m with
  | zero => intro a e h1 h2; omega
  | succ m ih =>
    intro a e h1 h2 h3 h4
    unfold firstE
    by_cases ha : p a = true
    · rw [if_pos ha]
      rcases Nat.lt_or_ge a e with h | h
      · exact absurd ha (h4 a (Nat.le_refl _) h)
      · omega
    · rw [if_neg ha]
      have hne : a ≠ e := fun z => ha (by rw [z]; exact h3)
      exact ih (a + 1) e (by omega) (by omega) h3 (fun e' k1 k2 => h4 e' (by omega) k2)
section WAY
variable {n : Nat} {fs tg ot f : Nat → Nat}
def wayP (tg ot f : Nat → Nat) (s e : Nat) : Bool := if f s = 1 then badO (ot e) else decide (f (tg e) = f s - 1)
def wayE (fs tg ot f : Nat → Nat) (s : Nat) : Nat := firstE (wayP tg ot f s) (fs (s + 1) - fs s) (fs s)
theorem wayE_in (hD : DistOk n fs tg (fun e => badO (ot e)) f) {s : Nat} (hs : s < n) (h1 : 1 ≤ f s) : fs s ≤ wayE fs tg ot f s ∧ wayE fs tg ot f s < fs (s + 1) ∧ wayP tg ot f s (wayE fs tg ot f s) = true ∧ ∀ e', fs s ≤ e' → e' < wayE fs tg ot f s → ¬ wayP tg ot f s e' = true := by
  have hex : ∃ e, e < fs (s + 1) ∧ (fs s ≤ e ∧ wayP tg ot f s e = true) := by
    by_cases hf : f s = 1
    · obtain ⟨e, e1, e2, e3⟩ := (hD.1 s hs).mp hf
      exact ⟨e, e2, e1, by unfold wayP; rw [if_pos hf]; exact e3⟩
    · obtain ⟨e, e1, e2, e3⟩ := hD.2.1 s hs (f s - 2) (by omega)
      exact ⟨e, e2, e1, by unfold wayP; rw [if_neg hf, decide_eq_true_eq]; omega⟩
  obtain ⟨e, e1, ⟨e2, e3⟩, e4⟩ := least (fs (s + 1)) hex
  have he : wayE fs tg ot f s = e := firstE_eq _ _ e e2 (by omega) e3 (fun e' k1 k2 z => e4 e' k2 ⟨k1, z⟩)
  rw [he]
  exact ⟨e2, e1, e3, fun e' k1 k2 z => e4 e' k2 ⟨k1, z⟩⟩
def wk (fs tg ot f : Nat → Nat) : Nat → Nat
  | 0 => 0
  | j + 1 => tg (wayE fs tg ot f (wk fs tg ot f j))
theorem wk_in (hG : Gr n fs tg) (hD : DistOk n fs tg (fun e => badO (ot e)) f) : ∀ j, j < f 0 → wk fs tg ot f j < n ∧ f (wk fs tg ot f j) = f 0 - j := by
  intro j
  induction j with
  | zero => intro _; exact ⟨hG.1, rfl⟩
  | succ j ih =>
    intro hj
    obtain ⟨h1, h2⟩ := ih (by omega)
    obtain ⟨e1, e2, e3, _⟩ := wayE_in hD h1 (by omega)
    have hlt : wayE fs tg ot f (wk fs tg ot f j) < fs n := Nat.lt_of_lt_of_le e2 (gr_mono hG (by omega) (Nat.le_refl _))
    refine ⟨hG.2.2.2.2.2 _ hlt, ?_⟩
    unfold wayP at e3
    rw [if_neg (by omega), decide_eq_true_eq] at e3
    show f (tg (wayE fs tg ot f (wk fs tg ot f j))) = _
    rw [e3, h2]; omega
variable {A30 A35 A57 : Nat → Int32}
theorem soonestEdge_eq (hG : Gr n fs tg) (hC : CGr n fs tg ot A30 A35) (hD : DistOk n fs tg (fun e => badO (ot e)) f) (hA : ∀ s, s < n → cAt 6000 A57 (Int32.ofNat s) = Int32.ofNat (f s)) (hb : ∀ s, s < n → f s ≤ 6000) {s : Nat} (hs : s < n) (h1 : 1 ≤ f s) {F : Nat} (hF : 70000 ≤ F) : fX9_soonestEdge F A30 A35 A57 (Int32.ofNat s) = some (Int32.ofNat (wayE fs tg ot f s)) := by
  have hn6 := hG.2.1
  have hmn := gr_mono hG (show s + 1 ≤ n by omega) (Nat.le_refl _)
  have hms := hG.2.2.2.1 s hs
  have h60 := hG.2.2.2.2.1
  have hfs := hb s hs
  unfold fX9_soonestEdge
  rw [hC.1 s (by omega), hA s hs]
  have step : ∀ e, e < fs (s + 1) → fX9_soonestEdge_S24 F A30 A35 A57 (Int32.ofNat s) (Int32.ofNat (f s)) (Int32.ofNat e) = if wayP tg ot f s e = true then some (.inl (.inl (Int32.ofNat e))) else some (.inr (Int32.ofNat (e + 1))) := by
    intro e he
    have hlt : e < fs n := by omega
    have ht := hG.2.2.2.2.2 e hlt
    have hft := hb _ ht
    unfold fX9_soonestEdge_S24 fX9_soonestEdge_J87
    rw [i32_succ, hC.1 (s + 1) (by omega), if_neg (fun z => by have := (i32_le (by omega) (by omega)).mp z; omega), (hC.2 e hlt).1, (hC.2 e hlt).2.1, hA _ ht, show Int32.ofNat (f s) - 1 = Int32.ofNat (f s - 1) from i32_pred h1 (by omega), i32_succ]
    unfold wayP
    by_cases hf : f s = 1
    · rw [if_pos (show Int32.ofNat (f s) = 1 by rw [hf]; rfl), if_pos hf]
      cases badO (ot e)
      · rw [if_pos (show (if false = true then (1 : Int32) else 0) = 0 from rfl), if_neg (show ¬ false = true by decide)]
      · rw [if_neg (show ¬ (if true = true then (1 : Int32) else 0) = 0 by decide), if_pos (show true = true from rfl)]
    · rw [if_neg (show ¬ Int32.ofNat (f s) = 1 from fun z => hf ((i32_eq (b := 1) (by omega) (by decide)).mp z)), if_neg hf]
      by_cases hq : f (tg e) = f s - 1
      · rw [if_pos (show Int32.ofNat (f (tg e)) = Int32.ofNat (f s - 1) by rw [hq]), if_neg (by decide), if_pos (decide_eq_true hq)]
      · rw [if_neg (fun z => hq ((i32_eq (by omega) (by omega)).mp z)), if_pos rfl, if_neg (by rw [decide_eq_true_eq]; exact hq)]
  obtain ⟨w1, w2, w3, w4⟩ := wayE_in hD hs h1
  have key := gl_find (st := fun u3 : Int32 => fX9_soonestEdge_S24 F A30 A35 A57 (Int32.ofNat s) (Int32.ofNat (f s)) u3) (fun e => Int32.ofNat e) (fun e => wayP tg ot f s e = true) (.inr ()) (fun e => .inl (Int32.ofNat e)) (fs (s + 1)) (fun e he hP => by
    show fX9_soonestEdge_S24 F A30 A35 A57 (Int32.ofNat s) (Int32.ofNat (f s)) (Int32.ofNat e) = _
    rw [step e he, if_neg hP]) (fun e he hP => by
    show fX9_soonestEdge_S24 F A30 A35 A57 (Int32.ofNat s) (Int32.ofNat (f s)) (Int32.ofNat e) = _
    rw [step e he, if_pos hP]) (by
    show fX9_soonestEdge_S24 F A30 A35 A57 (Int32.ofNat s) (Int32.ofNat (f s)) (Int32.ofNat (fs (s + 1))) = _
    unfold fX9_soonestEdge_S24
    rw [i32_succ, hC.1 (s + 1) (by omega), if_pos ((i32_le (by omega) (by omega)).mpr (Nat.le_refl _))]) (fs (s + 1) - fs s) (fs s) F (by omega) (by omega)
  rcases key with ⟨e, e1, e2, e3, e4, e5⟩ | ⟨e1, e2⟩
  · have he : wayE fs tg ot f s = e := firstE_eq _ _ e e1 (by omega) e3 e4
    rw [e5, he]; rfl
  · exact absurd w3 (e1 _ w1 w2)
end WAY
theorem part_t : ∀ (w : Fin 5) (k : Fin 8) (t : Fin 2), fX0_part (codeN w.val k.val t.val) 0 = Int32.ofNat (w.val + 100 * t.val) ∧ fX0_part (codeN w.val k.val t.val) 1 = mLab w.val k.val ∧ fX0_part (codeN w.val k.val t.val) 2 = mVal w.val k.val ∧ ¬ codeN w.val k.val t.val = -1 := by decide +kernel
theorem edge_act {cap lab ack cop : Nat} {K : List Int64} {E : List Edge} {Fs : List Nat} (h : Gk cap lab ack cop K.length K E Fs) {s e : Nat} {c : Int64} (hs : K[s]? = some c) (h1 : fsOf Fs s ≤ e) (h2 : e < fsOf Fs (s + 1)) : ∃ a t o, E[e]? = some (t, a, o) ∧ (acts5 lab ack c true)[e - fsOf Fs s]? = some a := by
  have hsl : s < K.length := (List.getElem?_eq_some_iff.mp hs).1
  obtain ⟨_, _, _, _, _, _, _, h8, _⟩ := h
  obtain ⟨f, f1, f2, f3, f4⟩ := h8 s c hsl hs
  have e1 : fsOf Fs s = f := getD_of f1
  have e2 : fsOf Fs (s + 1) = f + (acts5 lab ack c true).length := getD_of f2
  rw [e1] at h1
  rw [e2] at h2
  have hj : e - f < (acts5 lab ack c true).length := by omega
  obtain ⟨t, t1, _⟩ := f4 (e - f) _ (List.getElem?_eq_getElem hj)
  rw [show f + (e - f) = e by omega] at t1
  exact ⟨_, _, _, t1, by rw [e1]; exact List.getElem?_eq_getElem hj⟩
section CALLS
variable {F cap lab ack cop : Nat} {c m : Int64}
theorem way_call (hs : Stt cap lab ack cop) (hc : Good cap c) (hS : Sx c m) (hF : 70000 ≤ F) {ch : Int64} {me ra size known : Int32} {A30 A35 : Nat → Int32} {A38 : Nat → Int64} {A44 A57 A59 : Nat → Int32} (hV : SV F cap lab ack cop ch me ra size known A30 A35 A38 A44 A57 A59) (x311 x312 : Int32) (A33 A37 A61 A63 A65 : Nat → Int32) (x18 : Int32) (x19 : Int64) (x20 x21 x22 x27 x35 : Int32) (A76 A77 A78 : Nat → Int32) (A79 : Nat → Int64) (A80 A81 A82 A83 A84 A85 A86 A97 : Nat → Int32) (p1 p2 : Int32) :
    ∃ out me' ra' size' known' y311 y312 B30 B33 B35 B37 B38 B57 B59 B61 B63 B65 r, fX11_way F c (Int32.ofNat cap) (Int32.ofNat lab) (Int32.ofNat ack) (Int32.ofNat cop) ch me ra size known x311 x312 A30 A33 A35 A37 A38 A57 A59 A61 A63 A65 p1 p2 = some (out, c, me', ra', size', known', y311, y312, B30, B33, B35, B37, B38, B57, B59, B61, B63, B65) ∧ fX12_way F (Int32.ofNat cap) (Int32.ofNat lab) (Int32.ofNat ack) (Int32.ofNat cop) m x18 x19 x20 x21 x22 x27 x35 A76 A77 A78 A79 A80 A81 A82 A83 A84 A85 A86 A97 p1 p2 = some (out, 0, r) ∧ SVk F cap lab ack cop c me' ra' size' known' B30 B35 B38 A44 B57 B59 := by
  obtain ⟨me', ra', size', known', y311, y312, B30, B33, B35, B37, B38, e1, hK⟩ := covers_eq hs hV hc hF x311 x312 A33 A37
  unfold fX11_way fX12_way
  rw [e1]
  simp only [Option.bind_some]
  rcases reaches_eq hs.1.2 (by have := hs.2.1.1; omega) hs.2.1.2 hs.2.2.1.2 hs.2.2.2.2 (F := F) (by omega) hc hS x19 x20 x21 x22 x27 x35 A76 A77 A78 A79 A80 A81 A82 A83 A84 A85 A86 with ⟨K', M', E', Fs', z19, z20, z21, B76, B77, B78, B79, B80, B81, B82, B83, B84, B85, B86, r1, r2, r3, r4, r5, r6⟩ | ⟨r1, r, r2⟩
  · rw [r2]
    simp only [Option.bind_some]
    rw [if_neg (show ¬ (1 : Int32) = 0 by decide)]
    rcases hK.2 with ⟨k1, k2⟩ | ⟨k1, K, E, Fs, k2, k3, k4, k5, k6, k7, k8⟩
    · rw [k2] at r1; exact absurd r1 (by simp)
    · rw [k2] at r1
      obtain ⟨rfl, hr⟩ := Prod.mk.inj (Option.some.inj r1)
      obtain ⟨rfl, rfl⟩ := Prod.mk.inj hr
      obtain ⟨hgk, hK1, _⟩ := graph_of hs hc k2
      obtain ⟨hg, hgl⟩ := gk_gr hgk hK1
      have hn6 := hg.2.1
      have h60 := hg.2.2.2.2.1
      have hCG := cgr_of hgk hK1 k5 k6
      have hMG := mgr_of hgk hK1 r5 r6
      rw [if_neg (by rw [k1]; decide)]
      by_cases hp1 : p1 < 0
      · rw [if_pos hp1, if_pos hp1]
        exact ⟨_, _, _, _, _, _, _, _, _, _, _, _, _, _, _, _, _, _, rfl, rfl, hK⟩
      · rw [if_neg hp1, if_neg hp1]
        obtain ⟨i, hi, rfl⟩ := i32_nn hp1
        rcases within_pos (p := p2) (a := 0) (b := 2) (by decide) (by decide) with ⟨w1, w2⟩ | ⟨w1, w2, w3, q, hq1, hq, rfl⟩
        · rw [show fX12_within p2 0 2 = 0 from w1, if_pos rfl]
          by_cases a : p2 < 0
          · rw [if_pos a]
            exact ⟨_, _, _, _, _, _, _, _, _, _, _, _, _, _, _, _, _, _, rfl, rfl, hK⟩
          · rw [if_neg a, if_neg (show ¬ p2 ≤ 2 from w2.resolve_left a)]
            exact ⟨_, _, _, _, _, _, _, _, _, _, _, _, _, _, _, _, _, _, rfl, rfl, hK⟩
        · rw [if_neg (show ¬ fX12_within (Int32.ofNat q) 0 2 = 0 from w1), if_neg (show ¬ Int32.ofNat q < 0 from w2), if_pos (show Int32.ofNat q ≤ 2 from w3)]
          obtain ⟨ra2, C57, C59, C61, C63, C65, q1, q2, q3⟩ := range_eq hs hc hF (me := me') k2 k5 k6 k8 A61 A63 A65
          obtain ⟨BF, f, g1, g2, g3, g4⟩ := laysFar_eq hg hMG (w := fun e => badO (otOf E e)) (fl := 1) (fun e he => wanted_bad ⟨otOf E e, ot_lt hgk hK1 he⟩) A97 hF
          rw [← r3.1, g1]
          unfold fX9_codeOnWay
          rw [k3, q1]
          simp only [Option.bind_some]
          obtain ⟨fb, fg, d1, d2, d3⟩ := id q3
          have hA57 : ∀ s, s < K.length → cAt 6000 C57 (Int32.ofNat s) = Int32.ofNat (fb s) := fun s hs => (d3 s hs).1
          have hfb : ∀ s, s < K.length → fb s ≤ 6000 := fun s hs => (d3 s hs).2.2.1
          have hfB : ∀ s, s < K.length → BF s = enc (fb s) := fun s hs => by rw [g3 s hs, dist_unique hg g2 d1 hs]
          have hfb0 := hfb 0 hK1
          have ha : cAt 6000 C57 0 = Int32.ofNat (fb 0) := hA57 0 hK1
          have hb : BF (0 : Int32).toNatClampNeg = enc (fb 0) := by rw [n0, hfB 0 hK1]
          rw [ha]
          by_cases hlt : i < fb 0
          · have hen : enc (fb 0) = Int32.ofNat (fb 0) := by unfold enc; rw [if_neg (by omega)]
            rw [if_pos ((i32_lt hi (by omega)).mpr hlt), hb, hen, if_pos ((i32_lt hi (by omega)).mpr hlt)]
            -- the class's walk
            have hcw := gl_for (st := fun u4 : (Int32 × Int32) => fX9_codeOnWay_S26 F (Int32.ofNat K.length) (Int32.ofNat lab) (Int32.ofNat ack) B30 B35 B38 (Int32.ofNat i) ra2 y311 y312 B33 C57 C59 C61 C63 C65 u4.1 u4.2) (out := Int32.ofNat (wk (fsOf Fs) (tgOf E) (otOf E) fb i)) i (fun j => (Int32.ofNat (wk (fsOf Fs) (tgOf E) (otOf E) fb j), Int32.ofNat j)) (fun j hj => by
              show fX9_codeOnWay_S26 F _ _ _ _ _ _ _ _ _ _ _ _ _ _ _ _ (Int32.ofNat (wk (fsOf Fs) (tgOf E) (otOf E) fb j)) (Int32.ofNat j) = _
              obtain ⟨v1, v2⟩ := wk_in hg d1 j (by omega)
              obtain ⟨y1, y2, _, _⟩ := wayE_in d1 v1 (by omega)
              have hlt2 : wayE (fsOf Fs) (tgOf E) (otOf E) fb (wk (fsOf Fs) (tgOf E) (otOf E) fb j) < fsOf Fs K.length := Nat.lt_of_lt_of_le y2 (gr_mono hg (by omega) (Nat.le_refl _))
              unfold fX9_codeOnWay_S26
              rw [if_neg (fun z => by have := (i32_le (by omega) (by omega)).mp z; omega), soonestEdge_eq hg hCG d1 hA57 hfb v1 (by omega) hF]
              simp only [Option.bind_some]
              rw [(hCG.2 _ hlt2).1, i32_succ]
              rfl) (by
              show fX9_codeOnWay_S26 F _ _ _ _ _ _ _ _ _ _ _ _ _ _ _ _ _ (Int32.ofNat i) = _
              unfold fX9_codeOnWay_S26
              rw [if_pos ((i32_le (by omega) (by omega)).mpr (Nat.le_refl _))]) (F := F) (by omega)
            rw [show (Int32.ofNat (wk (fsOf Fs) (tgOf E) (otOf E) fb 0), Int32.ofNat 0) = ((0 : Int32), (0 : Int32)) from rfl] at hcw
            rw [hcw]
            simp only [Option.bind_some]
            obtain ⟨v1, v2⟩ := wk_in hg d1 i hlt
            obtain ⟨y1, y2, y3, y4⟩ := wayE_in d1 v1 (by omega)
            have hKs : K[wk (fsOf Fs) (tgOf E) (otOf E) fb i]? = some K[wk (fsOf Fs) (tgOf E) (otOf E) fb i] := List.getElem?_eq_getElem v1
            obtain ⟨a, t, o, a1, a2⟩ := edge_act hgk hKs y1 y2
            have hGd := hgk.2.2.1 _ _ hKs
            generalize K[wk (fsOf Fs) (tgOf E) (otOf E) fb i] = cc at hKs a2 hGd
            obtain ⟨BL, l1, l2⟩ := list_eq (d := true) (pd := 1) hs.1.2 hs.2.1.2 hs.2.2.1.2 hGd.1 (by decide) (F := F) (by omega) y311 y312 B33
            have hal := acts_len (ack := ack) (d := true) hs.1.2 hs.2.1.2 hGd.1
            have haj : wayE (fsOf Fs) (tgOf E) (otOf E) fb (wk (fsOf Fs) (tgOf E) (otOf E) fb i) - fsOf Fs (wk (fsOf Fs) (tgOf E) (otOf E) fb i) < (acts5 lab ack cc true).length := (List.getElem?_eq_some_iff.mp a2).1
            have hltE : wayE (fsOf Fs) (tgOf E) (otOf E) fb (wk (fsOf Fs) (tgOf E) (otOf E) fb i) < fsOf Fs K.length := Nat.lt_of_lt_of_le y2 (gr_mono hg (by omega) (Nat.le_refl _))
            rw [stateAt_eq k4 hKs hn6]
            simp only [Option.bind_some]
            rw [l1]
            simp only [Option.bind_some]
            rw [soonestEdge_eq hg hCG d1 hA57 hfb v1 (by omega) hF]
            simp only [Option.bind_some]
            rw [hCG.1 _ (by omega), i32_sub y1, cAt_nat (by omega) (by decide), l2 _ _ a2]
            obtain ⟨hta, hto⟩ := acts5_ok lab ack cc true a (List.mem_of_getElem? a2)
            obtain ⟨w5, k8'⟩ := there_lt hs.2.1.2 hta
            obtain ⟨pt0, pt1, pt2, ptn⟩ := part_t ⟨a.1, w5⟩ ⟨a.2.1, k8'⟩ ⟨a.2.2, hto⟩
            dsimp only at pt0 pt1 pt2 ptn
            rw [if_neg ptn]
            -- the reference's walk
            have hmw := gl_for (st := fun u9 : (Int32 × Int32 × Int32) => fX12_way_S65 F (Int32.ofNat cap) (Int32.ofNat lab) (Int32.ofNat ack) (Int32.ofNat cop) m (Int32.ofNat i) (Int32.ofNat q) 0 z19 z20 z21 (Int32.ofNat ack) (Int32.ofNat K.length) (Int32.ofNat E.length) B76 B77 B78 B79 B80 B81 B82 B83 B84 B85 B86 BF u9.1 u9.2.1 u9.2.2) (out := Int32.ofNat (wayE (fsOf Fs) (tgOf E) (otOf E) fb (wk (fsOf Fs) (tgOf E) (otOf E) fb i))) (i + 1) (fun j => (Int32.ofNat (wk (fsOf Fs) (tgOf E) (otOf E) fb j), (if j = 0 then 0 else Int32.ofNat (wayE (fsOf Fs) (tgOf E) (otOf E) fb (wk (fsOf Fs) (tgOf E) (otOf E) fb (j - 1)))), Int32.ofNat j)) (fun j hj => by
              show fX12_way_S65 F _ _ _ _ _ _ _ _ _ _ _ _ _ _ _ _ _ _ _ _ _ _ _ _ _ _ (Int32.ofNat (wk (fsOf Fs) (tgOf E) (otOf E) fb j)) _ (Int32.ofNat j) = _
              obtain ⟨v1, v2⟩ := wk_in hg d1 j (by omega)
              obtain ⟨y1, y2, y3, y4⟩ := wayE_in d1 v1 (by omega)
              have hmn := gr_mono hg (show wk (fsOf Fs) (tgOf E) (otOf E) fb j + 1 ≤ K.length by omega) (Nat.le_refl _)
              unfold fX12_way_S65
              rw [if_neg (fun z => by have := (i32_lt (by omega) (by omega)).mp z; omega), if_pos (inb_t (by omega) (by omega)), tnc (by omega), hMG.1 _ (by omega), hb, hen, i32_sub (show j ≤ fb 0 by omega)]
              have step : ∀ e, e < fsOf Fs (wk (fsOf Fs) (tgOf E) (otOf E) fb j + 1) → fX12_way_S90 F (Int32.ofNat cap) (Int32.ofNat lab) (Int32.ofNat ack) (Int32.ofNat cop) m (Int32.ofNat i) (Int32.ofNat q) (Int32.ofNat j) (Int32.ofNat (fb 0 - j)) 0 z19 z20 z21 (Int32.ofNat ack) (Int32.ofNat K.length) (Int32.ofNat E.length) B76 B77 B78 B79 B80 B81 B82 B83 B84 B85 B86 BF (Int32.ofNat e) = if wayP (tgOf E) (otOf E) fb (wk (fsOf Fs) (tgOf E) (otOf E) fb j) e = true then some (.inl (Int32.ofNat e)) else some (.inr (Int32.ofNat (e + 1))) := by
                intro e he
                have hlt : e < fsOf Fs K.length := by omega
                have ht := hg.2.2.2.2.2 e hlt
                have hft := hfb _ ht
                unfold fX12_way_S90 fX12_way_J131 wayP
                rw [v2]
                by_cases hf : fb 0 - j = 1
                · rw [if_pos (show Int32.ofNat (fb 0 - j) = 1 by rw [hf]; rfl), if_pos hf, if_pos (inb_t (by omega) (by omega)), tnc (by omega), (hMG.2 e hlt).2, i32_succ]
                  have hbad : ∀ o : Fin 6, (fX12_isBad (Int32.ofNat o.val) = 0) ↔ badO o.val = false := by decide +kernel
                  have hbe := hbad ⟨otOf E e, ot_lt hgk hK1 hlt⟩
                  dsimp only at hbe
                  cases hbo : badO (otOf E e)
                  · rw [if_pos (hbe.mpr hbo), if_neg (show ¬ false = true by decide)]
                  · rw [if_neg (fun z => by rw [hbe.mp z] at hbo; exact absurd hbo (by decide)), if_pos rfl]
                · rw [if_neg (show ¬ Int32.ofNat (fb 0 - j) = 1 from fun z => hf ((i32_eq (b := 1) (by omega) (by decide)).mp z)), if_neg hf, if_pos (inb_t (by omega) (by omega)), tnc (by omega), (hMG.2 e hlt).1, if_pos (inb_t (by omega) (by omega)), tnc (by omega), hfB _ ht, show Int32.ofNat (fb 0 - j) - 1 = Int32.ofNat (fb 0 - j - 1) from i32_pred (by omega) (by omega), i32_succ]
                  by_cases hq : fb (tgOf E e) = fb 0 - j - 1
                  · rw [if_pos ((enc_eq (by omega) (by omega) (by omega)).mpr hq), if_pos (decide_eq_true hq)]
                  · rw [if_neg (fun z => hq ((enc_eq (by omega) (by omega) (by omega)).mp z)), if_neg (by rw [decide_eq_true_eq]; exact hq)]
              have hin := gl_for (st := fun u12 : Int32 => fX12_way_S90 F (Int32.ofNat cap) (Int32.ofNat lab) (Int32.ofNat ack) (Int32.ofNat cop) m (Int32.ofNat i) (Int32.ofNat q) (Int32.ofNat j) (Int32.ofNat (fb 0 - j)) 0 z19 z20 z21 (Int32.ofNat ack) (Int32.ofNat K.length) (Int32.ofNat E.length) B76 B77 B78 B79 B80 B81 B82 B83 B84 B85 B86 BF u12) (out := Int32.ofNat (wayE (fsOf Fs) (tgOf E) (otOf E) fb (wk (fsOf Fs) (tgOf E) (otOf E) fb j))) (wayE (fsOf Fs) (tgOf E) (otOf E) fb (wk (fsOf Fs) (tgOf E) (otOf E) fb j) - fsOf Fs (wk (fsOf Fs) (tgOf E) (otOf E) fb j)) (fun d => Int32.ofNat (fsOf Fs (wk (fsOf Fs) (tgOf E) (otOf E) fb j) + d)) (fun d hd => by
                show fX12_way_S90 F _ _ _ _ _ _ _ _ _ _ _ _ _ _ _ _ _ _ _ _ _ _ _ _ _ _ _ _ (Int32.ofNat (fsOf Fs (wk (fsOf Fs) (tgOf E) (otOf E) fb j) + d)) = _
                rw [step _ (by omega), if_neg (y4 _ (by omega) (by omega))]
                rfl) (by
                show fX12_way_S90 F _ _ _ _ _ _ _ _ _ _ _ _ _ _ _ _ _ _ _ _ _ _ _ _ _ _ _ _ (Int32.ofNat (fsOf Fs (wk (fsOf Fs) (tgOf E) (otOf E) fb j) + (wayE (fsOf Fs) (tgOf E) (otOf E) fb (wk (fsOf Fs) (tgOf E) (otOf E) fb j) - fsOf Fs (wk (fsOf Fs) (tgOf E) (otOf E) fb j)))) = _
                rw [show fsOf Fs (wk (fsOf Fs) (tgOf E) (otOf E) fb j) + (wayE (fsOf Fs) (tgOf E) (otOf E) fb (wk (fsOf Fs) (tgOf E) (otOf E) fb j) - fsOf Fs (wk (fsOf Fs) (tgOf E) (otOf E) fb j)) = wayE (fsOf Fs) (tgOf E) (otOf E) fb (wk (fsOf Fs) (tgOf E) (otOf E) fb j) by omega, step _ y2, if_pos y3]) (F := F) (by omega)
              rw [Nat.add_zero] at hin
              rw [hin]
              simp only [Option.bind_some]
              unfold fX12_way_J137
              rw [if_pos (inb_t (by omega) (by omega)), tnc (by omega), (hMG.2 _ (by omega)).1, i32_succ]
              rfl) (by
              show fX12_way_S65 F _ _ _ _ _ _ _ _ _ _ _ _ _ _ _ _ _ _ _ _ _ _ _ _ _ _ _ (if i + 1 = 0 then 0 else _) (Int32.ofNat (i + 1)) = _
              unfold fX12_way_S65
              rw [if_pos ((i32_lt (by omega) (by omega)).mpr (by omega)), if_neg (by omega)]
              rfl) (F := F) (by omega)
            rw [show (Int32.ofNat (wk (fsOf Fs) (tgOf E) (otOf E) fb 0), (if (0 : Nat) = 0 then (0 : Int32) else Int32.ofNat (wayE (fsOf Fs) (tgOf E) (otOf E) fb (wk (fsOf Fs) (tgOf E) (otOf E) fb (0 - 1)))), Int32.ofNat 0) = ((0 : Int32), (0 : Int32), (0 : Int32)) from rfl] at hmw
            rw [hmw]
            simp only [Option.bind_some]
            have hME := r5 _ _ a1
            dsimp only at hME
            rw [if_pos (inb_t (by omega) (by omega)), if_pos (inb_t (by omega) (by omega)), if_pos (inb_t (by omega) (by omega)), tnc (by omega)]
            have hKK : SVk F cap lab ack cop c me' ra2 (Int32.ofNat K.length) known' B30 B35 B38 A44 C57 C59 := ⟨hc, Or.inr ⟨k1, K, E, Fs, k2, rfl, k4, k5, k6, k7, fun _ => q3⟩⟩
            rcases (show q = 0 ∨ q = 1 ∨ q = 2 by omega) with rfl | rfl | rfl
            · rw [if_pos (show Int32.ofNat 0 = 0 from rfl), hME.2.2.1]
              exact ⟨_, _, _, _, _, _, _, _, _, _, _, _, _, _, _, _, _, _, rfl, by rw [show fX0_part (codeN a.1 a.2.1 a.2.2) (Int32.ofNat 0) = _ from pt0], hKK⟩
            · rw [if_neg (show ¬ Int32.ofNat 1 = 0 by decide), if_pos (show Int32.ofNat 1 = 1 from rfl), hME.2.2.2.1]
              exact ⟨_, _, _, _, _, _, _, _, _, _, _, _, _, _, _, _, _, _, rfl, by rw [show fX0_part (codeN a.1 a.2.1 a.2.2) (Int32.ofNat 1) = _ from pt1], hKK⟩
            · rw [if_neg (show ¬ Int32.ofNat 2 = 0 by decide), if_neg (show ¬ Int32.ofNat 2 = 1 by decide), hME.2.2.2.2]
              exact ⟨_, _, _, _, _, _, _, _, _, _, _, _, _, _, _, _, _, _, rfl, by rw [show fX0_part (codeN a.1 a.2.1 a.2.2) (Int32.ofNat 2) = _ from pt2], hKK⟩
          · have hKK : SVk F cap lab ack cop c me' ra2 (Int32.ofNat K.length) known' B30 B35 B38 A44 C57 C59 := ⟨hc, Or.inr ⟨k1, K, E, Fs, k2, rfl, k4, k5, k6, k7, fun _ => q3⟩⟩
            rw [if_neg (fun z => hlt ((i32_lt hi (by omega)).mp z)), hb]
            have hnl : ¬ Int32.ofNat i < enc (fb 0) := by
              unfold enc
              by_cases h0 : fb 0 = 0
              · rw [if_pos h0]
                rw [Int32.lt_iff_toInt_lt, i32_int hi]
                have : (-1 : Int32).toInt = -1 := rfl
                omega
              · rw [if_neg h0]; exact fun z => hlt ((i32_lt hi (by omega)).mp z)
            rw [if_neg hnl]
            simp only [Option.bind_some, ↓reduceIte]
            exact ⟨_, _, _, _, _, _, _, _, _, _, _, _, _, _, _, _, _, _, rfl, rfl, hKK⟩
  · rw [r2]
    simp only [Option.bind_some, ↓reduceIte]
    rcases hK.2 with ⟨k1, k2⟩ | ⟨k1, K, E, Fs, k2, k3⟩
    · rw [if_pos k1]
      exact ⟨_, _, _, _, _, _, _, _, _, _, _, _, _, _, _, _, _, _, rfl, rfl, hK⟩
    · rw [k2] at r1; exact absurd r1 (by simp)
end CALLS
