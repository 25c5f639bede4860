/-! part 9i: the reference lays all states -/
section LAYA
variable {cap lab ack cop : Nat}
theorem ok_sums (hs : Stt cap lab ack cop) : ∀ z : List Nat, z.length ≤ 5 + 5 * lab → okL (mxS cap lab ack cop) z → pkSum (cOf lab z) ≤ cap ∧ ltSum (cOf lab z) ≤ cap := by
  obtain ⟨⟨c1, c2⟩, ⟨b1, b2⟩, _, _⟩ := id hs
  intro z
  induction z with
  | nil =>
    intro _ _
    have h1 : pkSum (cOf lab []) = 0 := (sum0 _ rfl).1
    have h2 : ltSum (cOf lab []) = 0 := (sum0 _ rfl).2
    omega
  | cons v p ih =>
    intro hl h
    have hf := ok_fit hs _ hl h
    rw [List.length_cons] at hl
    obtain ⟨i1, i2⟩ := ih (by omega) h.2
    have hv := h.1
    rw [pk_step b2 (by omega) hf, lt_step b2 (by omega) hf]
    by_cases h2 : 5 + 4 * lab ≤ p.length
    · rw [if_neg (by omega), if_pos h2]
      rw [lt_take b2 p (by omega) hf.2] at i2 ⊢
      unfold mxS at hv
      rw [if_neg (by omega), if_neg (by omega)] at hv
      omega
    · rw [if_neg h2]
      by_cases h1 : 5 + 2 * lab ≤ p.length
      · rw [if_pos ⟨h1, by omega⟩]
        rw [pk_take b2 p (by omega) hf.2] at i1 ⊢
        unfold mxS at hv
        rw [if_neg (by omega), if_pos (by omega)] at hv
        omega
      · rw [if_neg (by omega)]
        omega
theorem dLim_fit (hs : Stt cap lab ack cop) {i v : Nat} (h : v < dLim cap lab ack cop i) : v < 2 ^ dWid i := by
  obtain ⟨⟨c1, c2⟩, ⟨b1, b2⟩, ⟨d1, d2⟩, ⟨e1, e2⟩⟩ := hs
  unfold dLim at h
  by_cases h5 : i < 5
  · rw [if_pos h5] at h
    rcases (show i = 0 ∨ i = 1 ∨ i = 2 ∨ i = 3 ∨ i = 4 by omega) with rfl | rfl | rfl | rfl | rfl
    · show v < 4; rw [if_pos rfl] at h; omega
    · exact h
    · have h' : v < ack := h
      show v < 8; omega
    · exact h
    · have h' : v < lab := h
      show v < 4; omega
  · rw [dWid_2 (by omega)]
    show v < 4
    rw [if_neg h5] at h
    split at h <;> omega
theorem test_iff (hs : Stt cap lab ack cop) {v : Nat} {p : List Nat} (hp : p.length < 5 + 5 * lab) (hok : okL (mxS cap lab ack cop) p) (hv : v < dLim cap lab ack cop p.length) : (pkSum (cOf lab (v :: p)) ≤ cap ∧ ltSum (cOf lab (v :: p)) ≤ cap) ↔ v ≤ mxS cap lab ack cop p := by
  obtain ⟨⟨c1, c2⟩, ⟨b1, b2⟩, _, _⟩ := id hs
  have hfp := ok_fit hs p (by omega) hok
  have hf : fitL (v :: p) := ⟨dLim_fit hs hv, hfp⟩
  obtain ⟨i1, i2⟩ := ok_sums hs p (by omega) hok
  rw [pk_step b2 hp hf, lt_step b2 hp hf]
  by_cases h2 : 5 + 4 * lab ≤ p.length
  · rw [if_neg (by omega), if_pos h2]
    rw [lt_take b2 p (by omega) hfp] at i2 ⊢
    unfold mxS
    rw [if_neg (by omega), if_neg (by omega)]
    omega
  · rw [if_neg h2]
    by_cases h1 : 5 + 2 * lab ≤ p.length
    · rw [if_pos ⟨h1, by omega⟩]
      rw [pk_take b2 p (by omega) hfp] at i1 ⊢
      unfold mxS
      rw [if_neg (by omega), if_pos (by omega)]
      omega
    · rw [if_neg (by omega)]
      unfold mxS
      rw [if_pos (by omega)]
      omega
theorem mx_lim (hs : Stt cap lab ack cop) (p : List Nat) (hp : p.length < 5 + 5 * lab) : mxS cap lab ack cop p < dLim cap lab ack cop p.length := by
  have := dLim_pos hs p.length
  unfold mxS
  by_cases h : p.length < 5 + 2 * lab
  · rw [if_pos h]; omega
  · have e : dLim cap lab ack cop p.length = cap + 1 := by
      unfold dLim
      rw [if_neg (by omega), if_neg h]
    rw [if_neg h, e]
    split <;> omega
theorem nodup_left {T : Type} {a b : List T} (h : (a ++ b).Nodup) : a.Nodup := (List.nodup_append.mp h).1
theorem not_at {M L : List Int64} {x : Int64} (h : (M ++ x :: L).Nodup) : ∀ t : Nat, ¬ M[t]? = some x := by
  intro t ht
  exact (List.nodup_append.mp h).2.2 x (List.mem_of_getElem? ht) x List.mem_cons_self rfl
def finA {X : Type} (o : (X ⊕ X ⊕ X)) : Option (Int32 × X) := Sum.elim (fun x => some (1, x)) (Sum.elim (fun x => some (0, x)) (fun x => some (1, x))) o
abbrev LX := Int32 × (Nat → Int64) × (Nat → Int32)
theorem laysAll_eq (hs : Stt cap lab ack cop) {F : Nat} (hF : 16390 ≤ F) {r : Int32 × (Nat → Int32) × (Nat → Int32) × (Nat → Int32)} (hr : NDg cap lab ack cop (5 + 5 * lab) r) : ∀ (k : Nat) (p : List Nat) (d : Nat) (M : List Int64) (A79 : Nat → Int64) (A80 : Nat → Int32), p.length + k = 5 + 5 * lab → okL (mxS cap lab ack cop) p → k < d → MA M A79 A80 → (M ++ (enumL (mxS cap lab ack cop) k p).map (mOf lab)).Nodup →
    (M.length + (enumL (mxS cap lab ack cop) k p).length ≤ 6000 → ∃ (B79 : Nat → Int64) (B80 : Nat → Int32), fX12_laysAll F d (Int32.ofNat cap) r.1 r.2.1 r.2.2.1 r.2.2.2 (Int32.ofNat M.length) A79 A80 (mOf lab p) (Int32.ofNat p.length) = some (1, Int32.ofNat (M ++ (enumL (mxS cap lab ack cop) k p).map (mOf lab)).length, B79, B80) ∧ MA (M ++ (enumL (mxS cap lab ack cop) k p).map (mOf lab)) B79 B80) ∧
    (6000 < M.length + (enumL (mxS cap lab ack cop) k p).length → ∃ x : LX, fX12_laysAll F d (Int32.ofNat cap) r.1 r.2.1 r.2.2.1 r.2.2.2 (Int32.ofNat M.length) A79 A80 (mOf lab p) (Int32.ofNat p.length) = some (0, x)) := by
  obtain ⟨⟨c1, c2⟩, ⟨b1, b2⟩, _, _⟩ := id hs
  intro k
  induction k with
  | zero =>
    intro p d M A79 A80 hp hok hd hMA hnd
    obtain ⟨G, rfl⟩ : ∃ G, d = G + 1 := ⟨d - 1, by omega⟩
    have hM6 : M.length ≤ 6000 := by obtain ⟨_, _, _, _, _, h⟩ := hMA; exact h
    have e1 : (enumL (mxS cap lab ack cop) 0 p).map (mOf lab) = [mOf lab p] := rfl
    have e2 : (enumL (mxS cap lab ack cop) 0 p).length = 1 := rfl
    rw [e1] at hnd
    rw [e1, e2]
    have h0 : fX12_laysAll F (G + 1) (Int32.ofNat cap) r.1 r.2.1 r.2.2.1 r.2.2.2 (Int32.ofNat M.length) A79 A80 (mOf lab p) (Int32.ofNat p.length) = (if Int32.ofNat M.length = 6000 then some (0, Int32.ofNat M.length, A79, A80) else ((fX12_comes F (Int32.ofNat M.length) A79 A80 (mOf lab p)).bind (fun r26 => some (1, r26.1, r26.2.1, r26.2.2)))) := by
      show fX12_laysAll_B (fX12_laysAll F G) F _ _ _ _ _ _ _ _ _ _ = _
      unfold fX12_laysAll_B
      rw [if_pos (by rw [hr.1]; congr 1)]
    rw [h0]
    constructor
    · intro hl
      rw [if_neg (fun z => by have := (i32_eq (a := M.length) (b := 6000) (by omega) (by decide)).mp z; omega)]
      rcases mFind hMA (mOf lab p) hF with ⟨t, f1, _⟩ | ⟨f1, f2, B79, B80, f3, f4⟩
      · exact absurd f1 (not_at hnd t)
      · rw [f3]
        exact ⟨B79, B80, by rw [List.length_append]; rfl, f4 (by omega)⟩
    · intro hl
      rw [if_pos (by rw [show M.length = 6000 by omega]; rfl)]
      exact ⟨_, rfl⟩
  | succ k ih =>
    intro p d M A79 A80 hp hok hd hMA hnd
    obtain ⟨G, rfl⟩ : ∃ G, d = G + 1 := ⟨d - 1, by omega⟩
    obtain ⟨t1, t2, t3⟩ := hr.2 p.length (by omega)
    have hml := mx_lim hs p (by omega)
    have hll : dLim cap lab ack cop p.length < 100 := by
      have := hs
      unfold dLim
      obtain ⟨_, _, ⟨_, _⟩, ⟨_, _⟩⟩ := hs
      repeat' split
      all_goals omega
    have h0 : fX12_laysAll F (G + 1) (Int32.ofNat cap) r.1 r.2.1 r.2.2.1 r.2.2.2 (Int32.ofNat M.length) A79 A80 (mOf lab p) (Int32.ofNat p.length) = (gloop (fun u2 : (Int32 × LX) => fX12_laysAll_S30 (fX12_laysAll F G) F (Int32.ofNat cap) r.1 r.2.1 r.2.2.1 r.2.2.2 (mOf lab p) (Int32.ofNat p.length) u2.1 u2.2.1 u2.2.2.1 u2.2.2.2) F (Int32.ofNat 0, Int32.ofNat M.length, A79, A80)).bind finA := by
      show fX12_laysAll_B (fX12_laysAll F G) F _ _ _ _ _ _ _ _ _ _ = _
      unfold fX12_laysAll_B
      rw [if_neg (by rw [hr.1]; intro z; have := (i32_eq (a := p.length) (b := 5 + 5 * lab) (by omega) (by omega)).mp z; omega)]
      congr 1
    rw [h0]
    have inner : ∀ (n v : Nat) (F' : Nat) (M : List Int64) (A79 : Nat → Int64) (A80 : Nat → Int32), v + n = mxS cap lab ack cop p + 1 → n < F' → MA M A79 A80 → (M ++ (enumB (enumL (mxS cap lab ack cop) k) p v n).map (mOf lab)).Nodup →
      (M.length + (enumB (enumL (mxS cap lab ack cop) k) p v n).length ≤ 6000 → ∃ (B79 : Nat → Int64) (B80 : Nat → Int32), (gloop (fun u2 : (Int32 × LX) => fX12_laysAll_S30 (fX12_laysAll F G) F (Int32.ofNat cap) r.1 r.2.1 r.2.2.1 r.2.2.2 (mOf lab p) (Int32.ofNat p.length) u2.1 u2.2.1 u2.2.2.1 u2.2.2.2) F' (Int32.ofNat v, Int32.ofNat M.length, A79, A80)).bind finA = some (1, Int32.ofNat (M ++ (enumB (enumL (mxS cap lab ack cop) k) p v n).map (mOf lab)).length, B79, B80) ∧ MA (M ++ (enumB (enumL (mxS cap lab ack cop) k) p v n).map (mOf lab)) B79 B80) ∧
      (6000 < M.length + (enumB (enumL (mxS cap lab ack cop) k) p v n).length → ∃ x : LX, (gloop (fun u2 : (Int32 × LX) => fX12_laysAll_S30 (fX12_laysAll F G) F (Int32.ofNat cap) r.1 r.2.1 r.2.2.1 r.2.2.2 (mOf lab p) (Int32.ofNat p.length) u2.1 u2.2.1 u2.2.2.1 u2.2.2.2) F' (Int32.ofNat v, Int32.ofNat M.length, A79, A80)).bind finA = some (0, x)) := by
      intro n
      induction n with
      | zero =>
        intro v F' M A79 A80 hv hF' hMA _
        have hM6 : M.length ≤ 6000 := by obtain ⟨_, _, _, _, _, h⟩ := hMA; exact h
        obtain ⟨F1, rfl⟩ : ∃ F1, F' = F1 + 1 := ⟨F' - 1, by omega⟩
        have e0 : enumB (enumL (mxS cap lab ack cop) k) p v 0 = [] := rfl
        rw [e0]
        constructor
        · intro _
          have hst : ∃ o, fX12_laysAll_S30 (fX12_laysAll F G) F (Int32.ofNat cap) r.1 r.2.1 r.2.2.1 r.2.2.2 (mOf lab p) (Int32.ofNat p.length) (Int32.ofNat v) (Int32.ofNat M.length) A79 A80 = some (.inl o) ∧ finA o = some (1, Int32.ofNat M.length, A79, A80) := by
            unfold fX12_laysAll_S30
            rw [if_pos (inb_t (by omega) (by omega)), tnc (by omega), t1, t2, t3]
            by_cases hlt : v < dLim cap lab ack cop p.length
            · have hn := test_iff hs (by omega) hok hlt
              have hf : fitL (v :: p) := ⟨dLim_fit hs hlt, ok_fit hs p (by omega) hok⟩
              have hsx := of_sx b2 (v :: p) (by rw [List.length_cons]; omega) hf
              have hb1 := pkSum_le (cOf lab (v :: p))
              have hb2 := ltSum_le (cOf lab (v :: p))
              have q1 := packetsOf_sum hsx (F := F) (by omega)
              have q2 := lettersOf_sum hsx (F := F) (by omega)
              rw [show mOf lab (v :: p) = fX12_put (mOf lab p) (Int32.ofNat (dPos lab p.length)) (Int32.ofNat (dWid p.length)) (Int32.ofNat v) from rfl] at q1 q2
              rw [if_neg (fun z => by have := (i32_le (by omega) (by omega)).mp z; omega), if_pos (inb_t (by omega) (by omega)), if_pos (inb_t (by omega) (by omega)), q1]
              simp only [Option.bind_some]
              by_cases hpk : cap < pkSum (cOf lab (v :: p))
              · rw [if_pos ((i32_lt (by omega) (by omega)).mpr hpk)]
                exact ⟨_, rfl, rfl⟩
              · rw [if_neg (fun z => by have := (i32_lt (by omega) (by omega)).mp z; omega), q2]
                simp only [Option.bind_some]
                rw [if_neg (fun z => by
                  have := (i32_le (by omega) (by omega)).mp z
                  have := hn.mp ⟨by omega, this⟩
                  omega)]
                exact ⟨_, rfl, rfl⟩
            · rw [if_pos ((i32_le (by omega) (by omega)).mpr (by omega))]
              exact ⟨_, rfl, rfl⟩
          refine ⟨A79, A80, ?_, by rw [List.map_nil, List.append_nil]; exact hMA⟩
          rw [List.map_nil, List.append_nil]
          obtain ⟨o, ho1, ho2⟩ := hst
          simp only [gloop, ho1]
          exact ho2
        · intro h
          exact absurd h (by show ¬ 6000 < M.length + 0; omega)
      | succ n ihn =>
        intro v F' M A79 A80 hv hF' hMA hnd
        obtain ⟨F1, rfl⟩ : ∃ F1, F' = F1 + 1 := ⟨F' - 1, by omega⟩
        have hM6 : M.length ≤ 6000 := by obtain ⟨_, _, _, _, _, h⟩ := hMA; exact h
        have e1 : enumB (enumL (mxS cap lab ack cop) k) p v (n + 1) = enumL (mxS cap lab ack cop) k (v :: p) ++ enumB (enumL (mxS cap lab ack cop) k) p (v + 1) n := rfl
        rw [e1, List.map_append] at hnd ⊢
        rw [← List.append_assoc] at hnd ⊢
        have hokv : okL (mxS cap lab ack cop) (v :: p) := ⟨by omega, hok⟩
        have hlt : v < dLim cap lab ack cop p.length := by omega
        obtain ⟨hn1, hn2⟩ := (test_iff hs (by omega) hok hlt).mpr (by omega)
        have hf : fitL (v :: p) := ok_fit hs _ (by rw [List.length_cons]; omega) hokv
        have hsx := of_sx b2 (v :: p) (by rw [List.length_cons]; omega) hf
        have hst : fX12_laysAll_S30 (fX12_laysAll F G) F (Int32.ofNat cap) r.1 r.2.1 r.2.2.1 r.2.2.2 (mOf lab p) (Int32.ofNat p.length) (Int32.ofNat v) (Int32.ofNat M.length) A79 A80 = ((fX12_laysAll F G (Int32.ofNat cap) r.1 r.2.1 r.2.2.1 r.2.2.2 (Int32.ofNat M.length) A79 A80 (mOf lab (v :: p)) (Int32.ofNat (v :: p).length)).bind (fun r12 => (if r12.1 = 0 then some (Sum.inl (Sum.inr (Sum.inl (r12.2.1, r12.2.2.1, r12.2.2.2)))) else some (Sum.inr (Int32.ofNat (v + 1), r12.2.1, r12.2.2.1, r12.2.2.2))))) := by
          unfold fX12_laysAll_S30
          rw [if_pos (inb_t (by omega) (by omega)), tnc (by omega), t1, t2, t3, if_neg (fun z => by have := (i32_le (by omega) (by omega)).mp z; omega), if_pos (inb_t (by omega) (by omega)), if_pos (inb_t (by omega) (by omega))]
          have hb1 := pkSum_le (cOf lab (v :: p))
          have hb2 := ltSum_le (cOf lab (v :: p))
          have q1 := packetsOf_sum hsx (F := F) (by omega)
          have q2 := lettersOf_sum hsx (F := F) (by omega)
          rw [show mOf lab (v :: p) = fX12_put (mOf lab p) (Int32.ofNat (dPos lab p.length)) (Int32.ofNat (dWid p.length)) (Int32.ofNat v) from rfl] at q1 q2
          rw [q1]
          simp only [Option.bind_some]
          rw [if_neg (fun z => by have := (i32_lt (by omega) (by omega)).mp z; omega), q2]
          simp only [Option.bind_some]
          rw [if_pos ((i32_le (by omega) (by omega)).mpr hn2), i32_succ, i32_succ]
          rfl
        have hrec := ih (v :: p) G M A79 A80 (by rw [List.length_cons]; omega) hokv (by omega) hMA (nodup_left hnd)
        simp only [gloop, hst]
        rw [List.length_append]
        by_cases hfit : M.length + (enumL (mxS cap lab ack cop) k (v :: p)).length ≤ 6000
        · obtain ⟨B79, B80, g1, g2⟩ := hrec.1 hfit
          have hn := ihn (v + 1) F1 (M ++ (enumL (mxS cap lab ack cop) k (v :: p)).map (mOf lab)) B79 B80 (by omega) (by omega) g2 hnd
          rw [g1]
          simp only [Option.bind_some]
          rw [if_neg (by decide)]
          rw [show (M ++ (enumL (mxS cap lab ack cop) k (v :: p)).map (mOf lab)).length = M.length + (enumL (mxS cap lab ack cop) k (v :: p)).length by rw [List.length_append, List.length_map]] at hn
          rw [show Int32.ofNat (M ++ (enumL (mxS cap lab ack cop) k (v :: p)).map (mOf lab)).length = Int32.ofNat (M.length + (enumL (mxS cap lab ack cop) k (v :: p)).length) by rw [List.length_append, List.length_map]]
          exact ⟨fun h => hn.1 (by omega), fun h => hn.2 (by omega)⟩
        · obtain ⟨x, g1⟩ := hrec.2 (by omega)
          rw [g1]
          simp only [Option.bind_some, ↓reduceIte]
          exact ⟨fun h => absurd h (by omega), fun _ => ⟨x, rfl⟩⟩
    exact inner (mxS cap lab ack cop p + 1) 0 F M A79 A80 (by omega) (by omega) hMA hnd
end LAYA
