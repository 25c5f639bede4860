/-! part 9ze: script -/
section SCRC
variable {cap lab ack cop : Nat} {F n : Nat} {b : Nat → Nat} {A : Nat → Int32}
def gtM (F n cap lab ack cop : Nat) (A : Nat → Int32) (X : M21) (i : Int32) : Option M21 := fX12_goesThrough F (Int32.ofNat cap) (Int32.ofNat lab) (Int32.ofNat ack) (Int32.ofNat cop) (Int32.ofNat n) A X.1 X.2.1 X.2.2.1 X.2.2.2.1 X.2.2.2.2.1 X.2.2.2.2.2.1 X.2.2.2.2.2.2.1 X.2.2.2.2.2.2.2.1 X.2.2.2.2.2.2.2.2.1 X.2.2.2.2.2.2.2.2.2.1 X.2.2.2.2.2.2.2.2.2.2.1 X.2.2.2.2.2.2.2.2.2.2.2.1 X.2.2.2.2.2.2.2.2.2.2.2.2.1 X.2.2.2.2.2.2.2.2.2.2.2.2.2.1 X.2.2.2.2.2.2.2.2.2.2.2.2.2.2.1 X.2.2.2.2.2.2.2.2.2.2.2.2.2.2.2.1 X.2.2.2.2.2.2.2.2.2.2.2.2.2.2.2.2.1 X.2.2.2.2.2.2.2.2.2.2.2.2.2.2.2.2.2.1 X.2.2.2.2.2.2.2.2.2.2.2.2.2.2.2.2.2.2.1 X.2.2.2.2.2.2.2.2.2.2.2.2.2.2.2.2.2.2.2.1 X.2.2.2.2.2.2.2.2.2.2.2.2.2.2.2.2.2.2.2.2 i
def zeroD (D : DS) : DS := (D.1, D.2.1, D.2.2.1, D.2.2.2.1, D.2.2.2.2.1, D.2.2.2.2.2.1, D.2.2.2.2.2.2.1, D.2.2.2.2.2.2.2.1, 0, 0, D.2.2.2.2.2.2.2.2.2.2.1, D.2.2.2.2.2.2.2.2.2.2.2.1, D.2.2.2.2.2.2.2.2.2.2.2.2.1, D.2.2.2.2.2.2.2.2.2.2.2.2.2)
theorem gt_go (h : TxA n b A) (hF : 2000 ≤ F) (D : DS) (T : TS5) (f isd : Int32) (i : Bool) : gtM F n cap lab ack cop A (mkM D T f isd) (bI i) = (rcM (fX12_stepsTold F 7) n cap lab ack cop A (mkM (zeroD D) (TSA n b (skA n b 0)) 0 (bI i)) 0).bind (fun X => if X.2.2.2.2.2.2.2.2.2.2.2.2.2.1 = 0 then (if X.2.2.2.2.2.2.2.2.2.2.2.2.2.2.2.2.1 = 0 then (if X.2.2.2.2.2.2.2.2.2.2.1 = 0 then some X else some (X.1, X.2.1, X.2.2.1, X.2.2.2.1, X.2.2.2.2.1, X.2.2.2.2.2.1, X.2.2.2.2.2.2.1, X.2.2.2.2.2.2.2.1, X.2.2.2.2.2.2.2.2.1, X.2.2.2.2.2.2.2.2.2.1, X.2.2.2.2.2.2.2.2.2.2.1, X.2.2.2.2.2.2.2.2.2.2.2.1, X.2.2.2.2.2.2.2.2.2.2.2.2.1, fX12_wrong X.2.2.2.2.2.2.2.2.1 X.2.2.2.2.2.2.2.2.2.2.2.2.2.1 1, X.2.2.2.2.2.2.2.2.2.2.2.2.2.2.1, X.2.2.2.2.2.2.2.2.2.2.2.2.2.2.2.1, X.2.2.2.2.2.2.2.2.2.2.2.2.2.2.2.2.1, X.2.2.2.2.2.2.2.2.2.2.2.2.2.2.2.2.2.1, X.2.2.2.2.2.2.2.2.2.2.2.2.2.2.2.2.2.2.1, X.2.2.2.2.2.2.2.2.2.2.2.2.2.2.2.2.2.2.2.1, X.2.2.2.2.2.2.2.2.2.2.2.2.2.2.2.2.2.2.2.2)) else some X) else some X) := by
  unfold gtM mkM fX12_goesThrough
  dsimp only
  have hn0 : fX12_next F (Int32.ofNat n) 0 A T.1 0 T.2.2.1 T.2.2.2.1 T.2.2.2.2 = some (TSA n b (skA n b 0)) := next_m h (by omega) (Nat.zero_le n) T.1 T.2.2.1 T.2.2.2.1 T.2.2.2.2
  rw [if_pos (bzb_bI i), hn0, Option.bind_some]
  rfl
theorem gt_check (hs : Stt cap lab ack cop) (h : TxA n b A) (hF : 2000 ≤ F) (D : DS) (T : TS5) (f isd : Int32) : flA (psA cap lab ack cop n b (n + 1) (skA n b 0) 0 0) n b < 4000 ∧ ∃ (T' : TS5), gtM F n cap lab ack cop A (mkM D T f isd) (bI false) = some (mkM (zeroD D) T' (Int32.ofNat (flA (psA cap lab ack cop n b (n + 1) (skA n b 0) 0 0) n b)) (bI false)) := by
  have hn := h.1
  have hrec := rec_of (n := n) (b := b) (A := A) (F := F) (by omega) (show n + 1 ≤ F by omega) (ps_told hs h (by omega) (n + 1) (by omega) 6 0 (by decide) (by decide))
  have hs0 := sk_in (b := b) (Nat.zero_le n)
  obtain ⟨X, x1, D1, T1, f1, x2, x3, x4, x5, x6, x7⟩ := hrec.2 false ((0, 0, 0, 0, 0, 0, 0, fun _ => 0), 0, false) (zeroD D) (zeroD D) (skA n b 0) 0 hs0 (by omega) ⟨fun z => absurd z (by decide), fun _ => ⟨rfl, rfl⟩⟩ (fun z => absurd z (by decide))
  obtain ⟨rfl, _⟩ := x3.2 rfl
  subst x2
  rw [gt_go h hF]
  have x1' : rcM (fX12_stepsTold F 7) n cap lab ack cop A (mkM (zeroD D) (TSA n b (skA n b 0)) 0 (bI false)) 0 = _ := x1
  rw [x1', Option.bind_some]
  generalize psA cap lab ack cop n b (n + 1) (skA n b 0) 0 0 = r at x5 x6 x7
  unfold flA
  by_cases r0 : r.1 = 0
  · rw [if_pos r0]
    obtain ⟨y1, y2, y3⟩ := x7 r0 (fun z => absurd z (by decide))
    subst y1 y3
    rw [if_pos (show (mkM (zeroD D) (TSA n b r.2.1) 0 (bI false)).2.2.2.2.2.2.2.2.2.2.2.2.2.1 = 0 from rfl), if_pos (show (mkM (zeroD D) (TSA n b r.2.1) 0 (bI false)).2.2.2.2.2.2.2.2.2.2.2.2.2.2.2.2.1 = 0 from rfl)]
    by_cases hc : chA n b r.2.1 = 256
    · rw [if_pos hc, if_pos (show (mkM (zeroD D) (TSA n b r.2.1) 0 (bI false)).2.2.2.2.2.2.2.2.2.2.1 = 0 from (ts_end n b r.2.1).mpr hc)]
      exact ⟨by decide, _, rfl⟩
    · rw [if_neg hc, if_neg (show ¬ (mkM (zeroD D) (TSA n b r.2.1) 0 (bI false)).2.2.2.2.2.2.2.2.2.2.1 = 0 from fun z => hc ((ts_end n b r.2.1).mp z))]
      have hw : fX12_wrong (mkM (zeroD D) (TSA n b r.2.1) 0 (bI false)).2.2.2.2.2.2.2.2.1 (mkM (zeroD D) (TSA n b r.2.1) 0 (bI false)).2.2.2.2.2.2.2.2.2.2.2.2.2.1 1 = Int32.ofNat (8 * r.2.1 + 1) := by
        show fX12_wrong (TSA n b r.2.1).1 0 1 = _
        rw [ts_place]
        exact wrong_eq (p := r.2.1) (k := 1)
      rw [hw]
      exact ⟨by omega, _, rfl⟩
  · rw [if_neg r0]
    have hf1 := x6 r0
    subst hf1
    rw [if_neg (show ¬ (mkM (zeroD D) T1 (Int32.ofNat r.1) (bI false)).2.2.2.2.2.2.2.2.2.2.2.2.2.1 = 0 from fun z => r0 ((i32_eq (b := 0) (by omega) (by decide)).mp z))]
    exact ⟨x5, _, rfl⟩
theorem gt_do (hs : Stt cap lab ack cop) (h : TxA n b A) (hF : 2000 ≤ F) {t : CTA} {D : DS} (hR : DR cap (t, 0, false) (zeroD D)) (h0 : flA (psA cap lab ack cop n b (n + 1) (skA n b 0) 0 0) n b = 0) (T : TS5) (f isd : Int32) : ∃ (D' : DS) (T' : TS5) (f' : Int32), gtM F n cap lab ack cop A (mkM D T f isd) (bI true) = some (mkM D' T' f' (bI true)) ∧ DR cap ((psA cap lab ack cop n b (n + 1) (skA n b 0) 0 0).2.2.1 (t, 0, false)) D' := by
  have hn := h.1
  have hrec := rec_of (n := n) (b := b) (A := A) (F := F) (by omega) (show n + 1 ≤ F by omega) (ps_told hs h (by omega) (n + 1) (by omega) 6 0 (by decide) (by decide))
  have hs0 := sk_in (b := b) (Nat.zero_le n)
  have hr0 : (psA cap lab ack cop n b (n + 1) (skA n b 0) 0 0).1 = 0 := by
    unfold flA at h0
    by_cases z : (psA cap lab ack cop n b (n + 1) (skA n b 0) 0 0).1 = 0
    · exact z
    · rw [if_neg z] at h0; exact absurd h0 z
  obtain ⟨X, x1, D1, T1, f1, x2, x3, x4, x5, x6, x7⟩ := hrec.2 true (t, 0, false) (zeroD D) (zeroD D) (skA n b 0) 0 hs0 (by omega) ⟨fun _ => hR, fun z => absurd z (by decide)⟩ (fun _ => ⟨hr0, rfl⟩)
  have hD := x3.1 rfl
  subst x2
  rw [gt_go h hF]
  have x1' : rcM (fX12_stepsTold F 7) n cap lab ack cop A (mkM (zeroD D) (TSA n b (skA n b 0)) 0 (bI true)) 0 = _ := x1
  rw [x1', Option.bind_some]
  by_cases a1 : (mkM D1 T1 f1 (bI true)).2.2.2.2.2.2.2.2.2.2.2.2.2.1 = 0
  · rw [if_pos a1]
    by_cases a2 : (mkM D1 T1 f1 (bI true)).2.2.2.2.2.2.2.2.2.2.2.2.2.2.2.2.1 = 0
    · rw [if_pos a2]
      by_cases a3 : (mkM D1 T1 f1 (bI true)).2.2.2.2.2.2.2.2.2.2.1 = 0
      · rw [if_pos a3]; exact ⟨D1, T1, f1, rfl, hD⟩
      · rw [if_neg a3]; exact ⟨D1, T1, _, rfl, hD⟩
    · rw [if_neg a2]; exact ⟨D1, T1, f1, rfl, hD⟩
  · rw [if_neg a1]; exact ⟨D1, T1, f1, rfl, hD⟩
theorem tx_a {A B : Nat → Int32} (hT : Tn n A B) (hn : n ≤ 240) : TxA n (fun i => (A i).toNatClampNeg) A ∧ TxA n (fun i => (A i).toNatClampNeg) B := by
  have key : ∀ k, k < n → (A k).toNatClampNeg < 256 ∧ A k = Int32.ofNat (A k).toNatClampNeg := by
    intro k hk
    obtain ⟨_, v, hv, e⟩ := hT k hk
    rw [e, tnc (by omega)]
    exact ⟨hv, rfl⟩
  exact ⟨⟨hn, key⟩, hn, fun k hk => ⟨(key k hk).1, (hT k hk).1.symm.trans (key k hk).2⟩⟩
theorem fl_le {f : Nat} (hf : f < 4000) : (Int32.ofNat f ≤ 0) ↔ f = 0 := by
  constructor
  · intro z; have := (i32_le (b := 0) (by omega) (by decide)).mp z; omega
  · intro z; exact (i32_le (b := 0) (by omega) (by decide)).mpr (by omega)
/-- script: both sides alike -/
theorem script_call (hs : Stt cap lab ack cop) {c : Int64} {qb qs s2 : Int32} {b2 : Int64} {s5 : Int32} {b5 : Int64} {A1 : Nat → Int32} {m : Int64} {mq mf md : Int32} {A70 A71 A72 A73 : Nat → Int32} (hD : DX cap c qb qs s2 b2 s5 b5 A1 m mq mf md A70 A71 A72 A73) {tl ml : Int32} {A26 A75 : Nat → Int32} (hT : Tx tl A26 ml A75) (hF : 700000 ≤ F) (x6 x7 x8 t2 t3 t4 : Int32) (A13 A15 A17 A19 A21 A23 : Nat → Int32) (x18 : Int32) (x19 : Int64) (x20 x21 x22 x57 x58 x59 x60 : Int32) (x61 : Int64) (x62 x63 x64 x65 x66 : Int32) : ∃ (out : Int32) (c' : Int64) (qb' qs' s2' : Int32) (b2' : Int64) (s5' : Int32) (b5' : Int64) (y6 y7 y8 z2 z3 z4 : Int32) (A1' B13 B15 B17 B19 B21 B23 : Nat → Int32) (m' : Int64) (mq' mf' md' : Int32) (w19 : Int64) (w20 w21 w22 w57 w58 w59 w60 : Int32) (w61 : Int64) (w62 w63 w64 w65 w66 : Int32) (A70' A71' A72' A73' : Nat → Int32),
    fX11_script F (Int32.ofNat cap) (Int32.ofNat lab) (Int32.ofNat ack) (Int32.ofNat cop) A26 c qb qs s2 b2 s5 b5 x6 x7 x8 tl t2 t3 t4 A1 A13 A15 A17 A19 A21 A23 = some (out, c', qb', qs', s2', b2', s5', b5', y6, y7, y8, 0, z2, z3, z4, A1', B13, B15, B17, B19, B21, B23) ∧
    fX12_script F (Int32.ofNat cap) (Int32.ofNat lab) (Int32.ofNat ack) (Int32.ofNat cop) A75 m mq mf md ml x18 x19 x20 x21 x22 x57 x58 x59 x60 x61 x62 x63 x64 x65 x66 A70 A71 A72 A73 = some (out, m', mq', mf', md', 0, 0, w19, w20, w21, w22, w57, w58, w59, w60, w61, w62, w63, w64, w65, w66, A70', A71', A72', A73') ∧
    DX cap c' qb' qs' s2' b2' s5' b5' A1' m' mq' mf' md' A70' A71' A72' A73' := by
  obtain ⟨n, hn, rfl, rfl, hTn⟩ := hT
  unfold fX11_script fX12_script
  by_cases h240 : n ≤ 240
  · have hle : Int32.ofNat n ≤ 240 := (i32_le (b := 240) (by omega) (by decide)).mpr h240
    rw [if_pos hle, if_pos hle]
    obtain ⟨hA, hB⟩ := tx_a hTn h240
    generalize (fun i => (A26 i).toNatClampNeg) = b at hA hB
    obtain ⟨r1, sz, dp, at', fl, B13, B15, B17, B19, r2, r3⟩ := read_eq (lab := lab) hs.2.1 hA (F := F) (by omega) x6 x7 t2 t3 t4 A13 A15 A17 A19 cap ack cop
    have hc := (gt_check hs hB (F := F) (by omega) (m, mq, mf, md, x19, x20, x21, x22, 0, 0, A70, A71, A72, A73) (x58, x59, x60, x61, x62) x63 x64).2
    obtain ⟨T1, g1⟩ := hc
    have g1' : fX12_goesThrough F (Int32.ofNat cap) (Int32.ofNat lab) (Int32.ofNat ack) (Int32.ofNat cop) (Int32.ofNat n) A75 m mq mf md x19 x20 x21 x22 x58 x59 x60 x61 x62 x63 x64 x65 x66 A70 A71 A72 A73 0 = some (mkM (m, mq, mf, md, x19, x20, x21, x22, 0, 0, A70, A71, A72, A73) T1 (Int32.ofNat (flA (psA cap lab ack cop n b (n + 1) (skA n b 0) 0 0) n b)) (bI false)) := by
      have e : fX12_goesThrough F (Int32.ofNat cap) (Int32.ofNat lab) (Int32.ofNat ack) (Int32.ofNat cop) (Int32.ofNat n) A75 m mq mf md x19 x20 x21 x22 x58 x59 x60 x61 x62 x63 x64 x65 x66 A70 A71 A72 A73 0 = gtM F n cap lab ack cop A75 (mkM (m, mq, mf, md, x19, x20, x21, x22, x65, x66, A70, A71, A72, A73) (x58, x59, x60, x61, x62) x63 x64) (bI false) := rfl
      rw [e]
      have e2 := (gt_check hs hB (F := F) (by omega) (m, mq, mf, md, x19, x20, x21, x22, x65, x66, A70, A71, A72, A73) (x58, x59, x60, x61, x62) x63 x64).2
      rw [gt_go hB (by omega)] at g1 ⊢
      exact g1
    rw [r2, Option.bind_some, g1', Option.bind_some]
    generalize hps : psA cap lab ack cop n b (n + 1) (skA n b 0) 0 0 = r at r1 r2 r3 g1'
    by_cases hf0 : flA r n b = 0
    · obtain ⟨s1, s2', s3⟩ := r3 hf0
      subst s1
      have hr0 : r.1 = 0 := by
        unfold flA at hf0
        by_cases z : r.1 = 0
        · exact z
        · rw [if_neg z] at hf0; exact absurd hf0 z
      have hR : DR cap ((c, qb, qs, s2, b2, s5, b5, A1), 0, false) (zeroD (m, mq, mf, md, x19, x20, x21, x22, 0, 0, A70, A71, A72, A73)) := ⟨hD, rfl, by show 0 ≤ 600; decide, rfl⟩
      obtain ⟨D2, T2, f2, k1, k2⟩ := gt_do hs hB (F := F) (by omega) hR (by rw [hps]; exact hf0) T1 (Int32.ofNat (flA r n b)) (bI false)
      rw [hps] at k2
      have hwf : WfC r.2.2.2 0 := by
        have := wf_ps (cap := cap) (lab := lab) (ack := ack) (cop := cop) (n := n) (b := b) hs.2.1.2 (n + 1) (skA n b 0) 0 0 (by rw [hps]; exact hr0)
        rw [hps] at this
        exact this
      have hdoes : Does cap lab ack cop r.2.2.2 0 r.2.2.2.length 0 r.2.2.1 := by
        have := does_ps (cap := cap) (lab := lab) (ack := ack) (cop := cop) (n := n) (b := b) (P := r.2.2.2) hs.2.1.2 (n + 1) (skA n b 0) 0 0 (by decide) (by rw [hps]; exact hr0) (by
          rw [hps]
          intro j x hx
          rw [Nat.zero_add]
          exact hx)
        rw [hps, Nat.zero_add] at this
        exact this
      have hok : EfOk r.2.2.1 := by
        have := ef_ps (cap := cap) (lab := lab) (ack := ack) (cop := cop) (n := n) (b := b) (n + 1) (skA n b 0) 0 0
        rw [hps] at this
        exact this
      obtain ⟨v7, v8, B21, B23, q1, q2⟩ := carry_c hs hF hwf (by omega) s3 hok hdoes (t := (c, qb, qs, s2, b2, s5, b5, A1)) ⟨m, mq, mf, md, A70, A71, A72, A73, hD⟩ dp x8 A21 A23
      have k1' : fX12_goesThrough F (Int32.ofNat cap) (Int32.ofNat lab) (Int32.ofNat ack) (Int32.ofNat cop) (Int32.ofNat n) A75 (mkM (m, mq, mf, md, x19, x20, x21, x22, 0, 0, A70, A71, A72, A73) T1 (Int32.ofNat (flA r n b)) (bI false)).1 (mkM (m, mq, mf, md, x19, x20, x21, x22, 0, 0, A70, A71, A72, A73) T1 (Int32.ofNat (flA r n b)) (bI false)).2.1 (mkM (m, mq, mf, md, x19, x20, x21, x22, 0, 0, A70, A71, A72, A73) T1 (Int32.ofNat (flA r n b)) (bI false)).2.2.1 (mkM (m, mq, mf, md, x19, x20, x21, x22, 0, 0, A70, A71, A72, A73) T1 (Int32.ofNat (flA r n b)) (bI false)).2.2.2.1 (mkM (m, mq, mf, md, x19, x20, x21, x22, 0, 0, A70, A71, A72, A73) T1 (Int32.ofNat (flA r n b)) (bI false)).2.2.2.2.1 (mkM (m, mq, mf, md, x19, x20, x21, x22, 0, 0, A70, A71, A72, A73) T1 (Int32.ofNat (flA r n b)) (bI false)).2.2.2.2.2.1 (mkM (m, mq, mf, md, x19, x20, x21, x22, 0, 0, A70, A71, A72, A73) T1 (Int32.ofNat (flA r n b)) (bI false)).2.2.2.2.2.2.1 (mkM (m, mq, mf, md, x19, x20, x21, x22, 0, 0, A70, A71, A72, A73) T1 (Int32.ofNat (flA r n b)) (bI false)).2.2.2.2.2.2.2.1 (mkM (m, mq, mf, md, x19, x20, x21, x22, 0, 0, A70, A71, A72, A73) T1 (Int32.ofNat (flA r n b)) (bI false)).2.2.2.2.2.2.2.2.1 (mkM (m, mq, mf, md, x19, x20, x21, x22, 0, 0, A70, A71, A72, A73) T1 (Int32.ofNat (flA r n b)) (bI false)).2.2.2.2.2.2.2.2.2.1 (mkM (m, mq, mf, md, x19, x20, x21, x22, 0, 0, A70, A71, A72, A73) T1 (Int32.ofNat (flA r n b)) (bI false)).2.2.2.2.2.2.2.2.2.2.1 (mkM (m, mq, mf, md, x19, x20, x21, x22, 0, 0, A70, A71, A72, A73) T1 (Int32.ofNat (flA r n b)) (bI false)).2.2.2.2.2.2.2.2.2.2.2.1 (mkM (m, mq, mf, md, x19, x20, x21, x22, 0, 0, A70, A71, A72, A73) T1 (Int32.ofNat (flA r n b)) (bI false)).2.2.2.2.2.2.2.2.2.2.2.2.1 (mkM (m, mq, mf, md, x19, x20, x21, x22, 0, 0, A70, A71, A72, A73) T1 (Int32.ofNat (flA r n b)) (bI false)).2.2.2.2.2.2.2.2.2.2.2.2.2.1 (mkM (m, mq, mf, md, x19, x20, x21, x22, 0, 0, A70, A71, A72, A73) T1 (Int32.ofNat (flA r n b)) (bI false)).2.2.2.2.2.2.2.2.2.2.2.2.2.2.1 (mkM (m, mq, mf, md, x19, x20, x21, x22, 0, 0, A70, A71, A72, A73) T1 (Int32.ofNat (flA r n b)) (bI false)).2.2.2.2.2.2.2.2.2.2.2.2.2.2.2.1 (mkM (m, mq, mf, md, x19, x20, x21, x22, 0, 0, A70, A71, A72, A73) T1 (Int32.ofNat (flA r n b)) (bI false)).2.2.2.2.2.2.2.2.2.2.2.2.2.2.2.2.1 (mkM (m, mq, mf, md, x19, x20, x21, x22, 0, 0, A70, A71, A72, A73) T1 (Int32.ofNat (flA r n b)) (bI false)).2.2.2.2.2.2.2.2.2.2.2.2.2.2.2.2.2.1 (mkM (m, mq, mf, md, x19, x20, x21, x22, 0, 0, A70, A71, A72, A73) T1 (Int32.ofNat (flA r n b)) (bI false)).2.2.2.2.2.2.2.2.2.2.2.2.2.2.2.2.2.2.1 (mkM (m, mq, mf, md, x19, x20, x21, x22, 0, 0, A70, A71, A72, A73) T1 (Int32.ofNat (flA r n b)) (bI false)).2.2.2.2.2.2.2.2.2.2.2.2.2.2.2.2.2.2.2.1 (mkM (m, mq, mf, md, x19, x20, x21, x22, 0, 0, A70, A71, A72, A73) T1 (Int32.ofNat (flA r n b)) (bI false)).2.2.2.2.2.2.2.2.2.2.2.2.2.2.2.2.2.2.2.2 1 = some (mkM D2 T2 f2 (bI true)) := k1
      dsimp only
      rw [if_pos ((fcI_eq r1).mpr hf0), if_pos (show (mkM (m, mq, mf, md, x19, x20, x21, x22, 0, 0, A70, A71, A72, A73) T1 (Int32.ofNat (flA r n b)) (bI false)).2.2.2.2.2.2.2.2.2.2.2.2.2.1 ≤ 0 from (fl_le r1).mpr hf0), k1', Option.bind_some]
      dsimp only at q1
      rw [q1, Option.bind_some]
      have h65 : (mkM D2 T2 f2 (bI true)).2.2.2.2.2.2.2.2.2.2.2.2.2.2.2.1 = Int32.ofNat (r.2.2.1 ((c, qb, qs, s2, b2, s5, b5, A1), 0, false)).2.1 := k2.2.1
      rw [h65]
      exact ⟨_, _, _, _, _, _, _, _, _, _, _, _, _, _, _, _, _, _, _, _, _, _, _, _, _, _, _, _, _, _, _, _, _, _, _, _, _, _, _, _, _, _, _, rfl, rfl, k2.1⟩
    · dsimp only
      rw [if_neg (fun z => hf0 ((fcI_eq r1).mp z)), if_neg (show ¬ (mkM (m, mq, mf, md, x19, x20, x21, x22, 0, 0, A70, A71, A72, A73) T1 (Int32.ofNat (flA r n b)) (bI false)).2.2.2.2.2.2.2.2.2.2.2.2.2.1 ≤ 0 from fun z => hf0 ((fl_le r1).mp z))]
      have hfc : fcI (flA r n b) = Int32.ofNat (flA r n b) := if_neg hf0
      rw [hfc]
      exact ⟨_, _, _, _, _, _, _, _, _, _, _, _, _, _, _, _, _, _, _, _, _, _, _, _, _, _, _, _, _, _, _, _, _, _, _, _, _, _, _, _, _, _, _, rfl, rfl, hD⟩
  · have hle : ¬ Int32.ofNat n ≤ 240 := fun z => h240 ((i32_le (b := 240) (by omega) (by decide)).mp z)
    rw [if_neg hle, if_neg hle]
    exact ⟨_, _, _, _, _, _, _, _, _, _, _, _, _, _, _, _, _, _, _, _, _, _, _, _, _, _, _, _, _, _, _, _, _, _, _, _, _, _, _, _, _, _, _, rfl, rfl, hD⟩
end SCRC
