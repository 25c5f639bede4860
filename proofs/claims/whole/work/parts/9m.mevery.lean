/-! part 9m: the reference lays every state and its edges -/
section MEVR
variable {F cap lab ack cop : Nat}
theorem mEvAll (hs : Stt cap lab ack cop) (hF : 70000 ≤ F) {K : List Int64} (hG : Gd cap K) (hI : Inj K) (hcl : ∀ c ∈ K, ∀ a ∈ acts5 lab ack c true, (stp cap lab ack cop c a.1 a.2.1 a.2.2).1 ∈ K) (hK1 : 1 ≤ K.length) (x55 : Int32) (A100 A101 A102 : Nat → Int32) : ∀ (n k F' : Nat) (M : List Int64) (E : List Edge) (Fs : List Nat) (x19 : Int64) (x20 x21 : Int32) (A76 A77 A78 : Nat → Int32) (A79 : Nat → Int64) (A80 A81 A82 A83 A84 A85 A86 : Nat → Int32), k + n = 6001 → n < F' → k ≤ K.length → KM K M → MA M A79 A80 → ME E A82 A83 A84 A85 A86 → (1 ≤ k → CF Fs A81) → Fs.length = k + 1 → Fs[k]? = some E.length → E.length ≤ 10 * k →
    ∃ (M' : List Int64) (E' : List Edge) (Fs' : List Nat) (y19 : Int64) (y20 y21 : Int32) (A76' A77' A78' : Nat → Int32) (A79' : Nat → Int64) (A80' A81' A82' A83' A84' A85' A86' : Nat → Int32), expAll cap lab ack cop n k K E Fs = some (K, E', Fs') ∧ gloop (fun u6 : (Int32 × RT) => fX12_laysEvery_S29 F (Int32.ofNat cap) (Int32.ofNat lab) (Int32.ofNat ack) (Int32.ofNat cop) (Int32.ofNat ack) x55 A100 A101 A102 u6.1 u6.2.1 u6.2.2.1 u6.2.2.2.1 u6.2.2.2.2.1 u6.2.2.2.2.2.1 u6.2.2.2.2.2.2.1 u6.2.2.2.2.2.2.2.1 u6.2.2.2.2.2.2.2.2.1 u6.2.2.2.2.2.2.2.2.2.1 u6.2.2.2.2.2.2.2.2.2.2.1 u6.2.2.2.2.2.2.2.2.2.2.2.1 u6.2.2.2.2.2.2.2.2.2.2.2.2.1 u6.2.2.2.2.2.2.2.2.2.2.2.2.2.1 u6.2.2.2.2.2.2.2.2.2.2.2.2.2.2.1 u6.2.2.2.2.2.2.2.2.2.2.2.2.2.2.2.1 u6.2.2.2.2.2.2.2.2.2.2.2.2.2.2.2.2) F' (Int32.ofNat k, x19, x20, x21, Int32.ofNat M.length, Int32.ofNat E.length, A76, A77, A78, A79, A80, A81, A82, A83, A84, A85, A86) = some (y19, y20, y21, Int32.ofNat M'.length, Int32.ofNat E'.length, A76', A77', A78', A79', A80', A81', A82', A83', A84', A85', A86') ∧ KM K M' ∧ MA M' A79' A80' ∧ ME E' A82' A83' A84' A85' A86' ∧ CF Fs' A81' := by
  obtain ⟨⟨c1, c2⟩, ⟨b1, b2⟩, ⟨d1, d2⟩, ⟨e1, e2⟩⟩ := id hs
  intro n
  induction n with
  | zero =>
    intro k F' M E Fs x19 x20 x21 A76 A77 A78 A79 A80 A81 A82 A83 A84 A85 A86 hkn _ hkK hKM hMA
    have hM6 : M.length ≤ 6000 := by obtain ⟨_, _, _, _, _, h⟩ := hMA; exact h
    have := hKM.1
    omega
  | succ n ih =>
    intro k F' M E Fs x19 x20 x21 A76 A77 A78 A79 A80 A81 A82 A83 A84 A85 A86 hkn hF' hkK hKM hMA hME hCF hFs hFl hE
    obtain ⟨G, rfl⟩ : ∃ G, F' = G + 1 := ⟨F' - 1, by omega⟩
    have hM6 : M.length ≤ 6000 := by obtain ⟨_, _, _, _, _, h⟩ := hMA; exact h
    have hlenKM := hKM.1
    by_cases hke : k < K.length
    · have hk : K[k]? = some K[k] := List.getElem?_eq_getElem hke
      generalize K[k] = c at hk
      have hc := hG k c hk
      obtain ⟨Ec, hEc⟩ := expActs_closed hI (acts5 lab ack c true) E (hcl c (List.mem_of_getElem? hk))
      simp only [gloop, expAll, hk]
      unfold fX12_laysEvery_S29
      rw [if_neg (fun z => by have := (i32_le (by omega) (by omega)).mp z; omega)]
      rcases mEdgesOf c2 (by omega) b2 d2 e2 (F := F) (by omega) hk hc.1 hKM hMA hME hCF hFs hFl hE x19 x20 x21 A76 A77 A78 with ⟨K', M', E', y19, y20, y21, A76', A77', A78', A79', A80', A81', A82', A83', A84', A85', A86', q1, q2, q3, q4, q5, q6⟩ | ⟨q1, r, q2⟩
      · have hf := expActs_facts c2 b2 d2 e2 hc _ _ _ _ _ (acts5_ok lab ack c true) hI (by omega) hG q1
        have hlen := acts_len (ack := ack) (d := true) c2 b2 hc.1
        rw [hEc] at q1
        obtain ⟨rfl, rfl⟩ := Prod.mk.inj (Option.some.inj q1)
        rw [hEc, q2]
        simp only [Option.bind_some]
        rw [i32_succ]
        have h5 := hf.2.2.2.2.1
        refine ih (k + 1) G M' Ec (Fs ++ [Ec.length]) _ _ _ _ _ _ A79' A80' A81' A82' A83' A84' A85' A86' (by omega) (by omega) (by omega) q3 q4 q5 (fun _ => q6) (by rw [List.length_append, List.length_singleton, hFs]) ?_ (by omega)
        rw [← hFs]; exact snoc_edge Fs _
      · rw [hEc] at q1
        exact absurd q1 (by simp)
    · have hk : K[k]? = none := List.getElem?_eq_none (by omega)
      refine ⟨M, E, Fs, x19, x20, x21, A76, A77, A78, A79, A80, A81, A82, A83, A84, A85, A86, by simp only [expAll, hk], ?_, hKM, hMA, hME, hCF (by omega)⟩
      simp only [gloop]
      unfold fX12_laysEvery_S29
      rw [if_pos ((i32_le (by omega) (by omega)).mpr (by omega))]
theorem all_km (hs : Stt cap lab ack cop) : KM (allK cap lab ack cop) ((allL cap lab ack cop).map (mOf lab)) := by
  refine ⟨by unfold allK; rw [List.length_map, List.length_map], fun i c m hc hm => ?_⟩
  unfold allK at hc
  rw [List.getElem?_map] at hc hm
  cases hz : (allL cap lab ack cop)[i]? with
  | none => rw [hz] at hc; exact absurd hc (by simp)
  | some z =>
    rw [hz] at hc hm
    obtain rfl := Option.some.inj hc
    obtain rfl := Option.some.inj hm
    obtain ⟨z1, z2⟩ := mem_all.mp (List.mem_of_getElem? hz)
    exact of_sx hs.2.1.2 z (by omega) (ok_fit hs z (by omega) z1)
theorem all_minj (hs : Stt cap lab ack cop) : ((allL cap lab ack cop).map (mOf lab)).Nodup := by
  have hn : (allL cap lab ack cop).Nodup := enumL_nodup _ _ [] trivial
  have hm : ∀ z ∈ allL cap lab ack cop, okL (mxS cap lab ack cop) z ∧ z.length = 5 + 5 * lab := fun z hz => mem_all.mp hz
  generalize allL cap lab ack cop = L at hn hm
  induction L with
  | nil => exact List.nodup_nil
  | cons z L ih =>
    obtain ⟨n1, n2⟩ := List.nodup_cons.mp hn
    obtain ⟨o1, o2⟩ := hm z List.mem_cons_self
    refine List.nodup_cons.mpr ⟨fun hc => ?_, ih n2 (fun y hy => hm y (List.mem_cons_of_mem _ hy))⟩
    obtain ⟨y, hy, e⟩ := List.mem_map.mp hc
    obtain ⟨p1, p2⟩ := hm y (List.mem_cons_of_mem _ hy)
    have s1 := of_sx hs.2.1.2 y (by omega) (ok_fit hs y (by omega) p1)
    have s2 := of_sx hs.2.1.2 z (by omega) (ok_fit hs z (by omega) o1)
    rw [e] at s1
    have := cOf_inj hs.2.1.2 p2 o2 (ok_fit hs y (by omega) p1) (ok_fit hs z (by omega) o1) (s1.inj s2)
    rw [this] at hy
    exact n1 hy
theorem laysEvery_eq (hs : Stt cap lab ack cop) (hF : 70000 ≤ F) (x19 : Int64) (x20 x21 x22 x27 x35 x55 : Int32) (A76 A77 A78 : Nat → Int32) (A79 : Nat → Int64) (A80 A81 A82 A83 A84 A85 A86 A100 A101 A102 : Nat → Int32) :
    (allN cap lab ack cop ≤ 6000 → ∃ (M' : List Int64) (E' : List Edge) (Fs' : List Nat) (y19 : Int64) (y20 y21 y55 : Int32) (A76' A77' A78' : Nat → Int32) (A79' : Nat → Int64) (A80' A81' A82' A83' A84' A85' A86' A100' A101' A102' : Nat → Int32), expAll cap lab ack cop 6001 0 (allK cap lab ack cop) [] [0] = some (allK cap lab ack cop, E', Fs') ∧ fX12_laysEvery F (Int32.ofNat cap) (Int32.ofNat lab) (Int32.ofNat ack) (Int32.ofNat cop) x19 x20 x21 x22 x27 x35 x55 A76 A77 A78 A79 A80 A81 A82 A83 A84 A85 A86 A100 A101 A102 = some (1, y19, y20, y21, Int32.ofNat ack, Int32.ofNat M'.length, Int32.ofNat E'.length, y55, A76', A77', A78', A79', A80', A81', A82', A83', A84', A85', A86', A100', A101', A102') ∧ KM (allK cap lab ack cop) M' ∧ MA M' A79' A80' ∧ ME E' A82' A83' A84' A85' A86' ∧ CF Fs' A81') ∧
    (6000 < allN cap lab ack cop → ∃ r, fX12_laysEvery F (Int32.ofNat cap) (Int32.ofNat lab) (Int32.ofNat ack) (Int32.ofNat cop) x19 x20 x21 x22 x27 x35 x55 A76 A77 A78 A79 A80 A81 A82 A83 A84 A85 A86 A100 A101 A102 = some (0, r)) := by
  obtain ⟨⟨c1, c2⟩, ⟨b1, b2⟩, ⟨d1, d2⟩, ⟨e1, e2⟩⟩ := id hs
  obtain ⟨B, eB, hB⟩ := begins_eq (F := F) (by omega) x27 x35 A80
  have hM0 : MA [] A79 B := ⟨fun _ => 0, ht_empty _, fun s hs => hB s hs, fun i c h => by simp at h, fun i j c h => by simp at h, by decide⟩
  obtain ⟨r3, er3, hr3⟩ := digits_eq hs (F := F) (by omega) x55 A100 A101 A102
  have hlen := all_len_eq hs
  obtain ⟨l1, l2⟩ := laysAll_eq hs (F := F) (by omega) hr3 (5 + 5 * lab) [] 26 [] A79 B (by show 0 + _ = _; omega) trivial (by omega) hM0 (all_minj hs)
  have hlen' : ([] : List Int64).length + (enumL (mxS cap lab ack cop) (5 + 5 * lab) []).length = allN cap lab ack cop := by rw [enum_all hs]; exact Nat.zero_add _
  rw [hlen'] at l1 l2
  unfold fX12_laysEvery
  rw [eB, Option.bind_some, er3, Option.bind_some]
  constructor
  · intro hN
    obtain ⟨B79, B80, g1, g2⟩ := l1 hN
    have g1' : fX12_laysAll F 26 (Int32.ofNat cap) r3.1 r3.2.1 r3.2.2.1 r3.2.2.2 0 A79 B 0 0 = some (1, Int32.ofNat ((allL cap lab ack cop).map (mOf lab)).length, B79, B80) := g1
    have g2' : MA ((allL cap lab ack cop).map (mOf lab)) B79 B80 := g2
    have hK1 : 1 ≤ (allK cap lab ack cop).length := by rw [allK_len hs]; exact allN_pos hs
    dsimp only
    rw [g1', Option.bind_some, if_neg (show ¬ (1 : Int32) = 0 by decide)]
    obtain ⟨M', E', Fs', y19, y20, y21, A76', A77', A78', A79', A80', A81', A82', A83', A84', A85', A86', k1, k2, k3, k4, k5, k6⟩ := mEvAll hs hF (fun i x hx => all_good hs (List.mem_of_getElem? hx)) (inj_of_nodup (all_inj hs)) (fun c hc a ha => by
      obtain ⟨h1, h2⟩ := (leg_mem hs).mp hc
      obtain ⟨t1, t2⟩ := acts5_ok lab ack c true a ha
      exact (leg_mem hs).mpr ⟨leg_stp hs h1 h2 t1 t2, stp_lg c2 b2 d2 e2 h2 t1 t2⟩) hK1 r3.1 r3.2.1 r3.2.2.1 r3.2.2.2 6001 0 F _ [] [0] x19 x20 x21 A76 A77 A78 B79 B80 A81 A82 A83 A84 A85 A86 (by decide) (by omega) (Nat.zero_le _) (all_km hs) g2' (fun i x hx => by simp at hx) (fun z => absurd z (by decide)) rfl rfl (by decide)
    rw [show Int32.ofNat ([] : List Edge).length = 0 from rfl, show Int32.ofNat 0 = 0 from rfl] at k2
    rw [k2, Option.bind_some]
    exact ⟨M', E', Fs', y19, y20, y21, _, A76', A77', A78', A79', A80', A81', A82', A83', A84', A85', A86', _, _, _, k1, rfl, k3, k4, k5, k6⟩
  · intro hN
    obtain ⟨x, g1⟩ := l2 hN
    have g1' : fX12_laysAll F 26 (Int32.ofNat cap) r3.1 r3.2.1 r3.2.2.1 r3.2.2.2 0 A79 B 0 0 = some (0, x) := g1
    dsimp only
    rw [g1', Option.bind_some, if_pos rfl]
    exact ⟨_, rfl⟩
end MEVR
