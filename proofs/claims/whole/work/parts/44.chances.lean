/-! part 44: the chances after k acts, by hand: two rows that change places -/
theorem dX3_bitsAfter_0 : decode cX3_bitsAfter 0 = .ok (.aload_n 0, 1) := by decide +kernel
theorem dX3_bitsAfter_1 : decode cX3_bitsAfter 1 = .ok (.getfield 9, 3) := by decide +kernel
theorem dX3_bitsAfter_4 : decode cX3_bitsAfter 4 = .ok (.dconst 0, 1) := by decide +kernel
theorem dX3_bitsAfter_5 : decode cX3_bitsAfter 5 = .ok (.invokestatic 18, 3) := by decide +kernel
theorem dX3_bitsAfter_8 : decode cX3_bitsAfter 8 = .ok (.aload_n 0, 1) := by decide +kernel
theorem dX3_bitsAfter_9 : decode cX3_bitsAfter 9 = .ok (.getfield 9, 3) := by decide +kernel
theorem dX3_bitsAfter_12 : decode cX3_bitsAfter 12 = .ok (.iconst 0, 1) := by decide +kernel
theorem dX3_bitsAfter_13 : decode cX3_bitsAfter 13 = .ok (.dconst 1, 1) := by decide +kernel
theorem dX3_bitsAfter_14 : decode cX3_bitsAfter 14 = .ok (.dastore, 1) := by decide +kernel
theorem dX3_bitsAfter_15 : decode cX3_bitsAfter 15 = .ok (.iconst 0, 1) := by decide +kernel
theorem dX3_bitsAfter_16 : decode cX3_bitsAfter 16 = .ok (.istore_n 3, 1) := by decide +kernel
theorem dX3_bitsAfter_17 : decode cX3_bitsAfter 17 = .ok (.iload_n 3, 1) := by decide +kernel
theorem dX3_bitsAfter_18 : decode cX3_bitsAfter 18 = .ok (.iload_n 2, 1) := by decide +kernel
theorem dX3_bitsAfter_19 : decode cX3_bitsAfter 19 = .ok (.if_icmp .ge 42, 3) := by decide +kernel
theorem dX3_bitsAfter_22 : decode cX3_bitsAfter 22 = .ok (.aload_n 0, 1) := by decide +kernel
theorem dX3_bitsAfter_23 : decode cX3_bitsAfter 23 = .ok (.getfield 15, 3) := by decide +kernel
theorem dX3_bitsAfter_26 : decode cX3_bitsAfter 26 = .ok (.dconst 0, 1) := by decide +kernel
theorem dX3_bitsAfter_27 : decode cX3_bitsAfter 27 = .ok (.invokestatic 18, 3) := by decide +kernel
theorem dX3_bitsAfter_30 : decode cX3_bitsAfter 30 = .ok (.aload_n 0, 1) := by decide +kernel
theorem dX3_bitsAfter_31 : decode cX3_bitsAfter 31 = .ok (.aload_n 1, 1) := by decide +kernel
theorem dX3_bitsAfter_32 : decode cX3_bitsAfter 32 = .ok (.invokevirtual 24, 3) := by decide +kernel
theorem dX3_bitsAfter_35 : decode cX3_bitsAfter 35 = .ok (.aload_n 0, 1) := by decide +kernel
theorem dX3_bitsAfter_36 : decode cX3_bitsAfter 36 = .ok (.getfield 9, 3) := by decide +kernel
theorem dX3_bitsAfter_39 : decode cX3_bitsAfter 39 = .ok (.astore 4, 2) := by decide +kernel
theorem dX3_bitsAfter_41 : decode cX3_bitsAfter 41 = .ok (.aload_n 0, 1) := by decide +kernel
theorem dX3_bitsAfter_42 : decode cX3_bitsAfter 42 = .ok (.aload_n 0, 1) := by decide +kernel
theorem dX3_bitsAfter_43 : decode cX3_bitsAfter 43 = .ok (.getfield 15, 3) := by decide +kernel
theorem dX3_bitsAfter_46 : decode cX3_bitsAfter 46 = .ok (.putfield 9, 3) := by decide +kernel
theorem dX3_bitsAfter_49 : decode cX3_bitsAfter 49 = .ok (.aload_n 0, 1) := by decide +kernel
theorem dX3_bitsAfter_50 : decode cX3_bitsAfter 50 = .ok (.aload 4, 2) := by decide +kernel
theorem dX3_bitsAfter_52 : decode cX3_bitsAfter 52 = .ok (.putfield 15, 3) := by decide +kernel
theorem dX3_bitsAfter_55 : decode cX3_bitsAfter 55 = .ok (.iinc 3 1, 3) := by decide +kernel
theorem dX3_bitsAfter_58 : decode cX3_bitsAfter 58 = .ok (.goto (-41), 3) := by decide +kernel
theorem dX3_bitsAfter_61 : decode cX3_bitsAfter 61 = .ok (.dconst 0, 1) := by decide +kernel
theorem dX3_bitsAfter_62 : decode cX3_bitsAfter 62 = .ok (.dstore_n 3, 1) := by decide +kernel
theorem dX3_bitsAfter_63 : decode cX3_bitsAfter 63 = .ok (.iconst 0, 1) := by decide +kernel
theorem dX3_bitsAfter_64 : decode cX3_bitsAfter 64 = .ok (.istore 5, 2) := by decide +kernel
theorem dX3_bitsAfter_66 : decode cX3_bitsAfter 66 = .ok (.iload 5, 2) := by decide +kernel
theorem dX3_bitsAfter_68 : decode cX3_bitsAfter 68 = .ok (.aload_n 1, 1) := by decide +kernel
theorem dX3_bitsAfter_69 : decode cX3_bitsAfter 69 = .ok (.getfield 28, 3) := by decide +kernel
theorem dX3_bitsAfter_72 : decode cX3_bitsAfter 72 = .ok (.if_icmp .ge 29, 3) := by decide +kernel
theorem dX3_bitsAfter_75 : decode cX3_bitsAfter 75 = .ok (.iload 5, 2) := by decide +kernel
theorem dX3_bitsAfter_77 : decode cX3_bitsAfter 77 = .ok (.aload_n 0, 1) := by decide +kernel
theorem dX3_bitsAfter_78 : decode cX3_bitsAfter 78 = .ok (.getfield 9, 3) := by decide +kernel
theorem dX3_bitsAfter_81 : decode cX3_bitsAfter 81 = .ok (.arraylength, 1) := by decide +kernel
theorem dX3_bitsAfter_82 : decode cX3_bitsAfter 82 = .ok (.if_icmp .ge 19, 3) := by decide +kernel
theorem dX3_bitsAfter_85 : decode cX3_bitsAfter 85 = .ok (.dload_n 3, 1) := by decide +kernel
theorem dX3_bitsAfter_86 : decode cX3_bitsAfter 86 = .ok (.aload_n 0, 1) := by decide +kernel
theorem dX3_bitsAfter_87 : decode cX3_bitsAfter 87 = .ok (.getfield 9, 3) := by decide +kernel
theorem dX3_bitsAfter_90 : decode cX3_bitsAfter 90 = .ok (.iload 5, 2) := by decide +kernel
theorem dX3_bitsAfter_92 : decode cX3_bitsAfter 92 = .ok (.daload, 1) := by decide +kernel
theorem dX3_bitsAfter_93 : decode cX3_bitsAfter 93 = .ok (.dadd, 1) := by decide +kernel
theorem dX3_bitsAfter_94 : decode cX3_bitsAfter 94 = .ok (.dstore_n 3, 1) := by decide +kernel
theorem dX3_bitsAfter_95 : decode cX3_bitsAfter 95 = .ok (.iinc 5 1, 3) := by decide +kernel
theorem dX3_bitsAfter_98 : decode cX3_bitsAfter 98 = .ok (.goto (-32), 3) := by decide +kernel
theorem dX3_bitsAfter_101 : decode cX3_bitsAfter 101 = .ok (.dload_n 3, 1) := by decide +kernel
theorem dX3_bitsAfter_102 : decode cX3_bitsAfter 102 = .ok (.invokestatic 34, 3) := by decide +kernel
theorem dX3_bitsAfter_105 : decode cX3_bitsAfter 105 = .ok (.lreturn, 1) := by decide +kernel
/-- which of the two rows is now, which is then -/
def KK (kn kt : Nat) : Prop := (kn = 40 ∧ kt = 41) ∨ (kn = 41 ∧ kt = 40)
theorem KK.gn {kn kt : Nat} (h : KK kn kt) : gk kn = 13 := by rcases h with ⟨rfl, rfl⟩ | ⟨rfl, rfl⟩ <;> rfl
theorem KK.gt {kn kt : Nat} (h : KK kn kt) : gk kt = 13 := by rcases h with ⟨rfl, rfl⟩ | ⟨rfl, rfl⟩ <;> rfl
theorem KK.ln {kn kt N : Nat} (h : KK kn kt) (hN : 105 ≤ N) : kn < N := by rcases h with ⟨rfl, rfl⟩ | ⟨rfl, rfl⟩ <;> omega
theorem KK.lt {kn kt N : Nat} (h : KK kn kt) (hN : 105 ≤ N) : kt < N := by rcases h with ⟨rfl, rfl⟩ | ⟨rfl, rfl⟩ <;> omega
theorem KK.ne {kn kt : Nat} (h : KK kn kt) : Nat.beq kn kt = false := by rcases h with ⟨rfl, rfl⟩ | ⟨rfl, rfl⟩ <;> rfl
theorem KK.sw {kn kt : Nat} (h : KK kn kt) : KK kt kn := Or.comm.mp (Or.imp And.symm And.symm h)
theorem KK.nn {kn kt j : Nat} (h : KK kn kt) (hj : nel j [40, 41] = false) : Nat.beq j kn = false := by
  simp only [nel, Bool.or_false, Bool.or_eq_false_iff] at hj
  rcases h with ⟨rfl, rfl⟩ | ⟨rfl, rfl⟩
  · exact hj.1
  · exact hj.2
/-- the two rows as they stand -/
def OD (q : Nat → Nat) (m : Nat → Value) (a : Nat → vp_A) : Prop := ∃ kn kt : Nat, KK kn kt ∧ m 3900 = .ref (q kn) ∧ m 3901 = .ref (q kt) ∧ ∃ AN AT : Nat → UInt64, a kn = (6000, .inr (.inr (.inr (.inl AN)))) ∧ a kt = (6000, .inr (.inr (.inr (.inl AT))))
theorem kX3_moveV {l : Launch} {D : va_G} {cy : Nat → ClassId} {N : Nat} {q : Nat → Nat} {m0 : Nat → Value} {a0 : Nat → vp_A} {sz : Nat} (hN : 105 ≤ N) (hsh : SH q m0) {kn kt : Nat} (hkk : KK kn kt) (hnow : m0 3900 = .ref (q kn)) (hthen : m0 3901 = .ref (q kt)) {x28_2 : Int32} (h_x28_2 : m0 2802 = .int x28_2) {A30 : Nat → Int32} (h_A30 : a0 30 = (6001, .inl A30)) {A35 : Nat → Int32} (h_A35 : a0 35 = (60000, .inl A35)) {AN : Nat → UInt64} (h_AN : a0 kn = (6000, .inr (.inr (.inr (.inl AN))))) {AT : Nat → UInt64} (h_AT : a0 kt = (6000, .inr (.inr (.inr (.inl AT))))) (F : Nat) {X0 : (Nat → UInt64)} (hs0 : fX3_move F x28_2 A30 A35 AN AT = some X0) : gMv l yX3_move cX3_move 4 none ({ frames := 3, cells := 0, slots := 0, locals := 69 } : Room) D cy N q m0 a0 sz [.ref (q 39), .ref (q 28)] (fun m' a' => m' = m0 ∧ a' kt = (6000, .inr (.inr (.inr (.inl X0)))) ∧ (∀ j, nel j [kt] = false → a' j = a0 j)) := by
  rcases hkk with ⟨rfl, rfl⟩ | ⟨rfl, rfl⟩
  · exact kX3_move hN hsh hnow hthen h_x28_2 h_A30 h_A35 h_AN h_AT F hs0
  · exact kX3_moveB hN hsh hnow hthen h_x28_2 h_A30 h_A35 h_AN h_AT F hs0
def fBA_S (F : Nat) (x : Int32) (A30 A35 : Nat → Int32) (k : Int32) (i : Int32) (AN AT : Nat → UInt64) : Option ((Nat → UInt64) ⊕ (Int32 × (Nat → UInt64) × (Nat → UInt64))) := if k ≤ i then some (.inl AN) else (fX3_move F x A30 A35 AN (dFill 6000 AT FP.dconst0)).bind (fun r => some (.inr (i + 1, r, AN)))
def fBA_T (x : Int32) (AN : Nat → UInt64) (all : UInt64) (i : Int32) : Option (UInt64 ⊕ (UInt64 × Int32)) := if x ≤ i then some (.inl all) else (if 6000 ≤ i then some (.inl all) else (if inb i 6000 = true then (if nn64 (FP.dadd all (AN i.toNatClampNeg)) = true then some (.inr (FP.dadd all (AN i.toNatClampNeg), i + 1)) else none) else none))
def fX3_bitsAfter (F : Nat) (x : Int32) (A30 A35 : Nat → Int32) (AN AT : Nat → UInt64) (k : Int32) : Option Int64 := (gloop (fun u : Int32 × (Nat → UInt64) × (Nat → UInt64) => fBA_S F x A30 A35 k u.1 u.2.1 u.2.2) F (0, vf_upd (dFill 6000 AN FP.dconst0) (0 : Int32).toNatClampNeg FP.dconst1, AT)).bind (fun B => (gloop (fun u : UInt64 × Int32 => fBA_T x B u.1 u.2) F (FP.dconst0, 0)).bind (fun all => fX3_bitsOf F all))
set_option maxHeartbeats 4000000 in
set_option maxRecDepth 100000 in
theorem kX3_bitsAfter {l : Launch} {D : va_G} {cy : Nat → ClassId} {N : Nat} {q : Nat → Nat} {m0 : Nat → Value} {a0 : Nat → vp_A} {sz : Nat} (hN : 105 ≤ N) (hsh : SH q m0) {kn kt : Nat} (hkk : KK kn kt) (hnow : m0 3900 = .ref (q kn)) (hthen : m0 3901 = .ref (q kt)) {x28_2 : Int32} (h_x28_2 : m0 2802 = .int x28_2) {A30 : Nat → Int32} (h_A30 : a0 30 = (6001, .inl A30)) {A35 : Nat → Int32} (h_A35 : a0 35 = (60000, .inl A35)) {AN : Nat → UInt64} (h_AN : a0 kn = (6000, .inr (.inr (.inr (.inl AN))))) {AT : Nat → UInt64} (h_AT : a0 kt = (6000, .inr (.inr (.inr (.inl AT))))) (F : Nat) (p2 : Int32) {X0 : Int64} (hs0 : fX3_bitsAfter F x28_2 A30 A35 AN AT p2 = some X0) : gMl l yX3_bitsAfter cX3_bitsAfter 6 (some .long) ({ frames := 4, cells := 0, slots := 0, locals := 120 } : Room) D cy N q m0 a0 sz [.ref (q 39), .ref (q 28), .int p2] (fun r m' a' => r = X0 ∧ OD q m' a' ∧ (∀ j, nel j [3900, 3901] = false → m' j = m0 j) ∧ (∀ j, nel j [40, 41] = false → a' j = a0 j)) := by
  refine g_ofl (by decide) (Nat.le_of_ble_eq_true rfl) ?_
  intro p e s M args below meth c hx hb hr hG hown hin hlocks hml hW hS ls hl
  unfold fX3_bitsAfter at hs0
  obtain ⟨B1, hg1, hs0⟩ := obind hs0
  obtain ⟨B2, hg2, hs0⟩ := obind hs0
  have hL2 : ∀ (n : Nat) (all : UInt64) (i : Int32) {kn kt : Nat} (hkk : KK kn kt) (m : Nat → Value) (hnow : m 3900 = .ref (q kn)) (hthen : m 3901 = .ref (q kt)) (a : Nat → vp_A) (AN AT : Nat → UInt64) (h_AN : a kn = (6000, .inr (.inr (.inr (.inl AN))))) (h_AT : a kt = (6000, .inr (.inr (.inr (.inl AT))))) (hom : ∀ j, nel j [3900, 3901] = false → m j = m0 j) (hoa : ∀ j, nel j [40, 41] = false → a j = a0 j) (H : Heap) (locs : List Loc) (ls : Array Slot) (hB : AN = B1) (hl : lv_has ls 6 [(0, .ref (q 39)), (1, .ref (q 28)), (3, .double all), (5, .int i)]) (hg : gloop (fun u : UInt64 × Int32 => fBA_T x28_2 B1 u.1 u.2) n (all, i) = some B2) (hW : GW D cy (gA N q s.heap.size) N q m a s H) (hS : va_S (gA N q s.heap.size) s.heap H locs), W p l e ({ frames := 4, cells := 0, slots := 0, locals := 120 } : Room) s M args below meth c H locs 0 0 (MQ below (va_Ql (fun (r : Int64) (u : (Nat → Value) × (Nat → vp_A)) => r = X0 ∧ OD q u.1 u.2 ∧ (∀ j, nel j [3900, 3901] = false → u.1 j = m0 j) ∧ (∀ j, nel j [40, 41] = false → u.2 j = a0 j)) (gB D cy N q s.heap.size) (gA N q s.heap.size)) args s 0 0 (gA N q s.heap.size)) (F0 M 66 ls []) := by
    intro n
    induction n with
    | zero => intro all i kn kt hkk m hnow hthen a AN AT h_AN h_AT hom hoa H locs ls hB hl hg hW hS; exact (gl_zero hg).elim
    | succ n ih =>
      intro all i kn kt hkk m hnow hthen a AN AT h_AN h_AT hom hoa H locs ls hB hl hg hW hS
      subst hB
      obtain ⟨X1, hs1, hXl, hXr⟩ := gl_succ hg
      have hs1 : fBA_T x28_2 AN all i = some X1 := hs1
      unfold fBA_T at hs1
      have hEnd : ∀ (hx1 : X1 = .inl all) (ls : Array Slot) (hl : lv_has ls 6 [(3, .double all)]), W p l e ({ frames := 4, cells := 0, slots := 0, locals := 120 } : Room) s M args below meth c H locs 0 0 (MQ below (va_Ql (fun (r : Int64) (u : (Nat → Value) × (Nat → vp_A)) => r = X0 ∧ OD q u.1 u.2 ∧ (∀ j, nel j [3900, 3901] = false → u.1 j = m0 j) ∧ (∀ j, nel j [40, 41] = false → u.2 j = a0 j)) (gB D cy N q s.heap.size) (gA N q s.heap.size)) args s 0 0 (gA N q s.heap.size)) (F0 M 101 ls []) := by
        intro hx1 ls hl
        have hB2 := hXl _ hx1
        subst hB2
        refine lv_dload_n hx hb dX3_bitsAfter_101 rfl (lv_at hl 0 rfl) ?_
        refine g_SlR (n := 1) hx hb hml hown hG hW hS [.double all] (kX3_bitsOf hN F all hs0) rfl (gd_S gx956 gx957 gx90 gx958) rfl rfl (by decide) ⟨Nat.le_of_ble_eq_true rfl, Nat.le_of_ble_eq_true rfl⟩ rfl hl (Nat.le_of_ble_eq_true rfl) ⟨Nat.zero_le _, Nat.zero_le _⟩ dX3_bitsAfter_102 (fun H locs hW hS => ?_)
        exact W.lret hx hb hr (fun t ht hw => ⟨⟨_, (m, a), rfl, ⟨rfl, ⟨kn, kt, hkk, hnow, hthen, AN, AT, h_AN, h_AT⟩, hom, hoa⟩, g_end hW ht hw⟩, hS.F ht⟩) hS.2.2 dX3_bitsAfter_105 hlocks
      refine lv_iload hx hb dX3_bitsAfter_66 (lv_at hl 3 rfl) ?_
      refine lv_aload_n hx hb dX3_bitsAfter_68 rfl (lv_at hl 1 rfl) ?_
      refine gf1_2 hx hb hG hown hW (o := 28) (ltN hN 28 rfl) gk28 (v := .int x28_2) ((hom 2802 rfl).trans h_x28_2) gx940 dX3_bitsAfter_69 ?_
      refine lv_icmp_ge (tgt := 101) hx hb dX3_bitsAfter_72 (by decide) (fun c1 => ?_) (fun c1 => ?_)
      · rw [if_pos c1] at hs1
        exact hEnd (Option.some.inj hs1).symm ls (lv_sub hl [2] rfl)
      · rw [if_neg c1] at hs1
        refine lv_iload hx hb dX3_bitsAfter_75 (lv_at hl 3 rfl) ?_
        refine lv_aload_n hx hb dX3_bitsAfter_77 rfl (lv_at hl 0 rfl) ?_
        refine gf3_0 hx hb hG hown hW (o := 39) (ltN hN 39 rfl) gk39 (v := .ref (q kn)) hnow gx121 dX3_bitsAfter_78 ?_
        refine g_alen hx hb hW (o := kn) (t := 0) (hkk.ln hN) hkk.gn (by decide) h_AN (v := 6000) rfl dX3_bitsAfter_81 ?_
        refine lv_icmp_ge (tgt := 101) hx hb dX3_bitsAfter_82 (by decide) (fun c2 => ?_) (fun c2 => ?_)
        · rw [if_pos c2] at hs1
          exact hEnd (Option.some.inj hs1).symm ls (lv_sub hl [2] rfl)
        · rw [if_neg c2] at hs1
          obtain ⟨hi, hs1⟩ := oif hs1
          obtain ⟨hd, hs1⟩ := oif hs1
          refine lv_dload_n hx hb dX3_bitsAfter_85 rfl (lv_at hl 2 rfl) ?_
          refine lv_aload_n hx hb dX3_bitsAfter_86 rfl (lv_at hl 0 rfl) ?_
          refine gf3_0 hx hb hG hown hW (o := 39) (ltN hN 39 rfl) gk39 (v := .ref (q kn)) hnow gx121 dX3_bitsAfter_87 ?_
          refine lv_iload hx hb dX3_bitsAfter_90 (lv_at hl 3 rfl) ?_
          refine g_dald hx hb hW (o := kn) (hkk.ln hN) hkk.gn h_AN (vin hi) dX3_bitsAfter_92 ?_
          refine lv_dadd hx hb dX3_bitsAfter_93 (nn64.p hd) ?_
          refine lv_dstore_n (lv' := [(3, .double (FP.dadd all (AN i.toNatClampNeg))), (0, .ref (q 39)), (1, .ref (q 28)), (5, .int i)]) hx hb dX3_bitsAfter_94 rfl hl (by decide) rfl (fun ls hl => ?_)
          refine lv_iinc (v := i + 1) (lv' := [(5, .int (i + 1)), (3, .double (FP.dadd all (AN i.toNatClampNeg))), (0, .ref (q 39)), (1, .ref (q 28))]) hx hb dX3_bitsAfter_95 hl (k := 3) rfl rfl (by decide) rfl (fun ls hl => ?_)
          refine lv_goto (tgt := 66) hx hb dX3_bitsAfter_98 (by decide) ?_
          exact ih _ _ hkk m hnow hthen a AN AT h_AN h_AT hom hoa _ _ ls rfl (lv_sub hl [2, 3, 1, 0] rfl) (hXr _ (Option.some.inj hs1).symm) hW hS
  have hL1 : ∀ (n : Nat) (i : Int32) {kn kt : Nat} (hkk : KK kn kt) (m : Nat → Value) (hnow : m 3900 = .ref (q kn)) (hthen : m 3901 = .ref (q kt)) (a : Nat → vp_A) (AN AT : Nat → UInt64) (h_AN : a kn = (6000, .inr (.inr (.inr (.inl AN))))) (h_AT : a kt = (6000, .inr (.inr (.inr (.inl AT))))) (hom : ∀ j, nel j [3900, 3901] = false → m j = m0 j) (hoa : ∀ j, nel j [40, 41] = false → a j = a0 j) (H : Heap) (locs : List Loc) (ls : Array Slot) (hl : lv_has ls 6 [(0, .ref (q 39)), (1, .ref (q 28)), (2, .int p2), (3, .int i)]) (hg : gloop (fun u : Int32 × (Nat → UInt64) × (Nat → UInt64) => fBA_S F x28_2 A30 A35 p2 u.1 u.2.1 u.2.2) n (i, AN, AT) = some B1) (hW : GW D cy (gA N q s.heap.size) N q m a s H) (hS : va_S (gA N q s.heap.size) s.heap H locs), W p l e ({ frames := 4, cells := 0, slots := 0, locals := 120 } : Room) s M args below meth c H locs 0 0 (MQ below (va_Ql (fun (r : Int64) (u : (Nat → Value) × (Nat → vp_A)) => r = X0 ∧ OD q u.1 u.2 ∧ (∀ j, nel j [3900, 3901] = false → u.1 j = m0 j) ∧ (∀ j, nel j [40, 41] = false → u.2 j = a0 j)) (gB D cy N q s.heap.size) (gA N q s.heap.size)) args s 0 0 (gA N q s.heap.size)) (F0 M 17 ls []) := by
    intro n
    induction n with
    | zero => intro i kn kt hkk m hnow hthen a AN AT h_AN h_AT hom hoa H locs ls hl hg hW hS; exact (gl_zero hg).elim
    | succ n ih =>
      intro i kn kt hkk m hnow hthen a AN AT h_AN h_AT hom hoa H locs ls hl hg hW hS
      obtain ⟨X1, hs1, hXl, hXr⟩ := gl_succ hg
      have hs1 : fBA_S F x28_2 A30 A35 p2 i AN AT = some X1 := hs1
      unfold fBA_S at hs1
      refine lv_iload_n hx hb dX3_bitsAfter_17 rfl (lv_at hl 3 rfl) ?_
      refine lv_iload_n hx hb dX3_bitsAfter_18 rfl (lv_at hl 2 rfl) ?_
      refine lv_icmp_ge (tgt := 61) hx hb dX3_bitsAfter_19 (by decide) (fun c1 => ?_) (fun c1 => ?_)
      · rw [if_pos c1] at hs1
        refine lv_dconst0 hx hb dX3_bitsAfter_61 ?_
        refine lv_dstore_n (lv' := [(3, .double FP.dconst0), (0, .ref (q 39)), (1, .ref (q 28)), (2, .int p2)]) hx hb dX3_bitsAfter_62 rfl hl (by decide) rfl (fun ls hl => ?_)
        refine lv_iconst (v := 0) hx hb dX3_bitsAfter_63 (by decide) ?_
        refine lv_istore (lv' := [(5, .int 0), (3, .double FP.dconst0), (0, .ref (q 39)), (1, .ref (q 28)), (2, .int p2)]) hx hb dX3_bitsAfter_64 hl (by decide) rfl (fun ls hl => ?_)
        exact hL2 F _ _ hkk m hnow hthen a AN AT h_AN h_AT hom hoa _ _ ls (hXl _ (Option.some.inj hs1).symm) (lv_sub hl [2, 3, 1, 0] rfl) hg2 hW hS
      · rw [if_neg c1] at hs1
        obtain ⟨r1, hf1, hs1⟩ := obind hs1
        refine lv_aload_n hx hb dX3_bitsAfter_22 rfl (lv_at hl 0 rfl) ?_
        refine gf3_1 hx hb hG hown hW (o := 39) (ltN hN 39 rfl) gk39 (v := .ref (q kt)) hthen gx122 dX3_bitsAfter_23 ?_
        refine lv_dconst0 hx hb dX3_bitsAfter_26 ?_
        refine g_Sv (n := 2) hx hb hml hown hG hW hS [.ref (q kt), .double FP.dconst0] (kJ7_dfill (hkk.lt hN) hkk.gt (by decide) h_AT FP.dconst0) rfl (gd_S gx941 gx942 gx229 gx943) rfl rfl (by decide) ⟨Nat.le_of_ble_eq_true rfl, Nat.le_of_ble_eq_true rfl⟩ rfl hl (Nat.le_of_ble_eq_true rfl) ⟨Nat.zero_le _, Nat.zero_le _⟩ dX3_bitsAfter_27 (fun m1 a1 H locs hp hW hS => ?_)
        obtain ⟨hm1, h_AT1, ho1⟩ := hp
        rw [hm1] at hW
        have h_AN1 : a1 kn = (6000, .inr (.inr (.inr (.inl AN)))) := (ho1 kn (by show (Nat.beq kn kt || false) = false; rw [hkk.ne]; rfl)).trans h_AN
        have hoa1 : ∀ j, nel j [40, 41] = false → a1 j = a0 j := fun j hj => (ho1 j (by show (Nat.beq j kt || false) = false; rw [hkk.sw.nn hj]; rfl)).trans (hoa j hj)
        refine lv_aload_n hx hb dX3_bitsAfter_30 rfl (lv_at hl 0 rfl) ?_
        refine lv_aload_n hx hb dX3_bitsAfter_31 rfl (lv_at hl 1 rfl) ?_
        refine g_Vv (n := 1) hx hb hml hown hG hW hS [.ref (q 28)] (kX3_moveV hN (SH.off hsh hom (by decide +kernel)) hkk hnow hthen ((hom 2802 rfl).trans h_x28_2) ((hoa1 30 rfl).trans h_A30) ((hoa1 35 rfl).trans h_A35) h_AN1 h_AT1 F hf1) (ltN hN 39 rfl) gk39 (by decide) rfl rfl (gd_V gx944 gx945 gx946 gx90 gx947) rfl rfl (by decide) ⟨Nat.le_of_ble_eq_true rfl, Nat.le_of_ble_eq_true rfl⟩ rfl hl (Nat.le_of_ble_eq_true rfl) ⟨Nat.zero_le _, Nat.zero_le _⟩ dX3_bitsAfter_32 (fun m2 a2 H locs hp hW hS => ?_)
        obtain ⟨hm2, h_AT2, ho2⟩ := hp
        rw [hm2] at hW
        have h_AN2 : a2 kn = (6000, .inr (.inr (.inr (.inl AN)))) := (ho2 kn (by show (Nat.beq kn kt || false) = false; rw [hkk.ne]; rfl)).trans h_AN1
        have hoa2 : ∀ j, nel j [40, 41] = false → a2 j = a0 j := fun j hj => (ho2 j (by show (Nat.beq j kt || false) = false; rw [hkk.sw.nn hj]; rfl)).trans (hoa1 j hj)
        refine lv_aload_n hx hb dX3_bitsAfter_35 rfl (lv_at hl 0 rfl) ?_
        refine gf3_0 hx hb hG hown hW (o := 39) (ltN hN 39 rfl) gk39 (v := .ref (q kn)) hnow gx121 dX3_bitsAfter_36 ?_
        refine lv_astore (lv' := [(4, .ref (q kn)), (0, .ref (q 39)), (1, .ref (q 28)), (2, .int p2), (3, .int i)]) hx hb dX3_bitsAfter_39 hl (by decide) rfl (fun ls hl => ?_)
        refine lv_aload_n hx hb dX3_bitsAfter_41 rfl (lv_at hl 1 rfl) ?_
        refine lv_aload_n hx hb dX3_bitsAfter_42 rfl (lv_at hl 1 rfl) ?_
        refine gf3_1 hx hb hG hown hW (o := 39) (ltN hN 39 rfl) gk39 (v := .ref (q kt)) hthen gx122 dX3_bitsAfter_43 ?_
        refine gp3_0 hx hb hG hown hW hS (o := 39) (ltN hN 39 rfl) gk39 (v := q kt) gx121 dX3_bitsAfter_46 (fun m3 H locs hm3 ho3 hW hS => ?_)
        refine lv_aload_n hx hb dX3_bitsAfter_49 rfl (lv_at hl 1 rfl) ?_
        refine lv_aload hx hb dX3_bitsAfter_50 (lv_at hl 0 rfl) ?_
        refine gp3_1 hx hb hG hown hW hS (o := 39) (ltN hN 39 rfl) gk39 (v := q kn) gx122 dX3_bitsAfter_52 (fun m4 H locs hm4 ho4 hW hS => ?_)
        refine lv_iinc (v := i + 1) (lv' := [(3, .int (i + 1)), (4, .ref (q kn)), (0, .ref (q 39)), (1, .ref (q 28)), (2, .int p2)]) hx hb dX3_bitsAfter_55 hl (k := 4) rfl rfl (by decide) rfl (fun ls hl => ?_)
        refine lv_goto (tgt := 17) hx hb dX3_bitsAfter_58 (by decide) ?_
        have hom3 : ∀ j, nel j [3900, 3901] = false → m3 j = m0 j := offm hom (off1 ho3) (by decide +kernel)
        have hom4 : ∀ j, nel j [3900, 3901] = false → m4 j = m0 j := offm hom3 (off1 ho4) (by decide +kernel)
        exact ih (i + 1) hkk.sw m4 ((ho4 3900 rfl).trans hm3) hm4 a2 r1 AN h_AT2 h_AN2 hom4 hoa2 _ _ ls (lv_sub hl [2, 3, 4, 0] rfl) (hXr _ (Option.some.inj hs1).symm) hW hS
  refine lv_aload_n hx hb dX3_bitsAfter_0 rfl (lv_at hl 0 rfl) ?_
  refine gf3_0 hx hb hG hown hW (o := 39) (ltN hN 39 rfl) gk39 (v := .ref (q kn)) hnow gx121 dX3_bitsAfter_1 ?_
  refine lv_dconst0 hx hb dX3_bitsAfter_4 ?_
  refine g_Sv (n := 2) hx hb hml hown hG hW hS [.ref (q kn), .double FP.dconst0] (kJ7_dfill (hkk.ln hN) hkk.gn (by decide) h_AN FP.dconst0) rfl (gd_S gx941 gx942 gx229 gx943) rfl rfl (by decide) ⟨Nat.le_of_ble_eq_true rfl, Nat.le_of_ble_eq_true rfl⟩ rfl hl (Nat.le_of_ble_eq_true rfl) ⟨Nat.zero_le _, Nat.zero_le _⟩ dX3_bitsAfter_5 (fun m1 a1 H locs hp hW hS => ?_)
  obtain ⟨hm1, h_AN1, ho1⟩ := hp
  rw [hm1] at hW
  have h_AT1 : a1 kt = (6000, .inr (.inr (.inr (.inl AT)))) := (ho1 kt (by show (Nat.beq kt kn || false) = false; rw [hkk.sw.ne]; rfl)).trans h_AT
  have hoa1 : ∀ j, nel j [40, 41] = false → a1 j = a0 j := fun j hj => ho1 j (by show (Nat.beq j kn || false) = false; rw [hkk.nn hj]; rfl)
  refine lv_aload_n hx hb dX3_bitsAfter_8 rfl (lv_at hl 0 rfl) ?_
  refine gf3_0 hx hb hG hown hW (o := 39) (ltN hN 39 rfl) gk39 (v := .ref (q kn)) hnow gx121 dX3_bitsAfter_9 ?_
  refine lv_iconst (v := 0) hx hb dX3_bitsAfter_12 (by decide) ?_
  refine lv_dconst1 hx hb dX3_bitsAfter_13 ?_
  refine g_dast hx hb hW hS (o := kn) (hkk.ln hN) hkk.gn h_AN1 (vin (by decide)) dX3_bitsAfter_14 (fun a2 H locs h_AN2 ho2 hW hS => ?_)
  have h_AT2 : a2 kt = (6000, .inr (.inr (.inr (.inl AT)))) := (ho2 kt hkk.sw.ne).trans h_AT1
  have hoa2 : ∀ j, nel j [40, 41] = false → a2 j = a0 j := fun j hj => (ho2 j (hkk.nn hj)).trans (hoa1 j hj)
  refine lv_iconst (v := 0) hx hb dX3_bitsAfter_15 (by decide) ?_
  refine lv_istore_n (lv' := [(3, .int 0), (0, .ref (q 39)), (1, .ref (q 28)), (2, .int p2)]) hx hb dX3_bitsAfter_16 rfl hl (by decide) rfl (fun ls hl => ?_)
  exact hL1 F 0 hkk m0 hnow hthen a2 _ AT h_AN2 h_AT2 off0 hoa2 _ _ ls (lv_sub hl [1, 2, 3, 0] rfl) hg1 hW hS
