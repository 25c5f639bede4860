/-! part 9zq: all words are the law's; what is given at its entry -/
theorem GGl : ∀ w ∈ GG, w ∈ lw_tbl := by
  unfold GG
  exact List.forall_mem_append.mpr ⟨kwl0, List.forall_mem_append.mpr ⟨kwl1, List.forall_mem_append.mpr ⟨kwl2, List.forall_mem_append.mpr ⟨kwl3, List.forall_mem_append.mpr ⟨kwl4, List.forall_mem_append.mpr ⟨kwl5, List.forall_mem_append.mpr ⟨kwl6, List.forall_mem_append.mpr ⟨kwl7, List.forall_mem_append.mpr ⟨kwl8, List.forall_mem_append.mpr ⟨kwl9, List.forall_mem_append.mpr ⟨kwl10, List.forall_mem_append.mpr ⟨kwl11, List.forall_mem_append.mpr ⟨kwl12, List.forall_mem_append.mpr ⟨kwl13, List.forall_mem_append.mpr ⟨kwl14, List.forall_mem_append.mpr ⟨kwl15, List.forall_mem_append.mpr ⟨kwl16, List.forall_mem_append.mpr ⟨kwl17, List.forall_mem_append.mpr ⟨kwl18, List.forall_mem_append.mpr ⟨kwl19, List.forall_mem_append.mpr ⟨kwl20, List.forall_mem_append.mpr ⟨kwl21, List.forall_mem_append.mpr ⟨kwl22, List.forall_mem_append.mpr ⟨kwl23, List.forall_mem_append.mpr ⟨kwl24, List.forall_mem_append.mpr ⟨kwl25, List.forall_mem_append.mpr ⟨kwl26, List.forall_mem_append.mpr ⟨kwl27, List.forall_mem_append.mpr ⟨kwl28, List.forall_mem_append.mpr ⟨kwl29, List.forall_mem_append.mpr ⟨kwl30, List.forall_mem_append.mpr ⟨kwl31, List.forall_mem_append.mpr ⟨kwl32, List.forall_mem_append.mpr ⟨kwl33, List.forall_mem_append.mpr ⟨kwl34, List.forall_mem_append.mpr ⟨kwx0, List.forall_mem_append.mpr ⟨kwx1, List.forall_mem_append.mpr ⟨kwx2, List.forall_mem_append.mpr ⟨kwx3, List.forall_mem_append.mpr ⟨kwx4, List.forall_mem_append.mpr ⟨kwx5, List.forall_mem_append.mpr ⟨kwx6, List.forall_mem_append.mpr ⟨kwx7, List.forall_mem_append.mpr ⟨kwx8, List.forall_mem_append.mpr ⟨kwx9, List.forall_mem_append.mpr ⟨kwx10, List.forall_mem_append.mpr ⟨kwx11, kwx12⟩⟩⟩⟩⟩⟩⟩⟩⟩⟩⟩⟩⟩⟩⟩⟩⟩⟩⟩⟩⟩⟩⟩⟩⟩⟩⟩⟩⟩⟩⟩⟩⟩⟩⟩⟩⟩⟩⟩⟩⟩⟩⟩⟩⟩⟩⟩
theorem atXl : ∀ w ∈ atX.filter goodWord, w ∈ lw_tbl := by decide +kernel
theorem atCl : ∀ w ∈ atC, w ∈ lw_tbl := by decide +kernel
theorem nwLl : ∀ w ∈ nwL, w ∈ lw_tbl := by decide +kernel
theorem GXl : ∀ w ∈ GX, w ∈ lw_tbl := fun w h => (List.mem_append.mp h).elim (GGl w) (atXl w)
def fl0 : List Cond := flatC (Jvm.Cond.and given_1 narrow_1)
def sBs (i : Nat) : Nat := [24, 32, 43, 53, 64, 76, 90, 156, 173, 193, 212, 232, 253, 276].getD i 0
def sTm (i : Nat) : Term := .string (sOwn i) (sIdx i)
def wdS (i : Nat) : List Cond := Cond.exactly (sTm i) "java/lang/String" :: Cond.eq (.field (sTm i) "java/lang/String" "coder" "B") (.int 0) :: Cond.arrayOf (.field (sTm i) "java/lang/String" "value" "[B") .byte :: Cond.eq (.length (.field (sTm i) "java/lang/String" "value" "[B")) (.int (Int32.ofNat (sLen i))) :: (List.range (sLen i)).map (fun j => Cond.eq (.elem (.field (sTm i) "java/lang/String" "value" "[B") (.int (Int32.ofNat j))) (.int (sByt i j)))
set_option maxRecDepth 100000 in
theorem wdS_fl : ∀ i, i < 14 → (fl0.drop (sBs i)).take (4 + sLen i) = wdS i := by decide +kernel
theorem wdS_in {i : Nat} (hi : i < 14) : ∀ w ∈ wdS i, w ∈ fl0 := fun w hw => List.mem_of_mem_drop (List.mem_of_mem_take (by rw [wdS_fl i hi]; exact hw))
set_option maxRecDepth 100000 in
theorem sRef_tbl : ∀ i, i < 14 → Cond.stringRef (sOwn i) (sIdx i) (sTx i) ∈ lw_tbl := by decide +kernel
section GIVEN
variable {args : Array Value} {s : State} {A : Nat → Prop}
/-- a text whose contents are given -/
theorem str_of {tm : Term} {n : Nat} {f : Nat → Int32} (hn : n < 2 ^ 31) (hex : (Cond.exactly tm "java/lang/String").before args s = true) (hco : (Cond.eq (.field tm "java/lang/String" "coder" "B") (.int 0)).before args s = true) (har : (Cond.arrayOf (.field tm "java/lang/String" "value" "[B") .byte).before args s = true) (hle : (Cond.eq (.length (.field tm "java/lang/String" "value" "[B")) (.int (Int32.ofNat n))).before args s = true)
    (hel : ∀ j : Nat, j < n → (Cond.eq (.elem (.field tm "java/lang/String" "value" "[B") (.int (Int32.ofNat j))) (.int (f j))).before args s = true) (hA : ∀ a : Nat, a < s.heap.size → ¬ A a) : ∃ a v : Nat, tm.eval args s none [] s = some (.ref a) ∧ Str A a v n f s s.heap := by
  obtain ⟨a, c, cA, kA, q1, q2, q3, q4, q5, q6, -⟩ := Cond.exactly_spec (args := args) (first := s) (o := none) (s := s) (idx := []) (t := tm) (cls := "java/lang/String") hex
  obtain ⟨t, ht, hT⟩ := va_Tof (f := fun j => .int (f j)) (A := A) hn har (va_eqt hle) (fun j hj => va_eqt (hel j hj)) hA
  exact ⟨a, t, q1, ⟨cA, q3, q5, by rw [q6]; exact q2, hA a (Array.getElem?_eq_some_iff.mp q3).1⟩, vk_OFof q1 (va_eqt hco) hA, vk_OFof q1 ht hA, hT⟩
theorem sLen_lt : ∀ i, i < 14 → sLen i < 2 ^ 31 := by decide +kernel
theorem xs_start (hts : ∀ w ∈ lw_tbl, w.before args s = true) (hg : (Jvm.Cond.and given_1 narrow_1).before args s = true) (hA : ∀ a : Nat, a < s.heap.size → ¬ A a) : ∃ sa sv : Nat → Nat, XS sa sv A s s.heap := by
  have hfl : ∀ w ∈ fl0, w.before args s = true := flat_of_before _ hg
  have h0 : ∀ i : Nat, ∃ q : Nat × Nat, i < 14 → vk_R (sOwn i) (sIdx i) (sTx i) q.1 s ∧ Str A q.1 q.2 (sLen i) (sByt i) s s.heap := by
    intro i
    by_cases hi : i < 14
    · have hw : ∀ w ∈ wdS i, w.before args s = true := fun w h => hfl w (wdS_in hi w h)
      obtain ⟨a, v, h1, h2⟩ := str_of (tm := sTm i) (n := sLen i) (f := sByt i) (args := args) (s := s) (A := A) (sLen_lt i hi) (hw _ List.mem_cons_self) (hw _ (List.mem_cons_of_mem _ List.mem_cons_self)) (hw _ (List.mem_cons_of_mem _ (List.mem_cons_of_mem _ List.mem_cons_self))) (hw _ (List.mem_cons_of_mem _ (List.mem_cons_of_mem _ (List.mem_cons_of_mem _ List.mem_cons_self)))) (fun j hj => hw _ (List.mem_cons_of_mem _ (List.mem_cons_of_mem _ (List.mem_cons_of_mem _ (List.mem_cons_of_mem _ (List.mem_map.mpr ⟨j, List.mem_range.mpr hj, rfl⟩)))))) hA
      exact ⟨(a, v), fun _ => ⟨vk_R.of (A := args) (hts _ (sRef_tbl i hi)) h1, h2⟩⟩
    · exact ⟨(0, 0), fun h => absurd h hi⟩
  obtain ⟨ad, had⟩ := Classical.axiomOfChoice h0
  refine ⟨fun i => (ad i).1, fun i => (ad i).2, fun i hi => had i hi, ?_, ?_⟩
  · exact va_Zof (args := args) (hts _ (by decide +kernel)) (hts _ (by decide +kernel)) (va_eqt (hfl (Cond.eq (.static "java/lang/String" "COMPACT_STRINGS" "Z") (.int 1)) (List.mem_of_getElem? (i := 4) (by decide +kernel)))) hA
  · exact va_Zqof (args := args) (hts _ (by decide +kernel)) (hts _ (by decide +kernel)) (hfl (Cond.isRef (.static "jdk/internal/util/Preconditions" "SIOOBE_FORMATTER" "Ljava/util/function/BiFunction;")) (List.mem_of_getElem? (i := 5) (by decide +kernel))) hA
theorem rk_of {own tx : String} {k : Nat} (h1 : (Cond.stringRef own k tx).before args s = true) (h2 : (Cond.exactly (.string own k) "java/lang/String").before args s = true) : ∃ a, vk_R own k tx a s := by
  obtain ⟨a, c, cA, kA, q1, -⟩ := Cond.exactly_spec (args := args) (first := s) (o := none) (s := s) (idx := []) (t := .string own k) (cls := "java/lang/String") h2
  exact ⟨a, vk_R.of (A := args) h1 q1⟩
theorem ke_start (hts : ∀ w ∈ lw_tbl, w.before args s = true) (hg : (Jvm.Cond.and given_1 narrow_1).before args s = true) (hA : ∀ a : Nat, a < s.heap.size → ¬ A a) : ∃ k1 k2 : Nat, KE k1 k2 A s s.heap := by
  have hfl : ∀ w ∈ fl0, w.before args s = true := flat_of_before _ hg
  obtain ⟨k1, h1⟩ := rk_of (own := RX11) (tx := "no such kind") (k := 210) (args := args) (s := s) (hts _ (by decide +kernel)) (hfl _ (List.mem_of_getElem? (i := 105) (by decide +kernel)))
  obtain ⟨k2, h2⟩ := rk_of (own := RX11) (tx := "not in the queue") (k := 215) (args := args) (s := s) (hts _ (by decide +kernel)) (hfl _ (List.mem_of_getElem? (i := 128) (by decide +kernel)))
  refine ⟨k1, k2, h1, h2, ?_, ?_, fun w hw => ?_⟩
  · exact vx_Zqof (args := args) (hts _ (by decide +kernel)) (hts _ (by decide +kernel)) (hfl (Cond.isRef (.static Bundle.tN "UNASSIGNED_STACK" Bundle.steD)) (List.mem_of_getElem? (i := 9) (by decide +kernel))) hA
  · exact vx_Zqof (args := args) (hts _ (by decide +kernel)) (hts _ (by decide +kernel)) (hfl (Cond.isRef (.static Bundle.tN "SUPPRESSED_SENTINEL" Bundle.listD)) (List.mem_of_getElem? (i := 10) (by decide +kernel))) hA
  · obtain ⟨a, b, rfl⟩ | ⟨x, rfl⟩ := xCast.is (List.all_eq_true.mp atC_cast w hw)
    · exact va_Nw.of rfl (hts _ (atCl _ hw))
    · exact va_Nw.of rfl (hts _ (atCl _ hw))
theorem nw_start (hts : ∀ w ∈ lw_tbl, w.before args s = true) : NW s := fun w hw => by
  have h1 := hts w (nwLl w hw)
  simp only [nwL, List.mem_cons, List.not_mem_nil, or_false] at hw
  rcases hw with rfl | rfl | rfl | rfl | rfl | rfl | rfl | rfl | rfl | rfl <;> exact va_Nw.of rfl h1
theorem arr_known {ty : FieldType} (h : (Cond.arrayClass ty).before args s = true) : ∃ cA : ClassId, ArrOfT s cA ty ∧ s.vm.findClass ("[" ++ ty.toString) = some cA := by
  obtain ⟨cA, kA, comp, h1, h2, h3⟩ := Cond.arrayClass_spec h
  exact ⟨cA, fun n z => ⟨fun k h => (by cases h), kA, h2, comp, h3⟩, h1⟩
theorem k_start (hG : ∀ w ∈ GG, w.before args s = true) : ∃ (D : va_G) (cy : Nat → ClassId), va_K D vwCl (gtys cy) s := by
  obtain ⟨c0, i0, h0⟩ := u_known (C := RX0) (T := TX0) (N := 3) (n := 3) hG (fun w hw => gm_wsX00 w hw) (hG _ gx22)
  obtain ⟨c1, i1, h1⟩ := u_known (C := RX1) (T := TX1) (N := 7) (n := 7) hG (fun w hw => gm_wsX10 w hw) (hG _ gx85)
  obtain ⟨c2, i2, h2⟩ := u_known (C := RX2) (T := TX2) (N := 1) (n := 1) hG (fun w hw => gm_wsX20 w hw) (hG _ gx46)
  obtain ⟨c3, i3, h3⟩ := u_known (C := RX3) (T := TX3) (N := 2) (n := 2) hG (fun w hw => gm_wsX30 w hw) (hG _ gx89)
  obtain ⟨c4, i4, h4⟩ := u_known (C := RX4) (T := TX4) (N := 8) (n := 8) hG (fun w hw => gm_wsX40 w hw) (hG _ gx93)
  obtain ⟨c5, i5, h5⟩ := u_known (C := RX5) (T := TX5) (N := 5) (n := 5) hG (fun w hw => gm_wsX50 w hw) (hG _ gx97)
  obtain ⟨c6, i6, h6⟩ := u_known (C := RX6) (T := TX6) (N := 3) (n := 3) hG (fun w hw => gm_wsX60 w hw) (hG _ gx17)
  obtain ⟨c7, i7, h7⟩ := u_known (C := RX7) (T := TX7) (N := 4) (n := 4) hG (fun w hw => gm_wsX70 w hw) (hG _ gx38)
  obtain ⟨c8, i8, h8⟩ := u_known (C := RX8) (T := TX8) (N := 9) (n := 9) hG (fun w hw => gm_wsX80 w hw) (hG _ gx26)
  obtain ⟨c9, i9, h9⟩ := u_known (C := RX9) (T := TX9) (N := 11) (n := 11) hG (fun w hw => gm_wsX90 w hw) (hG _ gx34)
  obtain ⟨c10, i10, h10⟩ := u_known (C := RX10) (T := TX10) (N := 5) (n := 5) hG (fun w hw => gm_wsX100 w hw) (hG _ gx30)
  obtain ⟨c11, i11, h11⟩ := u_known (C := RX11) (T := TX11) (N := 15) (n := 15) hG (fun w hw => gm_wsX110 w hw) (hG _ gx1)
  obtain ⟨c12, i12, h12⟩ := u_known (C := RX12) (T := TX12) (N := 67) (n := 67) hG (fun w hw => gm_wsX120 w hw) (hG _ gx4)
  obtain ⟨cD, aD, bD⟩ := arr_known (hG (Cond.arrayClass .double) gx120)
  obtain ⟨cI, aI, bI⟩ := arr_known (hG (Cond.arrayClass .int) gx14)
  obtain ⟨cJ, aJ, bJ⟩ := arr_known (hG (Cond.arrayClass .long) gx6)
  obtain ⟨cZ, aZ, bZ⟩ := arr_known (hG (Cond.arrayClass .boolean) gx188)
  refine ⟨(fun k => [c0, c1, c2, c3, c4, c5, c6, c7, c8, c9, c10, c11, c12].getD k c0, fun k => [i0, i1, i2, i3, i4, i5, i6, i7, i8, i9, i10, i11, i12].getD k i0), fun k => [cD, cI, cJ, cZ].getD (k - 13) cD, fun k q hq => ?_, fun k q hq => ?_⟩
  · match k, hq with
    | 0, hq => cases hq; exact h0
    | 1, hq => cases hq; exact h1
    | 2, hq => cases hq; exact h2
    | 3, hq => cases hq; exact h3
    | 4, hq => cases hq; exact h4
    | 5, hq => cases hq; exact h5
    | 6, hq => cases hq; exact h6
    | 7, hq => cases hq; exact h7
    | 8, hq => cases hq; exact h8
    | 9, hq => cases hq; exact h9
    | 10, hq => cases hq; exact h10
    | 11, hq => cases hq; exact h11
    | 12, hq => cases hq; exact h12
    | k + 13, hq => simp [vwCl] at hq
  · match k, hq with
    | 0, hq => cases hq; exact ⟨aD, bD⟩
    | 1, hq => cases hq; exact ⟨aI, bI⟩
    | 2, hq => cases hq; exact ⟨aJ, bJ⟩
    | 3, hq => cases hq; exact ⟨aZ, bZ⟩
    | k + 4, hq => simp [gtys] at hq
end GIVEN
