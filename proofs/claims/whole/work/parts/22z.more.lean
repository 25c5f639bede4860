/-! part 22z: a row of booleans written -/
section GZ
variable {p : Program} {l : Launch} {e : Env} {R : Room} {s : State} {M : MethodId} {args : Array Value} {below : List Frame} {meth : Method} {c : Code} {H : Heap} {locs : List Loc} {cells slots : Nat} {Q : State → Prop}
variable {cc : ByteArray} {pc : Nat} {ls : Array Slot} {rest : List Value} {D : va_G} {cy : Nat → ClassId} {A : Nat → Prop} {N : Nat} {q : Nat → Nat} {m : Nat → Value} {a : Nat → vp_A} {H0 : Heap}
theorem g_zast (hx : p.tables.exec = Jvm.exec) (hb : c.code = cc) (hW : GW D cy A N q m a s H) (hS : va_S A H0 H locs) {o : Nat} (ho : o < N) (hk : gk o = 16) {n : Nat} {f : Nat → Int32} (hv : a o = (n, .inl f)) {i x : Int32} (hin : vp_in i n) (hz : vp_nar .boolean x = x) (hdg : decode cc pc = .ok (.bastore, 1))
    (kk : ∀ (a' : Nat → vp_A) (H1 : Heap) (locs1 : List Loc), a' o = (n, .inl (upd f i.toNatClampNeg x)) → (∀ j, Nat.beq j o = false → a' j = a j) → GW D cy A N q m a' s H1 → va_S A H0 H1 locs1 → W p l e R s M args below meth c H1 locs1 cells slots Q (F0 M (pc + 1) ls rest)) : W p l e R s M args below meth c H locs cells slots Q (F0 M pc ls (.int x :: .int i :: .ref (q o) :: rest)) := by
  obtain ⟨hP, hK, hD⟩ := hW
  have he : (gw cy N q m a)[o]? = some (q o, .inl (cy 16, n, .inl f)) := by rw [gw_at ho, gcont_r hk (by decide), hv]
  refine va_zast (D := D) hx hb hK hP hD hS o 3 he rfl hin hdg fun H1 locs1 hP1 hD1 hS1 => ?_
  rw [hz, g_arr hk (by decide)] at hP1 hD1
  exact kk _ H1 locs1 (va_up_self _ _ _) (fun j hj => va_up_ne _ _ (fun z => by rw [z] at hj; simp at hj)) ⟨hP1, hK, hD1⟩ hS1
end GZ
