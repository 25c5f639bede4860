/-! part 96: how many states there are -/
section ALLN
def fil (cap k : Nat) : Nat := if cap ≤ 1 then 1 + k else 1 + k + k * (k + 1) / 2
def allN (cap lab ack cop : Nat) : Nat := 4 * lab * lab * ack * cop ^ (2 * lab) * fil cap (2 * lab) * fil cap lab
theorem i64_small : ∀ k : Fin 64, (Int32.ofNat k.val).toInt64 = Int64.ofNat k.val := by decide +kernel
theorem fil_two : ∀ (c : Fin 3) (l : Fin 5), fX7_fillings (Int32.ofNat c.val) (2 * Int32.ofNat l.val) = some (Int64.ofNat (fil c.val (2 * l.val))) := by decide +kernel
theorem fil_one : ∀ (c : Fin 3) (l : Fin 5), fX7_fillings (Int32.ofNat c.val) (Int32.ofNat l.val) = some (Int64.ofNat (fil c.val l.val)) := by decide +kernel
theorem i64_mul (a b : Nat) : Int64.ofNat a * Int64.ofNat b = Int64.ofNat (a * b) := (Int64.ofNat_mul a b).symm
theorem allStates_eq {cap lab ack cop F : Nat} (hs : Stt cap lab ack cop) (hF : 100 ≤ F) : fX7_allStates F (Int32.ofNat cap) (Int32.ofNat lab) (Int32.ofNat ack) (Int32.ofNat cop) = some (Int64.ofNat (allN cap lab ack cop)) := by
  obtain ⟨h1, h2, h3, h4⟩ := hs
  unfold fX7_allStates
  have e2 : (2 : Int32) * Int32.ofNat lab = Int32.ofNat (2 * lab) := i32_mul 2 lab
  have el := i64_small ⟨lab, by omega⟩
  have ea := i64_small ⟨ack, by omega⟩
  have ec := i64_small ⟨cop, by omega⟩
  dsimp only at el ea ec
  have key := gl_for (st := fun u1 : (Int64 × Int32) => fX7_allStates_S24 F (Int32.ofNat cap) (Int32.ofNat lab) (Int32.ofNat ack) (Int32.ofNat cop) u1.1 u1.2) (out := Int64.ofNat (4 * lab * lab * ack * cop ^ (2 * lab))) (2 * lab) (fun k => (Int64.ofNat (4 * lab * lab * ack * cop ^ k), Int32.ofNat k)) (fun k hk => by
    unfold fX7_allStates_S24
    dsimp only
    rw [e2, if_neg (fun z => by have := (i32_le (by omega) (by omega)).mp z; omega), ec, i64_mul, i32_succ, Nat.mul_assoc _ _ cop, ← Nat.pow_succ]) (by
    unfold fX7_allStates_S24
    dsimp only
    rw [e2, if_pos ((i32_le (by omega) (by omega)).mpr (Nat.le_refl _))]) (F := F) (by omega)
  have es : (((4 : Int64) * (Int32.ofNat lab).toInt64) * (Int32.ofNat lab).toInt64) * (Int32.ofNat ack).toInt64 = Int64.ofNat (4 * lab * lab * ack * cop ^ 0) := by
    rw [el, ea, show (4 : Int64) = Int64.ofNat 4 from rfl, i64_mul, i64_mul, i64_mul, Nat.pow_zero, Nat.mul_one]
  rw [es]
  have key2 := key
  rw [show (Int64.ofNat (4 * lab * lab * ack * cop ^ 0), Int32.ofNat 0) = (Int64.ofNat (4 * lab * lab * ack * cop ^ 0), (0 : Int32)) from rfl] at key2
  have f2 := fil_two ⟨cap, by omega⟩ ⟨lab, by omega⟩
  have f1 := fil_one ⟨cap, by omega⟩ ⟨lab, by omega⟩
  dsimp only at f1 f2
  rw [key2, Option.bind_some, f2, Option.bind_some, f1, Option.bind_some, i64_mul, i64_mul]
  rfl
end ALLN
