/-! part 9zg: what holds between two calls of the law -/
section LAWI
def iv (m : Nat → Value) (j : Nat) : Int32 := match m j with
  | .int x => x
  | _ => 0
def lv (m : Nat → Value) (j : Nat) : Int64 := match m j with
  | .long x => x
  | _ => 0
def ai (a : Nat → vp_A) (k : Nat) : Nat → Int32 := match (a k).2 with
  | .inl f => f
  | _ => fun _ => 0
def al (a : Nat → vp_A) (k : Nat) : Nat → Int64 := match (a k).2 with
  | .inr (.inl f) => f
  | _ => fun _ => 0
def ad (a : Nat → vp_A) (k : Nat) : Nat → UInt64 := match (a k).2 with
  | .inr (.inr (.inr (.inl f))) => f
  | _ => fun _ => 0
theorem iv_eq {m : Nat → Value} {j : Nat} {x : Int32} (h : m j = .int x) : iv m j = x := by unfold iv; rw [h]
theorem lv_eq {m : Nat → Value} {j : Nat} {x : Int64} (h : m j = .long x) : lv m j = x := by unfold lv; rw [h]
theorem ai_eq {a : Nat → vp_A} {k n : Nat} {f : Nat → Int32} (h : a k = (n, .inl f)) : ai a k = f := by unfold ai; rw [h]
theorem al_eq {a : Nat → vp_A} {k n : Nat} {f : Nat → Int64} (h : a k = (n, .inr (.inl f))) : al a k = f := by unfold al; rw [h]
theorem ad_eq {a : Nat → vp_A} {k n : Nat} {f : Nat → UInt64} (h : a k = (n, .inr (.inr (.inr (.inl f))))) : ad a k = f := by unfold ad; rw [h]
theorem iv_same {m m' : Nat → Value} {j : Nat} (h : m' j = m j) : iv m' j = iv m j := by unfold iv; rw [h]
theorem lv_same {m m' : Nat → Value} {j : Nat} (h : m' j = m j) : lv m' j = lv m j := by unfold lv; rw [h]
theorem ai_same {a a' : Nat → vp_A} {k : Nat} (h : a' k = a k) : ai a' k = ai a k := by unfold ai; rw [h]
theorem al_same {a a' : Nat → vp_A} {k : Nat} (h : a' k = a k) : al a' k = al a k := by unfold al; rw [h]
def ivL : List Nat := [9, 10, 11, 13, 14, 200, 500, 801, 802, 1106, 1107, 1108, 2400, 2402, 2403, 2404, 2705, 2707, 2708, 2710, 2802, 2803, 3101, 3102, 4206, 4207, 6900, 6901, 6902, 6903, 6906, 6909, 6911, 6912, 6915, 6917, 6918, 6920, 6921, 6922, 6927, 6935, 6943, 6944, 6945, 6955, 6957, 6958, 6959, 6960, 6962, 6963, 6964, 6965, 6966]
def lvL : List Nat := [8, 12, 201, 501, 2706, 2709, 6904, 6913, 6919, 6961]
def aiT : List (Nat × Nat) := [(1, 8), (4, 41), (10, 10), (13, 64), (15, 64), (17, 64), (19, 4), (21, 4), (23, 4), (26, 264), (30, 6001), (33, 10), (35, 60000), (37, 16384), (44, 6000), (46, 6000), (48, 6000), (50, 6000), (52, 6000), (54, 6000), (57, 6000), (59, 6000), (61, 6000), (63, 6001), (65, 60000), (67, 10), (70, 30), (71, 8), (72, 40), (73, 40), (74, 30), (75, 264), (76, 40), (77, 40), (78, 40), (80, 16384), (81, 6002), (82, 84000), (83, 84000), (84, 84000), (85, 84000), (86, 84000), (87, 6001), (88, 6001), (89, 6001), (90, 6001), (91, 6001), (92, 6001), (93, 6001), (94, 6001), (95, 6001), (96, 6002), (97, 6001), (100, 25), (101, 25), (102, 25), (103, 1681)]
def alT : List (Nat × Nat) := [(38, 6000), (79, 6001), (104, 1)]
def adT : List (Nat × Nat) := [(98, 6001), (99, 6001)]
def TYM (m : Nat → Value) : Prop := (∀ j, nel j ivL = true → m j = .int (iv m j)) ∧ (∀ j, nel j lvL = true → m j = .long (lv m j))
def TYA (a : Nat → vp_A) : Prop := (∀ p, p ∈ aiT → a p.1 = (p.2, .inl (ai a p.1))) ∧ (∀ p, p ∈ alT → a p.1 = (p.2, .inr (.inl (al a p.1)))) ∧ (∀ p, p ∈ adT → a p.1 = (p.2, .inr (.inr (.inr (.inl (ad a p.1))))))
theorem tym_off {m m' : Nat → Value} {W : List Nat} (h : TYM m) (ho : ∀ j, nel j W = false → m' j = m j) (hw : ∀ j, j ∈ W → (nel j ivL = true → ∃ x, m' j = .int x) ∧ (nel j lvL = true → ∃ x, m' j = .long x)) : TYM m' := by
  refine ⟨fun j hj => ?_, fun j hj => ?_⟩
  · by_cases hW : nel j W = true
    · obtain ⟨x, hx⟩ := (hw j (nel_mem.mp hW)).1 hj
      rw [iv_eq hx]; exact hx
    · have e := ho j (by cases hh : nel j W with | true => exact absurd hh hW | false => rfl)
      rw [iv_same e, e]; exact h.1 j hj
  · by_cases hW : nel j W = true
    · obtain ⟨x, hx⟩ := (hw j (nel_mem.mp hW)).2 hj
      rw [lv_eq hx]; exact hx
    · have e := ho j (by cases hh : nel j W with | true => exact absurd hh hW | false => rfl)
      rw [lv_same e, e]; exact h.2 j hj
theorem tya_off {a a' : Nat → vp_A} {W : List Nat} (h : TYA a) (ho : ∀ j, nel j W = false → a' j = a j) (hw : ∀ j, j ∈ W → (∀ n, (j, n) ∈ aiT → ∃ f, a' j = (n, .inl f)) ∧ (∀ n, (j, n) ∈ alT → ∃ f, a' j = (n, .inr (.inl f))) ∧ (∀ n, (j, n) ∈ adT → ∃ f, a' j = (n, .inr (.inr (.inr (.inl f)))))) : TYA a' := by
  have hoff : ∀ j, ¬ nel j W = true → a' j = a j := fun j hW => ho j (by cases hh : nel j W with | true => exact absurd hh hW | false => rfl)
  refine ⟨fun p hp => ?_, fun p hp => ?_, fun p hp => ?_⟩
  · by_cases hW : nel p.1 W = true
    · obtain ⟨f, hf⟩ := (hw p.1 (nel_mem.mp hW)).1 p.2 hp
      rw [ai_eq hf]; exact hf
    · rw [ai_same (hoff _ hW), hoff _ hW]; exact h.1 p hp
  · by_cases hW : nel p.1 W = true
    · obtain ⟨f, hf⟩ := (hw p.1 (nel_mem.mp hW)).2.1 p.2 hp
      rw [al_eq hf]; exact hf
    · rw [al_same (hoff _ hW), hoff _ hW]; exact h.2.1 p hp
  · by_cases hW : nel p.1 W = true
    · obtain ⟨f, hf⟩ := (hw p.1 (nel_mem.mp hW)).2.2 p.2 hp
      rw [ad_eq hf]; exact hf
    · rw [show ad a' p.1 = ad a p.1 by unfold ad; rw [hoff _ hW], hoff _ hW]; exact h.2.2 p hp
def DXw (cap : Nat) (m : Nat → Value) (a : Nat → vp_A) : Prop := DX cap (lv m 8) (iv m 9) (iv m 10) (iv m 200) (lv m 201) (iv m 500) (lv m 501) (ai a 1) (lv m 6904) (iv m 6906) (iv m 6909) (iv m 6911) (ai a 70) (ai a 71) (ai a 72) (ai a 73)
def IXw (cap : Nat) (m : Nat → Value) (a : Nat → vp_A) : Prop := Ix (iv m 11) (lv m 12) (iv m 13) (iv m 14) (iv m 6912) (lv m 6913) (iv m 6915) (ai a 74) cap
def TXw (m : Nat → Value) (a : Nat → vp_A) : Prop := Tx (iv m 2400) (ai a 26) (iv m 6917) (ai a 75)
def SVw (F cap lab ack cop : Nat) (m : Nat → Value) (a : Nat → vp_A) : Prop := SV F cap lab ack cop (lv m 2706) (iv m 2707) (iv m 2708) (iv m 2802) (iv m 2803) (ai a 30) (ai a 35) (al a 38) (ai a 44) (ai a 57) (ai a 59)
def ENw (F cap lab cop : Nat) (m : Nat → Value) : Prop := ENK F cap lab cop (lv m 2709) (iv m 2710)
def CEw (F cap lab ack cop : Nat) (m : Nat → Value) (a : Nat → vp_A) : Prop := CEN F cap lab ack cop (iv m 2705) (ai a 67)
/-- the settings stand in the Rules at slot kr and in the model -/
def STw (N : Nat) (q : Nat → Nat) (kr cap lab ack cop : Nat) (m : Nat → Value) : Prop := (kr < N ∧ gk kr = 7 ∧ m 7 = .ref (q kr)) ∧ (m (100 * kr + 0) = .int (Int32.ofNat cap) ∧ m (100 * kr + 1) = .int (Int32.ofNat lab) ∧ m (100 * kr + 2) = .int (Int32.ofNat ack) ∧ m (100 * kr + 3) = .int (Int32.ofNat cop)) ∧ (m 6900 = .int (Int32.ofNat cap) ∧ m 6901 = .int (Int32.ofNat lab) ∧ m 6902 = .int (Int32.ofNat ack) ∧ m 6903 = .int (Int32.ofNat cop))
def INV (F N : Nat) (q : Nat → Nat) (m : Nat → Value) (a : Nat → vp_A) : Prop := 105 ≤ N ∧ SH q m ∧ TYM m ∧ TYA a ∧ OD q m a ∧ ∃ kr cap lab ack cop, STw N q kr cap lab ack cop m ∧ Stt cap lab ack cop ∧ DXw cap m a ∧ IXw cap m a ∧ TXw m a ∧ SVw F cap lab ack cop m a ∧ ENw F cap lab cop m ∧ CEw F cap lab ack cop m a
theorem stw_off {N : Nat} {q : Nat → Nat} {kr cap lab ack cop : Nat} {m m' : Nat → Value} {W : List Nat} (h : STw N q kr cap lab ack cop m) (ho : ∀ j, nel j W = false → m' j = m j) (h7 : nel 7 W = false) (hw : W.all (fun w => !(Nat.beq (gk (w / 100)) 7)) = true) (h0 : nel 6900 W = false) (h1 : nel 6901 W = false) (h2 : nel 6902 W = false) (h3 : nel 6903 W = false) : STw N q kr cap lab ack cop m' := by
  obtain ⟨⟨a1, a2, a3⟩, ⟨b0, b1, b2, b3⟩, c0, c1, c2, c3⟩ := h
  refine ⟨⟨a1, a2, (ho 7 h7).trans a3⟩, ⟨(off_kr ho a2 0 rfl hw).trans b0, (off_kr ho a2 1 rfl hw).trans b1, (off_kr ho a2 2 rfl hw).trans b2, (off_kr ho a2 3 rfl hw).trans b3⟩, (ho _ h0).trans c0, (ho _ h1).trans c1, (ho _ h2).trans c2, (ho _ h3).trans c3⟩
theorem od_off {q : Nat → Nat} {m m' : Nat → Value} {a a' : Nat → vp_A} {W V : List Nat} (h : OD q m a) (ho : ∀ j, nel j W = false → m' j = m j) (hv : ∀ j, nel j V = false → a' j = a j) (h0 : nel 3900 W = false) (h1 : nel 3901 W = false) (v0 : nel 40 V = false) (v1 : nel 41 V = false) : OD q m' a' := by
  obtain ⟨kn, kt, hK, e1, e2, AN, AT, e3, e4⟩ := h
  refine ⟨kn, kt, hK, (ho _ h0).trans e1, (ho _ h1).trans e2, AN, AT, ?_, ?_⟩
  · rcases hK with ⟨rfl, rfl⟩ | ⟨rfl, rfl⟩
    · exact (hv _ v0).trans e3
    · exact (hv _ v1).trans e3
  · rcases hK with ⟨rfl, rfl⟩ | ⟨rfl, rfl⟩
    · exact (hv _ v1).trans e4
    · exact (hv _ v0).trans e4
theorem ixw_off {cap : Nat} {m m' : Nat → Value} {a a' : Nat → vp_A} (h : IXw cap m a) (e : ∀ j, nel j [11, 12, 13, 14, 6912, 6913, 6915] = true → m' j = m j) (e' : a' 74 = a 74) : IXw cap m' a' := by
  unfold IXw
  rw [iv_same (e 11 rfl), lv_same (e 12 rfl), iv_same (e 13 rfl), iv_same (e 14 rfl), iv_same (e 6912 rfl), lv_same (e 6913 rfl), iv_same (e 6915 rfl), ai_same e']
  exact h
theorem txw_off {m m' : Nat → Value} {a a' : Nat → vp_A} (h : TXw m a) (e : ∀ j, nel j [2400, 6917] = true → m' j = m j) (e1 : a' 26 = a 26) (e2 : a' 75 = a 75) : TXw m' a' := by
  unfold TXw
  rw [iv_same (e 2400 rfl), iv_same (e 6917 rfl), ai_same e1, ai_same e2]
  exact h
theorem svw_off {F cap lab ack cop : Nat} {m m' : Nat → Value} {a a' : Nat → vp_A} (h : SVw F cap lab ack cop m a) (e : ∀ j, nel j [2706, 2707, 2708, 2802, 2803] = true → m' j = m j) (e' : ∀ j, nel j [30, 35, 38, 44, 57, 59] = true → a' j = a j) : SVw F cap lab ack cop m' a' := by
  unfold SVw
  rw [lv_same (e 2706 rfl), iv_same (e 2707 rfl), iv_same (e 2708 rfl), iv_same (e 2802 rfl), iv_same (e 2803 rfl), ai_same (e' 30 rfl), ai_same (e' 35 rfl), al_same (e' 38 rfl), ai_same (e' 44 rfl), ai_same (e' 57 rfl), ai_same (e' 59 rfl)]
  exact h
theorem enw_off {F cap lab cop : Nat} {m m' : Nat → Value} (h : ENw F cap lab cop m) (e : ∀ j, nel j [2709, 2710] = true → m' j = m j) : ENw F cap lab cop m' := by
  unfold ENw
  rw [lv_same (e 2709 rfl), iv_same (e 2710 rfl)]
  exact h
theorem cew_off {F cap lab ack cop : Nat} {m m' : Nat → Value} {a a' : Nat → vp_A} (h : CEw F cap lab ack cop m a) (e : m' 2705 = m 2705) (e' : a' 67 = a 67) : CEw F cap lab ack cop m' a' := by
  unfold CEw
  rw [iv_same e, ai_same e']
  exact h
theorem dxw_off {cap : Nat} {m m' : Nat → Value} {a a' : Nat → vp_A} (h : DXw cap m a) (e : ∀ j, nel j [8, 9, 10, 200, 201, 500, 501, 6904, 6906, 6909, 6911] = true → m' j = m j) (e' : ∀ j, nel j [1, 70, 71, 72, 73] = true → a' j = a j) : DXw cap m' a' := by
  unfold DXw
  rw [lv_same (e 8 rfl), iv_same (e 9 rfl), iv_same (e 10 rfl), iv_same (e 200 rfl), lv_same (e 201 rfl), iv_same (e 500 rfl), lv_same (e 501 rfl), ai_same (e' 1 rfl), lv_same (e 6904 rfl), iv_same (e 6906 rfl), iv_same (e 6909 rfl), iv_same (e 6911 rfl), ai_same (e' 70 rfl), ai_same (e' 71 rfl), ai_same (e' 72 rfl), ai_same (e' 73 rfl)]
  exact h
/-- two changes one after the other -/
theorem off2 {α : Type} {m m1 m2 : Nat → α} {W1 W2 : List Nat} (h1 : ∀ j, nel j W1 = false → m1 j = m j) (h2 : ∀ j, nel j W2 = false → m2 j = m1 j) {L : List Nat} (hL1 : L.all (fun k => !(nel k W1)) = true) (hL2 : L.all (fun k => !(nel k W2)) = true) : ∀ j, nel j L = true → m2 j = m j := by
  intro j hj
  have hm := nel_mem.mp hj
  have a1 := List.all_eq_true.mp hL1 j hm
  have a2 := List.all_eq_true.mp hL2 j hm
  rw [Bool.not_eq_true'] at a1 a2
  exact (h2 j a2).trans (h1 j a1)
theorem gMi_mono {l : Launch} {y : MethodName} {b : ByteArray} {n : Nat} {r : Option FieldType} {rm : Room} {D : va_G} {cy : Nat → ClassId} {N : Nat} {q : Nat → Nat} {m : Nat → Value} {a : Nat → vp_A} {sz : Nat} {av : List Value} {post post' : Int32 → (Nat → Value) → (Nat → vp_A) → Prop} (h : gMi l y b n r rm D cy N q m a sz av post) (hp : ∀ r m' a', post r m' a' → post' r m' a') : gMi l y b n r rm D cy N q m a sz av post' := by
  intro p e ha hc hk s mm args below hf hap hP hK
  obtain ⟨nn, o, h1, h2, h3, ⟨⟨r1, u, e1, e2, e3⟩, hF⟩, hL⟩ := h p e ha hc hk s mm args below hf hap hP hK
  exact ⟨nn, o, h1, h2, h3, ⟨⟨r1, u, e1, hp r1 u.1 u.2 e2, e3⟩, hF⟩, hL⟩
theorem gMl_mono {l : Launch} {y : MethodName} {b : ByteArray} {n : Nat} {r : Option FieldType} {rm : Room} {D : va_G} {cy : Nat → ClassId} {N : Nat} {q : Nat → Nat} {m : Nat → Value} {a : Nat → vp_A} {sz : Nat} {av : List Value} {post post' : Int64 → (Nat → Value) → (Nat → vp_A) → Prop} (h : gMl l y b n r rm D cy N q m a sz av post) (hp : ∀ r m' a', post r m' a' → post' r m' a') : gMl l y b n r rm D cy N q m a sz av post' := by
  intro p e ha hc hk s mm args below hf hap hP hK
  obtain ⟨nn, o, h1, h2, h3, ⟨⟨r1, u, e1, e2, e3⟩, hF⟩, hL⟩ := h p e ha hc hk s mm args below hf hap hP hK
  exact ⟨nn, o, h1, h2, h3, ⟨⟨r1, u, e1, hp r1 u.1 u.2 e2, e3⟩, hF⟩, hL⟩
theorem gMia_mono {l : Launch} {y : MethodName} {b : ByteArray} {n : Nat} {r : Option FieldType} {rm : Room} {D : va_G} {cy : Nat → ClassId} {N : Nat} {q : Nat → Nat} {m : Nat → Value} {a : Nat → vp_A} {sz : Nat} {av : List Value} {mc ms : Nat} {post post' : Int32 → (Nat → Value) → (Nat → vp_A) → Prop} (h : gMia l y b n r rm D cy N q m a sz av mc ms post) (hp : ∀ r m' a', post r m' a' → post' r m' a') : gMia l y b n r rm D cy N q m a sz av mc ms post' := by
  intro p e ha hc hk s mm args below hf hap hP hK
  obtain ⟨nn, o, h1, h2, h3, ⟨⟨r1, u, e1, e2, e3⟩, hF⟩, hL⟩ := h p e ha hc hk s mm args below hf hap hP hK
  exact ⟨nn, o, h1, h2, h3, ⟨⟨r1, u, e1, hp r1 u.1 u.2 e2, e3⟩, hF⟩, hL⟩
theorem eMi_mono {l : Launch} {y : MethodName} {b : ByteArray} {n : Nat} {r : Option FieldType} {rm : Room} {D : va_G} {cy : Nat → ClassId} {N : Nat} {q : Nat → Nat} {m : Nat → Value} {a : Nat → vp_A} {sz : Nat} {av : List Value} {E : (Nat → Prop) → State → Heap → Prop} {post post' : Int32 → (Nat → Value) → (Nat → vp_A) → Prop} (h : eMi l y b n r rm D cy N q m a sz av E post) (hp : ∀ r m' a', post r m' a' → post' r m' a') : eMi l y b n r rm D cy N q m a sz av E post' := by
  intro p e ha hc hk s mm args below hf hap hP hK
  obtain ⟨nn, o, h1, h2, h3, ⟨⟨r1, u, e1, e2, e3⟩, hF⟩, hL⟩ := h p e ha hc hk s mm args below hf hap hP hK
  exact ⟨nn, o, h1, h2, h3, ⟨⟨r1, u, e1, hp r1 u.1 u.2 e2, e3⟩, hF⟩, hL⟩
end LAWI
