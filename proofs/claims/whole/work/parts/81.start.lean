/-! ===== both objects made: the invariant holds ===== -/
section START
variable {n : Nat} {c : Nat → Nat} {F : Nat → PE} {S : PH} {L : List Nat}
theorem zW {P : PH → Prop} {i a j m v : Nat} {f : Nat → Option Nat} {fs : List Value} (h : Zs n c F S L) (hi : i < n) (ha : c i = a) (hF : F i = eR 0 m f) (hj : j < m) (hm : m < 2147483648) (hv : v < n) (hFv : F v = eO 5 fs) (hP : ∀ F' S', Zs n c F' S' L → F' i = eR 0 m (va_up f j (some (c v))) → (∀ j, j < n → j ≠ i → F' j = F j) → P S') : wR S a (nI j) (c v) P := by
  subst ha
  have hcl : (nI j).toNatClampNeg = j := nI_clamp (by omega)
  refine ⟨m, f, fs, (h.1 i hi).trans (congrArg some hF), (h.1 v hv).trans (congrArg some hFv), ?_, ?_⟩
  · rintro (q | q)
    · exact absurd q (Int32.not_lt.mpr (nI_pos' (by omega)))
    · rw [hcl] at q
      omega
  · rw [hcl]
    exact hP _ _ (Zs_up h hi _) (va_up_self _ _ _) (fun j _ hj => va_up_ne _ _ hj)
def T7 (c : Nat → Nat) (F : Nat → PE) : Prop :=
  F 0 = eO 7 [.ref (c 1), .ref (c 28), .ref (c 29), .ref (c 30), .ref (c 34)] ∧ SC c σ0 τ0 F 1 ∧ (∃ g, F 28 = eR 0 3 g ∧ ∀ k, k < 3 → g k = some (c (39 + 27 * k))) ∧ F 29 = eZ 3 (fun _ => 0) ∧
  F 30 = eO 3 [.ref (c 31), .ref (c 32), .ref (c 33)] ∧ F 31 = eJ 4096 (fun _ => 0) ∧ F 32 = eI 4096 (fun _ => 0) ∧ F 33 = eJ 64 (fun _ => 0) ∧
  F 34 = eO 4 [.ref (c 35), .ref (c 36), .ref (c 37), .ref (c 38), .null, .null, .int 0] ∧ F 35 = eJ 4096 (fun _ => 0) ∧ F 36 = eI 4096 (fun _ => 0) ∧ F 37 = eI 4096 (fun _ => 0) ∧ F 38 = eI 65 (fun _ => 0) ∧
  ∀ k, k < 3 → SC c σ0 τ0 F (39 + 27 * k)
theorem i_X7 {P : PH → List Nat → Prop} {a : Nat} (h : Zs 1 c F S L) (ha : c 0 = a) (hF : F 0 = eO 7 [.null, .null, .null, .null, .null]) (hP : ∀ c' F' S' L', Zs 120 c' F' S' L' → c' 0 = c 0 → T7 c' F' → P S' L') : wp_X7_init S L a P := by
  unfold wp_X7_init
  refine zA h (fun c1 F1 S1 L1 h1 k1 e1 o1 => ?_)
  have a1 : c1 0 = a := (k1 0 (by omega)).trans ha
  have z1 : F1 0 = _ := (o1 0 (by omega)).trans hF
  refine i_X5 (b := 1) h1 rfl e1 (fun c2 F2 S2 L2 h2 k2 o2 s2 => ?_)
  have a2 : c2 0 = a := (k2 0 (by omega)).trans a1
  have z2 : F2 0 = _ := (o2 0 (by omega)).trans z1
  refine zF h2 (by omega) a2 z2 (show 0 < 5 by omega) (fun F3 S3 h3 z3 o3 => ?_)
  refine zAF h3 (by omega) a2 z3 (show 1 < 5 by omega) (fun c4 F4 S4 L4 h4 k4 e4 z4 o4 => ?_)
  have a4 : c4 0 = a := (k4 0 (by omega)).trans a2
  refine zAF h4 (by omega) a4 z4 (show 2 < 5 by omega) (fun c5 F5 S5 L5 h5 k5 e5 z5 o5 => ?_)
  have a5 : c5 0 = a := (k5 0 (by omega)).trans a4
  refine zA h5 (fun c6 F6 S6 L6 h6 k6 e6 o6 => ?_)
  have a6 : c6 0 = a := (k6 0 (by omega)).trans a5
  have z6 : F6 0 = _ := (o6 0 (by omega)).trans z5
  refine i_X3 h6 (v := 30) (by omega) rfl e6 (fun c7 F7 S7 L7 h7 k7 o7 f7 p7_0 p7_1 p7_2 => ?_)
  have a7 : c7 0 = a := (k7 0 (by omega)).trans a6
  have z7 : F7 0 = _ := (o7 0 (by omega) (by omega)).trans z6
  refine zF h7 (by omega) a7 z7 (show 3 < 5 by omega) (fun F8 S8 h8 z8 o8 => ?_)
  refine zA h8 (fun c9 F9 S9 L9 h9 k9 e9 o9 => ?_)
  have a9 : c9 0 = a := (k9 0 (by omega)).trans a7
  have z9 : F9 0 = _ := (o9 0 (by omega)).trans z8
  refine i_X4 h9 (v := 34) (by omega) rfl e9 (fun c10 F10 S10 L10 h10 k10 o10 f10 p10_0 p10_1 p10_2 p10_3 => ?_)
  have a10 : c10 0 = a := (k10 0 (by omega)).trans a9
  have z10 : F10 0 = _ := (o10 0 (by omega) (by omega)).trans z9
  refine zF h10 (by omega) a10 z10 (show 4 < 5 by omega) (fun F11 S11 h11 z11 o11 => ?_)
  refine zR h11 (by omega) a10 z11 (k := 1) rfl ?_
  refine zA h11 (fun c12 F12 S12 L12 h12 k12 e12 o12 => ?_)
  have a12 : c12 0 = a := (k12 0 (by omega)).trans a10
  have z12 : F12 0 = _ := (o12 0 (by omega)).trans z11
  refine i_X5 (b := 39) h12 rfl e12 (fun c13 F13 S13 L13 h13 k13 o13 s13 => ?_)
  have a13 : c13 0 = a := (k13 0 (by omega)).trans a12
  have z13 : F13 0 = _ := (o13 0 (by omega)).trans z12
  have w13 : F13 28 = eR 0 3 (fun _ => none) := by rw [o13 28 (by omega), o12 28 (by omega), o11 28 (by omega) (by omega), o10 28 (by omega) (by omega), o9 28 (by omega), o8 28 (by omega) (by omega), o7 28 (by omega) (by omega), o6 28 (by omega), o5 28 (by omega) (by omega)]; exact e4
  have b13 : c13 28 = c4 28 := by rw [k13 28 (by omega), k12 28 (by omega), k10 28 (by omega), k9 28 (by omega), k7 28 (by omega), k6 28 (by omega), k5 28 (by omega)]
  rw [show c12 39 = c13 39 from (k13 39 (by omega)).symm]
  refine zW (j := 0) h13 (i := 28) (v := 39) (by omega) b13 w13 (by omega) (by omega) (by omega) s13.1 (fun F14 S14 h14 w14 o14 => ?_)
  have z14 : F14 0 = _ := (o14 0 (by omega) (by omega)).trans z13
  refine zR h14 (by omega) a13 z14 (k := 1) rfl ?_
  refine zA h14 (fun c15 F15 S15 L15 h15 k15 e15 o15 => ?_)
  have a15 : c15 0 = a := (k15 0 (by omega)).trans a13
  have z15 : F15 0 = _ := (o15 0 (by omega)).trans z14
  refine i_X5 (b := 66) h15 rfl e15 (fun c16 F16 S16 L16 h16 k16 o16 s16 => ?_)
  have a16 : c16 0 = a := (k16 0 (by omega)).trans a15
  have z16 : F16 0 = _ := (o16 0 (by omega)).trans z15
  have w16 : F16 28 = _ := (o16 28 (by omega)).trans ((o15 28 (by omega)).trans w14)
  have b16 : c16 28 = c4 28 := by rw [k16 28 (by omega), k15 28 (by omega), k13 28 (by omega), k12 28 (by omega), k10 28 (by omega), k9 28 (by omega), k7 28 (by omega), k6 28 (by omega), k5 28 (by omega)]
  rw [show c15 66 = c16 66 from (k16 66 (by omega)).symm]
  refine zW (j := 1) h16 (i := 28) (v := 66) (by omega) b16 w16 (by omega) (by omega) (by omega) s16.1 (fun F17 S17 h17 w17 o17 => ?_)
  have z17 : F17 0 = _ := (o17 0 (by omega) (by omega)).trans z16
  refine zR h17 (by omega) a16 z17 (k := 1) rfl ?_
  refine zA h17 (fun c18 F18 S18 L18 h18 k18 e18 o18 => ?_)
  have a18 : c18 0 = a := (k18 0 (by omega)).trans a16
  have z18 : F18 0 = _ := (o18 0 (by omega)).trans z17
  refine i_X5 (b := 93) h18 rfl e18 (fun c19 F19 S19 L19 h19 k19 o19 s19 => ?_)
  have a19 : c19 0 = a := (k19 0 (by omega)).trans a18
  have z19 : F19 0 = _ := (o19 0 (by omega)).trans z18
  have w19 : F19 28 = _ := (o19 28 (by omega)).trans ((o18 28 (by omega)).trans w17)
  have b19 : c19 28 = c4 28 := by rw [k19 28 (by omega), k18 28 (by omega), k16 28 (by omega), k15 28 (by omega), k13 28 (by omega), k12 28 (by omega), k10 28 (by omega), k9 28 (by omega), k7 28 (by omega), k6 28 (by omega), k5 28 (by omega)]
  rw [show c18 93 = c19 93 from (k19 93 (by omega)).symm]
  refine zW (j := 2) h19 (i := 28) (v := 93) (by omega) b19 w19 (by omega) (by omega) (by omega) s19.1 (fun F20 S20 h20 w20 o20 => ?_)
  have z20 : F20 0 = _ := (o20 0 (by omega) (by omega)).trans z19
  have C20 : ∀ j, j < 120 → c19 j = c19 j := fun _ _ => rfl
  have C19 : ∀ j, j < 120 → c19 j = c19 j := fun j hj => C20 j (by omega)
  have C18 : ∀ j, j < 94 → c19 j = c18 j := fun j hj => (C19 j (by omega)).trans (k19 j hj)
  have C17 : ∀ j, j < 93 → c19 j = c16 j := fun j hj => (C18 j (by omega)).trans (k18 j hj)
  have C16 : ∀ j, j < 93 → c19 j = c16 j := fun j hj => C17 j (by omega)
  have C15 : ∀ j, j < 67 → c19 j = c15 j := fun j hj => (C16 j (by omega)).trans (k16 j hj)
  have C14 : ∀ j, j < 66 → c19 j = c13 j := fun j hj => (C15 j (by omega)).trans (k15 j hj)
  have C13 : ∀ j, j < 66 → c19 j = c13 j := fun j hj => C14 j (by omega)
  have C12 : ∀ j, j < 40 → c19 j = c12 j := fun j hj => (C13 j (by omega)).trans (k13 j hj)
  have C11 : ∀ j, j < 39 → c19 j = c10 j := fun j hj => (C12 j (by omega)).trans (k12 j hj)
  have C10 : ∀ j, j < 39 → c19 j = c10 j := fun j hj => C11 j (by omega)
  have C9 : ∀ j, j < 35 → c19 j = c9 j := fun j hj => (C10 j (by omega)).trans (k10 j hj)
  have C8 : ∀ j, j < 34 → c19 j = c7 j := fun j hj => (C9 j (by omega)).trans (k9 j hj)
  have C7 : ∀ j, j < 34 → c19 j = c7 j := fun j hj => C8 j (by omega)
  have C6 : ∀ j, j < 31 → c19 j = c6 j := fun j hj => (C7 j (by omega)).trans (k7 j hj)
  have C5 : ∀ j, j < 30 → c19 j = c5 j := fun j hj => (C6 j (by omega)).trans (k6 j hj)
  have C4 : ∀ j, j < 29 → c19 j = c4 j := fun j hj => (C5 j (by omega)).trans (k5 j hj)
  have C3 : ∀ j, j < 28 → c19 j = c2 j := fun j hj => (C4 j (by omega)).trans (k4 j hj)
  have C2 : ∀ j, j < 28 → c19 j = c2 j := fun j hj => C3 j (by omega)
  have C1 : ∀ j, j < 2 → c19 j = c1 j := fun j hj => (C2 j (by omega)).trans (k2 j hj)
  have G20 : ∀ j, j < 120 → j ≠ 0 → j ≠ 28 → F20 j = F20 j := fun _ _ _ _ => rfl
  have G19 : ∀ j, j < 120 → j ≠ 0 → j ≠ 28 → F20 j = F19 j := fun j hj h0 h28 => (G20 j (by omega) h0 h28).trans (o20 j (by omega) h28)
  have G18 : ∀ j, j < 93 → j ≠ 0 → j ≠ 28 → F20 j = F18 j := fun j hj h0 h28 => (G19 j (by omega) h0 h28).trans (o19 j (by omega))
  have G17 : ∀ j, j < 93 → j ≠ 0 → j ≠ 28 → F20 j = F17 j := fun j hj h0 h28 => (G18 j (by omega) h0 h28).trans (o18 j (by omega))
  have G16 : ∀ j, j < 93 → j ≠ 0 → j ≠ 28 → F20 j = F16 j := fun j hj h0 h28 => (G17 j (by omega) h0 h28).trans (o17 j (by omega) h28)
  have G15 : ∀ j, j < 66 → j ≠ 0 → j ≠ 28 → F20 j = F15 j := fun j hj h0 h28 => (G16 j (by omega) h0 h28).trans (o16 j (by omega))
  have G14 : ∀ j, j < 66 → j ≠ 0 → j ≠ 28 → F20 j = F14 j := fun j hj h0 h28 => (G15 j (by omega) h0 h28).trans (o15 j (by omega))
  have G13 : ∀ j, j < 66 → j ≠ 0 → j ≠ 28 → F20 j = F13 j := fun j hj h0 h28 => (G14 j (by omega) h0 h28).trans (o14 j (by omega) h28)
  have G12 : ∀ j, j < 39 → j ≠ 0 → j ≠ 28 → F20 j = F12 j := fun j hj h0 h28 => (G13 j (by omega) h0 h28).trans (o13 j (by omega))
  have G11 : ∀ j, j < 39 → j ≠ 0 → j ≠ 28 → F20 j = F11 j := fun j hj h0 h28 => (G12 j (by omega) h0 h28).trans (o12 j (by omega))
  have G10 : ∀ j, j < 39 → j ≠ 0 → j ≠ 28 → F20 j = F10 j := fun j hj h0 h28 => (G11 j (by omega) h0 h28).trans (o11 j (by omega) h0)
  have G9 : ∀ j, j < 34 → j ≠ 0 → j ≠ 28 → F20 j = F9 j := fun j hj h0 h28 => (G10 j (by omega) h0 h28).trans (o10 j (by omega) (by omega))
  have G8 : ∀ j, j < 34 → j ≠ 0 → j ≠ 28 → F20 j = F8 j := fun j hj h0 h28 => (G9 j (by omega) h0 h28).trans (o9 j (by omega))
  have G7 : ∀ j, j < 34 → j ≠ 0 → j ≠ 28 → F20 j = F7 j := fun j hj h0 h28 => (G8 j (by omega) h0 h28).trans (o8 j (by omega) h0)
  have G6 : ∀ j, j < 30 → j ≠ 0 → j ≠ 28 → F20 j = F6 j := fun j hj h0 h28 => (G7 j (by omega) h0 h28).trans (o7 j (by omega) (by omega))
  have G5 : ∀ j, j < 30 → j ≠ 0 → j ≠ 28 → F20 j = F5 j := fun j hj h0 h28 => (G6 j (by omega) h0 h28).trans (o6 j (by omega))
  have G4 : ∀ j, j < 29 → j ≠ 0 → j ≠ 28 → F20 j = F4 j := fun j hj h0 h28 => (G5 j (by omega) h0 h28).trans (o5 j (by omega) h0)
  have G3 : ∀ j, j < 28 → j ≠ 0 → j ≠ 28 → F20 j = F3 j := fun j hj h0 h28 => (G4 j (by omega) h0 h28).trans (o4 j (by omega) h0)
  have G2 : ∀ j, j < 28 → j ≠ 0 → j ≠ 28 → F20 j = F2 j := fun j hj h0 h28 => (G3 j (by omega) h0 h28).trans (o3 j (by omega) h0)
  have G1 : ∀ j, j < 1 → j ≠ 0 → j ≠ 28 → F20 j = F1 j := fun j hj h0 h28 => (G2 j (by omega) h0 h28).trans (o2 j (by omega))
  refine hP c19 F20 S20 _ h20 ((a19).trans ha.symm) ⟨?_, ?_, ⟨_, w20, fun k hk => ?_⟩, ?_, ?_, ?_, ?_, ?_, ?_, ?_, ?_, ?_, ?_, fun k hk => ?_⟩
  · refine z20.trans ?_
    have y1 : c1 1 = c19 1 := (C1 1 (by omega)).symm
    have y28 : c4 28 = c19 28 := (C4 28 (by omega)).symm
    have y29 : c5 29 = c19 29 := (C5 29 (by omega)).symm
    have y30 : c6 30 = c19 30 := (C6 30 (by omega)).symm
    have y34 : c9 34 = c19 34 := (C9 34 (by omega)).symm
    rw [y1, y28, y29, y30, y34]
    rfl
  · refine SC_tr s2 (fun i hi => ⟨C2 (1 + i) (by omega), G2 (1 + i) (by omega) (by omega) (by omega)⟩)
  · have : k = 0 ∨ k = 1 ∨ k = 2 := by omega
    rcases this with rfl | rfl | rfl
    · rw [va_up_ne _ _ (by omega), va_up_ne _ _ (by omega), va_up_self, C13 39 (by omega)]
    · rw [va_up_ne _ _ (by omega), va_up_self, C16 66 (by omega)]
    · rw [va_up_self, C19 93 (by omega)]
  · rw [G5 29 (by omega) (by omega) (by omega)]; exact e5
  · rw [G7 30 (by omega) (by omega) (by omega)]; refine f7.trans ?_; rw [show c7 31 = c19 31 from (C7 31 (by omega)).symm, show c7 (31 + 1) = c19 32 from (C7 32 (by omega)).symm, show c7 (31 + 2) = c19 33 from (C7 33 (by omega)).symm]
  · rw [G7 31 (by omega) (by omega) (by omega)]; exact p7_0
  · rw [G7 32 (by omega) (by omega) (by omega)]; exact p7_1
  · rw [G7 33 (by omega) (by omega) (by omega)]; exact p7_2
  · rw [G10 34 (by omega) (by omega) (by omega)]; refine f10.trans ?_; rw [show c10 35 = c19 35 from (C10 35 (by omega)).symm, show c10 (35 + 1) = c19 36 from (C10 36 (by omega)).symm, show c10 (35 + 2) = c19 37 from (C10 37 (by omega)).symm, show c10 (35 + 3) = c19 38 from (C10 38 (by omega)).symm]
  · rw [G10 35 (by omega) (by omega) (by omega)]; exact p10_0
  · rw [G10 36 (by omega) (by omega) (by omega)]; exact p10_1
  · rw [G10 37 (by omega) (by omega) (by omega)]; exact p10_2
  · rw [G10 38 (by omega) (by omega) (by omega)]; exact p10_3
  · have : k = 0 ∨ k = 1 ∨ k = 2 := by omega
    rcases this with rfl | rfl | rfl
    · exact SC_tr (b := 39) s13 (fun i hi => ⟨C13 (39 + i) (by omega), G13 (39 + i) (by omega) (by omega) (by omega)⟩)
    · exact SC_tr (b := 66) s16 (fun i hi => ⟨C16 (66 + i) (by omega), G16 (66 + i) (by omega) (by omega) (by omega)⟩)
    · exact SC_tr (b := 93) s19 (fun i hi => ⟨C19 (93 + i) (by omega), G19 (93 + i) (by omega) (by omega) (by omega)⟩)
def al0 : Nat → Int32 := (upd (upd (upd (upd (upd (upd (upd (upd (upd (fun _ => 0) 2 1) 6 0) 1130 1) 7 1) 5226 1) 8 2) 9322 1) 9 3) 13418 1)
theorem i_X8 {P : PH → List Nat → Prop} {a : Nat} (h : Zs 121 c F S L) (ha : c 120 = a) (hF : F 120 = eO 8 [.null, .null, .int 0, .int 0, .int 0, .int 0, .null, .null, .null, .null, .null, .null, .null, .int 0]) (hP : ∀ c' F' S' L', Zs 130 c' F' S' L' → (∀ j, j < 121 → c' j = c j) → (∀ j, j < 120 → F' j = F j) → F' 120 = eO 8 [.ref (c' 121), .ref (c' 122), .int 0, .int 0, .int 0, .int 0, .ref (c' 123), .ref (c' 124), .ref (c' 125), .ref (c' 126), .ref (c' 127), .ref (c' 128), .ref (c' 129), .int 0] → F' 121 = eI 70056 al0 → F' 122 = eZ 3 (fun _ => 0) → F' 123 = eI 610 (fun _ => 0) → F' 124 = eI 610 (fun _ => 0) → F' 125 = eZ 61 (fun _ => 0) → F' 126 = eI 4096 (fun _ => 0) → F' 127 = eJ 4096 (fun _ => 0) → F' 128 = eJ 4096 (fun _ => 0) → F' 129 = eI 4096 (fun _ => 0) → P S' L') : wp_X8_init S L a P := by
  unfold wp_X8_init
  refine zAF h (by omega) ha hF (show 0 < 14 by omega) (fun c1 F1 S1 L1 h1 k1 e1 f1 o1 => ?_)
  have a1 : c1 120 = a := (k1 120 (by omega)).trans ha
  refine zAF h1 (by omega) a1 f1 (show 1 < 14 by omega) (fun c2 F2 S2 L2 h2 k2 e2 f2 o2 => ?_)
  have a2 : c2 120 = a := (k2 120 (by omega)).trans a1
  refine zAF h2 (by omega) a2 f2 (show 6 < 14 by omega) (fun c3 F3 S3 L3 h3 k3 e3 f3 o3 => ?_)
  have a3 : c3 120 = a := (k3 120 (by omega)).trans a2
  refine zAF h3 (by omega) a3 f3 (show 7 < 14 by omega) (fun c4 F4 S4 L4 h4 k4 e4 f4 o4 => ?_)
  have a4 : c4 120 = a := (k4 120 (by omega)).trans a3
  refine zAF h4 (by omega) a4 f4 (show 8 < 14 by omega) (fun c5 F5 S5 L5 h5 k5 e5 f5 o5 => ?_)
  have a5 : c5 120 = a := (k5 120 (by omega)).trans a4
  refine zAF h5 (by omega) a5 f5 (show 9 < 14 by omega) (fun c6 F6 S6 L6 h6 k6 e6 f6 o6 => ?_)
  have a6 : c6 120 = a := (k6 120 (by omega)).trans a5
  refine zAF h6 (by omega) a6 f6 (show 10 < 14 by omega) (fun c7 F7 S7 L7 h7 k7 e7 f7 o7 => ?_)
  have a7 : c7 120 = a := (k7 120 (by omega)).trans a6
  refine zAF h7 (by omega) a7 f7 (show 11 < 14 by omega) (fun c8 F8 S8 L8 h8 k8 e8 f8 o8 => ?_)
  have a8 : c8 120 = a := (k8 120 (by omega)).trans a7
  refine zAF h8 (by omega) a8 f8 (show 12 < 14 by omega) (fun c9 F9 S9 L9 h9 k9 e9 f9 o9 => ?_)
  have a9 : c9 120 = a := (k9 120 (by omega)).trans a8
  have C9 : ∀ j, j < 130 → c9 j = c9 j := fun _ _ => rfl
  have C8 : ∀ j, j < 129 → c9 j = c8 j := fun j hj => (C9 j (by omega)).trans (k9 j hj)
  have C7 : ∀ j, j < 128 → c9 j = c7 j := fun j hj => (C8 j (by omega)).trans (k8 j hj)
  have C6 : ∀ j, j < 127 → c9 j = c6 j := fun j hj => (C7 j (by omega)).trans (k7 j hj)
  have C5 : ∀ j, j < 126 → c9 j = c5 j := fun j hj => (C6 j (by omega)).trans (k6 j hj)
  have C4 : ∀ j, j < 125 → c9 j = c4 j := fun j hj => (C5 j (by omega)).trans (k5 j hj)
  have C3 : ∀ j, j < 124 → c9 j = c3 j := fun j hj => (C4 j (by omega)).trans (k4 j hj)
  have C2 : ∀ j, j < 123 → c9 j = c2 j := fun j hj => (C3 j (by omega)).trans (k3 j hj)
  have C1 : ∀ j, j < 122 → c9 j = c1 j := fun j hj => (C2 j (by omega)).trans (k2 j hj)
  have q9 : F9 120 = eO 8 [.ref (c9 121), .ref (c9 122), .int 0, .int 0, .int 0, .int 0, .ref (c9 123), .ref (c9 124), .ref (c9 125), .ref (c9 126), .ref (c9 127), .ref (c9 128), .ref (c9 129), .int 0] := by
    refine f9.trans ?_
    rw [show c1 121 = c9 121 from (C1 121 (by omega)).symm, show c2 (121 + 1) = c9 122 from (C2 122 (by omega)).symm, show c3 (121 + 1 + 1) = c9 123 from (C3 123 (by omega)).symm, show c4 (121 + 1 + 1 + 1) = c9 124 from (C4 124 (by omega)).symm, show c5 (121 + 1 + 1 + 1 + 1) = c9 125 from (C5 125 (by omega)).symm, show c6 (121 + 1 + 1 + 1 + 1 + 1) = c9 126 from (C6 126 (by omega)).symm, show c7 (121 + 1 + 1 + 1 + 1 + 1 + 1) = c9 127 from (C7 127 (by omega)).symm, show c8 (121 + 1 + 1 + 1 + 1 + 1 + 1 + 1) = c9 128 from (C8 128 (by omega)).symm]
    rfl
  have l9 : F9 121 = eI 70056 (fun _ => 0) := by rw [o9 121 (by omega) (by omega), o8 121 (by omega) (by omega), o7 121 (by omega) (by omega), o6 121 (by omega) (by omega), o5 121 (by omega) (by omega), o4 121 (by omega) (by omega), o3 121 (by omega) (by omega), o2 121 (by omega) (by omega)]; exact e1
  refine zR h9 (by omega) a9 q9 (k := 0) rfl ?_
  refine zI (j := 2) h9 (i := 121) (by omega) rfl l9 (by omega) (by omega) (fun F10 S10 h10 l10 o10 => ?_)
  have q10 : F10 120 = _ := (o10 120 (by omega) (by omega)).trans q9
  refine zR h10 (by omega) a9 q10 (k := 0) rfl ?_
  refine zI (j := 6) h10 (i := 121) (by omega) rfl l10 (by omega) (by omega) (fun F11 S11 h11 l11 o11 => ?_)
  have q11 : F11 120 = _ := (o11 120 (by omega) (by omega)).trans q10
  refine zR h11 (by omega) a9 q11 (k := 0) rfl ?_
  refine zI (j := 1130) h11 (i := 121) (by omega) rfl l11 (by omega) (by omega) (fun F12 S12 h12 l12 o12 => ?_)
  have q12 : F12 120 = _ := (o12 120 (by omega) (by omega)).trans q11
  refine zR h12 (by omega) a9 q12 (k := 0) rfl ?_
  refine zI (j := 7) h12 (i := 121) (by omega) rfl l12 (by omega) (by omega) (fun F13 S13 h13 l13 o13 => ?_)
  have q13 : F13 120 = _ := (o13 120 (by omega) (by omega)).trans q12
  refine zR h13 (by omega) a9 q13 (k := 0) rfl ?_
  refine zI (j := 5226) h13 (i := 121) (by omega) rfl l13 (by omega) (by omega) (fun F14 S14 h14 l14 o14 => ?_)
  have q14 : F14 120 = _ := (o14 120 (by omega) (by omega)).trans q13
  refine zR h14 (by omega) a9 q14 (k := 0) rfl ?_
  refine zI (j := 8) h14 (i := 121) (by omega) rfl l14 (by omega) (by omega) (fun F15 S15 h15 l15 o15 => ?_)
  have q15 : F15 120 = _ := (o15 120 (by omega) (by omega)).trans q14
  refine zR h15 (by omega) a9 q15 (k := 0) rfl ?_
  refine zI (j := 9322) h15 (i := 121) (by omega) rfl l15 (by omega) (by omega) (fun F16 S16 h16 l16 o16 => ?_)
  have q16 : F16 120 = _ := (o16 120 (by omega) (by omega)).trans q15
  refine zR h16 (by omega) a9 q16 (k := 0) rfl ?_
  refine zI (j := 9) h16 (i := 121) (by omega) rfl l16 (by omega) (by omega) (fun F17 S17 h17 l17 o17 => ?_)
  have q17 : F17 120 = _ := (o17 120 (by omega) (by omega)).trans q16
  refine zR h17 (by omega) a9 q17 (k := 0) rfl ?_
  refine zI (j := 13418) h17 (i := 121) (by omega) rfl l17 (by omega) (by omega) (fun F18 S18 h18 l18 o18 => ?_)
  have q18 : F18 120 = _ := (o18 120 (by omega) (by omega)).trans q17
  refine hP c9 F18 S18 L9 h18 (fun j hj => (C1 j (by omega)).trans (k1 j hj)) (fun j hj => ?_) q18 l18 ?_ ?_ ?_ ?_ ?_ ?_ ?_ ?_
  · rw [o18 j (by omega) (by omega), o17 j (by omega) (by omega), o16 j (by omega) (by omega), o15 j (by omega) (by omega), o14 j (by omega) (by omega), o13 j (by omega) (by omega), o12 j (by omega) (by omega), o11 j (by omega) (by omega), o10 j (by omega) (by omega), o9 j (by omega) (by omega), o8 j (by omega) (by omega), o7 j (by omega) (by omega), o6 j (by omega) (by omega), o5 j (by omega) (by omega), o4 j (by omega) (by omega), o3 j (by omega) (by omega), o2 j (by omega) (by omega), o1 j (by omega) (by omega)]
  · rw [o18 122 (by omega) (by omega), o17 122 (by omega) (by omega), o16 122 (by omega) (by omega), o15 122 (by omega) (by omega), o14 122 (by omega) (by omega), o13 122 (by omega) (by omega), o12 122 (by omega) (by omega), o11 122 (by omega) (by omega), o10 122 (by omega) (by omega), o9 122 (by omega) (by omega), o8 122 (by omega) (by omega), o7 122 (by omega) (by omega), o6 122 (by omega) (by omega), o5 122 (by omega) (by omega), o4 122 (by omega) (by omega), o3 122 (by omega) (by omega)]; exact e2
  · rw [o18 123 (by omega) (by omega), o17 123 (by omega) (by omega), o16 123 (by omega) (by omega), o15 123 (by omega) (by omega), o14 123 (by omega) (by omega), o13 123 (by omega) (by omega), o12 123 (by omega) (by omega), o11 123 (by omega) (by omega), o10 123 (by omega) (by omega), o9 123 (by omega) (by omega), o8 123 (by omega) (by omega), o7 123 (by omega) (by omega), o6 123 (by omega) (by omega), o5 123 (by omega) (by omega), o4 123 (by omega) (by omega)]; exact e3
  · rw [o18 124 (by omega) (by omega), o17 124 (by omega) (by omega), o16 124 (by omega) (by omega), o15 124 (by omega) (by omega), o14 124 (by omega) (by omega), o13 124 (by omega) (by omega), o12 124 (by omega) (by omega), o11 124 (by omega) (by omega), o10 124 (by omega) (by omega), o9 124 (by omega) (by omega), o8 124 (by omega) (by omega), o7 124 (by omega) (by omega), o6 124 (by omega) (by omega), o5 124 (by omega) (by omega)]; exact e4
  · rw [o18 125 (by omega) (by omega), o17 125 (by omega) (by omega), o16 125 (by omega) (by omega), o15 125 (by omega) (by omega), o14 125 (by omega) (by omega), o13 125 (by omega) (by omega), o12 125 (by omega) (by omega), o11 125 (by omega) (by omega), o10 125 (by omega) (by omega), o9 125 (by omega) (by omega), o8 125 (by omega) (by omega), o7 125 (by omega) (by omega), o6 125 (by omega) (by omega)]; exact e5
  · rw [o18 126 (by omega) (by omega), o17 126 (by omega) (by omega), o16 126 (by omega) (by omega), o15 126 (by omega) (by omega), o14 126 (by omega) (by omega), o13 126 (by omega) (by omega), o12 126 (by omega) (by omega), o11 126 (by omega) (by omega), o10 126 (by omega) (by omega), o9 126 (by omega) (by omega), o8 126 (by omega) (by omega), o7 126 (by omega) (by omega)]; exact e6
  · rw [o18 127 (by omega) (by omega), o17 127 (by omega) (by omega), o16 127 (by omega) (by omega), o15 127 (by omega) (by omega), o14 127 (by omega) (by omega), o13 127 (by omega) (by omega), o12 127 (by omega) (by omega), o11 127 (by omega) (by omega), o10 127 (by omega) (by omega), o9 127 (by omega) (by omega), o8 127 (by omega) (by omega)]; exact e7
  · rw [o18 128 (by omega) (by omega), o17 128 (by omega) (by omega), o16 128 (by omega) (by omega), o15 128 (by omega) (by omega), o14 128 (by omega) (by omega), o13 128 (by omega) (by omega), o12 128 (by omega) (by omega), o11 128 (by omega) (by omega), o10 128 (by omega) (by omega), o9 128 (by omega) (by omega)]; exact e8
  · rw [o18 129 (by omega) (by omega), o17 129 (by omega) (by omega), o16 129 (by omega) (by omega), o15 129 (by omega) (by omega), o14 129 (by omega) (by omega), o13 129 (by omega) (by omega), o12 129 (by omega) (by omega), o11 129 (by omega) (by omega), o10 129 (by omega) (by omega)]; exact e9
theorem al0_z {j : Nat} (h : j ≠ 2 ∧ j ≠ 6 ∧ j ≠ 1130 ∧ j ≠ 7 ∧ j ≠ 5226 ∧ j ≠ 8 ∧ j ≠ 9322 ∧ j ≠ 9 ∧ j ≠ 13418) : al0 j = 0 := by
  unfold al0
  rw [pk_un (by omega), pk_un (by omega), pk_un (by omega), pk_un (by omega), pk_un (by omega), pk_un (by omega), pk_un (by omega), pk_un (by omega), pk_un (by omega)]
theorem RA_0 : RA σ0 τ0 al0 0 := by
  have hT : gT σ0 = 1 := rfl
  refine ⟨rfl, rfl, rfl, rfl, rfl, rfl, fun a ha => ?_, fun p hp => absurd hp (Nat.not_lt_zero p), fun n hn => absurd hn (Nat.not_lt_zero n), fun a t ha ht => ?_, fun w hw => absurd hw (Nat.not_lt_zero w), fun k j hk => absurd hk (Nat.not_lt_zero k)⟩
  · have : a = 0 ∨ a = 1 ∨ a = 2 ∨ a = 3 := by omega
    rcases this with rfl | rfl | rfl | rfl <;> rfl
  · have ht0 : t = 0 := by omega
    subst ht0
    rw [s0_l ha]
    have : a = 0 ∨ a = 1 ∨ a = 2 ∨ a = 3 := by omega
    rcases this with rfl | rfl | rfl | rfl <;> rfl
/-- from the order of making to the places of the class's cells -/
def pm (i : Nat) : Nat := if i = 0 then 0 else if i < 12 then i + 27 else if i < 39 then i - 11 else i
theorem init_ok : INIT0 := by
  unfold INIT0
  refine zA (n := 0) (c := fun _ => 0) (F := fun _ => eI 0 (fun _ => 0)) ⟨fun i hi => absurd hi (Nat.not_lt_zero i), fun i j hi => absurd hi (Nat.not_lt_zero i), fun i hi => absurd hi (Nat.not_lt_zero i)⟩ (fun c1 F1 S1 L1 h1 k1 e1 o1 => ?_)
  refine i_X7 h1 rfl e1 (fun c2 F2 S2 L2 h2 k2 t2 => ?_)
  refine zA h2 (fun c3 F3 S3 L3 h3 k3 e3 o3 => ?_)
  refine i_X8 h3 rfl e3 (fun c F S L h k4 o4 f4 x1 x2 x3 x4 x5 x6 x7 x8 x9 => ?_)
  have hc0 : c 0 = c1 0 := (k4 0 (by omega)).trans ((k3 0 (by omega)).trans k2)
  have hcm : c 120 = c3 120 := k4 120 (by omega)
  rw [← hc0, ← hcm]
  have hC2 : ∀ j, j < 120 → c j = c2 j := fun j hj => (k4 j (by omega)).trans (k3 j (by omega))
  have hF2 : ∀ j, j < 120 → F j = F2 j := fun j hj => (o4 j hj).trans (o3 j (by omega))
  have hp : ∀ i, i < 120 → pm i < 120 := fun i hi => by unfold pm; split <;> (try split) <;> (try split) <;> omega
  have hpi : ∀ i j, i < 120 → j < 120 → pm i = pm j → i = j := fun i j hi hj e => by
    unfold pm at e
    split at e <;> split at e <;> (try split at e) <;> (try split at e) <;> (try split at e) <;> (try split at e) <;> omega
  have hj : injC (fun i => c (pm i)) := fun i j hi hj e => hpi i j hi hj (h.2.1 _ _ (by have := hp i hi; omega) (by have := hp j hj; omega) e)
  have hi8 : inj8 (fun k => c (120 + k)) := fun i j hi hj e => by
    have := h.2.1 _ _ (by omega) (by omega) e
    omega
  have hx : ∀ i k, i < 120 → k < 10 → (fun i => c (pm i)) i ≠ (fun k => c (120 + k)) k := fun i k hi hk e => by
    have h9 := hp i hi
    have := h.2.1 _ _ (by omega) (by omega) e
    omega
  refine ⟨INV (fun k => c (120 + k)) (fun i => c (pm i)), AG_all hj hi8 hx, ?_⟩
  obtain ⟨y0, y1, ⟨g, y2, y3⟩, y4, y5, y6, y7, y8, y9, y10, y11, y12, y13, y14⟩ := t2
  have q : ∀ i, i < 120 → F (pm i) = F2 (pm i) := fun i hi => hF2 _ (hp i hi)
  have qc : ∀ i, i < 120 → c (pm i) = c2 (pm i) := fun i hi => hC2 _ (hp i hi)
  refine ⟨fun i => F (pm i), al0, fun _ => 0, 0, 0, 0, 0, fun _ => 0, fun _ => 0, fun _ => 0, fun _ => 0, fun _ => 0, fun _ => 0, fun _ => 0, 0, σ0, τ0, fun _ => σ0, fun _ => τ0, pt_self hj (fun i hi => h.1 _ (by have := hp i hi; omega)), ?_, WF_0, RA_0, ?_, ?_, ⟨g, (q 1 (by omega)).trans y2, fun k hk => ?_⟩, ⟨fun _ => 0, (q 2 (by omega)).trans y4, fun k hk => rfl⟩, fun k hk => ⟨WF_0, ?_, fun hne => absurd rfl hne⟩⟩
  · refine mk_mv (S := mk8 (fun k => c (120 + k)) S al0 (fun _ => 0) 0 0 0 0 (fun _ => 0) (fun _ => 0) (fun _ => 0) (fun _ => 0) (fun _ => 0) (fun _ => 0) (fun _ => 0) 0) hi8 (fun k hk => mk_in hi8 hk) (fun k hk => ?_)
    have hs := h.1 (120 + k) (by omega)
    match k, hk with
    | 0, _ => exact (hs.trans (congrArg some f4)).trans (at8_0 hi8).symm
    | 1, _ => exact (hs.trans (congrArg some x1)).trans (at8_1 hi8).symm
    | 2, _ => exact (hs.trans (congrArg some x2)).trans (at8_2 hi8).symm
    | 3, _ => exact (hs.trans (congrArg some x3)).trans (at8_3 hi8).symm
    | 4, _ => exact (hs.trans (congrArg some x4)).trans (at8_4 hi8).symm
    | 5, _ => exact (hs.trans (congrArg some x5)).trans (at8_5 hi8).symm
    | 6, _ => exact (hs.trans (congrArg some x6)).trans (at8_6 hi8).symm
    | 7, _ => exact (hs.trans (congrArg some x7)).trans (at8_7 hi8).symm
    | 8, _ => exact (hs.trans (congrArg some x8)).trans (at8_8 hi8).symm
    | 9, _ => exact (hs.trans (congrArg some x9)).trans (at8_9 hi8).symm
  · refine SC_tr (b := 1) y1 (fun i hi => ?_)
    have e : pm (12 + i) = 1 + i := by
      unfold pm
      rw [if_neg (by omega), if_neg (by omega), if_pos (by omega)]
      omega
    show c (pm (12 + i)) = _ ∧ F (pm (12 + i)) = _
    rw [e]
    exact ⟨hC2 _ (by omega), hF2 _ (by omega)⟩
  · refine ⟨?_, ?_, ⟨_, (q 4 (by omega)).trans y6⟩, ⟨_, (q 5 (by omega)).trans y7⟩, ⟨_, (q 6 (by omega)).trans y8⟩, ⟨9, 10, .null, .null, 0, Or.inl ⟨rfl, rfl⟩, ?_⟩, ⟨_, (q 8 (by omega)).trans y10⟩, ⟨_, (q 9 (by omega)).trans y11⟩, ⟨_, (q 10 (by omega)).trans y12⟩, ⟨_, (q 11 (by omega)).trans y13⟩⟩
    · show F (pm 0) = eO 7 [.ref (c (pm 12)), .ref (c (pm 1)), .ref (c (pm 2)), .ref (c (pm 3)), .ref (c (pm 7))]
      rw [q 0 (by omega), qc 12 (by omega), qc 1 (by omega), qc 2 (by omega), qc 3 (by omega), qc 7 (by omega)]
      exact y0
    · show F (pm 3) = eO 3 [.ref (c (pm 4)), .ref (c (pm 5)), .ref (c (pm 6))]
      rw [q 3 (by omega), qc 4 (by omega), qc 5 (by omega), qc 6 (by omega)]
      exact y5
    · show F (pm 7) = eO 4 [.ref (c (pm 8)), .ref (c (pm 9)), .ref (c (pm 10)), .ref (c (pm 11)), .null, .null, .int 0]
      rw [q 7 (by omega), qc 8 (by omega), qc 9 (by omega), qc 10 (by omega), qc 11 (by omega)]
      exact y9
  · rw [y3 k hk]
    have e : pm (39 + 27 * k) = 39 + 27 * k := by
      unfold pm
      rw [if_neg (by omega), if_neg (by omega), if_neg (by omega)]
    show _ = some (c (pm (39 + 27 * k)))
    rw [e, hC2 _ (by omega)]
  · refine SC_tr (b := 39 + 27 * k) (y14 k hk) (fun i hi => ?_)
    have e : pm (39 + 27 * k + i) = 39 + 27 * k + i := by
      unfold pm
      rw [if_neg (by omega), if_neg (by omega), if_neg (by omega)]
    show c (pm (39 + 27 * k + i)) = _ ∧ F (pm (39 + 27 * k + i)) = _
    rw [e]
    exact ⟨hC2 _ (by omega), hF2 _ (by omega)⟩
end START
