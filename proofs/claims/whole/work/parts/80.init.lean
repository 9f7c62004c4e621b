/-! ===== the objects as they are made, and the invariant at the start ===== -/
def σ0 : SG := fun f t => if f = 16 then t else if (f = 20 ∨ f = 21 ∨ f = 22 ∨ f = 23) ∧ t = 0 then 1 else 0
def τ0 : TG := fun _ _ => 0
theorem s0_l {a t : Nat} (ha : a < 4) : lef σ0 a t = if t = 0 then 1 else 0 := by
  show (if 20 + a = 16 then t else if (20 + a = 20 ∨ 20 + a = 21 ∨ 20 + a = 22 ∨ 20 + a = 23) ∧ t = 0 then 1 else 0) = _
  rw [if_neg (by omega)]
  by_cases e : t = 0
  · rw [if_pos ⟨by omega, e⟩, if_pos e]
  · rw [if_neg (fun q => e q.2), if_neg e]
theorem WF_0 : WF σ0 τ0 := by
  have hN : gN σ0 = 0 := rfl
  have hP : gP σ0 = 0 := rfl
  have hT : gT σ0 = 1 := rfl
  have hW : gW σ0 = 0 := rfl
  refine ⟨by decide, by decide, by decide, by decide, by decide, by decide, by decide, fun p hp => ?_, fun n hn => ?_, fun a ha => ⟨Nat.le_refl a, rfl⟩, fun a c ha hc hg t ht => ?_, fun a t ha ht => ?_, fun a ha => ?_, fun w hw => ?_⟩
  · omega
  · omega
  · have : a = c := hg
    rw [this]
  · rw [s0_l ha]
    split <;> omega
  · rw [s0_l ha]
    exact if_pos rfl
  · omega
def r0 : Nat → Int64 := vp_updL (fun _ => 0) 0 1
theorem bw_0 {a t : Nat} (ha : a < 4) : bw r0 t = decide (t < gT σ0 ∧ lef σ0 a t = 1) := by
  have hT : gT σ0 = 1 := rfl
  rw [s0_l ha, hT]
  unfold r0
  rw [bw_upd]
  by_cases e : t / 64 = 0
  · rw [if_pos e, show (1 : Int64).toBitVec = 1#64 from rfl, BitVec.getLsbD_one]
    by_cases e2 : t = 0
    · subst e2
      decide
    · have : ¬ t % 64 = 0 := by omega
      simp [this, e2]
  · rw [if_neg e]
    have e2 : ¬ t = 0 := by omega
    unfold bw
    rw [show (0 : Int64).toBitVec = 0#64 from rfl, BitVec.getLsbD_zero]
    simp [e2]
theorem SC_tr {c ca : Nat → Nat} {F C : Nat → PE} {σ : SG} {τ : TG} {b e : Nat} (h : SC c σ τ F b) (hh : ∀ i, i < 27 → ca (e + i) = c (b + i) ∧ C (e + i) = F (b + i)) : SC ca σ τ C e := by
  have hc : ∀ i, i < 27 → ca (e + i) = c (b + i) := fun i hi => (hh i hi).1
  have hC : ∀ i, i < 27 → C (e + i) = F (b + i) := fun i hi => (hh i hi).2
  have h0 : C e = F b := hC 0 (by omega)
  obtain ⟨x0, ⟨cu, ow, le, gr, ne, va, fi, n1, n2, n3, n4, n5, n6, n7, n8, n9⟩, ⟨ld, lr, fr, rows, k1, k2, k3, k4, k5⟩, ⟨ar, ay, a1, a2, a3⟩, ⟨ki, se, ex, w1, w2, w3, w4, w5⟩⟩ := h
  refine ⟨?_, ⟨cu, ow, le, gr, ne, va, fi, ?_, ?_, ?_, ?_, ?_, ?_, ?_, ?_, n9⟩, ⟨ld, lr, fr, rows, ?_, ?_, ?_, fun a ha => ?_, k5⟩, ⟨ar, ay, ?_, ?_, fun j hj => ?_⟩, ⟨ki, se, ex, ?_, ?_, ?_, ?_, w5⟩⟩
  · rw [h0, x0, hc 1 (by omega), hc 9 (by omega), hc 16 (by omega), hc 23 (by omega)]
  · rw [hC 1 (by omega), n1, hc 2 (by omega), hc 3 (by omega), hc 4 (by omega), hc 5 (by omega), hc 6 (by omega), hc 7 (by omega), hc 8 (by omega)]
  · rw [hC 2 (by omega)]; exact n2
  · rw [hC 3 (by omega)]; exact n3
  · rw [hC 4 (by omega)]; exact n4
  · rw [hC 5 (by omega)]; exact n5
  · rw [hC 6 (by omega)]; exact n6
  · rw [hC 7 (by omega)]; exact n7
  · rw [hC 8 (by omega)]; exact n8
  · rw [hC 9 (by omega), k1, hc 10 (by omega), hc 11 (by omega)]
  · rw [hC 10 (by omega)]; exact k2
  · rw [hC 11 (by omega)]; exact k3
  · obtain ⟨y1, y2, y3⟩ := k4 a ha
    refine ⟨?_, ?_, y3⟩
    · rw [y1, show e + 12 + a = e + (12 + a) by omega, hc (12 + a) (by omega), show b + (12 + a) = b + 12 + a by omega]
    · rw [show e + 12 + a = e + (12 + a) by omega, hC (12 + a) (by omega), show b + (12 + a) = b + 12 + a by omega]; exact y2
  · rw [hC 16 (by omega), a1, hc 17 (by omega)]
  · rw [hC 17 (by omega)]; exact a2
  · obtain ⟨y1, y2, y3⟩ := a3 j hj
    refine ⟨?_, ?_, y3⟩
    · rw [y1, show e + 18 + j = e + (18 + j) by omega, hc (18 + j) (by omega), show b + (18 + j) = b + 18 + j by omega]
    · rw [show e + 18 + j = e + (18 + j) by omega, hC (18 + j) (by omega), show b + (18 + j) = b + 18 + j by omega]; exact y2
  · rw [hC 23 (by omega), w1, hc 24 (by omega), hc 25 (by omega), hc 26 (by omega)]
  · rw [hC 24 (by omega)]; exact w2
  · rw [hC 25 (by omega)]; exact w3
  · rw [hC 26 (by omega)]; exact w4
section INITS
variable {n : Nat} {c : Nat → Nat} {F : Nat → PE} {S : PH} {L : List Nat}
theorem i_X0 {P : PH → List Nat → Prop} {v a : Nat} (h : Zs n c F S L) (hv : v < n) (ha : c v = a) (hF : F v = eO 0 [.null, .int 0, .int 0]) (hP : ∀ c' F' S' L' g, Zs (n + 6) c' F' S' L' → (∀ j, j < n → c' j = c j) → (∀ j, j < n → j ≠ v → F' j = F j) → F' v = eO 0 [.ref (c' n), .int 0, .int 0] → F' n = eR 1 5 g → (∀ j, j < 5 → g j = some (c' (n + 1 + j))) → (∀ j, j < 5 → F' (n + 1 + j) = eI 200 (fun _ => 0)) → P S' L') : wp_X0_init S L a P := by
  unfold wp_X0_init
  refine zG h (fun c1 F1 S1 L1 g h1 k1 e1 g1 r1 o1 => ?_)
  have a1 : c1 v = a := (k1 v hv).trans ha
  refine zF h1 (by omega) a1 ((o1 v hv).trans hF) (show 0 < 3 by omega) (fun F2 S2 h2 f2 o2 => ?_)
  refine zF h2 (by omega) a1 f2 (show 1 < 3 by omega) (fun F3 S3 h3 f3 o3 => ?_)
  refine zF h3 (by omega) a1 f3 (show 2 < 3 by omega) (fun F4 S4 h4 f4 o4 => ?_)
  refine hP c1 F4 S4 L1 g h4 k1 (fun j hj hne => ?_) f4 ?_ g1 (fun j hj => ?_)
  · rw [o4 j (by omega) hne, o3 j (by omega) hne, o2 j (by omega) hne, o1 j hj]
  · rw [o4 n (by omega) (by omega), o3 n (by omega) (by omega), o2 n (by omega) (by omega)]; exact e1
  · rw [o4 _ (by omega) (by omega), o3 _ (by omega) (by omega), o2 _ (by omega) (by omega)]; exact r1 j hj
theorem i_X1 {P : PH → List Nat → Prop} {v a : Nat} (h : Zs n c F S L) (hv : v < n) (ha : c v = a) (hF : F v = eO 1 [.null, .null]) (hP : ∀ c' F' S' L' lr g, Zs (n + 6) c' F' S' L' → (∀ j, j < n → c' j = c j) → (∀ j, j < n → j ≠ v → F' j = F j) → F' v = eO 1 [.ref (c' n), .ref (c' (n + 1))] → F' n = eI 4 lr → (∀ j, j < 4 → lr j = nI j) → F' (n + 1) = eR 2 4 g → (∀ j, j < 4 → g j = some (c' (n + 2 + j))) → (∀ j, j < 4 → F' (n + 2 + j) = eJ 64 r0) → P S' L') : wp_X1_init S L a P := by
  unfold wp_X1_init
  refine zAF h hv ha hF (show 0 < 2 by omega) (fun c1 F1 S1 L1 h1 k1 e1 f1 o1 => ?_)
  refine zG h1 (fun c2 F2 S2 L2 g h2 k2 e2 g2 r2 o2 => ?_)
  have a2 : c2 v = a := (k2 v (by omega)).trans ((k1 v hv).trans ha)
  refine zF h2 (by omega) a2 ((o2 v (by omega)).trans f1) (show 1 < 2 by omega) (fun F3 S3 h3 f3 o3 => ?_)
  have q3 : F3 v = eO 1 [.ref (c2 n), .ref (c2 (n + 1))] := by
    refine f3.trans ?_
    rw [← k2 n (by omega)]
    rfl
  have l3 : F3 n = eI 4 (fun _ => 0) := (o3 n (by omega) (by omega)).trans ((o2 n (by omega)).trans e1)
  have d3 : F3 (n + 1) = eR 2 4 g := (o3 (n + 1) (by omega) (by omega)).trans e2
  have y3 : ∀ j, j < 4 → F3 (n + 1 + 1 + j) = eJ 64 (fun _ => 0) := fun j hj => (o3 _ (by omega) (by omega)).trans (r2 j hj)
  refine zR h3 (by omega) a2 q3 (k := 0) rfl ?_
  refine zI (j := 0) h3 (by omega) rfl l3 (by omega) (by omega) (fun F4 S4 h4 f4 o4 => ?_)
  have q4 : F4 v = _ := (o4 v (by omega) (by omega)).trans q3
  have d4 : F4 (n + 1) = _ := (o4 _ (by omega) (by omega)).trans d3
  refine zR h4 (by omega) a2 q4 (k := 1) rfl ?_
  refine zL (j := 0) h4 (by omega) rfl d4 (by omega) (by omega) (g2 0 (by omega)) ?_
  refine zJ (j := 0) h4 (i := n + 1 + 1 + 0) (by omega) rfl ((o4 _ (by omega) (by omega)).trans (y3 0 (by omega))) (by omega) (by omega) (fun F5 S5 h5 f5 o5 => ?_)
  have q5 : F5 v = _ := (o5 v (by omega) (by omega)).trans q4
  have d5 : F5 (n + 1) = _ := (o5 _ (by omega) (by omega)).trans d4
  have l5 : F5 n = _ := (o5 _ (by omega) (by omega)).trans f4
  have y5_0 : F5 (n + 1 + 1 + 0) = eJ 64 r0 := f5
  have y5_1 : F5 (n + 1 + 1 + 1) = _ := (o5 _ (by omega) (by omega)).trans ((o4 _ (by omega) (by omega)).trans (y3 1 (by omega)))
  have y5_2 : F5 (n + 1 + 1 + 2) = _ := (o5 _ (by omega) (by omega)).trans ((o4 _ (by omega) (by omega)).trans (y3 2 (by omega)))
  have y5_3 : F5 (n + 1 + 1 + 3) = _ := (o5 _ (by omega) (by omega)).trans ((o4 _ (by omega) (by omega)).trans (y3 3 (by omega)))
  refine zR h5 (by omega) a2 q5 (k := 0) rfl ?_
  refine zI (j := 1) h5 (by omega) rfl l5 (by omega) (by omega) (fun F6 S6 h6 f6 o6 => ?_)
  have q6 : F6 v = _ := (o6 v (by omega) (by omega)).trans q5
  have d6 : F6 (n + 1) = _ := (o6 _ (by omega) (by omega)).trans d5
  refine zR h6 (by omega) a2 q6 (k := 1) rfl ?_
  refine zL (j := 1) h6 (by omega) rfl d6 (by omega) (by omega) (g2 1 (by omega)) ?_
  refine zJ (j := 0) h6 (i := n + 1 + 1 + 1) (by omega) rfl ((o6 _ (by omega) (by omega)).trans y5_1) (by omega) (by omega) (fun F7 S7 h7 f7 o7 => ?_)
  have q7 : F7 v = _ := (o7 v (by omega) (by omega)).trans q6
  have d7 : F7 (n + 1) = _ := (o7 _ (by omega) (by omega)).trans d6
  have l7 : F7 n = _ := (o7 _ (by omega) (by omega)).trans f6
  have y7_0 : F7 (n + 1 + 1 + 0) = _ := (o7 _ (by omega) (by omega)).trans ((o6 _ (by omega) (by omega)).trans (y5_0))
  have y7_1 : F7 (n + 1 + 1 + 1) = eJ 64 r0 := f7
  have y7_2 : F7 (n + 1 + 1 + 2) = _ := (o7 _ (by omega) (by omega)).trans ((o6 _ (by omega) (by omega)).trans (y5_2))
  have y7_3 : F7 (n + 1 + 1 + 3) = _ := (o7 _ (by omega) (by omega)).trans ((o6 _ (by omega) (by omega)).trans (y5_3))
  refine zR h7 (by omega) a2 q7 (k := 0) rfl ?_
  refine zI (j := 2) h7 (by omega) rfl l7 (by omega) (by omega) (fun F8 S8 h8 f8 o8 => ?_)
  have q8 : F8 v = _ := (o8 v (by omega) (by omega)).trans q7
  have d8 : F8 (n + 1) = _ := (o8 _ (by omega) (by omega)).trans d7
  refine zR h8 (by omega) a2 q8 (k := 1) rfl ?_
  refine zL (j := 2) h8 (by omega) rfl d8 (by omega) (by omega) (g2 2 (by omega)) ?_
  refine zJ (j := 0) h8 (i := n + 1 + 1 + 2) (by omega) rfl ((o8 _ (by omega) (by omega)).trans y7_2) (by omega) (by omega) (fun F9 S9 h9 f9 o9 => ?_)
  have q9 : F9 v = _ := (o9 v (by omega) (by omega)).trans q8
  have d9 : F9 (n + 1) = _ := (o9 _ (by omega) (by omega)).trans d8
  have l9 : F9 n = _ := (o9 _ (by omega) (by omega)).trans f8
  have y9_0 : F9 (n + 1 + 1 + 0) = _ := (o9 _ (by omega) (by omega)).trans ((o8 _ (by omega) (by omega)).trans (y7_0))
  have y9_1 : F9 (n + 1 + 1 + 1) = _ := (o9 _ (by omega) (by omega)).trans ((o8 _ (by omega) (by omega)).trans (y7_1))
  have y9_2 : F9 (n + 1 + 1 + 2) = eJ 64 r0 := f9
  have y9_3 : F9 (n + 1 + 1 + 3) = _ := (o9 _ (by omega) (by omega)).trans ((o8 _ (by omega) (by omega)).trans (y7_3))
  refine zR h9 (by omega) a2 q9 (k := 0) rfl ?_
  refine zI (j := 3) h9 (by omega) rfl l9 (by omega) (by omega) (fun F10 S10 h10 f10 o10 => ?_)
  have q10 : F10 v = _ := (o10 v (by omega) (by omega)).trans q9
  have d10 : F10 (n + 1) = _ := (o10 _ (by omega) (by omega)).trans d9
  refine zR h10 (by omega) a2 q10 (k := 1) rfl ?_
  refine zL (j := 3) h10 (by omega) rfl d10 (by omega) (by omega) (g2 3 (by omega)) ?_
  refine zJ (j := 0) h10 (i := n + 1 + 1 + 3) (by omega) rfl ((o10 _ (by omega) (by omega)).trans y9_3) (by omega) (by omega) (fun F11 S11 h11 f11 o11 => ?_)
  have q11 : F11 v = _ := (o11 v (by omega) (by omega)).trans q10
  have d11 : F11 (n + 1) = _ := (o11 _ (by omega) (by omega)).trans d10
  have l11 : F11 n = _ := (o11 _ (by omega) (by omega)).trans f10
  have y11_0 : F11 (n + 1 + 1 + 0) = _ := (o11 _ (by omega) (by omega)).trans ((o10 _ (by omega) (by omega)).trans (y9_0))
  have y11_1 : F11 (n + 1 + 1 + 1) = _ := (o11 _ (by omega) (by omega)).trans ((o10 _ (by omega) (by omega)).trans (y9_1))
  have y11_2 : F11 (n + 1 + 1 + 2) = _ := (o11 _ (by omega) (by omega)).trans ((o10 _ (by omega) (by omega)).trans (y9_2))
  have y11_3 : F11 (n + 1 + 1 + 3) = eJ 64 r0 := f11
  refine hP c2 F11 S11 L2 _ g h11 (fun j hj => (k2 j (by omega)).trans (k1 j hj)) (fun j hj hne => ?_) q11 l11 (fun j hj => ?_) d11 (fun j hj => ?_) (fun j hj => ?_)
  · rw [o11 j (by omega) (by omega), o10 j (by omega) (by omega), o9 j (by omega) (by omega), o8 j (by omega) (by omega), o7 j (by omega) (by omega), o6 j (by omega) (by omega), o5 j (by omega) (by omega), o4 j (by omega) (by omega), o3 j (by omega) hne, o2 j (by omega), o1 j hj hne]
  · have : j = 0 ∨ j = 1 ∨ j = 2 ∨ j = 3 := by omega
    rcases this with rfl | rfl | rfl | rfl <;> rfl
  · exact g2 j hj
  · have : j = 0 ∨ j = 1 ∨ j = 2 ∨ j = 3 := by omega
    rcases this with rfl | rfl | rfl | rfl
    · exact y11_0
    · exact y11_1
    · exact y11_2
    · exact y11_3
theorem i_X5 {P : PH → List Nat → Prop} {b a : Nat} (h : Zs (b + 1) c F S L) (ha : c b = a) (hF : F b = eO 5 [.null, .null, .null, .null]) (hP : ∀ c' F' S' L', Zs (b + 27) c' F' S' L' → (∀ j, j < b + 1 → c' j = c j) → (∀ j, j < b → F' j = F j) → SC c' σ0 τ0 F' b → P S' L') : wp_X5_init S L a P := by
  unfold wp_X5_init
  refine zA h (fun c1 F1 S1 L1 h1 k1 e1 o1 => ?_)
  refine i_X2 h1 (v := b + 1) (by omega) rfl e1 (fun c2 F2 S2 L2 h2 k2 o2 f2 p0 p1 p2 p3 p4 p5 p6 => ?_)
  have a2 : c2 b = a := (k2 b (by omega)).trans ((k1 b (by omega)).trans ha)
  refine zF h2 (by omega) a2 ((o2 b (by omega) (by omega)).trans ((o1 b (by omega)).trans hF)) (show 0 < 4 by omega) (fun F3 S3 h3 f3 o3 => ?_)
  refine zA h3 (fun c4 F4 S4 L4 h4 k4 e4 o4 => ?_)
  refine i_X1 h4 (v := b + 1 + 1 + 7) (by omega) rfl e4 (fun c5 F5 S5 L5 lr g h5 k5 o5 f5 q0 q1 q2 q3 q4 => ?_)
  have a5 : c5 b = a := (k5 b (by omega)).trans ((k4 b (by omega)).trans a2)
  refine zF h5 (by omega) a5 ((o5 b (by omega) (by omega)).trans ((o4 b (by omega)).trans f3)) (show 1 < 4 by omega) (fun F6 S6 h6 f6 o6 => ?_)
  refine zA h6 (fun c7 F7 S7 L7 h7 k7 e7 o7 => ?_)
  refine i_X0 h7 (v := b + 1 + 1 + 7 + 1 + 6) (by omega) rfl e7 (fun c8 F8 S8 L8 g8 h8 k8 o8 f8 r0' r1 r2 => ?_)
  have a8 : c8 b = a := (k8 b (by omega)).trans ((k7 b (by omega)).trans a5)
  refine zF h8 (by omega) a8 ((o8 b (by omega) (by omega)).trans ((o7 b (by omega)).trans f6)) (show 2 < 4 by omega) (fun F9 S9 h9 f9 o9 => ?_)
  refine zA h9 (fun c10 F10 S10 L10 h10 k10 e10 o10 => ?_)
  refine i_X6 h10 (v := b + 1 + 1 + 7 + 1 + 6 + 1 + 6) (by omega) rfl e10 (fun c11 F11 S11 L11 h11 k11 o11 f11 s0 s1 s2 => ?_)
  have a11 : c11 b = a := (k11 b (by omega)).trans ((k10 b (by omega)).trans a8)
  refine zF h11 (by omega) a11 ((o11 b (by omega) (by omega)).trans ((o10 b (by omega)).trans f9)) (show 3 < 4 by omega) (fun F12 S12 h12 f12 o12 => ?_)
  have C10 : ∀ j, j < b + 24 → c11 j = c10 j := fun j hj => k11 j (by omega)
  have C8 : ∀ j, j < b + 23 → c11 j = c8 j := fun j hj => (C10 j (by omega)).trans (k10 j (by omega))
  have C7 : ∀ j, j < b + 17 → c11 j = c7 j := fun j hj => (C8 j (by omega)).trans (k8 j (by omega))
  have C5 : ∀ j, j < b + 16 → c11 j = c5 j := fun j hj => (C7 j (by omega)).trans (k7 j (by omega))
  have C4 : ∀ j, j < b + 10 → c11 j = c4 j := fun j hj => (C5 j (by omega)).trans (k5 j (by omega))
  have C2 : ∀ j, j < b + 9 → c11 j = c2 j := fun j hj => (C4 j (by omega)).trans (k4 j (by omega))
  have C1 : ∀ j, j < b + 2 → c11 j = c1 j := fun j hj => (C2 j (by omega)).trans (k2 j (by omega))
  have G11 : ∀ j, j < b + 27 → j ≠ b → F12 j = F11 j := fun j hj hne => o12 j (by omega) hne
  have G9 : ∀ j, j < b + 23 → j ≠ b → F12 j = F9 j := fun j hj hne => (G11 j (by omega) hne).trans ((o11 j (by omega) (by omega)).trans (o10 j (by omega)))
  have G8 : ∀ j, j < b + 23 → j ≠ b → F12 j = F8 j := fun j hj hne => (G9 j hj hne).trans (o9 j (by omega) hne)
  have G6 : ∀ j, j < b + 16 → j ≠ b → F12 j = F6 j := fun j hj hne => (G8 j (by omega) hne).trans ((o8 j (by omega) (by omega)).trans (o7 j (by omega)))
  have G5 : ∀ j, j < b + 16 → j ≠ b → F12 j = F5 j := fun j hj hne => (G6 j hj hne).trans (o6 j (by omega) hne)
  have G3 : ∀ j, j < b + 9 → j ≠ b → F12 j = F3 j := fun j hj hne => (G5 j (by omega) hne).trans ((o5 j (by omega) (by omega)).trans (o4 j (by omega)))
  have G2 : ∀ j, j < b + 9 → j ≠ b → F12 j = F2 j := fun j hj hne => (G3 j hj hne).trans (o3 j (by omega) hne)
  have G0 : ∀ j, j < b → F12 j = F j := fun j hj => (G2 j (by omega) (by omega)).trans ((o2 j (by omega) (by omega)).trans (o1 j (by omega)))
  refine hP c11 F12 S12 L11 h12 (fun j hj => (C1 j (by omega)).trans (k1 j hj)) G0 ⟨?_, ⟨fun _ => 0, fun _ => 0, fun _ => 0, fun _ => 0, fun _ => 0, fun _ => 0, fun _ => 0, ?_, ?_, ?_, ?_, ?_, ?_, ?_, ?_, fun p hp => absurd hp (Nat.not_lt_zero p), fun n hn => absurd hn (Nat.not_lt_zero n)⟩, ⟨fun a => a, lr, g, fun _ => r0, ?_, ?_, ?_, fun a ha => ⟨?_, ?_, q1 a ha, ha, rfl, fun t ht => bw_0 ha⟩, fun a c ha hc => Iff.rfl⟩, ⟨g8, fun _ _ => 0, ?_, ?_, fun j hj => ⟨?_, ?_, fun k hk => absurd hk (Nat.not_lt_zero k)⟩⟩, ⟨fun _ => 0, fun _ => 0, fun _ => 0, ?_, ?_, ?_, ?_, fun w hw => absurd hw (Nat.not_lt_zero w)⟩⟩
  · refine f12.trans ?_
    have z1 : c1 (b + 1) = c11 (b + 1) := (C1 _ (by omega)).symm
    have z4 : c4 (b + 1 + 1 + 7) = c11 (b + 9) := (C4 _ (by omega)).symm
    have z7 : c7 (b + 1 + 1 + 7 + 1 + 6) = c11 (b + 16) := (C7 _ (by omega)).symm
    have z10 : c10 (b + 1 + 1 + 7 + 1 + 6 + 1 + 6) = c11 (b + 23) := (C10 _ (by omega)).symm
    rw [z1, z4, z7, z10]
    rfl
  · rw [G2 _ (by omega) (by omega), f2]
    rw [show c2 (b + 1 + 1) = c11 (b + 2) from (C2 _ (by omega)).symm, show c2 (b + 1 + 1 + 1) = c11 (b + 3) from (C2 _ (by omega)).symm, show c2 (b + 1 + 1 + 2) = c11 (b + 4) from (C2 _ (by omega)).symm, show c2 (b + 1 + 1 + 3) = c11 (b + 5) from (C2 _ (by omega)).symm, show c2 (b + 1 + 1 + 4) = c11 (b + 6) from (C2 _ (by omega)).symm, show c2 (b + 1 + 1 + 5) = c11 (b + 7) from (C2 _ (by omega)).symm, show c2 (b + 1 + 1 + 6) = c11 (b + 8) from (C2 _ (by omega)).symm]
    rfl
  · rw [G2 _ (by omega) (by omega)]; exact p0
  · rw [G2 _ (by omega) (by omega)]; exact p1
  · rw [G2 _ (by omega) (by omega)]; exact p2
  · rw [G2 _ (by omega) (by omega)]; exact p3
  · rw [G2 _ (by omega) (by omega)]; exact p4
  · rw [G2 _ (by omega) (by omega)]; exact p5
  · rw [G2 _ (by omega) (by omega)]; exact p6
  · rw [G5 _ (by omega) (by omega)]
    refine f5.trans ?_
    rw [show c5 (b + 1 + 1 + 7 + 1) = c11 (b + 10) from (C5 _ (by omega)).symm, show c5 (b + 1 + 1 + 7 + 1 + 1) = c11 (b + 11) from (C5 _ (by omega)).symm]
  · rw [G5 _ (by omega) (by omega)]; exact q0
  · rw [G5 _ (by omega) (by omega)]; exact q2
  · rw [q3 a ha, show b + 1 + 1 + 7 + 1 + 2 + a = b + 12 + a by omega, C5 _ (by omega)]
  · rw [G5 _ (by omega) (by omega)]
    have := q4 a ha
    rw [show b + 1 + 1 + 7 + 1 + 2 + a = b + 12 + a by omega] at this
    exact this
  · rw [G8 _ (by omega) (by omega)]
    refine f8.trans ?_
    rw [show c8 (b + 1 + 1 + 7 + 1 + 6 + 1) = c11 (b + 17) from (C8 _ (by omega)).symm]
    rfl
  · rw [G8 _ (by omega) (by omega)]; exact r0'
  · rw [r1 j hj, show b + 1 + 1 + 7 + 1 + 6 + 1 + 1 + j = b + 18 + j by omega, C8 _ (by omega)]
  · rw [G8 _ (by omega) (by omega)]
    have := r2 j hj
    rw [show b + 1 + 1 + 7 + 1 + 6 + 1 + 1 + j = b + 18 + j by omega] at this
    exact this
  · rw [G11 _ (by omega) (by omega)]
    exact f11
  · rw [G11 _ (by omega) (by omega)]; exact s0
  · rw [G11 _ (by omega) (by omega)]; exact s1
  · rw [G11 _ (by omega) (by omega)]; exact s2
end INITS
