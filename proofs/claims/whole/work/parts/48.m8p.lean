/-! ===== the reference: person, change ===== -/
/-- a number comes: of person p, hidden v in l to g, needing d; P people now -/
def gC (σ : SG) (P p v l g d : Nat) : SG := fun f t =>
  if f = 0 then P else if f = 1 then gN σ + 1 else if f = 10 then (if t = p then gN σ else cur σ t)
  else if f = 11 then (if t = gN σ then p else own σ t) else if f = 12 then (if t = gN σ then l else lo σ t)
  else if f = 13 then (if t = gN σ then g else hi σ t) else if f = 14 then (if t = gN σ then d else nd σ t)
  else if f = 15 then (if t = gN σ then v else vl σ t) else if f = 20 ∨ f = 21 ∨ f = 22 ∨ f = 23 then σ f (t % gT σ) else σ f t
section GC
variable {σ : SG} {τ : TG} {P p v l g d : Nat}
theorem gC_stp : ∀ n, n ≤ gN σ → stp (gC σ P p v l g d) n = stp σ n
  | 0, _ => rfl
  | n + 1, hn => by
    show stp (gC σ P p v l g d) n * (gC σ P p v l g d 13 n - gC σ P p v l g d 12 n + 1) = stp σ n * (hi σ n - lo σ n + 1)
    rw [gC_stp n (by omega)]
    have e1 : gC σ P p v l g d 13 n = hi σ n := by
      show (if n = gN σ then g else hi σ n) = _
      rw [if_neg (by omega)]
    have e2 : gC σ P p v l g d 12 n = lo σ n := by
      show (if n = gN σ then l else lo σ n) = _
      rw [if_neg (by omega)]
    rw [e1, e2]
theorem gC_T : gT (gC σ P p v l g d) = gT σ * (g - l + 1) := by
  show stp (gC σ P p v l g d) (gN σ) * (gC σ P p v l g d 13 (gN σ) - gC σ P p v l g d 12 (gN σ) + 1) = _
  rw [gC_stp _ (Nat.le_refl _)]
  have e1 : gC σ P p v l g d 13 (gN σ) = g := by
    show (if gN σ = gN σ then g else hi σ (gN σ)) = _
    rw [if_pos rfl]
  have e2 : gC σ P p v l g d 12 (gN σ) = l := by
    show (if gN σ = gN σ then l else lo σ (gN σ)) = _
    rw [if_pos rfl]
  rw [e1, e2]
theorem gC_l {a t : Nat} (ha : a < 4) : lef (gC σ P p v l g d) a t = lef σ a (t % gT σ) := by
  show gC σ P p v l g d (20 + a) t = _
  unfold gC
  rw [if_neg (by omega), if_neg (by omega), if_neg (by omega), if_neg (by omega), if_neg (by omega), if_neg (by omega), if_neg (by omega), if_neg (by omega), if_pos (by omega)]
theorem gC_hid : hid (gC σ P p v l g d) (gN σ + 1) = hid σ (gN σ) + (v - l) * gT σ := by
  show sm _ (gN σ) + (gC σ P p v l g d 15 (gN σ) - gC σ P p v l g d 12 (gN σ)) * stp (gC σ P p v l g d) (gN σ) = _
  rw [gC_stp _ (Nat.le_refl _)]
  have e1 : gC σ P p v l g d 15 (gN σ) = v := by
    show (if gN σ = gN σ then v else vl σ (gN σ)) = _
    rw [if_pos rfl]
  have e2 : gC σ P p v l g d 12 (gN σ) = l := by
    show (if gN σ = gN σ then l else lo σ (gN σ)) = _
    rw [if_pos rfl]
  rw [e1, e2]
  congr 1
  refine sm_congr (gN σ) (fun k hk => ?_)
  rw [gC_stp k (by omega)]
  have e3 : gC σ P p v l g d 15 k = vl σ k := by
    show (if k = gN σ then v else vl σ k) = _
    rw [if_neg (by omega)]
  have e4 : gC σ P p v l g d 12 k = lo σ k := by
    show (if k = gN σ then l else lo σ k) = _
    rw [if_neg (by omega)]
  show (gC σ P p v l g d 15 k - gC σ P p v l g d 12 k) * _ = _
  rw [e3, e4]
theorem gC_sm : sm (hi (gC σ P p v l g d)) (gN σ + 1) = sm (hi σ) (gN σ) + g := by
  show sm (gC σ P p v l g d 13) (gN σ) + gC σ P p v l g d 13 (gN σ) = _
  have e1 : gC σ P p v l g d 13 (gN σ) = g := by
    show (if gN σ = gN σ then g else hi σ (gN σ)) = _
    rw [if_pos rfl]
  rw [e1]
  congr 1
  refine sm_congr (gN σ) (fun k hk => ?_)
  show (if k = gN σ then g else hi σ k) = _
  rw [if_neg (by omega)]
theorem WF_gC (hw : WF σ τ) (hP' : (P = gP σ ∧ p < gP σ) ∨ (P = gP σ + 1 ∧ p = gP σ)) (hP8 : P ≤ 8) (hN : gN σ < 10) (hlv : l ≤ v) (hvg : v ≤ g) (hg : g ≤ 20) (hd1 : 1 ≤ d) (hd : d ≤ g - l + 1) (hT : gT σ * (g - l + 1) ≤ 4096) (hs : sm (hi σ) (gN σ) + g ≤ 60) : WF (gC σ P p v l g d) τ := by
  have hhid := hid_lt hw (gN σ) (Nat.le_refl _)
  have hTp := stp_pos σ (gN σ)
  obtain ⟨h1, h2, h3, h4, h5, h6, h7, h8, h9, h10, h11, h12, h13, h14⟩ := hw
  have hmod : ∀ t, t % gT σ < gT σ := fun t => Nat.mod_lt _ hTp
  refine ⟨hP8, by show gN σ + 1 ≤ 10; omega, by rw [gC_T]; exact hT, by show sm (hi (gC σ P p v l g d)) (gN σ + 1) ≤ 60; rw [gC_sm]; exact hs, h5, h6, h7, ?_, ?_, h10, ?_, ?_, ?_, ?_⟩
  · intro q hq
    have hq' : q < P := hq
    show (if q = p then gN σ else cur σ q) < gN σ + 1 ∧ (if (if q = p then gN σ else cur σ q) = gN σ then p else own σ (if q = p then gN σ else cur σ q)) = q
    by_cases e : q = p
    · rw [if_pos e, if_pos rfl]
      exact ⟨by omega, e.symm⟩
    · rw [if_neg e]
      have h := h8 q (by omega)
      rw [if_neg (by omega)]
      exact ⟨by omega, h.2⟩
  · intro n hn
    have hn' : n < gN σ + 1 := hn
    show (if n = gN σ then p else own σ n) < P ∧ (if n = gN σ then l else lo σ n) ≤ (if n = gN σ then v else vl σ n) ∧ (if n = gN σ then v else vl σ n) ≤ (if n = gN σ then g else hi σ n) ∧ (if n = gN σ then g else hi σ n) ≤ 20 ∧ 1 ≤ (if n = gN σ then d else nd σ n) ∧ (if n = gN σ then d else nd σ n) ≤ (if n = gN σ then g else hi σ n) - (if n = gN σ then l else lo σ n) + 1
    by_cases e : n = gN σ
    · simp only [if_pos e]
      exact ⟨by omega, hlv, hvg, hg, hd1, hd⟩
    · simp only [if_neg e]
      have h := h9 n (by omega)
      exact ⟨by omega, h.2⟩
  · intro b c hb hc hg9 t _
    rw [gC_l hb, gC_l hc]
    exact h11 b c hb hc hg9 _ (hmod t)
  · intro a t ha _
    rw [gC_l ha]
    exact h12 a _ ha (hmod t)
  · intro a ha
    show lef (gC σ P p v l g d) a (hid (gC σ P p v l g d) (gN σ + 1)) = 1
    rw [gC_l ha, gC_hid, Nat.add_mul_mod_self_right, Nat.mod_eq_of_lt hhid]
    exact h13 a ha
  · intro w hw
    have h := h14 w hw
    refine ⟨?_, h.2⟩
    show wse σ w < 2 ^ P
    exact Nat.lt_of_lt_of_le h.1 (Nat.pow_le_pow_right (by omega) (by omega))
end GC
section M8P
variable {ad : Nat → Nat} {S0 : PH} {al hz : Nat → Int32} {s1 s2 s3 s4 : Int32} {lw hg mt tb9 : Nat → Int32} {an ky : Nat → Int64} {rw9 : Nat → Int32} {lf : Int32} {σ : SG} {τ : TG}
theorem b_mayCome (h : inj8 ad) (hw : WF σ τ) (hA : RA σ τ al 0) {l g : Nat} (hl : l ≤ g) (hg9 : g ≤ 20) : f_X8_mayCome (mk8 ad S0 al hz s1 s2 s3 s4 lw hg mt tb9 an ky rw9 lf) (ad 0) (nI l) (nI g) = some (if gN σ < 10 ∧ gT σ * (g - l + 1) ≤ 4096 ∧ sm (hi σ) (gN σ) + g ≤ 60 then 1 else 0) := by
  have hN := hw.n10
  have hT := hw.tle
  have h60 := hw.s60
  have key : lpo (fun y : Int32 × Int32 => f_X8_mayCome_L5 (mk8 ad S0 al hz s1 s2 s3 s4 lw hg mt tb9 an ky rw9 lf) (ad 0) y.1 y.2) FU (nI g, (0 : Int32)) = some (nI (g + sm (hi σ) (gN σ))) := by
    refine lpo_det (fun n => (nI (g + sm (hi σ) n), nI n)) (gN σ) (by omega) rfl ?_ ?_
    · intro n hn
      obtain ⟨e0, e1, e2, e3, e4, e5⟩ := hA.n hn
      rw [Nat.zero_add] at e2
      have o2 : f_X8_of (mk8 ad S0 al hz s1 s2 s3 s4 lw hg mt tb9 an ky rw9 lf) (ad 0) (nI n) 2 = some (al (20 + 8 * n + 2)) := b_of h (w := 2) (by omega) (by omega)
      unfold f_X8_mayCome_L5
      simp (disch := first | omega | assumption) only [g8_0, b_N h hA, Option.bind_some, q_le, ck8, o2, e2, nI_add, nI_1]
      rw [if_neg (by omega), Nat.add_assoc]
      rfl
    · unfold f_X8_mayCome_L5
      simp (disch := first | omega | assumption) only [g8_0, b_N h hA, Option.bind_some, q_le]
      rw [if_pos (Nat.le_refl _)]
  have hm : gT σ * (g - l + 1) ≤ 4096 * 21 := Nat.mul_le_mul hT (by omega)
  unfold f_X8_mayCome
  rw [key]
  simp only [Option.bind_some, g8_0 h, b_N h hA, b_T h hA]
  rw [q_sub hl, nI_1, pk_mul]
  by_cases c1 : gN σ < 10
  · rw [if_neg (show ¬ (10 : Int32) ≤ nI (gN σ) from nI_ge (a := gN σ) (b := 10) c1 (by omega))]
    by_cases c2 : gT σ * (g - l + 1) ≤ 4096
    · rw [if_neg (show ¬ (4096 : Int32) < nI (gT σ * (g - l + 1)) from fun q => absurd ((nI_ltI (a := 4096) (by omega) (by omega)).mp q) (by omega))]
      by_cases c3 : sm (hi σ) (gN σ) + g ≤ 60
      · rw [if_neg (show ¬ (60 : Int32) < nI (g + sm (hi σ) (gN σ)) from fun q => absurd ((nI_ltI (a := 60) (by omega) (by omega)).mp q) (by omega)), if_pos ⟨c1, c2, c3⟩]
      · rw [if_pos (show (60 : Int32) < nI (g + sm (hi σ) (gN σ)) from (nI_ltI (a := 60) (by omega) (by omega)).mpr (by omega)), if_neg (fun q => c3 q.2.2)]
    · rw [if_pos (show (4096 : Int32) < nI (gT σ * (g - l + 1)) from (nI_ltI (a := 4096) (by omega) (by omega)).mpr (by omega)), if_neg (fun q => c2 q.2.1)]
  · rw [if_pos (show (10 : Int32) ≤ nI (gN σ) from (nI_leI (a := 10) (by omega) (by omega)).mpr (by omega)), if_neg (fun q => c1 q.1)]
theorem b_comes (h : inj8 ad) {A : Nat → Int32} (hw : WF σ τ) (hA : RA σ τ A 0) {P p v l g d : Nat} (hal : ∀ q, q ≠ 0 → al q = A q) (h0 : al 0 = nI P) (hP' : (P = gP σ ∧ p < gP σ) ∨ (P = gP σ + 1 ∧ p = gP σ)) (hP8 : P ≤ 8) (hN : gN σ < 10) (hlg : l ≤ g) (hT : gT σ * (g - l + 1) ≤ 4096) : ∃ al', f_X8_comes (mk8 ad S0 al hz s1 s2 s3 s4 lw hg mt tb9 an ky rw9 lf) (ad 0) (nI p) (nI v) (nI l) (nI g) (nI d) = some (nI (gN σ), mk8 ad S0 al' hz s1 s2 s3 s4 lw hg mt tb9 an ky rw9 lf) ∧ RA (gC σ P p v l g d) τ al' 0 ∧ ∀ q, 17514 ≤ q → al' q = al q := by
  have hT9 := hw.tle
  have hTp : 1 ≤ gT σ := stp_pos σ (gN σ)
  have hW := hw.w8
  have hK := hw.k200
  have hPP := hw.p8
  obtain ⟨T', hT'⟩ : ∃ T', T' = gT σ * (g - l + 1) := ⟨_, rfl⟩
  have hTT : gT σ ≤ T' := by rw [hT']; exact Nat.le_mul_of_pos_right _ (by omega)
  rw [← hT'] at hT
  have i0 : (20 : Int32) + (8 : Int32) * nI (gN σ) = nI (20 + 8 * gN σ) := by rw [show (8 : Int32) = nI 8 from rfl, pk_mul, show (20 : Int32) = nI 20 from rfl, nI_add]
  have i1 : nI (20 + 8 * gN σ) + 1 = nI (20 + 8 * gN σ + 1) := nI_add _ 1
  have i2 : nI (20 + 8 * gN σ) + 2 = nI (20 + 8 * gN σ + 2) := nI_add _ 2
  have i3 : nI (20 + 8 * gN σ) + 3 = nI (20 + 8 * gN σ + 3) := nI_add _ 3
  have i4 : nI (20 + 8 * gN σ) + 4 = nI (20 + 8 * gN σ + 4) := nI_add _ 4
  have i5 : nI (20 + 8 * gN σ) + 5 = nI (20 + 8 * gN σ + 5) := nI_add _ 5
  have aN : al 1 = nI (gN σ) := by rw [hal 1 (by omega)]; have := hA.N; rw [Nat.zero_add] at this; exact this
  have aT : al 2 = nI (gT σ) := by rw [hal 2 (by omega)]; have := hA.T; rw [Nat.zero_add] at this; exact this
  obtain ⟨B, hB⟩ : ∃ B, B = upd (upd (upd (upd (upd (upd (upd (upd al (20 + 8 * gN σ) (nI p)) (20 + 8 * gN σ + 1) (nI l)) (20 + 8 * gN σ + 2) (nI g)) (20 + 8 * gN σ + 3) (nI d)) (20 + 8 * gN σ + 4) (nI v)) (20 + 8 * gN σ + 5) (nI (gT σ))) 1 (nI (gN σ + 1))) 2 (nI T') := ⟨_, rfl⟩
  have Bo : ∀ q, q ≠ 1 → q ≠ 2 → q < 20 + 8 * gN σ ∨ 26 + 8 * gN σ ≤ q → B q = al q := fun q q1 q2 q3 => by
    rw [hB]; unfold upd
    rw [if_neg (by omega), if_neg (by omega), if_neg (by omega), if_neg (by omega), if_neg (by omega), if_neg (by omega), if_neg (by omega), if_neg (by omega)]
  have B1 : B 1 = nI (gN σ + 1) := by rw [hB]; unfold upd; rw [if_neg (by omega), if_pos rfl]
  have B2 : B 2 = nI T' := by rw [hB]; unfold upd; rw [if_pos rfl]
  have C0 : B (20 + 8 * gN σ) = nI p := by rw [hB]; unfold upd; rw [if_neg (by omega), if_neg (by omega), if_neg (by omega), if_neg (by omega), if_neg (by omega), if_neg (by omega), if_neg (by omega), if_pos rfl]
  have C1 : B (20 + 8 * gN σ + 1) = nI l := by rw [hB]; unfold upd; rw [if_neg (by omega), if_neg (by omega), if_neg (by omega), if_neg (by omega), if_neg (by omega), if_neg (by omega), if_pos rfl]
  have C2 : B (20 + 8 * gN σ + 2) = nI g := by rw [hB]; unfold upd; rw [if_neg (by omega), if_neg (by omega), if_neg (by omega), if_neg (by omega), if_neg (by omega), if_pos rfl]
  have C3 : B (20 + 8 * gN σ + 3) = nI d := by rw [hB]; unfold upd; rw [if_neg (by omega), if_neg (by omega), if_neg (by omega), if_neg (by omega), if_pos rfl]
  have C4 : B (20 + 8 * gN σ + 4) = nI v := by rw [hB]; unfold upd; rw [if_neg (by omega), if_neg (by omega), if_neg (by omega), if_pos rfl]
  have C5 : B (20 + 8 * gN σ + 5) = nI (gT σ) := by rw [hB]; unfold upd; rw [if_neg (by omega), if_neg (by omega), if_pos rfl]
  have Bl : ∀ a u, a < 4 → u < gT σ → B (1130 + 4096 * a + u) = nI (lef σ a (u % gT σ)) := fun a u ha hu => by
    rw [Bo _ (by omega) (by omega) (by omega), hal _ (by omega), Nat.mod_eq_of_lt hu]
    have := hA.l ha hu
    rw [Nat.zero_add] at this
    exact this
  have ix : ∀ a t, (1130 : Int32) + (4096 : Int32) * nI a + nI t = nI (1130 + 4096 * a + t) := fun a t => by rw [show (4096 : Int32) = nI 4096 from rfl, pk_mul, show (1130 : Int32) = nI 1130 from rfl, nI_add, nI_add]
  -- one asker's row
  have inner : ∀ a al1, a < 4 → (∀ q, q < 1130 ∨ 17514 ≤ q → al1 q = B q) → (∀ b u, b < 4 → u < gT σ ∨ (u < T' ∧ b < a) → al1 (1130 + 4096 * b + u) = nI (lef σ b (u % gT σ))) → ∃ al2, lpo (fun y : Int32 × PH => f_X8_comes_L125 y.2 (ad 0) (nI (gT σ)) (nI a) y.1) FU (nI (gT σ), mk8 ad S0 al1 hz s1 s2 s3 s4 lw hg mt tb9 an ky rw9 lf) = some (mk8 ad S0 al2 hz s1 s2 s3 s4 lw hg mt tb9 an ky rw9 lf) ∧ (∀ q, q < 1130 ∨ 17514 ≤ q → al2 q = B q) ∧ (∀ b u, b < 4 → u < gT σ ∨ (u < T' ∧ b < a + 1) → al2 (1130 + 4096 * b + u) = nI (lef σ b (u % gT σ))) := by
    intro a al1 ha hf1 hl1
    have key := lpo_run (b := fun y : Int32 × PH => f_X8_comes_L125 y.2 (ad 0) (nI (gT σ)) (nI a) y.1) (x := (nI (gT σ), mk8 ad S0 al1 hz s1 s2 s3 s4 lw hg mt tb9 an ky rw9 lf))
      (fun i y => ∃ al2, y = (nI (gT σ + i), mk8 ad S0 al2 hz s1 s2 s3 s4 lw hg mt tb9 an ky rw9 lf) ∧ (∀ q, q < 1130 ∨ 17514 ≤ q → al2 q = B q) ∧ (∀ b u, b < 4 → u < gT σ ∨ (u < T' ∧ (b < a ∨ (b = a ∧ u < gT σ + i))) → al2 (1130 + 4096 * b + u) = nI (lef σ b (u % gT σ))))
      (fun y => ∃ al2, y = mk8 ad S0 al2 hz s1 s2 s3 s4 lw hg mt tb9 an ky rw9 lf ∧ (∀ q, q < 1130 ∨ 17514 ≤ q → al2 q = B q) ∧ (∀ b u, b < 4 → u < gT σ ∨ (u < T' ∧ b < a + 1) → al2 (1130 + 4096 * b + u) = nI (lef σ b (u % gT σ))))
      (T' - gT σ) (by omega) ⟨al1, rfl, hf1, fun b u hb hu => hl1 b u hb (by omega)⟩ (by
        rintro i y hi ⟨al2, rfl, hf2, hl2⟩
        refine Or.inl ⟨(nI (gT σ + (i + 1)), mk8 ad S0 (upd al2 (1130 + 4096 * a + (gT σ + i)) (nI (lef σ a ((gT σ + i) % gT σ)))) hz s1 s2 s3 s4 lw hg mt tb9 an ky rw9 lf), ?_, _, rfl, fun q hq => ?_, fun b u hb hu => ?_⟩
        · have bT : ldI (mk8 ad S0 al2 hz s1 s2 s3 s4 lw hg mt tb9 an ky rw9 lf) (ad 1) 2 = some (nI T') := by
            rw [show (2 : Int32) = nI 2 from rfl, r8_al h (by omega), hf2 2 (by omega), B2]
          have er : al2 (1130 + 4096 * a + (gT σ + i) - gT σ) = nI (lef σ a ((gT σ + i) % gT σ)) := by
            rw [show 1130 + 4096 * a + (gT σ + i) - gT σ = 1130 + 4096 * a + i by omega, hl2 a i ha (by omega), Nat.add_mod_left]
          show f_X8_comes_L125 _ _ _ _ (nI (gT σ + i)) = _
          unfold f_X8_comes_L125
          rw [ix, q_sub (by omega)]
          simp (disch := first | omega | assumption) only [g8_0, bT, Option.bind_some, q_le, r8_al, er, w8_al, nI_1]
          rw [if_neg (by omega), Nat.add_assoc]
        · unfold upd
          rw [if_neg (by omega)]
          exact hf2 q hq
        · unfold upd
          by_cases e : 1130 + 4096 * b + u = 1130 + 4096 * a + (gT σ + i)
          · have e1 : b = a := by omega
            have e2 : u = gT σ + i := by omega
            rw [if_pos e, e1, e2]
          · rw [if_neg e]
            exact hl2 b u hb (by omega)) (by
        rintro y ⟨al2, rfl, hf2, hl2⟩
        refine ⟨_, ?_, al2, rfl, hf2, fun b u hb hu => hl2 b u hb (by omega)⟩
        have bT : ldI (mk8 ad S0 al2 hz s1 s2 s3 s4 lw hg mt tb9 an ky rw9 lf) (ad 1) 2 = some (nI T') := by
          rw [show (2 : Int32) = nI 2 from rfl, r8_al h (by omega), hf2 2 (by omega), B2]
        show f_X8_comes_L125 _ _ _ _ (nI (gT σ + (T' - gT σ))) = _
        unfold f_X8_comes_L125
        simp (disch := first | omega | assumption) only [g8_0, bT, Option.bind_some, q_le]
        rw [if_pos (by omega)])
    obtain ⟨y9, h1, al2, rfl, h2, h3⟩ := key
    exact ⟨al2, h1, h2, h3⟩
  have outer := lpo_run (b := fun y : Int32 × PH => f_X8_comes_L115 y.2 (ad 0) (nI (gT σ)) y.1) (x := ((0 : Int32), mk8 ad S0 B hz s1 s2 s3 s4 lw hg mt tb9 an ky rw9 lf))
    (fun a y => ∃ al1, y = (nI a, mk8 ad S0 al1 hz s1 s2 s3 s4 lw hg mt tb9 an ky rw9 lf) ∧ (∀ q, q < 1130 ∨ 17514 ≤ q → al1 q = B q) ∧ (∀ b u, b < 4 → u < gT σ ∨ (u < T' ∧ b < a) → al1 (1130 + 4096 * b + u) = nI (lef σ b (u % gT σ))))
    (fun y => ∃ al1, y = mk8 ad S0 al1 hz s1 s2 s3 s4 lw hg mt tb9 an ky rw9 lf ∧ (∀ q, q < 1130 ∨ 17514 ≤ q → al1 q = B q) ∧ (∀ b u, b < 4 → u < T' → al1 (1130 + 4096 * b + u) = nI (lef σ b (u % gT σ))))
    4 (by omega) ⟨B, rfl, fun _ _ => rfl, fun b u hb hu => Bl b u hb (by omega)⟩ (by
      rintro a y ha ⟨al1, rfl, hf1, hl1⟩
      obtain ⟨al2, e1, e2, e3⟩ := inner a al1 ha hf1 hl1
      refine Or.inl ⟨(nI (a + 1), _), ?_, al2, rfl, e2, e3⟩
      show f_X8_comes_L115 _ _ _ (nI a) = _
      unfold f_X8_comes_L115
      rw [if_neg (show ¬ (4 : Int32) ≤ nI a from nI_ge (a := a) (b := 4) ha (by omega)), e1]
      simp only [Option.bind_some, nI_1]) (by
      rintro y ⟨al1, rfl, hf1, hl1⟩
      refine ⟨_, ?_, al1, rfl, hf1, fun b u hb hu => hl1 b u hb (by omega)⟩
      show f_X8_comes_L115 _ _ _ (nI 4) = _
      unfold f_X8_comes_L115
      rw [if_pos (show (4 : Int32) ≤ nI 4 by decide)])
  obtain ⟨y9, h1, al1, rfl, hf1, hl1⟩ := outer
  refine ⟨upd al1 (10 + p) (nI (gN σ)), ?_, ?_, fun q hq => ?_⟩
  · unfold f_X8_comes
    simp only [g8_0 h, Option.bind_some]
    rw [show (1 : Int32) = nI 1 from rfl, r8_al h (by omega), aN]
    simp only [Option.bind_some]
    rw [show (2 : Int32) = nI 2 from rfl, r8_al h (by omega), aT]
    simp only [Option.bind_some]
    rw [show nI 1 = (1 : Int32) from rfl, show nI 2 = (2 : Int32) from rfl, i0, i1, i2, i3, i4, i5]
    rw [w8_al h (by omega)]
    simp only [Option.bind_some, g8_0 h]
    rw [w8_al h (by omega)]
    simp only [Option.bind_some, g8_0 h]
    rw [w8_al h (by omega)]
    simp only [Option.bind_some, g8_0 h]
    rw [w8_al h (by omega)]
    simp only [Option.bind_some, g8_0 h]
    rw [w8_al h (by omega)]
    simp only [Option.bind_some, g8_0 h]
    rw [w8_al h (by omega)]
    simp only [Option.bind_some, g8_0 h]
    have e1 : ∀ f : Nat → Int32, f 1 = nI (gN σ) → (ldI (mk8 ad S0 f hz s1 s2 s3 s4 lw hg mt tb9 an ky rw9 lf) (ad 1) (1 : Int32)) = some (nI (gN σ)) := fun f hf => (r8_al h (i := 1) (by omega)).trans (congrArg some hf)
    have w1 : ∀ (f : Nat → Int32) (z : Int32), stI (mk8 ad S0 f hz s1 s2 s3 s4 lw hg mt tb9 an ky rw9 lf) (ad 1) (1 : Int32) z = some (mk8 ad S0 (upd f 1 z) hz s1 s2 s3 s4 lw hg mt tb9 an ky rw9 lf) := fun f z => w8_al h (i := 1) (by omega) z
    have w2 : ∀ (f : Nat → Int32) (z : Int32), stI (mk8 ad S0 f hz s1 s2 s3 s4 lw hg mt tb9 an ky rw9 lf) (ad 1) (2 : Int32) z = some (mk8 ad S0 (upd f 2 z) hz s1 s2 s3 s4 lw hg mt tb9 an ky rw9 lf) := fun f z => w8_al h (i := 2) (by omega) z
    rw [e1 _ (by unfold upd; rw [if_neg (by omega), if_neg (by omega), if_neg (by omega), if_neg (by omega), if_neg (by omega), if_neg (by omega)]; exact aN)]
    simp only [Option.bind_some, nI_1]
    rw [w1]
    simp only [Option.bind_some, g8_0 h]
    rw [w2]
    simp only [Option.bind_some]
    rw [q_sub hlg, nI_1, pk_mul, ← hT', ← hB, h1]
    simp only [Option.bind_some, g8_0 h]
    rw [show (10 : Int32) + nI p = nI (10 + p) from nI_add 10 p, w8_al h (by omega)]
    rfl
  · have hu : ∀ q, q ≠ 10 + p → upd al1 (10 + p) (nI (gN σ)) q = al1 q := fun q hq => by unfold upd; rw [if_neg hq]
    have hB9 : ∀ q, q ≠ 10 + p → q < 1130 → upd al1 (10 + p) (nI (gN σ)) q = B q := fun q hq hq2 => by rw [hu q hq]; exact hf1 q (by omega)
    have hal9 : ∀ q, q ≠ 10 + p → q < 1130 → q ≠ 0 → q ≠ 1 → q ≠ 2 → q < 20 + 8 * gN σ ∨ 26 + 8 * gN σ ≤ q → upd al1 (10 + p) (nI (gN σ)) q = A q := fun q q1 q2 q3 q4 q5 q6 => by rw [hB9 q q1 q2, Bo q q4 q5 q6, hal q q3]
    refine ⟨?_, ?_, ?_, ?_, ?_, ?_, fun a ha => ?_, fun p9 hp9 => ?_, fun n hn => ?_, fun a t ha ht => ?_, fun w hw9 => ?_, fun k j hk hj => ?_⟩
    · rw [hB9 _ (by omega) (by omega), Bo _ (by omega) (by omega) (by omega), Nat.add_zero, h0]; rfl
    · rw [hB9 _ (by omega) (by omega), Nat.zero_add, B1]; rfl
    · rw [hB9 _ (by omega) (by omega), Nat.zero_add, B2, gC_T, hT']
    · rw [hal9 _ (by omega) (by omega) (by omega) (by omega) (by omega) (by omega)]; exact hA.K
    · rw [hal9 _ (by omega) (by omega) (by omega) (by omega) (by omega) (by omega)]; exact hA.F
    · rw [hal9 _ (by omega) (by omega) (by omega) (by omega) (by omega) (by omega)]; exact hA.W
    · rw [hal9 _ (by omega) (by omega) (by omega) (by omega) (by omega) (by omega)]; exact hA.g ha
    · have hp' : p9 < P := hp9
      show _ = nI (if p9 = p then gN σ else cur σ p9)
      by_cases e : p9 = p
      · rw [if_pos e, e]
        unfold upd
        rw [if_pos (by omega)]
      · rw [if_neg e, hal9 _ (by omega) (by omega) (by omega) (by omega) (by omega) (by omega)]
        exact hA.c (by omega)
    · have hn' : n < gN σ + 1 := hn
      rw [gC_stp n (by omega)]
      show _ = nI (if n = gN σ then p else own σ n) ∧ _ = nI (if n = gN σ then l else lo σ n) ∧ _ = nI (if n = gN σ then g else hi σ n) ∧ _ = nI (if n = gN σ then d else nd σ n) ∧ _ = nI (if n = gN σ then v else vl σ n) ∧ _ = nI (stp σ n)
      by_cases e : n = gN σ
      · simp only [if_pos e]
        rw [e, hB9 _ (by omega) (by omega), hB9 _ (by omega) (by omega), hB9 _ (by omega) (by omega), hB9 _ (by omega) (by omega), hB9 _ (by omega) (by omega), hB9 _ (by omega) (by omega)]
        simp only [Nat.zero_add]
        exact ⟨C0, C1, C2, C3, C4, C5⟩
      · simp only [if_neg e]
        have hn2 : n < gN σ := by omega
        rw [hal9 _ (by omega) (by omega) (by omega) (by omega) (by omega) (by omega), hal9 _ (by omega) (by omega) (by omega) (by omega) (by omega) (by omega), hal9 _ (by omega) (by omega) (by omega) (by omega) (by omega) (by omega), hal9 _ (by omega) (by omega) (by omega) (by omega) (by omega) (by omega), hal9 _ (by omega) (by omega) (by omega) (by omega) (by omega) (by omega), hal9 _ (by omega) (by omega) (by omega) (by omega) (by omega) (by omega)]
        exact hA.n hn2
    · rw [gC_T, ← hT'] at ht
      rw [gC_l ha, Nat.zero_add, hu _ (by omega)]
      exact hl1 a t ha ht
    · have hw' : w < gW σ := hw9
      rw [hal9 _ (by omega) (by omega) (by omega) (by omega) (by omega) (by omega), hal9 _ (by omega) (by omega) (by omega) (by omega) (by omega) (by omega), hal9 _ (by omega) (by omega) (by omega) (by omega) (by omega) (by omega)]
      exact hA.w hw'
    · have hk' : k < gK σ := hk
      rw [hal9 _ (by omega) (by omega) (by omega) (by omega) (by omega) (by omega)]
      exact hA.a hk' hj
  · unfold upd
    rw [if_neg (by omega), hf1 q (by omega), Bo q (by omega) (by omega) (by omega)]
end M8P
