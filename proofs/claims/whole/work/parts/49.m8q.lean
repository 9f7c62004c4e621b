/-! ===== the reference: person, change, closed ===== -/
theorem inab {x : Int32} {a b : Nat} (ha : a < 1073741824) (hb : b < 1073741824) : (nI a ≤ x ∧ x ≤ nI b) ↔ ∃ j, a ≤ j ∧ j ≤ b ∧ x = nI j := by
  constructor
  · rintro ⟨h1, h2⟩
    rcases i32_cases x (n := b + 1) (by omega) with ⟨j, hj, rfl⟩ | h | h
    · exact ⟨j, (nI_leI (by omega) (by omega)).mp h1, by omega, rfl⟩
    · exact absurd (Int32.le_trans (nI_pos' (by omega)) h1) (Int32.not_le.mpr h)
    · exact absurd ((nI_leI (by omega) (by omega)).mp (Int32.le_trans h h2)) (by omega)
  · rintro ⟨j, h1, h2, rfl⟩
    exact ⟨(nI_leI (by omega) (by omega)).mpr h1, (nI_leI (by omega) (by omega)).mpr h2⟩
def PeOK (σ : SG) (v l g d : Int32) (V L G D : Nat) : Prop := v = nI V ∧ l = nI L ∧ g = nI G ∧ d = nI D ∧ gP σ < 8 ∧ L ≤ V ∧ V ≤ G ∧ G ≤ 20 ∧ 1 ≤ D ∧ D ≤ G - L + 1 ∧ gN σ < 10 ∧ gT σ * (G - L + 1) ≤ 4096 ∧ sm (hi σ) (gN σ) + G ≤ 60
/-- what person answers, and the state behind it -/
def PeR (σ : SG) (v l g d r : Int32) (σ' : SG) : Prop :=
  (∃ V L G D, PeOK σ v l g d V L G D ∧ r = nI (gP σ) ∧ σ' = gC σ (gP σ + 1) (gP σ) V L G D) ∨ ((¬ ∃ V L G D, PeOK σ v l g d V L G D) ∧ r = -1 ∧ σ' = σ)
def ChOK (σ : SG) (p v : Int32) (q V : Nat) : Prop := p = nI q ∧ v = nI V ∧ q < gP σ ∧ lo σ (cur σ q) ≤ V ∧ V ≤ hi σ (cur σ q) ∧ gN σ < 10 ∧ gT σ * (hi σ (cur σ q) - lo σ (cur σ q) + 1) ≤ 4096 ∧ sm (hi σ) (gN σ) + hi σ (cur σ q) ≤ 60
def ChR (σ : SG) (p v r : Int32) (σ' : SG) : Prop :=
  (∃ q V, ChOK σ p v q V ∧ r = nI (gN σ) ∧ σ' = gC σ (gP σ) q V (lo σ (cur σ q)) (hi σ (cur σ q)) (nd σ (cur σ q))) ∨ ((¬ ∃ q V, ChOK σ p v q V) ∧ r = -1 ∧ σ' = σ)
theorem WF_Pe {σ : SG} {τ : TG} (hw : WF σ τ) {v l g d r : Int32} {σ' : SG} (h : PeR σ v l g d r σ') : WF σ' τ := by
  rcases h with ⟨V, L, G, D, ⟨-, -, -, -, h5, h6, h7, h8, h9, h10, h11, h12, h13⟩, -, rfl⟩ | ⟨-, -, rfl⟩
  · exact WF_gC hw (Or.inr ⟨rfl, rfl⟩) (by omega) h11 h6 h7 h8 h9 h10 h12 h13
  · exact hw
theorem WF_Ch {σ : SG} {τ : TG} (hw : WF σ τ) {p v r : Int32} {σ' : SG} (h : ChR σ p v r σ') : WF σ' τ := by
  rcases h with ⟨q, V, ⟨-, -, h3, h4, h5, h6, h7, h8⟩, -, rfl⟩ | ⟨-, -, rfl⟩
  · have hn := hw.num (hw.per h3).1
    exact WF_gC hw (Or.inl ⟨rfl, h3⟩) hw.p8 h6 h4 h5 hn.2.2.2.1 hn.2.2.2.2.1 hn.2.2.2.2.2 h7 h8
  · exact hw
section M8Q
variable {ad : Nat → Nat} {S0 : PH} {al hz : Nat → Int32} {s1 s2 s3 s4 : Int32} {lw hg mt tb9 : Nat → Int32} {an ky : Nat → Int64} {rw9 : Nat → Int32} {lf : Int32} {σ : SG} {τ : TG}
theorem b_person (h : inj8 ad) (hw : WF σ τ) (hA : RA σ τ al 0) (v l g d : Int32) : ∃ (r : Int32) (al' : Nat → Int32) (σ' : SG), f_X8_person (mk8 ad S0 al hz s1 s2 s3 s4 lw hg mt tb9 an ky rw9 lf) (ad 0) v l g d = some (r, mk8 ad S0 al' hz s1 s2 s3 s4 lw hg mt tb9 an ky rw9 lf) ∧ PeR σ v l g d r σ' ∧ RA σ' τ al' 0 ∧ ∀ q, 17514 ≤ q → al' q = al q := by
  have hP := hw.p8
  have no : (¬ ∃ V L G D, PeOK σ v l g d V L G D) → f_X8_person (mk8 ad S0 al hz s1 s2 s3 s4 lw hg mt tb9 an ky rw9 lf) (ad 0) v l g d = some (-1, (mk8 ad S0 al hz s1 s2 s3 s4 lw hg mt tb9 an ky rw9 lf)) → ∃ (r : Int32) (al' : Nat → Int32) (σ' : SG), f_X8_person (mk8 ad S0 al hz s1 s2 s3 s4 lw hg mt tb9 an ky rw9 lf) (ad 0) v l g d = some (r, mk8 ad S0 al' hz s1 s2 s3 s4 lw hg mt tb9 an ky rw9 lf) ∧ PeR σ v l g d r σ' ∧ RA σ' τ al' 0 ∧ ∀ q, 17514 ≤ q → al' q = al q := fun q e => ⟨-1, al, σ, e, Or.inr ⟨q, rfl, rfl⟩, hA, fun _ _ => rfl⟩
  have e0 : f_X8_person (mk8 ad S0 al hz s1 s2 s3 s4 lw hg mt tb9 an ky rw9 lf) (ad 0) v l g d = f_X8_person (mk8 ad S0 al hz s1 s2 s3 s4 lw hg mt tb9 an ky rw9 lf) (ad 0) v l g d := rfl
  conv at e0 => rhs; unfold f_X8_person
  simp only [g8_0 h, b_P h hA, Option.bind_some, b_isInG, ite10, ck8 h] at e0
  by_cases c1 : gP σ = 8
  · rw [if_pos (show nI (gP σ) = (8 : Int32) by rw [c1]; rfl)] at e0
    exact no (by rintro ⟨V, L, G, D, -, -, -, -, h5, -⟩; omega) e0
  · rw [if_neg (show ¬ nI (gP σ) = (8 : Int32) from fun q => c1 ((nI_eq (a := gP σ) (b := 8) (by omega) (by omega)).mp q))] at e0
    by_cases c2 : (0 : Int32) ≤ l ∧ l ≤ 20
    · rw [if_neg (fun q => q c2)] at e0
      obtain ⟨L, -, hL, rfl⟩ := (inab (x := l) (a := 0) (b := 20) (by omega) (by omega)).mp c2
      by_cases c3 : nI L ≤ g ∧ g ≤ 20
      · rw [if_neg (fun q => q c3)] at e0
        obtain ⟨G, hLG, hG, rfl⟩ := (inab (x := g) (a := L) (b := 20) (by omega) (by omega)).mp c3
        by_cases c4 : nI L ≤ v ∧ v ≤ nI G
        · rw [if_neg (fun q => q c4)] at e0
          obtain ⟨V, hV1, hV2, rfl⟩ := (inab (by omega) (by omega)).mp c4
          rw [q_sub hLG, nI_1] at e0
          by_cases c5 : (1 : Int32) ≤ d ∧ d ≤ nI (G - L + 1)
          · rw [if_neg (fun q => q c5)] at e0
            obtain ⟨D, hD1, hD2, rfl⟩ := (inab (x := d) (a := 1) (b := G - L + 1) (by omega) (by omega)).mp c5
            rw [b_mayCome h hw hA hLG hG] at e0
            simp only [Option.bind_some, ite10] at e0
            by_cases c6 : gN σ < 10 ∧ gT σ * (G - L + 1) ≤ 4096 ∧ sm (hi σ) (gN σ) + G ≤ 60
            · rw [if_neg (fun q => q c6), nI_1] at e0
              have w0 : stI (mk8 ad S0 al hz s1 s2 s3 s4 lw hg mt tb9 an ky rw9 lf) (ad 1) (0 : Int32) (nI (gP σ + 1)) = some (mk8 ad S0 (upd al 0 (nI (gP σ + 1))) hz s1 s2 s3 s4 lw hg mt tb9 an ky rw9 lf) := w8_al h (i := 0) (by omega) _
              rw [w0] at e0
              simp only [Option.bind_some, ck8 h] at e0
              obtain ⟨al', f1, f2, f3⟩ := b_comes (S0 := S0) (hz := hz) (s1 := s1) (s2 := s2) (s3 := s3) (s4 := s4) (lw := lw) (hg := hg) (mt := mt) (tb9 := tb9) (an := an) (ky := ky) (rw9 := rw9) (lf := lf) (al := upd al 0 (nI (gP σ + 1))) (A := al) (P := gP σ + 1) (p := gP σ) (v := V) (l := L) (g := G) (d := D) h hw hA (fun q hq => by unfold upd; rw [if_neg hq]) (by unfold upd; rw [if_pos rfl]) (Or.inr ⟨rfl, rfl⟩) (by omega) c6.1 hLG c6.2.1
              rw [f1] at e0
              refine ⟨nI (gP σ), al', gC σ (gP σ + 1) (gP σ) V L G D, e0, Or.inl ⟨V, L, G, D, ⟨rfl, rfl, rfl, rfl, by omega, hV1, hV2, hG, hD1, hD2, c6⟩, rfl, rfl⟩, f2, fun q hq => ?_⟩
              rw [f3 q hq]
              unfold upd
              rw [if_neg (by omega)]
            · rw [if_pos c6] at e0
              refine no ?_ e0
              rintro ⟨V', L', G', D', -, q2, q3, -, -, q6, q7, q8, -, -, q9⟩
              have e2 := (nI_eq (by omega) (by omega)).mp q2
              have e3 := (nI_eq (by omega) (by omega)).mp q3
              subst e2; subst e3
              exact c6 q9
          · rw [if_pos c5] at e0
            refine no ?_ e0
            rintro ⟨V', L', G', D', q1, q2, q3, q4, -, q6, q7, q8, q9, q10, -⟩
            have e2 := (nI_eq (by omega) (by omega)).mp q2
            have e3 := (nI_eq (by omega) (by omega)).mp q3
            subst e2; subst e3
            exact c5 ((inab (a := 1) (b := G - L + 1) (by omega) (by omega)).mpr ⟨D', q9, q10, q4⟩)
        · rw [if_pos c4] at e0
          refine no ?_ e0
          rintro ⟨V', L', G', D', q1, q2, q3, q4, -, q6, q7, q8, -⟩
          have e2 := (nI_eq (by omega) (by omega)).mp q2
          have e3 := (nI_eq (by omega) (by omega)).mp q3
          subst e2; subst e3
          exact c4 ((inab (by omega) (by omega)).mpr ⟨V', q6, q7, q1⟩)
      · rw [if_pos c3] at e0
        refine no ?_ e0
        rintro ⟨V', L', G', D', q1, q2, q3, q4, -, q6, q7, q8, -⟩
        have e2 := (nI_eq (by omega) (by omega)).mp q2
        subst e2
        exact c3 ((inab (b := 20) (by omega) (by omega)).mpr ⟨G', by omega, q8, q3⟩)
    · rw [if_pos c2] at e0
      refine no ?_ e0
      rintro ⟨V', L', G', D', q1, q2, q3, q4, -, q6, q7, q8, -⟩
      exact c2 ((inab (a := 0) (b := 20) (by omega) (by omega)).mpr ⟨L', by omega, by omega, q2⟩)
theorem b_change (h : inj8 ad) (hw : WF σ τ) (hA : RA σ τ al 0) (p v : Int32) : ∃ (r : Int32) (al' : Nat → Int32) (σ' : SG), f_X8_change (mk8 ad S0 al hz s1 s2 s3 s4 lw hg mt tb9 an ky rw9 lf) (ad 0) p v = some (r, mk8 ad S0 al' hz s1 s2 s3 s4 lw hg mt tb9 an ky rw9 lf) ∧ ChR σ p v r σ' ∧ RA σ' τ al' 0 ∧ ∀ q, 17514 ≤ q → al' q = al q := by
  have hP := hw.p8
  have hN := hw.n10
  have no : (¬ ∃ q V, ChOK σ p v q V) → f_X8_change (mk8 ad S0 al hz s1 s2 s3 s4 lw hg mt tb9 an ky rw9 lf) (ad 0) p v = some (-1, (mk8 ad S0 al hz s1 s2 s3 s4 lw hg mt tb9 an ky rw9 lf)) → ∃ (r : Int32) (al' : Nat → Int32) (σ' : SG), f_X8_change (mk8 ad S0 al hz s1 s2 s3 s4 lw hg mt tb9 an ky rw9 lf) (ad 0) p v = some (r, mk8 ad S0 al' hz s1 s2 s3 s4 lw hg mt tb9 an ky rw9 lf) ∧ ChR σ p v r σ' ∧ RA σ' τ al' 0 ∧ ∀ q, 17514 ≤ q → al' q = al q := fun q e => ⟨-1, al, σ, e, Or.inr ⟨q, rfl, rfl⟩, hA, fun _ _ => rfl⟩
  have e0 : f_X8_change (mk8 ad S0 al hz s1 s2 s3 s4 lw hg mt tb9 an ky rw9 lf) (ad 0) p v = f_X8_change (mk8 ad S0 al hz s1 s2 s3 s4 lw hg mt tb9 an ky rw9 lf) (ad 0) p v := rfl
  conv at e0 => rhs; unfold f_X8_change
  simp only [g8_0 h, b_isPerson h hw hA, Option.bind_some, b_isInG, ite10, ck8 h] at e0
  by_cases c1 : rng p (gP σ)
  · rw [if_neg (fun q => q c1)] at e0
    obtain ⟨i, hi9, rfl⟩ := (rng_iff (by omega)).mp c1
    have hc := hw.per hi9
    have hn := hw.num hc.1
    obtain ⟨-, a1, a2, a3, -, -⟩ := hA.n hc.1
    rw [Nat.zero_add] at a1 a2 a3
    have ec := hA.c hi9
    rw [Nat.zero_add] at ec
    have o1 : f_X8_of (mk8 ad S0 al hz s1 s2 s3 s4 lw hg mt tb9 an ky rw9 lf) (ad 0) (nI (cur σ i)) 1 = some (nI (lo σ (cur σ i))) := by rw [← a1]; exact b_of h (w := 1) (by omega) (by omega)
    have o2 : f_X8_of (mk8 ad S0 al hz s1 s2 s3 s4 lw hg mt tb9 an ky rw9 lf) (ad 0) (nI (cur σ i)) 2 = some (nI (hi σ (cur σ i))) := by rw [← a2]; exact b_of h (w := 2) (by omega) (by omega)
    have o3 : f_X8_of (mk8 ad S0 al hz s1 s2 s3 s4 lw hg mt tb9 an ky rw9 lf) (ad 0) (nI (cur σ i)) 3 = some (nI (nd σ (cur σ i))) := by rw [← a3]; exact b_of h (w := 3) (by omega) (by omega)
    rw [show (10 : Int32) + nI i = nI (10 + i) from nI_add 10 i, r8_al h (by omega), ec] at e0
    simp only [Option.bind_some, o1, o2, o3, f_X8_change_b58] at e0
    by_cases c4 : nI (lo σ (cur σ i)) ≤ v ∧ v ≤ nI (hi σ (cur σ i))
    · rw [if_neg (fun q => q c4)] at e0
      obtain ⟨V, hV1, hV2, rfl⟩ := (inab (by omega) (by omega)).mp c4
      rw [b_mayCome h hw hA (by omega) (by omega)] at e0
      simp only [Option.bind_some, ite10] at e0
      by_cases c6 : gN σ < 10 ∧ gT σ * (hi σ (cur σ i) - lo σ (cur σ i) + 1) ≤ 4096 ∧ sm (hi σ) (gN σ) + hi σ (cur σ i) ≤ 60
      · rw [if_neg (fun q => q c6)] at e0
        have eP := hA.P
        obtain ⟨al', f1, f2, f3⟩ := b_comes (S0 := S0) (hz := hz) (s1 := s1) (s2 := s2) (s3 := s3) (s4 := s4) (lw := lw) (hg := hg) (mt := mt) (tb9 := tb9) (an := an) (ky := ky) (rw9 := rw9) (lf := lf) (al := al) (A := al) (P := gP σ) (p := i) (v := V) (l := lo σ (cur σ i)) (g := hi σ (cur σ i)) (d := nd σ (cur σ i)) h hw hA (fun q hq => rfl) eP (Or.inl ⟨rfl, hi9⟩) (by omega) c6.1 (by omega) c6.2.1
        rw [f1] at e0
        exact ⟨nI (gN σ), al', _, e0, Or.inl ⟨i, V, ⟨rfl, rfl, hi9, hV1, hV2, c6⟩, rfl, rfl⟩, f2, f3⟩
      · rw [if_pos c6] at e0
        refine no ?_ e0
        rintro ⟨i', V', q1, q2, q3, q4, q5, q6⟩
        have e1 := (nI_eq (by omega) (by omega)).mp q1
        subst e1
        exact c6 q6
    · rw [if_pos c4] at e0
      refine no ?_ e0
      rintro ⟨i', V', q1, q2, q3, q4, q5, q6⟩
      have e1 := (nI_eq (by omega) (by omega)).mp q1
      subst e1
      exact c4 ((inab (by omega) (by omega)).mpr ⟨V', q4, q5, q2⟩)
  · rw [if_pos c1] at e0
    refine no ?_ e0
    rintro ⟨i', V', q1, q2, q3, q4, q5, q6⟩
    exact c1 ((rng_iff (by omega)).mpr ⟨i', q3, q1⟩)
end M8Q
