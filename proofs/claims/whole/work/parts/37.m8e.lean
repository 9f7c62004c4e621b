/-! ===== the reference: cells of tables ===== -/
/-- cell v holds just the tables D: their least and greatest values, number by number -/
def Cell (σ : SG) (lw hg mt : Nat → Int32) (v : Nat) (D : Nat → Prop) : Prop :=
  (mt v = 0 ∧ ∀ t, ¬ D t) ∨ (mt v = 1 ∧ (∃ t, D t) ∧ ∀ n, n < gN σ → ∃ a b, lw (10 * v + n) = nI a ∧ hg (10 * v + n) = nI b ∧ (∃ t, D t ∧ valt σ t n = a) ∧ (∀ t, D t → a ≤ valt σ t n) ∧ (∃ t, D t ∧ valt σ t n = b) ∧ ∀ t, D t → valt σ t n ≤ b)
/-- some tables D tell no number too closely -/
def Safe (σ : SG) (D : Nat → Prop) : Prop := ∀ n, n < gN σ → ∃ t1 t2, D t1 ∧ D t2 ∧ valt σ t1 n + nd σ n ≤ valt σ t2 n + 1
section M8E
variable {ad : Nat → Nat} {S0 : PH} {al hz : Nat → Int32} {s1 s2 s3 s4 : Int32} {lw hg mt tb9 : Nat → Int32} {an ky : Nat → Int64} {rw9 : Nat → Int32} {lf : Int32} {σ : SG} {τ : TG}
theorem nar1 : vp_nar .boolean 1 = 1 := rfl
theorem nar0 : vp_nar .boolean 0 = 0 := rfl
theorem b_clears (h : inj8 ad) : ∃ mt', f_X8_clears (mk8 ad S0 al hz s1 s2 s3 s4 lw hg mt tb9 an ky rw9 lf) (ad 0) = some (mk8 ad S0 al hz s1 s2 s3 s4 lw hg mt' tb9 an ky rw9 lf) ∧ ∀ v, v < 61 → mt' v = 0 := by
  have key := lpo_run (b := fun x : Int32 × PH => f_X8_clears_L2 x.2 (ad 0) x.1) (x := ((0 : Int32), (mk8 ad S0 al hz s1 s2 s3 s4 lw hg mt tb9 an ky rw9 lf))) (fun i x => ∃ mt', x = (nI i, mk8 ad S0 al hz s1 s2 s3 s4 lw hg mt' tb9 an ky rw9 lf) ∧ ∀ v, v < i → mt' v = 0) (fun S => ∃ mt', S = mk8 ad S0 al hz s1 s2 s3 s4 lw hg mt' tb9 an ky rw9 lf ∧ ∀ v, v < 61 → mt' v = 0) 61 (by omega) ⟨mt, rfl, fun v hv => absurd hv (by omega)⟩ (by
    rintro i x hi ⟨mt', rfl, h3⟩
    refine Or.inl ⟨(nI (i + 1), mk8 ad S0 al hz s1 s2 s3 s4 lw hg (upd mt' i 0) tb9 an ky rw9 lf), ?_, upd mt' i 0, rfl, fun v hv => ?_⟩
    · show f_X8_clears_L2 _ _ (nI i) = _
      unfold f_X8_clears_L2
      rw [if_neg (show ¬ (61 : Int32) ≤ nI i from nI_ge (a := i) (b := 61) hi (by omega))]
      simp (disch := first | omega | assumption) only [g8_8, Option.bind_some, w8_mt, nar0, nI_1]
    · unfold upd
      split
      · rfl
      · exact h3 v (by omega)) (by
    rintro x ⟨mt', rfl, h3⟩
    refine ⟨_, ?_, mt', rfl, h3⟩
    show f_X8_clears_L2 _ _ (nI 61) = _
    unfold f_X8_clears_L2
    rw [if_pos (show (61 : Int32) ≤ nI 61 by decide)])
  obtain ⟨e, h1, h2⟩ := key
  obtain ⟨mt', rfl, h3⟩ := h2
  refine ⟨mt', ?_, h3⟩
  unfold f_X8_clears
  rw [h1]
  rfl
abbrev nlow (lw mt : Nat → Int32) (v : Nat) (x : Nat → Nat) (k : Nat) : Int32 := if mt v = 0 then nI (x k) else if lw (10 * v + k) ≤ nI (x k) then lw (10 * v + k) else nI (x k)
abbrev nhig (hg mt : Nat → Int32) (v : Nat) (x : Nat → Nat) (k : Nat) : Int32 := if mt v = 0 then nI (x k) else if nI (x k) ≤ hg (10 * v + k) then hg (10 * v + k) else nI (x k)
theorem b_meets0 (h : inj8 ad) (hw : WF σ τ) (hA : RA σ τ al 0) {v t : Nat} (hv : v < 61) (ht : t < 4096) : ∃ lw' hg', f_X8_meets (mk8 ad S0 al hz s1 s2 s3 s4 lw hg mt tb9 an ky rw9 lf) (ad 0) (nI v) (nI t) = some (mk8 ad S0 al hz s1 s2 s3 s4 lw' hg' (upd mt v 1) tb9 an ky rw9 lf) ∧ (∀ j, (j < 10 * v ∨ 10 * v + gN σ ≤ j) → lw' j = lw j ∧ hg' j = hg j) ∧ ∀ k, k < gN σ → lw' (10 * v + k) = nlow lw mt v (valt σ t) k ∧ hg' (10 * v + k) = nhig hg mt v (valt σ t) k := by
  have hN := hw.n10
  have key := lpo_run (b := fun x : Int32 × PH => f_X8_meets_L2 x.2 (ad 0) (nI v) (nI t) x.1) (x := ((0 : Int32), (mk8 ad S0 al hz s1 s2 s3 s4 lw hg mt tb9 an ky rw9 lf)))
    (fun n x => ∃ lw' hg', x = (nI n, mk8 ad S0 al hz s1 s2 s3 s4 lw' hg' mt tb9 an ky rw9 lf) ∧ (∀ j, (j < 10 * v ∨ 10 * v + n ≤ j) → lw' j = lw j ∧ hg' j = hg j) ∧ ∀ k, k < n → lw' (10 * v + k) = nlow lw mt v (valt σ t) k ∧ hg' (10 * v + k) = nhig hg mt v (valt σ t) k)
    (fun S => ∃ lw' hg', S = mk8 ad S0 al hz s1 s2 s3 s4 lw' hg' mt tb9 an ky rw9 lf ∧ (∀ j, (j < 10 * v ∨ 10 * v + gN σ ≤ j) → lw' j = lw j ∧ hg' j = hg j) ∧ ∀ k, k < gN σ → lw' (10 * v + k) = nlow lw mt v (valt σ t) k ∧ hg' (10 * v + k) = nhig hg mt v (valt σ t) k)
    (gN σ) (by omega) ⟨lw, hg, rfl, fun j _ => ⟨rfl, rfl⟩, fun k hk => absurd hk (by omega)⟩ (by
    rintro n x hn ⟨lw', hg', rfl, h3, h4⟩
    have e1 := (h3 (10 * v + n) (by omega)).1
    have e2 := (h3 (10 * v + n) (by omega)).2
    have hlt : 10 * v + n < 610 := by omega
    refine Or.inl ⟨(nI (n + 1), mk8 ad S0 al hz s1 s2 s3 s4 (upd lw' (10 * v + n) (nlow lw mt v (valt σ t) n)) (upd hg' (10 * v + n) (nhig hg mt v (valt σ t) n)) mt tb9 an ky rw9 lf), ?_, _, _, rfl, fun j hj => ?_, fun k hk => ?_⟩
    · show f_X8_meets_L2 _ _ _ _ (nI n) = _
      have ix : (10 : Int32) * nI v + nI n = nI (10 * v + n) := by rw [show (10 : Int32) = nI 10 from rfl, pk_mul, nI_add]
      unfold f_X8_meets_L2
      rw [ix]
      simp (disch := first | omega | assumption) only [g8_0, b_N h hA, Option.bind_some, q_le, ck8, b_valueIn h hw hA hn ht, g8_6, g8_8, r8_mt, r8_lw]
      rw [if_neg (by omega), e1]
      unfold nlow nhig
      by_cases hm : mt v = 0
      · rw [if_pos hm, if_pos hm, if_pos hm]
        simp (disch := first | omega | assumption) only [f_X8_meets_b55, f_X8_meets_b67, f_X8_meets_b95, f_X8_meets_b107, w8_lw, Option.bind_some, g8_7, g8_8, r8_mt, hm, if_true, w8_hg, nI_1]
      · rw [if_neg hm, if_neg hm, if_neg hm]
        by_cases hc : lw (10 * v + n) ≤ nI (valt σ t n)
        · rw [if_pos hc, if_pos hc]
          simp (disch := first | omega | assumption) only [f_X8_meets_b67, w8_lw, Option.bind_some, g8_7, g8_8, r8_mt, hm, if_false, r8_hg, e2]
          by_cases hd : nI (valt σ t n) ≤ hg (10 * v + n)
          · rw [if_pos hd, if_pos hd]
            simp (disch := first | omega | assumption) only [f_X8_meets_b107, w8_hg, Option.bind_some, nI_1]
          · rw [if_neg hd, if_neg hd]
            simp (disch := first | omega | assumption) only [f_X8_meets_b95, f_X8_meets_b107, w8_hg, Option.bind_some, nI_1]
        · rw [if_neg hc, if_neg hc]
          simp (disch := first | omega | assumption) only [f_X8_meets_b55, f_X8_meets_b67, w8_lw, Option.bind_some, g8_7, g8_8, r8_mt, hm, if_false, r8_hg, e2]
          by_cases hd : nI (valt σ t n) ≤ hg (10 * v + n)
          · rw [if_pos hd, if_pos hd]
            simp (disch := first | omega | assumption) only [f_X8_meets_b107, w8_hg, Option.bind_some, nI_1]
          · rw [if_neg hd, if_neg hd]
            simp (disch := first | omega | assumption) only [f_X8_meets_b95, f_X8_meets_b107, w8_hg, Option.bind_some, nI_1]
    · have hj' := h3 j (by omega)
      unfold upd
      rw [if_neg (by omega), if_neg (by omega)]
      exact hj'
    · unfold upd
      by_cases hkn : k = n
      · subst hkn
        rw [if_pos rfl, if_pos rfl]
        exact ⟨rfl, rfl⟩
      · rw [if_neg (by omega), if_neg (by omega)]
        exact h4 k (by omega)) (by
    rintro x ⟨lw', hg', rfl, h3, h4⟩
    refine ⟨_, ?_, lw', hg', rfl, h3, h4⟩
    show f_X8_meets_L2 _ _ _ _ (nI (gN σ)) = _
    unfold f_X8_meets_L2
    simp (disch := first | omega | assumption) only [g8_0, b_N h hA, Option.bind_some, q_le]
    rw [if_pos (Nat.le_refl _)])
  obtain ⟨e, h1, h2⟩ := key
  obtain ⟨lw', hg', rfl, h3, h4⟩ := h2
  refine ⟨lw', hg', ?_, h3, h4⟩
  unfold f_X8_meets
  rw [h1]
  simp (disch := first | omega | assumption) only [g8_8, Option.bind_some, w8_mt, nar1]
theorem b_meets (h : inj8 ad) (hw : WF σ τ) (hA : RA σ τ al 0) {v t : Nat} (hv : v < 61) (ht : t < 4096) {D : Nat → Prop} (hc : Cell σ lw hg mt v D) : ∃ lw' hg' mt', f_X8_meets (mk8 ad S0 al hz s1 s2 s3 s4 lw hg mt tb9 an ky rw9 lf) (ad 0) (nI v) (nI t) = some (mk8 ad S0 al hz s1 s2 s3 s4 lw' hg' mt' tb9 an ky rw9 lf) ∧ Cell σ lw' hg' mt' v (fun q => D q ∨ q = t) ∧ mt' v = 1 ∧ (∀ u, u ≠ v → mt' u = mt u) ∧ ∀ u, u ≠ v → ∀ E, Cell σ lw hg mt u E → Cell σ lw' hg' mt' u E := by
  have hN := hw.n10
  obtain ⟨lw', hg', h1, h2, h3⟩ := b_meets0 (S0 := S0) (hz := hz) (s1 := s1) (s2 := s2) (s3 := s3) (s4 := s4) (lw := lw) (hg := hg) (mt := mt) (tb9 := tb9) (an := an) (ky := ky) (rw9 := rw9) (lf := lf) h hw hA hv ht
  refine ⟨lw', hg', upd mt v 1, h1, Or.inr ⟨by unfold upd; rw [if_pos rfl], ⟨t, Or.inr rfl⟩, fun n hn => ?_⟩, by unfold upd; rw [if_pos rfl], fun u hu => by unfold upd; rw [if_neg hu], fun u hu E hE => ?_⟩
  · obtain ⟨e1, e2⟩ := h3 n hn
    have hx := Nat.le_trans (valt_le hw hn t).1 (hw.num hn).2.2.2.1
    rcases hc with ⟨m0, hD⟩ | ⟨m1, -, hD⟩
    · refine ⟨valt σ t n, valt σ t n, ?_, ?_, ⟨t, Or.inr rfl, rfl⟩, ?_, ⟨t, Or.inr rfl, rfl⟩, ?_⟩
      · rw [e1]; unfold nlow; rw [if_pos m0]
      · rw [e2]; unfold nhig; rw [if_pos m0]
      · rintro q (hq | rfl)
        · exact absurd hq (hD q)
        · exact Nat.le_refl _
      · rintro q (hq | rfl)
        · exact absurd hq (hD q)
        · exact Nat.le_refl _
    · obtain ⟨a, b, ea, eb, ⟨ta, hta, va⟩, ha, ⟨tb, htb, vb⟩, hb⟩ := hD n hn
      have m0 : ¬ mt v = 0 := by rw [m1]; decide
      have ha20 : a ≤ 20 := by rw [← va]; exact Nat.le_trans (valt_le hw hn ta).1 (hw.num hn).2.2.2.1
      have hb20 : b ≤ 20 := by rw [← vb]; exact Nat.le_trans (valt_le hw hn tb).1 (hw.num hn).2.2.2.1
      refine ⟨min a (valt σ t n), max b (valt σ t n), ?_, ?_, ?_, ?_, ?_, ?_⟩
      · rw [e1]; unfold nlow
        rw [if_neg m0, ea]
        by_cases hc : a ≤ valt σ t n
        · rw [if_pos (nI_le hc (by omega)), Nat.min_eq_left hc]
        · rw [if_neg (nI_ge (by omega) (by omega)), Nat.min_eq_right (by omega)]
      · rw [e2]; unfold nhig
        rw [if_neg m0, eb]
        by_cases hc : valt σ t n ≤ b
        · rw [if_pos (nI_le hc (by omega)), Nat.max_eq_left hc]
        · rw [if_neg (nI_ge (by omega) (by omega)), Nat.max_eq_right (by omega)]
      · by_cases hc : a ≤ valt σ t n
        · exact ⟨ta, Or.inl hta, by rw [va, Nat.min_eq_left hc]⟩
        · exact ⟨t, Or.inr rfl, by rw [Nat.min_eq_right (by omega)]⟩
      · rintro q (hq | rfl)
        · have := ha q hq; omega
        · omega
      · by_cases hc : valt σ t n ≤ b
        · exact ⟨tb, Or.inl htb, by rw [vb, Nat.max_eq_left hc]⟩
        · exact ⟨t, Or.inr rfl, by rw [Nat.max_eq_right (by omega)]⟩
      · rintro q (hq | rfl)
        · have := hb q hq; omega
        · omega
  · have hm : upd mt v 1 u = mt u := by unfold upd; rw [if_neg hu]
    rcases hE with ⟨m0, hD⟩ | ⟨m1, hne, hD⟩
    · exact Or.inl ⟨by rw [hm]; exact m0, hD⟩
    · refine Or.inr ⟨by rw [hm]; exact m1, hne, fun n hn => ?_⟩
      obtain ⟨a, b, ea, eb, r⟩ := hD n hn
      obtain ⟨f1, f2⟩ := h2 (10 * u + n) (by omega)
      exact ⟨a, b, by rw [f1]; exact ea, by rw [f2]; exact eb, r⟩
end M8E
