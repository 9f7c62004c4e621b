/-! ===== the reference: would, broken, tables, count, clear, wish ===== -/
abbrev askok (k x : Int32) : Prop := (k = 0 ∧ 1 ≤ x ∧ x ≤ 20) ∨ (k = 1 ∧ 0 ≤ x ∧ x ≤ 20) ∨ k = 2 ∨ k = 3
theorem askok_q {k x : Int32} (h : askok k x) : ∃ j, k = nI j ∧ okq j x := by
  rcases h with ⟨rfl, h1, h2⟩ | ⟨rfl, h1, h2⟩ | rfl | rfl
  · refine ⟨0, rfl, by omega, fun _ => ?_, fun q => absurd q (by omega)⟩
    obtain ⟨j, hj, rfl⟩ := nI_of2 (M := 20) (n := 20) rfl (Int32.not_lt.mpr (Int32.le_trans (by decide : (0 : Int32) ≤ 1) h1)) h2
    have h3 : 1 ≤ j := (nI_leI (a := 1) (b := j) (by omega) (by omega)).mp h1
    exact ⟨j, h3, hj, rfl⟩
  · refine ⟨1, rfl, by omega, fun q => absurd q (by omega), fun _ => ?_⟩
    obtain ⟨j, hj, rfl⟩ := nI_of2 (M := 20) (n := 20) rfl (Int32.not_lt.mpr h1) h2
    exact ⟨j, hj, rfl⟩
  · exact ⟨2, rfl, by omega, fun q => absurd q (by omega), fun q => absurd q (by omega)⟩
  · exact ⟨3, rfl, by omega, fun q => absurd q (by omega), fun q => absurd q (by omega)⟩
theorem b_isAsk (k x : Int32) : f_X8_isAsk k x = some (if askok k x then 1 else 0) := by
  unfold f_X8_isAsk f_X8_isAsk_b39
  by_cases k0 : k = 0
  · subst k0
    rw [if_pos rfl, b_isInG]
    simp only [Option.bind_some, ckZ_ite]
    congr 1
    by_cases hc : (1 : Int32) ≤ x ∧ x ≤ 20
    · rw [if_pos hc, if_pos (Or.inl ⟨rfl, hc⟩)]
    · rw [if_neg hc, if_neg]
      rintro (⟨-, q⟩ | ⟨q, -⟩ | q | q)
      · exact hc q
      all_goals exact absurd q (by decide)
  · rw [if_neg k0]
    by_cases k1 : k = 1
    · subst k1
      rw [if_pos rfl, b_isInG]
      simp only [Option.bind_some, ckZ_ite]
      congr 1
      by_cases hc : (0 : Int32) ≤ x ∧ x ≤ 20
      · rw [if_pos hc, if_pos (Or.inr (Or.inl ⟨rfl, hc⟩))]
      · rw [if_neg hc, if_neg]
        rintro (⟨q, -⟩ | ⟨-, q⟩ | q | q)
        · exact absurd q (by decide)
        · exact hc q
        all_goals exact absurd q (by decide)
    · rw [if_neg k1]
      by_cases k2 : k = 2
      · subst k2
        rw [if_pos rfl, if_pos (Or.inr (Or.inr (Or.inl rfl)))]
      · rw [if_neg k2]
        by_cases k3 : k = 3
        · subst k3
          rw [if_pos rfl, if_pos (Or.inr (Or.inr (Or.inr rfl)))]
        · rw [if_neg k3, if_neg]
          rintro (⟨q, -⟩ | ⟨q, -⟩ | q | q)
          · exact k0 q
          · exact k1 q
          · exact k2 q
          · exact k3 q
/-- what would answers -/
def WR (σ : SG) (a k s x r : Int32) : Prop := (∃ i j q, a = nI i ∧ i < 4 ∧ k = nI j ∧ okq j x ∧ r = nI q ∧ q ≤ 2 ∧ JR σ i (fun t => ansv σ j x.toNatClampNeg (kn σ s) (valt σ t)) q) ∨ (¬ (rng a 4 ∧ askok k x) ∧ r = -1)
section M8H
variable {ad : Nat → Nat} {S0 : PH} {al hz : Nat → Int32} {s1 s2 s3 s4 : Int32} {lw hg mt tb9 : Nat → Int32} {an ky : Nat → Int64} {rw9 : Nat → Int32} {lf : Int32} {σ : SG} {τ : TG}
theorem b_would (h : inj8 ad) (hw : WF σ τ) (hA : RA σ τ al 0) (a k s x : Int32) : ∃ (r : Int32) (s1' s2' s3' s4' : Int32) (lw' hg' mt' : Nat → Int32), f_X8_would (mk8 ad S0 al hz s1 s2 s3 s4 lw hg mt tb9 an ky rw9 lf) (ad 0) a k s x = some (r, mk8 ad S0 al hz s1' s2' s3' s4' lw' hg' mt' tb9 an ky rw9 lf) ∧ WR σ a k s x r := by
  unfold f_X8_would
  simp only [b_isAsker, Option.bind_some, ite10, b_isAsk]
  by_cases h1 : rng a 4
  · by_cases h2 : askok k x
    · obtain ⟨i, hi, rfl⟩ := (rng_iff (by omega)).mp h1
      obtain ⟨j, rfl, hj⟩ := askok_q h2
      obtain ⟨r, u1, u2, u3, u4, lw', hg', mt', e1, e2, e3⟩ := b_judged (S0 := S0) (hz := hz) (s1 := s1) (s2 := s2) (s3 := s3) (s4 := s4) (lw := lw) (hg := hg) (mt := mt) (tb9 := tb9) (an := an) (ky := ky) (rw9 := rw9) (lf := lf) (set := kn σ s) h hw hA hi hj
      refine ⟨nI r, u1, u2, u3, u4, lw', hg', mt', ?_, Or.inl ⟨i, j, r, rfl, hi, rfl, hj, rfl, e2, e3⟩⟩
      rw [if_neg (fun q => q h1), if_neg (fun q => q h2)]
      simp only [ck8 h, Option.bind_some, b_numbersOf h hw hA, bd2, e1]
    · refine ⟨-1, s1, s2, s3, s4, lw, hg, mt, ?_, Or.inr ⟨fun q => h2 q.2, rfl⟩⟩
      rw [if_neg (fun q => q h1), if_pos h2]
  · refine ⟨-1, s1, s2, s3, s4, lw, hg, mt, ?_, Or.inr ⟨fun q => h1 q.1, rfl⟩⟩
    rw [if_pos h1]
theorem WR_one {a k s x r q : Int32} (h1 : WR σ a k s x r) (h2 : WR σ a k s x q) : r = q := by
  have back : ∀ {i j : Nat}, i < 4 → okq j x → rng (nI i) 4 ∧ askok (nI j) x := by
    intro i j hi hj
    refine ⟨(rng_n (by omega) (by omega)).mpr hi, ?_⟩
    obtain ⟨h4, h0, h1⟩ := hj
    rcases (show j = 0 ∨ j = 1 ∨ j = 2 ∨ j = 3 by omega) with rfl | rfl | rfl | rfl
    · obtain ⟨e, e1, e2, rfl⟩ := h0 rfl
      exact Or.inl ⟨rfl, nI_le (a := 1) e1 (by omega), nI_le (b := 20) e2 (by omega)⟩
    · obtain ⟨e, e2, rfl⟩ := h1 rfl
      exact Or.inr (Or.inl ⟨rfl, nI_pos' (by omega), nI_le (b := 20) e2 (by omega)⟩)
    · exact Or.inr (Or.inr (Or.inl rfl))
    · exact Or.inr (Or.inr (Or.inr rfl))
  rcases h1 with ⟨i, j, u, rfl, hi, rfl, hj, rfl, -, h1⟩ | ⟨n1, rfl⟩ <;> rcases h2 with ⟨i', j', u', ea, hi', ek, hj', rfl, -, h2⟩ | ⟨n2, rfl⟩
  · have e1 : i = i' := (nI_eq (by omega) (by omega)).mp ea
    have e2 : j = j' := (nI_eq (by have := hj.1; omega) (by have := hj'.1; omega)).mp ek
    subst e1; subst e2
    rw [JR_one h1 h2]
  · exact absurd (back hi hj) n2
  · subst ea; subst ek
    exact absurd (back hi' hj') n1
  · rfl
/-- what broken answers -/
def BR (σ : SG) (a r : Int32) : Prop := (∃ i, a = nI i ∧ i < 4 ∧ ((r = 0 ∧ Safe σ (fun t => t < gT σ ∧ lef σ i t = 1)) ∨ (r = 1 ∧ ¬ Safe σ (fun t => t < gT σ ∧ lef σ i t = 1)))) ∨ (¬ rng a 4 ∧ r = 0)
theorem BR_one {a r q : Int32} (h1 : BR σ a r) (h2 : BR σ a q) : r = q := by
  rcases h1 with ⟨i, rfl, hi, h1⟩ | ⟨n1, rfl⟩ <;> rcases h2 with ⟨j, e, hj, h2⟩ | ⟨n2, rfl⟩
  · have e1 : i = j := (nI_eq (by omega) (by omega)).mp e
    subst e1
    rcases h1 with ⟨rfl, h1⟩ | ⟨rfl, h1⟩ <;> rcases h2 with ⟨rfl, h2⟩ | ⟨rfl, h2⟩ <;> first | rfl | exact absurd h1 h2 | exact absurd h2 h1
  · exact absurd ((rng_n (by omega) (by omega)).mpr hi) n2
  · subst e
    exact absurd ((rng_n (by omega) (by omega)).mpr hj) n1
  · rfl
theorem b_broken (h : inj8 ad) (hw : WF σ τ) (hA : RA σ τ al 0) (a : Int32) : ∃ (r : Int32) (lw' hg' mt' : Nat → Int32), f_X8_broken (mk8 ad S0 al hz s1 s2 s3 s4 lw hg mt tb9 an ky rw9 lf) (ad 0) a = some (r, mk8 ad S0 al hz s1 s2 s3 s4 lw' hg' mt' tb9 an ky rw9 lf) ∧ BR σ a r := by
  have hT := hw.tle
  unfold f_X8_broken
  simp only [b_isAsker, Option.bind_some, ite10]
  by_cases h1 : rng a 4
  · obtain ⟨i, hi, rfl⟩ := (rng_iff (by omega)).mp h1
    obtain ⟨mt0, hcl, hmt0⟩ := b_clears (S0 := S0) (al := al) (hz := hz) (s1 := s1) (s2 := s2) (s3 := s3) (s4 := s4) (lw := lw) (hg := hg) (mt := mt) (tb9 := tb9) (an := an) (ky := ky) (rw9 := rw9) (lf := lf) h
    have key := lpo_run (b := fun y : Int32 × PH => f_X8_broken_L15 y.2 (ad 0) (nI i) y.1) (x := ((0 : Int32), mk8 ad S0 al hz s1 s2 s3 s4 lw hg mt0 tb9 an ky rw9 lf))
      (fun t y => ∃ lw' hg' mt', y = (nI t, mk8 ad S0 al hz s1 s2 s3 s4 lw' hg' mt' tb9 an ky rw9 lf) ∧ Cell σ lw' hg' mt' 0 (fun q => q < t ∧ lef σ i q = 1))
      (fun y => ∃ lw' hg' mt', y = mk8 ad S0 al hz s1 s2 s3 s4 lw' hg' mt' tb9 an ky rw9 lf ∧ Cell σ lw' hg' mt' 0 (fun q => q < gT σ ∧ lef σ i q = 1))
      (gT σ) (by omega) ⟨lw, hg, mt0, rfl, Or.inl ⟨hmt0 0 (by omega), fun q hq => by have := hq.1; omega⟩⟩ (by
        rintro t y ht ⟨lw', hg', mt', rfl, hC⟩
        refine Or.inl ?_
        have hbl := b_isLeft (S0 := S0) (hz := hz) (s1 := s1) (s2 := s2) (s3 := s3) (s4 := s4) (lw := lw') (hg := hg') (mt := mt') (tb9 := tb9) (an := an) (ky := ky) (rw9 := rw9) (lf := lf) h hw hA hi ht
        by_cases hl : lef σ i t = 1
        · obtain ⟨lw2, hg2, mt2, hme, hc1, -⟩ := b_meets (S0 := S0) (hz := hz) (s1 := s1) (s2 := s2) (s3 := s3) (s4 := s4) (lw := lw') (hg := hg') (mt := mt') (tb9 := tb9) (an := an) (ky := ky) (rw9 := rw9) (lf := lf) h hw hA (show 0 < 61 by omega) (show t < 4096 by omega) hC
          refine ⟨(nI (t + 1), mk8 ad S0 al hz s1 s2 s3 s4 lw2 hg2 mt2 tb9 an ky rw9 lf), ?_, lw2, hg2, mt2, rfl, Cell_iff hc1 (fun q => ⟨?_, ?_⟩)⟩
          · show f_X8_broken_L15 _ _ _ (nI t) = _
            unfold f_X8_broken_L15
            rw [show (0 : Int32) = nI 0 from rfl] at *
            simp (disch := first | omega | assumption) only [g8_0, b_T h hA, Option.bind_some, q_le, ck8, hbl, hme]
            rw [if_neg (by omega), if_pos hl]
            rw [if_neg (by decide)]
            simp only [f_X8_broken_b40, nI_1]
          · rintro (⟨q1, q2⟩ | rfl)
            · exact ⟨by omega, q2⟩
            · exact ⟨by omega, hl⟩
          · rintro ⟨q1, q2⟩
            by_cases e2 : q = t
            · exact Or.inr e2
            · exact Or.inl ⟨by omega, q2⟩
        · refine ⟨(nI (t + 1), mk8 ad S0 al hz s1 s2 s3 s4 lw' hg' mt' tb9 an ky rw9 lf), ?_, lw', hg', mt', rfl, Cell_iff hC (fun q => ⟨fun ⟨q1, q2⟩ => ⟨by omega, q2⟩, fun ⟨q1, q2⟩ => ⟨by
            by_cases e2 : q = t
            · subst e2; exact absurd q2 hl
            · omega, q2⟩⟩)⟩
          show f_X8_broken_L15 _ _ _ (nI t) = _
          unfold f_X8_broken_L15
          simp (disch := first | omega | assumption) only [g8_0, b_T h hA, Option.bind_some, q_le, ck8, hbl, ite10]
          rw [if_neg (by omega), if_pos hl]
          simp only [f_X8_broken_b40, nI_1]) (by
        rintro y ⟨lw', hg', mt', rfl, hC⟩
        refine ⟨_, ?_, lw', hg', mt', rfl, hC⟩
        show f_X8_broken_L15 _ _ _ (nI (gT σ)) = _
        unfold f_X8_broken_L15
        simp (disch := first | omega | assumption) only [g8_0, b_T h hA, Option.bind_some, q_le]
        rw [if_pos (Nat.le_refl _)])
    obtain ⟨y, hy1, lw', hg', mt', rfl, hC⟩ := key
    have m1 : mt' 0 = 1 := by
      rcases Cell_m hC with ⟨-, q⟩ | ⟨q, -⟩
      · exact absurd ⟨hid_lt hw _ (Nat.le_refl _), hw.hdn hi⟩ (q (hid σ (gN σ)))
      · exact q
    obtain ⟨r, hr1, hr2⟩ := b_isClose (S0 := S0) (hz := hz) (s1 := s1) (s2 := s2) (s3 := s3) (s4 := s4) (lw := lw') (hg := hg') (mt := mt') (tb9 := tb9) (an := an) (ky := ky) (rw9 := rw9) (lf := lf) h hw hA (show 0 < 61 by omega) hC m1
    refine ⟨r, lw', hg', mt', ?_, Or.inl ⟨i, rfl, hi, hr2⟩⟩
    rw [if_neg (fun q => q h1)]
    have hz9 : ckZ r = some () := by
      unfold ckZ
      rw [if_pos (hr2.elim (fun q => Or.inl q.1) (fun q => Or.inr q.1))]
    have hr1' : f_X8_isClose (mk8 ad S0 al hz s1 s2 s3 s4 lw' hg' mt' tb9 an ky rw9 lf) (ad 0) 0 = some r := hr1
    simp only [ck8 h, Option.bind_some, hcl, hy1, hr1', hz9]
  · exact ⟨0, lw, hg, mt, by rw [if_pos h1], Or.inr ⟨h1, rfl⟩⟩
/-- what tables answers -/
def sTab (σ : SG) (a : Int32) : Int32 := if rng a 4 then nI (sm (lef σ a.toNatClampNeg) (gT σ)) else -1
theorem b_tables (h : inj8 ad) (hw : WF σ τ) (hA : RA σ τ al 0) (a : Int32) : f_X8_tables (mk8 ad S0 al hz s1 s2 s3 s4 lw hg mt tb9 an ky rw9 lf) (ad 0) a = some (sTab σ a) := by
  have hT := hw.tle
  unfold f_X8_tables sTab
  simp only [b_isAsker, Option.bind_some, ite10]
  by_cases h1 : rng a 4
  · obtain ⟨i, hi, rfl⟩ := (rng_iff (by omega)).mp h1
    rw [if_neg (fun q => q h1), if_pos h1, nI_clamp (by omega)]
    have key : lpo (fun y : Int32 × Int32 => f_X8_tables_L13 (mk8 ad S0 al hz s1 s2 s3 s4 lw hg mt tb9 an ky rw9 lf) (ad 0) (nI i) y.1 y.2) FU ((0 : Int32), (0 : Int32)) = some (nI (sm (lef σ i) (gT σ))) := by
      refine lpo_det (fun t => (nI (sm (lef σ i) t), nI t)) (gT σ) (by omega) rfl ?_ ?_
      · intro t ht
        have e := hA.l hi ht
        rw [Nat.zero_add] at e
        have ix : (1130 : Int32) + (4096 : Int32) * nI i + nI t = nI (1130 + 4096 * i + t) := by rw [show (4096 : Int32) = nI 4096 from rfl, pk_mul, show (1130 : Int32) = nI 1130 from rfl, nI_add, nI_add]
        unfold f_X8_tables_L13
        rw [ix]
        simp (disch := first | omega | assumption) only [g8_0, b_T h hA, Option.bind_some, q_le, r8_al, e, nI_add, nI_1]
        rw [if_neg (by omega)]
        rfl
      · unfold f_X8_tables_L13
        simp (disch := first | omega | assumption) only [g8_0, b_T h hA, Option.bind_some, q_le]
        rw [if_pos (Nat.le_refl _)]
    rw [key]
    rfl
  · rw [if_pos h1, if_neg h1]
def circ (σ : SG) (a : Nat) : Nat := if grp σ a = a then 1 else 0
def sCount (σ : SG) (w : Int32) : Int32 := if w = 0 then nI (gP σ) else if w = 1 then nI (gN σ) else if w = 2 then nI (gT σ) else if w = 3 then nI (gK σ) else if w = 4 then nI (gF σ) else if w = 5 then nI (gW σ) else if w = 6 then nI (sm (circ σ) 4) else -1
theorem b_count (h : inj8 ad) (hw : WF σ τ) (hA : RA σ τ al 0) (w : Int32) : f_X8_count (mk8 ad S0 al hz s1 s2 s3 s4 lw hg mt tb9 an ky rw9 lf) (ad 0) w = some (sCount σ w) := by
  unfold f_X8_count sCount
  have key : lpo (fun y : Int32 × Int32 => f_X8_count_L4 (mk8 ad S0 al hz s1 s2 s3 s4 lw hg mt tb9 an ky rw9 lf) (ad 0) y.1 y.2) FU ((0 : Int32), (0 : Int32)) = some (nI (sm (circ σ) 4)) := by
    refine lpo_det (fun t => (nI (sm (circ σ) t), nI t)) 4 (by omega) rfl ?_ ?_
    · intro t ht
      have e := hA.g ht
      rw [Nat.zero_add] at e
      have hg4 := (hw.gpr ht).1
      unfold f_X8_count_L4
      rw [if_neg (show ¬ (4 : Int32) ≤ nI t from nI_ge (a := t) (b := 4) ht (by omega)), show (6 : Int32) + nI t = nI (6 + t) from nI_add 6 t]
      simp (disch := first | omega | assumption) only [g8_0, Option.bind_some, r8_al, e, f_X8_count_b28, nI_1]
      by_cases hc : grp σ t = t
      · rw [if_pos (by rw [hc])]
        have : sm (circ σ) (t + 1) = sm (circ σ) t + 1 := by show sm (circ σ) t + circ σ t = _; unfold circ; rw [if_pos hc]
        rw [this, ← nI_1]
      · rw [if_neg (fun q => hc ((nI_eq (by omega) (by omega)).mp q))]
        have : sm (circ σ) (t + 1) = sm (circ σ) t + 0 := by show sm (circ σ) t + circ σ t = _; unfold circ; rw [if_neg hc]
        rw [this]
        exact congrArg (fun z => some (Sum.inl (z, nI (t + 1)))) (nI_add _ 0)
    · unfold f_X8_count_L4
      rw [if_pos (show (4 : Int32) ≤ nI 4 by decide)]
  rw [key]
  simp only [Option.bind_some, g8_0 h, b_P h hA, b_N h hA, b_T h hA, b_K h hA, b_F h hA, b_W h hA]
  repeat (split <;> try rfl)
end M8H
