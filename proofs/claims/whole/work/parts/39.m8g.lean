/-! ===== the reference: judged, would ===== -/
/-- tables below i of cell v -/
abbrev Di (σ : SG) (a : Nat) (an : Nat → Nat) (i v : Nat) : Nat → Prop := fun t => t < i ∧ lef σ a t = 1 ∧ an t = v
abbrev ind (mt : Nat → Int32) (v : Nat) : Nat := if mt v = 0 then 0 else 1
theorem Cell_iff {σ : SG} {lw hg mt : Nat → Int32} {v : Nat} {D E : Nat → Prop} (h : Cell σ lw hg mt v D) (he : ∀ t, D t ↔ E t) : Cell σ lw hg mt v E := by
  have : D = E := funext fun t => propext (he t)
  rw [← this]
  exact h
theorem Cell_m {σ : SG} {lw hg mt : Nat → Int32} {v : Nat} {D : Nat → Prop} (h : Cell σ lw hg mt v D) : (mt v = 0 ∧ ∀ t, ¬ D t) ∨ (mt v = 1 ∧ ∃ t, D t) := by
  rcases h with h | ⟨h1, h2, -⟩
  · exact Or.inl h
  · exact Or.inr ⟨h1, h2⟩
section M8G
variable {ad : Nat → Nat} {S0 : PH} {al hz : Nat → Int32} {s1 s2 s3 s4 : Int32} {lw hg mt tb9 : Nat → Int32} {an ky : Nat → Int64} {rw9 : Nat → Int32} {lf : Int32} {σ : SG} {τ : TG}
theorem b_judged (h : inj8 ad) (hw : WF σ τ) (hA : RA σ τ al 0) {a k set : Nat} {x : Int32} (ha : a < 4) (hk : okq k x) : ∃ (r : Nat) (s1' s2' s3' s4' : Int32) (lw' hg' mt' : Nat → Int32), f_X8_judged (mk8 ad S0 al hz s1 s2 s3 s4 lw hg mt tb9 an ky rw9 lf) (ad 0) (nI a) (nI k) (nI (nbits σ set (gP σ))) x = some (nI r, mk8 ad S0 al hz s1' s2' s3' s4' lw' hg' mt' tb9 an ky rw9 lf) ∧ r ≤ 2 ∧ JR σ a (fun t => ansv σ k x.toNatClampNeg set (valt σ t)) r := by
  have hN := hw.n10
  have hT := hw.tle
  obtain ⟨av, hav⟩ : ∃ av : Nat → Nat, av = fun t => ansv σ k x.toNatClampNeg set (valt σ t) := ⟨_, rfl⟩
  have hav60 : ∀ t, av t < 61 := fun t => by
    rw [hav]
    exact Nat.lt_succ_of_le (ansv_le hw (fun n hn => (valt_le hw hn t).1))
  rw [← hav]
  obtain ⟨mt0, hcl, hmt0⟩ := b_clears (S0 := S0) (al := al) (hz := hz) (s1 := s1) (s2 := s2) (s3 := s3) (s4 := s4) (lw := lw) (hg := hg) (mt := mt) (tb9 := tb9) (an := an) (ky := ky) (rw9 := rw9) (lf := lf) h
  have key := lpo_run (b := fun y : Int32 × Int32 × PH => f_X8_judged_L10 y.2.2 (ad 0) (nI a) (nI k) (nI (nbits σ set (gP σ))) x y.1 y.2.1) (x := ((0 : Int32), (0 : Int32), mk8 ad S0 al hz s1 s2 s3 s4 lw hg mt0 tb9 an ky rw9 lf))
    (fun i y => ∃ s1' s2' s3' s4' lw' hg' mt', y = (nI (sm (ind mt') 61), nI i, mk8 ad S0 al hz s1' s2' s3' s4' lw' hg' mt' tb9 an ky rw9 lf) ∧ ∀ v, v < 61 → Cell σ lw' hg' mt' v (Di σ a av i v))
    (fun y => ∃ s1' s2' s3' s4' lw' hg' mt', y = (nI (sm (ind mt') 61), mk8 ad S0 al hz s1' s2' s3' s4' lw' hg' mt' tb9 an ky rw9 lf) ∧ ∀ v, v < 61 → Cell σ lw' hg' mt' v (Di σ a av (gT σ) v))
    (gT σ) (by omega) (by
      refine ⟨s1, s2, s3, s4, lw, hg, mt0, ?_, fun v hv => Or.inl ⟨hmt0 v hv, fun t ht => by have := ht.1; omega⟩⟩
      have : sm (ind mt0) 61 = 0 := by
        have h0 : ∀ m, m ≤ 61 → sm (ind mt0) m = 0 := by
          intro m
          induction m with
          | zero => intro _; rfl
          | succ m ih =>
            intro hm
            show sm (ind mt0) m + ind mt0 m = 0
            rw [ih (by omega)]
            unfold ind
            rw [if_pos (hmt0 m (by omega))]
        exact h0 61 (Nat.le_refl _)
      rw [this]
      rfl) (by
      rintro i y hi ⟨t1, t2, t3, t4, lw', hg', mt', rfl, hC⟩
      refine Or.inl ?_
      have hbl := b_isLeft (S0 := S0) (hz := hz) (s1 := t1) (s2 := t2) (s3 := t3) (s4 := t4) (lw := lw') (hg := hg') (mt := mt') (tb9 := tb9) (an := an) (ky := ky) (rw9 := rw9) (lf := lf) h hw hA ha hi
      by_cases hl : lef σ a i = 1
      · obtain ⟨u1, u2, u3, u4, hans⟩ := b_answerIn (S0 := S0) (hz := hz) (s1 := t1) (s2 := t2) (s3 := t3) (s4 := t4) (lw := lw') (hg := hg') (mt := mt') (tb9 := tb9) (an := an) (ky := ky) (rw9 := rw9) (lf := lf) (set := set) h hw hA (show i < 4096 by omega) hk
        have e0 : ansv σ k x.toNatClampNeg set (valt σ i) = av i := by rw [hav]
        rw [e0] at hans
        have hv := hav60 i
        obtain ⟨lw2, hg2, mt2, hme, hc1, hm1, hm2, hc2⟩ := b_meets (S0 := S0) (hz := hz) (s1 := u1) (s2 := u2) (s3 := u3) (s4 := u4) (lw := lw') (hg := hg') (mt := mt') (tb9 := tb9) (an := an) (ky := ky) (rw9 := rw9) (lf := lf) h hw hA hv (show i < 4096 by omega) (hC (av i) hv)
        have hcells : ∀ v, v < 61 → Cell σ lw2 hg2 mt2 v (Di σ a av (i + 1) v) := by
          intro v hv61
          by_cases e : v = av i
          · subst e
            refine Cell_iff hc1 (fun q => ⟨?_, ?_⟩)
            · rintro (⟨q1, q2, q3⟩ | rfl)
              · exact ⟨by omega, q2, q3⟩
              · exact ⟨by omega, hl, rfl⟩
            · rintro ⟨q1, q2, q3⟩
              by_cases e2 : q = i
              · exact Or.inr e2
              · exact Or.inl ⟨by omega, q2, q3⟩
          · refine Cell_iff (hc2 v e _ (hC v hv61)) (fun q => ⟨?_, ?_⟩)
            · rintro ⟨q1, q2, q3⟩
              exact ⟨by omega, q2, q3⟩
            · rintro ⟨q1, q2, q3⟩
              by_cases e2 : q = i
              · subst e2; exact absurd q3.symm e
              · exact ⟨by omega, q2, q3⟩
        refine ⟨(nI (sm (ind mt2) 61), nI (i + 1), mk8 ad S0 al hz u1 u2 u3 u4 lw2 hg2 mt2 tb9 an ky rw9 lf), ?_, u1, u2, u3, u4, lw2, hg2, mt2, rfl, hcells⟩
        show f_X8_judged_L10 _ _ _ _ _ _ (nI (sm (ind mt') 61)) (nI i) = _
        unfold f_X8_judged_L10
        simp (disch := first | omega | assumption) only [g8_0, b_T h hA, Option.bind_some, q_le, ck8, hbl, ite10, hans, bd2, g8_8, r8_mt]
        rw [if_neg (by omega), if_neg (fun q => q hl)]
        by_cases hm : mt' (av i) = 0
        · rw [if_pos hm]
          simp only [f_X8_judged_b63, f_X8_judged_b74, ck8 h, Option.bind_some, hme, nI_1]
          have es : sm (ind mt2) 61 = sm (ind mt') 61 + 1 := sm_one 61 hv (by unfold ind; rw [if_neg (by rw [hm1]; decide), if_pos hm]) (fun q hq => by unfold ind; rw [hm2 q hq])
          rw [es]
        · rw [if_neg hm]
          simp only [f_X8_judged_b63, f_X8_judged_b74, ck8 h, Option.bind_some, hme, nI_1]
          have es : sm (ind mt2) 61 = sm (ind mt') 61 := sm_congr 61 (fun q _ => by
            unfold ind
            by_cases e : q = av i
            · subst e; rw [if_neg (by rw [hm1]; decide), if_neg hm]
            · rw [hm2 q e])
          rw [es]
          exact congrArg (fun z => some (Sum.inl (z, nI (i + 1), mk8 ad S0 al hz u1 u2 u3 u4 lw2 hg2 mt2 tb9 an ky rw9 lf))) (nI_add _ 0)
      · refine ⟨(nI (sm (ind mt') 61), nI (i + 1), mk8 ad S0 al hz t1 t2 t3 t4 lw' hg' mt' tb9 an ky rw9 lf), ?_, t1, t2, t3, t4, lw', hg', mt', rfl, fun v hv => Cell_iff (hC v hv) (fun q => ⟨fun ⟨q1, q2, q3⟩ => ⟨by omega, q2, q3⟩, fun ⟨q1, q2, q3⟩ => ⟨by
          by_cases e2 : q = i
          · subst e2; exact absurd q2 hl
          · omega, q2, q3⟩⟩)⟩
        show f_X8_judged_L10 _ _ _ _ _ _ (nI (sm (ind mt') 61)) (nI i) = _
        unfold f_X8_judged_L10
        simp (disch := first | omega | assumption) only [g8_0, b_T h hA, Option.bind_some, q_le, ck8, hbl, ite10]
        rw [if_neg (by omega), if_pos hl]
        simp only [f_X8_judged_b74, nI_1]) (by
      rintro y ⟨t1, t2, t3, t4, lw', hg', mt', rfl, hC⟩
      refine ⟨_, ?_, t1, t2, t3, t4, lw', hg', mt', rfl, hC⟩
      show f_X8_judged_L10 _ _ _ _ _ _ (nI (sm (ind mt') 61)) (nI (gT σ)) = _
      unfold f_X8_judged_L10
      simp (disch := first | omega | assumption) only [g8_0, b_T h hA, Option.bind_some, q_le]
      rw [if_pos (Nat.le_refl _)])
  obtain ⟨y, hy1, u1, u2, u3, u4, lw', hg', mt', rfl, hC⟩ := key
  have hhid : hid σ (gN σ) < gT σ := hid_lt hw _ (Nat.le_refl _)
  have hh1 := hw.hdn ha
  have hsum61 : sm (ind mt') 61 ≤ 61 := by
    have h0 : ∀ m, sm (ind mt') m ≤ m := by
      intro m
      induction m with
      | zero => exact Nat.le_refl 0
      | succ m ih =>
        show sm (ind mt') m + ind mt' m ≤ m + 1
        have : ind mt' m ≤ 1 := by unfold ind; split <;> omega
        omega
    exact h0 61
  -- the cell of the hidden table
  have hmv : ind mt' (av (hid σ (gN σ))) = 1 := by
    unfold ind
    rcases Cell_m (hC _ (hav60 _)) with ⟨-, q⟩ | ⟨q, -⟩
    · exact absurd ⟨hhid, hh1, rfl⟩ (q (hid σ (gN σ)))
    · rw [if_neg (by rw [q]; decide)]
  have hsame : sm (ind mt') 61 = 1 ↔ Same σ a av := by
    constructor
    · intro hs t ht hl
      by_cases e : av t = av (hid σ (gN σ))
      · exact e
      · have h2 := sm_two (f := ind mt') 61 (hav60 t) (hav60 (hid σ (gN σ))) e
        have h3 : ind mt' (av t) = 1 := by
          unfold ind
          rcases Cell_m (hC _ (hav60 t)) with ⟨-, q⟩ | ⟨q, -⟩
          · exact absurd ⟨ht, hl, rfl⟩ (q t)
          · rw [if_neg (by rw [q]; decide)]
        omega
    · intro hs
      rw [sm_only 61 (hav60 (hid σ (gN σ))) (fun v hv hne => ?_), hmv]
      unfold ind
      rcases Cell_m (hC v hv) with ⟨q, -⟩ | ⟨-, t, q1, q2, q3⟩
      · rw [if_pos q]
      · exact absurd (by rw [← q3]; exact hs t q1 q2) hne
  by_cases hc1 : sm (ind mt') 61 = 1
  · refine ⟨2, u1, u2, u3, u4, lw', hg', mt', ?_, Nat.le_refl _, Or.inl ⟨rfl, hsame.mp hc1⟩⟩
    unfold f_X8_judged
    simp only [ck8 h, Option.bind_some, hcl, bd2, hy1, hc1]
    rfl
  · have hns : ¬ Same σ a av := fun q => hc1 (hsame.mpr q)
    have key2 := lpo_run (b := fun y : Int32 => f_X8_judged_L91 (mk8 ad S0 al hz u1 u2 u3 u4 lw' hg' mt' tb9 an ky rw9 lf) (ad 0) y) (x := (0 : Int32))
      (fun i y => y = nI i ∧ ∀ v, v < i → (∃ t, Dc σ a av v t) → Safe σ (Dc σ a av v))
      (fun e => (e = .inl () ∧ Sure σ a av) ∨ (e = .inr ((0 : Int32), mk8 ad S0 al hz u1 u2 u3 u4 lw' hg' mt' tb9 an ky rw9 lf) ∧ ¬ Sure σ a av))
      61 (by omega) ⟨rfl, fun v hv => absurd hv (by omega)⟩ (by
        rintro i y hi ⟨rfl, hI⟩
        have hCi := hC i hi
        rcases Cell_m hCi with ⟨m0, q⟩ | ⟨m1, t, q⟩
        · refine Or.inl ⟨nI (i + 1), ?_, rfl, fun v hv he => ?_⟩
          · unfold f_X8_judged_L91
            rw [if_neg (show ¬ (61 : Int32) ≤ nI i from nI_ge (a := i) (b := 61) hi (by omega))]
            simp (disch := first | omega | assumption) only [g8_8, Option.bind_some, r8_mt, m0, if_true, f_X8_judged_b119, nI_1]
          · by_cases e : v = i
            · subst e
              obtain ⟨t, ht⟩ := he
              exact absurd ht (q t)
            · exact hI v (by omega) he
        · obtain ⟨r, hr1, hr2⟩ := b_isClose (S0 := S0) (hz := hz) (s1 := u1) (s2 := u2) (s3 := u3) (s4 := u4) (lw := lw') (hg := hg') (mt := mt') (tb9 := tb9) (an := an) (ky := ky) (rw9 := rw9) (lf := lf) h hw hA hi hCi m1
          have m0 : ¬ mt' i = 0 := by rw [m1]; decide
          rcases hr2 with ⟨rfl, hs⟩ | ⟨rfl, hs⟩
          · refine Or.inl ⟨nI (i + 1), ?_, rfl, fun v hv he => ?_⟩
            · unfold f_X8_judged_L91
              rw [if_neg (show ¬ (61 : Int32) ≤ nI i from nI_ge (a := i) (b := 61) hi (by omega))]
              simp (disch := first | omega | assumption) only [g8_8, Option.bind_some, r8_mt, m0, if_false, ck8, hr1, if_true, f_X8_judged_b119, nI_1]
            · by_cases e : v = i
              · subst e; exact hs
              · exact hI v (by omega) he
          · refine Or.inr ⟨_, ?_, Or.inr ⟨rfl, fun q2 => hs (q2 i ⟨t, q⟩)⟩⟩
            unfold f_X8_judged_L91
            rw [if_neg (show ¬ (61 : Int32) ≤ nI i from nI_ge (a := i) (b := 61) hi (by omega))]
            simp (disch := first | omega | assumption) only [g8_8, Option.bind_some, r8_mt, m0, if_false, ck8, hr1]
            rw [if_neg (by decide)]) (by
        rintro y ⟨rfl, hI⟩
        refine ⟨_, ?_, Or.inl ⟨rfl, fun v he => ?_⟩⟩
        · unfold f_X8_judged_L91
          rw [if_pos (show (61 : Int32) ≤ nI 61 by decide)]
        · obtain ⟨t, ht⟩ := he
          have : v < 61 := by rw [← ht.2.2]; exact hav60 t
          exact hI v this ⟨t, ht⟩)
    obtain ⟨e, he1, he2⟩ := key2
    have hcond : ¬ nI (sm (ind mt') 61) = 1 := fun q => hc1 ((nI_eq (a := sm (ind mt') 61) (b := 1) (by omega) (by omega)).mp q)
    rcases he2 with ⟨rfl, hs⟩ | ⟨rfl, hs⟩
    · refine ⟨1, u1, u2, u3, u4, lw', hg', mt', ?_, by omega, Or.inr (Or.inl ⟨rfl, hns, hs⟩)⟩
      unfold f_X8_judged
      simp only [ck8 h, Option.bind_some, hcl, bd2, hy1]
      rw [if_neg hcond]
      unfold bdS
      rw [he1]
      rfl
    · refine ⟨0, u1, u2, u3, u4, lw', hg', mt', ?_, by omega, Or.inr (Or.inr ⟨rfl, hns, hs⟩)⟩
      unfold f_X8_judged
      simp only [ck8 h, Option.bind_some, hcl, bd2, hy1]
      rw [if_neg hcond]
      unfold bdS
      rw [he1]
      rfl
end M8G
