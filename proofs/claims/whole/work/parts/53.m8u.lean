/-! ===== the reference: mayBe, together, most ===== -/
/-- the tables left that answer as t0 does -/
abbrev Cw (σ : SG) (τ : TG) (i s t0 : Nat) : Nat → Prop := fun t => t < gT σ ∧ lef σ i t = 1 ∧ sameW σ τ s t0 t
/-- all cells of a set of wishes are safe -/
def Gr (σ : SG) (τ : TG) (i s : Nat) : Prop := ∀ t0, t0 < gT σ → lef σ i t0 = 1 → Safe σ (Cw σ τ i s t0)
def okS (σ : SG) (τ : TG) (i s : Nat) : Prop := s = 0 ∨ Gr σ τ i s
theorem Safe_iff {σ : SG} {D E : Nat → Prop} (he : ∀ t, D t ↔ E t) : Safe σ D ↔ Safe σ E := by
  have : D = E := funext fun t => propext (he t)
  rw [this]
theorem Sd_mono {kk f : Nat → Nat} {m : Nat} (h : Sd kk f 1 m) {a : Nat} : ∀ b, a ≤ b → b < m → kk (f a) ≤ kk (f b) := by
  intro b hab
  induction hab with
  | refl => exact fun _ => Nat.le_refl _
  | step hb ih =>
    intro hm
    refine Nat.le_trans (ih (by omega)) ?_
    have := h _ (Nat.succ_le_succ (Nat.zero_le _)) hm
    exact this
section M8U
variable {ad : Nat → Nat} {S0 : PH} {al hz : Nat → Int32} {s1 s2 s3 s4 : Int32} {lw hg mt tb9 : Nat → Int32} {an ky : Nat → Int64} {rw9 : Nat → Int32} {lf : Int32} {σ : SG} {τ : TG}
theorem b_mb71 (h : inj8 ad) (hw : WF σ τ) (hA : RA σ τ al 0) {k j t : Nat} (hk : k < 4096) (hj : j < 4096) (ht : t < 4096) (h1 : rw9 k = nI j) (h2 : tb9 j = nI t) {D : Nat → Prop} (hc : Cell σ lw hg mt 0 D) : ∃ lw' hg' mt', f_X8_mayBe_b71 (mk8 ad S0 al hz s1 s2 s3 s4 lw hg mt tb9 an ky rw9 lf) (ad 0) (nI k) = some (.inl (nI (k + 1), mk8 ad S0 al hz s1 s2 s3 s4 lw' hg' mt' tb9 an ky rw9 lf)) ∧ Cell σ lw' hg' mt' 0 (fun q => D q ∨ q = t) := by
  obtain ⟨lw', hg', mt', e1, e2, -⟩ := b_meets (S0 := S0) (hz := hz) (s1 := s1) (s2 := s2) (s3 := s3) (s4 := s4) (lw := lw) (hg := hg) (mt := mt) (tb9 := tb9) (an := an) (ky := ky) (rw9 := rw9) (lf := lf) h hw hA (show 0 < 61 by omega) ht hc
  refine ⟨lw', hg', mt', ?_, e2⟩
  have e1' : f_X8_meets (mk8 ad S0 al hz s1 s2 s3 s4 lw hg mt tb9 an ky rw9 lf) (ad 0) 0 (nI t) = some (mk8 ad S0 al hz s1 s2 s3 s4 lw' hg' mt' tb9 an ky rw9 lf) := e1
  unfold f_X8_mayBe_b71
  simp (disch := first | omega | assumption) only [g8_9, g8_12, Option.bind_some, r8_rw, h1, r8_tb, h2, ck8, e1', nI_1]
theorem b_mb67 (h : inj8 ad) (hw : WF σ τ) (hA : RA σ τ al 0) {k j t : Nat} (hk : k < 4096) (hj : j < 4096) (ht : t < 4096) (h1 : rw9 k = nI j) (h2 : tb9 j = nI t) : ∃ lw' hg' mt', f_X8_mayBe_b67 (mk8 ad S0 al hz s1 s2 s3 s4 lw hg mt tb9 an ky rw9 lf) (ad 0) (nI k) = some (.inl (nI (k + 1), mk8 ad S0 al hz s1 s2 s3 s4 lw' hg' mt' tb9 an ky rw9 lf)) ∧ Cell σ lw' hg' mt' 0 (fun q => q = t) := by
  obtain ⟨mt0, hcl, hmt0⟩ := b_clears (S0 := S0) (al := al) (hz := hz) (s1 := s1) (s2 := s2) (s3 := s3) (s4 := s4) (lw := lw) (hg := hg) (mt := mt) (tb9 := tb9) (an := an) (ky := ky) (rw9 := rw9) (lf := lf) h
  obtain ⟨lw', hg', mt', e1, e2⟩ := b_mb71 (S0 := S0) (hz := hz) (s1 := s1) (s2 := s2) (s3 := s3) (s4 := s4) (lw := lw) (hg := hg) (mt := mt0) (tb9 := tb9) (an := an) (ky := ky) (rw9 := rw9) (lf := lf) h hw hA hk hj ht h1 h2 (D := fun _ => False) (Or.inl ⟨hmt0 0 (by omega), fun _ q => q⟩)
  refine ⟨lw', hg', mt', ?_, Cell_iff e2 (fun q => ⟨fun z => z.elim False.elim id, Or.inr⟩)⟩
  unfold f_X8_mayBe_b67
  simp only [ck8 h, Option.bind_some, hcl, e1]
theorem RK_pos (hw : WF σ τ) {i m : Nat} {tl : Nat → Nat} (hi9 : i < 4) (hR : RK σ τ i m tl tb9 an) : 0 < m := by
  obtain ⟨k, hk, -⟩ := hR.2.2 _ (hid_lt hw _ (Nat.le_refl _)) (hw.hdn hi9)
  omega
theorem b_mayBe (h : inj8 ad) (hw : WF σ τ) (hA : RA σ τ al 0) {i m s : Nat} {tl : Nat → Nat} (hi9 : i < 4) (hR : RK σ τ i m tl tb9 an) (hs : s < 2 ^ gW σ) : ∃ (r : Int32) (lw' hg' mt' : Nat → Int32) (ky' : Nat → Int64) (rw9' : Nat → Int32), f_X8_mayBe (mk8 ad S0 al hz s1 s2 s3 s4 lw hg mt tb9 an ky rw9 (nI m)) (ad 0) (nI s) = some (r, mk8 ad S0 al hz s1 s2 s3 s4 lw' hg' mt' tb9 an ky' rw9' (nI m)) ∧ ((r = 1 ∧ okS σ τ i s) ∨ (r = 0 ∧ ¬ okS σ τ i s)) := by
  have hW := hw.w8
  have hT := hw.tle
  have hm := hR.1
  have hmp := RK_pos hw hi9 hR
  have hs8 : s < 2 ^ 8 := Nat.lt_of_lt_of_le hs (Nat.pow_le_pow_right (by omega) hW)
  have hsW : ∀ w, s.testBit w = true → w < gW σ := fun w hq => by
    refine Nat.lt_of_not_le (fun hle => ?_)
    rw [Nat.testBit_lt_two_pow (Nat.lt_of_lt_of_le hs (Nat.pow_le_pow_right (by omega) hle))] at hq
    exact absurd hq (by decide)
  by_cases hs0 : s = 0
  · subst hs0
    refine ⟨1, lw, hg, mt, ky, rw9, ?_, Or.inl ⟨rfl, Or.inl rfl⟩⟩
    unfold f_X8_mayBe
    rw [if_pos (show nI 0 = 0 from rfl)]
  · have ns : ¬ nI s = 0 := nI_ne0 (by omega) (by omega)
    have hok : okS σ τ i s ↔ Gr σ τ i s := ⟨fun q => q.resolve_left hs0, Or.inr⟩
    obtain ⟨f, ky', rw9', e1, e2, e3, e4, e5⟩ := b_sorts (S0 := S0) (al := al) (hz := hz) (s1 := s1) (s2 := s2) (s3 := s3) (s4 := s4) (lw := lw) (hg := hg) (mt := mt) (tb9 := tb9) (ky := ky) (rw9 := rw9) (s := s) (kr := fun k => rk σ τ (tl k) (gW σ)) h hm (fun k hk => (hR.2.1 k hk).2.1) (fun k hk => Nat.lt_of_lt_of_le (rk_lt hw _ _) (Nat.pow_le_pow_right (by omega) (by omega)))
    obtain ⟨K, hK⟩ : ∃ K : Nat → Nat, K = fun j => rk σ τ (tl (f j)) (gW σ) &&& mkw s 8 := ⟨_, rfl⟩
    have hK63 : ∀ j, K j < 2 ^ 63 := fun j => by rw [hK]; exact Nat.lt_of_le_of_lt Nat.and_le_right (Nat.lt_of_lt_of_le (mkw_lt (s := s) 8) (by decide))
    have hmono : ∀ a b, a ≤ b → b < m → K a ≤ K b := fun a b q1 q2 => by rw [hK]; exact Sd_mono e5 b q1 q2
    have hKy : ∀ j, j < m → ky' (f j) = lN (K j) := fun j hj => by rw [hK]; exact e2 _ (e3.1 j hj)
    have hKe : ∀ a b, K a = K b ↔ sameW σ τ s (tl (f a)) (tl (f b)) := fun a b => by rw [hK]; exact key_iff hw hsW
    have hx : ∀ j, j < m → tl (f j) < gT σ ∧ lef σ i (tl (f j)) = 1 ∧ tb9 (f j) = nI (tl (f j)) := fun j hj => by
      have := hR.2.1 (f j) (e3.1 j hj)
      exact ⟨this.2.2.1, this.2.2.2, this.1⟩
    have hcov : ∀ t, t < gT σ → lef σ i t = 1 → ∃ j, j < m ∧ tl (f j) = t := fun t h1 h2 => by
      obtain ⟨k, hk, q1⟩ := hR.2.2 t h1 h2
      obtain ⟨j, hj, q2⟩ := e3.2 k hk
      exact ⟨j, hj, by rw [q2]; exact q1⟩
    -- the cell that ends at k is whole
    have hcell : ∀ k, 0 < k → k ≤ m → (k < m → K k ≠ K (k - 1)) → ∀ t, (∃ j, j < k ∧ K j = K (k - 1) ∧ t = tl (f j)) ↔ Cw σ τ i s (tl (f (k - 1))) t := by
      intro k hk1 hk2 hk3 t
      constructor
      · rintro ⟨j, q1, q2, rfl⟩
        have := hx j (by omega)
        exact ⟨this.1, this.2.1, (hKe (k - 1) j).mp q2.symm⟩
      · rintro ⟨q1, q2, q3⟩
        obtain ⟨j, hj, rfl⟩ := hcov t q1 q2
        have q4 := (hKe (k - 1) j).mpr q3
        refine ⟨j, ?_, q4.symm, rfl⟩
        refine Nat.lt_of_not_le (fun hle => ?_)
        have a1 := hmono (k - 1) k (by omega) (by omega)
        have a2 := hmono k j hle hj
        have a3 := hk3 (by omega)
        omega
    have key := lpo_run (b := fun y : Int32 × PH => f_X8_mayBe_L13 y.2 (ad 0) y.1) (x := ((0 : Int32), mk8 ad S0 al hz s1 s2 s3 s4 lw hg mt tb9 an ky' rw9' (nI m)))
      (fun k y => ∃ lw' hg' mt', y = (nI k, mk8 ad S0 al hz s1 s2 s3 s4 lw' hg' mt' tb9 an ky' rw9' (nI m)) ∧ (0 < k → Cell σ lw' hg' mt' 0 (fun t => ∃ j, j < k ∧ K j = K (k - 1) ∧ t = tl (f j)) ∧ ∀ j, j < k → K j ≠ K (k - 1) → Safe σ (Cw σ τ i s (tl (f j)))))
      (fun e => ∃ lw' hg' mt', (e = .inl (mk8 ad S0 al hz s1 s2 s3 s4 lw' hg' mt' tb9 an ky' rw9' (nI m)) ∧ Cell σ lw' hg' mt' 0 (Cw σ τ i s (tl (f (m - 1)))) ∧ ∀ j, j < m → K j ≠ K (m - 1) → Safe σ (Cw σ τ i s (tl (f j)))) ∨ (e = .inr (0, mk8 ad S0 al hz s1 s2 s3 s4 lw' hg' mt' tb9 an ky' rw9' (nI m)) ∧ ¬ Gr σ τ i s))
      m (by omega) ⟨lw, hg, mt, rfl, fun q => absurd q (by omega)⟩ (by
        rintro k y hk ⟨lw1, hg1, mt1, rfl, hI⟩
        have hxk := hx k hk
        have hfk := e3.1 k hk
        show (∃ x', f_X8_mayBe_L13 _ _ (nI k) = some (Sum.inl x') ∧ _) ∨ ∃ e, f_X8_mayBe_L13 _ _ (nI k) = some (Sum.inr e) ∧ _
        unfold f_X8_mayBe_L13
        simp (disch := first | omega | assumption) only [g8_13, g8_11, g8_12, Option.bind_some, q_le, r8_rw, e4 k hk]
        rw [if_neg (by omega)]
        obtain ⟨lw6, hg6, mt6, p1, p2⟩ := b_mb67 (S0 := S0) (hz := hz) (s1 := s1) (s2 := s2) (s3 := s3) (s4 := s4) (lw := lw1) (hg := hg1) (mt := mt1) (tb9 := tb9) (an := an) (ky := ky') (rw9 := rw9') (lf := nI m) h hw hA (show k < 4096 by omega) (show f k < 4096 by omega) (show tl (f k) < 4096 by omega) (e4 k hk) hxk.2.2
        by_cases hk0 : k = 0
        · subst hk0
          rw [if_pos (show nI 0 = 0 from rfl)]
          refine Or.inl ⟨_, by rw [f_X8_mayBe_b53, if_pos (show nI 0 ≤ 0 from Int32.le_refl _), p1], lw6, hg6, mt6, rfl, fun _ => ⟨Cell_iff p2 (fun q => ?_), fun j q1 q2 => ?_⟩⟩
          · constructor
            · rintro rfl; exact ⟨0, by omega, rfl, rfl⟩
            · rintro ⟨j, q1, -, q3⟩
              have : j = 0 := by omega
              rw [q3, this]
          · have : j = 0 := by omega
            rw [this] at q2
            exact absurd rfl q2
        · obtain ⟨hC, hSf⟩ := hI (by omega)
          have hfk1 := e3.1 (k - 1) (by omega)
          rw [if_neg (nI_ne0 (by omega) (by omega)), r8_ky h (by omega), hKy k hk, show (1 : Int32) = nI 1 from rfl, q_sub (by omega)]
          simp only [Option.bind_some]
          rw [r8_rw h (by omega), e4 (k - 1) (by omega)]
          simp only [Option.bind_some]
          rw [r8_ky h (by omega), hKy (k - 1) (by omega)]
          simp only [Option.bind_some]
          by_cases hkk : K k = K (k - 1)
          · rw [if_pos ((lg_cmp_eq _ _).mpr (by rw [hkk]))]
            obtain ⟨lw2, hg2, mt2, c1, c2⟩ := b_mb71 (S0 := S0) (hz := hz) (s1 := s1) (s2 := s2) (s3 := s3) (s4 := s4) (lw := lw1) (hg := hg1) (mt := mt1) (tb9 := tb9) (an := an) (ky := ky') (rw9 := rw9') (lf := nI m) h hw hA (show k < 4096 by omega) (show f k < 4096 by omega) (show tl (f k) < 4096 by omega) (e4 k hk) hxk.2.2 hC
            refine Or.inl ⟨_, c1, lw2, hg2, mt2, rfl, fun _ => ⟨Cell_iff c2 (fun q => ?_), fun j q1 q2 => ?_⟩⟩
            · rw [show k + 1 - 1 = k by omega, hkk]
              constructor
              · rintro (⟨j, q1, q2, q3⟩ | q)
                · exact ⟨j, by omega, q2, q3⟩
                · exact ⟨k, by omega, hkk, q⟩
              · rintro ⟨j, q1, q2, q3⟩
                by_cases e : j = k
                · rw [e] at q3; exact Or.inr q3
                · exact Or.inl ⟨j, by omega, q2, q3⟩
            · rw [show k + 1 - 1 = k by omega] at q2
              have : j ≠ k := fun e => q2 (by rw [e])
              exact hSf j (by omega) (by rw [← hkk]; exact q2)
          · rw [if_neg (fun q => hkk ((pk_lEQ (hK63 _) (hK63 _)).mp ((lg_cmp_eq _ _).mp q)))]
            have hcl := hcell k (by omega) (by omega) (fun _ => hkk)
            have hm1 : mt1 0 = 1 := by
              rcases Cell_m hC with ⟨-, q⟩ | ⟨q, -⟩
              · exact absurd ⟨k - 1, by omega, rfl, rfl⟩ (q (tl (f (k - 1))))
              · exact q
            obtain ⟨r, c1, c2⟩ := b_isClose (S0 := S0) (hz := hz) (s1 := s1) (s2 := s2) (s3 := s3) (s4 := s4) (lw := lw1) (hg := hg1) (mt := mt1) (tb9 := tb9) (an := an) (ky := ky') (rw9 := rw9') (lf := nI m) h hw hA (show 0 < 61 by omega) hC hm1
            have c1' : f_X8_isClose (mk8 ad S0 al hz s1 s2 s3 s4 lw1 hg1 mt1 tb9 an ky' rw9' (nI m)) (ad 0) 0 = some r := c1
            unfold f_X8_mayBe_b53
            rw [if_neg (nI_nle (by omega) (by omega))]
            simp only [ck8 h, Option.bind_some, c1']
            rcases c2 with ⟨r0, c2⟩ | ⟨r1, c2⟩
            · rw [if_pos r0]
              refine Or.inl ⟨_, p1, lw6, hg6, mt6, rfl, fun _ => ⟨Cell_iff p2 (fun q => ?_), fun j q1 q2 => ?_⟩⟩
              · rw [show k + 1 - 1 = k by omega]
                constructor
                · rintro rfl; exact ⟨k, by omega, rfl, rfl⟩
                · rintro ⟨j, q1, q2, q3⟩
                  by_cases e : j = k
                  · rw [q3, e]
                  · have a1 := hmono j (k - 1) (by omega) (by omega)
                    have a2 := hmono (k - 1) k (by omega) (by omega)
                    omega
              · rw [show k + 1 - 1 = k by omega] at q2
                have hjk : j ≠ k := fun e => q2 (by rw [e])
                by_cases e : K j = K (k - 1)
                · have hsw := (hKe j (k - 1)).mp e
                  refine (Safe_iff (fun t => ?_)).mp c2
                  rw [hcl t]
                  constructor
                  · rintro ⟨z1, z2, z3⟩
                    exact ⟨z1, z2, fun w w1 w2 => (hsw w w1 w2).trans (z3 w w1 w2)⟩
                  · rintro ⟨z1, z2, z3⟩
                    exact ⟨z1, z2, fun w w1 w2 => (hsw w w1 w2).symm.trans (z3 w w1 w2)⟩
                · exact hSf j (by omega) e
            · rw [if_neg (by rw [r1]; decide)]
              refine Or.inr ⟨_, rfl, lw1, hg1, mt1, Or.inr ⟨rfl, fun hG => c2 ((Safe_iff hcl).mpr ?_)⟩⟩
              have hx1 := hx (k - 1) (by omega)
              exact hG _ hx1.1 hx1.2.1) (by
        rintro y ⟨lw1, hg1, mt1, rfl, hI⟩
        obtain ⟨hC, hSf⟩ := hI hmp
        refine ⟨.inl (mk8 ad S0 al hz s1 s2 s3 s4 lw1 hg1 mt1 tb9 an ky' rw9' (nI m)), ?_, lw1, hg1, mt1, Or.inl ⟨rfl, Cell_iff hC (hcell m hmp (Nat.le_refl _) (fun q => absurd q (by omega))), hSf⟩⟩
        show f_X8_mayBe_L13 _ _ (nI m) = _
        unfold f_X8_mayBe_L13
        simp (disch := first | omega | assumption) only [g8_13, Option.bind_some, q_le]
        rw [if_pos (Nat.le_refl _)])
    obtain ⟨e9, f1, lw1, hg1, mt1, ⟨rfl, f2, f3⟩ | ⟨rfl, f2⟩⟩ := key
    · have hx1 := hx (m - 1) (by omega)
      have hm1 : mt1 0 = 1 := by
        rcases Cell_m f2 with ⟨-, q⟩ | ⟨q, -⟩
        · exact absurd ⟨hx1.1, hx1.2.1, fun _ _ _ => rfl⟩ (q (tl (f (m - 1))))
        · exact q
      obtain ⟨r, c1, c2⟩ := b_isClose (S0 := S0) (hz := hz) (s1 := s1) (s2 := s2) (s3 := s3) (s4 := s4) (lw := lw1) (hg := hg1) (mt := mt1) (tb9 := tb9) (an := an) (ky := ky') (rw9 := rw9') (lf := nI m) h hw hA (show 0 < 61 by omega) f2 hm1
      have c1' : f_X8_isClose (mk8 ad S0 al hz s1 s2 s3 s4 lw1 hg1 mt1 tb9 an ky' rw9' (nI m)) (ad 0) 0 = some r := c1
      rcases c2 with ⟨r0, c2⟩ | ⟨r1, c2⟩
      · refine ⟨1, lw1, hg1, mt1, ky', rw9', ?_, Or.inl ⟨rfl, hok.mpr (fun t0 q1 q2 => ?_)⟩⟩
        · unfold f_X8_mayBe
          rw [if_neg ns]
          simp only [ck8 h, Option.bind_some, e1, f1, bdS, Sum.elim_inl, c1']
          rw [if_pos r0]
        · obtain ⟨j, hj, rfl⟩ := hcov t0 q1 q2
          by_cases e : K j = K (m - 1)
          · have hsw := (hKe j (m - 1)).mp e
            refine (Safe_iff (fun t => ?_)).mp c2
            constructor
            · rintro ⟨z1, z2, z3⟩
              exact ⟨z1, z2, fun w w1 w2 => (hsw w w1 w2).trans (z3 w w1 w2)⟩
            · rintro ⟨z1, z2, z3⟩
              exact ⟨z1, z2, fun w w1 w2 => (hsw w w1 w2).symm.trans (z3 w w1 w2)⟩
          · exact f3 j hj e
      · refine ⟨0, lw1, hg1, mt1, ky', rw9', ?_, Or.inr ⟨rfl, fun q => c2 (hok.mp q _ hx1.1 hx1.2.1)⟩⟩
        unfold f_X8_mayBe
        rw [if_neg ns]
        simp only [ck8 h, Option.bind_some, e1, f1, bdS, Sum.elim_inl, c1']
        rw [if_neg (by rw [r1]; decide)]
    · refine ⟨0, lw1, hg1, mt1, ky', rw9', ?_, Or.inr ⟨rfl, fun q => f2 (hok.mp q)⟩⟩
      unfold f_X8_mayBe
      rw [if_neg ns]
      simp only [ck8 h, Option.bind_some, e1, f1, bdS, Sum.elim_inr]
/-- what together answers -/
def ToR (σ : SG) (τ : TG) (a s r : Int32) : Prop :=
  (∃ i z, a = nI i ∧ i < 4 ∧ s = nI z ∧ z < 2 ^ gW σ ∧ ((r = 1 ∧ okS σ τ i z) ∨ (r = 0 ∧ ¬ okS σ τ i z))) ∨ (¬ (rng a 4 ∧ rng s (2 ^ gW σ)) ∧ r = 0)
theorem shl_1 {p : Nat} (hp : p < 31) : (1 : Int32) <<< (nI p &&& 31) = nI (2 ^ p) := by
  have := or_1 (k := 0) hp
  rw [Nat.zero_or] at this
  rw [← this, show nI 0 = 0 from rfl]
  exact (Int32.zero_or).symm
theorem b_together (h : inj8 ad) (hw : WF σ τ) (hA : RA σ τ al 0) (a s : Int32) : ∃ (r : Int32) (s1' s2' s3' s4' : Int32) (lw' hg' mt' tb9' : Nat → Int32) (an' ky' : Nat → Int64) (rw9' : Nat → Int32) (lf' : Int32), f_X8_together (mk8 ad S0 al hz s1 s2 s3 s4 lw hg mt tb9 an ky rw9 lf) (ad 0) a s = some (r, mk8 ad S0 al hz s1' s2' s3' s4' lw' hg' mt' tb9' an' ky' rw9' lf') ∧ ToR σ τ a s r := by
  have hW := hw.w8
  have h256 : 2 ^ gW σ ≤ 2 ^ 8 := Nat.pow_le_pow_right (by omega) hW
  unfold f_X8_together
  simp only [b_isAsker, Option.bind_some, ite10, g8_0 h, b_W h hA, shl_1 (show gW σ < 31 by omega)]
  by_cases c1 : rng a 4
  · rw [if_neg (fun q => q c1)]
    by_cases c2 : rng s (2 ^ gW σ)
    · rw [if_neg (Int32.not_lt.mpr c2.1), if_pos c2.2]
      obtain ⟨i, hi9, rfl⟩ := (rng_iff (by omega)).mp c1
      obtain ⟨z, hz9, rfl⟩ := (rng_iff (by omega)).mp c2
      obtain ⟨m, tl, t1, t2, t3, t4, tb', an', e1, e2⟩ := b_reckons (S0 := S0) (hz := hz) (s1 := s1) (s2 := s2) (s3 := s3) (s4 := s4) (lw := lw) (hg := hg) (mt := mt) (tb9 := tb9) (an := an) (ky := ky) (rw9 := rw9) (lf := lf) h hw hA hi9
      obtain ⟨r, lw', hg', mt', ky', rw9', e3, e4⟩ := b_mayBe (S0 := S0) (hz := hz) (s1 := t1) (s2 := t2) (s3 := t3) (s4 := t4) (lw := lw) (hg := hg) (mt := mt) (tb9 := tb') (an := an') (ky := ky) (rw9 := rw9) h hw hA hi9 e2 hz9
      have hz1 : ckZ r = some () := by
        unfold ckZ
        rw [if_pos (e4.elim (fun q => Or.inr q.1) (fun q => Or.inl q.1))]
      refine ⟨r, t1, t2, t3, t4, lw', hg', mt', tb', an', ky', rw9', nI m, ?_, Or.inl ⟨i, z, rfl, hi9, rfl, hz9, e4⟩⟩
      simp only [ck8 h, Option.bind_some, e1, e3, bd2, hz1]
    · refine ⟨0, s1, s2, s3, s4, lw, hg, mt, tb9, an, ky, rw9, lf, ?_, Or.inr ⟨fun q => c2 q.2, rfl⟩⟩
      rcases rng_out c2 with q | q
      · rw [if_pos q]
      · by_cases q2 : s < 0
        · rw [if_pos q2]
        · rw [if_neg q2, if_neg (Int32.not_lt.mpr q)]
  · exact ⟨0, s1, s2, s3, s4, lw, hg, mt, tb9, an, ky, rw9, lf, by rw [if_pos c1], Or.inr ⟨fun q => c1 q.1, rfl⟩⟩
/-- how many wishes a set has -/
def tbN (s k : Nat) : Nat := if s.testBit k = true then 1 else 0
def pc (s : Nat) : Nat := sm (tbN s) 8
theorem b_bitsOf (s : Nat) : f_X8_bitsOf (nI s) = some (nI (pc s)) := by
  have key : lpo (fun y : Int32 × Int32 => f_X8_bitsOf_L4 (nI s) y.1 y.2) FU ((0 : Int32), (0 : Int32)) = some (nI (pc s)) := by
    refine lpo_det (fun k => (nI (sm (tbN s) k), nI k)) 8 (by omega) rfl ?_ ?_
    · intro k hk
      have hb : bt (nI s) k = s.testBit k := bt_n (by omega)
      show f_X8_bitsOf_L4 (nI s) (nI (sm (tbN s) k)) (nI k) = some (Sum.inl (nI (sm (tbN s) k + tbN s k), nI (k + 1)))
      unfold f_X8_bitsOf_L4
      rw [if_neg (show ¬ (8 : Int32) ≤ nI k from nI_ge (a := k) (b := 8) hk (by omega)), nI_1]
      by_cases q : s.testBit k = true
      · rw [show nI s >>> (nI k &&& 31) &&& 1 = 1 by rw [sh1 _ (by omega), hb]; exact q, show tbN s k = 1 from if_pos q, nI_1]
      · rw [show nI s >>> (nI k &&& 31) &&& 1 = 0 by rw [sh0 _ (by omega), hb]; exact ts_nt q, show tbN s k = 0 from if_neg q, Int32.add_zero]
        rfl
    · show f_X8_bitsOf_L4 (nI s) (nI (sm (tbN s) 8)) (nI 8) = _
      unfold f_X8_bitsOf_L4
      rw [if_pos (show (8 : Int32) ≤ nI 8 from Int32.le_refl _)]
      rfl
  unfold f_X8_bitsOf
  rw [key]
  rfl
theorem sm_tb (s : Nat) : ∀ n, sm (tbN s) n ≤ n
  | 0 => Nat.le_refl _
  | n + 1 => by
    have := sm_tb s n
    show sm (tbN s) n + tbN s n ≤ n + 1
    have e : tbN s n ≤ 1 := by unfold tbN; split <;> omega
    omega
/-- the best of the granted sets below n: with most wishes, then the least -/
def Bst (σ : SG) (τ : TG) (i n b : Nat) : Prop := b < n ∧ okS σ τ i b ∧ ∀ c, c < n → okS σ τ i c → pc c < pc b ∨ (pc c = pc b ∧ b ≤ c)
theorem Bst_one {i n a b : Nat} (h1 : Bst σ τ i n a) (h2 : Bst σ τ i n b) : a = b := by
  have q1 := h1.2.2 b h2.1 h2.2.1
  have q2 := h2.2.2 a h1.1 h1.2.1
  omega
/-- what most answers -/
def MoR (σ : SG) (τ : TG) (a r : Int32) : Prop := (∃ i b, a = nI i ∧ i < 4 ∧ r = nI b ∧ Bst σ τ i (2 ^ gW σ) b) ∨ (¬ rng a 4 ∧ r = -1)
theorem b_most (h : inj8 ad) (hw : WF σ τ) (hA : RA σ τ al 0) (a : Int32) : ∃ (r : Int32) (s1' s2' s3' s4' : Int32) (lw' hg' mt' tb9' : Nat → Int32) (an' ky' : Nat → Int64) (rw9' : Nat → Int32) (lf' : Int32), f_X8_most (mk8 ad S0 al hz s1 s2 s3 s4 lw hg mt tb9 an ky rw9 lf) (ad 0) a = some (r, mk8 ad S0 al hz s1' s2' s3' s4' lw' hg' mt' tb9' an' ky' rw9' lf') ∧ MoR σ τ a r := by
  have hW := hw.w8
  have h256 : 2 ^ gW σ ≤ 2 ^ 8 := Nat.pow_le_pow_right (by omega) hW
  have hpos : 1 ≤ 2 ^ gW σ := Nat.one_le_two_pow
  unfold f_X8_most
  simp only [b_isAsker, Option.bind_some, ite10, ck8 h]
  by_cases c1 : rng a 4
  · rw [if_neg (fun q => q c1)]
    obtain ⟨i, hi9, rfl⟩ := (rng_iff (by omega)).mp c1
    obtain ⟨m, tl, t1, t2, t3, t4, tb', an', e1, e2⟩ := b_reckons (S0 := S0) (hz := hz) (s1 := s1) (s2 := s2) (s3 := s3) (s4 := s4) (lw := lw) (hg := hg) (mt := mt) (tb9 := tb9) (an := an) (ky := ky) (rw9 := rw9) (lf := lf) h hw hA hi9
    have key := lpo_run (b := fun y : Int32 × Int32 × PH => f_X8_most_L18 y.2.2 (ad 0) y.1 y.2.1) (x := ((0 : Int32), (1 : Int32), mk8 ad S0 al hz t1 t2 t3 t4 lw hg mt tb' an' ky rw9 (nI m)))
      (fun j y => ∃ b lw' hg' mt' ky' rw9', y = (nI b, nI (1 + j), mk8 ad S0 al hz t1 t2 t3 t4 lw' hg' mt' tb' an' ky' rw9' (nI m)) ∧ Bst σ τ i (1 + j) b)
      (fun y => ∃ b lw' hg' mt' ky' rw9', y = (nI b, mk8 ad S0 al hz t1 t2 t3 t4 lw' hg' mt' tb' an' ky' rw9' (nI m)) ∧ Bst σ τ i (2 ^ gW σ) b)
      (2 ^ gW σ - 1) (by omega) ⟨0, lw, hg, mt, ky, rw9, rfl, by omega, Or.inl rfl, fun c hc _ => by
        have : c = 0 := by omega
        rw [this]; exact Or.inr ⟨rfl, Nat.le_refl _⟩⟩ (by
        rintro j y hj ⟨b, lw1, hg1, mt1, ky1, rw1, rfl, hB⟩
        refine Or.inl ?_
        have p1 := sm_tb (1 + j) 8
        have p2 := sm_tb b 8
        show ∃ x', f_X8_most_L18 _ _ (nI b) (nI (1 + j)) = some (Sum.inl x') ∧ _
        unfold f_X8_most_L18
        simp only [g8_0 h, b_W h hA, Option.bind_some, shl_1 (show gW σ < 31 by omega), b_bitsOf]
        rw [if_neg (nI_ge (by omega) (by omega))]
        by_cases hp : pc (1 + j) ≤ pc b
        · rw [if_pos (nI_le hp (by unfold pc; omega))]
          refine ⟨_, by simp only [f_X8_most_b51, nI_1]; rfl, b, lw1, hg1, mt1, ky1, rw1, rfl, by have := hB.1; omega, hB.2.1, fun c hc hq => ?_⟩
          by_cases e : c = 1 + j
          · have := hB.1
            rw [e]; omega
          · exact hB.2.2 c (by omega) hq
        · rw [if_neg (nI_ge (by omega) (by unfold pc; omega))]
          obtain ⟨r, lw', hg', mt', ky', rw9', f1, f2⟩ := b_mayBe (S0 := S0) (hz := hz) (s1 := t1) (s2 := t2) (s3 := t3) (s4 := t4) (lw := lw1) (hg := hg1) (mt := mt1) (tb9 := tb') (an := an') (ky := ky1) (rw9 := rw1) h hw hA hi9 e2 (show 1 + j < 2 ^ gW σ by omega)
          simp only [ck8 h, Option.bind_some, f1, bd2]
          rcases f2 with ⟨r1, f2⟩ | ⟨r0, f2⟩
          · rw [if_neg (by rw [r1]; decide)]
            refine ⟨_, by simp only [f_X8_most_b51, nI_1]; rfl, 1 + j, lw', hg', mt', ky', rw9', rfl, by omega, f2, fun c hc hq => ?_⟩
            by_cases e : c = 1 + j
            · rw [e]; exact Or.inr ⟨rfl, Nat.le_refl _⟩
            · have := hB.2.2 c (by omega) hq
              omega
          · rw [if_pos r0]
            refine ⟨_, by simp only [f_X8_most_b51, nI_1]; rfl, b, lw', hg', mt', ky', rw9', rfl, by have := hB.1; omega, hB.2.1, fun c hc hq => ?_⟩
            by_cases e : c = 1 + j
            · rw [e] at hq; exact absurd hq f2
            · exact hB.2.2 c (by omega) hq) (by
        rintro y ⟨b, lw1, hg1, mt1, ky1, rw1, rfl, hB⟩
        rw [show 1 + (2 ^ gW σ - 1) = 2 ^ gW σ by omega] at hB ⊢
        refine ⟨_, ?_, b, lw1, hg1, mt1, ky1, rw1, rfl, hB⟩
        show f_X8_most_L18 _ _ (nI b) (nI (2 ^ gW σ)) = _
        unfold f_X8_most_L18
        simp only [g8_0 h, b_W h hA, Option.bind_some, shl_1 (show gW σ < 31 by omega)]
        rw [if_pos (Int32.le_refl _)])
    obtain ⟨y9, f1, b, lw1, hg1, mt1, ky1, rw1, rfl, hB⟩ := key
    refine ⟨nI b, t1, t2, t3, t4, lw1, hg1, mt1, tb', an', ky1, rw1, nI m, ?_, Or.inl ⟨i, b, rfl, hi9, rfl, hB⟩⟩
    simp only [Option.bind_some, e1, f1, bd2]
  · exact ⟨-1, s1, s2, s3, s4, lw, hg, mt, tb9, an, ky, rw9, lf, by rw [if_pos c1], Or.inr ⟨c1, rfl⟩⟩
end M8U
