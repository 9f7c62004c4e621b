/-! ===== the reference: image, again ===== -/
theorem RA_shift {σ : SG} {τ : TG} {A B : Nat → Int32} {o o' : Nat} (hw : WF σ τ) (h : RA σ τ A o) (he : ∀ i, i < 17514 → B (o' + i) = A (o + i)) : RA σ τ B o' := by
  have hP := hw.p8
  have hN := hw.n10
  have hT := hw.tle
  have hW := hw.w8
  have hK := hw.k200
  refine ⟨?_, ?_, ?_, ?_, ?_, ?_, fun a ha => ?_, fun p hp => ?_, fun n hn => ?_, fun a t ha ht => ?_, fun w hw9 => ?_, fun k j hk hj => ?_⟩
  · rw [he 0 (by omega)]; exact h.P
  · rw [he 1 (by omega)]; exact h.N
  · rw [he 2 (by omega)]; exact h.T
  · rw [he 3 (by omega)]; exact h.K
  · rw [he 4 (by omega)]; exact h.F
  · rw [he 5 (by omega)]; exact h.W
  · rw [he _ (by omega)]; exact h.g ha
  · rw [he _ (by omega)]; exact h.c hp
  · obtain ⟨e0, e1, e2, e3, e4, e5⟩ := h.n hn
    rw [he _ (by omega), he _ (by omega), he _ (by omega), he _ (by omega), he _ (by omega), he _ (by omega)]
    exact ⟨e0, e1, e2, e3, e4, e5⟩
  · rw [he _ (by omega)]; exact h.l ha ht
  · obtain ⟨e0, e1, e2⟩ := h.w hw9
    rw [he _ (by omega), he _ (by omega), he _ (by omega)]
    exact ⟨e0, e1, e2⟩
  · rw [he _ (by omega)]; exact h.a hk hj
/-- the row with places from b on, m of them, taken from those at s on -/
abbrev mv (A : Nat → Int32) (s b m : Nat) : Nat → Int32 := fun j => if b ≤ j ∧ j < b + m then A (j - b + s) else A j
theorem mv_step {A : Nat → Int32} {s b m : Nat} : upd (mv A s b m) (b + m) (A (m + s)) = mv A s b (m + 1) := by
  funext j
  unfold upd
  by_cases h : j = b + m
  · subst h
    rw [if_pos rfl]
    show _ = if b ≤ b + m ∧ b + m < b + (m + 1) then A (b + m - b + s) else A (b + m)
    rw [if_pos (by omega)]
    congr 1
    omega
  · rw [if_neg h]
    show (if b ≤ j ∧ j < b + m then A (j - b + s) else A j) = if b ≤ j ∧ j < b + (m + 1) then A (j - b + s) else A j
    by_cases h2 : b ≤ j ∧ j < b + m
    · rw [if_pos h2, if_pos (by omega)]
    · rw [if_neg h2, if_neg (by omega)]
theorem mv_0 {A : Nat → Int32} {s b : Nat} : mv A s b 0 = A := by
  funext j
  show (if b ≤ j ∧ j < b + 0 then A (j - b + s) else A j) = _
  rw [if_neg (by omega)]
section M8N
variable {ad : Nat → Nat} {S0 : PH} {al hz : Nat → Int32} {s1 s2 s3 s4 : Int32} {lw hg mt tb9 : Nat → Int32} {an ky : Nat → Int64} {rw9 : Nat → Int32} {lf : Int32}
theorem b_image (h : inj8 ad) {k : Nat} (hk : k < 3) : f_X8_image (mk8 ad S0 al hz s1 s2 s3 s4 lw hg mt tb9 an ky rw9 lf) (ad 0) (nI k) = some (1, mk8 ad S0 (mv al 0 (17514 * (k + 1)) 17514) (upd hz k 1) s1 s2 s3 s4 lw hg mt tb9 an ky rw9 lf) := by
  have key : lpo (fun y : Int32 × PH => f_X8_image_L20 y.2 (ad 0) (nI k) y.1) FU ((0 : Int32), mk8 ad S0 al (upd hz k 1) s1 s2 s3 s4 lw hg mt tb9 an ky rw9 lf) = some (mk8 ad S0 (mv al 0 (17514 * (k + 1)) 17514) (upd hz k 1) s1 s2 s3 s4 lw hg mt tb9 an ky rw9 lf) := by
    refine lpo_det (fun i => (nI i, mk8 ad S0 (mv al 0 (17514 * (k + 1)) i) (upd hz k 1) s1 s2 s3 s4 lw hg mt tb9 an ky rw9 lf)) 17514 (by omega) (by rw [mv_0]; rfl) ?_ ?_
    · intro i hi
      have ix : (17514 : Int32) * (nI k + 1) + nI i = nI (17514 * (k + 1) + i) := by rw [nI_1, show (17514 : Int32) = nI 17514 from rfl, pk_mul, nI_add]
      have e : mv al 0 (17514 * (k + 1)) i i = al i := by show (if _ then _ else _) = _; rw [if_neg (by omega)]
      unfold f_X8_image_L20
      show (if (17514 : Int32) ≤ nI i then _ else _) = _
      rw [if_neg (show ¬ (17514 : Int32) ≤ nI i from nI_ge (a := i) (b := 17514) hi (by omega)), ix]
      simp (disch := first | omega | assumption) only [g8_0, Option.bind_some, r8_al, w8_al, nI_1]
      rw [e, ← mv_step]
      rfl
    · unfold f_X8_image_L20
      rw [if_pos (show (17514 : Int32) ≤ nI 17514 from Int32.le_refl _)]
  unfold f_X8_image
  rw [show (2 : Int32) = nI 3 - 1 from rfl, b_rng _ (by omega)]
  simp (disch := first | omega | assumption) only [Option.bind_some, ite10, g8_1, w8_ha, nar1]
  rw [if_neg (fun q => q ((rng_n (by omega) (by omega)).mpr hk)), key]
  rfl
theorem b_image0 {k : Int32} (hk : ¬ rng k 3) (S : PH) (x : Nat) : f_X8_image S x k = some (0, S) := by
  unfold f_X8_image
  rw [show (2 : Int32) = nI 3 - 1 from rfl, b_rng _ (by omega)]
  simp only [Option.bind_some, ite10]
  rw [if_pos hk]
theorem b_again (h : inj8 ad) {k : Nat} (hk : k < 3) (hz0 : hz k ≠ 0) : f_X8_again (mk8 ad S0 al hz s1 s2 s3 s4 lw hg mt tb9 an ky rw9 lf) (ad 0) (nI k) = some (1, mk8 ad S0 (mv al (17514 * (k + 1)) 0 17514) hz s1 s2 s3 s4 lw hg mt tb9 an ky rw9 lf) := by
  have key : lpo (fun y : Int32 × PH => f_X8_again_L22 y.2 (ad 0) (nI k) y.1) FU ((0 : Int32), (mk8 ad S0 al hz s1 s2 s3 s4 lw hg mt tb9 an ky rw9 lf)) = some (mk8 ad S0 (mv al (17514 * (k + 1)) 0 17514) hz s1 s2 s3 s4 lw hg mt tb9 an ky rw9 lf) := by
    refine lpo_det (fun i => (nI i, mk8 ad S0 (mv al (17514 * (k + 1)) 0 i) hz s1 s2 s3 s4 lw hg mt tb9 an ky rw9 lf)) 17514 (by omega) (by rw [mv_0]; rfl) ?_ ?_
    · intro i hi
      have ix : (17514 : Int32) * (nI k + 1) + nI i = nI (17514 * (k + 1) + i) := by rw [nI_1, show (17514 : Int32) = nI 17514 from rfl, pk_mul, nI_add]
      have e : mv al (17514 * (k + 1)) 0 i (17514 * (k + 1) + i) = al (i + 17514 * (k + 1)) := by show (if _ then _ else _) = _; rw [if_neg (by omega), Nat.add_comm]
      unfold f_X8_again_L22
      show (if (17514 : Int32) ≤ nI i then _ else _) = _
      rw [if_neg (show ¬ (17514 : Int32) ≤ nI i from nI_ge (a := i) (b := 17514) hi (by omega)), ix]
      simp (disch := first | omega | assumption) only [g8_0, Option.bind_some, r8_al, w8_al, nI_1]
      rw [e, ← mv_step, Nat.zero_add]
    · unfold f_X8_again_L22
      rw [if_pos (show (17514 : Int32) ≤ nI 17514 from Int32.le_refl _)]
  unfold f_X8_again
  rw [show (2 : Int32) = nI 3 - 1 from rfl, b_rng _ (by omega)]
  simp (disch := first | omega | assumption) only [Option.bind_some, ite10, g8_1, r8_ha]
  rw [if_neg (fun q => q ((rng_n (by omega) (by omega)).mpr hk)), if_neg hz0, key]
  rfl
theorem b_again0 (h : inj8 ad) {k : Int32} (hk : ∀ j, j < 3 → k = nI j → hz j = 0) : f_X8_again (mk8 ad S0 al hz s1 s2 s3 s4 lw hg mt tb9 an ky rw9 lf) (ad 0) k = some (0, (mk8 ad S0 al hz s1 s2 s3 s4 lw hg mt tb9 an ky rw9 lf)) := by
  unfold f_X8_again
  rw [show (2 : Int32) = nI 3 - 1 from rfl, b_rng _ (by omega)]
  simp only [Option.bind_some, ite10, g8_1 h]
  by_cases h1 : rng k 3
  · obtain ⟨j, hj, rfl⟩ := (rng_iff (by omega)).mp h1
    rw [if_neg (fun q => q h1), r8_ha h hj]
    simp only [Option.bind_some]
    rw [if_pos (hk j hj rfl)]
  · rw [if_pos h1]
end M8N
