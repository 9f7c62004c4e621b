/-! ===== the reference: who is there, what is told ===== -/
theorem le_pred (v : Int32) {n : Nat} (hn : n < 1073741824) : (v ≤ nI n - 1) = (v < nI n) := by
  have h1 : (nI n - 1).toInt = (n : Int) - 1 := pk_sub_toInt (a := n) (b := 1) (by omega) (by omega)
  refine propext ?_
  rw [Int32.le_iff_toInt_le, Int32.lt_iff_toInt_lt, h1, nI_toInt (by omega)]
  omega
theorem b_isInG (v a b : Int32) : f_X8_isIn v a b = some (if a ≤ v ∧ v ≤ b then 1 else 0) := by
  unfold f_X8_isIn
  by_cases h1 : v < a
  · rw [if_pos h1, if_neg (fun q => Int32.not_lt.mpr q.1 h1)]
  · rw [if_neg h1]
    by_cases h2 : b < v
    · rw [if_pos h2, if_neg (fun q => Int32.not_lt.mpr q.2 h2)]
    · rw [if_neg h2, if_pos ⟨Int32.not_lt.mp h1, Int32.not_lt.mp h2⟩]
theorem ckZ_ite (q : Prop) [Decidable q] : ckZ (if q then 1 else 0) = some () := by
  unfold ckZ
  by_cases h : q
  · rw [if_pos h]; rfl
  · rw [if_neg h]; rfl
theorem b_rng (v : Int32) {n : Nat} (hn : n < 1073741824) : f_X8_isIn v 0 (nI n - 1) = some (if rng v n then 1 else 0) := by
  simp only [b_isInG, le_pred v hn]
theorem b_isAsker (v : Int32) : f_X8_isAsker v = some (if rng v 4 then 1 else 0) := by
  unfold f_X8_isAsker
  rw [show (3 : Int32) = nI 4 - 1 from rfl, b_rng v (by omega)]
  simp only [Option.bind_some, ckZ_ite]
theorem ite10 (q : Prop) [Decidable q] : ((if q then (1 : Int32) else 0) = 0) = ¬ q := by
  by_cases h : q
  · simp [h]
  · simp [h]
theorem ite11 (q : Prop) [Decidable q] : ((if q then (1 : Int32) else 0) = 1) = q := by
  by_cases h : q
  · simp [h]
  · simp [h]
section M8B
variable {ad : Nat → Nat} {S0 : PH} {al hz : Nat → Int32} {s1 s2 s3 s4 : Int32} {lw hg mt tb9 : Nat → Int32} {an ky : Nat → Int64} {rw9 : Nat → Int32} {lf : Int32} {σ : SG} {τ : TG}
theorem b_P (h : inj8 ad) (hA : RA σ τ al 0) : ldI (mk8 ad S0 al hz s1 s2 s3 s4 lw hg mt tb9 an ky rw9 lf) (ad 1) 0 = some (nI (gP σ)) := (r8_al h (i := 0) (by omega)).trans (congrArg some hA.P)
theorem b_N (h : inj8 ad) (hA : RA σ τ al 0) : ldI (mk8 ad S0 al hz s1 s2 s3 s4 lw hg mt tb9 an ky rw9 lf) (ad 1) 1 = some (nI (gN σ)) := (r8_al h (i := 1) (by omega)).trans (congrArg some hA.N)
theorem b_T (h : inj8 ad) (hA : RA σ τ al 0) : ldI (mk8 ad S0 al hz s1 s2 s3 s4 lw hg mt tb9 an ky rw9 lf) (ad 1) 2 = some (nI (gT σ)) := (r8_al h (i := 2) (by omega)).trans (congrArg some hA.T)
theorem b_K (h : inj8 ad) (hA : RA σ τ al 0) : ldI (mk8 ad S0 al hz s1 s2 s3 s4 lw hg mt tb9 an ky rw9 lf) (ad 1) 3 = some (nI (gK σ)) := (r8_al h (i := 3) (by omega)).trans (congrArg some hA.K)
theorem b_F (h : inj8 ad) (hA : RA σ τ al 0) : ldI (mk8 ad S0 al hz s1 s2 s3 s4 lw hg mt tb9 an ky rw9 lf) (ad 1) 4 = some (nI (gF σ)) := (r8_al h (i := 4) (by omega)).trans (congrArg some hA.F)
theorem b_W (h : inj8 ad) (hA : RA σ τ al 0) : ldI (mk8 ad S0 al hz s1 s2 s3 s4 lw hg mt tb9 an ky rw9 lf) (ad 1) 5 = some (nI (gW σ)) := (r8_al h (i := 5) (by omega)).trans (congrArg some hA.W)
theorem b_isPerson (h : inj8 ad) (hw : WF σ τ) (hA : RA σ τ al 0) (v : Int32) : f_X8_isPerson (mk8 ad S0 al hz s1 s2 s3 s4 lw hg mt tb9 an ky rw9 lf) (ad 0) v = some (if rng v (gP σ) then 1 else 0) := by
  have := hw.p8
  unfold f_X8_isPerson
  simp only [Option.bind_some, g8_0 h, b_P h hA, b_rng v (show gP σ < 1073741824 by omega), ckZ_ite]
theorem b_isNumber (h : inj8 ad) (hw : WF σ τ) (hA : RA σ τ al 0) (v : Int32) : f_X8_isNumber (mk8 ad S0 al hz s1 s2 s3 s4 lw hg mt tb9 an ky rw9 lf) (ad 0) v = some (if rng v (gN σ) then 1 else 0) := by
  have := hw.n10
  unfold f_X8_isNumber
  simp only [Option.bind_some, g8_0 h, b_N h hA, b_rng v (show gN σ < 1073741824 by omega), ckZ_ite]
theorem b_isLeft (h : inj8 ad) (hw : WF σ τ) (hA : RA σ τ al 0) {a t : Nat} (ha : a < 4) (ht : t < gT σ) : f_X8_isLeft (mk8 ad S0 al hz s1 s2 s3 s4 lw hg mt tb9 an ky rw9 lf) (ad 0) (nI a) (nI t) = some (if lef σ a t = 1 then 1 else 0) := by
  have h1 := hw.tle
  have h2 := hw.bit ha ht
  have e := hA.l ha ht
  rw [Nat.zero_add] at e
  unfold f_X8_isLeft
  simp (disch := first | omega | assumption) only [Option.bind_some, Option.bind_none, bd2, bd3, bd4, nm, g8_0, fa_lit, nI_add, pk_mul, q_sub, q_lt, q_le, q_eq, nI_clamp, r8_al, e]
  by_cases hc : lef σ a t = 1
  · simp only [if_pos hc]
  · simp only [if_neg hc]
/-- what tell answers -/
def sTell (σ : SG) (k w : Int32) : Int32 :=
  if w = 0 then (if rng k (gP σ) then nI (cur σ k.toNatClampNeg) else -1)
  else if rng k (gN σ) then (if w = 1 then nI (own σ k.toNatClampNeg) else if w = 2 then nI (lo σ k.toNatClampNeg) else if w = 3 then nI (hi σ k.toNatClampNeg) else if w = 4 then nI (nd σ k.toNatClampNeg) else if w = 5 then (if cur σ (own σ k.toNatClampNeg) = k.toNatClampNeg then 1 else 0) else if w = 6 then nI (vl σ k.toNatClampNeg) else -1)
  else -1
theorem b_tell (h : inj8 ad) (hw : WF σ τ) (hA : RA σ τ al 0) (k w : Int32) : f_X8_tell (mk8 ad S0 al hz s1 s2 s3 s4 lw hg mt tb9 an ky rw9 lf) (ad 0) k w = some (sTell σ k w) := by
  have hP := hw.p8
  have hN := hw.n10
  unfold f_X8_tell sTell
  simp only [ck8 h, b_isPerson h hw hA, b_isNumber h hw hA, Option.bind_some, ite10, g8_0 h]
  by_cases w0 : w = 0
  · rw [if_pos w0, if_pos w0]
    by_cases hr : rng k (gP σ)
    · obtain ⟨j, hj, rfl⟩ := (rng_iff (by omega)).mp hr
      have e := hA.c hj
      rw [Nat.zero_add] at e
      rw [if_neg (fun q => q hr), if_pos hr]
      simp (disch := first | omega | assumption) only [Option.bind_some, Option.bind_none, bd2, bd3, bd4, nm, fa_lit, nI_add, pk_mul, q_sub, q_lt, q_le, q_eq, nI_clamp, r8_al, e]
    · rw [if_pos hr, if_neg hr]
  · rw [if_neg w0, if_neg w0]
    by_cases hr : rng k (gN σ)
    · obtain ⟨j, hj, rfl⟩ := (rng_iff (by omega)).mp hr
      obtain ⟨e0, e1, e2, e3, e4, e5⟩ := hA.n hj
      rw [Nat.zero_add] at e0 e1 e2 e3 e4 e5
      have hq := hw.num hj
      have e6 := hA.c hq.1
      rw [Nat.zero_add] at e6
      have hcl : (nI j).toNatClampNeg = j := nI_clamp (by omega)
      have hc := (hw.per hq.1).1
      rw [if_neg (fun q => q hr), if_pos hr, hcl]
      have o0 : f_X8_of (mk8 ad S0 al hz s1 s2 s3 s4 lw hg mt tb9 an ky rw9 lf) (ad 0) (nI j) 0 = some (al (20 + 8 * j + 0)) := b_of h (w := 0) (by omega) (by omega)
      have o1 : f_X8_of (mk8 ad S0 al hz s1 s2 s3 s4 lw hg mt tb9 an ky rw9 lf) (ad 0) (nI j) 1 = some (al (20 + 8 * j + 1)) := b_of h (w := 1) (by omega) (by omega)
      have o2 : f_X8_of (mk8 ad S0 al hz s1 s2 s3 s4 lw hg mt tb9 an ky rw9 lf) (ad 0) (nI j) 2 = some (al (20 + 8 * j + 2)) := b_of h (w := 2) (by omega) (by omega)
      have o3 : f_X8_of (mk8 ad S0 al hz s1 s2 s3 s4 lw hg mt tb9 an ky rw9 lf) (ad 0) (nI j) 3 = some (al (20 + 8 * j + 3)) := b_of h (w := 3) (by omega) (by omega)
      have o4 : f_X8_of (mk8 ad S0 al hz s1 s2 s3 s4 lw hg mt tb9 an ky rw9 lf) (ad 0) (nI j) 4 = some (al (20 + 8 * j + 4)) := b_of h (w := 4) (by omega) (by omega)
      have o6 : ldI (mk8 ad S0 al hz s1 s2 s3 s4 lw hg mt tb9 an ky rw9 lf) (ad 1) (10 + nI (own σ j)) = some (nI (cur σ (own σ j))) := by
        rw [show (10 : Int32) + nI (own σ j) = nI (10 + own σ j) from nI_add 10 _, r8_al h (by omega), e6]
      have o7 : (nI (cur σ (own σ j)) = nI j) = (cur σ (own σ j) = j) := q_eq (by omega) (by omega)
      simp only [o0, o1, o2, o3, o4, Nat.add_zero, e0, e1, e2, e3, e4, Option.bind_some, o6, o7]
      repeat (split <;> try rfl)
    · rw [if_pos hr, if_neg hr]
def sAsked (σ : SG) (τ : TG) (k w : Int32) : Int32 := if rng k (gK σ) ∧ rng w 5 then τ w.toNatClampNeg k.toNatClampNeg else -1
theorem b_asked (h : inj8 ad) (hw : WF σ τ) (hA : RA σ τ al 0) (k w : Int32) : f_X8_asked (mk8 ad S0 al hz s1 s2 s3 s4 lw hg mt tb9 an ky rw9 lf) (ad 0) k w = some (sAsked σ τ k w) := by
  have hK := hw.k200
  unfold f_X8_asked sAsked
  simp only [b_K h hA, Option.bind_some, g8_0 h, b_rng k (show gK σ < 1073741824 by omega), show (4 : Int32) = nI 5 - 1 from rfl, b_rng w (show 5 < 1073741824 by omega), ite10]
  by_cases h1 : rng k (gK σ)
  · by_cases h2 : rng w 5
    · obtain ⟨j, hj, rfl⟩ := (rng_iff (by omega)).mp h1
      obtain ⟨i, hi, rfl⟩ := (rng_iff (by omega)).mp h2
      have e := hA.a hj hi
      rw [Nat.zero_add] at e
      rw [if_neg (fun q => q h1), if_neg (fun q => q h2), if_pos ⟨h1, h2⟩]
      simp (disch := first | omega | assumption) only [Option.bind_some, Option.bind_none, bd2, bd3, bd4, nm, fa_lit, nI_add, pk_mul, q_sub, q_lt, q_le, q_eq, nI_clamp, r8_al, e]
    · rw [if_neg (fun q => q h1), if_pos h2, if_neg (fun q => h2 q.2)]
  · rw [if_pos h1, if_neg (fun q => h1 q.1)]
end M8B
