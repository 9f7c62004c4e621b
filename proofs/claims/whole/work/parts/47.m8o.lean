/-! ===== the reference: join ===== -/
theorem RA_lg {ρ ρ' : SG} {τ : TG} {A B : Nat → Int32} (hw : WF ρ τ) (hf : ∀ f, f < 20 → f ≠ 16 → ρ' f = ρ f) (hA : RA ρ τ A 0) (hb : ∀ j, j < 1130 → j < 6 ∨ 10 ≤ j → B j = A j) (hg : ∀ a, a < 4 → B (6 + a) = nI (grp ρ' a)) (hl : ∀ a t, a < 4 → t < gT ρ → B (1130 + 4096 * a + t) = nI (lef ρ' a t)) : RA ρ' τ B 0 := by
  have hP := hw.p8
  have hN := hw.n10
  have hW := hw.w8
  have hK := hw.k200
  have eT : gT ρ' = gT ρ := by
    show stp ρ' (gN ρ') = _
    rw [stp_congr (ρ := ρ') (σ := ρ) (fun n => congrFun (hf 12 (by omega) (by omega)) n) (fun n => congrFun (hf 13 (by omega) (by omega)) n)]
    show stp ρ (ρ' 1 0) = _
    rw [hf 1 (by omega) (by omega)]
  refine ⟨?_, ?_, ?_, ?_, ?_, ?_, fun a ha => ?_, fun p hp => ?_, fun n hn => ?_, fun a t ha ht => ?_, fun w hw9 => ?_, fun k j hk hj => ?_⟩
  · rw [hb _ (by omega) (by omega)]; show _ = nI (ρ' 0 0); rw [hf 0 (by omega) (by omega)]; exact hA.P
  · rw [hb _ (by omega) (by omega)]; show _ = nI (ρ' 1 0); rw [hf 1 (by omega) (by omega)]; exact hA.N
  · rw [hb _ (by omega) (by omega), eT]; exact hA.T
  · rw [hb _ (by omega) (by omega)]; show _ = nI (ρ' 3 0); rw [hf 3 (by omega) (by omega)]; exact hA.K
  · rw [hb _ (by omega) (by omega)]; show _ = nI (ρ' 4 0); rw [hf 4 (by omega) (by omega)]; exact hA.F
  · rw [hb _ (by omega) (by omega)]; show _ = nI (ρ' 5 0); rw [hf 5 (by omega) (by omega)]; exact hA.W
  · rw [Nat.zero_add]; exact hg a ha
  · have hp' : p < gP ρ := by have : p < ρ' 0 0 := hp; rw [hf 0 (by omega) (by omega)] at this; exact this
    rw [hb _ (by omega) (by omega)]; show _ = nI (ρ' 10 p); rw [hf 10 (by omega) (by omega)]; exact hA.c hp'
  · have hn' : n < gN ρ := by have : n < ρ' 1 0 := hn; rw [hf 1 (by omega) (by omega)] at this; exact this
    rw [hb _ (by omega) (by omega), hb _ (by omega) (by omega), hb _ (by omega) (by omega), hb _ (by omega) (by omega), hb _ (by omega) (by omega), hb _ (by omega) (by omega), stp_congr (ρ := ρ') (σ := ρ) (fun n => congrFun (hf 12 (by omega) (by omega)) n) (fun n => congrFun (hf 13 (by omega) (by omega)) n)]
    show _ = nI (ρ' 11 n) ∧ _ = nI (ρ' 12 n) ∧ _ = nI (ρ' 13 n) ∧ _ = nI (ρ' 14 n) ∧ _ = nI (ρ' 15 n) ∧ _
    rw [hf 11 (by omega) (by omega), hf 12 (by omega) (by omega), hf 13 (by omega) (by omega), hf 14 (by omega) (by omega), hf 15 (by omega) (by omega)]
    exact hA.n hn'
  · rw [eT] at ht
    rw [Nat.zero_add]
    exact hl a t ha ht
  · have hw' : w < gW ρ := by have : w < ρ' 5 0 := hw9; rw [hf 5 (by omega) (by omega)] at this; exact this
    rw [hb _ (by omega) (by omega), hb _ (by omega) (by omega), hb _ (by omega) (by omega)]
    show _ = nI (ρ' 17 w) ∧ _ = nI (ρ' 18 w) ∧ _
    rw [hf 17 (by omega) (by omega), hf 18 (by omega) (by omega)]
    exact hA.w hw'
  · have hk' : k < gK ρ := by have : k < ρ' 3 0 := hk; rw [hf 3 (by omega) (by omega)] at this; exact this
    rw [hb _ (by omega) (by omega)]; exact hA.a hk' hj
/-- askers of two circles -/
abbrev two (σ : SG) (i j k : Nat) : Prop := grp σ k = grp σ i ∨ grp σ k = grp σ j
def gJoin (σ : SG) (i j : Nat) : SG := fun f t =>
  if f = 16 then (if two σ i j t then min (grp σ i) (grp σ j) else grp σ t)
  else if (f = 20 ∨ f = 21 ∨ f = 22 ∨ f = 23) ∧ two σ i j (f - 20) then lef σ i t * lef σ j t else σ f t
theorem gJoin_f {σ : SG} {i j f : Nat} (h1 : f ≠ 16) (h2 : f < 20) : gJoin σ i j f = σ f := by
  funext t
  unfold gJoin
  rw [if_neg h1, if_neg (fun q => by have := q.1; omega)]
theorem gJoin_g {σ : SG} {i j k : Nat} : grp (gJoin σ i j) k = if two σ i j k then min (grp σ i) (grp σ j) else grp σ k := by
  show gJoin σ i j 16 k = _
  unfold gJoin
  rw [if_pos rfl]
theorem gJoin_l {σ : SG} {i j a t : Nat} (ha : a < 4) : lef (gJoin σ i j) a t = if two σ i j a then lef σ i t * lef σ j t else lef σ a t := by
  show gJoin σ i j (20 + a) t = _
  unfold gJoin
  rw [if_neg (by omega), show 20 + a - 20 = a by omega]
  by_cases hc : two σ i j a
  · rw [if_pos ⟨by omega, hc⟩, if_pos hc]
  · rw [if_neg (fun q => hc q.2), if_neg hc]
section GJ
variable {σ : SG} {τ : TG} {i j : Nat}
theorem gJoin_N : gN (gJoin σ i j) = gN σ := by show gJoin σ i j 1 0 = _; rw [gJoin_f (by omega) (by omega)]
theorem gJoin_P : gP (gJoin σ i j) = gP σ := by show gJoin σ i j 0 0 = _; rw [gJoin_f (by omega) (by omega)]
theorem gJoin_stp (n : Nat) : stp (gJoin σ i j) n = stp σ n := stp_congr (ρ := gJoin σ i j) (σ := σ) (fun n => by show gJoin σ i j 12 n = _; rw [gJoin_f (by omega) (by omega)]) (fun n => by show gJoin σ i j 13 n = _; rw [gJoin_f (by omega) (by omega)]) n
theorem gJoin_T : gT (gJoin σ i j) = gT σ := by show stp (gJoin σ i j) (gN (gJoin σ i j)) = _; rw [gJoin_N, gJoin_stp]
theorem gJoin_hid (n : Nat) : hid (gJoin σ i j) n = hid σ n := sm_congr n (fun k _ => by rw [gJoin_stp]; show (gJoin σ i j 15 k - gJoin σ i j 12 k) * _ = _; rw [gJoin_f (by omega) (by omega), gJoin_f (by omega) (by omega)])
theorem WF_gJoin (hw : WF σ τ) (hi : i < 4) (hj : j < 4) : WF (gJoin σ i j) τ := by
  have hgi := hw.gpr hi
  have hgj := hw.gpr hj
  obtain ⟨h1, h2, h3, h4, h5, h6, h7, h8, h9, h10, h11, h12, h13, h14⟩ := hw
  have e10 : gJoin σ i j 10 = σ 10 := gJoin_f (by omega) (by omega)
  have e11 : gJoin σ i j 11 = σ 11 := gJoin_f (by omega) (by omega)
  have e12 : gJoin σ i j 12 = σ 12 := gJoin_f (by omega) (by omega)
  have e13 : gJoin σ i j 13 = σ 13 := gJoin_f (by omega) (by omega)
  have e14 : gJoin σ i j 14 = σ 14 := gJoin_f (by omega) (by omega)
  have e15 : gJoin σ i j 15 = σ 15 := gJoin_f (by omega) (by omega)
  have e17 : gJoin σ i j 17 = σ 17 := gJoin_f (by omega) (by omega)
  have e18 : gJoin σ i j 18 = σ 18 := gJoin_f (by omega) (by omega)
  have e3 : gJoin σ i j 3 = σ 3 := gJoin_f (by omega) (by omega)
  have e4 : gJoin σ i j 4 = σ 4 := gJoin_f (by omega) (by omega)
  have e5 : gJoin σ i j 5 = σ 5 := gJoin_f (by omega) (by omega)
  have hmany : ∀ n, many (gJoin σ i j) n = many σ n := fun n => by
    show gJoin σ i j 13 n - gJoin σ i j 12 n + 1 = _
    rw [e12, e13]; rfl
  have hb1 : ∀ t, t < gT σ → lef σ i t * lef σ j t ≤ 1 := fun t ht => Nat.le_trans (Nat.mul_le_mul (h12 i t hi ht) (h12 j t hj ht)) (by omega)
  refine ⟨?_, ?_, ?_, ?_, ?_, ?_, ?_, ?_, ?_, ?_, ?_, ?_, ?_, ?_⟩
  · rw [gJoin_P]; exact h1
  · rw [gJoin_N]; exact h2
  · rw [gJoin_T]; exact h3
  · show sm (gJoin σ i j 13) (gN (gJoin σ i j)) ≤ 60
    rw [gJoin_N, e13]; exact h4
  · show gJoin σ i j 3 0 ≤ 200; rw [e3]; exact h5
  · show gJoin σ i j 4 0 ≤ gJoin σ i j 3 0
    rw [e4, e3]; exact h6
  · show gJoin σ i j 5 0 ≤ 8; rw [e5]; exact h7
  · intro p hp
    rw [gJoin_P] at hp
    rw [gJoin_N]
    show gJoin σ i j 10 p < gN σ ∧ gJoin σ i j 11 (gJoin σ i j 10 p) = p
    rw [e10, e11]; exact h8 p hp
  · intro n hn
    rw [gJoin_N] at hn
    rw [gJoin_P, hmany]
    show gJoin σ i j 11 n < gP σ ∧ gJoin σ i j 12 n ≤ gJoin σ i j 15 n ∧ gJoin σ i j 15 n ≤ gJoin σ i j 13 n ∧ gJoin σ i j 13 n ≤ 20 ∧ 1 ≤ gJoin σ i j 14 n ∧ gJoin σ i j 14 n ≤ many σ n
    rw [e11, e12, e13, e14, e15]; exact h9 n hn
  · intro b hb
    have hgb := h10 b hb
    rw [gJoin_g, gJoin_g]
    by_cases hc : two σ i j b
    · rw [if_pos hc, if_pos]
      · refine ⟨?_, rfl⟩
        rcases hc with hc | hc <;> omega
      · rcases Nat.le_total (grp σ i) (grp σ j) with q | q
        · rw [Nat.min_eq_left q]; exact Or.inl hgi.2
        · rw [Nat.min_eq_right q]; exact Or.inr hgj.2
    · rw [if_neg hc, if_neg (by rw [two, hgb.2]; exact hc)]
      exact hgb
  · intro b c hb hc hg t ht
    rw [gJoin_T] at ht
    rw [gJoin_g, gJoin_g] at hg
    rw [gJoin_l hb, gJoin_l hc]
    have out : ∀ k, ¬ two σ i j k → grp σ k ≠ min (grp σ i) (grp σ j) := fun k hk q => by
      rcases Nat.le_total (grp σ i) (grp σ j) with z | z
      · rw [Nat.min_eq_left z] at q; exact hk (Or.inl q)
      · rw [Nat.min_eq_right z] at q; exact hk (Or.inr q)
    by_cases q1 : two σ i j b
    · by_cases q2 : two σ i j c
      · rw [if_pos q1, if_pos q2]
      · rw [if_pos q1, if_neg q2] at hg
        exact absurd hg.symm (out c q2)
    · by_cases q2 : two σ i j c
      · rw [if_neg q1, if_pos q2] at hg
        exact absurd hg (out b q1)
      · rw [if_neg q1, if_neg q2] at hg
        rw [if_neg q1, if_neg q2]
        exact h11 b c hb hc hg t ht
  · intro a t ha ht
    rw [gJoin_T] at ht
    rw [gJoin_l ha]
    by_cases q1 : two σ i j a
    · rw [if_pos q1]; exact hb1 t ht
    · rw [if_neg q1]; exact h12 a t ha ht
  · intro a ha
    rw [gJoin_l ha, gJoin_N, gJoin_hid]
    by_cases q1 : two σ i j a
    · rw [if_pos q1, h13 i hi, h13 j hj]
    · rw [if_neg q1]; exact h13 a ha
  · intro w hw
    have hw' : w < gW σ := by have : w < gJoin σ i j 5 0 := hw; rw [e5] at this; exact this
    rw [gJoin_P]
    show gJoin σ i j 18 w < 2 ^ gP σ ∧ okq (gJoin σ i j 17 w) (τ 5 w)
    rw [e17, e18]; exact h14 w hw'
end GJ
/-- the row with v at table t of the first n askers with c -/
def zc (c : Nat → Bool) (v : Int32) (t : Nat) (A : Nat → Int32) : Nat → Nat → Int32
  | 0 => A
  | n + 1 => if c n then upd (zc c v t A n) (1130 + 4096 * n + t) v else zc c v t A n
theorem zc_out {c : Nat → Bool} {v : Int32} {t : Nat} {A : Nat → Int32} (ht : t < 4096) {j : Nat} (hj : j < 1130 ∨ 17514 ≤ j) : ∀ n, n ≤ 4 → zc c v t A n j = A j
  | 0, _ => rfl
  | n + 1, hn => by
    unfold zc
    split
    · unfold upd
      rw [if_neg (by omega)]
      exact zc_out ht hj n (by omega)
    · exact zc_out ht hj n (by omega)
theorem zc_at {c : Nat → Bool} {v : Int32} {t : Nat} {A : Nat → Int32} (ht : t < 4096) {a u : Nat} (ha : a < 4) (hu : u < 4096) : ∀ n, n ≤ 4 → zc c v t A n (1130 + 4096 * a + u) = if a < n ∧ c a = true ∧ u = t then v else A (1130 + 4096 * a + u)
  | 0, _ => by rw [if_neg (fun q => by omega)]; rfl
  | n + 1, hn => by
    have ih := zc_at (c := c) (v := v) (A := A) ht ha hu n (by omega)
    unfold zc
    by_cases hg : c n = true
    · rw [if_pos hg]
      unfold upd
      by_cases e : 1130 + 4096 * a + u = 1130 + 4096 * n + t
      · have e1 : a = n := by omega
        have e2 : u = t := by omega
        subst e1; subst e2
        rw [if_pos rfl, if_pos ⟨by omega, hg, rfl⟩]
      · rw [if_neg e, ih]
        by_cases hc : a < n ∧ c a = true ∧ u = t
        · rw [if_pos hc, if_pos ⟨by omega, hc.2⟩]
        · rw [if_neg hc, if_neg]
          rintro ⟨q1, q2, q3⟩
          by_cases e3 : a = n
          · subst e3; subst q3; exact e rfl
          · exact hc ⟨by omega, q2, q3⟩
    · rw [if_neg hg, ih]
      by_cases hc : a < n ∧ c a = true ∧ u = t
      · rw [if_pos hc, if_pos ⟨by omega, hc.2⟩]
      · rw [if_neg hc, if_neg]
        rintro ⟨q1, q2, q3⟩
        by_cases e3 : a = n
        · subst e3; exact hg q2
        · exact hc ⟨by omega, q2, q3⟩
/-- the row with v for the circle of the first n askers with c -/
def zg (c : Nat → Bool) (v : Int32) (A : Nat → Int32) : Nat → Nat → Int32
  | 0 => A
  | n + 1 => if c n then upd (zg c v A n) (6 + n) v else zg c v A n
theorem zg_at {c : Nat → Bool} {v : Int32} {A : Nat → Int32} {j : Nat} : ∀ n, zg c v A n j = if 6 ≤ j ∧ j < 6 + n ∧ c (j - 6) = true then v else A j
  | 0 => by rw [if_neg (fun q => by omega)]; rfl
  | n + 1 => by
    have ih := zg_at (c := c) (v := v) (A := A) (j := j) n
    unfold zg
    by_cases hg : c n = true
    · rw [if_pos hg]
      unfold upd
      by_cases e : j = 6 + n
      · rw [if_pos e, if_pos ⟨by omega, by omega, by rw [e, show 6 + n - 6 = n by omega]; exact hg⟩]
      · rw [if_neg e, ih]
        by_cases hc : 6 ≤ j ∧ j < 6 + n ∧ c (j - 6) = true
        · rw [if_pos hc, if_pos ⟨hc.1, by omega, hc.2.2⟩]
        · rw [if_neg hc, if_neg (fun q => hc ⟨q.1, by omega, q.2.2⟩)]
    · rw [if_neg hg, ih]
      by_cases hc : 6 ≤ j ∧ j < 6 + n ∧ c (j - 6) = true
      · rw [if_pos hc, if_pos ⟨hc.1, by omega, hc.2.2⟩]
      · rw [if_neg hc, if_neg]
        rintro ⟨q1, q2, q3⟩
        by_cases e3 : j = 6 + n
        · rw [e3, show 6 + n - 6 = n by omega] at q3; exact hg q3
        · exact hc ⟨q1, by omega, q3⟩
/-- what join answers, and the state behind it -/
def JoR (σ : SG) (a b r : Int32) (σ' : SG) : Prop :=
  (∃ i j, a = nI i ∧ i < 4 ∧ b = nI j ∧ j < 4 ∧ grp σ i ≠ grp σ j ∧ r = 1 ∧ σ' = gJoin σ i j) ∨
  (¬ (rng a 4 ∧ rng b 4 ∧ grp σ a.toNatClampNeg ≠ grp σ b.toNatClampNeg) ∧ r = 0 ∧ σ' = σ)
section M8O
variable {ad : Nat → Nat} {S0 : PH} {al hz : Nat → Int32} {s1 s2 s3 s4 : Int32} {lw hg mt tb9 : Nat → Int32} {an ky : Nat → Int64} {rw9 : Nat → Int32} {lf : Int32} {σ : SG} {τ : TG}
abbrev tw (σ : SG) (i j : Nat) : Nat → Bool := fun k => decide (two σ i j k)
theorem b_joinIn (h : inj8 ad) (hgr : ∀ b, b < 4 → al (6 + b) = nI (grp σ b)) (hg4 : ∀ b, b < 4 → grp σ b < 4) {i j t : Nat} (hi : i < 4) (hj : j < 4) (ht : t < 4096) (v : Int32) : lpo (fun y : Int32 × PH => f_X8_join_L126 y.2 (ad 0) (nI (grp σ i)) (nI (grp σ j)) (nI t) v y.1) FU ((0 : Int32), (mk8 ad S0 al hz s1 s2 s3 s4 lw hg mt tb9 an ky rw9 lf)) = some (mk8 ad S0 (zc (tw σ i j) v t al 4) hz s1 s2 s3 s4 lw hg mt tb9 an ky rw9 lf) := by
  refine lpo_det (fun n => (nI n, mk8 ad S0 (zc (tw σ i j) v t al n) hz s1 s2 s3 s4 lw hg mt tb9 an ky rw9 lf)) 4 (by omega) rfl ?_ ?_
  · intro n hn
    have e1 : zc (tw σ i j) v t al n (6 + n) = nI (grp σ n) := by rw [zc_out ht (by omega) n (by omega)]; exact hgr n hn
    have b0 := hg4 n hn
    have b1 := hg4 i hi
    have b2 := hg4 j hj
    unfold f_X8_join_L126
    have ix : (1130 : Int32) + (4096 : Int32) * nI n + nI t = nI (1130 + 4096 * n + t) := by rw [show (4096 : Int32) = nI 4096 from rfl, pk_mul, show (1130 : Int32) = nI 1130 from rfl, nI_add, nI_add]
    show (if (4 : Int32) ≤ nI n then _ else _) = _
    rw [if_neg (show ¬ (4 : Int32) ≤ nI n from nI_ge (a := n) (b := 4) hn (by omega)), show (6 : Int32) + nI n = nI (6 + n) from nI_add 6 n]
    simp (disch := first | omega | assumption) only [g8_0, Option.bind_some, r8_al, e1, f_X8_join_b161, f_X8_join_b181, ix, w8_al, nI_1]
    show _ = some (Sum.inl (nI (n + 1), mk8 ad S0 (if tw σ i j n = true then upd (zc (tw σ i j) v t al n) (1130 + 4096 * n + t) v else zc (tw σ i j) v t al n) hz s1 s2 s3 s4 lw hg mt tb9 an ky rw9 lf))
    by_cases hc1 : grp σ n = grp σ i
    · rw [if_pos (show nI (grp σ n) = nI (grp σ i) by rw [hc1]), if_pos (show tw σ i j n = true from decide_eq_true (Or.inl hc1))]
    · rw [if_neg (fun q => hc1 ((nI_eq (by omega) (by omega)).mp q))]
      by_cases hc2 : grp σ n = grp σ j
      · rw [if_pos (show nI (grp σ n) = nI (grp σ j) by rw [hc2]), if_pos (show tw σ i j n = true from decide_eq_true (Or.inr hc2))]
      · rw [if_neg (fun q => hc2 ((nI_eq (by omega) (by omega)).mp q)), if_neg (show ¬ tw σ i j n = true from fun q => (of_decide_eq_true q).elim hc1 hc2)]
  · unfold f_X8_join_L126
    rw [if_pos (show (4 : Int32) ≤ nI 4 by decide)]
theorem b_joinG (h : inj8 ad) (hgr : ∀ b, b < 4 → al (6 + b) = nI (grp σ b)) (hg4 : ∀ b, b < 4 → grp σ b < 4) {i j : Nat} (hi : i < 4) (hj : j < 4) (v : Int32) : lpo (fun y : Int32 × PH => f_X8_join_L196 y.2 (ad 0) (nI (grp σ i)) (nI (grp σ j)) v y.1) FU ((0 : Int32), (mk8 ad S0 al hz s1 s2 s3 s4 lw hg mt tb9 an ky rw9 lf)) = some (mk8 ad S0 (zg (tw σ i j) v al 4) hz s1 s2 s3 s4 lw hg mt tb9 an ky rw9 lf) := by
  refine lpo_det (fun n => (nI n, mk8 ad S0 (zg (tw σ i j) v al n) hz s1 s2 s3 s4 lw hg mt tb9 an ky rw9 lf)) 4 (by omega) rfl ?_ ?_
  · intro n hn
    have e1 : zg (tw σ i j) v al n (6 + n) = nI (grp σ n) := by rw [zg_at, if_neg (fun q => by omega)]; exact hgr n hn
    have b0 := hg4 n hn
    have b1 := hg4 i hi
    have b2 := hg4 j hj
    unfold f_X8_join_L196
    show (if (4 : Int32) ≤ nI n then _ else _) = _
    rw [if_neg (show ¬ (4 : Int32) ≤ nI n from nI_ge (a := n) (b := 4) hn (by omega)), show (6 : Int32) + nI n = nI (6 + n) from nI_add 6 n]
    simp (disch := first | omega | assumption) only [g8_0, Option.bind_some, r8_al, e1, f_X8_join_b231, f_X8_join_b243, w8_al, nI_1, show (6 : Int32) + nI n = nI (6 + n) from nI_add 6 n]
    show _ = some (Sum.inl (nI (n + 1), mk8 ad S0 (if tw σ i j n = true then upd (zg (tw σ i j) v al n) (6 + n) v else zg (tw σ i j) v al n) hz s1 s2 s3 s4 lw hg mt tb9 an ky rw9 lf))
    by_cases hc1 : grp σ n = grp σ i
    · rw [if_pos (show nI (grp σ n) = nI (grp σ i) by rw [hc1]), if_pos (show tw σ i j n = true from decide_eq_true (Or.inl hc1))]
    · rw [if_neg (fun q => hc1 ((nI_eq (by omega) (by omega)).mp q))]
      by_cases hc2 : grp σ n = grp σ j
      · rw [if_pos (show nI (grp σ n) = nI (grp σ j) by rw [hc2]), if_pos (show tw σ i j n = true from decide_eq_true (Or.inr hc2))]
      · rw [if_neg (fun q => hc2 ((nI_eq (by omega) (by omega)).mp q)), if_neg (show ¬ tw σ i j n = true from fun q => (of_decide_eq_true q).elim hc1 hc2)]
  · unfold f_X8_join_L196
    rw [if_pos (show (4 : Int32) ≤ nI 4 by decide)]
theorem b_joinT (h : inj8 ad) (hw : WF σ τ) (hA : RA σ τ al 0) {i j : Nat} (hi : i < 4) (hj : j < 4) (z : Nat) (hz9 : z = min (grp σ i) (grp σ j)) : ∃ al', f_X8_join_b70 (mk8 ad S0 al hz s1 s2 s3 s4 lw hg mt tb9 an ky rw9 lf) (ad 0) (nI i) (nI j) (nI (grp σ i)) (nI (grp σ j)) (nI z) = some (1, mk8 ad S0 al' hz s1 s2 s3 s4 lw hg mt tb9 an ky rw9 lf) ∧ RA (gJoin σ i j) τ al' 0 ∧ ∀ q, 17514 ≤ q → al' q = al q := by
  have hT := hw.tle
  have hg4 : ∀ b, b < 4 → grp σ b < 4 := fun b hb => Nat.lt_of_le_of_lt (hw.gpr hb).1 hb
  have hgr : ∀ b, b < 4 → al (6 + b) = nI (grp σ b) := fun b hb => by have := hA.g hb; rw [Nat.zero_add] at this; exact this
  have hle : ∀ b u, b < 4 → u < gT σ → al (1130 + 4096 * b + u) = nI (lef σ b u) := fun b u hb hu => by have := hA.l hb hu; rw [Nat.zero_add] at this; exact this
  have key := lpo_run (b := fun y : Int32 × PH => f_X8_join_L75 y.2 (ad 0) (nI i) (nI j) (nI (grp σ i)) (nI (grp σ j)) y.1) (x := ((0 : Int32), (mk8 ad S0 al hz s1 s2 s3 s4 lw hg mt tb9 an ky rw9 lf)))
    (fun t y => ∃ al', y = (nI t, mk8 ad S0 al' hz s1 s2 s3 s4 lw hg mt tb9 an ky rw9 lf) ∧ (∀ q, q < 1130 ∨ 17514 ≤ q → al' q = al q) ∧ ∀ b u, b < 4 → u < 4096 → al' (1130 + 4096 * b + u) = if two σ i j b ∧ u < t then al (1130 + 4096 * i + u) * al (1130 + 4096 * j + u) else al (1130 + 4096 * b + u))
    (fun y => ∃ al', y = mk8 ad S0 al' hz s1 s2 s3 s4 lw hg mt tb9 an ky rw9 lf ∧ (∀ q, q < 1130 ∨ 17514 ≤ q → al' q = al q) ∧ ∀ b u, b < 4 → u < gT σ → al' (1130 + 4096 * b + u) = if two σ i j b then al (1130 + 4096 * i + u) * al (1130 + 4096 * j + u) else al (1130 + 4096 * b + u))
    (gT σ) (by omega) ⟨al, rfl, fun _ _ => rfl, fun b u _ _ => by rw [if_neg (fun q => by omega)]⟩ (by
      rintro t y ht ⟨al', rfl, hf, hl⟩
      refine Or.inl ?_
      have bT : ldI (mk8 ad S0 al' hz s1 s2 s3 s4 lw hg mt tb9 an ky rw9 lf) (ad 1) 2 = some (nI (gT σ)) := by
        rw [show (2 : Int32) = nI 2 from rfl, r8_al h (by omega), hf 2 (by omega)]
        have := hA.T
        rw [Nat.zero_add] at this
        rw [this]
      have hgr' : ∀ b, b < 4 → al' (6 + b) = nI (grp σ b) := fun b hb => by rw [hf _ (by omega)]; exact hgr b hb
      have li : al' (1130 + 4096 * i + t) = al (1130 + 4096 * i + t) := by rw [hl i t hi (by omega), if_neg (fun q => by omega)]
      have lj : al' (1130 + 4096 * j + t) = al (1130 + 4096 * j + t) := by rw [hl j t hj (by omega), if_neg (fun q => by omega)]
      have ix : ∀ n, (1130 : Int32) + (4096 : Int32) * nI n + nI t = nI (1130 + 4096 * n + t) := fun n => by rw [show (4096 : Int32) = nI 4096 from rfl, pk_mul, show (1130 : Int32) = nI 1130 from rfl, nI_add, nI_add]
      refine ⟨(nI (t + 1), mk8 ad S0 (zc (tw σ i j) (al (1130 + 4096 * i + t) * al (1130 + 4096 * j + t)) t al' 4) hz s1 s2 s3 s4 lw hg mt tb9 an ky rw9 lf), ?_, _, rfl, fun q hq => ?_, fun b u hb hu => ?_⟩
      · show f_X8_join_L75 _ _ _ _ _ _ (nI t) = _
        unfold f_X8_join_L75
        simp (disch := first | omega | assumption) only [g8_0, bT, Option.bind_some, q_le, ix, r8_al, li, lj]
        rw [if_neg (by omega), b_joinIn h hgr' hg4 hi hj (by omega)]
        simp only [Option.bind_some, nI_1]
      · rw [zc_out (by omega) hq 4 (by omega)]; exact hf q hq
      · rw [zc_at (by omega) hb hu 4 (by omega), hl b u hb hu]
        by_cases hc : two σ i j b
        · by_cases hut : u = t
          · subst hut
            rw [if_pos ⟨hb, decide_eq_true hc, rfl⟩, if_pos ⟨hc, by omega⟩]
          · rw [if_neg (fun q => hut q.2.2)]
            by_cases h3 : u < t
            · rw [if_pos ⟨hc, h3⟩, if_pos ⟨hc, by omega⟩]
            · rw [if_neg (fun q => h3 q.2), if_neg (fun q => by omega)]
        · rw [if_neg (fun q => hc (of_decide_eq_true q.2.1)), if_neg (fun q => hc q.1), if_neg (fun q => hc q.1)]) (by
      rintro y ⟨al', rfl, hf, hl⟩
      refine ⟨_, ?_, al', rfl, hf, fun b u hb hu => ?_⟩
      · have bT : ldI (mk8 ad S0 al' hz s1 s2 s3 s4 lw hg mt tb9 an ky rw9 lf) (ad 1) 2 = some (nI (gT σ)) := by
          rw [show (2 : Int32) = nI 2 from rfl, r8_al h (by omega), hf 2 (by omega)]
          have := hA.T
          rw [Nat.zero_add] at this
          rw [this]
        show f_X8_join_L75 _ _ _ _ _ _ (nI (gT σ)) = _
        unfold f_X8_join_L75
        simp (disch := first | omega | assumption) only [g8_0, bT, Option.bind_some, q_le]
        rw [if_pos (Nat.le_refl _)]
      · rw [hl b u hb (by omega)]
        by_cases hc : two σ i j b
        · rw [if_pos ⟨hc, hu⟩, if_pos hc]
        · rw [if_neg (fun q => hc q.1), if_neg hc])
  obtain ⟨y9, h1, al', rfl, hf, hl⟩ := key
  have hgr' : ∀ b, b < 4 → al' (6 + b) = nI (grp σ b) := fun b hb => by rw [hf _ (by omega)]; exact hgr b hb
  refine ⟨zg (tw σ i j) (nI z) al' 4, ?_, ?_, fun q hq => by rw [zg_at, if_neg (fun q => by omega)]; exact hf q (by omega)⟩
  · unfold f_X8_join_b70
    rw [h1]
    simp only [Option.bind_some]
    rw [b_joinG h hgr' hg4 hi hj]
    rfl
  · refine RA_lg hw (fun f h1 h2 => gJoin_f h2 h1) hA (fun q h1 h2 => by rw [zg_at, if_neg (fun q => by omega)]; exact hf q (by omega)) (fun a ha => ?_) (fun a t ha ht => ?_)
    · rw [zg_at, gJoin_g, show 6 + a - 6 = a by omega]
      by_cases hc : two σ i j a
      · rw [if_pos ⟨by omega, by omega, decide_eq_true hc⟩, if_pos hc, hz9]
      · rw [if_neg (fun q => hc (of_decide_eq_true q.2.2)), if_neg hc]
        exact hgr' a ha
    · rw [zg_at, if_neg (fun q => by omega), hl a t ha ht, gJoin_l ha, hle i t hi ht, hle j t hj ht, hle a t ha ht, pk_mul]
      by_cases hc : two σ i j a
      · rw [if_pos hc, if_pos hc]
      · rw [if_neg hc, if_neg hc]
theorem b_join (h : inj8 ad) (hw : WF σ τ) (hA : RA σ τ al 0) (a b : Int32) : ∃ (r : Int32) (al' : Nat → Int32) (σ' : SG), f_X8_join (mk8 ad S0 al hz s1 s2 s3 s4 lw hg mt tb9 an ky rw9 lf) (ad 0) a b = some (r, mk8 ad S0 al' hz s1 s2 s3 s4 lw hg mt tb9 an ky rw9 lf) ∧ JoR σ a b r σ' ∧ WF σ' τ ∧ RA σ' τ al' 0 ∧ ∀ q, 17514 ≤ q → al' q = al q := by
  have hg4 : ∀ b, b < 4 → grp σ b < 4 := fun b hb => Nat.lt_of_le_of_lt (hw.gpr hb).1 hb
  have hgr : ∀ b, b < 4 → al (6 + b) = nI (grp σ b) := fun b hb => by have := hA.g hb; rw [Nat.zero_add] at this; exact this
  unfold f_X8_join
  simp only [b_isAsker, Option.bind_some, ite10, g8_0 h]
  by_cases h1 : rng a 4
  · rw [if_neg (fun q => q h1)]
    by_cases h2 : rng b 4
    · rw [if_neg (fun q => q h2)]
      obtain ⟨i, hi, rfl⟩ := (rng_iff (by omega)).mp h1
      obtain ⟨j, hj, rfl⟩ := (rng_iff (by omega)).mp h2
      have b1 := hg4 i hi
      have b2 := hg4 j hj
      rw [show (6 : Int32) + nI i = nI (6 + i) from nI_add 6 i, show (6 : Int32) + nI j = nI (6 + j) from nI_add 6 j]
      simp (disch := first | omega | assumption) only [r8_al, Option.bind_some, hgr i hi, hgr j hj]
      by_cases h3 : grp σ i = grp σ j
      · refine ⟨0, al, σ, by rw [if_pos (by rw [h3])], Or.inr ⟨fun q => ?_, rfl, rfl⟩, hw, hA, fun _ _ => rfl⟩
        have := q.2.2
        rw [nI_clamp (by omega), nI_clamp (by omega)] at this
        exact this h3
      · rw [if_neg (fun q => h3 ((nI_eq (by omega) (by omega)).mp q))]
        by_cases h4 : grp σ j ≤ grp σ i
        · rw [if_pos ((nI_leI (by omega) (by omega)).mpr h4)]
          obtain ⟨al', e1, e2, e3⟩ := b_joinT (S0 := S0) (hz := hz) (s1 := s1) (s2 := s2) (s3 := s3) (s4 := s4) (lw := lw) (hg := hg) (mt := mt) (tb9 := tb9) (an := an) (ky := ky) (rw9 := rw9) (lf := lf) h hw hA hi hj (grp σ j) (Nat.min_eq_right h4).symm
          exact ⟨1, al', _, e1, Or.inl ⟨i, j, rfl, hi, rfl, hj, h3, rfl, rfl⟩, WF_gJoin hw hi hj, e2, e3⟩
        · rw [if_neg (fun q => h4 ((nI_leI (by omega) (by omega)).mp q))]
          obtain ⟨al', e1, e2, e3⟩ := b_joinT (S0 := S0) (hz := hz) (s1 := s1) (s2 := s2) (s3 := s3) (s4 := s4) (lw := lw) (hg := hg) (mt := mt) (tb9 := tb9) (an := an) (ky := ky) (rw9 := rw9) (lf := lf) h hw hA hi hj (grp σ i) (Nat.min_eq_left (by omega)).symm
          exact ⟨1, al', _, e1, Or.inl ⟨i, j, rfl, hi, rfl, hj, h3, rfl, rfl⟩, WF_gJoin hw hi hj, e2, e3⟩
    · refine ⟨0, al, σ, by rw [if_pos h2], Or.inr ⟨fun q => h2 q.2.1, rfl, rfl⟩, hw, hA, fun _ _ => rfl⟩
  · refine ⟨0, al, σ, by rw [if_pos h1], Or.inr ⟨fun q => h1 q.1, rfl, rfl⟩, hw, hA, fun _ _ => rfl⟩
end M8O
