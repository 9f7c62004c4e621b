/-! ===== wishes: the answers of a table, packed; the reference's reckons ===== -/
def wans (σ : SG) (τ : TG) (w t : Nat) : Nat := ansv σ (wk σ w) (τ 5 w).toNatClampNeg (wse σ w) (valt σ t)
def rk (σ : SG) (τ : TG) (t : Nat) : Nat → Nat
  | 0 => 0
  | w + 1 => rk σ τ t w ||| wans σ τ w t * 2 ^ (6 * w)
def mkw (s : Nat) : Nat → Nat
  | 0 => 0
  | w + 1 => if s.testBit w = true then mkw s w ||| 63 * 2 ^ (6 * w) else mkw s w
theorem wans_le {σ : SG} {τ : TG} (hw : WF σ τ) (w t : Nat) : wans σ τ w t ≤ 60 := ansv_le hw (fun _ hn => (valt_le hw hn t).1)
theorem tb_hi {x b : Nat} (hx : x < 64) (hb : 6 ≤ b) : x.testBit b = false := Nat.testBit_lt_two_pow (Nat.lt_of_lt_of_le hx (Nat.pow_le_pow_right (n := 2) (by omega) hb))
theorem tb_pack {x W w b : Nat} (hx : x < 64) (hb : b < 6) : (x * 2 ^ (6 * W)).testBit (6 * w + b) = (decide (w = W) && x.testBit b) := by
  rw [Nat.testBit_mul_two_pow]
  by_cases h : w = W
  · subst h
    rw [show 6 * w + b - 6 * w = b by omega]
    simp
  · by_cases h2 : w < W
    · have : ¬ 6 * W ≤ 6 * w + b := by omega
      simp [h, this]
    · rw [tb_hi hx (show 6 ≤ 6 * w + b - 6 * W by omega)]
      simp [h]
theorem rk_bit {σ : SG} {τ : TG} (hw : WF σ τ) {t w b : Nat} (hb : b < 6) : ∀ W, (rk σ τ t W).testBit (6 * w + b) = (decide (w < W) && (wans σ τ w t).testBit b)
  | 0 => by simp [rk]
  | W + 1 => by
    have ih := rk_bit hw (t := t) (w := w) hb W
    have h60 := wans_le hw W t
    unfold rk
    rw [Nat.testBit_or, ih, tb_pack (by omega) hb]
    by_cases e : w = W
    · subst e
      simp
    · have : (w < W + 1) = (w < W) := propext ⟨fun q => by omega, fun q => by omega⟩
      simp [e, this]
theorem rk_lt {σ : SG} {τ : TG} (hw : WF σ τ) (t : Nat) : ∀ W, rk σ τ t W < 2 ^ (6 * W)
  | 0 => by simp [rk]
  | W + 1 => by
    have ih := rk_lt hw t W
    have h60 := wans_le hw W t
    unfold rk
    refine Nat.or_lt_two_pow (Nat.lt_of_lt_of_le ih (Nat.pow_le_pow_right (by omega) (by omega))) ?_
    rw [show 6 * (W + 1) = 6 * W + 6 by omega, Nat.pow_add, Nat.mul_comm]
    exact Nat.mul_lt_mul_of_pos_left (by omega) (Nat.two_pow_pos _)
theorem rk_fld {σ : SG} {τ : TG} (hw : WF σ τ) {t w W : Nat} (h : w < W) : rk σ τ t W / 2 ^ (6 * w) % 64 = wans σ τ w t := by
  have h60 := wans_le hw w t
  refine Nat.eq_of_testBit_eq (fun b => ?_)
  rw [show (64 : Nat) = 2 ^ 6 from rfl, Nat.testBit_mod_two_pow, Nat.testBit_div_two_pow]
  by_cases hb : b < 6
  · rw [Nat.add_comm b, rk_bit hw hb]
    simp [hb, h]
  · rw [tb_hi (show wans σ τ w t < 64 by omega) (by omega)]
    simp [hb]
theorem mkw_bit {s w b : Nat} (hb : b < 6) : ∀ n, (mkw s n).testBit (6 * w + b) = (decide (w < n) && s.testBit w)
  | 0 => by simp [mkw]
  | n + 1 => by
    have ih := mkw_bit (s := s) (w := w) hb n
    have h63 : (63 : Nat).testBit b = true := by
      rcases (show b = 0 ∨ b = 1 ∨ b = 2 ∨ b = 3 ∨ b = 4 ∨ b = 5 by omega) with rfl | rfl | rfl | rfl | rfl | rfl <;> decide
    have e2 : w ≠ n → (w < n + 1) = (w < n) := fun e => propext ⟨fun q => by omega, fun q => by omega⟩
    unfold mkw
    by_cases hs : s.testBit n = true
    · rw [if_pos hs, Nat.testBit_or, ih, tb_pack (by omega) hb, h63]
      by_cases e : w = n
      · subst e
        simp [hs]
      · simp [e, e2 e]
    · rw [if_neg hs, ih]
      by_cases e : w = n
      · subst e
        simp [ts_nt hs]
      · simp [e2 e]
theorem mkw_lt {s : Nat} : ∀ n, mkw s n < 2 ^ (6 * n)
  | 0 => by simp [mkw]
  | n + 1 => by
    have ih := mkw_lt (s := s) n
    have h1 : mkw s n < 2 ^ (6 * (n + 1)) := Nat.lt_of_lt_of_le ih (Nat.pow_le_pow_right (by omega) (by omega))
    unfold mkw
    split
    · refine Nat.or_lt_two_pow h1 ?_
      rw [show 6 * (n + 1) = 6 * n + 6 by omega, Nat.pow_add, Nat.mul_comm]
      exact Nat.mul_lt_mul_of_pos_left (by omega) (Nat.two_pow_pos _)
    · exact h1
/-- two tables answer alike to all wishes of the set -/
abbrev sameW (σ : SG) (τ : TG) (s t u : Nat) : Prop := ∀ w, w < 8 → s.testBit w = true → wans σ τ w t = wans σ τ w u
theorem key_iff {σ : SG} {τ : TG} (hw : WF σ τ) {s t u W : Nat} (hs : ∀ w, s.testBit w = true → w < W) : rk σ τ t W &&& mkw s 8 = rk σ τ u W &&& mkw s 8 ↔ sameW σ τ s t u := by
  constructor
  · intro h w h8 hsw
    have h1 := wans_le hw w t
    have h2 := wans_le hw w u
    refine Nat.eq_of_testBit_eq (fun b => ?_)
    by_cases hb : b < 6
    · have h3 := congrArg (fun z => Nat.testBit z (6 * w + b)) h
      simp only [Nat.testBit_and, rk_bit hw hb, mkw_bit hb, hs w hsw, h8, hsw, decide_true, Bool.true_and, Bool.and_true] at h3
      exact h3
    · rw [tb_hi (by omega) (by omega), tb_hi (by omega) (by omega)]
  · intro h
    refine Nat.eq_of_testBit_eq (fun j => ?_)
    have hj : j = 6 * (j / 6) + j % 6 := by omega
    rw [hj, Nat.testBit_and, Nat.testBit_and, rk_bit hw (by omega), rk_bit hw (by omega), mkw_bit (by omega)]
    by_cases h8 : j / 6 < 8
    · by_cases hsw : s.testBit (j / 6) = true
      · rw [h _ h8 hsw]
      · rw [ts_nt hsw]; simp
    · simp [h8]
/-- the list of tables left, and their packed answers -/
def RK (σ : SG) (τ : TG) (i m : Nat) (tl : Nat → Nat) (tb9 : Nat → Int32) (an : Nat → Int64) : Prop :=
  m ≤ 4096 ∧ (∀ k, k < m → tb9 k = nI (tl k) ∧ an k = lN (rk σ τ (tl k) (gW σ)) ∧ tl k < gT σ ∧ lef σ i (tl k) = 1) ∧ ∀ u, u < gT σ → lef σ i u = 1 → ∃ k, k < m ∧ tl k = u
section M8S
variable {ad : Nat → Nat} {S0 : PH} {al hz : Nat → Int32} {s1 s2 s3 s4 : Int32} {lw hg mt tb9 : Nat → Int32} {an ky : Nat → Int64} {rw9 : Nat → Int32} {lf : Int32} {σ : SG} {τ : TG}
theorem kn_nI {s : Nat} (hP : gP σ ≤ 8) (hs : s < 2 ^ gP σ) : kn σ (nI s) = s := by
  have : s < 2 ^ 8 := Nat.lt_of_lt_of_le hs (Nat.pow_le_pow_right (by omega) hP)
  show (nI s).toBitVec.toNat % 2 ^ gP σ = s
  rw [pk_tn (by omega), Nat.mod_eq_of_lt hs]
theorem b_reckW (h : inj8 ad) (hw : WF σ τ) (hA : RA σ τ al 0) {t : Nat} (ht : t < 4096) : ∃ s1' s2' s3' s4', lpo (fun y : Int64 × Int32 × PH => f_X8_reckons_L34 y.2.2 (ad 0) (nI t) y.1 y.2.1) FU ((0 : Int64), (0 : Int32), (mk8 ad S0 al hz s1 s2 s3 s4 lw hg mt tb9 an ky rw9 lf)) = some (lN (rk σ τ t (gW σ)), mk8 ad S0 al hz s1' s2' s3' s4' lw hg mt tb9 an ky rw9 lf) := by
  have hW := hw.w8
  have hP := hw.p8
  have key := lpo_run (b := fun y : Int64 × Int32 × PH => f_X8_reckons_L34 y.2.2 (ad 0) (nI t) y.1 y.2.1) (x := ((0 : Int64), (0 : Int32), (mk8 ad S0 al hz s1 s2 s3 s4 lw hg mt tb9 an ky rw9 lf)))
    (fun w y => ∃ s1' s2' s3' s4', y = (lN (rk σ τ t w), nI w, mk8 ad S0 al hz s1' s2' s3' s4' lw hg mt tb9 an ky rw9 lf))
    (fun y => ∃ s1' s2' s3' s4', y = (lN (rk σ τ t (gW σ)), mk8 ad S0 al hz s1' s2' s3' s4' lw hg mt tb9 an ky rw9 lf))
    (gW σ) (by omega) ⟨s1, s2, s3, s4, rfl⟩ (by
      rintro w y hw9 ⟨t1, t2, t3, t4, rfl⟩
      obtain ⟨q1, q2⟩ := hw.wsh hw9
      obtain ⟨e0, e1, e2⟩ := hA.w hw9
      rw [Nat.zero_add] at e0 e1 e2
      have i0 : (1100 : Int32) + (3 : Int32) * nI w = nI (1100 + 3 * w) := by rw [show (3 : Int32) = nI 3 from rfl, pk_mul, show (1100 : Int32) = nI 1100 from rfl, nI_add]
      have i1 : nI (1100 + 3 * w) + 1 = nI (1100 + 3 * w + 1) := nI_add _ 1
      have i2 : nI (1100 + 3 * w) + 2 = nI (1100 + 3 * w + 2) := nI_add _ 2
      have i3 : (6 : Int32) * nI w = nI (6 * w) := by rw [show (6 : Int32) = nI 6 from rfl, pk_mul]
      obtain ⟨u1, u2, u3, u4, hans⟩ := b_answerIn (S0 := S0) (hz := hz) (s1 := t1) (s2 := t2) (s3 := t3) (s4 := t4) (lw := lw) (hg := hg) (mt := mt) (tb9 := tb9) (an := an) (ky := ky) (rw9 := rw9) (lf := lf) (set := wse σ w) h hw hA ht q2
      have h60 := wans_le hw w t
      have hrk := rk_lt hw t w
      have h64 : (2 : Nat) ^ (6 * w) ≤ 2 ^ 48 := Nat.pow_le_pow_right (by omega) (by omega)
      refine Or.inl ⟨(lN (rk σ τ t (w + 1)), nI (w + 1), mk8 ad S0 al hz u1 u2 u3 u4 lw hg mt tb9 an ky rw9 lf), ?_, u1, u2, u3, u4, rfl⟩
      show f_X8_reckons_L34 _ _ _ (lN (rk σ τ t w)) (nI w) = _
      unfold f_X8_reckons_L34
      rw [i0, i1, i2, i3]
      have bn : ∀ t1 t2 t3 t4, f_X8_numbersOf (mk8 ad S0 al hz t1 t2 t3 t4 lw hg mt tb9 an ky rw9 lf) (ad 0) (nI (wse σ w)) = some (nI (nbits σ (wse σ w) (gP σ))) := fun t1 t2 t3 t4 => by rw [b_numbersOf h hw hA, kn_nI hP q1]
      simp (disch := first | omega | assumption) only [g8_0, b_W h hA, Option.bind_some, q_le, r8_al, e0, e1, e2, ck8, bn, hans, bd2, nI_1]
      rw [if_neg (by omega), show ansv σ (wk σ w) (τ 5 w).toNatClampNeg (wse σ w) (valt σ t) = wans σ τ w t from rfl, nI_l (by omega), wb_shl _ (by omega), wb_or (by omega)]
      · rfl
      · refine Nat.lt_of_lt_of_le (Nat.mul_lt_mul_of_lt_of_le (show wans σ τ w t < 64 by omega) h64 (Nat.two_pow_pos _)) ?_
        decide) (by
      rintro y ⟨t1, t2, t3, t4, rfl⟩
      refine ⟨_, ?_, t1, t2, t3, t4, rfl⟩
      show f_X8_reckons_L34 _ _ _ (lN (rk σ τ t (gW σ))) (nI (gW σ)) = _
      unfold f_X8_reckons_L34
      simp (disch := first | omega | assumption) only [g8_0, b_W h hA, Option.bind_some, q_le]
      rw [if_pos (Nat.le_refl _)])
  obtain ⟨y9, h1, u1, u2, u3, u4, rfl⟩ := key
  exact ⟨u1, u2, u3, u4, h1⟩
theorem b_reckons (h : inj8 ad) (hw : WF σ τ) (hA : RA σ τ al 0) {i : Nat} (hi9 : i < 4) : ∃ (m : Nat) (tl : Nat → Nat) (s1' s2' s3' s4' : Int32) (tb9' : Nat → Int32) (an' : Nat → Int64), f_X8_reckons (mk8 ad S0 al hz s1 s2 s3 s4 lw hg mt tb9 an ky rw9 lf) (ad 0) (nI i) = some (mk8 ad S0 al hz s1' s2' s3' s4' lw hg mt tb9' an' ky rw9 (nI m)) ∧ RK σ τ i m tl tb9' an' := by
  have hT := hw.tle
  have key := lpo_run (b := fun y : Int32 × PH => f_X8_reckons_L7 y.2 (ad 0) (nI i) y.1) (x := ((0 : Int32), mk8 ad S0 al hz s1 s2 s3 s4 lw hg mt tb9 an ky rw9 0))
    (fun t y => ∃ (m : Nat) (tl : Nat → Nat) (s1' s2' s3' s4' : Int32) (tb9' : Nat → Int32) (an' : Nat → Int64), y = (nI t, mk8 ad S0 al hz s1' s2' s3' s4' lw hg mt tb9' an' ky rw9 (nI m)) ∧ m ≤ t ∧ (∀ k, k < m → tb9' k = nI (tl k) ∧ an' k = lN (rk σ τ (tl k) (gW σ)) ∧ tl k < t ∧ lef σ i (tl k) = 1) ∧ ∀ u, u < t → lef σ i u = 1 → ∃ k, k < m ∧ tl k = u)
    (fun y => ∃ (m : Nat) (tl : Nat → Nat) (s1' s2' s3' s4' : Int32) (tb9' : Nat → Int32) (an' : Nat → Int64), y = mk8 ad S0 al hz s1' s2' s3' s4' lw hg mt tb9' an' ky rw9 (nI m) ∧ RK σ τ i m tl tb9' an')
    (gT σ) (by omega) ⟨0, fun _ => 0, s1, s2, s3, s4, tb9, an, rfl, Nat.le_refl _, fun k hk => absurd hk (Nat.not_lt_zero k), fun u hu => absurd hu (Nat.not_lt_zero u)⟩ (by
      rintro t y ht ⟨m, tl, t1, t2, t3, t4, tb', an', rfl, hm, h1, h2⟩
      refine Or.inl ?_
      show ∃ x', f_X8_reckons_L7 _ _ _ (nI t) = some (Sum.inl x') ∧ _
      unfold f_X8_reckons_L7
      simp (disch := first | omega | assumption) only [g8_0, b_T h hA, Option.bind_some, q_le, ck8, b_isLeft h hw hA hi9 ht, ite10]
      rw [if_neg (by omega)]
      by_cases hl : lef σ i t = 1
      · rw [if_neg (fun q => q hl)]
        obtain ⟨u1, u2, u3, u4, e1⟩ := b_reckW (S0 := S0) (hz := hz) (s1 := t1) (s2 := t2) (s3 := t3) (s4 := t4) (lw := lw) (hg := hg) (mt := mt) (tb9 := tb') (an := an') (ky := ky) (rw9 := rw9) (lf := nI m) h hw hA (show t < 4096 by omega)
        rw [e1]
        simp (disch := first | omega | assumption) only [bd2, g8_9, g8_10, g8_13, Option.bind_some, w8_tb, w8_an, pI, p8_13, f_X8_reckons_b135, nI_1]
        refine ⟨_, rfl, m + 1, va_up tl m t, u1, u2, u3, u4, _, _, rfl, by omega, fun k hk => ?_, fun u hu hlu => ?_⟩
        · by_cases e : k = m
          · rw [e, va_up_self, pk_us, pk_uLs]
            exact ⟨rfl, rfl, by omega, hl⟩
          · rw [va_up_ne _ _ e, pk_un e, pk_uLn e]
            have := h1 k (by omega)
            exact ⟨this.1, this.2.1, by omega, this.2.2.2⟩
        · by_cases e : u = t
          · exact ⟨m, by omega, by rw [va_up_self, e]⟩
          · obtain ⟨k, hk, hk2⟩ := h2 u (by omega) hlu
            exact ⟨k, by omega, by rw [va_up_ne _ _ (by omega)]; exact hk2⟩
      · rw [if_pos hl]
        refine ⟨(nI (t + 1), _), by simp only [f_X8_reckons_b135, nI_1], m, tl, t1, t2, t3, t4, tb', an', rfl, by omega, fun k hk => ?_, fun u hu hlu => ?_⟩
        · have := h1 k hk
          exact ⟨this.1, this.2.1, by omega, this.2.2.2⟩
        · by_cases e : u = t
          · rw [e] at hlu; exact absurd hlu hl
          · exact h2 u (by omega) hlu) (by
      rintro y ⟨m, tl, t1, t2, t3, t4, tb', an', rfl, hm, h1, h2⟩
      refine ⟨_, ?_, m, tl, t1, t2, t3, t4, tb', an', rfl, by omega, h1, h2⟩
      show f_X8_reckons_L7 _ _ _ (nI (gT σ)) = _
      unfold f_X8_reckons_L7
      simp (disch := first | omega | assumption) only [g8_0, b_T h hA, Option.bind_some, q_le]
      rw [if_pos (Nat.le_refl _)])
  obtain ⟨y9, h1, m, tl, t1, t2, t3, t4, tb', an', rfl, h2⟩ := key
  refine ⟨m, tl, t1, t2, t3, t4, tb', an', ?_, h2⟩
  unfold f_X8_reckons
  simp (disch := first | omega | assumption) only [pI, p8_13, Option.bind_some, h1]
end M8S
