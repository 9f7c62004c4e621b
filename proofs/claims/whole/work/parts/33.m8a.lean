/-! ===== the reference's small methods ===== -/
section M8A
variable {ad : Nat → Nat} {S0 : PH} {al hz : Nat → Int32} {s1 s2 s3 s4 : Int32} {lw hg mt tb9 : Nat → Int32} {an ky : Nat → Int64} {rw9 : Nat → Int32} {lf : Int32} {σ : SG} {τ : TG}
theorem b_isIn {v a b : Nat} (hv : v < 2147483648) (ha : a < 2147483648) (hb : b < 2147483648) : f_X8_isIn (nI v) (nI a) (nI b) = some (if a ≤ v ∧ v ≤ b then 1 else 0) := by
  unfold f_X8_isIn
  simp (disch := omega) only [fa_lit, nI_add, pk_mul, q_sub, q_lt, q_le, q_eq, nI_clamp]
  by_cases h1 : v < a
  · rw [if_pos h1, if_neg (by omega)]
  · rw [if_neg h1]
    by_cases h2 : b < v
    · rw [if_pos h2, if_neg (by omega)]
    · rw [if_neg h2, if_pos (by omega)]
theorem b_of (h : inj8 ad) {n w : Nat} (hn : n ≤ 10) (hw : w < 8) : f_X8_of (mk8 ad S0 al hz s1 s2 s3 s4 lw hg mt tb9 an ky rw9 lf) (ad 0) (nI n) (nI w) = some (al (20 + 8 * n + w)) := by
  unfold f_X8_of
  simp (disch := first | omega | assumption) only [Option.bind_some, Option.bind_none, bd2, bd3, bd4, nm, g8_0, g8_1, g8_2, g8_3, g8_4, g8_5, g8_6, g8_7, g8_8, g8_9, g8_10, g8_11, g8_12, g8_13, ck8, fa_lit, nI_add, pk_mul, q_sub, q_lt, q_le, q_eq, nI_clamp, r8_al, r8_ha, r8_lw, r8_hg, r8_mt, r8_tb, r8_an, r8_ky, r8_rw]
theorem b_many (h : inj8 ad) (hw : WF σ τ) (hA : RA σ τ al 0) {n : Nat} (hn : n < gN σ) : f_X8_many (mk8 ad S0 al hz s1 s2 s3 s4 lw hg mt tb9 an ky rw9 lf) (ad 0) (nI n) = some (nI (many σ n)) := by
  have hN := hw.n10
  have hq := hw.num hn
  obtain ⟨-, e1, e2, -⟩ := hA.n hn
  rw [Nat.zero_add] at e1 e2
  unfold f_X8_many
  simp (disch := first | omega | assumption) only [fa_lit, Option.bind_some, Option.bind_none, bd2, bd3, bd4, nm, ck8, b_of, e1, e2, fa_lit, nI_add, pk_mul, q_sub, q_lt, q_le, q_eq, nI_clamp]
  rfl
theorem b_valueIn (h : inj8 ad) (hw : WF σ τ) (hA : RA σ τ al 0) {n t : Nat} (hn : n < gN σ) (ht : t < 4096) : f_X8_valueIn (mk8 ad S0 al hz s1 s2 s3 s4 lw hg mt tb9 an ky rw9 lf) (ad 0) (nI t) (nI n) = some (nI (valt σ t n)) := by
  have hN := hw.n10
  have hq := hw.num hn
  obtain ⟨-, e1, e2, -, -, e5⟩ := hA.n hn
  rw [Nat.zero_add] at e1 e2 e5
  have hs := stp_pos σ n
  have hs2 := hw.sle (Nat.le_of_lt hn)
  have hm := many_pos σ n
  have hm2 : many σ n ≤ 21 := by unfold many; omega
  have d1 : dvI (nI t) (nI (stp σ n)) = some (nI (t / stp σ n)) := by
    unfold dvI
    rw [if_neg (nI_ne0 (by omega) (by omega)), pk_div (by omega) (by omega) (by omega)]
  have hd : t / stp σ n < 4096 := Nat.lt_of_le_of_lt (Nat.div_le_self _ _) ht
  have d2 : rmI (nI (t / stp σ n)) (nI (many σ n)) = some (nI (t / stp σ n % many σ n)) := by
    unfold rmI
    rw [if_neg (nI_ne0 (by omega) (by omega)), pk_rem (by omega) (by omega) (by omega)]
  unfold f_X8_valueIn
  simp (disch := first | omega | assumption) only [fa_lit, Option.bind_some, Option.bind_none, bd2, bd3, bd4, nm, ck8, b_of, e1, e2, e5, d1, b_many h hw hA hn, d2, nI_add]
  rfl
end M8A
