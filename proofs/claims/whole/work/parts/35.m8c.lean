/-! ===== the reference: the answer of a table ===== -/
/-- the people of a set, as a number -/
abbrev kn (σ : SG) (x : Int32) : Nat := x.toBitVec.toNat % 2 ^ gP σ
/-- the numbers that a set asks, as bits -/
def nbits (σ : SG) (s : Nat) : Nat → Nat
  | 0 => 0
  | p + 1 => if s.testBit p then nbits σ s p ||| 2 ^ cur σ p else nbits σ s p
theorem nbits_bit {σ : SG} {s n : Nat} : ∀ p, (nbits σ s p).testBit n = true ↔ ∃ q, q < p ∧ s.testBit q = true ∧ cur σ q = n
  | 0 => by simp [nbits]
  | p + 1 => by
    have ih := nbits_bit (σ := σ) (s := s) (n := n) p
    unfold nbits
    by_cases h : s.testBit p = true
    · rw [if_pos h, Nat.testBit_or, Nat.testBit_two_pow, Bool.or_eq_true, ih]
      constructor
      · rintro (⟨q, h1, h2, h3⟩ | h1)
        · exact ⟨q, by omega, h2, h3⟩
        · exact ⟨p, by omega, h, by simpa using h1⟩
      · rintro ⟨q, h1, h2, h3⟩
        by_cases hq : q = p
        · subst hq
          exact Or.inr (by simpa using h3)
        · exact Or.inl ⟨q, by omega, h2, h3⟩
    · rw [if_neg h, ih]
      constructor
      · rintro ⟨q, h1, h2, h3⟩
        exact ⟨q, by omega, h2, h3⟩
      · rintro ⟨q, h1, h2, h3⟩
        by_cases hq : q = p
        · subst hq
          exact absurd h2 h
        · exact ⟨q, by omega, h2, h3⟩
theorem nbits_in {σ : SG} {τ : TG} (hw : WF σ τ) {s n : Nat} (hn : n < gN σ) : (nbits σ s (gP σ)).testBit n = inq σ s n := by
  have h1 := nbits_bit (σ := σ) (s := s) (n := n) (gP σ)
  rw [Bool.eq_iff_iff, h1]
  unfold inq
  rw [Bool.and_eq_true, decide_eq_true_eq]
  constructor
  · rintro ⟨q, h2, h3, h4⟩
    have h5 := (hw.per h2).2
    rw [h4] at h5
    rw [h5]
    exact ⟨h4, h3⟩
  · rintro ⟨h2, h3⟩
    exact ⟨own σ n, (hw.num hn).1, h3, h2⟩
/-- is any number asked below n -/
def anyq (σ : SG) (set : Nat) : Nat → Bool
  | 0 => false
  | n + 1 => inq σ set n || anyq σ set n
theorem any_max {σ : SG} {set : Nat} {v : Nat → Nat} : ∀ n, anyq σ set n = false → maxq σ set v n = 0 ∧ minq σ set v n = 21
  | 0, _ => ⟨rfl, rfl⟩
  | n + 1, h => by
    unfold anyq at h
    rw [Bool.or_eq_false_iff] at h
    have ih := any_max (v := v) n h.2
    unfold maxq minq
    rw [h.1]
    exact ih
theorem any_min {σ : SG} {set : Nat} {v : Nat → Nat} : ∀ n, (∀ k, k < n → v k ≤ 20) → anyq σ set n = true → minq σ set v n ≤ 20 ∧ maxq σ set v n ≤ 20
  | 0, _, h => by cases h
  | n + 1, hv, h => by
    have hvn := hv n (by omega)
    have hmx : maxq σ set v n ≤ 20 := by
      by_cases ha : anyq σ set n = true
      · exact (any_min n (fun k hk => hv k (by omega)) ha).2
      · rw [(any_max (v := v) n (by simpa using ha)).1]; omega
    unfold maxq minq
    by_cases hi : inq σ set n = true
    · rw [if_pos hi, if_pos hi]; omega
    · rw [if_neg hi, if_neg hi]
      unfold anyq at h
      have ha : anyq σ set n = true := by
        rw [Bool.or_eq_true] at h
        exact h.resolve_left hi
      exact any_min n (fun k hk => hv k (by omega)) ha
def c2q (σ : SG) (set : Nat) (x : Int32) (v : Nat → Nat) : Nat → Int32
  | 0 => 0
  | n + 1 => if inq σ set n then c2q σ set x v n + (if nI (v n) < x then 0 else 1) else c2q σ set x v n
theorem c2q_n {σ : SG} {set e : Nat} {v : Nat → Nat} (he : e ≤ 20) : ∀ n, (∀ k, k < n → v k ≤ 20) → c2q σ set (nI e) v n = nI (cntq σ set e v n)
  | 0, _ => rfl
  | n + 1, hv => by
    have hvn := hv n (by omega)
    have ih := c2q_n (σ := σ) (set := set) he n (fun k hk => hv k (by omega))
    unfold c2q cntq
    rw [ih]
    by_cases hi : inq σ set n = true
    · simp only [hi, Bool.true_and, decide_eq_true_eq, if_true]
      by_cases hc : e ≤ v n
      · rw [if_pos hc, if_neg (by rw [q_lt (by omega) (by omega)]; omega)]
        exact nI_1 _
      · rw [if_neg hc, if_pos (by rw [q_lt (by omega) (by omega)]; omega)]
        exact (nI_add _ 0)
    · simp only [hi, Bool.false_and, Bool.false_eq_true, if_false]
abbrev g3q (σ : SG) (set : Nat) (v : Nat → Nat) (n : Nat) : Int32 := if anyq σ set n then nI (maxq σ set v n) else -1
abbrev g4q (σ : SG) (set : Nat) (v : Nat → Nat) (n : Nat) : Int32 := if anyq σ set n then nI (minq σ set v n) else -1
theorem m1_le {a : Nat} (ha : a < 2147483648) : ¬ nI a ≤ (-1 : Int32) := by
  rw [Int32.le_iff_toInt_le, nI_toInt ha, show (-1 : Int32).toInt = -1 from rfl]
  omega
section M8C
variable {ad : Nat → Nat} {S0 : PH} {al hz : Nat → Int32} {s1 s2 s3 s4 : Int32} {lw hg mt tb9 : Nat → Int32} {an ky : Nat → Int64} {rw9 : Nat → Int32} {lf : Int32} {σ : SG} {τ : TG}
theorem b_takes (h : inj8 ad) (v x : Int32) : f_X8_takes (mk8 ad S0 al hz s1 s2 s3 s4 lw hg mt tb9 an ky rw9 lf) (ad 0) v x = some (mk8 ad S0 al hz (s1 + v) (s2 + (if v < x then 0 else 1)) (if v ≤ s3 then s3 else v) (if s4 < 0 then v else if s4 ≤ v then s4 else v) lw hg mt tb9 an ky rw9 lf) := by
  unfold f_X8_takes
  simp only [g8_2 h, g8_3 h, p8_2 h, pI, Option.bind_some]
  by_cases h1 : v < x
  · simp only [if_pos h1, f_X8_takes_b25, pI, p8_3 h, Option.bind_some, g8_4 h]
    by_cases h2 : v ≤ s3
    · simp only [if_pos h2, f_X8_takes_b46, pI, p8_4 h, Option.bind_some, g8_5 h]
      by_cases h3 : s4 < 0
      · simp only [if_pos h3, f_X8_takes_b65, f_X8_takes_b73, pI, p8_5 h, Option.bind_some]
      · by_cases h4 : s4 ≤ v
        · simp only [if_neg h3, if_pos h4, f_X8_takes_b73, pI, p8_5 h, Option.bind_some]
        · simp only [if_neg h3, if_neg h4, f_X8_takes_b65, f_X8_takes_b73, pI, p8_5 h, Option.bind_some]
    · simp only [if_neg h2, f_X8_takes_b46, pI, p8_4 h, Option.bind_some, g8_5 h]
      by_cases h3 : s4 < 0
      · simp only [if_pos h3, f_X8_takes_b65, f_X8_takes_b73, pI, p8_5 h, Option.bind_some]
      · by_cases h4 : s4 ≤ v
        · simp only [if_neg h3, if_pos h4, f_X8_takes_b73, pI, p8_5 h, Option.bind_some]
        · simp only [if_neg h3, if_neg h4, f_X8_takes_b65, f_X8_takes_b73, pI, p8_5 h, Option.bind_some]
  · simp only [if_neg h1, f_X8_takes_b25, pI, p8_3 h, Option.bind_some, g8_4 h]
    by_cases h2 : v ≤ s3
    · simp only [if_pos h2, f_X8_takes_b46, pI, p8_4 h, Option.bind_some, g8_5 h]
      by_cases h3 : s4 < 0
      · simp only [if_pos h3, f_X8_takes_b65, f_X8_takes_b73, pI, p8_5 h, Option.bind_some]
      · by_cases h4 : s4 ≤ v
        · simp only [if_neg h3, if_pos h4, f_X8_takes_b73, pI, p8_5 h, Option.bind_some]
        · simp only [if_neg h3, if_neg h4, f_X8_takes_b65, f_X8_takes_b73, pI, p8_5 h, Option.bind_some]
    · simp only [if_neg h2, f_X8_takes_b46, pI, p8_4 h, Option.bind_some, g8_5 h]
      by_cases h3 : s4 < 0
      · simp only [if_pos h3, f_X8_takes_b65, f_X8_takes_b73, pI, p8_5 h, Option.bind_some]
      · by_cases h4 : s4 ≤ v
        · simp only [if_neg h3, if_pos h4, f_X8_takes_b73, pI, p8_5 h, Option.bind_some]
        · simp only [if_neg h3, if_neg h4, f_X8_takes_b65, f_X8_takes_b73, pI, p8_5 h, Option.bind_some]
theorem b_begins (h : inj8 ad) : f_X8_begins (mk8 ad S0 al hz s1 s2 s3 s4 lw hg mt tb9 an ky rw9 lf) (ad 0) = some (mk8 ad S0 al hz 0 0 (-1) (-1) lw hg mt tb9 an ky rw9 lf) := by
  unfold f_X8_begins
  simp only [pI, p8_2 h, p8_3 h, p8_4 h, p8_5 h, Option.bind_some]
theorem b_numbersOf (h : inj8 ad) (hw : WF σ τ) (hA : RA σ τ al 0) (x : Int32) : f_X8_numbersOf (mk8 ad S0 al hz s1 s2 s3 s4 lw hg mt tb9 an ky rw9 lf) (ad 0) x = some (nI (nbits σ (kn σ x) (gP σ))) := by
  have hP := hw.p8
  unfold f_X8_numbersOf
  have key : lpo (fun y : Int32 × Int32 => f_X8_numbersOf_L4 (mk8 ad S0 al hz s1 s2 s3 s4 lw hg mt tb9 an ky rw9 lf) (ad 0) x y.1 y.2) FU ((0 : Int32), (0 : Int32)) = some (nI (nbits σ (kn σ x) (gP σ))) := by
   refine lpo_det (fun p => (nI (nbits σ (kn σ x) p), nI p)) (gP σ) (by omega) rfl ?_ ?_
   · intro p hp
     have e := hA.c hp
     rw [Nat.zero_add] at e
     have hc := (hw.per hp).1
     have hN := hw.n10
     have hb : bt x p = (kn σ x).testBit p := by
       rw [bt_tn, Nat.testBit_mod_two_pow]
       simp [hp]
     simp (disch := first | omega | assumption) only [f_X8_numbersOf_L4, f_X8_numbersOf_b37, g8_0, b_P h hA, Option.bind_some, q_le]
     rw [if_neg (by omega)]
     show _ = some (Sum.inl (nI (if (kn σ x).testBit p then nbits σ (kn σ x) p ||| 2 ^ cur σ p else nbits σ (kn σ x) p), nI (p + 1)))
     by_cases hc2 : (kn σ x).testBit p = true
     · rw [if_pos (show x >>> (nI p &&& 31) &&& 1 = 1 by rw [sh1 x (by omega), hb]; exact hc2), if_pos hc2, show (10 : Int32) + nI p = nI (10 + p) from nI_add 10 p, r8_al h (by omega), e]
       simp only [Option.bind_some]
       rw [or_1 (by omega), nI_1]
     · rw [if_neg (show ¬ (x >>> (nI p &&& 31) &&& 1 = 1) by rw [sh1 x (by omega), hb]; exact hc2), if_neg hc2, nI_1]
   · simp (disch := first | omega | assumption) only [f_X8_numbersOf_L4, g8_0, b_P h hA, Option.bind_some, q_le]
     rw [if_pos (Nat.le_refl _)]
  rw [key]
  rfl
/-- the four marks behind the first n numbers -/
theorem ansv_step {set : Nat} {v : Nat → Nat} {n : Nat} (hv : ∀ k, k < n + 1 → v k ≤ 20) (hi : inq σ set n = true) :
    nI (sumq σ set v n) + nI (v n) = nI (sumq σ set v (n + 1)) ∧ (if nI (v n) ≤ g3q σ set v n then g3q σ set v n else nI (v n)) = g3q σ set v (n + 1) ∧ (if g4q σ set v n < 0 then nI (v n) else if g4q σ set v n ≤ nI (v n) then g4q σ set v n else nI (v n)) = g4q σ set v (n + 1) := by
  have hvn := hv n (by omega)
  refine ⟨?_, ?_, ?_⟩
  · rw [nI_add]
    show _ = nI (if inq σ set n then sumq σ set v n + v n else sumq σ set v n)
    rw [if_pos hi]
  · unfold g3q
    have ha : anyq σ set (n + 1) = true := by unfold anyq; rw [hi]; rfl
    rw [if_pos ha]
    conv => rhs; unfold maxq; rw [if_pos hi]
    by_cases h1 : anyq σ set n = true
    · have h2 := (any_min (v := v) n (fun k hk => hv k (by omega)) h1).2
      rw [if_pos h1]
      by_cases h3 : v n ≤ maxq σ set v n
      · rw [if_pos (nI_le h3 (by omega)), Nat.max_eq_left h3]
      · rw [if_neg (nI_ge (by omega) (by omega)), Nat.max_eq_right (by omega)]
    · have h2 := (any_max (v := v) n (by simpa using h1)).1
      rw [if_neg h1, if_neg (m1_le (by omega)), h2, Nat.max_eq_right (by omega)]
  · unfold g4q
    have ha : anyq σ set (n + 1) = true := by unfold anyq; rw [hi]; rfl
    rw [if_pos ha]
    conv => rhs; unfold minq; rw [if_pos hi]
    by_cases h1 : anyq σ set n = true
    · have h2 := (any_min (v := v) n (fun k hk => hv k (by omega)) h1).1
      rw [if_pos h1, if_neg (nI_pos (by omega))]
      by_cases h3 : minq σ set v n ≤ v n
      · rw [if_pos (nI_le h3 (by omega)), Nat.min_eq_left h3]
      · rw [if_neg (nI_ge (by omega) (by omega)), Nat.min_eq_right (by omega)]
    · have h2 := (any_max (v := v) n (by simpa using h1)).2
      rw [if_neg h1, if_pos (by decide), h2, Nat.min_eq_right (by omega)]
theorem ansv_skip {set : Nat} {x : Int32} {v : Nat → Nat} {n : Nat} (hi : ¬ inq σ set n = true) : sumq σ set v (n + 1) = sumq σ set v n ∧ c2q σ set x v (n + 1) = c2q σ set x v n ∧ g3q σ set v (n + 1) = g3q σ set v n ∧ g4q σ set v (n + 1) = g4q σ set v n := by
  have ha : anyq σ set (n + 1) = anyq σ set n := by
    conv => lhs; unfold anyq
    simp [hi]
  refine ⟨?_, ?_, ?_, ?_⟩
  · conv => lhs; unfold sumq
    rw [if_neg hi]
  · conv => lhs; unfold c2q
    rw [if_neg hi]
  · unfold g3q
    rw [ha]
    conv => lhs; unfold maxq; rw [if_neg hi]
  · unfold g4q
    rw [ha]
    conv => lhs; unfold minq; rw [if_neg hi]
end M8C
