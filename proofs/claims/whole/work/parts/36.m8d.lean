/-! ===== the reference: answerIn, hiddenAnswer ===== -/
section M8D
variable {ad : Nat → Nat} {S0 : PH} {al hz : Nat → Int32} {s1 s2 s3 s4 : Int32} {lw hg mt tb9 : Nat → Int32} {an ky : Nat → Int64} {rw9 : Nat → Int32} {lf : Int32} {σ : SG} {τ : TG}
theorem fin_n {x : Nat} (h : x ≤ 20) : fin x = x := by unfold fin; rw [if_neg (by omega)]
/-- the answer out of the four marks -/
theorem b_answer (h : inj8 ad) {k set : Nat} {x : Int32} {v : Nat → Nat} (hk : okq k x) (hN : gN σ ≤ 10) (hv : ∀ n, n < gN σ → v n ≤ 20) (hs : sumq σ set v (gN σ) ≤ 60) :
    f_X8_answer (mk8 ad S0 al hz (nI (sumq σ set v (gN σ))) (c2q σ set x v (gN σ)) (g3q σ set v (gN σ)) (g4q σ set v (gN σ)) lw hg mt tb9 an ky rw9 lf) (ad 0) (nI k) x = some (nI (ansv σ k x.toNatClampNeg set v)) := by
  obtain ⟨hk4, hk0, hk1⟩ := hk
  unfold f_X8_answer ansv
  by_cases k0 : k = 0
  · subst k0
    obtain ⟨e, e1, e2, rfl⟩ := hk0 rfl
    rw [if_pos (show nI 0 = 0 from rfl), if_pos rfl]
    simp only [g8_2 h, Option.bind_some]
    have d1 : dvI (nI (sumq σ set v (gN σ))) (nI e) = some (nI (sumq σ set v (gN σ) / e)) := by
      unfold dvI
      rw [if_neg (nI_ne0 (by omega) (by omega)), pk_div (by omega) (by omega) (by omega)]
    rw [d1, nI_clamp (by omega)]
    simp only [Option.bind_some, pk_mul]
  · have n0 : ¬ nI k = 0 := fun q => k0 ((nI_eq (a := k) (b := 0) (by omega) (by omega)).mp q)
    rw [if_neg n0, if_neg k0]
    by_cases k1 : k = 1
    · subst k1
      obtain ⟨e, e2, rfl⟩ := hk1 rfl
      rw [if_pos (show nI 1 = 1 from rfl), if_pos rfl]
      simp only [g8_3 h, Option.bind_some]
      rw [nI_clamp (by omega), c2q_n e2 _ hv]
    · have n1 : ¬ nI k = 1 := fun q => k1 ((nI_eq (a := k) (b := 1) (by omega) (by omega)).mp q)
      rw [if_neg n1, if_neg k1]
      by_cases k2 : k = 2
      · subst k2
        rw [if_pos (show nI 2 = 2 from rfl), if_pos rfl]
        simp only [g8_4 h, Option.bind_some]
        unfold g3q
        by_cases ha : anyq σ set (gN σ) = true
        · have h2 := (any_min (v := v) _ hv ha).2
          rw [if_pos ha, if_pos (nI_pos' (by omega))]
        · have h2 := (any_max (v := v) _ (by simpa using ha)).1
          rw [if_neg ha, if_neg (by decide), h2]
          rfl
      · have n2 : ¬ nI k = 2 := fun q => k2 ((nI_eq (a := k) (b := 2) (by omega) (by omega)).mp q)
        rw [if_neg n2, if_neg k2]
        simp only [g8_5 h, Option.bind_some]
        unfold g4q
        by_cases ha : anyq σ set (gN σ) = true
        · have h2 := (any_min (v := v) _ hv ha).1
          rw [if_pos ha, if_pos (nI_pos' (by omega)), fin_n h2]
        · have h2 := (any_max (v := v) _ (by simpa using ha)).2
          rw [if_neg ha, if_neg (by decide), h2]
          rfl
theorem sumq_le {set : Nat} {v : Nat → Nat} (hv : ∀ n, n < gN σ → v n ≤ hi σ n) : ∀ n, n ≤ gN σ → sumq σ set v n ≤ sm (hi σ) n
  | 0, _ => Nat.le_refl 0
  | n + 1, hn => by
    have ih := sumq_le (set := set) hv n (by omega)
    have h1 := hv n (by omega)
    unfold sumq sm
    split <;> omega
theorem b_answerIn (h : inj8 ad) (hw : WF σ τ) (hA : RA σ τ al 0) {t k set : Nat} {x : Int32} (ht : t < 4096) (hk : okq k x) : ∃ s1' s2' s3' s4', f_X8_answerIn (mk8 ad S0 al hz s1 s2 s3 s4 lw hg mt tb9 an ky rw9 lf) (ad 0) (nI t) (nI k) (nI (nbits σ set (gP σ))) x = some (nI (ansv σ k x.toNatClampNeg set (valt σ t)), mk8 ad S0 al hz s1' s2' s3' s4' lw hg mt tb9 an ky rw9 lf) := by
  have hN := hw.n10
  have hv : ∀ n, n < gN σ → valt σ t n ≤ 20 := fun n hn => Nat.le_trans (valt_le hw hn t).1 (hw.num hn).2.2.2.1
  have hs : sumq σ set (valt σ t) (gN σ) ≤ 60 := Nat.le_trans (sumq_le (fun n hn => (valt_le hw hn t).1) _ (Nat.le_refl _)) hw.s60
  refine ⟨nI (sumq σ set (valt σ t) (gN σ)), c2q σ set x (valt σ t) (gN σ), g3q σ set (valt σ t) (gN σ), g4q σ set (valt σ t) (gN σ), ?_⟩
  unfold f_X8_answerIn
  simp only [ck8 h, Option.bind_some, b_begins h]
  have key : lpo (fun y : Int32 × PH => f_X8_answerIn_L7 y.2 (ad 0) (nI t) (nI (nbits σ set (gP σ))) x y.1) FU ((0 : Int32), mk8 ad S0 al hz 0 0 (-1) (-1) lw hg mt tb9 an ky rw9 lf) = some (mk8 ad S0 al hz (nI (sumq σ set (valt σ t) (gN σ))) (c2q σ set x (valt σ t) (gN σ)) (g3q σ set (valt σ t) (gN σ)) (g4q σ set (valt σ t) (gN σ)) lw hg mt tb9 an ky rw9 lf) := by
    refine lpo_det (fun n => (nI n, mk8 ad S0 al hz (nI (sumq σ set (valt σ t) n)) (c2q σ set x (valt σ t) n) (g3q σ set (valt σ t) n) (g4q σ set (valt σ t) n) lw hg mt tb9 an ky rw9 lf)) (gN σ) (by omega) rfl ?_ ?_
    · intro n hn
      have hb : bt (nI (nbits σ set (gP σ))) n = inq σ set n := by rw [bt_n (by omega), nbits_in hw hn]
      simp (disch := first | omega | assumption) only [f_X8_answerIn_L7, f_X8_answerIn_b41, g8_0, b_N h hA, Option.bind_some, q_le]
      rw [if_neg (by omega)]
      by_cases hi : inq σ set n = true
      · rw [if_pos (show (nI (nbits σ set (gP σ)) >>> (nI n &&& 31)) &&& 1 = 1 by rw [sh1 _ (by omega), hb]; exact hi)]
        simp only [ck8 h, Option.bind_some, b_valueIn h hw hA hn ht, b_takes h, nI_1]
        obtain ⟨e1, e3, e4⟩ := ansv_step (σ := σ) (set := set) (v := valt σ t) (n := n) (fun k hk => hv k (by omega)) hi
        rw [e1, e3, e4]
        have e2 : c2q σ set x (valt σ t) n + (if nI (valt σ t n) < x then 0 else 1) = c2q σ set x (valt σ t) (n + 1) := by
          conv => rhs; unfold c2q
          rw [if_pos hi]
        rw [e2]
      · rw [if_neg (show ¬ ((nI (nbits σ set (gP σ)) >>> (nI n &&& 31)) &&& 1 = 1) by rw [sh1 _ (by omega), hb]; exact hi)]
        obtain ⟨e1, e2, e3, e4⟩ := ansv_skip (σ := σ) (set := set) (x := x) (v := valt σ t) (n := n) hi
        rw [e1, e2, e3, e4, nI_1]
    · simp (disch := first | omega | assumption) only [f_X8_answerIn_L7, g8_0, b_N h hA, Option.bind_some, q_le]
      rw [if_pos (Nat.le_refl _)]
  rw [key]
  simp only [ck8 h, Option.bind_some, b_answer h hk hN hv hs]
theorem b_hiddenAnswer (h : inj8 ad) (hw : WF σ τ) (hA : RA σ τ al 0) {k set : Nat} {x : Int32} (hk : okq k x) : ∃ s1' s2' s3' s4', f_X8_hiddenAnswer (mk8 ad S0 al hz s1 s2 s3 s4 lw hg mt tb9 an ky rw9 lf) (ad 0) (nI k) (nI (nbits σ set (gP σ))) x = some (nI (ansv σ k x.toNatClampNeg set (vl σ)), mk8 ad S0 al hz s1' s2' s3' s4' lw hg mt tb9 an ky rw9 lf) := by
  have hN := hw.n10
  have hv : ∀ n, n < gN σ → vl σ n ≤ 20 := fun n hn => Nat.le_trans (hw.num hn).2.2.1 (hw.num hn).2.2.2.1
  have hs : sumq σ set (vl σ) (gN σ) ≤ 60 := Nat.le_trans (sumq_le (fun n hn => (hw.num hn).2.2.1) _ (Nat.le_refl _)) hw.s60
  refine ⟨nI (sumq σ set (vl σ) (gN σ)), c2q σ set x (vl σ) (gN σ), g3q σ set (vl σ) (gN σ), g4q σ set (vl σ) (gN σ), ?_⟩
  unfold f_X8_hiddenAnswer
  simp only [ck8 h, Option.bind_some, b_begins h]
  have key : lpo (fun y : Int32 × PH => f_X8_hiddenAnswer_L7 y.2 (ad 0) (nI (nbits σ set (gP σ))) x y.1) FU ((0 : Int32), mk8 ad S0 al hz 0 0 (-1) (-1) lw hg mt tb9 an ky rw9 lf) = some (mk8 ad S0 al hz (nI (sumq σ set (vl σ) (gN σ))) (c2q σ set x (vl σ) (gN σ)) (g3q σ set (vl σ) (gN σ)) (g4q σ set (vl σ) (gN σ)) lw hg mt tb9 an ky rw9 lf) := by
    refine lpo_det (fun n => (nI n, mk8 ad S0 al hz (nI (sumq σ set (vl σ) n)) (c2q σ set x (vl σ) n) (g3q σ set (vl σ) n) (g4q σ set (vl σ) n) lw hg mt tb9 an ky rw9 lf)) (gN σ) (by omega) rfl ?_ ?_
    · intro n hn
      have hb : bt (nI (nbits σ set (gP σ))) n = inq σ set n := by rw [bt_n (by omega), nbits_in hw hn]
      obtain ⟨-, -, -, -, e4', -⟩ := hA.n hn
      rw [Nat.zero_add] at e4'
      simp (disch := first | omega | assumption) only [f_X8_hiddenAnswer_L7, f_X8_hiddenAnswer_b40, g8_0, b_N h hA, Option.bind_some, q_le]
      rw [if_neg (by omega)]
      by_cases hi : inq σ set n = true
      · rw [if_pos (show (nI (nbits σ set (gP σ)) >>> (nI n &&& 31)) &&& 1 = 1 by rw [sh1 _ (by omega), hb]; exact hi)]
        rw [show (4 : Int32) = nI 4 from rfl]
        simp (disch := first | omega | assumption) only [ck8, Option.bind_some, b_of, e4', b_takes h, nI_1]
        obtain ⟨e1, e3, e4⟩ := ansv_step (σ := σ) (set := set) (v := vl σ) (n := n) (fun k hk => hv k (by omega)) hi
        rw [e1, e3, e4]
        have e2 : c2q σ set x (vl σ) n + (if nI (vl σ n) < x then 0 else 1) = c2q σ set x (vl σ) (n + 1) := by
          conv => rhs; unfold c2q
          rw [if_pos hi]
        rw [e2]
      · rw [if_neg (show ¬ ((nI (nbits σ set (gP σ)) >>> (nI n &&& 31)) &&& 1 = 1) by rw [sh1 _ (by omega), hb]; exact hi)]
        obtain ⟨e1, e2, e3, e4⟩ := ansv_skip (σ := σ) (set := set) (x := x) (v := vl σ) (n := n) hi
        rw [e1, e2, e3, e4, nI_1]
    · simp (disch := first | omega | assumption) only [f_X8_hiddenAnswer_L7, g8_0, b_N h hA, Option.bind_some, q_le]
      rw [if_pos (Nat.le_refl _)]
  rw [key]
  simp only [ck8 h, Option.bind_some, b_answer h hk hN hv hs]
end M8D
