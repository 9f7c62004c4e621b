/-! ===== answers of all tables ===== -/
theorem pa_v {σ : SG} {k e set : Nat} {v w : Nat → Nat} : ∀ n, (∀ m, m < n → v m = w m) → pa σ k e set v n = pa σ k e set w n := by
  intro n h
  have h1 : ∀ n, (∀ m, m < n → v m = w m) → sumq σ set v n = sumq σ set w n ∧ cntq σ set e v n = cntq σ set e w n ∧ maxq σ set v n = maxq σ set w n ∧ minq σ set v n = minq σ set w n := by
    intro n
    induction n with
    | zero => intro _; exact ⟨rfl, rfl, rfl, rfl⟩
    | succ n ih =>
      intro h
      obtain ⟨a, b, c, d⟩ := ih (fun m hm => h m (by omega))
      have e := h n (by omega)
      refine ⟨?_, ?_, ?_, ?_⟩
      · show (if inq σ set n = true then sumq σ set v n + v n else sumq σ set v n) = (if inq σ set n = true then sumq σ set w n + w n else sumq σ set w n)
        rw [a, e]
      · unfold cntq
        rw [b, e]
      · show (if inq σ set n = true then max (maxq σ set v n) (v n) else maxq σ set v n) = (if inq σ set n = true then max (maxq σ set w n) (w n) else maxq σ set w n)
        rw [c, e]
      · show (if inq σ set n = true then min (minq σ set v n) (v n) else minq σ set v n) = (if inq σ set n = true then min (minq σ set w n) (w n) else minq σ set w n)
        rw [d, e]
  obtain ⟨a, b, c, d⟩ := h1 n h
  unfold pa
  rw [a, b, c, d]
theorem pa_skip {σ : SG} {k e set : Nat} {v : Nat → Nat} {n : Nat} (h : ¬ inq σ set n = true) : pa σ k e set v (n + 1) = pa σ k e set v n := by
  have h0 : inq σ set n = false := ts_nt h
  have h1 : sumq σ set v (n + 1) = sumq σ set v n := if_neg h
  have h2 : cntq σ set e v (n + 1) = cntq σ set e v n := by
    show (if (inq σ set n && decide (e ≤ v n)) = true then _ else _) = _
    rw [h0, Bool.false_and, if_neg (by decide)]
  have h3 : maxq σ set v (n + 1) = maxq σ set v n := if_neg h
  have h4 : minq σ set v (n + 1) = minq σ set v n := if_neg h
  unfold pa
  rw [h1, h2, h3, h4]
theorem maxq_le {σ : SG} {set : Nat} {v : Nat → Nat} : ∀ n, (∀ m, m < n → v m ≤ 20) → maxq σ set v n ≤ 20
  | 0, _ => Nat.zero_le _
  | n + 1, h => by
    have ih := maxq_le (σ := σ) (set := set) (v := v) n (fun m hm => h m (by omega))
    have e := h n (by omega)
    show (if inq σ set n = true then max (maxq σ set v n) (v n) else maxq σ set v n) ≤ 20
    split <;> omega
theorem minq_le {σ : SG} {set : Nat} {v : Nat → Nat} : ∀ n, minq σ set v n ≤ 21
  | 0 => Nat.le_refl _
  | n + 1 => by
    have ih := minq_le (σ := σ) (set := set) (v := v) n
    show (if inq σ set n = true then min (minq σ set v n) (v n) else minq σ set v n) ≤ 21
    split <;> omega
theorem sumq_20 {σ : SG} {set : Nat} {v : Nat → Nat} : ∀ n, (∀ m, m < n → v m ≤ 20) → sumq σ set v n ≤ 20 * n
  | 0, _ => Nat.zero_le _
  | n + 1, h => by
    have ih := sumq_20 (σ := σ) (set := set) (v := v) n (fun m hm => h m (by omega))
    have e := h n (by omega)
    show (if inq σ set n = true then sumq σ set v n + v n else sumq σ set v n) ≤ 20 * (n + 1)
    split <;> omega
theorem pa_step {σ : SG} {k set : Nat} {x : Int32} {v : Nat → Nat} {n : Nat} (hk : okq k x) (hn : n < 10) (hv : ∀ m, m < n + 1 → v m ≤ 20) (h : inq σ set n = true) : wv (nI (pa σ k x.toNatClampNeg set v n)) (nI (v n)) (nI k) x = nI (pa σ k x.toNatClampNeg set v (n + 1)) := by
  have hvn := hv n (by omega)
  have hv' : ∀ m, m < n → v m ≤ 20 := fun m hm => hv m (by omega)
  have h1 : sumq σ set v (n + 1) = sumq σ set v n + v n := if_pos h
  have h3 : maxq σ set v (n + 1) = max (maxq σ set v n) (v n) := if_pos h
  have h4 : minq σ set v (n + 1) = min (minq σ set v n) (v n) := if_pos h
  have b1 := sumq_20 (σ := σ) (set := set) n hv'
  have b2 := cnt_le (σ := σ) (set := set) (e := x.toNatClampNeg) (v := v) n
  have b3 := maxq_le (σ := σ) (set := set) n hv'
  have b4 := minq_le (σ := σ) (set := set) (v := v) n
  have hk4 := hk.1
  have c0 : (nI k = 0) = (k = 0) := q_eq (b := 0) (by omega) (by omega)
  have c1 : (nI k = 1) = (k = 1) := q_eq (b := 1) (by omega) (by omega)
  have c2 : (nI k = 2) = (k = 2) := q_eq (b := 2) (by omega) (by omega)
  unfold wv pa
  simp only [c0, c1, c2]
  by_cases k0 : k = 0
  · rw [if_pos k0, if_pos k0, if_pos k0, nI_add, h1]
  · rw [if_neg k0, if_neg k0, if_neg k0]
    by_cases k1 : k = 1
    · rw [if_pos k1, if_pos k1, if_pos k1]
      obtain ⟨e, he, rfl⟩ := hk.2.2 k1
      rw [nI_clamp (by omega)]
      show (if nI (v n) < nI e then _ else _) = nI (if (inq σ set n && decide (e ≤ v n)) = true then _ else _)
      rw [h, Bool.true_and]
      by_cases c : v n < e
      · rw [if_pos (nI_lt c (by omega)), if_neg (by rw [decide_eq_true_iff]; omega)]
      · rw [if_neg (nI_nlt (by omega) (by omega)), if_pos (by rw [decide_eq_true_iff]; omega), nI_1]
    · rw [if_neg k1, if_neg k1, if_neg k1]
      by_cases k2 : k = 2
      · rw [if_pos k2, if_pos k2, if_pos k2, h3]
        by_cases c : maxq σ set v n < v n
        · rw [if_pos (nI_lt c (by omega)), Nat.max_eq_right (by omega)]
        · rw [if_neg (nI_nlt (by omega) (by omega)), Nat.max_eq_left (by omega)]
      · rw [if_neg k2, if_neg k2, if_neg k2]
        have hs : ¬ set = 0 := fun q => by
          subst q
          unfold inq at h
          rw [Nat.zero_testBit, Bool.and_false] at h
          cases h
        rw [if_neg hs, if_neg hs, h4]
        by_cases c : v n < minq σ set v n
        · rw [if_pos (nI_lt c (by omega)), Nat.min_eq_right (by omega)]
        · rw [if_neg (nI_nlt (by omega) (by omega)), Nat.min_eq_left (by omega)]
theorem pa_60 {σ : SG} {τ : TG} (hw : WF σ τ) {set : Nat} {t : Nat} : sumq σ set (valt σ t) (gN σ) ≤ 60 := Nat.le_trans (sumq_le (fun n hn => (valt_le hw hn t).1) (gN σ) (Nat.le_refl _)) hw.s60
/-- the last answers are those of the document -/
theorem pa_ans {σ : SG} {τ : TG} (hw : WF σ τ) {k set t : Nat} {x : Int32} (hk : okq k x) (hs : set < 2 ^ gP σ) (h0 : k ≠ 0) : pa σ k x.toNatClampNeg set (valt σ t) (gN σ) = ansv σ k x.toNatClampNeg set (valt σ t) := by
  unfold pa ansv
  rw [if_neg h0, if_neg h0]
  by_cases k1 : k = 1
  · rw [if_pos k1, if_pos k1]
  · rw [if_neg k1, if_neg k1]
    by_cases k2 : k = 2
    · rw [if_pos k2, if_pos k2]
    · rw [if_neg k2, if_neg k2]
      have hv : ∀ m, m < gN σ → valt σ t m ≤ 20 := fun m hm => Nat.le_trans (valt_le hw hm t).1 (hw.num hm).2.2.2.1
      by_cases e : set = 0
      · rw [if_pos e]
        subst e
        have : anyq σ 0 (gN σ) = false := by
          have : ∀ n, anyq σ 0 n = false := by
            intro n
            induction n with
            | zero => rfl
            | succ n ih =>
              have hi0 : inq σ 0 n = false := by unfold inq; rw [Nat.zero_testBit, Bool.and_false]
              unfold anyq
              rw [ih, hi0]
              rfl
          exact this _
        rw [(any_max (v := valt σ t) _ this).2]
        rfl
      · rw [if_neg e]
        have hany : anyq σ set (gN σ) = true := by
          have hex : ∃ p, p < gP σ ∧ set.testBit p = true := by
            refine Classical.byContradiction (fun q => e ?_)
            apply Nat.eq_of_testBit_eq
            intro i
            rw [Nat.zero_testBit]
            by_cases hi : i < gP σ
            · exact ts_nt (fun c => q ⟨i, hi, c⟩)
            · exact Nat.testBit_lt_two_pow (Nat.lt_of_lt_of_le hs (Nat.pow_le_pow_right (by omega) (by omega)))
          obtain ⟨p, hp, hb⟩ := hex
          obtain ⟨c1, c2⟩ := hw.per hp
          have hin : inq σ set (cur σ p) = true := by
            unfold inq
            rw [c2, hb]
            simp
          have : ∀ n, cur σ p < n → anyq σ set n = true := by
            intro n
            induction n with
            | zero => intro h; omega
            | succ n ih =>
              intro h
              unfold anyq
              by_cases e2 : cur σ p = n
              · rw [← e2, hin]; simp
              · rw [ih (by omega)]; simp
          exact this _ c1
        rw [fin_n (any_min (v := valt σ t) (gN σ) hv hany).1]
section JUDGE
variable {ca : Nat → Nat} {S0 : PH} {C : Nat → PE} {b : Nat} {σ : SG} {τ : TG}
theorem valt_mod {t k n : Nat} (h : k < n) : valt σ (t % stp σ n) k = valt σ t k := by rw [valt_dg, valt_dg, dg_mod h]
theorem d_ans27 (hj : injC ca) (hb : b + 27 ≤ 120) (hb2 : 12 ≤ b) (hw : WF σ τ) (h : NC ca σ C b) (h3 : C 3 = eO 3 [.ref (ca 4), .ref (ca 5), .ref (ca 6)]) {k set : Nat} {x : Int32} (hk : okq k x) (f0 : Nat → Int32) (hf0 : f0 0 = nI (pa σ k x.toNatClampNeg set (valt σ 0) 0)) : ∃ f, lpo (fun y : Int32 × Int32 × PH => f_X3_answerTables_L27 y.2.2 (ca 3) (ca (b + 1)) (nI k) (nI set) x y.1 y.2.1) FU ((1 : Int32), (0 : Int32), pt ca S0 (va_up C 5 (eI 4096 f0))) = some (nI (gT σ), pt ca S0 (va_up C 5 (eI 4096 f))) ∧ ∀ t, t < gT σ → f t = nI (pa σ k x.toNatClampNeg set (valt σ t) (gN σ)) := by
  have h10 := hw.n10
  have key := lpo_run (b := fun y : Int32 × Int32 × PH => f_X3_answerTables_L27 y.2.2 (ca 3) (ca (b + 1)) (nI k) (nI set) x y.1 y.2.1)
    (fun n y => ∃ f, y = (nI (stp σ n), nI n, pt ca S0 (va_up C 5 (eI 4096 f))) ∧ ∀ t, t < stp σ n → f t = nI (pa σ k x.toNatClampNeg set (valt σ t) n))
    (fun S => ∃ f, S = (nI (gT σ), pt ca S0 (va_up C 5 (eI 4096 f))) ∧ ∀ t, t < gT σ → f t = nI (pa σ k x.toNatClampNeg set (valt σ t) (gN σ))) (gN σ) (by omega) (x := ((1 : Int32), (0 : Int32), pt ca S0 (va_up C 5 (eI 4096 f0))))
    ⟨_, rfl, fun t ht => by
      have h0 : stp σ 0 = 1 := rfl
      have : t = 0 := by omega
      subst this
      exact hf0⟩ (by
      rintro n y hn ⟨f, rfl, hf⟩
      have hN := NC_u4 h hb2 5 (by omega) (eI 4096 f)
      show (∃ x', f_X3_answerTables_L27 (pt ca S0 (va_up C 5 (eI 4096 f))) (ca 3) (ca (b + 1)) (nI k) (nI set) x (nI (stp σ n)) (nI n) = _ ∧ _) ∨ _
      left
      unfold f_X3_answerTables_L27
      simp only [n_g8 hj hb hN, n_ck hj hb hN, d_valueCount hj hb hw hN hn, d_isAskedOf hj hb hw hN hn, Option.bind_some, Option.bind_none, bd2, bd3, bd4, nm]
      rw [if_neg (by rw [q_le (by omega) (by omega)]; omega), d_ans59 hj hb hb2 hw h h3 hn]
      simp only [Option.bind_some, Option.bind_none, bd2, bd3, bd4, nm]
      rw [pk_mul, nI_1]
      refine ⟨_, rfl, _, rfl, fun t ht => ?_⟩
      have ht2 : t < many σ n * stp σ n := by rw [Nat.mul_comm]; exact ht
      rw [fm_in ht2, hf _ (Nat.mod_lt _ (stp_pos σ n)), pa_v (w := valt σ t) n (fun m hm => valt_mod hm)]
      obtain ⟨d1, d2⟩ := dg_top (σ := σ) (show t < stp σ (n + 1) from ht)
      by_cases c : inq σ set n = true
      · rw [if_pos c]
        show (if (1 : Int32) = 0 then _ else wv _ (nI (lo σ n + t / stp σ n)) (nI k) x) = _
        rw [if_neg (by decide), ← d2, ← valt_dg]
        exact pa_step hk (by omega) (fun m hm => Nat.le_trans (valt_le hw (by omega) t).1 (hw.num (by omega)).2.2.2.1) c
      · rw [if_neg c]
        show (if (0 : Int32) = 0 then _ else _) = _
        rw [if_pos rfl, pa_skip c]) (by
      rintro y ⟨f, rfl, hf⟩
      have hN := NC_u4 h hb2 5 (by omega) (eI 4096 f)
      refine ⟨_, ?_, f, rfl, hf⟩
      show f_X3_answerTables_L27 (pt ca S0 (va_up C 5 (eI 4096 f))) (ca 3) (ca (b + 1)) (nI k) (nI set) x (nI (stp σ (gN σ))) (nI (gN σ)) = _
      unfold f_X3_answerTables_L27
      simp only [n_g8 hj hb hN, Option.bind_some, Option.bind_none, bd2, bd3, bd4, nm]
      rw [if_pos (by rw [q_le (by omega) (by omega)]; omega)])
  obtain ⟨S', e1, f, rfl, hf⟩ := key
  exact ⟨f, e1, hf⟩
theorem d_cut (hj : injC ca) (h3 : C 3 = eO 3 [.ref (ca 4), .ref (ca 5), .ref (ca 6)]) {f : Nat → Int32} {a : Nat → Nat} {T e : Nat} (hT : T ≤ 4096) (he : 1 ≤ e) (he2 : e ≤ 20) (hf : ∀ t, t < T → f t = nI (a t)) (ha : ∀ t, t < T → a t < 1000) : ∃ f', f_X3_cutAnswers (pt ca S0 (va_up C 5 (eI 4096 f))) (ca 3) (nI T) (nI e) = some (pt ca S0 (va_up C 5 (eI 4096 f'))) ∧ ∀ t, t < T → f' t = nI (a t / e * e) := by
  unfold f_X3_cutAnswers
  rw [if_pos (show (1 : Int32) ≤ nI e from nI_le he (by omega))]
  have key := lpo_run (b := fun y : Int32 × PH => f_X3_cutAnswers_L8 y.2 (ca 3) (nI T) (nI e) y.1)
    (fun n y => ∃ g, y = (nI n, pt ca S0 (va_up C 5 (eI 4096 g))) ∧ (∀ t, t < n → g t = nI (a t / e * e)) ∧ ∀ t, n ≤ t → g t = f t)
    (fun S => ∃ g, S = pt ca S0 (va_up C 5 (eI 4096 g)) ∧ ∀ t, t < T → g t = nI (a t / e * e)) T (by omega) (x := ((0 : Int32), pt ca S0 (va_up C 5 (eI 4096 f))))
    ⟨f, rfl, fun t ht => absurd ht (Nat.not_lt_zero t), fun _ _ => rfl⟩ (by
      rintro n y hn ⟨g, rfl, hg1, hg2⟩
      have g3 : va_up C 5 (eI 4096 g) 3 = eO 3 [.ref (ca 4), .ref (ca 5), .ref (ca 6)] := (va_up_ne _ _ (by decide)).trans h3
      have g5 : va_up C 5 (eI 4096 g) 5 = eI 4096 g := va_up_self _ _ _
      have han := ha n hn
      left
      show ∃ x', f_X3_cutAnswers_L8 (pt ca S0 (va_up C 5 (eI 4096 g))) (ca 3) (nI T) (nI e) (nI n) = _ ∧ _
      unfold f_X3_cutAnswers_L8
      rw [if_neg (by rw [q_le (by omega) (by omega)]; omega)]
      have hrm : rmI (g n) (nI e) = some (nI (a n % e)) := by
        rw [hg2 n (Nat.le_refl n), hf n hn]
        unfold rmI
        rw [if_neg (nI_ne0 (by omega) (by omega)), pk_rem (by omega) (by omega) (by omega)]
      simp only [pt_gR hj g3 (by omega : 3 < 120) (k := 1) rfl, pt_ldI hj g5 (by omega : 5 < 120) (show n < 4096 by omega) (by omega), hrm, pt_stI hj g5 (by omega : 5 < 120) (show n < 4096 by omega) (by omega), va_up_up, nI_1, Option.bind_some, Option.bind_none, bd2, bd3, bd4, nm]
      refine ⟨_, rfl, _, rfl, fun t ht => ?_, fun t ht => ?_⟩
      · by_cases q : t = n
        · subst q
          rw [pk_us, hg2 t (Nat.le_refl t), hf t hn, q_sub (Nat.mod_le _ _)]
          congr 1
          have := Nat.div_add_mod (a t) e
          rw [Nat.mul_comm] at this
          omega
        · rw [pk_un q]
          exact hg1 t (by omega)
      · rw [pk_un (by omega)]
        exact hg2 t (by omega)) (by
      rintro y ⟨g, rfl, hg1, hg2⟩
      refine ⟨_, ?_, g, rfl, hg1⟩
      show f_X3_cutAnswers_L8 (pt ca S0 (va_up C 5 (eI 4096 g))) (ca 3) (nI T) (nI e) (nI T) = _
      unfold f_X3_cutAnswers_L8
      rw [if_pos (by rw [q_le (by omega) (by omega)]; omega)])
  obtain ⟨S', e1, g, rfl, hg⟩ := key
  rw [e1]
  exact ⟨g, rfl, hg⟩
theorem d_answerTables (hj : injC ca) (hb : b + 27 ≤ 120) (hb2 : 12 ≤ b) (hw : WF σ τ) (h : NC ca σ C b) (h3 : C 3 = eO 3 [.ref (ca 4), .ref (ca 5), .ref (ca 6)]) {f0 : Nat → Int32} (h5 : C 5 = eI 4096 f0) {k set : Nat} {x : Int32} (hk : okq k x) (hs : set < 2 ^ gP σ) : ∃ f, f_X3_answerTables (pt ca S0 C) (ca 3) (ca (b + 1)) (nI k) (nI set) x = some (pt ca S0 (va_up C 5 (eI 4096 f))) ∧ ∀ t, t < gT σ → f t = nI (ansv σ k x.toNatClampNeg set (valt σ t)) := by
  have hT := hw.tle
  have hP := hw.p8
  have hs8 : set < 256 := Nat.lt_of_lt_of_le hs (Nat.pow_le_pow_right (n := 2) (by omega) (show gP σ ≤ 8 from hP))
  have hk4 := hk.1
  have c0 : (nI k = 0) = (k = 0) := q_eq (b := 0) (by omega) (by omega)
  have c3 : (nI k = 3) = (k = 3) := q_eq (b := 3) (by omega) (by omega)
  have cs : (nI set = 0) = (set = 0) := q_eq (b := 0) (by omega) (by omega)
  have main : ∀ y0 : Int32, y0 = nI (pa σ k x.toNatClampNeg set (valt σ 0) 0) → ∃ f, f_X3_answerTables_b20 (pt ca S0 C) (ca 3) (ca (b + 1)) (nI k) (nI set) x (ca 5) (0 : Int32) y0 = some (pt ca S0 (va_up C 5 (eI 4096 f))) ∧ ∀ t, t < gT σ → f t = nI (ansv σ k x.toNatClampNeg set (valt σ t)) := by
    intro y0 hy0
    unfold f_X3_answerTables_b20
    rw [show stI (pt ca S0 C) (ca 5) (0 : Int32) y0 = some (pt ca S0 (va_up C 5 (eI 4096 (upd f0 0 y0)))) from pt_stI hj (j := 0) h5 (by omega) (by omega) (by omega) y0]
    obtain ⟨f, e1, hf⟩ := d_ans27 (S0 := S0) hj hb hb2 hw h h3 hk (set := set) (upd f0 0 y0) (by rw [pk_us]; exact hy0)
    simp only [Option.bind_some, Option.bind_none, bd2, bd3, bd4, nm]
    rw [e1]
    simp only [c0, Option.bind_some, Option.bind_none, bd2, bd3, bd4, nm]
    by_cases k0 : k = 0
    · rw [if_pos k0]
      obtain ⟨e, he1, he2, rfl⟩ := hk.2.1 k0
      have hcl : (nI e).toNatClampNeg = e := nI_clamp (by omega)
      have hpa : ∀ t, pa σ k (nI e).toNatClampNeg set (valt σ t) (gN σ) = sumq σ set (valt σ t) (gN σ) := fun t => by unfold pa; rw [if_pos k0]
      have han : ∀ t, ansv σ k (nI e).toNatClampNeg set (valt σ t) = sumq σ set (valt σ t) (gN σ) / e * e := fun t => by unfold ansv; rw [if_pos k0, hcl]
      by_cases e1 : nI e ≤ (1 : Int32)
      · rw [if_pos e1]
        have : e = 1 := by
          have := (nI_leI (b := 1) (by omega) (by omega)).mp e1
          omega
        subst this
        exact ⟨f, rfl, fun t ht => by rw [hf t ht, hpa, han, Nat.div_one, Nat.mul_one]⟩
      · rw [if_neg e1]
        have g3 : va_up C 5 (eI 4096 f) 3 = eO 3 [.ref (ca 4), .ref (ca 5), .ref (ca 6)] := (va_up_ne _ _ (by decide)).trans h3
        obtain ⟨f', e2, hf'⟩ := d_cut (S0 := S0) hj h3 (f := f) (a := fun t => sumq σ set (valt σ t) (gN σ)) (T := gT σ) hT he1 he2 (fun t ht => by rw [hf t ht, hpa]) (fun t ht => by
          have := pa_60 hw (set := set) (t := t)
          show sumq σ set (valt σ t) (gN σ) < 1000
          omega)
        simp only [pt_ck hj g3 (by omega : 3 < 120), e2, Option.bind_some, Option.bind_none, bd2, bd3, bd4, nm]
        exact ⟨f', rfl, fun t ht => by rw [hf' t ht, han]⟩
    · rw [if_neg k0]
      exact ⟨f, rfl, fun t ht => by rw [hf t ht, pa_ans hw hk hs k0]⟩
  unfold f_X3_answerTables
  simp only [pt_gR hj h3 (by omega : 3 < 120) (k := 1) rfl, c3, cs, Option.bind_some, Option.bind_none, bd2, bd3, bd4, nm]
  by_cases k3 : k = 3
  · rw [if_pos k3]
    by_cases s0 : set = 0
    · rw [if_pos s0]
      refine main 0 ?_
      unfold pa
      subst k3 s0
      rfl
    · rw [if_neg s0]
      refine main 21 ?_
      unfold pa
      subst k3
      rw [if_neg (by decide), if_neg (by decide), if_neg (by decide), if_neg s0]
      rfl
  · rw [if_neg k3]
    refine main 0 ?_
    unfold pa
    by_cases k0 : k = 0
    · rw [if_pos k0]; rfl
    · rw [if_neg k0]
      by_cases k1 : k = 1
      · rw [if_pos k1]; rfl
      · rw [if_neg k1, if_pos (by omega)]; rfl
end JUDGE
