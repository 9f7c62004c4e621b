/-! ===== the class's sorter ===== -/
abbrev o4 (ca : Nat → Nat) (b p q : Nat) (m : Int32) : PE := eO 4 [.ref (ca 8), .ref (ca p), .ref (ca q), .ref (ca 11), .ref (ca (b + 1)), .ref (ca 4), .int m]
def SO (ca : Nat → Nat) (σ : SG) (τ : TG) (C : Nat → PE) (b i m : Nat) (ord : Nat → Nat) (p q W : Nat) : Prop :=
  ((p = 9 ∧ q = 10) ∨ (p = 10 ∧ q = 9)) ∧ m ≤ 4096 ∧ C 7 = o4 ca b p q (nI m) ∧
  (∃ rows, C 8 = eJ 4096 rows ∧ ∀ t, t < gT σ → lef σ i t = 1 → rows t = lN (rk σ τ t W)) ∧
  (∃ f, C p = eI 4096 f ∧ ∀ k, k < m → f k = nI (ord k)) ∧ (∃ f, C q = eI 4096 f) ∧ (∃ f, C 11 = eI 65 f) ∧
  (∃ mk, C 4 = eJ 4096 mk ∧ ∀ t, t < gT σ → mk t = lN (mark σ t (gN σ))) ∧
  (∀ k, k < m → ord k < gT σ ∧ lef σ i (ord k) = 1) ∧ ∀ u, u < gT σ → lef σ i u = 1 → ∃ k, k < m ∧ ord k = u
section SORT
variable {ca : Nat → Nat} {S0 : PH} {C : Nat → PE} {b i m : Nat} {ord : Nat → Nat} {p q W : Nat} {σ : SG} {τ : TG}
theorem TOP_so {D : Nat → PE} (h : TOP ca C b) (he : ∀ k, k < 7 → k ≠ 4 → D k = C k) (hs : SO ca σ τ D b i m ord p q W) : TOP ca D b := by
  obtain ⟨h0, h3, h4, h5, h6, h7, h8, h9, h10, h11⟩ := h
  obtain ⟨s1, s2, s3, ⟨rows, s4, -⟩, ⟨f, s5, -⟩, ⟨g, s6⟩, ⟨st, s7⟩, ⟨mk, s8, -⟩, -⟩ := hs
  refine ⟨(he 0 (by omega) (by omega)).trans h0, (he 3 (by omega) (by omega)).trans h3, ⟨mk, s8⟩, ?_, ?_, ⟨p, q, .ref (ca (b + 1)), .ref (ca 4), nI m, s1, s3⟩, ⟨rows, s4⟩, ?_, ?_, ⟨st, s7⟩⟩
  · rw [he 5 (by omega) (by omega)]; exact h5
  · rw [he 6 (by omega) (by omega)]; exact h6
  · rcases s1 with ⟨rfl, rfl⟩ | ⟨rfl, rfl⟩
    · exact ⟨f, s5⟩
    · exact ⟨g, s6⟩
  · rcases s1 with ⟨rfl, rfl⟩ | ⟨rfl, rfl⟩
    · exact ⟨g, s6⟩
    · exact ⟨f, s5⟩
theorem d_begin (hj : injC ca) (hb : b + 27 ≤ 120) (hb2 : 12 ≤ b) (hw : WF σ τ) (hN : NC ca σ C b) (ht : TOP ca C b) {mk : Nat → Int64} (h4 : C 4 = eJ 4096 mk) (hmk : ∀ t, t < gT σ → mk t = lN (mark σ t (gN σ))) {r : Nat} {f : Nat → Int64} (hr : r < 120) (hr2 : 12 ≤ r) (hC : C r = eJ 64 f) (hf : ∀ t, t < 4096 → bw f t = decide (t < gT σ ∧ lef σ i t = 1)) : ∃ D m ord p q, f_X4_begin (pt ca S0 C) (ca 7) (ca (b + 1)) (ca 4) (ca r) = some (pt ca S0 D) ∧ SO ca σ τ D b i m ord p q 0 ∧ ∀ k, k < 7 ∨ 12 ≤ k → D k = C k := by
  have hT := hw.tle
  obtain ⟨h0, h3, -, h5, h6, ⟨p, q, nu, ma, sz, hpq, h7⟩, ⟨r0, h8⟩, ⟨f9, h9⟩, ⟨f10, h10⟩, ⟨f11, h11⟩⟩ := ht
  have hpf : ∃ fp, C p = eI 4096 fp := by
    rcases hpq with ⟨rfl, rfl⟩ | ⟨rfl, rfl⟩
    · exact ⟨f9, h9⟩
    · exact ⟨f10, h10⟩
  have hqf : ∃ fq, C q = eI 4096 fq := by
    rcases hpq with ⟨rfl, rfl⟩ | ⟨rfl, rfl⟩
    · exact ⟨f10, h10⟩
    · exact ⟨f9, h9⟩
  obtain ⟨fp, hp⟩ := hpf
  obtain ⟨fq, hq⟩ := hqf
  have hp12 : 9 ≤ p ∧ p ≤ 10 := by omega
  have hq12 : 9 ≤ q ∧ q ≤ 10 := by omega
  unfold f_X4_begin
  simp only [pt_pR hj h7 (by omega : 7 < 120) (show 4 < 7 by omega), List.set_cons_succ, List.set_cons_zero, Option.bind_some, Option.bind_none, bd2, bd3, bd4, nm]
  have qb : ∀ (x4 x5 : Value) (x6 : Int32), va_up C 7 (eO 4 [.ref (ca 8), .ref (ca p), .ref (ca q), .ref (ca 11), x4, x5, .int x6]) 7 = eO 4 [.ref (ca 8), .ref (ca p), .ref (ca q), .ref (ca 11), x4, x5, .int x6] := fun _ _ _ => va_up_self _ _ _
  simp only [pt_pR hj (qb _ _ _) (by omega : 7 < 120) (show 5 < 7 by omega), va_up_up, List.set_cons_succ, List.set_cons_zero, Option.bind_some, Option.bind_none, bd2, bd3, bd4, nm]
  simp only [pt_pI hj (qb _ _ _) (by omega : 7 < 120) (show 6 < 7 by omega), va_up_up, List.set_cons_succ, List.set_cons_zero, Option.bind_some, Option.bind_none, bd2, bd3, bd4, nm]
  have key := lpo_run (b := fun x : Int32 × PH => f_X4_begin_L18 x.2 (ca 7) (ca (b + 1)) (ca r) x.1)
    (fun n y => ∃ (D : Nat → PE) (m : Nat) (ord : Nat → Nat) (rows : Nat → Int64) (g : Nat → Int32), y = (nI n, pt ca S0 D) ∧ (∀ k, (k < 7 ∨ 9 ≤ k) → k ≠ p → D k = C k) ∧ D 7 = o4 ca b p q (nI m) ∧ D 8 = eJ 4096 rows ∧ D p = eI 4096 g ∧ m ≤ n ∧ (∀ k, k < m → g k = nI (ord k) ∧ ord k < n ∧ lef σ i (ord k) = 1) ∧ ∀ u, u < n → lef σ i u = 1 → rows u = 0 ∧ ∃ k, k < m ∧ ord k = u)
    (fun y => ∃ (D : Nat → PE) (m : Nat) (ord : Nat → Nat) (rows : Nat → Int64) (g : Nat → Int32), y = pt ca S0 D ∧ (∀ k, (k < 7 ∨ 9 ≤ k) → k ≠ p → D k = C k) ∧ D 7 = o4 ca b p q (nI m) ∧ D 8 = eJ 4096 rows ∧ D p = eI 4096 g ∧ m ≤ gT σ ∧ (∀ k, k < m → g k = nI (ord k) ∧ ord k < gT σ ∧ lef σ i (ord k) = 1) ∧ ∀ u, u < gT σ → lef σ i u = 1 → rows u = 0 ∧ ∃ k, k < m ∧ ord k = u) (gT σ) (by omega) (x := ((0 : Int32), pt ca S0 (va_up C 7 (o4 ca b p q 0))))
    ⟨_, 0, fun _ => 0, r0, fp, rfl, fun k hk hk2 => va_up_ne _ _ (by omega), va_up_self _ _ _, (va_up_ne _ _ (by omega)).trans h8, (va_up_ne _ _ (by omega)).trans hp, Nat.le_refl _, fun k hk => absurd hk (Nat.not_lt_zero k), fun u hu => absurd hu (Nat.not_lt_zero u)⟩ (by
      rintro n y hn ⟨D, m, ord, rows, g, rfl, hD, hD7, hD8, hDp, hm, hord, hon⟩
      have hn' : n < gT σ := hn
      have gN9 : NC ca σ D b := NC_fr hN (fun k q1 q2 => hD k (by omega) (by omega))
      have gr : D r = eJ 64 f := (hD r (by omega) (by omega)).trans hC
      left
      show ∃ x', f_X4_begin_L18 (pt ca S0 D) (ca 7) (ca (b + 1)) (ca r) (nI n) = _ ∧ _
      unfold f_X4_begin_L18
      simp only [n_g9 hj hb gN9, d_holds hj hr gr (show n < 4096 by omega), ite10, f_X4_begin_b65, nI_1, Option.bind_some, Option.bind_none, bd2, bd3, bd4, nm]
      rw [if_neg (by rw [q_le (by omega) (by omega)]; omega)]
      have hfn := hf n (by omega)
      by_cases c : lef σ i n = 1
      · rw [if_neg (fun x => x (by rw [hfn]; exact decide_eq_true ⟨hn', c⟩))]
        have g7 : va_up D 8 (eJ 4096 (vp_updL rows n 0)) 7 = o4 ca b p q (nI m) := (va_up_ne _ _ (by omega)).trans hD7
        have gp : va_up D 8 (eJ 4096 (vp_updL rows n 0)) p = eI 4096 g := (va_up_ne _ _ (by omega)).trans hDp
        simp only [pt_gR hj hD7 (by omega : 7 < 120) (k := 0) rfl, pt_stJ hj hD8 (by omega : 8 < 120) (show n < 4096 by omega) (by omega), pt_gR hj g7 (by omega : 7 < 120) (k := 1) rfl, pt_gI hj g7 (by omega : 7 < 120) (k := 6) rfl, pt_stI hj gp (by omega : p < 120) (show m < 4096 by omega) (by omega), Option.bind_some, Option.bind_none, bd2, bd3, bd4, nm]
        have k7 : va_up (va_up D 8 (eJ 4096 (vp_updL rows n 0))) p (eI 4096 (upd g m (nI n))) 7 = o4 ca b p q (nI m) := (va_up_ne _ _ (by omega)).trans g7
        simp only [pt_gI hj k7 (by omega : 7 < 120) (k := 6) rfl, pt_pI hj k7 (by omega : 7 < 120) (show 6 < 7 by omega), nI_1, List.set_cons_succ, List.set_cons_zero, Option.bind_some, Option.bind_none, bd2, bd3, bd4, nm]
        refine ⟨_, rfl, _, m + 1, va_up ord m n, vp_updL rows n 0, upd g m (nI n), rfl, fun k hk hk2 => ?_, va_up_self _ _ _, ?_, ?_, by omega, fun k hk => ?_, fun u hu hl => ?_⟩
        · rw [va_up_ne _ _ (by omega), va_up_ne _ _ hk2, va_up_ne _ _ (by omega)]
          exact hD k hk hk2
        · rw [va_up_ne _ _ (by omega), va_up_ne _ _ (by omega), va_up_self]
        · rw [va_up_ne _ _ (by omega), va_up_self]
        · by_cases e : k = m
          · subst e
            rw [pk_us, va_up_self]
            exact ⟨rfl, by omega, c⟩
          · rw [pk_un e, va_up_ne _ _ e]
            obtain ⟨x1, x2, x3⟩ := hord k (by omega)
            exact ⟨x1, by omega, x3⟩
        · by_cases e : u = n
          · subst e
            exact ⟨pk_uLs, m, by omega, va_up_self _ _ _⟩
          · obtain ⟨x1, k, x2, x3⟩ := hon u (by omega) hl
            exact ⟨(pk_uLn e).trans x1, k, by omega, (va_up_ne _ _ (by omega)).trans x3⟩
      · rw [if_pos (fun x => by
          rw [hfn, decide_eq_true_iff] at x
          exact c x.2)]
        refine ⟨_, rfl, D, m, ord, rows, g, rfl, hD, hD7, hD8, hDp, by omega, fun k hk => ?_, fun u hu hl => ?_⟩
        · obtain ⟨x1, x2, x3⟩ := hord k hk
          exact ⟨x1, by omega, x3⟩
        · by_cases e : u = n
          · subst e; exact absurd hl c
          · exact hon u (by omega) hl) (by
      rintro y ⟨D, m, ord, rows, g, rfl, hD, hD7, hD8, hDp, hm, hord, hon⟩
      have gN9 : NC ca σ D b := NC_fr hN (fun k q1 q2 => hD k (by omega) (by omega))
      refine ⟨_, ?_, D, m, ord, rows, g, rfl, hD, hD7, hD8, hDp, hm, hord, hon⟩
      show f_X4_begin_L18 (pt ca S0 D) (ca 7) (ca (b + 1)) (ca r) (nI (gT σ)) = _
      unfold f_X4_begin_L18
      simp only [n_g9 hj hb gN9, Option.bind_some, Option.bind_none, bd2, bd3, bd4, nm]
      rw [if_pos (by rw [q_le (by omega) (by omega)]; omega)])
  obtain ⟨S', e1, D, m, ord, rows, g, rfl, hD, hD7, hD8, hDp, hm, hord, hon⟩ := key
  rw [e1]
  refine ⟨D, m, ord, p, q, rfl, ⟨hpq, Nat.le_trans hm hT, hD7, ⟨rows, hD8, fun t h1 h2 => (hon t h1 h2).1⟩, ⟨g, hDp, fun k hk => (hord k hk).1⟩, ⟨fq, (hD q (by omega) (by omega)).trans hq⟩, ⟨f11, (hD 11 (by omega) (by omega)).trans h11⟩, ⟨mk, (hD 4 (by omega) (by omega)).trans h4, hmk⟩, fun k hk => (hord k hk).2, fun u h1 h2 => (hon u h1 h2).2⟩, fun k hk => hD k (by omega) (by omega)⟩
theorem d_addAnswers (hj : injC ca) (hw : WF σ τ) (h : SO ca σ τ C b i m ord p q W) (hW : W < 8) {af : Nat → Int32} (h5 : C 5 = eI 4096 af) (haf : ∀ t, t < gT σ → af t = nI (wans σ τ W t)) : ∃ D, f_X4_addAnswers (pt ca S0 C) (ca 7) (nI W) (ca 5) = some (pt ca S0 D) ∧ SO ca σ τ D b i m ord p q (W + 1) ∧ ∀ k, k ≠ 8 → D k = C k := by
  have hT := hw.tle
  obtain ⟨s1, s2, s3, ⟨rows, s4, s4r⟩, ⟨f, s5, s5f⟩, s6, s7, s8, s9, s10⟩ := h
  have hp12 : 9 ≤ p ∧ p ≤ 10 := by omega
  unfold f_X4_addAnswers
  have hup : va_up C 8 (eJ 4096 rows) = C := by
    funext k
    by_cases e : k = 8
    · subst e; rw [va_up_self, s4]
    · rw [va_up_ne _ _ e]
  have key := lpo_run (b := fun x : Int32 × PH => f_X4_addAnswers_L2 x.2 (ca 7) (nI W) (ca 5) x.1)
    (fun n y => ∃ g, y = (nI n, pt ca S0 (va_up C 8 (eJ 4096 g))) ∧ ∀ t, t < gT σ → lef σ i t = 1 → (g t = lN (rk σ τ t W) ∨ g t = lN (rk σ τ t (W + 1))) ∧ ((∃ k, k < n ∧ ord k = t) → g t = lN (rk σ τ t (W + 1))))
    (fun y => ∃ g, y = pt ca S0 (va_up C 8 (eJ 4096 g)) ∧ ∀ t, t < gT σ → lef σ i t = 1 → g t = lN (rk σ τ t (W + 1))) m (by omega) (x := ((0 : Int32), pt ca S0 C))
    ⟨rows, by rw [hup]; rfl, fun t h1 h2 => ⟨Or.inl (s4r t h1 h2), fun ⟨k, hk, _⟩ => absurd hk (Nat.not_lt_zero k)⟩⟩ (by
      rintro n y hn ⟨g, rfl, hg⟩
      obtain ⟨z1, z2⟩ := s9 n hn
      have g7 : va_up C 8 (eJ 4096 g) 7 = _ := (va_up_ne _ _ (by omega)).trans s3
      have gp : va_up C 8 (eJ 4096 g) p = _ := (va_up_ne _ _ (by omega)).trans s5
      have g8 : va_up C 8 (eJ 4096 g) 8 = eJ 4096 g := va_up_self _ _ _
      have g5 : va_up C 8 (eJ 4096 g) 5 = _ := (va_up_ne _ _ (by omega)).trans h5
      have hwa := wans_le hw W (ord n)
      left
      show ∃ x', f_X4_addAnswers_L2 (pt ca S0 (va_up C 8 (eJ 4096 g))) (ca 7) (nI W) (ca 5) (nI n) = _ ∧ _
      unfold f_X4_addAnswers_L2
      simp only [pt_gI hj g7 (by omega : 7 < 120) (k := 6) rfl, pt_gR hj g7 (by omega : 7 < 120) (k := 1) rfl, pt_gR hj g7 (by omega : 7 < 120) (k := 0) rfl, pt_ldI hj gp (by omega : p < 120) (show n < 4096 by omega) (by omega), s5f n hn, pt_ldJ hj g8 (by omega : 8 < 120) (show ord n < 4096 by omega) (by omega), pt_ldI hj g5 (by omega : 5 < 120) (show ord n < 4096 by omega) (by omega), haf _ z1, pt_stJ hj g8 (by omega : 8 < 120) (show ord n < 4096 by omega) (by omega), va_up_up, nI_1, Option.bind_some, Option.bind_none, bd2, bd3, bd4, nm]
      rw [if_neg (by rw [q_le (by omega) (by omega)]; omega)]
      rw [nI_l (by omega), show nI W * (6 : Int32) = nI (W * 6) from pk_mul W 6, wb_shl _ (show W * 6 < 64 by omega), show W * 6 = 6 * W by omega]
      have b1 := rk_lt hw (ord n) W
      have b2 := rk_lt hw (ord n) (W + 1)
      have b3 : (2 : Nat) ^ (6 * W) ≤ 2 ^ 42 := Nat.pow_le_pow_right (by omega) (by omega)
      have b4 : (2 : Nat) ^ (6 * (W + 1)) ≤ 2 ^ 48 := Nat.pow_le_pow_right (by omega) (by omega)
      have b5 : wans σ τ W (ord n) * 2 ^ (6 * W) ≤ 60 * 2 ^ 42 := Nat.mul_le_mul hwa b3
      have hnew : g (ord n) ||| lN (wans σ τ W (ord n) * 2 ^ (6 * W)) = lN (rk σ τ (ord n) (W + 1)) := by
        rcases (hg _ z1 z2).1 with e | e
        · rw [e, wb_or (by omega) (by omega)]
          rfl
        · rw [e, wb_or (by omega) (by omega)]
          congr 1
          show (rk σ τ (ord n) W ||| wans σ τ W (ord n) * 2 ^ (6 * W)) ||| wans σ τ W (ord n) * 2 ^ (6 * W) = _
          rw [Nat.or_assoc, Nat.or_self]
          rfl
      rw [hnew]
      refine ⟨_, rfl, _, rfl, fun t h1 h2 => ?_⟩
      by_cases e : t = ord n
      · subst e
        rw [pk_uLs]
        exact ⟨Or.inr rfl, fun _ => rfl⟩
      · rw [pk_uLn e]
        refine ⟨(hg t h1 h2).1, fun ⟨k, hk, hk2⟩ => (hg t h1 h2).2 ⟨k, ?_, hk2⟩⟩
        by_cases e2 : k = n
        · subst e2; exact absurd hk2.symm e
        · omega) (by
      rintro y ⟨g, rfl, hg⟩
      have g7 : va_up C 8 (eJ 4096 g) 7 = _ := (va_up_ne _ _ (by omega)).trans s3
      refine ⟨_, ?_, g, rfl, fun t h1 h2 => (hg t h1 h2).2 (s10 t h1 h2)⟩
      show f_X4_addAnswers_L2 (pt ca S0 (va_up C 8 (eJ 4096 g))) (ca 7) (nI W) (ca 5) (nI m) = _
      unfold f_X4_addAnswers_L2
      simp only [pt_gI hj g7 (by omega : 7 < 120) (k := 6) rfl, Option.bind_some, Option.bind_none, bd2, bd3, bd4, nm]
      rw [if_pos (by rw [q_le (by omega) (by omega)]; omega)])
  obtain ⟨S', e1, g, rfl, hg⟩ := key
  rw [e1]
  have hq12 : 9 ≤ q ∧ q ≤ 10 := by omega
  refine ⟨_, rfl, ⟨s1, s2, (va_up_ne _ _ (by omega)).trans s3, ⟨g, va_up_self _ _ _, hg⟩, ⟨f, (va_up_ne _ _ (by omega)).trans s5, s5f⟩, ?_, ?_, ?_, s9, s10⟩, fun k hk => va_up_ne _ _ hk⟩
  · rw [va_up_ne _ _ (by omega)]; exact s6
  · rw [va_up_ne _ _ (by omega)]; exact s7
  · rw [va_up_ne _ _ (by omega)]; exact s8
theorem d_answerTo (hj : injC ca) (hw : WF σ τ) (h7 : C 7 = o4 ca b p q (nI m)) {rows : Nat → Int64} (h8 : C 8 = eJ 4096 rows) {w t : Nat} (hr : rows t = lN (rk σ τ t W)) (hwW : w < W) (hW : W ≤ 8) (ht : t < 4096) : f_X4_answerTo (pt ca S0 C) (ca 7) (nI w) (nI t) = some (nI (wans σ τ w t)) := by
  have b1 := rk_lt hw t W
  have b3 : (2 : Nat) ^ (6 * W) ≤ 2 ^ 48 := Nat.pow_le_pow_right (by omega) (by omega)
  unfold f_X4_answerTo
  simp only [pt_gR hj h7 (by omega : 7 < 120) (k := 0) rfl, pt_ldJ hj h8 (by omega : 8 < 120) ht (by omega), hr, Option.bind_some, Option.bind_none, bd2, bd3, bd4, nm]
  rw [show nI w * (6 : Int32) = nI (w * 6) from pk_mul w 6, wb_shr (by omega) (show w * 6 < 64 by omega), lN_i, pk_and _ 6 rfl]
  congr 2
  show rk σ τ t W / 2 ^ (w * 6) % 2 ^ 32 % 2 ^ 6 = _
  rw [Nat.mod_mod_of_dvd _ (show 2 ^ 6 ∣ 2 ^ 32 by decide), show w * 6 = 6 * w by omega]
  exact rk_fld hw hwW
end SORT
