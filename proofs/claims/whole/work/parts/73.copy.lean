/-! ===== a State copied: image and again ===== -/
section COPY
variable {ca : Nat → Nat} {S0 : PH} {C : Nat → PE} {b e : Nat} {σ ρ : SG} {τ υ : TG}
theorem oN_R {k : Nat} (hk : k < 7) {x7 x8 x9 x10 x11 : Int32} : [Value.ref (ca (b + 2)), .ref (ca (b + 3)), .ref (ca (b + 4)), .ref (ca (b + 5)), .ref (ca (b + 6)), .ref (ca (b + 7)), .ref (ca (b + 8)), .int x7, .int x8, .int x9, .int x10, .int x11][k]? = some (.ref (ca (b + 2 + k))) := by
  match k, hk with
  | 0, _ => rfl
  | 1, _ => rfl
  | 2, _ => rfl
  | 3, _ => rfl
  | 4, _ => rfl
  | 5, _ => rfl
  | 6, _ => rfl
theorem cst (hj : injC ca) (hb : b + 27 ≤ 120) (he : e + 27 ≤ 120) {k : Nat} (hk : k < 7) {n : Nat} {f g : Nat → Int32} {x7 x8 x9 x10 x11 y7 y8 y9 y10 y11 : Int32} (h1 : C (e + 1) = oN ca e x7 x8 x9 x10 x11) (h2 : C (b + 1) = oN ca b y7 y8 y9 y10 y11) (hf : C (e + 2 + k) = eI n f) (hg : C (b + 2 + k) = eI n g) (hn : n < 100) {β : Type} (K : PH → Option β) : ((gR (pt ca S0 C) (ca (e + 1)) 2 k).bind fun x1 => (gR (pt ca S0 C) (ca (b + 1)) 2 k).bind fun x2 => (cpI (pt ca S0 C) x1 0 x2 0 (nI n)).bind K) = K (pt ca S0 (va_up C (b + 2 + k) (eI n (va_cpy f g 0 0 n)))) := by
  simp only [pt_gR hj h1 (by omega : e + 1 < 120) (oN_R hk), pt_gR hj h2 (by omega : b + 1 < 120) (oN_R hk), pt_cpI hj hf hg (by omega : e + 2 + k < 120) (by omega : b + 2 + k < 120) (by omega), Option.bind_some]
theorem cpy_at {α : Type} {f g : Nat → α} {n j : Nat} (h : j < n) : va_cpy f g 0 0 n j = f j := by
  rw [pk_cpy_in (Nat.zero_le j) (by omega)]
  simp
theorem d_copyN (hj : injC ca) (hb : b + 27 ≤ 120) (he : e + 27 ≤ 120) (hd : e + 27 ≤ b ∨ b + 27 ≤ e) (hw : WF σ τ) (hs : NC ca σ C e) (ht : NC ca ρ C b) : ∃ D, f_X2_copyFrom (pt ca S0 C) (ca (b + 1)) (ca (e + 1)) = some (pt ca S0 D) ∧ NC ca σ D b ∧ ∀ i, i ≤ b ∨ b + 9 ≤ i → D i = C i := by
  have h8 := hw.p8
  have h10 := hw.n10
  obtain ⟨cu, ow, le, gr, ne, va, fi, s1, s2, s3, s4, s5, s6, s7, s8, s9, s10⟩ := hs
  obtain ⟨du, dw, de, dr, dn, dv, df, t1, t2, t3, t4, t5, t6, t7, t8, -, -⟩ := ht
  obtain ⟨C0, hC0⟩ : ∃ X, X = va_up C (b + 2 + 0) (eI 8 (va_cpy cu du 0 0 8)) := ⟨_, rfl⟩
  obtain ⟨C1, hC1⟩ : ∃ X, X = va_up C0 (b + 2 + 1) (eI 10 (va_cpy ow dw 0 0 10)) := ⟨_, rfl⟩
  obtain ⟨C2, hC2⟩ : ∃ X, X = va_up C1 (b + 2 + 2) (eI 10 (va_cpy le de 0 0 10)) := ⟨_, rfl⟩
  obtain ⟨C3, hC3⟩ : ∃ X, X = va_up C2 (b + 2 + 3) (eI 10 (va_cpy gr dr 0 0 10)) := ⟨_, rfl⟩
  obtain ⟨C4, hC4⟩ : ∃ X, X = va_up C3 (b + 2 + 4) (eI 10 (va_cpy ne dn 0 0 10)) := ⟨_, rfl⟩
  obtain ⟨C5, hC5⟩ : ∃ X, X = va_up C4 (b + 2 + 5) (eI 10 (va_cpy va dv 0 0 10)) := ⟨_, rfl⟩
  obtain ⟨C6, hC6⟩ : ∃ X, X = va_up C5 (b + 2 + 6) (eI 10 (va_cpy fi df 0 0 10)) := ⟨_, rfl⟩
  have o0 : ∀ i, i ≠ b + 2 + 0 → C0 i = C i := fun i hi => by rw [hC0, va_up_ne _ _ hi]
  have o1 : ∀ i, i ≠ b + 2 + 1 → C1 i = C0 i := fun i hi => by rw [hC1, va_up_ne _ _ hi]
  have o2 : ∀ i, i ≠ b + 2 + 2 → C2 i = C1 i := fun i hi => by rw [hC2, va_up_ne _ _ hi]
  have o3 : ∀ i, i ≠ b + 2 + 3 → C3 i = C2 i := fun i hi => by rw [hC3, va_up_ne _ _ hi]
  have o4 : ∀ i, i ≠ b + 2 + 4 → C4 i = C3 i := fun i hi => by rw [hC4, va_up_ne _ _ hi]
  have o5 : ∀ i, i ≠ b + 2 + 5 → C5 i = C4 i := fun i hi => by rw [hC5, va_up_ne _ _ hi]
  have o6 : ∀ i, i ≠ b + 2 + 6 → C6 i = C5 i := fun i hi => by rw [hC6, va_up_ne _ _ hi]
  have p0 : ∀ i, (i < b + 2 ∨ b + 3 ≤ i) → C0 i = C i := fun i hi => o0 i (by omega)
  have p1 : ∀ i, (i < b + 2 ∨ b + 4 ≤ i) → C1 i = C i := fun i hi => (o1 i (by omega)).trans (p0 i (by omega))
  have p2 : ∀ i, (i < b + 2 ∨ b + 5 ≤ i) → C2 i = C i := fun i hi => (o2 i (by omega)).trans (p1 i (by omega))
  have p3 : ∀ i, (i < b + 2 ∨ b + 6 ≤ i) → C3 i = C i := fun i hi => (o3 i (by omega)).trans (p2 i (by omega))
  have p4 : ∀ i, (i < b + 2 ∨ b + 7 ≤ i) → C4 i = C i := fun i hi => (o4 i (by omega)).trans (p3 i (by omega))
  have p5 : ∀ i, (i < b + 2 ∨ b + 8 ≤ i) → C5 i = C i := fun i hi => (o5 i (by omega)).trans (p4 i (by omega))
  have p6 : ∀ i, (i < b + 2 ∨ b + 9 ≤ i) → C6 i = C i := fun i hi => (o6 i (by omega)).trans (p5 i (by omega))
  unfold f_X2_copyFrom
  have main : ∀ {β : Type} (K : PH → Option β), ((gR (pt ca S0 C) (ca (e + 1)) 2 0).bind fun x1 =>
(gR (pt ca S0 C) (ca (b + 1)) 2 0).bind fun x2 =>
(cpI (pt ca S0 C) x1 (0 : Int32) x2 (0 : Int32) (8 : Int32)).bind fun S3 =>
(gR S3 (ca (e + 1)) 2 1).bind fun x4 =>
(gR S3 (ca (b + 1)) 2 1).bind fun x5 =>
(cpI S3 x4 (0 : Int32) x5 (0 : Int32) (10 : Int32)).bind fun S6 =>
(gR S6 (ca (e + 1)) 2 2).bind fun x7 =>
(gR S6 (ca (b + 1)) 2 2).bind fun x8 =>
(cpI S6 x7 (0 : Int32) x8 (0 : Int32) (10 : Int32)).bind fun S9 =>
(gR S9 (ca (e + 1)) 2 3).bind fun x10 =>
(gR S9 (ca (b + 1)) 2 3).bind fun x11 =>
(cpI S9 x10 (0 : Int32) x11 (0 : Int32) (10 : Int32)).bind fun S12 =>
(gR S12 (ca (e + 1)) 2 4).bind fun x13 =>
(gR S12 (ca (b + 1)) 2 4).bind fun x14 =>
(cpI S12 x13 (0 : Int32) x14 (0 : Int32) (10 : Int32)).bind fun S15 =>
(gR S15 (ca (e + 1)) 2 5).bind fun x16 =>
(gR S15 (ca (b + 1)) 2 5).bind fun x17 =>
(cpI S15 x16 (0 : Int32) x17 (0 : Int32) (10 : Int32)).bind fun S18 =>
(gR S18 (ca (e + 1)) 2 6).bind fun x19 =>
(gR S18 (ca (b + 1)) 2 6).bind fun x20 =>
(cpI S18 x19 (0 : Int32) x20 (0 : Int32) (10 : Int32)).bind K) = K (pt ca S0 C6) := by
    intro β K
    refine (cst (k := 0) hj hb he (by omega) s1 t1 s2 t2 (by omega) _).trans ?_
    rw [← hC0]
    refine (cst (k := 1) hj hb he (by omega) ((p0 _ (by omega)).trans s1) ((p0 _ (by omega)).trans t1) ((p0 _ (by omega)).trans s3) ((p0 _ (by omega)).trans t3) (by omega) _).trans ?_
    rw [← hC1]
    refine (cst (k := 2) hj hb he (by omega) ((p1 _ (by omega)).trans s1) ((p1 _ (by omega)).trans t1) ((p1 _ (by omega)).trans s4) ((p1 _ (by omega)).trans t4) (by omega) _).trans ?_
    rw [← hC2]
    refine (cst (k := 3) hj hb he (by omega) ((p2 _ (by omega)).trans s1) ((p2 _ (by omega)).trans t1) ((p2 _ (by omega)).trans s5) ((p2 _ (by omega)).trans t5) (by omega) _).trans ?_
    rw [← hC3]
    refine (cst (k := 4) hj hb he (by omega) ((p3 _ (by omega)).trans s1) ((p3 _ (by omega)).trans t1) ((p3 _ (by omega)).trans s6) ((p3 _ (by omega)).trans t6) (by omega) _).trans ?_
    rw [← hC4]
    refine (cst (k := 5) hj hb he (by omega) ((p4 _ (by omega)).trans s1) ((p4 _ (by omega)).trans t1) ((p4 _ (by omega)).trans s7) ((p4 _ (by omega)).trans t7) (by omega) _).trans ?_
    rw [← hC5]
    refine (cst (k := 6) hj hb he (by omega) ((p5 _ (by omega)).trans s1) ((p5 _ (by omega)).trans t1) ((p5 _ (by omega)).trans s8) ((p5 _ (by omega)).trans t8) (by omega) _).trans ?_
    rw [← hC6]
  rw [main]
  have q1 : C6 (e + 1) = _ := (p6 _ (by omega)).trans s1
  have q2 : C6 (b + 1) = _ := (p6 _ (by omega)).trans t1
  have qs : ∀ X, va_up C6 (b + 1) X (e + 1) = _ := fun X => (va_up_ne _ _ (by omega)).trans q1
  have qb : ∀ x7 x8 x9 x10 x11, va_up C6 (b + 1) (oN ca b x7 x8 x9 x10 x11) (b + 1) = oN ca b x7 x8 x9 x10 x11 := fun _ _ _ _ _ => va_up_self _ _ _
  simp only [pt_gI hj q1 (by omega : e + 1 < 120) (k := 7) rfl, pt_pI hj q2 (by omega : b + 1 < 120) (show 7 < 12 by omega), List.set_cons_succ, List.set_cons_zero, Option.bind_some, Option.bind_none, bd2, bd3, bd4, nm]
  simp only [pt_gI hj (qs _) (by omega : e + 1 < 120) (k := 8) rfl, pt_pI hj (qb _ _ _ _ _) (by omega : b + 1 < 120) (show 8 < 12 by omega), va_up_up, List.set_cons_succ, List.set_cons_zero, Option.bind_some, Option.bind_none, bd2, bd3, bd4, nm]
  simp only [pt_gI hj (qs _) (by omega : e + 1 < 120) (k := 9) rfl, pt_pI hj (qb _ _ _ _ _) (by omega : b + 1 < 120) (show 9 < 12 by omega), va_up_up, List.set_cons_succ, List.set_cons_zero, Option.bind_some, Option.bind_none, bd2, bd3, bd4, nm]
  simp only [pt_gI hj (qs _) (by omega : e + 1 < 120) (k := 10) rfl, pt_pI hj (qb _ _ _ _ _) (by omega : b + 1 < 120) (show 10 < 12 by omega), va_up_up, List.set_cons_succ, List.set_cons_zero, Option.bind_some, Option.bind_none, bd2, bd3, bd4, nm]
  simp only [pt_gI hj (qs _) (by omega : e + 1 < 120) (k := 11) rfl, pt_pI hj (qb _ _ _ _ _) (by omega : b + 1 < 120) (show 11 < 12 by omega), va_up_up, List.set_cons_succ, List.set_cons_zero, Option.bind_some, Option.bind_none, bd2, bd3, bd4, nm]
  refine ⟨_, rfl, ⟨va_cpy cu du 0 0 8, va_cpy ow dw 0 0 10, va_cpy le de 0 0 10, va_cpy gr dr 0 0 10, va_cpy ne dn 0 0 10, va_cpy va dv 0 0 10, va_cpy fi df 0 0 10, va_up_self _ _ _, ?_, ?_, ?_, ?_, ?_, ?_, ?_, fun p hp => ?_, fun n hn => ?_⟩, fun i hi => ?_⟩
  rotate_left 7
  · exact (cpy_at (f := cu) (g := du) (n := 8) (by omega)).trans (s9 p hp)
  · obtain ⟨z1, z2, z3, z4, z5, z6⟩ := s10 n hn
    exact ⟨(cpy_at (f := ow) (g := dw) (n := 10) (by omega)).trans z1, (cpy_at (f := le) (g := de) (n := 10) (by omega)).trans z2, (cpy_at (f := gr) (g := dr) (n := 10) (by omega)).trans z3, (cpy_at (f := ne) (g := dn) (n := 10) (by omega)).trans z4, (cpy_at (f := va) (g := dv) (n := 10) (by omega)).trans z5, (cpy_at (f := fi) (g := df) (n := 10) (by omega)).trans z6⟩
  · rw [va_up_ne _ _ (by omega)]; exact p6 i (by omega)
  · rw [va_up_ne _ _ (by omega), o6 _ (by omega), o5 _ (by omega), o4 _ (by omega), o3 _ (by omega), o2 _ (by omega), o1 _ (by omega), hC0, show b + 2 + 0 = b + 2 by omega, va_up_self]
  · rw [va_up_ne _ _ (by omega), o6 _ (by omega), o5 _ (by omega), o4 _ (by omega), o3 _ (by omega), o2 _ (by omega), hC1, show b + 2 + 1 = b + 3 by omega, va_up_self]
  · rw [va_up_ne _ _ (by omega), o6 _ (by omega), o5 _ (by omega), o4 _ (by omega), o3 _ (by omega), hC2, show b + 2 + 2 = b + 4 by omega, va_up_self]
  · rw [va_up_ne _ _ (by omega), o6 _ (by omega), o5 _ (by omega), o4 _ (by omega), hC3, show b + 2 + 3 = b + 5 by omega, va_up_self]
  · rw [va_up_ne _ _ (by omega), o6 _ (by omega), o5 _ (by omega), hC4, show b + 2 + 4 = b + 6 by omega, va_up_self]
  · rw [va_up_ne _ _ (by omega), o6 _ (by omega), hC5, show b + 2 + 5 = b + 7 by omega, va_up_self]
  · rw [va_up_ne _ _ (by omega), hC6, show b + 2 + 6 = b + 8 by omega, va_up_self]
theorem d_copyK (hj : injC ca) (hb : b + 27 ≤ 120) (he : e + 27 ≤ 120) (hd : e + 27 ≤ b ∨ b + 27 ≤ e) (hs : KC ca σ C e) (ht : KC ca ρ C b) : ∃ D, f_X1_copyFrom (pt ca S0 C) (ca (b + 9)) (ca (e + 9)) = some (pt ca S0 D) ∧ KC ca σ D b ∧ ∀ i, i < b + 9 ∨ b + 16 ≤ i → D i = C i := by
  obtain ⟨ld, lr, fr, rows, s1, s2, s3, s4, s5⟩ := hs
  obtain ⟨md, mr, gr, cols, t1, t2, t3, t4, -⟩ := ht
  obtain ⟨C0, hC0⟩ : ∃ X, X = va_up C (b + 10) (eI 4 (va_cpy lr mr 0 0 4)) := ⟨_, rfl⟩
  have o0 : ∀ i, i ≠ b + 10 → C0 i = C i := fun i hi => by rw [hC0, va_up_ne _ _ hi]
  unfold f_X1_copyFrom
  simp only [pt_gR hj s1 (by omega : e + 9 < 120) (k := 0) rfl, pt_gR hj t1 (by omega : b + 9 < 120) (k := 0) rfl, show cpI (pt ca S0 C) (ca (e + 10)) (0 : Int32) (ca (b + 10)) (0 : Int32) (4 : Int32) = some (pt ca S0 C0) from (pt_cpI hj s2 t2 (by omega) (by omega) (by omega)).trans (by rw [hC0]), Option.bind_some, Option.bind_none, bd2, bd3, bd4, nm]
  have key := lpo_run (b := fun x : Int32 × PH => f_X1_copyFrom_L16 x.2 (ca (b + 9)) (ca (e + 9)) x.1)
    (fun n y => ∃ (D : Nat → PE) (R : Nat → Nat → Int64), y = (nI n, pt ca S0 D) ∧ (∀ i, i < b + 12 ∨ b + 16 ≤ i → D i = C0 i) ∧ ∀ a, a < 4 → D (b + 12 + a) = eJ 64 (R a) ∧ (a < n → ∀ w, w < 64 → R a w = rows a w))
    (fun y => ∃ (D : Nat → PE) (R : Nat → Nat → Int64), y = pt ca S0 D ∧ (∀ i, i < b + 12 ∨ b + 16 ≤ i → D i = C0 i) ∧ ∀ a, a < 4 → D (b + 12 + a) = eJ 64 (R a) ∧ ∀ w, w < 64 → R a w = rows a w) 4 (by omega) (x := ((0 : Int32), pt ca S0 C0))
    ⟨C0, cols, rfl, fun _ _ => rfl, fun a ha => ⟨(o0 _ (by omega)).trans (t4 a ha).2.1, fun q => absurd q (Nat.not_lt_zero a)⟩⟩ (by
      rintro n y hn ⟨D, R, rfl, hD, hR⟩
      have u1 : D (e + 9) = _ := (hD _ (by omega)).trans ((o0 _ (by omega)).trans s1)
      have u2 : D (e + 11) = _ := (hD _ (by omega)).trans ((o0 _ (by omega)).trans s3)
      have u3 : D (b + 9) = _ := (hD _ (by omega)).trans ((o0 _ (by omega)).trans t1)
      have u4 : D (b + 11) = _ := (hD _ (by omega)).trans ((o0 _ (by omega)).trans t3)
      have u5 : D (e + 12 + n) = _ := (hD _ (by omega)).trans ((o0 _ (by omega)).trans (s4 n hn).2.1)
      left
      show ∃ x', f_X1_copyFrom_L16 (pt ca S0 D) (ca (b + 9)) (ca (e + 9)) (nI n) = _ ∧ _
      unfold f_X1_copyFrom_L16
      rw [if_neg (show ¬ (4 : Int32) ≤ nI n from fun c => by
        have := (nI_leI (a := 4) (by omega) (by omega)).mp c
        omega)]
      simp only [pt_gR hj u1 (by omega : e + 9 < 120) (k := 1) rfl, pt_ldR hj u2 (by omega : e + 11 < 120) hn (by omega) (s4 n hn).1, pt_gR hj u3 (by omega : b + 9 < 120) (k := 1) rfl, pt_ldR hj u4 (by omega : b + 11 < 120) hn (by omega) (t4 n hn).1, show cpJ (pt ca S0 D) (ca (e + 12 + n)) (0 : Int32) (ca (b + 12 + n)) (0 : Int32) (64 : Int32) = some (pt ca S0 (va_up D (b + 12 + n) (eJ 64 (va_cpy (rows n) (R n) 0 0 64)))) from pt_cpJ (n := 64) hj u5 (hR n hn).1 (by omega) (by omega) (by omega), nI_1, Option.bind_some, Option.bind_none, bd2, bd3, bd4, nm]
      refine ⟨_, rfl, _, va_up R n (va_cpy (rows n) (R n) 0 0 64), rfl, fun i hi => (va_up_ne _ _ (by omega)).trans (hD i hi), fun a ha => ?_⟩
      by_cases c : a = n
      · subst c
        rw [va_up_self, va_up_self]
        exact ⟨rfl, fun _ w hw => cpy_at hw⟩
      · rw [va_up_ne _ _ (by omega), va_up_ne _ _ c]
        exact ⟨(hR a ha).1, fun q => (hR a ha).2 (by omega)⟩) (by
      rintro y ⟨D, R, rfl, hD, hR⟩
      refine ⟨_, ?_, D, R, rfl, hD, fun a ha => ⟨(hR a ha).1, (hR a ha).2 ha⟩⟩
      show f_X1_copyFrom_L16 (pt ca S0 D) (ca (b + 9)) (ca (e + 9)) (nI 4) = _
      unfold f_X1_copyFrom_L16
      rw [if_pos (show (4 : Int32) ≤ nI 4 from by decide)])
  obtain ⟨S', e1, D, R, rfl, hD, hR⟩ := key
  rw [e1]
  refine ⟨D, rfl, ⟨ld, va_cpy lr mr 0 0 4, gr, R, ?_, ?_, ?_, fun a ha => ?_, s5⟩, fun i hi => (hD i (by omega)).trans (o0 i (by omega))⟩
  · rw [hD _ (by omega), o0 _ (by omega)]; exact t1
  · rw [hD _ (by omega), hC0, va_up_self]
  · rw [hD _ (by omega), o0 _ (by omega)]; exact t3
  · obtain ⟨a1, a2, a3, a4, a5, a6⟩ := s4 a ha
    refine ⟨(t4 a ha).1, (hR a ha).1, (cpy_at ha).trans a3, a4, a5, fun t ht => ?_⟩
    rw [← a6 t ht]
    unfold bw
    rw [(hR (ld a) a4).2 (t / 64) (by omega)]
theorem d_copyA (hj : injC ca) (hb : b + 27 ≤ 120) (he : e + 27 ≤ 120) (hd : e + 27 ≤ b ∨ b + 27 ≤ e) (hw : WF σ τ) (hs : AC ca σ τ C e) (ht : AC ca ρ υ C b) : ∃ D, f_X0_copyFrom (pt ca S0 C) (ca (b + 16)) (ca (e + 16)) = some (pt ca S0 D) ∧ AC ca σ τ D b ∧ ∀ i, i < b + 16 ∨ b + 23 ≤ i → D i = C i := by
  have h200 := hw.k200
  obtain ⟨fr, rows, s1, s2, s3⟩ := hs
  obtain ⟨gr, cols, t1, t2, t3⟩ := ht
  unfold f_X0_copyFrom
  have key := lpo_run (b := fun x : Int32 × PH => f_X0_copyFrom_L2 x.2 (ca (b + 16)) (ca (e + 16)) x.1)
    (fun n y => ∃ (D : Nat → PE) (R : Nat → Nat → Int32), y = (nI n, pt ca S0 D) ∧ (∀ i, i < b + 18 ∨ b + 23 ≤ i → D i = C i) ∧ ∀ a, a < 5 → D (b + 18 + a) = eI 200 (R a) ∧ (a < n → ∀ w, w < 200 → R a w = rows a w))
    (fun y => ∃ (D : Nat → PE) (R : Nat → Nat → Int32), y = pt ca S0 D ∧ (∀ i, i < b + 18 ∨ b + 23 ≤ i → D i = C i) ∧ ∀ a, a < 5 → D (b + 18 + a) = eI 200 (R a) ∧ ∀ w, w < 200 → R a w = rows a w) 5 (by omega) (x := ((0 : Int32), pt ca S0 C))
    ⟨C, cols, rfl, fun _ _ => rfl, fun a ha => ⟨(t3 a ha).2.1, fun q => absurd q (Nat.not_lt_zero a)⟩⟩ (by
      rintro n y hn ⟨D, R, rfl, hD, hR⟩
      have u1 : D (e + 16) = _ := (hD _ (by omega)).trans s1
      have u2 : D (e + 17) = _ := (hD _ (by omega)).trans s2
      have u3 : D (b + 16) = _ := (hD _ (by omega)).trans t1
      have u4 : D (b + 17) = _ := (hD _ (by omega)).trans t2
      have u5 : D (e + 18 + n) = _ := (hD _ (by omega)).trans (s3 n hn).2.1
      left
      show ∃ x', f_X0_copyFrom_L2 (pt ca S0 D) (ca (b + 16)) (ca (e + 16)) (nI n) = _ ∧ _
      unfold f_X0_copyFrom_L2
      rw [if_neg (show ¬ (5 : Int32) ≤ nI n from fun c => by
        have := (nI_leI (a := 5) (by omega) (by omega)).mp c
        omega)]
      simp only [pt_gR hj u1 (by omega : e + 16 < 120) (k := 0) rfl, pt_ldR hj u2 (by omega : e + 17 < 120) hn (by omega) (s3 n hn).1, pt_gR hj u3 (by omega : b + 16 < 120) (k := 0) rfl, pt_ldR hj u4 (by omega : b + 17 < 120) hn (by omega) (t3 n hn).1, show cpI (pt ca S0 D) (ca (e + 18 + n)) (0 : Int32) (ca (b + 18 + n)) (0 : Int32) (200 : Int32) = some (pt ca S0 (va_up D (b + 18 + n) (eI 200 (va_cpy (rows n) (R n) 0 0 200)))) from pt_cpI (n := 200) hj u5 (hR n hn).1 (by omega) (by omega) (by omega), nI_1, Option.bind_some, Option.bind_none, bd2, bd3, bd4, nm]
      refine ⟨_, rfl, _, va_up R n (va_cpy (rows n) (R n) 0 0 200), rfl, fun i hi => (va_up_ne _ _ (by omega)).trans (hD i hi), fun a ha => ?_⟩
      by_cases c : a = n
      · subst c
        rw [va_up_self, va_up_self]
        exact ⟨rfl, fun _ w hw => cpy_at hw⟩
      · rw [va_up_ne _ _ (by omega), va_up_ne _ _ c]
        exact ⟨(hR a ha).1, fun q => (hR a ha).2 (by omega)⟩) (by
      rintro y ⟨D, R, rfl, hD, hR⟩
      refine ⟨_, ?_, D, R, rfl, hD, fun a ha => ⟨(hR a ha).1, (hR a ha).2 ha⟩⟩
      show f_X0_copyFrom_L2 (pt ca S0 D) (ca (b + 16)) (ca (e + 16)) (nI 5) = _
      unfold f_X0_copyFrom_L2
      rw [if_pos (show (5 : Int32) ≤ nI 5 from by decide)])
  obtain ⟨S', e1, D, R, rfl, hD, hR⟩ := key
  rw [e1]
  have u1 : D (e + 16) = _ := (hD _ (by omega)).trans s1
  have u3 : D (b + 16) = _ := (hD _ (by omega)).trans t1
  have us : ∀ X, va_up D (b + 16) X (e + 16) = _ := fun X => (va_up_ne _ _ (by omega)).trans u1
  have ub : ∀ x y : Int32, va_up D (b + 16) (eO 0 [.ref (ca (b + 17)), .int x, .int y]) (b + 16) = eO 0 [.ref (ca (b + 17)), .int x, .int y] := fun _ _ => va_up_self _ _ _
  simp only [pt_gI hj u1 (by omega : e + 16 < 120) (k := 1) rfl, pt_pI hj u3 (by omega : b + 16 < 120) (show 1 < 3 by omega), List.set_cons_succ, List.set_cons_zero, Option.bind_some, Option.bind_none, bd2, bd3, bd4, nm]
  simp only [pt_gI hj (us _) (by omega : e + 16 < 120) (k := 2) rfl, pt_pI hj (ub _ _) (by omega : b + 16 < 120) (show 2 < 3 by omega), va_up_up, List.set_cons_succ, List.set_cons_zero, Option.bind_some, Option.bind_none, bd2, bd3, bd4, nm]
  refine ⟨_, rfl, ⟨gr, R, va_up_self _ _ _, ?_, fun j hj5 => ⟨(t3 j hj5).1, ?_, fun k hk => ?_⟩⟩, fun i hi => ?_⟩
  · rw [va_up_ne _ _ (by omega), hD _ (by omega)]; exact t2
  · rw [va_up_ne _ _ (by omega)]; exact (hR j hj5).1
  · rw [(hR j hj5).2 k (by omega)]; exact (s3 j hj5).2.2 k hk
  · rw [va_up_ne _ _ (by omega)]; exact hD i (by omega)
theorem d_copyW (hj : injC ca) (hb : b + 27 ≤ 120) (he : e + 27 ≤ 120) (hd : e + 27 ≤ b ∨ b + 27 ≤ e) (hw : WF σ τ) (hs : WC ca σ τ C e) (ht : WC ca ρ υ C b) : ∃ D, f_X6_copyFrom (pt ca S0 C) (ca (b + 23)) (ca (e + 23)) = some (pt ca S0 D) ∧ WC ca σ τ D b ∧ ∀ i, i < b + 23 ∨ b + 27 ≤ i → D i = C i := by
  have h8 := hw.w8
  obtain ⟨ki, se, ex, s1, s2, s3, s4, s5⟩ := hs
  obtain ⟨li, te, ey, t1, t2, t3, t4, -⟩ := ht
  obtain ⟨C0, hC0⟩ : ∃ X, X = va_up C (b + 24) (eI 8 (va_cpy ki li 0 0 8)) := ⟨_, rfl⟩
  obtain ⟨C1, hC1⟩ : ∃ X, X = va_up C0 (b + 25) (eI 8 (va_cpy se te 0 0 8)) := ⟨_, rfl⟩
  obtain ⟨C2, hC2⟩ : ∃ X, X = va_up C1 (b + 26) (eI 8 (va_cpy ex ey 0 0 8)) := ⟨_, rfl⟩
  have o0 : ∀ i, i ≠ b + 24 → C0 i = C i := fun i hi => by rw [hC0, va_up_ne _ _ hi]
  have o1 : ∀ i, i ≠ b + 25 → C1 i = C0 i := fun i hi => by rw [hC1, va_up_ne _ _ hi]
  have o2 : ∀ i, i ≠ b + 26 → C2 i = C1 i := fun i hi => by rw [hC2, va_up_ne _ _ hi]
  have p1 : ∀ i, (i < b + 24 ∨ b + 26 ≤ i) → C1 i = C i := fun i hi => (o1 i (by omega)).trans (o0 i (by omega))
  have p2 : ∀ i, (i < b + 24 ∨ b + 27 ≤ i) → C2 i = C i := fun i hi => (o2 i (by omega)).trans (p1 i (by omega))
  unfold f_X6_copyFrom
  simp only [pt_gR hj s1 (by omega : e + 23 < 120) (k := 0) rfl, pt_gR hj t1 (by omega : b + 23 < 120) (k := 0) rfl, show cpI (pt ca S0 C) (ca (e + 24)) (0 : Int32) (ca (b + 24)) (0 : Int32) (8 : Int32) = some (pt ca S0 C0) from (pt_cpI hj s2 t2 (by omega) (by omega) (by omega)).trans (by rw [hC0]), Option.bind_some, Option.bind_none, bd2, bd3, bd4, nm]
  simp only [pt_gR hj ((o0 _ (by omega)).trans s1) (by omega : e + 23 < 120) (k := 1) rfl, pt_gR hj ((o0 _ (by omega)).trans t1) (by omega : b + 23 < 120) (k := 1) rfl, show cpI (pt ca S0 C0) (ca (e + 25)) (0 : Int32) (ca (b + 25)) (0 : Int32) (8 : Int32) = some (pt ca S0 C1) from (pt_cpI hj ((o0 _ (by omega)).trans s3) ((o0 _ (by omega)).trans t3) (by omega) (by omega) (by omega)).trans (by rw [hC1]), Option.bind_some, Option.bind_none, bd2, bd3, bd4, nm]
  simp only [pt_gR hj ((p1 _ (by omega)).trans s1) (by omega : e + 23 < 120) (k := 2) rfl, pt_gR hj ((p1 _ (by omega)).trans t1) (by omega : b + 23 < 120) (k := 2) rfl, show cpI (pt ca S0 C1) (ca (e + 26)) (0 : Int32) (ca (b + 26)) (0 : Int32) (8 : Int32) = some (pt ca S0 C2) from (pt_cpI hj ((p1 _ (by omega)).trans s4) ((p1 _ (by omega)).trans t4) (by omega) (by omega) (by omega)).trans (by rw [hC2]), Option.bind_some, Option.bind_none, bd2, bd3, bd4, nm]
  have u1 : C2 (e + 23) = _ := (p2 _ (by omega)).trans s1
  have u3 : C2 (b + 23) = _ := (p2 _ (by omega)).trans t1
  simp only [pt_gI hj u1 (by omega : e + 23 < 120) (k := 3) rfl, pt_pI hj u3 (by omega : b + 23 < 120) (show 3 < 4 by omega), List.set_cons_succ, List.set_cons_zero, Option.bind_some, Option.bind_none, bd2, bd3, bd4, nm]
  refine ⟨_, rfl, ⟨va_cpy ki li 0 0 8, va_cpy se te 0 0 8, va_cpy ex ey 0 0 8, va_up_self _ _ _, ?_, ?_, ?_, fun w hw9 => ?_⟩, fun i hi => ?_⟩
  · rw [va_up_ne _ _ (by omega), o2 _ (by omega), o1 _ (by omega), hC0, va_up_self]
  · rw [va_up_ne _ _ (by omega), o2 _ (by omega), hC1, va_up_self]
  · rw [va_up_ne _ _ (by omega), hC2, va_up_self]
  · rw [cpy_at (by omega), cpy_at (by omega), cpy_at (by omega)]
    exact s5 w hw9
  · rw [va_up_ne _ _ (by omega)]; exact p2 i (by omega)
theorem d_copy (hj : injC ca) (hb : b + 27 ≤ 120) (he : e + 27 ≤ 120) (hd : e + 27 ≤ b ∨ b + 27 ≤ e) (hw : WF σ τ) (hs : SC ca σ τ C e) (ht : SC ca ρ υ C b) : ∃ D, f_X5_copyFrom (pt ca S0 C) (ca b) (ca e) = some (pt ca S0 D) ∧ SC ca σ τ D b ∧ ∀ i, i < b ∨ b + 27 ≤ i → D i = C i := by
  obtain ⟨D1, e1, n1, x1⟩ := d_copyN (S0 := S0) hj hb he hd hw hs.2.1 ht.2.1
  have s1 : SC ca σ τ D1 e := SC_fr hs (fun i q1 q2 => x1 i (by omega))
  have b1 : D1 b = _ := (x1 b (by omega)).trans ht.1
  have k1 : KC ca ρ D1 b := KC_f ht.2.2.1 (fun i q1 q2 => x1 i (by omega))
  have a1 : AC ca ρ υ D1 b := AC_f ht.2.2.2.1 (fun i q1 q2 => x1 i (by omega))
  have w1 : WC ca ρ υ D1 b := WC_f ht.2.2.2.2 (fun i q1 q2 => x1 i (by omega))
  obtain ⟨D2, e2, n2, x2⟩ := d_copyK (S0 := S0) hj hb he hd s1.2.2.1 k1
  have s2 : SC ca σ τ D2 e := SC_fr s1 (fun i q1 q2 => x2 i (by omega))
  have b2 : D2 b = _ := (x2 b (by omega)).trans b1
  have a2 : AC ca ρ υ D2 b := AC_f a1 (fun i q1 q2 => x2 i (by omega))
  have w2 : WC ca ρ υ D2 b := WC_f w1 (fun i q1 q2 => x2 i (by omega))
  obtain ⟨D3, e3, n3, x3⟩ := d_copyA (S0 := S0) hj hb he hd hw s2.2.2.2.1 a2
  have s3 : SC ca σ τ D3 e := SC_fr s2 (fun i q1 q2 => x3 i (by omega))
  have b3 : D3 b = _ := (x3 b (by omega)).trans b2
  have w3 : WC ca ρ υ D3 b := WC_f w2 (fun i q1 q2 => x3 i (by omega))
  obtain ⟨D4, e4, n4, x4⟩ := d_copyW (S0 := S0) hj hb he hd hw s3.2.2.2.2 w3
  obtain ⟨fr, rows, q16, -⟩ := a2
  obtain ⟨ki, se, ex, q23, -⟩ := w3
  unfold f_X5_copyFrom
  simp only [pt_gR hj ht.1 (by omega : b < 120) (k := 0) rfl, pt_gR hj hs.1 (by omega : e < 120) (k := 0) rfl, n_ck hj hb ht.2.1, e1, Option.bind_some, Option.bind_none, bd2, bd3, bd4, nm]
  simp only [pt_gR hj b1 (by omega : b < 120) (k := 1) rfl, pt_gR hj s1.1 (by omega : e < 120) (k := 1) rfl, k_ck hj hb k1, e2, Option.bind_some, Option.bind_none, bd2, bd3, bd4, nm]
  simp only [pt_gR hj b2 (by omega : b < 120) (k := 2) rfl, pt_gR hj s2.1 (by omega : e < 120) (k := 2) rfl, pt_ck hj q16 (by omega : b + 16 < 120), e3, Option.bind_some, Option.bind_none, bd2, bd3, bd4, nm]
  simp only [pt_gR hj b3 (by omega : b < 120) (k := 3) rfl, pt_gR hj s3.1 (by omega : e < 120) (k := 3) rfl, pt_ck hj q23 (by omega : b + 23 < 120), e4, Option.bind_some, Option.bind_none, bd2, bd3, bd4, nm]
  refine ⟨D4, rfl, ⟨(x4 b (by omega)).trans b3, ?_, ?_, ?_, n4⟩, fun i hi => ?_⟩
  · exact NC_f n1 (fun i q1 q2 => (x4 i (by omega)).trans ((x3 i (by omega)).trans (x2 i (by omega))))
  · exact KC_f n2 (fun i q1 q2 => (x4 i (by omega)).trans (x3 i (by omega)))
  · exact AC_f n3 (fun i q1 q2 => x4 i (by omega))
  · rw [x4 i (by omega), x3 i (by omega), x2 i (by omega), x1 i (by omega)]
end COPY
