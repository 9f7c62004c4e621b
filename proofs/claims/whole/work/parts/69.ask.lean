/-! ===== the class's ask ===== -/
theorem NC_f {ca : Nat → Nat} {σ : SG} {C D : Nat → PE} {b : Nat} (h : NC ca σ C b) (he : ∀ i, b + 1 ≤ i → i < b + 9 → D i = C i) : NC ca σ D b := by
  obtain ⟨cu, ow, le, gr, ne, va, fi, h1, h2, h3, h4, h5, h6, h7, h8, h9⟩ := h
  refine ⟨cu, ow, le, gr, ne, va, fi, ?_, ?_, ?_, ?_, ?_, ?_, ?_, ?_, h9⟩
  all_goals (rw [he _ (by omega) (by omega)]; assumption)
theorem KC_f {ca : Nat → Nat} {σ : SG} {C D : Nat → PE} {b : Nat} (h : KC ca σ C b) (he : ∀ i, b + 9 ≤ i → i < b + 16 → D i = C i) : KC ca σ D b := by
  obtain ⟨ld, lr, fr, rows, h1, h2, h3, h4, h5⟩ := h
  refine ⟨ld, lr, fr, rows, ?_, ?_, ?_, ?_, h5⟩
  · rw [he _ (by omega) (by omega)]; exact h1
  · rw [he _ (by omega) (by omega)]; exact h2
  · rw [he _ (by omega) (by omega)]; exact h3
  · intro a ha
    rw [he _ (by omega) (by omega)]; exact h4 a ha
theorem AC_f {ca : Nat → Nat} {σ : SG} {τ : TG} {C D : Nat → PE} {b : Nat} (h : AC ca σ τ C b) (he : ∀ i, b + 16 ≤ i → i < b + 23 → D i = C i) : AC ca σ τ D b := by
  obtain ⟨fr, rows, h1, h2, h3⟩ := h
  refine ⟨fr, rows, ?_, ?_, ?_⟩
  · rw [he _ (by omega) (by omega)]; exact h1
  · rw [he _ (by omega) (by omega)]; exact h2
  · intro j hj
    rw [he _ (by omega) (by omega)]; exact h3 j hj
theorem WC_f {ca : Nat → Nat} {σ : SG} {τ : TG} {C D : Nat → PE} {b : Nat} (h : WC ca σ τ C b) (he : ∀ i, b + 23 ≤ i → i < b + 27 → D i = C i) : WC ca σ τ D b := by
  obtain ⟨ki, se, ex, h1, h2, h3, h4, h5⟩ := h
  refine ⟨ki, se, ex, ?_, ?_, ?_, ?_, h5⟩
  all_goals (rw [he _ (by omega) (by omega)]; assumption)
section ASK
variable {ca : Nat → Nat} {S0 : PH} {C : Nat → PE} {b : Nat} {σ : SG} {τ : TG}
theorem ask_step (hj : injC ca) (hb : b + 27 ≤ 120) {fr : Nat → Option Nat} {rows : Nat → Int32} {K j : Nat} {F : Int32} (h16 : C (b + 16) = eO 0 [.ref (ca (b + 17)), .int (nI K), .int F]) (h17 : C (b + 17) = eR 1 5 fr) (hfr : fr j = some (ca (b + 18 + j))) (hr : C (b + 18 + j) = eI 200 rows) (hj5 : j < 5) (hK : K < 200) (v : Int32) {β : Type} (k : PH → Option β) :
    ((gR (pt ca S0 C) (ca (b + 16)) 0 0).bind fun x1 => (ldR 1 (pt ca S0 C) x1 (nI j)).bind fun x2 => (gI (pt ca S0 C) (ca (b + 16)) 0 1).bind fun x3 => (stI (pt ca S0 C) x2 x3 v).bind k) = k (pt ca S0 (va_up C (b + 18 + j) (eI 200 (upd rows K v)))) := by
  simp only [pt_gR hj h16 (by omega : b + 16 < 120) (k := 0) rfl, pt_ldR hj h17 (by omega : b + 17 < 120) hj5 (by omega) hfr, pt_gI hj h16 (by omega : b + 16 < 120) (k := 1) rfl, pt_stI hj hr (by omega : b + 18 + j < 120) hK (by omega), Option.bind_some]
theorem d_addAsk (hj : injC ca) (hb : b + 27 ≤ 120) (h : AC ca σ τ C b) (hK : gK σ < 200) (v1 v2 v3 v4 v5 : Int32) {ρ : SG} {υ : TG} (eK : gK ρ = gK σ + 1) (eF : gF ρ = if v5 = -2 then gF σ + 1 else gF σ) (eτ : ∀ j k, j < 5 → υ j k = if k = gK σ then (if j = 0 then v1 else if j = 1 then v2 else if j = 2 then v3 else if j = 3 then v4 else v5) else τ j k) : ∃ D, f_X0_add (pt ca S0 C) (ca (b + 16)) v1 v2 v3 v4 v5 = some (pt ca S0 D) ∧ AC ca ρ υ D b ∧ ∀ i, i < b + 16 ∨ b + 23 ≤ i → D i = C i := by
  obtain ⟨fr, rows, h16, h17, h18⟩ := h
  have f0 := h18 0 (by omega)
  have f1 := h18 1 (by omega)
  have f2 := h18 2 (by omega)
  have f3 := h18 3 (by omega)
  have f4 := h18 4 (by omega)
  obtain ⟨C1, hC1⟩ : ∃ X, X = va_up C (b + 18 + 0) (eI 200 (upd (rows 0) (gK σ) v1)) := ⟨_, rfl⟩
  obtain ⟨C2, hC2⟩ : ∃ X, X = va_up C1 (b + 18 + 1) (eI 200 (upd (rows 1) (gK σ) v2)) := ⟨_, rfl⟩
  obtain ⟨C3, hC3⟩ : ∃ X, X = va_up C2 (b + 18 + 2) (eI 200 (upd (rows 2) (gK σ) v3)) := ⟨_, rfl⟩
  obtain ⟨C4, hC4⟩ : ∃ X, X = va_up C3 (b + 18 + 3) (eI 200 (upd (rows 3) (gK σ) v4)) := ⟨_, rfl⟩
  obtain ⟨C5, hC5⟩ : ∃ X, X = va_up C4 (b + 18 + 4) (eI 200 (upd (rows 4) (gK σ) v5)) := ⟨_, rfl⟩
  have o1 : ∀ i, i ≠ b + 18 + 0 → C1 i = C i := fun i hi => by rw [hC1, va_up_ne _ _ hi]
  have o2 : ∀ i, i ≠ b + 18 + 1 → C2 i = C1 i := fun i hi => by rw [hC2, va_up_ne _ _ hi]
  have o3 : ∀ i, i ≠ b + 18 + 2 → C3 i = C2 i := fun i hi => by rw [hC3, va_up_ne _ _ hi]
  have o4 : ∀ i, i ≠ b + 18 + 3 → C4 i = C3 i := fun i hi => by rw [hC4, va_up_ne _ _ hi]
  have o5 : ∀ i, i ≠ b + 18 + 4 → C5 i = C4 i := fun i hi => by rw [hC5, va_up_ne _ _ hi]
  have a16 : C1 (b + 16) = _ := (o1 _ (by omega)).trans h16
  have b16 : C2 (b + 16) = _ := (o2 _ (by omega)).trans a16
  have c16 : C3 (b + 16) = _ := (o3 _ (by omega)).trans b16
  have d16 : C4 (b + 16) = _ := (o4 _ (by omega)).trans c16
  have e16 : C5 (b + 16) = _ := (o5 _ (by omega)).trans d16
  have a17 : C1 (b + 17) = _ := (o1 _ (by omega)).trans h17
  have b17 : C2 (b + 17) = _ := (o2 _ (by omega)).trans a17
  have c17 : C3 (b + 17) = _ := (o3 _ (by omega)).trans b17
  have d17 : C4 (b + 17) = _ := (o4 _ (by omega)).trans c17
  have e17 : C5 (b + 17) = _ := (o5 _ (by omega)).trans d17
  have r1 : C1 (b + 18 + 1) = _ := (o1 _ (by omega)).trans f1.2.1
  have r2 : C2 (b + 18 + 2) = _ := (o2 _ (by omega)).trans ((o1 _ (by omega)).trans f2.2.1)
  have r3 : C3 (b + 18 + 3) = _ := (o3 _ (by omega)).trans ((o2 _ (by omega)).trans ((o1 _ (by omega)).trans f3.2.1))
  have r4 : C4 (b + 18 + 4) = _ := (o4 _ (by omega)).trans ((o3 _ (by omega)).trans ((o2 _ (by omega)).trans ((o1 _ (by omega)).trans f4.2.1)))
  have g5 : ∀ j, j < 5 → C5 (b + 18 + j) = eI 200 (upd (rows j) (gK σ) (if j = 0 then v1 else if j = 1 then v2 else if j = 2 then v3 else if j = 3 then v4 else v5)) := by
    intro j hj5
    by_cases j0 : j = 0
    · subst j0
      rw [if_pos rfl, o5 _ (by omega), o4 _ (by omega), o3 _ (by omega), o2 _ (by omega), hC1, va_up_self]
    · rw [if_neg j0]
      by_cases j1 : j = 1
      · subst j1
        rw [if_pos rfl, o5 _ (by omega), o4 _ (by omega), o3 _ (by omega), hC2, va_up_self]
      · rw [if_neg j1]
        by_cases j2 : j = 2
        · subst j2
          rw [if_pos rfl, o5 _ (by omega), o4 _ (by omega), hC3, va_up_self]
        · rw [if_neg j2]
          by_cases j3 : j = 3
          · subst j3
            rw [if_pos rfl, o5 _ (by omega), hC4, va_up_self]
          · rw [if_neg j3]
            have : j = 4 := by omega
            subst this
            rw [hC5, va_up_self]
  have fin5 : ∀ D : Nat → PE, D (b + 16) = eO 0 [.ref (ca (b + 17)), .int (nI (gK ρ)), .int (nI (gF ρ))] → (∀ i, i ≠ b + 16 → D i = C5 i) → AC ca ρ υ D b ∧ ∀ i, i < b + 16 ∨ b + 23 ≤ i → D i = C i := by
    intro D hD16 hDo
    refine ⟨⟨fr, fun j => upd (rows j) (gK σ) (if j = 0 then v1 else if j = 1 then v2 else if j = 2 then v3 else if j = 3 then v4 else v5), hD16, ?_, fun j hj5 => ⟨(h18 j hj5).1, ?_, fun k hk => ?_⟩⟩, fun i hi => ?_⟩
    · rw [hDo _ (by omega)]; exact e17
    · rw [hDo _ (by omega)]; exact g5 j hj5
    · rw [eτ j k hj5]
      by_cases q : k = gK σ
      · rw [if_pos q, q]
        exact pk_us
      · rw [if_neg q]
        exact (pk_un q).trans ((h18 j hj5).2.2 k (by omega))
    · rw [hDo _ (by omega), o5 _ (by omega), o4 _ (by omega), o3 _ (by omega), o2 _ (by omega), o1 _ (by omega)]
  have main : ∀ {β : Type} (k : PH → Option β), ((gR (pt ca S0 C) (ca (b + 16)) 0 0).bind fun x1 =>
(ldR 1 (pt ca S0 C) x1 (0 : Int32)).bind fun x2 =>
(gI (pt ca S0 C) (ca (b + 16)) 0 1).bind fun x3 =>
(stI (pt ca S0 C) x2 x3 v1).bind fun S4 =>
(gR S4 (ca (b + 16)) 0 0).bind fun x5 =>
(ldR 1 S4 x5 (1 : Int32)).bind fun x6 =>
(gI S4 (ca (b + 16)) 0 1).bind fun x7 =>
(stI S4 x6 x7 v2).bind fun S8 =>
(gR S8 (ca (b + 16)) 0 0).bind fun x9 =>
(ldR 1 S8 x9 (2 : Int32)).bind fun x10 =>
(gI S8 (ca (b + 16)) 0 1).bind fun x11 =>
(stI S8 x10 x11 v3).bind fun S12 =>
(gR S12 (ca (b + 16)) 0 0).bind fun x13 =>
(ldR 1 S12 x13 (3 : Int32)).bind fun x14 =>
(gI S12 (ca (b + 16)) 0 1).bind fun x15 =>
(stI S12 x14 x15 v4).bind fun S16 =>
(gR S16 (ca (b + 16)) 0 0).bind fun x17 =>
(ldR 1 S16 x17 (4 : Int32)).bind fun x18 =>
(gI S16 (ca (b + 16)) 0 1).bind fun x19 =>
(stI S16 x18 x19 v5).bind k) = k (pt ca S0 C5) := by
    intro β k
    refine (ask_step (j := 0) hj hb h16 h17 f0.1 f0.2.1 (by omega) hK v1 _).trans ?_
    rw [← hC1]
    refine (ask_step (j := 1) hj hb a16 a17 f1.1 r1 (by omega) hK v2 _).trans ?_
    rw [← hC2]
    refine (ask_step (j := 2) hj hb b16 b17 f2.1 r2 (by omega) hK v3 _).trans ?_
    rw [← hC3]
    refine (ask_step (j := 3) hj hb c16 c17 f3.1 r3 (by omega) hK v4 _).trans ?_
    rw [← hC4]
    refine (ask_step (j := 4) hj hb d16 d17 f4.1 r4 (by omega) hK v5 _).trans ?_
    rw [← hC5]
  unfold f_X0_add
  rw [main]
  simp only [pt_gI hj e16 (by omega : b + 16 < 120) (k := 1) rfl, pt_pI hj e16 (by omega : b + 16 < 120) (show 1 < 3 by omega), Option.bind_some, Option.bind_none, bd2, bd3, bd4, nm]
  have e16' : va_up C5 (b + 16) (eO 0 ([.ref (ca (b + 17)), .int (nI (gK σ)), .int (nI (gF σ))].set 1 (.int (nI (gK σ) + 1)))) (b + 16) = eO 0 [.ref (ca (b + 17)), .int (nI (gK σ) + 1), .int (nI (gF σ))] := va_up_self _ _ _
  by_cases c : v5 = -2
  · rw [if_pos c] at eF ⊢
    simp only [pt_gI hj e16' (by omega : b + 16 < 120) (k := 2) rfl, pt_pI hj e16' (by omega : b + 16 < 120) (show 2 < 3 by omega), Option.bind_some, Option.bind_none, bd2, bd3, bd4, nm]
    refine ⟨_, rfl, fin5 _ ?_ (fun i hi => by rw [va_up_ne _ _ hi, va_up_ne _ _ hi])⟩
    rw [va_up_self, eK, eF, nI_1, nI_1]
    rfl
  · rw [if_neg c] at eF ⊢
    refine ⟨_, rfl, fin5 _ ?_ (fun i hi => by rw [va_up_ne _ _ hi])⟩
    rw [va_up_self, eK, eF, nI_1]
    rfl
theorem d_keep (hj : injC ca) {r T v : Nat} {f : Nat → Int64} {af : Nat → Int32} {an : Nat → Nat} (hr : r < 120) (hr2 : 12 ≤ r) (hC : C r = eJ 64 f) (h5 : C 5 = eI 4096 af) (hT : T ≤ 4096) (haf : ∀ t, t < T → af t = nI (an t)) (han : ∀ t, an t < 64) (hv : v < 64) : ∃ g, lpo (fun x : Int32 × PH => f_X1_keepOnly_L10 x.2 (nI T) (ca 5) (nI v) (ca r) x.1) FU ((0 : Int32), pt ca S0 C) = some (pt ca S0 (va_up C r (eJ 64 g))) ∧ ∀ t, t < 4096 → bw g t = (bw f t && decide (t < T → an t = v)) := by
  have hup : va_up C r (eJ 64 f) = C := by
    funext q
    by_cases e : q = r
    · subst e; rw [va_up_self, hC]
    · rw [va_up_ne _ _ e]
  have key := lpo_run (b := fun x : Int32 × PH => f_X1_keepOnly_L10 x.2 (nI T) (ca 5) (nI v) (ca r) x.1)
    (fun n y => ∃ g, y = (nI n, pt ca S0 (va_up C r (eJ 64 g))) ∧ ∀ t, t < 4096 → bw g t = (bw f t && decide (t < n → an t = v)))
    (fun y => ∃ g, y = pt ca S0 (va_up C r (eJ 64 g)) ∧ ∀ t, t < 4096 → bw g t = (bw f t && decide (t < T → an t = v))) T (by omega) (x := ((0 : Int32), pt ca S0 C))
    ⟨f, by rw [hup]; rfl, fun t ht => by rw [decide_eq_true (fun q => absurd q (Nat.not_lt_zero t)), Bool.and_true]⟩ (by
      rintro n y hn ⟨g, rfl, hg⟩
      have g5 : va_up C r (eJ 64 g) 5 = eI 4096 af := (va_up_ne _ _ (by omega)).trans h5
      have gr : va_up C r (eJ 64 g) r = eJ 64 g := va_up_self _ _ _
      left
      show ∃ x', f_X1_keepOnly_L10 (pt ca S0 (va_up C r (eJ 64 g))) (nI T) (ca 5) (nI v) (ca r) (nI n) = _ ∧ _
      unfold f_X1_keepOnly_L10
      rw [if_neg (by rw [q_le (by omega) (by omega)]; omega), show (64 : Int32) = nI 64 from rfl, pk_rem (by omega) (by omega) (by omega), pk_div (by omega) (by omega) (by omega)]
      simp only [pt_ldI hj g5 (by omega : 5 < 120) (show n < 4096 by omega) (by omega), haf n hn, pt_ldJ hj gr hr (show n / 64 < 64 by omega) (by omega), pt_stJ hj gr hr (show n / 64 < 64 by omega) (by omega), va_up_up, f_X1_keepOnly_b47, nI_1, Option.bind_some, Option.bind_none, bd2, bd3, bd4, nm]
      have hann := han n
      by_cases c : an n = v
      · rw [if_pos (congrArg nI c)]
        refine ⟨_, rfl, g, rfl, fun t ht => ?_⟩
        rw [hg t ht]
        congr 1
        by_cases q : t = n
        · subst q; simp [c]
        · have : (t < n → an t = v) ↔ (t < n + 1 → an t = v) := ⟨fun h1 h2 => h1 (by omega), fun h1 h2 => h1 (by omega)⟩
          simp only [this]
      · rw [if_neg (fun q => c ((nI_eq (by omega) (by omega)).mp q))]
        refine ⟨_, rfl, _, rfl, fun t ht => ?_⟩
        rw [bw_clr, hg t ht, Bool.and_assoc]
        congr 1
        by_cases q : t = n
        · subst q; simp [c]
        · have : (t < n → an t = v) ↔ (t < n + 1 → an t = v) := ⟨fun h1 h2 => h1 (by omega), fun h1 h2 => h1 (by omega)⟩
          simp only [this, ne_eq, q, not_false_eq_true, decide_true, Bool.and_true]) (by
      rintro y ⟨g, rfl, hg⟩
      refine ⟨_, ?_, g, rfl, hg⟩
      show f_X1_keepOnly_L10 (pt ca S0 (va_up C r (eJ 64 g))) (nI T) (ca 5) (nI v) (ca r) (nI T) = _
      unfold f_X1_keepOnly_L10
      rw [if_pos (by rw [q_le (by omega) (by omega)]; omega)])
  obtain ⟨S', e1, g, rfl, hg⟩ := key
  exact ⟨g, e1, hg⟩
theorem d_keepOnly (hj : injC ca) (hb : b + 27 ≤ 120) (hb2 : 12 ≤ b) (hw : WF σ τ) (h : KC ca σ C b) {i v : Nat} {af : Nat → Int32} {an : Nat → Nat} (hi9 : i < 4) (h5 : C 5 = eI 4096 af) (haf : ∀ t, t < gT σ → af t = nI (an t)) (han : ∀ t, an t < 64) (hv : v < 64) : ∃ D, f_X1_keepOnly (pt ca S0 C) (ca (b + 9)) (nI i) (nI (gT σ)) (ca 5) (nI v) = some (pt ca S0 D) ∧ KC ca (gA σ i an v (gT σ)) D b ∧ ∀ k, k < b + 12 ∨ b + 16 ≤ k → D k = C k := by
  have hT := hw.tle
  obtain ⟨ld, lr, fr, rows, hX⟩ := id h
  have hX : KX ca σ C b ld lr fr rows := hX
  obtain ⟨h1, h2, h3, h4, h5g⟩ := id hX
  obtain ⟨a1, a2, a3, a4, a5, a6⟩ := h4 i hi9
  obtain ⟨c1, c2, -⟩ := h4 (ld i) a4
  obtain ⟨g, eg, hg⟩ := d_keep (S0 := S0) hj (T := gT σ) (v := v) (by omega : b + 12 + ld i < 120) (by omega) c2 h5 hT haf han hv
  unfold f_X1_keepOnly
  unfold f_X1_leftOf
  simp only [k_ck hj hb h, pt_gR hj h1 (by omega : b + 9 < 120) (k := 1) rfl, pt_gR hj h1 (by omega : b + 9 < 120) (k := 0) rfl, pt_ldI hj h2 (by omega : b + 10 < 120) hi9 (by omega), a3, pt_ldR hj h3 (by omega : b + 11 < 120) a4 (by omega) c1, eg, Option.bind_some, Option.bind_none, bd2, bd3, bd4, nm]
  refine ⟨_, rfl, ⟨ld, lr, fr, _, KX_row (ρ := gA σ i an v (gT σ)) hX a4 g (fun a ha t ht => ?_) (fun a ha => ?_)⟩, fun k hk => va_up_ne _ _ (by omega)⟩
  · obtain ⟨-, -, -, -, -, q6⟩ := h4 a ha
    rw [gA_T, gA_l ha]
    by_cases e : ld a = ld i
    · have eg9 := (h5g a i ha hi9).mp e
      rw [e, va_up_self, hg t ht, ← e, q6 t ht]
      by_cases e1 : t < gT σ
      · by_cases e2 : an t = v
        · rw [if_neg (fun q => q.2.1 e2)]
          simp [e1, e2]
        · rw [if_pos ⟨eg9, e2, e1⟩]
          simp [e1, e2]
      · simp [e1]
    · rw [va_up_ne _ _ e, if_neg (fun q => e ((h5g a i ha hi9).mpr q.1))]
      exact q6 t ht
  · show gA σ i an v (gT σ) 16 a = _
    rw [gA_f (by omega) (by omega)]
theorem d_ask (hj : injC ca) (hb : b + 27 ≤ 120) (hb2 : 12 ≤ b) (hw : WF σ τ) (h : SC ca σ τ C b) (ht : TOP ca C b) {a k s x r : Int32} {σ' : SG} {τ' : TG} (hR : AR σ τ a k s x r σ' τ') : ∃ D, f_X7_ask (pt ca S0 C) (ca 0) a k s x = some (r, pt ca S0 D) ∧ SC ca σ' τ' D b ∧ TOP ca D b ∧ FS C D b := by
  have h200 := hw.k200
  unfold f_X7_ask
  rw [d_isAsker, d_isQuestion]
  simp only [ite10, Option.bind_some, Option.bind_none, bd2, bd3, bd4, nm]
  rcases hR with ⟨i, j, q, rfl, hi9, rfl, hk, hK, hJ, rfl, hcase⟩ | ⟨hn, rfl, rfl, rfl⟩
  · rw [if_neg (fun c => c (rng4 hi9)), if_neg (fun c => c (okq_ask hk))]
    simp only [pt_gR hj ht.1 (by omega : 0 < 120) (k := 0) rfl, pt_gR hj h.1 (by omega : b < 120) (k := 2) rfl, pt_gR hj h.1 (by omega : b < 120) (k := 0) rfl, a_g1 hj hb h.2.2.2.1, Option.bind_some, Option.bind_none, bd2, bd3, bd4, nm]
    rw [if_pos (show nI (gK σ) < (200 : Int32) from nI_lt (b := 200) hK (by omega))]
    obtain ⟨r', D, f, e1, hr', hJ', hF, hT, hD5, hf⟩ := d_judge (S0 := S0) hj hb hb2 hw h ht hi9 hk (kn_lt σ s)
    have hrq := JR_one hJ' hJ
    subst hrq
    simp only [n_ck hj hb h.2.1, d_onlyPeople hj hb hw h.2.1, pt_ck hj ht.1 (by omega : 0 < 120), e1, Option.bind_some, Option.bind_none, bd2, bd3, bd4, nm]
    have sD := SC_FR h hb2 hF
    have htau : ∀ (ans : Int32) (j' k' : Nat), j' < 5 → tAsk σ τ (nI i) (nI j) (nI (kn σ s)) x ans j' k' = if k' = gK σ then (if j' = 0 then nI i else if j' = 1 then nI j else if j' = 2 then nI (kn σ s) else if j' = 3 then x else ans) else τ j' k' := by
      intro ans j' k' hj'
      show (if k' = gK σ ∧ j' < 5 then _ else _) = _
      by_cases q : k' = gK σ
      · rw [if_pos ⟨q, hj'⟩, if_pos q]
      · rw [if_neg (fun c => q c.1), if_neg q]
    have htau5 : ∀ (ans : Int32) (w : Nat), tAsk σ τ (nI i) (nI j) (nI (kn σ s)) x ans 5 w = τ 5 w := by
      intro ans w
      show (if w = gK σ ∧ 5 < 5 then _ else _) = _
      rw [if_neg (by omega)]
    rcases hcase with ⟨rfl, rfl, rfl⟩ | ⟨hq, rfl, rfl⟩
    · rw [if_pos (show nI 0 = (0 : Int32) from rfl)]
      unfold f_X7_ask_b114
      obtain ⟨E, eE, hE1, hE2⟩ := d_addAsk (S0 := S0) hj hb sD.2.2.2.1 hK (nI i) (nI j) (nI (kn σ s)) x (-2) (ρ := gRef σ) (υ := tAsk σ τ (nI i) (nI j) (nI (kn σ s)) x (-2)) rfl rfl (htau (-2))
      obtain ⟨fr, rows, q16, -⟩ := sD.2.2.2.1
      simp only [pt_gR hj hT.1 (by omega : 0 < 120) (k := 0) rfl, pt_gR hj sD.1 (by omega : b < 120) (k := 2) rfl, pt_ck hj q16 (by omega : b + 16 < 120), eE, Option.bind_some, Option.bind_none, bd2, bd3, bd4, nm]
      have gr : ∀ f, f < 20 → f ≠ 3 → f ≠ 4 → gRef σ f = σ f := fun f h1 h2 h3 => by
        show va_up (gA σ 0 (fun _ => 0) 0 0) 4 _ f = _
        rw [va_up_ne _ _ h3, gA_f h2 h1]
      have gl : ∀ a t, a < 4 → lef (gRef σ) a t = lef σ a t := fun a t ha => by
        show va_up (gA σ 0 (fun _ => 0) 0 0) 4 _ (20 + a) t = _
        rw [va_up_ne _ _ (by omega)]
        exact (gA_l ha).trans (if_neg (fun c => absurd c.2.2 (Nat.not_lt_zero t)))
      have gT9 : gT (gRef σ) = gT σ := by
        show stp (gRef σ) (gRef σ 1 0) = _
        rw [gr 1 (by omega) (by omega) (by omega)]
        exact stp_congr (ρ := gRef σ) (σ := σ) (fun n => by show gRef σ 12 n = _; rw [gr 12 (by omega) (by omega) (by omega)]) (fun n => by show gRef σ 13 n = _; rw [gr 13 (by omega) (by omega) (by omega)]) _
      refine ⟨E, rfl, ⟨?_, ?_, ?_, hE1, ?_⟩, TOP_fr hT (fun i hi => hE2 i (by omega)), FS_tr (FS_FR hb2 hF) (FS_of (fun i hi => hE2 i (by omega)) hb2)⟩
      · rw [hE2 _ (by omega)]; exact sD.1
      · exact NC_f (NC_s sD.2.1 (gr 0 (by omega) (by omega) (by omega)) (gr 1 (by omega) (by omega) (by omega)) (fun f h1 h2 => gr f (by omega) (by omega) (by omega))) (fun i h1 h2 => hE2 i (by omega))
      · exact KC_f (KC_s sD.2.2.1 gT9 gl (fun a _ => congrFun (gr 16 (by omega) (by omega) (by omega)) a)) (fun i h1 h2 => hE2 i (by omega))
      · exact WC_f (WC_s sD.2.2.2.2 (congrFun (gr 5 (by omega) (by omega) (by omega)) 0) (fun w => congrFun (gr 17 (by omega) (by omega) (by omega)) w) (fun w => congrFun (gr 18 (by omega) (by omega) (by omega)) w) (htau5 (-2))) (fun i h1 h2 => hE2 i (by omega))
    · rw [if_neg (show ¬ nI r' = (0 : Int32) from fun c => hq ((nI_eq (b := 0) (by omega) (by omega)).mp c))]
      have hhl := hid_lt hw _ (Nat.le_refl (gN σ))
      have hhT : hid σ (gN σ) < gT σ := hhl
      have hTl := hw.tle
      have hans : ansv σ j x.toNatClampNeg (kn σ s) (valt σ (hid σ (gN σ))) = ansv σ j x.toNatClampNeg (kn σ s) (vl σ) := ansv_v (fun n hn => valt_hid hw hn)
      have han : ∀ t, (fun t => ansv σ j x.toNatClampNeg (kn σ s) (valt σ t)) t < 64 := fun t => by
        have := ansv_le hw (k := j) (e := x.toNatClampNeg) (set := kn σ s) (v := valt σ t) (fun n hn => (valt_le hw hn t).1)
        show ansv σ j x.toNatClampNeg (kn σ s) (valt σ t) < 64
        omega
      have hv64 : ansv σ j x.toNatClampNeg (kn σ s) (vl σ) < 64 := by
        have := han (hid σ (gN σ))
        rw [← hans]
        exact this
      obtain ⟨E, eE, hE1, hE2⟩ := d_keepOnly (S0 := S0) hj hb hb2 hw sD.2.2.1 (v := ansv σ j x.toNatClampNeg (kn σ s) (vl σ)) hi9 hD5 hf han hv64
      have aE : AC ca σ τ E b := AC_f sD.2.2.2.1 (fun k h1 h2 => hE2 k (by omega))
      have hne : ¬ nI (ansv σ j x.toNatClampNeg (kn σ s) (vl σ)) = (-2 : Int32) := fun c => by
        have h0 : (0 : Int32) ≤ nI (ansv σ j x.toNatClampNeg (kn σ s) (vl σ)) := nI_pos' (by omega)
        rw [c] at h0
        exact absurd h0 (by decide)
      have gr : ∀ f, f < 20 → f ≠ 3 → gA σ i (fun t => ansv σ j x.toNatClampNeg (kn σ s) (valt σ t)) (ansv σ j x.toNatClampNeg (kn σ s) (vl σ)) (gT σ) f = σ f := fun f h1 h2 => gA_f h2 h1
      obtain ⟨G, eG, hG1, hG2⟩ := d_addAsk (S0 := S0) hj hb aE hK (nI i) (nI j) (nI (kn σ s)) x (nI (ansv σ j x.toNatClampNeg (kn σ s) (vl σ))) (ρ := gA σ i (fun t => ansv σ j x.toNatClampNeg (kn σ s) (valt σ t)) (ansv σ j x.toNatClampNeg (kn σ s) (vl σ)) (gT σ)) (υ := tAsk σ τ (nI i) (nI j) (nI (kn σ s)) x (nI (ansv σ j x.toNatClampNeg (kn σ s) (vl σ)))) rfl (by rw [if_neg hne]; exact congrFun (gr 4 (by omega) (by omega)) 0) (htau _)
      have hTE : TOP ca E b := TOP_fr hT (fun k hk => hE2 k (by omega))
      have hEb : E b = _ := (hE2 b (by omega)).trans sD.1
      obtain ⟨fr, rows, q16, -⟩ := aE
      simp only [pt_gR hj hT.1 (by omega : 0 < 120) (k := 0) rfl, pt_gR hj hT.1 (by omega : 0 < 120) (k := 3) rfl, pt_gR hj hT.2.1 (by omega : 3 < 120) (k := 1) rfl, pt_gR hj sD.1 (by omega : b < 120) (k := 0) rfl, pt_gR hj sD.1 (by omega : b < 120) (k := 1) rfl, n_ck hj hb sD.2.1, d_hiddenTable hj hb hw sD.2.1, n_g9 hj hb sD.2.1, k_ck hj hb sD.2.2.1, pt_ldI hj hD5 (by omega : 5 < 120) (show hid σ (gN σ) < 4096 by omega) (by omega), hf _ hhT, hans, eE, f_X7_ask_b114, pt_gR hj hTE.1 (by omega : 0 < 120) (k := 0) rfl, pt_gR hj hEb (by omega : b < 120) (k := 2) rfl, pt_ck hj q16 (by omega : b + 16 < 120), eG, Option.bind_some, Option.bind_none, bd2, bd3, bd4, nm]
      have hGo : ∀ k, k < b + 12 ∨ b + 23 ≤ k → G k = D k := fun k hk => (hG2 k (by omega)).trans (hE2 k (by omega))
      refine ⟨G, rfl, ⟨?_, ?_, ?_, hG1, ?_⟩, TOP_fr hT (fun i hi => hGo i (by omega)), FS_tr (FS_FR hb2 hF) (FS_of (fun i hi => hGo i (by omega)) hb2)⟩
      · rw [hGo _ (by omega)]; exact sD.1
      · exact NC_f (NC_s sD.2.1 (gr 0 (by omega) (by omega)) (gr 1 (by omega) (by omega)) (fun f h1 h2 => gr f (by omega) (by omega))) (fun i h1 h2 => hGo i (by omega))
      · exact KC_f hE1 (fun i h1 h2 => hG2 i (by omega))
      · exact WC_f (WC_s sD.2.2.2.2 (congrFun (gr 5 (by omega) (by omega)) 0) (fun w => congrFun (gr 17 (by omega) (by omega)) w) (fun w => congrFun (gr 18 (by omega) (by omega)) w) (htau5 _)) (fun i h1 h2 => hGo i (by omega))
  · by_cases c1 : rng a 4
    · rw [if_neg (fun c => c c1)]
      by_cases c2 : askok k x
      · rw [if_neg (fun c => c c2)]
        have hK : ¬ gK σ' < 200 := fun q => hn ⟨c1, c2, q⟩
        simp only [pt_gR hj ht.1 (by omega : 0 < 120) (k := 0) rfl, pt_gR hj h.1 (by omega : b < 120) (k := 2) rfl, a_g1 hj hb h.2.2.2.1, Option.bind_some, Option.bind_none, bd2, bd3, bd4, nm]
        rw [if_neg (show ¬ nI (gK σ') < (200 : Int32) from nI_nlt (b := 200) (by omega) (by omega))]
        exact ⟨C, rfl, h, ht, FS_rf C b⟩
      · rw [if_pos c2]
        exact ⟨C, rfl, h, ht, FS_rf C b⟩
    · rw [if_pos c1]
      exact ⟨C, rfl, h, ht, FS_rf C b⟩
end ASK
