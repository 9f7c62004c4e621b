/-! ===== cells of the sheet, and the judge ===== -/
def TOP (ca : Nat → Nat) (C : Nat → PE) (b : Nat) : Prop :=
  C 0 = eO 7 [.ref (ca b), .ref (ca 1), .ref (ca 2), .ref (ca 3), .ref (ca 7)] ∧ C 3 = eO 3 [.ref (ca 4), .ref (ca 5), .ref (ca 6)] ∧
  (∃ f, C 4 = eJ 4096 f) ∧ (∃ f, C 5 = eI 4096 f) ∧ (∃ f, C 6 = eJ 64 f) ∧
  (∃ (p q : Nat) (nu ma : Value) (sz : Int32), ((p = 9 ∧ q = 10) ∨ (p = 10 ∧ q = 9)) ∧ C 7 = eO 4 [.ref (ca 8), .ref (ca p), .ref (ca q), .ref (ca 11), nu, ma, .int sz]) ∧
  (∃ f, C 8 = eJ 4096 f) ∧ (∃ f, C 9 = eI 4096 f) ∧ (∃ f, C 10 = eI 4096 f) ∧ ∃ f, C 11 = eI 65 f
/-- nothing but the sheet and the sorter has changed -/
def FR (C D : Nat → PE) : Prop := ∀ i, i < 3 ∨ 12 ≤ i → D i = C i
theorem FR_rf (C : Nat → PE) : FR C C := fun _ _ => rfl
theorem FR_tr {C D E : Nat → PE} (h : FR C D) (g : FR D E) : FR C E := fun i hi => (g i hi).trans (h i hi)
theorem FR_up {C : Nat → PE} {k : Nat} {e : PE} (h : 3 ≤ k) (h2 : k < 12) : FR C (va_up C k e) := fun i hi => va_up_ne _ _ (by omega)
theorem sh_63 : ∀ k, k < 64 → ((nI k).toInt64.toUInt64 &&& Int64.toUInt64 63).toNat = k := by decide +kernel
section CELLS
variable {ca : Nat → Nat} {S0 : PH} {C : Nat → PE} {b : Nat} {σ : SG} {τ : TG}
theorem SC_FR {D : Nat → PE} (h : SC ca σ τ C b) (hb2 : 12 ≤ b) (hf : FR C D) : SC ca σ τ D b := SC_fr h (fun i h1 _ => hf i (by omega))
theorem TOP_4 (h : TOP ca C b) (f : Nat → Int64) : TOP ca (va_up C 4 (eJ 4096 f)) b := by
  obtain ⟨h0, h3, h4, h5, h6, h7, h8, h9, h10, h11⟩ := h
  exact ⟨h0, h3, ⟨f, va_up_self _ _ _⟩, h5, h6, h7, h8, h9, h10, h11⟩
theorem TOP_5 (h : TOP ca C b) (f : Nat → Int32) : TOP ca (va_up C 5 (eI 4096 f)) b := by
  obtain ⟨h0, h3, h4, h5, h6, h7, h8, h9, h10, h11⟩ := h
  exact ⟨h0, h3, h4, ⟨f, va_up_self _ _ _⟩, h6, h7, h8, h9, h10, h11⟩
theorem TOP_6 (h : TOP ca C b) (f : Nat → Int64) : TOP ca (va_up C 6 (eJ 64 f)) b := by
  obtain ⟨h0, h3, h4, h5, h6, h7, h8, h9, h10, h11⟩ := h
  exact ⟨h0, h3, h4, h5, ⟨f, va_up_self _ _ _⟩, h7, h8, h9, h10, h11⟩
theorem d_holds (hj : injC ca) {r t : Nat} {f : Nat → Int64} (hr : r < 120) (hC : C r = eJ 64 f) (ht : t < 4096) : f_X1_holds (pt ca S0 C) (ca r) (nI t) = some (if bw f t = true then 1 else 0) := by
  unfold f_X1_holds
  rw [show (64 : Int32) = nI 64 from rfl, pk_rem (by omega) (by omega) (by omega), pk_div (by omega) (by omega) (by omega)]
  simp only [pt_ldJ hj hC hr (show t / 64 < 64 by omega) (by omega), Option.bind_some, Option.bind_none, bd2, bd3, bd4, nm]
  have h1 := ts_bit (w := f (t / 64)) (show t % 64 < 64 by omega) (sh_63 (t % 64) (by omega))
  by_cases e : bw f t = true
  · rw [if_neg (fun q => by
      have := h1.mp ((lg_cmp_eq _ _).mp q)
      unfold bw at e
      rw [e] at this
      cases this), if_pos e]
  · rw [if_pos ((lg_cmp_eq _ _).mpr (h1.mpr (ts_nt e))), if_neg e]
theorem k_left (hj : injC ca) (hb : b + 27 ≤ 120) (h : KC ca σ C b) {a : Nat} (ha : a < 4) : ∃ r f, f_X1_leftOf (pt ca S0 C) (ca (b + 9)) (nI a) = some (ca r) ∧ C r = eJ 64 f ∧ b + 12 ≤ r ∧ r < b + 16 ∧ ∀ t, t < 4096 → bw f t = decide (t < gT σ ∧ lef σ a t = 1) := by
  obtain ⟨ld, lr, fr, rows, h1, h2, h3, h4, h5⟩ := h
  obtain ⟨a1, a2, a3, a4, a5, a6⟩ := h4 a ha
  obtain ⟨c1, c2, -⟩ := h4 (ld a) a4
  refine ⟨b + 12 + ld a, rows (ld a), ?_, c2, by omega, by omega, a6⟩
  unfold f_X1_leftOf
  simp only [pt_gR hj h1 (by omega : b + 9 < 120) (k := 1) rfl, pt_gR hj h1 (by omega : b + 9 < 120) (k := 0) rfl, pt_ldI hj h2 (by omega : b + 10 < 120) ha (by omega), a3, pt_ldR hj h3 (by omega : b + 11 < 120) a4 (by omega) c1, Option.bind_some, Option.bind_none, bd2, bd3, bd4, nm]
theorem k_ck (hj : injC ca) (hb : b + 27 ≤ 120) (h : KC ca σ C b) : ckO (pt ca S0 C) (ca (b + 9)) 1 = some () := by
  obtain ⟨ld, lr, fr, rows, h1, -⟩ := h
  exact pt_ck hj h1 (by omega)
theorem d_seenIn (hj : injC ca) (hw : WF σ τ) (h3 : C 3 = eO 3 [.ref (ca 4), .ref (ca 5), .ref (ca 6)]) {mk : Nat → Int64} (h4 : C 4 = eJ 4096 mk) (hmk : ∀ t, t < gT σ → mk t = lN (mark σ t (gN σ))) {a r : Nat} {f : Nat → Int64} (hr : r < 120) (hC : C r = eJ 64 f) (hf : ∀ t, t < 4096 → bw f t = decide (t < gT σ ∧ lef σ a t = 1)) : ∃ X, f_X3_seenIn (pt ca S0 C) (ca 3) (ca r) (nI (gT σ)) = some (lN X) ∧ SM σ X (fun t => t < gT σ ∧ lef σ a t = 1) := by
  have hT := hw.tle
  unfold f_X3_seenIn
  have key := lpo_run (b := fun y : Int64 × Int32 => f_X3_seenIn_L5 (pt ca S0 C) (ca 3) (ca r) (nI (gT σ)) y.1 y.2)
    (fun n y => ∃ X, y = (lN X, nI n) ∧ SM σ X (fun t => t < n ∧ lef σ a t = 1))
    (fun y => ∃ X, y = lN X ∧ SM σ X (fun t => t < gT σ ∧ lef σ a t = 1)) (gT σ) (by omega) (x := ((0 : Int64), (0 : Int32)))
    ⟨0, rfl, SM_0 (fun t ht => by omega)⟩ (by
      rintro n y hn ⟨X, rfl, hX⟩
      have hn' : n < gT σ := hn
      left
      show ∃ x', f_X3_seenIn_L5 (pt ca S0 C) (ca 3) (ca r) (nI (gT σ)) (lN X) (nI n) = _ ∧ _
      unfold f_X3_seenIn_L5
      rw [if_neg (by rw [q_le (by omega) (by omega)]; omega)]
      simp only [d_holds hj hr hC (show n < 4096 by omega), pt_gR hj h3 (by omega : 3 < 120) (k := 0) rfl, pt_ldJ hj h4 (by omega : 4 < 120) (show n < 4096 by omega) (by omega), hmk n hn, f_X3_seenIn_b30, nI_1, Option.bind_some, Option.bind_none, bd2, bd3, bd4, nm]
      have hm := mark_lt hw (t := n) (Nat.le_refl (gN σ))
      have hX60 := hX.1
      have hfn := hf n (by omega)
      by_cases e : lef σ a n = 1
      · rw [hfn, decide_eq_true ⟨hn', e⟩, if_neg (by decide), wb_or (by omega) (by omega)]
        refine ⟨_, rfl, _, rfl, SM_or hw hX (fun q => ?_)⟩
        constructor
        · rintro ⟨q1, q2⟩
          by_cases c : q = n
          · exact Or.inr c
          · exact Or.inl ⟨by omega, q2⟩
        · rintro (⟨q1, q2⟩ | rfl)
          · exact ⟨by omega, q2⟩
          · exact ⟨by omega, e⟩
      · rw [hfn, decide_eq_false (fun q => e q.2), if_pos (by decide)]
        refine ⟨_, rfl, _, rfl, SM_iff hX (fun q => ?_)⟩
        constructor
        · rintro ⟨q1, q2⟩; exact ⟨by omega, q2⟩
        · rintro ⟨q1, q2⟩
          by_cases c : q = n
          · subst c; exact absurd q2 e
          · exact ⟨by omega, q2⟩) (by
      rintro y ⟨X, rfl, hX⟩
      refine ⟨_, ?_, X, rfl, hX⟩
      show f_X3_seenIn_L5 (pt ca S0 C) (ca 3) (ca r) (nI (gT σ)) (lN X) (nI (gT σ)) = _
      unfold f_X3_seenIn_L5
      rw [if_pos (by rw [q_le (by omega) (by omega)]; omega)])
  obtain ⟨S', e1, X, rfl, hX⟩ := key
  rw [e1]
  exact ⟨X, rfl, hX⟩
theorem d_fillJ (hj : injC ca) {i n : Nat} {f : Nat → Int64} (hi : i < 120) (hn : n < 100000) (hC : C i = eJ n f) (v : Int64) : ∃ g, f_J7_fill_d0a16 (pt ca S0 C) (ca i) v = some (pt ca S0 (va_up C i (eJ n g))) ∧ ∀ j, j < n → g j = v := by
  unfold f_J7_fill_d0a16
  simp only [pt_lnJ hj hC hi, Option.bind_some, Option.bind_none, bd2, bd3, bd4, nm]
  have hup : va_up C i (eJ n f) = C := by
    funext q
    by_cases e : q = i
    · subst e; rw [va_up_self, hC]
    · rw [va_up_ne _ _ e]
  have key := lpo_run (b := fun y : Int32 × PH => f_J7_fill_d0a16_L6 y.2 (ca i) v (nI n) y.1)
    (fun m y => ∃ g, y = (nI m, pt ca S0 (va_up C i (eJ n g))) ∧ ∀ j, j < m → g j = v)
    (fun y => ∃ g, y = pt ca S0 (va_up C i (eJ n g)) ∧ ∀ j, j < n → g j = v) n (by omega) (x := ((0 : Int32), pt ca S0 C))
    ⟨f, by rw [hup]; rfl, fun j hj => absurd hj (Nat.not_lt_zero j)⟩ (by
      rintro m y hm ⟨g, rfl, hg⟩
      left
      show ∃ x', f_J7_fill_d0a16_L6 (pt ca S0 (va_up C i (eJ n g))) (ca i) v (nI n) (nI m) = _ ∧ _
      unfold f_J7_fill_d0a16_L6
      rw [if_neg (by rw [q_le (by omega) (by omega)]; omega), pt_stJ hj (va_up_self C i (eJ n g)) hi hm (by omega)]
      simp only [va_up_up, nI_1, Option.bind_some, Option.bind_none, bd2, bd3, bd4, nm]
      refine ⟨_, rfl, _, rfl, fun j hj => ?_⟩
      by_cases e : j = m
      · subst e; exact pk_uLs
      · rw [pk_uLn e]; exact hg j (by omega)) (by
      rintro y ⟨g, rfl, hg⟩
      refine ⟨_, ?_, g, rfl, hg⟩
      show f_J7_fill_d0a16_L6 (pt ca S0 (va_up C i (eJ n g))) (ca i) v (nI n) (nI n) = _
      unfold f_J7_fill_d0a16_L6
      rw [if_pos (by rw [q_le (by omega) (by omega)]; omega)])
  obtain ⟨S', e1, g, rfl, hg⟩ := key
  rw [e1]
  exact ⟨g, rfl, hg⟩
theorem d_fillI (hj : injC ca) {i n : Nat} {f : Nat → Int32} (hi : i < 120) (hn : n < 100000) (hC : C i = eI n f) (v : Int32) : ∃ g, f_J7_fill_53178 (pt ca S0 C) (ca i) v = some (pt ca S0 (va_up C i (eI n g))) ∧ ∀ j, j < n → g j = v := by
  unfold f_J7_fill_53178
  simp only [pt_lnI hj hC hi, Option.bind_some, Option.bind_none, bd2, bd3, bd4, nm]
  have hup : va_up C i (eI n f) = C := by
    funext q
    by_cases e : q = i
    · subst e; rw [va_up_self, hC]
    · rw [va_up_ne _ _ e]
  have key := lpo_run (b := fun y : Int32 × PH => f_J7_fill_53178_L5 y.2 (ca i) v (nI n) y.1)
    (fun m y => ∃ g, y = (nI m, pt ca S0 (va_up C i (eI n g))) ∧ ∀ j, j < m → g j = v)
    (fun y => ∃ g, y = pt ca S0 (va_up C i (eI n g)) ∧ ∀ j, j < n → g j = v) n (by omega) (x := ((0 : Int32), pt ca S0 C))
    ⟨f, by rw [hup]; rfl, fun j hj => absurd hj (Nat.not_lt_zero j)⟩ (by
      rintro m y hm ⟨g, rfl, hg⟩
      left
      show ∃ x', f_J7_fill_53178_L5 (pt ca S0 (va_up C i (eI n g))) (ca i) v (nI n) (nI m) = _ ∧ _
      unfold f_J7_fill_53178_L5
      rw [if_neg (by rw [q_le (by omega) (by omega)]; omega), pt_stI hj (va_up_self C i (eI n g)) hi hm (by omega)]
      simp only [va_up_up, nI_1, Option.bind_some, Option.bind_none, bd2, bd3, bd4, nm]
      refine ⟨_, rfl, _, rfl, fun j hj => ?_⟩
      by_cases e : j = m
      · subst e; exact pk_us
      · rw [pk_un e]; exact hg j (by omega)) (by
      rintro y ⟨g, rfl, hg⟩
      refine ⟨_, ?_, g, rfl, hg⟩
      show f_J7_fill_53178_L5 (pt ca S0 (va_up C i (eI n g))) (ca i) v (nI n) (nI n) = _
      unfold f_J7_fill_53178_L5
      rw [if_pos (by rw [q_le (by omega) (by omega)]; omega)])
  obtain ⟨S', e1, g, rfl, hg⟩ := key
  rw [e1]
  exact ⟨g, rfl, hg⟩
theorem d_gather (hj : injC ca) (hw : WF σ τ) (h3 : C 3 = eO 3 [.ref (ca 4), .ref (ca 5), .ref (ca 6)]) {mk : Nat → Int64} (h4 : C 4 = eJ 4096 mk) (hmk : ∀ t, t < gT σ → mk t = lN (mark σ t (gN σ))) {af : Nat → Int32} {an : Nat → Nat} (h5 : C 5 = eI 4096 af) (haf : ∀ t, t < gT σ → af t = nI (an t)) (han : ∀ t, an t < 64) {c0 : Nat → Int64} (h6 : C 6 = eJ 64 c0) {a r : Nat} {f : Nat → Int64} (hr : r < 120) (hr2 : 12 ≤ r) (hC : C r = eJ 64 f) (hf : ∀ t, t < 4096 → bw f t = decide (t < gT σ ∧ lef σ a t = 1)) : ∃ ce, f_X3_gatherCells (pt ca S0 C) (ca 3) (ca r) (nI (gT σ)) = some (pt ca S0 (va_up C 6 (eJ 64 ce))) ∧ ∀ v, v < 64 → ∃ X, ce v = lN X ∧ SM σ X (Dc σ a an v) := by
  have hT := hw.tle
  unfold f_X3_gatherCells
  obtain ⟨g0, e0, hg0⟩ := d_fillJ (S0 := S0) hj (by omega : 6 < 120) (by omega) h6 (0 : Int64)
  simp only [pt_gR hj h3 (by omega : 3 < 120) (k := 2) rfl, e0, Option.bind_some, Option.bind_none, bd2, bd3, bd4, nm]
  have key := lpo_run (b := fun y : Int32 × PH => f_X3_gatherCells_L10 y.2 (ca 3) (ca r) (nI (gT σ)) y.1)
    (fun n y => ∃ ce, y = (nI n, pt ca S0 (va_up C 6 (eJ 64 ce))) ∧ ∀ v, v < 64 → ∃ X, ce v = lN X ∧ SM σ X (Di σ a an n v))
    (fun y => ∃ ce, y = pt ca S0 (va_up C 6 (eJ 64 ce)) ∧ ∀ v, v < 64 → ∃ X, ce v = lN X ∧ SM σ X (Dc σ a an v)) (gT σ) (by omega) (x := ((0 : Int32), pt ca S0 (va_up C 6 (eJ 64 g0))))
    ⟨g0, rfl, fun v hv => ⟨0, hg0 v hv, SM_0 (fun t ht => absurd ht.1 (Nat.not_lt_zero t))⟩⟩ (by
      rintro n y hn ⟨ce, rfl, hce⟩
      have hn' : n < gT σ := hn
      have g3 : va_up C 6 (eJ 64 ce) 3 = eO 3 [.ref (ca 4), .ref (ca 5), .ref (ca 6)] := (va_up_ne _ _ (by decide)).trans h3
      have g4 : va_up C 6 (eJ 64 ce) 4 = eJ 4096 mk := (va_up_ne _ _ (by decide)).trans h4
      have g5 : va_up C 6 (eJ 64 ce) 5 = eI 4096 af := (va_up_ne _ _ (by decide)).trans h5
      have g6 : va_up C 6 (eJ 64 ce) 6 = eJ 64 ce := va_up_self _ _ _
      have gr : va_up C 6 (eJ 64 ce) r = eJ 64 f := (va_up_ne _ _ (by omega)).trans hC
      left
      show ∃ x', f_X3_gatherCells_L10 (pt ca S0 (va_up C 6 (eJ 64 ce))) (ca 3) (ca r) (nI (gT σ)) (nI n) = _ ∧ _
      unfold f_X3_gatherCells_L10
      rw [if_neg (by rw [q_le (by omega) (by omega)]; omega)]
      simp only [d_holds hj hr gr (show n < 4096 by omega), pt_gR hj g3 (by omega : 3 < 120) (k := 0) rfl, pt_gR hj g3 (by omega : 3 < 120) (k := 1) rfl, pt_gR hj g3 (by omega : 3 < 120) (k := 2) rfl, pt_ldJ hj g4 (by omega : 4 < 120) (show n < 4096 by omega) (by omega), pt_ldI hj g5 (by omega : 5 < 120) (show n < 4096 by omega) (by omega), haf n hn, hmk n hn, pt_ldJ hj g6 (by omega : 6 < 120) (han n) (by omega), pt_stJ hj g6 (by omega : 6 < 120) (han n) (by omega), va_up_up, f_X3_gatherCells_b43, nI_1, Option.bind_some, Option.bind_none, bd2, bd3, bd4, nm]
      have hm := mark_lt hw (t := n) (Nat.le_refl (gN σ))
      have hfn := hf n (by omega)
      by_cases e : lef σ a n = 1
      · rw [hfn, decide_eq_true ⟨hn', e⟩, if_neg (by decide)]
        refine ⟨_, rfl, _, rfl, fun v hv => ?_⟩
        by_cases c : v = an n
        · subst c
          obtain ⟨X, hX1, hX2⟩ := hce (an n) hv
          have hX60 := hX2.1
          refine ⟨X ||| mark σ n (gN σ), by rw [pk_uLs, hX1, wb_or (by omega) (by omega)], SM_or hw hX2 (fun q => ?_)⟩
          constructor
          · rintro ⟨q1, q2, q3⟩
            by_cases c : q = n
            · exact Or.inr c
            · exact Or.inl ⟨by omega, q2, q3⟩
          · rintro (⟨q1, q2, q3⟩ | rfl)
            · exact ⟨by omega, q2, q3⟩
            · exact ⟨by omega, e, rfl⟩
        · obtain ⟨X, hX1, hX2⟩ := hce v hv
          refine ⟨X, by rw [pk_uLn c, hX1], SM_iff hX2 (fun q => ?_)⟩
          constructor
          · rintro ⟨q1, q2, q3⟩; exact ⟨by omega, q2, q3⟩
          · rintro ⟨q1, q2, q3⟩
            by_cases c2 : q = n
            · subst c2; exact absurd q3.symm c
            · exact ⟨by omega, q2, q3⟩
      · rw [hfn, decide_eq_false (fun q => e q.2), if_pos (by decide)]
        refine ⟨_, rfl, _, rfl, fun v hv => ?_⟩
        obtain ⟨X, hX1, hX2⟩ := hce v hv
        refine ⟨X, hX1, SM_iff hX2 (fun q => ?_)⟩
        constructor
        · rintro ⟨q1, q2, q3⟩; exact ⟨by omega, q2, q3⟩
        · rintro ⟨q1, q2, q3⟩
          by_cases c : q = n
          · subst c; exact absurd q2 e
          · exact ⟨by omega, q2, q3⟩) (by
      rintro y ⟨ce, rfl, hce⟩
      refine ⟨_, ?_, ce, rfl, hce⟩
      show f_X3_gatherCells_L10 (pt ca S0 (va_up C 6 (eJ 64 ce))) (ca 3) (ca r) (nI (gT σ)) (nI (gT σ)) = _
      unfold f_X3_gatherCells_L10
      rw [if_pos (by rw [q_le (by omega) (by omega)]; omega)])
  obtain ⟨S', e1, ce, rfl, hce⟩ := key
  rw [e1]
  exact ⟨ce, rfl, hce⟩
theorem d_cellsUsed (hj : injC ca) (h3 : C 3 = eO 3 [.ref (ca 4), .ref (ca 5), .ref (ca 6)]) {ce : Nat → Int64} (h6 : C 6 = eJ 64 ce) : f_X3_cellsUsed (pt ca S0 C) (ca 3) = some (nI (sm (fun v => if ce v = 0 then 0 else 1) 64)) := by
  unfold f_X3_cellsUsed
  have key : lpo (fun y : Int32 × Int32 => f_X3_cellsUsed_L4 (pt ca S0 C) (ca 3) y.1 y.2) FU ((0 : Int32), (0 : Int32)) = some (nI (sm (fun v => if ce v = 0 then 0 else 1) 64)) := by
    refine lpo_det (fun n => (nI (sm (fun v => if ce v = 0 then 0 else 1) n), nI n)) 64 (by omega) rfl ?_ ?_
    · intro n hn
      show f_X3_cellsUsed_L4 _ _ (nI (sm _ n)) (nI n) = some (.inl (nI (sm (fun v => if ce v = 0 then 0 else 1) n + (if ce n = 0 then 0 else 1)), nI (n + 1)))
      unfold f_X3_cellsUsed_L4
      rw [if_neg (show ¬ (64 : Int32) ≤ nI n from fun q => by
        have := (nI_leI (a := 64) (by omega) (by omega)).mp q
        omega)]
      simp only [pt_gR hj h3 (by omega : 3 < 120) (k := 2) rfl, pt_ldJ hj h6 (by omega : 6 < 120) hn (by omega), f_X3_cellsUsed_b24, nI_1, Option.bind_some, Option.bind_none, bd2, bd3, bd4, nm]
      by_cases e : ce n = 0
      · rw [if_pos ((lg_cmp_eq _ _).mpr e), if_pos e]
        rfl
      · rw [if_neg (fun q => e ((lg_cmp_eq _ _).mp q)), if_neg e]
    · show f_X3_cellsUsed_L4 _ _ (nI (sm _ 64)) (nI 64) = _
      unfold f_X3_cellsUsed_L4
      rw [if_pos (show (64 : Int32) ≤ nI 64 from by decide)]
  rw [key]
  rfl
theorem ce_0 {X : Nat} (h : X < 2 ^ 60) : lN X = 0 ↔ X = 0 := pk_lEQ (b := 0) (by omega) (by omega)
theorem d_cellsSafe (hj : injC ca) (hb : b + 27 ≤ 120) (hw : WF σ τ) (h : NC ca σ C b) (h3 : C 3 = eO 3 [.ref (ca 4), .ref (ca 5), .ref (ca 6)]) {ce : Nat → Int64} (h6 : C 6 = eJ 64 ce) {a : Nat} {an : Nat → Nat} (han : ∀ t, an t < 64) (hce : ∀ v, v < 64 → ∃ X, ce v = lN X ∧ SM σ X (Dc σ a an v)) : ∃ r : Int32, f_X3_areCellsSafe (pt ca S0 C) (ca 3) (ca (b + 1)) = some r ∧ ((r = 1 ∧ Sure σ a an) ∨ (r = 0 ∧ ¬ Sure σ a an)) := by
  unfold f_X3_areCellsSafe
  have key := lpo_run (b := fun y : Int32 => f_X3_areCellsSafe_L2 (pt ca S0 C) (ca 3) (ca (b + 1)) y)
    (fun n y => y = nI n ∧ ∀ v, v < n → (∃ t, Dc σ a an v t) → Safe σ (Dc σ a an v)) (fun e => (e = .inl () ∧ Sure σ a an) ∨ (e = .inr 0 ∧ ¬ Sure σ a an)) 64 (by omega) (x := (0 : Int32))
    ⟨rfl, fun v hv => absurd hv (Nat.not_lt_zero v)⟩ (by
      rintro n y hn ⟨rfl, ih⟩
      obtain ⟨X, hX1, hX2⟩ := hce n hn
      unfold f_X3_areCellsSafe_L2
      rw [if_neg (show ¬ (64 : Int32) ≤ nI n from fun q => by
        have := (nI_leI (a := 64) (by omega) (by omega)).mp q
        omega)]
      simp only [pt_gR hj h3 (by omega : 3 < 120) (k := 2) rfl, pt_ldJ hj h6 (by omega : 6 < 120) hn (by omega), n_ck hj hb h, f_X3_areCellsSafe_b34, nI_1, hX1, Option.bind_some, Option.bind_none, bd2, bd3, bd4, nm]
      by_cases e : X = 0
      · rw [if_pos ((lg_cmp_eq _ _).mpr ((ce_0 hX2.1).mpr e))]
        refine Or.inl ⟨_, rfl, rfl, fun v hv hex => ?_⟩
        by_cases c : v = n
        · subst c
          obtain ⟨t, ht⟩ := hex
          exact absurd ht (hX2.2.1.mp e t)
        · exact ih v (by omega) hex
      · rw [if_neg (fun q => e ((ce_0 hX2.1).mp ((lg_cmp_eq _ _).mp q)))]
        have hex : ∃ t, Dc σ a an n t := Classical.byContradiction (fun q => e (hX2.2.1.mpr (fun t ht => q ⟨t, ht⟩)))
        obtain ⟨r, hr1, hr2⟩ := d_areSafe (S0 := S0) hj hb hw h hX2 hex
        rw [hr1]
        simp only [Option.bind_some, Option.bind_none, bd2, bd3, bd4, nm]
        rcases hr2 with ⟨rfl, hs⟩ | ⟨rfl, hs⟩
        · rw [if_neg (by decide)]
          refine Or.inl ⟨_, rfl, rfl, fun v hv hex => ?_⟩
          by_cases c : v = n
          · subst c; exact hs
          · exact ih v (by omega) hex
        · rw [if_pos rfl]
          exact Or.inr ⟨_, rfl, Or.inr ⟨rfl, fun q => hs (q n hex)⟩⟩) (by
      rintro y ⟨rfl, ih⟩
      refine ⟨.inl (), ?_, Or.inl ⟨rfl, fun v hex => ?_⟩⟩
      · unfold f_X3_areCellsSafe_L2
        rw [if_pos (show (64 : Int32) ≤ nI 64 from by decide)]
      · obtain ⟨t, ht⟩ := hex
        have : v < 64 := ht.2.2 ▸ han t
        exact ih v this ⟨t, ht⟩)
  obtain ⟨e, he, hr⟩ := key
  rcases hr with ⟨rfl, hs⟩ | ⟨rfl, hs⟩
  · exact ⟨1, by rw [he]; rfl, Or.inl ⟨rfl, hs⟩⟩
  · exact ⟨0, by rw [he]; rfl, Or.inr ⟨rfl, hs⟩⟩
theorem used_one (hw : WF σ τ) {ce : Nat → Int64} {a : Nat} {an : Nat → Nat} (ha : a < 4) (han : ∀ t, an t < 64) (hce : ∀ v, v < 64 → ∃ X, ce v = lN X ∧ SM σ X (Dc σ a an v)) : sm (fun v => if ce v = 0 then 0 else 1) 64 = 1 ↔ Same σ a an := by
  have hz : ∀ v, v < 64 → (ce v = 0 ↔ ∀ t, ¬ Dc σ a an v t) := fun v hv => by
    obtain ⟨X, hX1, hX2⟩ := hce v hv
    rw [hX1, ce_0 hX2.1, hX2.2.1]
  have hh : Dc σ a an (an (hid σ (gN σ))) (hid σ (gN σ)) := ⟨hid_lt hw _ (Nat.le_refl _), hw.hdn ha, rfl⟩
  have h1 : (fun v => if ce v = 0 then 0 else 1) (an (hid σ (gN σ))) = 1 := if_neg (fun q => (hz _ (han _)).mp q _ hh)
  constructor
  · intro h t ht hl
    refine Classical.byContradiction (fun q => ?_)
    have h2 : (fun v => if ce v = 0 then 0 else 1) (an t) = 1 := if_neg (fun q => (hz _ (han _)).mp q t ⟨ht, hl, rfl⟩)
    have := sm_two (f := fun v => if ce v = 0 then 0 else 1) 64 (han t) (han (hid σ (gN σ))) q
    have h1' : (if ce (an (hid σ (gN σ))) = 0 then 0 else 1) = 1 := h1
    have h2' : (if ce (an t) = 0 then 0 else 1) = 1 := h2
    rw [h1', h2'] at this
    omega
  · intro h
    rw [sm_only (f := fun v => if ce v = 0 then 0 else 1) 64 (han (hid σ (gN σ))) (fun k hk hne => if_pos ((hz k hk).mpr (fun t ht => hne (ht.2.2.symm.trans (h t ht.1 ht.2.1)))))]
    exact h1
theorem d_judge (hj : injC ca) (hb : b + 27 ≤ 120) (hb2 : 12 ≤ b) (hw : WF σ τ) (h : SC ca σ τ C b) (ht : TOP ca C b) {a k set : Nat} {x : Int32} (ha : a < 4) (hk : okq k x) (hs : set < 2 ^ gP σ) : ∃ r D f, f_X7_judge (pt ca S0 C) (ca 0) (nI a) (nI k) (nI set) x = some (nI r, pt ca S0 D) ∧ r ≤ 2 ∧ JR σ a (fun t => ansv σ k x.toNatClampNeg set (valt σ t)) r ∧ FR C D ∧ TOP ca D b ∧ D 5 = eI 4096 f ∧ ∀ t, t < gT σ → f t = nI (ansv σ k x.toNatClampNeg set (valt σ t)) := by
  obtain ⟨h0, h3, ⟨f4, h4⟩, ⟨f5, h5⟩, ⟨f6, h6⟩, -⟩ := id ht
  obtain ⟨mk, em, hmk⟩ := d_markTables (S0 := S0) hj hb hb2 hw h.2.1 h3 h4
  -- C1
  have F1 : FR C (va_up C 4 (eJ 4096 mk)) := FR_up (by omega) (by omega)
  have s1 := SC_FR h hb2 F1
  have t1 := TOP_4 ht mk
  obtain ⟨af, ea, haf⟩ := d_answerTables (S0 := S0) (C := va_up C 4 (eJ 4096 mk)) hj hb hb2 hw s1.2.1 h3 h5 hk hs
  have F2 : FR (va_up C 4 (eJ 4096 mk)) (va_up (va_up C 4 (eJ 4096 mk)) 5 (eI 4096 af)) := FR_up (by omega) (by omega)
  have s2 := SC_FR s1 hb2 F2
  have t2 := TOP_5 t1 af
  obtain ⟨r, f, el, hr1, hr2, hr3, hf⟩ := k_left (S0 := S0) (C := va_up (va_up C 4 (eJ 4096 mk)) 5 (eI 4096 af)) hj hb s2.2.2.1 ha
  have han : ∀ t, (fun t => ansv σ k x.toNatClampNeg set (valt σ t)) t < 64 := fun t => by
    have := ansv_le hw (k := k) (e := x.toNatClampNeg) (set := set) (v := valt σ t) (fun n hn => (valt_le hw hn t).1)
    show ansv σ k x.toNatClampNeg set (valt σ t) < 64
    omega
  obtain ⟨ce, ec, hce⟩ := d_gather (S0 := S0) (C := va_up (va_up C 4 (eJ 4096 mk)) 5 (eI 4096 af)) hj hw h3 (mk := mk) rfl hmk (af := af) (an := fun t => ansv σ k x.toNatClampNeg set (valt σ t)) rfl haf han (c0 := f6) h6 (by omega) (by omega) hr1 hf
  have F3 : FR (va_up (va_up C 4 (eJ 4096 mk)) 5 (eI 4096 af)) (va_up (va_up (va_up C 4 (eJ 4096 mk)) 5 (eI 4096 af)) 6 (eJ 64 ce)) := FR_up (by omega) (by omega)
  have s3 := SC_FR s2 hb2 F3
  have t3 := TOP_6 t2 ce
  have eu := d_cellsUsed (S0 := S0) (C := va_up (va_up (va_up C 4 (eJ 4096 mk)) 5 (eI 4096 af)) 6 (eJ 64 ce)) hj t3.2.1 (ce := ce) rfl
  have hu := used_one hw ha han hce
  obtain ⟨q, eq, hq⟩ := d_cellsSafe (S0 := S0) (C := va_up (va_up (va_up C 4 (eJ 4096 mk)) 5 (eI 4096 af)) 6 (eJ 64 ce)) hj hb hw s3.2.1 t3.2.1 (ce := ce) rfl han hce
  have hfin : ∀ (r : Nat), (r ≤ 2 ∧ JR σ a (fun t => ansv σ k x.toNatClampNeg set (valt σ t)) r) → ∃ r' D f, some (nI r, pt ca S0 (va_up (va_up (va_up C 4 (eJ 4096 mk)) 5 (eI 4096 af)) 6 (eJ 64 ce))) = some (nI r', pt ca S0 D) ∧ r' ≤ 2 ∧ JR σ a (fun t => ansv σ k x.toNatClampNeg set (valt σ t)) r' ∧ FR C D ∧ TOP ca D b ∧ D 5 = eI 4096 f ∧ ∀ t, t < gT σ → f t = nI (ansv σ k x.toNatClampNeg set (valt σ t)) := fun r hr => ⟨r, _, af, rfl, hr.1, hr.2, FR_tr F1 (FR_tr F2 F3), t3, rfl, haf⟩
  unfold f_X7_judge
  simp only [pt_gR hj h0 (by omega : 0 < 120) (k := 0) rfl, pt_gR hj h0 (by omega : 0 < 120) (k := 3) rfl, pt_gR hj h.1 (by omega : b < 120) (k := 0) rfl, pt_ck hj h3 (by omega : 3 < 120), em, Option.bind_some, Option.bind_none, bd2, bd3, bd4, nm]
  simp only [pt_gR hj t1.1 (by omega : 0 < 120) (k := 0) rfl, pt_gR hj t1.1 (by omega : 0 < 120) (k := 3) rfl, pt_gR hj s1.1 (by omega : b < 120) (k := 0) rfl, pt_ck hj t1.2.1 (by omega : 3 < 120), ea, Option.bind_some, Option.bind_none, bd2, bd3, bd4, nm]
  simp only [pt_gR hj t2.1 (by omega : 0 < 120) (k := 0) rfl, pt_gR hj t2.1 (by omega : 0 < 120) (k := 3) rfl, pt_gR hj s2.1 (by omega : b < 120) (k := 0) rfl, pt_gR hj s2.1 (by omega : b < 120) (k := 1) rfl, pt_ck hj t2.2.1 (by omega : 3 < 120), k_ck hj hb s2.2.2.1, el, n_g9 hj hb s2.2.1, ec, Option.bind_some, Option.bind_none, bd2, bd3, bd4, nm]
  simp only [pt_gR hj t3.1 (by omega : 0 < 120) (k := 0) rfl, pt_gR hj t3.1 (by omega : 0 < 120) (k := 3) rfl, pt_gR hj s3.1 (by omega : b < 120) (k := 0) rfl, pt_ck hj t3.2.1 (by omega : 3 < 120), eu, eq, Option.bind_some, Option.bind_none, bd2, bd3, bd4, nm]
  have hle : sm (fun v => if ce v = 0 then 0 else 1) 64 ≤ 64 := by
    have : ∀ n, sm (fun v => if ce v = 0 then 0 else 1) n ≤ n := by
      intro n
      induction n with
      | zero => exact Nat.le_refl _
      | succ n ih =>
        show sm (fun v => if ce v = 0 then 0 else 1) n + (if ce n = 0 then 0 else 1) ≤ n + 1
        split <;> omega
    exact this 64
  by_cases e : Same σ a (fun t => ansv σ k x.toNatClampNeg set (valt σ t))
  · rw [if_pos (by rw [hu.mpr e]; rfl)]
    exact hfin 2 ⟨Nat.le_refl _, Or.inl ⟨rfl, e⟩⟩
  · rw [if_neg (show ¬ nI (sm (fun v => if ce v = 0 then 0 else 1) 64) = (1 : Int32) from fun c => e (hu.mp ((nI_eq (b := 1) (by omega) (by omega)).mp c)))]
    rcases hq with ⟨rfl, hs9⟩ | ⟨rfl, hs9⟩
    · rw [if_neg (by decide)]
      exact hfin 1 ⟨by omega, Or.inr (Or.inl ⟨rfl, e, hs9⟩)⟩
    · rw [if_pos rfl]
      exact hfin 0 ⟨by omega, Or.inr (Or.inr ⟨rfl, e, hs9⟩)⟩
end CELLS
