/-! ===== the class's join ===== -/
theorem bw_and {f g h : Nat → Int64} (e : ∀ w, w < 64 → h w = f w &&& g w) {t : Nat} (ht : t < 4096) : bw h t = (bw f t && bw g t) := by
  unfold bw
  rw [e (t / 64) (by omega), Int64.toBitVec_and, BitVec.getLsbD_and]
section JOIN
variable {ca : Nat → Nat} {S0 : PH} {C : Nat → PE} {b : Nat} {σ : SG} {τ : TG}
theorem d_uniteA (hj : injC ca) (hb : b + 27 ≤ 120) {ld : Nat → Nat} {lr : Nat → Int32} {fr : Nat → Option Nat} {rows : Nat → Nat → Int64} (h : KX ca σ C b ld lr fr rows) {p q : Nat} (hp : p < 4) (hq : q < 4) (hne : p ≠ q) : ∃ f, lpo (fun x : Int32 × PH => f_X1_unite_L26 x.2 (ca (b + 9)) (nI p) (nI q) x.1) FU ((0 : Int32), pt ca S0 C) = some (pt ca S0 (va_up C (b + 12 + p) (eJ 64 f))) ∧ ∀ w, w < 64 → f w = rows p w &&& rows q w := by
  obtain ⟨h1, h2, h3, h4, h5⟩ := h
  obtain ⟨p1, p2, -⟩ := h4 p hp
  obtain ⟨q1, q2, -⟩ := h4 q hq
  have hup : va_up C (b + 12 + p) (eJ 64 (rows p)) = C := by
    funext k
    by_cases e : k = b + 12 + p
    · subst e; rw [va_up_self, p2]
    · rw [va_up_ne _ _ e]
  have key := lpo_run (b := fun x : Int32 × PH => f_X1_unite_L26 x.2 (ca (b + 9)) (nI p) (nI q) x.1)
    (fun n y => ∃ f, y = (nI n, pt ca S0 (va_up C (b + 12 + p) (eJ 64 f))) ∧ (∀ w, w < n → f w = rows p w &&& rows q w) ∧ ∀ w, n ≤ w → f w = rows p w)
    (fun y => ∃ f, y = pt ca S0 (va_up C (b + 12 + p) (eJ 64 f)) ∧ ∀ w, w < 64 → f w = rows p w &&& rows q w) 64 (by omega) (x := ((0 : Int32), pt ca S0 C))
    ⟨rows p, by rw [hup]; rfl, fun w hw => absurd hw (Nat.not_lt_zero w), fun _ _ => rfl⟩ (by
      rintro n y hn ⟨f, rfl, hf1, hf2⟩
      have g1 : va_up C (b + 12 + p) (eJ 64 f) (b + 9) = _ := (va_up_ne _ _ (by omega)).trans h1
      have g3 : va_up C (b + 12 + p) (eJ 64 f) (b + 11) = _ := (va_up_ne _ _ (by omega)).trans h3
      have gp : va_up C (b + 12 + p) (eJ 64 f) (b + 12 + p) = eJ 64 f := va_up_self _ _ _
      have gq : va_up C (b + 12 + p) (eJ 64 f) (b + 12 + q) = eJ 64 (rows q) := (va_up_ne _ _ (by omega)).trans q2
      left
      show ∃ x', f_X1_unite_L26 (pt ca S0 (va_up C (b + 12 + p) (eJ 64 f))) (ca (b + 9)) (nI p) (nI q) (nI n) = _ ∧ _
      unfold f_X1_unite_L26
      rw [if_neg (show ¬ (64 : Int32) ≤ nI n from fun c => by
        have := (nI_leI (a := 64) (by omega) (by omega)).mp c
        omega)]
      simp only [pt_gR hj g1 (by omega : b + 9 < 120) (k := 1) rfl, pt_ldR hj g3 (by omega : b + 11 < 120) hp (by omega) p1, pt_ldR hj g3 (by omega : b + 11 < 120) hq (by omega) q1, pt_ldJ hj gp (by omega : b + 12 + p < 120) hn (by omega), pt_ldJ hj gq (by omega : b + 12 + q < 120) hn (by omega), pt_stJ hj gp (by omega : b + 12 + p < 120) hn (by omega), va_up_up, nI_1, Option.bind_some, Option.bind_none, bd2, bd3, bd4, nm]
      refine ⟨_, rfl, _, rfl, fun w hw => ?_, fun w hw => ?_⟩
      · by_cases e : w = n
        · subst e
          rw [pk_uLs, hf2 w (Nat.le_refl w)]
        · rw [pk_uLn e]
          exact hf1 w (by omega)
      · rw [pk_uLn (by omega)]
        exact hf2 w (by omega)) (by
      rintro y ⟨f, rfl, hf1, hf2⟩
      refine ⟨_, ?_, f, rfl, hf1⟩
      show f_X1_unite_L26 (pt ca S0 (va_up C (b + 12 + p) (eJ 64 f))) (ca (b + 9)) (nI p) (nI q) (nI 64) = _
      unfold f_X1_unite_L26
      rw [if_pos (show (64 : Int32) ≤ nI 64 from by decide)])
  obtain ⟨S', e1, f, rfl, hf⟩ := key
  exact ⟨f, e1, hf⟩
theorem d_uniteB (hj : injC ca) (hb : b + 27 ≤ 120) {ld : Nat → Nat} {lr : Nat → Int32} (h1 : C (b + 9) = eO 1 [.ref (ca (b + 10)), .ref (ca (b + 11))]) (h2 : C (b + 10) = eI 4 lr) (hl : ∀ a, a < 4 → lr a = nI (ld a) ∧ ld a < 4) {p q : Nat} (hp : p < 4) (hq : q < 4) : ∃ f, lpo (fun x : Int32 × PH => f_X1_unite_L64 x.2 (ca (b + 9)) (nI p) (nI q) x.1) FU ((0 : Int32), pt ca S0 C) = some (pt ca S0 (va_up C (b + 10) (eI 4 f))) ∧ ∀ a, a < 4 → f a = nI (if ld a = q then p else ld a) := by
  have hup : va_up C (b + 10) (eI 4 lr) = C := by
    funext k
    by_cases e : k = b + 10
    · subst e; rw [va_up_self, h2]
    · rw [va_up_ne _ _ e]
  have key := lpo_run (b := fun x : Int32 × PH => f_X1_unite_L64 x.2 (ca (b + 9)) (nI p) (nI q) x.1)
    (fun n y => ∃ f, y = (nI n, pt ca S0 (va_up C (b + 10) (eI 4 f))) ∧ (∀ a, a < n → f a = nI (if ld a = q then p else ld a)) ∧ ∀ a, n ≤ a → f a = lr a)
    (fun y => ∃ f, y = pt ca S0 (va_up C (b + 10) (eI 4 f)) ∧ ∀ a, a < 4 → f a = nI (if ld a = q then p else ld a)) 4 (by omega) (x := ((0 : Int32), pt ca S0 C))
    ⟨lr, by rw [hup]; rfl, fun w hw => absurd hw (Nat.not_lt_zero w), fun _ _ => rfl⟩ (by
      rintro n y hn ⟨f, rfl, hf1, hf2⟩
      have g1 : va_up C (b + 10) (eI 4 f) (b + 9) = _ := (va_up_ne _ _ (by omega)).trans h1
      have g2 : va_up C (b + 10) (eI 4 f) (b + 10) = eI 4 f := va_up_self _ _ _
      obtain ⟨l1, l2⟩ := hl n hn
      have hfn : f n = nI (ld n) := (hf2 n (Nat.le_refl n)).trans l1
      left
      show ∃ x', f_X1_unite_L64 (pt ca S0 (va_up C (b + 10) (eI 4 f))) (ca (b + 9)) (nI p) (nI q) (nI n) = _ ∧ _
      unfold f_X1_unite_L64
      rw [if_neg (show ¬ (4 : Int32) ≤ nI n from fun c => by
        have := (nI_leI (a := 4) (by omega) (by omega)).mp c
        omega)]
      simp only [pt_gR hj g1 (by omega : b + 9 < 120) (k := 0) rfl, pt_ldI hj g2 (by omega : b + 10 < 120) hn (by omega), hfn, pt_stI hj g2 (by omega : b + 10 < 120) hn (by omega), va_up_up, f_X1_unite_b90, nI_1, Option.bind_some, Option.bind_none, bd2, bd3, bd4, nm]
      by_cases c : ld n = q
      · rw [if_pos (congrArg nI c)]
        refine ⟨_, rfl, _, rfl, fun a ha => ?_, fun a ha => ?_⟩
        · by_cases e : a = n
          · subst e
            rw [pk_us, if_pos c]
          · rw [pk_un e]
            exact hf1 a (by omega)
        · rw [pk_un (by omega)]
          exact hf2 a (by omega)
      · rw [if_neg (fun e => c ((nI_eq (by omega) (by omega)).mp e))]
        refine ⟨_, rfl, f, rfl, fun a ha => ?_, fun a ha => hf2 a (by omega)⟩
        by_cases e : a = n
        · subst e
          rw [if_neg c]
          exact hfn
        · exact hf1 a (by omega)) (by
      rintro y ⟨f, rfl, hf1, hf2⟩
      refine ⟨_, ?_, f, rfl, hf1⟩
      show f_X1_unite_L64 (pt ca S0 (va_up C (b + 10) (eI 4 f))) (ca (b + 9)) (nI p) (nI q) (nI 4) = _
      unfold f_X1_unite_L64
      rw [if_pos (show (4 : Int32) ≤ nI 4 from by decide)])
  obtain ⟨S', e1, f, rfl, hf⟩ := key
  exact ⟨f, e1, hf⟩
theorem d_join (hj : injC ca) (hb : b + 27 ≤ 120) (hb2 : 12 ≤ b) (hw : WF σ τ) (h : SC ca σ τ C b) (ht : TOP ca C b) {x y r : Int32} {σ' : SG} (hR : JoR σ x y r σ') : ∃ D, f_X7_join (pt ca S0 C) (ca 0) x y = some (r, pt ca S0 D) ∧ SC ca σ' τ D b ∧ TOP ca D b ∧ FS C D b := by
  have hT := hw.tle
  unfold f_X7_join
  rw [d_isAsker, d_isAsker]
  simp only [ite10, Option.bind_some, Option.bind_none, bd2, bd3, bd4, nm]
  obtain ⟨ld, lr, fr, rows, hX⟩ := id h.2.2.1
  have hX : KX ca σ C b ld lr fr rows := hX
  obtain ⟨h1, h2, h3, h4, h5⟩ := id hX
  rcases hR with ⟨i, j, rfl, hi9, rfl, hj9, hne, rfl, rfl⟩ | ⟨hn, rfl, rfl⟩
  · rw [if_neg (fun c => c (rng4 hi9)), if_neg (fun c => c (rng4 hj9))]
    obtain ⟨-, -, i3, i4, i5, i6⟩ := h4 i hi9
    obtain ⟨-, -, j3, j4, j5, j6⟩ := h4 j hj9
    have hpq : ld i ≠ ld j := fun e => hne ((h5 i j hi9 hj9).mp e)
    obtain ⟨f, ef, hf⟩ := d_uniteA (S0 := S0) hj hb hX i4 j4 hpq
    have g1 : va_up C (b + 12 + ld i) (eJ 64 f) (b + 9) = _ := (va_up_ne _ _ (by omega)).trans h1
    have g2 : va_up C (b + 12 + ld i) (eJ 64 f) (b + 10) = _ := (va_up_ne _ _ (by omega)).trans h2
    obtain ⟨g, eg, hg⟩ := d_uniteB (S0 := S0) (C := va_up C (b + 12 + ld i) (eJ 64 f)) hj hb (ld := ld) g1 g2 (fun a ha => ⟨(h4 a ha).2.2.1, (h4 a ha).2.2.2.1⟩) i4 j4
    unfold f_X1_unite
    simp only [pt_gR hj ht.1 (by omega : 0 < 120) (k := 0) rfl, pt_gR hj h.1 (by omega : b < 120) (k := 1) rfl, k_ck hj hb h.2.2.1, pt_gR hj h1 (by omega : b + 9 < 120) (k := 0) rfl, pt_ldI hj h2 (by omega : b + 10 < 120) hi9 (by omega), pt_ldI hj h2 (by omega : b + 10 < 120) hj9 (by omega), i3, j3, Option.bind_some, Option.bind_none, bd2, bd3, bd4, nm]
    rw [if_neg (fun c => hpq ((nI_eq (by omega) (by omega)).mp c)), ef]
    simp only [eg, Option.bind_some, Option.bind_none, bd2, bd3, bd4, nm]
    rw [show ckZ (1 : Int32) = some () from rfl]
    simp only [Option.bind_some, Option.bind_none, bd2, bd3, bd4, nm]
    have hout : ∀ k, k < b + 10 ∨ b + 16 ≤ k → va_up (va_up C (b + 12 + ld i) (eJ 64 f)) (b + 10) (eI 4 g) k = C k := fun k hk => by
      rw [va_up_ne _ _ (by omega), va_up_ne _ _ (by omega)]
    have gf : ∀ f, f < 20 → f ≠ 16 → gJoin σ i j f = σ f := fun f a1 a2 => gJoin_f a2 a1
    refine ⟨_, rfl, ⟨?_, ?_, ?_, ?_, ?_⟩, TOP_fr ht (fun k hk => hout k (by omega)), FS_of (fun k hk => hout k (by omega)) hb2⟩
    · rw [hout _ (by omega)]; exact h.1
    · exact NC_f (NC_s h.2.1 (gf 0 (by omega) (by omega)) (gf 1 (by omega) (by omega)) (fun f a1 a2 => gf f (by omega) (by omega))) (fun k a1 a2 => hout k (by omega))
    · refine ⟨fun a => if ld a = ld j then ld i else ld a, g, fr, va_up rows (ld i) f, ?_, va_up_self _ _ _, ?_, fun a ha => ?_, fun a c ha hc => ?_⟩
      · rw [hout _ (by omega)]; exact h1
      · rw [va_up_ne _ _ (by omega), va_up_ne _ _ (by omega)]; exact h3
      · obtain ⟨a1, a2, a3, a4, a5, a6⟩ := h4 a ha
        refine ⟨a1, ?_, hg a ha, ?_, ?_, fun t ht9 => ?_⟩
        · rw [va_up_ne _ _ (by omega)]
          by_cases e : a = ld i
          · subst e
            rw [va_up_self, va_up_self]
          · rw [va_up_ne _ _ (by omega), va_up_ne _ _ e]
            exact a2
        · show (if ld a = ld j then ld i else ld a) < 4
          split <;> omega
        · show (if ld (if ld a = ld j then ld i else ld a) = ld j then ld i else ld (if ld a = ld j then ld i else ld a)) = (if ld a = ld j then ld i else ld a)
          by_cases e : ld a = ld j
          · rw [if_pos e, i5, if_neg hpq]
          · rw [if_neg e, a5, if_neg e]
        · rw [gJoin_T, gJoin_l ha]
          by_cases e : ld a = ld j ∨ ld a = ld i
          · have hidx : (if ld a = ld j then ld i else ld a) = ld i := by
              by_cases e1 : ld a = ld j
              · rw [if_pos e1]
              · rw [if_neg e1]
                rcases e with e2 | e2
                · exact absurd e2 e1
                · exact e2
            have htwo : two σ i j a := by
              rcases e with e2 | e2
              · exact Or.inr ((h5 a j ha hj9).mp e2)
              · exact Or.inl ((h5 a i ha hi9).mp e2)
            rw [if_pos htwo]
            show bw (va_up rows (ld i) f (if ld a = ld j then ld i else ld a)) t = _
            rw [hidx, va_up_self, bw_and hf ht9, i6 t ht9, j6 t ht9]
            by_cases e3 : t < gT σ
            · have b1 := hw.bit hi9 e3
              have b2 := hw.bit hj9 e3
              by_cases e4 : lef σ i t = 1
              · rw [e4, Nat.one_mul]
                simp [e3]
              · have : lef σ i t = 0 := by omega
                rw [this, Nat.zero_mul]
                simp
            · simp [e3]
          · have e1 : ¬ ld a = ld j := fun q => e (Or.inl q)
            have e2 : ¬ ld a = ld i := fun q => e (Or.inr q)
            rw [if_neg (show ¬ two σ i j a from fun q => by
              rcases q with q | q
              · exact e2 ((h5 a i ha hi9).mpr q)
              · exact e1 ((h5 a j ha hj9).mpr q))]
            show bw (va_up rows (ld i) f (if ld a = ld j then ld i else ld a)) t = _
            rw [if_neg e1, va_up_ne _ _ e2]
            exact a6 t ht9
      · rw [gJoin_g, gJoin_g]
        show ((if ld a = ld j then ld i else ld a) = (if ld c = ld j then ld i else ld c)) ↔ _
        have ta : two σ i j a ↔ (ld a = ld i ∨ ld a = ld j) := by
          rw [h5 a i ha hi9, h5 a j ha hj9]
        have tc : two σ i j c ↔ (ld c = ld i ∨ ld c = ld j) := by
          rw [h5 c i hc hi9, h5 c j hc hj9]
        have hmin : min (grp σ i) (grp σ j) = grp σ i ∨ min (grp σ i) (grp σ j) = grp σ j := by omega
        by_cases qa : two σ i j a
        · have ea : (if ld a = ld j then ld i else ld a) = ld i := by
            rcases ta.mp qa with q | q
            · by_cases e1 : ld a = ld j
              · rw [if_pos e1]
              · rw [if_neg e1]; exact q
            · rw [if_pos q]
          rw [if_pos qa, ea]
          by_cases qc : two σ i j c
          · have ec : (if ld c = ld j then ld i else ld c) = ld i := by
              rcases tc.mp qc with q | q
              · by_cases e1 : ld c = ld j
                · rw [if_pos e1]
                · rw [if_neg e1]; exact q
              · rw [if_pos q]
            rw [if_pos qc, ec]
            exact ⟨fun _ => rfl, fun _ => rfl⟩
          · have ec : (if ld c = ld j then ld i else ld c) = ld c := if_neg (fun q => qc (tc.mpr (Or.inr q)))
            rw [if_neg qc, ec]
            constructor
            · intro q
              exact absurd (tc.mpr (Or.inl q.symm)) qc
            · intro q
              exfalso
              rcases hmin with e | e
              · exact qc (Or.inl (by rw [← q, e]))
              · exact qc (Or.inr (by rw [← q, e]))
        · have ea : (if ld a = ld j then ld i else ld a) = ld a := if_neg (fun q => qa (ta.mpr (Or.inr q)))
          rw [if_neg qa, ea]
          by_cases qc : two σ i j c
          · have ec : (if ld c = ld j then ld i else ld c) = ld i := by
              rcases tc.mp qc with q | q
              · by_cases e1 : ld c = ld j
                · rw [if_pos e1]
                · rw [if_neg e1]; exact q
              · rw [if_pos q]
            rw [if_pos qc, ec]
            constructor
            · intro q
              exact absurd (ta.mpr (Or.inl q)) qa
            · intro q
              exfalso
              rcases hmin with e | e
              · exact qa (Or.inl (by rw [q, e]))
              · exact qa (Or.inr (by rw [q, e]))
          · have ec : (if ld c = ld j then ld i else ld c) = ld c := if_neg (fun q => qc (tc.mpr (Or.inr q)))
            rw [if_neg qc, ec]
            exact h5 a c ha hc
    · exact AC_f (AC_s h.2.2.2.1 (congrFun (gf 3 (by omega) (by omega)) 0) (congrFun (gf 4 (by omega) (by omega)) 0) (fun _ _ _ => rfl)) (fun k a1 a2 => hout k (by omega))
    · exact WC_f (WC_s h.2.2.2.2 (congrFun (gf 5 (by omega) (by omega)) 0) (fun w => congrFun (gf 17 (by omega) (by omega)) w) (fun w => congrFun (gf 18 (by omega) (by omega)) w) (fun _ => rfl)) (fun k a1 a2 => hout k (by omega))
  · by_cases c1 : rng x 4
    · rw [if_neg (fun c => c c1)]
      by_cases c2 : rng y 4
      · rw [if_neg (fun c => c c2)]
        obtain ⟨i, hi9, rfl⟩ := (rng_iff (by omega)).mp c1
        obtain ⟨j, hj9, rfl⟩ := (rng_iff (by omega)).mp c2
        have hg : grp σ' i = grp σ' j := Classical.byContradiction (fun q => hn ⟨c1, c2, by rw [nI_clamp (by omega), nI_clamp (by omega)]; exact q⟩)
        obtain ⟨-, -, i3, i4, -⟩ := h4 i hi9
        obtain ⟨-, -, j3, j4, -⟩ := h4 j hj9
        unfold f_X1_unite
        simp only [pt_gR hj ht.1 (by omega : 0 < 120) (k := 0) rfl, pt_gR hj h.1 (by omega : b < 120) (k := 1) rfl, k_ck hj hb h.2.2.1, pt_gR hj h1 (by omega : b + 9 < 120) (k := 0) rfl, pt_ldI hj h2 (by omega : b + 10 < 120) hi9 (by omega), pt_ldI hj h2 (by omega : b + 10 < 120) hj9 (by omega), i3, j3, Option.bind_some, Option.bind_none, bd2, bd3, bd4, nm]
        rw [if_pos (congrArg nI ((h5 i j hi9 hj9).mpr hg))]
        exact ⟨C, rfl, h, ht, FS_rf C b⟩
      · rw [if_pos c2]
        exact ⟨C, rfl, h, ht, FS_rf C b⟩
    · rw [if_pos c1]
      exact ⟨C, rfl, h, ht, FS_rf C b⟩
end JOIN
