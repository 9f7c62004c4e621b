/-! ===== the reference: ask ===== -/
theorem nbits_s {σ ρ : SG} (h1 : ∀ p, cur ρ p = cur σ p) (s : Nat) : ∀ p, nbits ρ s p = nbits σ s p
  | 0 => rfl
  | p + 1 => by
    unfold nbits
    rw [nbits_s h1 s p, h1]
theorem gA_3 {σ : SG} {i v m m' : Nat} {an : Nat → Nat} {f : Nat} (hf : f < 20) : gA σ i an v m f = gA σ i an v m' f := by
  by_cases h : f = 3
  · subst h; rfl
  · rw [gA_f h hf, gA_f h hf]
/-- one more refused ask -/
abbrev gRef (σ : SG) : SG := va_up (gA σ 0 (fun _ => 0) 0 0) 4 (fun _ => gF σ + 1)
/-- what ask answers, and the state behind it -/
def AR (σ : SG) (τ : TG) (a k s x r : Int32) (σ' : SG) (τ' : TG) : Prop :=
  (∃ i j q, a = nI i ∧ i < 4 ∧ k = nI j ∧ okq j x ∧ gK σ < 200 ∧ JR σ i (fun t => ansv σ j x.toNatClampNeg (kn σ s) (valt σ t)) q ∧ τ' = tAsk σ τ a k (nI (kn σ s)) x r ∧
    ((q = 0 ∧ r = -2 ∧ σ' = gRef σ) ∨ (q ≠ 0 ∧ r = nI (ansv σ j x.toNatClampNeg (kn σ s) (vl σ)) ∧ σ' = gA σ i (fun t => ansv σ j x.toNatClampNeg (kn σ s) (valt σ t)) (ansv σ j x.toNatClampNeg (kn σ s) (vl σ)) (gT σ)))) ∨
  (¬ (rng a 4 ∧ askok k x ∧ gK σ < 200) ∧ r = -1 ∧ σ' = σ ∧ τ' = τ)
section M8L
variable {ad : Nat → Nat} {S0 : PH} {al hz : Nat → Int32} {s1 s2 s3 s4 : Int32} {lw hg mt tb9 : Nat → Int32} {an ky : Nat → Int64} {rw9 : Nat → Int32} {lf : Int32} {σ : SG} {τ : TG}
theorem b_hdr (h : inj8 ad) (hw : WF σ τ) (hA : RA σ τ al 0) (hK : gK σ < 200) (a k s x b r : Int32) : f_X8_ask_b64 (mk8 ad S0 al hz s1 s2 s3 s4 lw hg mt tb9 an ky rw9 lf) (ad 0) a k s x b r = (if r = (-2 : Int32) then ((gR (mk8 ad S0 (hdr σ al a k (nI (kn σ s)) x r) hz s1 s2 s3 s4 lw hg mt tb9 an ky rw9 lf) (ad 0) 8 0).bind fun x63 => (ldI (mk8 ad S0 (hdr σ al a k (nI (kn σ s)) x r) hz s1 s2 s3 s4 lw hg mt tb9 an ky rw9 lf) x63 (4 : Int32)).bind fun x64 => (stI (mk8 ad S0 (hdr σ al a k (nI (kn σ s)) x r) hz s1 s2 s3 s4 lw hg mt tb9 an ky rw9 lf) x63 (4 : Int32) (x64 + (1 : Int32))).bind fun S65 => some (r, S65)) else ((lpo (fun y : Int32 × PH => f_X8_ask_L166 y.2 (ad 0) a k x b r y.1) FU ((0 : Int32), mk8 ad S0 (hdr σ al a k (nI (kn σ s)) x r) hz s1 s2 s3 s4 lw hg mt tb9 an ky rw9 lf)).bind fun S40 => some (r, S40))) := by
  have hPal := hA.P
  rw [Nat.add_zero] at hPal
  have hKal := hA.K
  rw [Nat.zero_add] at hKal
  have i0 : (100 : Int32) + (5 : Int32) * nI (gK σ) = nI (100 + 5 * gK σ) := by rw [show (5 : Int32) = nI 5 from rfl, pk_mul, show (100 : Int32) = nI 100 from rfl, nI_add]
  have i1 : nI (100 + 5 * gK σ) + 1 = nI (100 + 5 * gK σ + 1) := nI_add _ 1
  have i2 : nI (100 + 5 * gK σ) + 2 = nI (100 + 5 * gK σ + 2) := nI_add _ 2
  have i3 : nI (100 + 5 * gK σ) + 3 = nI (100 + 5 * gK σ + 3) := nI_add _ 3
  have i4 : nI (100 + 5 * gK σ) + 4 = nI (100 + 5 * gK σ + 4) := nI_add _ 4
  unfold f_X8_ask_b64
  simp only [g8_0 h, Option.bind_some, b_K h hA]
  rw [i0, i1, i2, i3, i4]
  rw [w8_al h (by omega)]
  simp only [Option.bind_some, g8_0 h]
  rw [w8_al h (by omega)]
  simp only [Option.bind_some, g8_0 h, ck8 h]
  have k1 : f_X8_known (mk8 ad S0 (upd (upd al (100 + 5 * gK σ) a) (100 + 5 * gK σ + 1) k) hz s1 s2 s3 s4 lw hg mt tb9 an ky rw9 lf) (ad 0) s = some (nI (kn σ s)) := b_known h hw (by unfold upd; rw [if_neg (by omega), if_neg (by omega)]; exact hPal) s
  rw [k1]
  simp only [Option.bind_some]
  rw [w8_al h (by omega)]
  simp only [Option.bind_some, g8_0 h]
  rw [w8_al h (by omega)]
  simp only [Option.bind_some, g8_0 h]
  rw [w8_al h (by omega)]
  simp only [Option.bind_some, g8_0 h]
  have e3 : ∀ f : Nat → Int32, f 3 = nI (gK σ) → (ldI (mk8 ad S0 f hz s1 s2 s3 s4 lw hg mt tb9 an ky rw9 lf) (ad 1) (3 : Int32)) = some (nI (gK σ)) := fun f hf => (r8_al h (i := 3) (by omega)).trans (congrArg some hf)
  rw [e3 _ (by unfold upd; rw [if_neg (by omega), if_neg (by omega), if_neg (by omega), if_neg (by omega), if_neg (by omega)]; exact hKal)]
  simp only [Option.bind_some, nI_1]
  have w3 : ∀ (f : Nat → Int32) (z : Int32), stI (mk8 ad S0 f hz s1 s2 s3 s4 lw hg mt tb9 an ky rw9 lf) (ad 1) (3 : Int32) z = some (mk8 ad S0 (upd f 3 z) hz s1 s2 s3 s4 lw hg mt tb9 an ky rw9 lf) := fun f z => w8_al h (i := 3) (by omega) z
  rw [w3]
  simp only [Option.bind_some, g8_0 h]
theorem b_askLoop (h : inj8 ad) (hw : WF σ τ) (hK : gK σ < 200) {i j set : Nat} {x : Int32} (hi : i < 4) (hj : okq j x) {v : Nat} (hv : ansv σ j x.toNatClampNeg set (valt σ (hid σ (gN σ))) = v) {τ' : TG} {A : Nat → Int32} (a k s y r : Int32) (hτ : τ' = tAsk σ τ a k s y r) (hA : RA (gA σ i (fun t => ansv σ j x.toNatClampNeg set (valt σ t)) v 0) τ' al 0) : ∃ al' s1' s2' s3' s4', lpo (fun y : Int32 × PH => f_X8_ask_L166 y.2 (ad 0) (nI i) (nI j) x (nI (nbits σ set (gP σ))) (nI v) y.1) FU ((0 : Int32), (mk8 ad S0 al hz s1 s2 s3 s4 lw hg mt tb9 an ky rw9 lf)) = some (mk8 ad S0 al' hz s1' s2' s3' s4' lw hg mt tb9 an ky rw9 lf) ∧ RA (gA σ i (fun t => ansv σ j x.toNatClampNeg set (valt σ t)) v (gT σ)) τ' al' 0 ∧ ∀ q, 17514 ≤ q → al' q = al q := by
  have hT := hw.tle
  obtain ⟨av, hav⟩ : ∃ av : Nat → Nat, av = fun t => ansv σ j x.toNatClampNeg set (valt σ t) := ⟨_, rfl⟩
  rw [← hav] at hA ⊢
  have hv' : av (hid σ (gN σ)) = v := by rw [hav]; exact hv
  have hWF : ∀ m, WF (gA σ i av v m) τ' := fun m => by rw [hτ]; exact WF_gA hw hi hK hv' a k s y r
  have hle : ∀ t, av t ≤ 60 := fun t => by rw [hav]; exact ansv_le hw (fun n hn => (valt_le hw hn t).1)
  have hv60 : v ≤ 60 := by rw [← hv']; exact hle _
  have key := lpo_run (b := fun y : Int32 × PH => f_X8_ask_L166 y.2 (ad 0) (nI i) (nI j) x (nI (nbits σ set (gP σ))) (nI v) y.1) (x := ((0 : Int32), (mk8 ad S0 al hz s1 s2 s3 s4 lw hg mt tb9 an ky rw9 lf)))
    (fun t y => ∃ al' s1' s2' s3' s4', y = (nI t, mk8 ad S0 al' hz s1' s2' s3' s4' lw hg mt tb9 an ky rw9 lf) ∧ RA (gA σ i av v t) τ' al' 0 ∧ ∀ q, 17514 ≤ q → al' q = al q)
    (fun y => ∃ al' s1' s2' s3' s4', y = mk8 ad S0 al' hz s1' s2' s3' s4' lw hg mt tb9 an ky rw9 lf ∧ RA (gA σ i av v (gT σ)) τ' al' 0 ∧ ∀ q, 17514 ≤ q → al' q = al q)
    (gT σ) (by omega) ⟨al, s1, s2, s3, s4, rfl, hA, fun _ _ => rfl⟩ (by
      rintro t y ht ⟨al', t1, t2, t3, t4, rfl, hA', hfr⟩
      refine Or.inl ?_
      have hwρ := hWF t
      have htρ : t < gT (gA σ i av v t) := by rw [gA_T]; exact ht
      have hbl := b_isLeft (S0 := S0) (hz := hz) (s1 := t1) (s2 := t2) (s3 := t3) (s4 := t4) (lw := lw) (hg := hg) (mt := mt) (tb9 := tb9) (an := an) (ky := ky) (rw9 := rw9) (lf := lf) h hwρ hA' hi htρ
      have el : lef (gA σ i av v t) i t = lef σ i t := by rw [gA_l hi, if_neg (fun q => by omega)]
      rw [el] at hbl
      have bT : ldI (mk8 ad S0 al' hz t1 t2 t3 t4 lw hg mt tb9 an ky rw9 lf) (ad 1) 2 = some (nI (gT σ)) := by rw [b_T h hA', gA_T]
      have ef : ∀ f, f < 20 → gA σ i av v (t + 1) f = gA σ i av v t f := fun f hf => gA_3 hf
      -- the lefts of the next state, where the row stays
      have stay : (lef σ i t = 1 → av t = v) → RA (gA σ i av v (t + 1)) τ' al' 0 := by
        intro hs
        refine RA_left hwρ ef hA' (fun _ _ => rfl) (fun b u hb hu => ?_)
        have e := hA'.l hb hu
        rw [Nat.zero_add] at e
        rw [e]
        congr 1
        rw [gA_l hb, gA_l hb]
        rw [gA_T] at hu
        by_cases hut : u = t
        · subst hut
          rw [if_neg (fun q => by omega)]
          by_cases hc : grp σ b = grp σ i ∧ av u ≠ v ∧ u < u + 1
          · rw [if_pos hc]
            have h1 := hw.eqv hb hi hc.1 hu
            have h2 := hw.bit hi hu
            have h3 : ¬ lef σ i u = 1 := fun q => hc.2.1 (hs q)
            omega
          · rw [if_neg hc]
        · by_cases hc : grp σ b = grp σ i ∧ av u ≠ v ∧ u < t
          · rw [if_pos hc, if_pos ⟨hc.1, hc.2.1, by omega⟩]
          · rw [if_neg hc, if_neg (fun q => hc ⟨q.1, q.2.1, by omega⟩)]
      by_cases hl : lef σ i t = 1
      · obtain ⟨u1, u2, u3, u4, hans⟩ := b_answerIn (S0 := S0) (hz := hz) (s1 := t1) (s2 := t2) (s3 := t3) (s4 := t4) (lw := lw) (hg := hg) (mt := mt) (tb9 := tb9) (an := an) (ky := ky) (rw9 := rw9) (lf := lf) (set := set) h hwρ hA' (show t < 4096 by omega) hj
        have hcur : ∀ p, cur (gA σ i av v t) p = cur σ p := fun p => by show gA σ i av v t 10 p = _; rw [gA_f (by omega) (by omega)]
        have hown : ∀ p, own (gA σ i av v t) p = own σ p := fun p => by show gA σ i av v t 11 p = _; rw [gA_f (by omega) (by omega)]
        have hlo : ∀ p, lo (gA σ i av v t) p = lo σ p := fun p => by show gA σ i av v t 12 p = _; rw [gA_f (by omega) (by omega)]
        have hhi : ∀ p, gA σ i av v t 13 p = σ 13 p := fun p => by rw [gA_f (by omega) (by omega)]
        have e1 : ansv (gA σ i av v t) j x.toNatClampNeg set (valt (gA σ i av v t) t) = av t := by
          rw [ansv_s hcur hown gA_N]
          have e9 : av t = ansv σ j x.toNatClampNeg set (valt σ t) := by rw [hav]
          rw [e9]
          exact ansv_v (fun n _ => valt_s hlo hhi t n)
        rw [e1, nbits_s hcur, gA_P] at hans
        by_cases hc : av t = v
        · refine ⟨(nI (t + 1), mk8 ad S0 al' hz u1 u2 u3 u4 lw hg mt tb9 an ky rw9 lf), ?_, al', u1, u2, u3, u4, rfl, stay (fun _ => hc), hfr⟩
          show f_X8_ask_L166 _ _ _ _ _ _ _ (nI t) = _
          unfold f_X8_ask_L166
          simp (disch := first | omega | assumption) only [g8_0, bT, Option.bind_some, q_le, ck8, hbl, ite10, hans, bd2]
          rw [if_neg (by omega), if_neg (fun q => q hl), if_pos (by rw [hc])]
          simp only [f_X8_ask_b262, nI_1]
        · have hne : ¬ nI (av t) = nI v := fun q => hc ((nI_eq (by have := hle t; omega) (by omega)).mp q)
          have hgr : ∀ b, b < 4 → al' (6 + b) = nI (grp σ b) := fun b hb => by
            have := hA'.g hb
            rw [Nat.zero_add] at this
            rw [this]
            show nI (gA σ i av v t 16 b) = _
            rw [gA_f (by omega) (by omega)]
          have hin := b_askIn (S0 := S0) (hz := hz) (s1 := u1) (s2 := u2) (s3 := u3) (s4 := u4) (lw := lw) (hg := hg) (mt := mt) (tb9 := tb9) (an := an) (ky := ky) (rw9 := rw9) (lf := lf) (σ := σ) h hgr (fun b hb => Nat.lt_of_le_of_lt (hw.gpr hb).1 hb) hi (show t < 4096 by omega)
          refine ⟨(nI (t + 1), mk8 ad S0 (zq σ i t al' 4) hz u1 u2 u3 u4 lw hg mt tb9 an ky rw9 lf), ?_, zq σ i t al' 4, u1, u2, u3, u4, rfl, ?_, fun q hq => by rw [zq_out (by omega) (by omega) 4 (Nat.le_refl _)]; exact hfr q hq⟩
          · show f_X8_ask_L166 _ _ _ _ _ _ _ (nI t) = _
            unfold f_X8_ask_L166
            simp (disch := first | omega | assumption) only [g8_0, bT, Option.bind_some, q_le, ck8, hbl, ite10, hans, bd2]
            rw [if_neg (by omega), if_neg (fun q => q hl), if_neg hne, hin]
            simp only [Option.bind_some, f_X8_ask_b262, nI_1]
          · refine RA_left hwρ ef hA' (fun q hq => zq_out (by omega) (by omega) 4 (Nat.le_refl _)) (fun b u hb hu => ?_)
            have e := hA'.l hb hu
            rw [Nat.zero_add] at e
            rw [gA_T] at hu
            rw [zq_at (by omega) hb (by omega) 4 (Nat.le_refl _), gA_l hb]
            by_cases hut : u = t
            · subst hut
              by_cases hgb : grp σ b = grp σ i
              · rw [if_pos ⟨hb, hgb, rfl⟩, if_pos ⟨hgb, hc, by omega⟩]
                rfl
              · rw [if_neg (fun q => hgb q.2.1), if_neg (fun q => hgb q.1), e, gA_l hb, if_neg (fun q => hgb q.1)]
            · rw [if_neg (fun q => hut q.2.2), e, gA_l hb]
              congr 1
              by_cases hc2 : grp σ b = grp σ i ∧ av u ≠ v ∧ u < t
              · rw [if_pos hc2, if_pos ⟨hc2.1, hc2.2.1, by omega⟩]
              · rw [if_neg hc2, if_neg (fun q => hc2 ⟨q.1, q.2.1, by omega⟩)]
      · refine ⟨(nI (t + 1), mk8 ad S0 al' hz t1 t2 t3 t4 lw hg mt tb9 an ky rw9 lf), ?_, al', t1, t2, t3, t4, rfl, stay (fun q => absurd q hl), hfr⟩
        show f_X8_ask_L166 _ _ _ _ _ _ _ (nI t) = _
        unfold f_X8_ask_L166
        simp (disch := first | omega | assumption) only [g8_0, bT, Option.bind_some, q_le, ck8, hbl, ite10]
        rw [if_neg (by omega), if_pos hl]
        simp only [f_X8_ask_b262, nI_1]) (by
      rintro y ⟨al', t1, t2, t3, t4, rfl, hA', hfr⟩
      refine ⟨_, ?_, al', t1, t2, t3, t4, rfl, hA', hfr⟩
      have bT : ldI (mk8 ad S0 al' hz t1 t2 t3 t4 lw hg mt tb9 an ky rw9 lf) (ad 1) 2 = some (nI (gT σ)) := by rw [b_T h hA', gA_T]
      show f_X8_ask_L166 _ _ _ _ _ _ _ (nI (gT σ)) = _
      unfold f_X8_ask_L166
      simp (disch := first | omega | assumption) only [g8_0, bT, Option.bind_some, q_le]
      rw [if_pos (Nat.le_refl _)])
  obtain ⟨y9, h1, al', u1, u2, u3, u4, rfl, h2, h3⟩ := key
  exact ⟨al', u1, u2, u3, u4, h1, h2, h3⟩
end M8L
