/-! ===== the reference: ask, closed ===== -/
theorem RA_ref {σ : SG} {τ : TG} {A : Nat → Int32} (hw : WF (gA σ 0 (fun _ => 0) 0 0) τ) (hA : RA (gA σ 0 (fun _ => 0) 0 0) τ A 0) : RA (gRef σ) τ (upd A 4 (nI (gF σ + 1))) 0 := by
  have hP := hw.p8
  have hN := hw.n10
  have hW := hw.w8
  have hK := hw.k200
  have hu : ∀ j, j ≠ 4 → upd A 4 (nI (gF σ + 1)) j = A j := fun j hj => by unfold upd; rw [if_neg hj]
  have es : ∀ n, stp (gRef σ) n = stp (gA σ 0 (fun _ => 0) 0 0) n := stp_congr (ρ := gRef σ) (σ := gA σ 0 (fun _ => 0) 0 0) (fun _ => rfl) (fun _ => rfl)
  have eT : gT (gRef σ) = gT (gA σ 0 (fun _ => 0) 0 0) := es _
  have el : ∀ b t, lef (gRef σ) b t = lef (gA σ 0 (fun _ => 0) 0 0) b t := fun b t => by
    show (va_up (gA σ 0 (fun _ => 0) 0 0) 4 (fun _ => gF σ + 1)) (20 + b) t = _
    rw [va_up_ne _ _ (by omega)]
  refine ⟨?_, ?_, ?_, ?_, ?_, ?_, fun a ha => ?_, fun p hp => ?_, fun n hn => ?_, fun a t ha ht => ?_, fun w hw9 => ?_, fun k j hk hj => ?_⟩
  · rw [hu _ (by omega)]; exact hA.P
  · rw [hu _ (by omega)]; exact hA.N
  · rw [hu _ (by omega), eT]; exact hA.T
  · rw [hu _ (by omega)]; exact hA.K
  · unfold upd; rw [if_pos (by omega)]; rfl
  · rw [hu _ (by omega)]; exact hA.W
  · rw [hu _ (by omega)]; exact hA.g ha
  · rw [hu _ (by omega)]; exact hA.c hp
  · have hn' : n < gN (gA σ 0 (fun _ => 0) 0 0) := hn
    obtain ⟨e0, e1, e2, e3, e4, e5⟩ := hA.n hn'
    rw [hu _ (by omega), hu _ (by omega), hu _ (by omega), hu _ (by omega), hu _ (by omega), hu _ (by omega), es]
    exact ⟨e0, e1, e2, e3, e4, e5⟩
  · rw [eT] at ht
    rw [hu _ (by omega), el]; exact hA.l ha ht
  · have hw' : w < gW (gA σ 0 (fun _ => 0) 0 0) := hw9
    obtain ⟨e0, e1, e2⟩ := hA.w hw'
    rw [hu _ (by omega), hu _ (by omega), hu _ (by omega)]
    exact ⟨e0, e1, e2⟩
  · have hk' : k < gK (gA σ 0 (fun _ => 0) 0 0) := hk
    rw [hu _ (by omega)]; exact hA.a hk' hj
theorem WF_ref {σ : SG} {τ : TG} (hF : gF σ + 1 ≤ gK σ + 1) (hw : WF (gA σ 0 (fun _ => 0) 0 0) τ) : WF (gRef σ) τ := by
  have es : ∀ n, stp (gRef σ) n = stp (gA σ 0 (fun _ => 0) 0 0) n := stp_congr (ρ := gRef σ) (σ := gA σ 0 (fun _ => 0) 0 0) (fun _ => rfl) (fun _ => rfl)
  have eT : gT (gRef σ) = gT (gA σ 0 (fun _ => 0) 0 0) := es _
  have eh : ∀ n, hid (gRef σ) n = hid (gA σ 0 (fun _ => 0) 0 0) n := fun n => sm_congr n (fun k _ => by rw [es]; rfl)
  have el : ∀ b t, lef (gRef σ) b t = lef (gA σ 0 (fun _ => 0) 0 0) b t := fun b t => by
    show (va_up (gA σ 0 (fun _ => 0) 0 0) 4 (fun _ => gF σ + 1)) (20 + b) t = _
    rw [va_up_ne _ _ (by omega)]
  obtain ⟨h1, h2, h3, h4, h5, h6, h7, h8, h9, h10, h11, h12, h13, h14⟩ := hw
  refine ⟨h1, h2, ?_, h4, h5, hF, h7, h8, h9, h10, ?_, ?_, ?_, h14⟩
  · rw [eT]; exact h3
  · intro a b ha hb hg t ht
    rw [eT] at ht
    rw [el, el]; exact h11 a b ha hb hg t ht
  · intro a t ha ht
    rw [eT] at ht
    rw [el]; exact h12 a t ha ht
  · intro a ha
    rw [el, eh]; exact h13 a ha
section M8M
variable {ad : Nat → Nat} {S0 : PH} {al hz : Nat → Int32} {s1 s2 s3 s4 : Int32} {lw hg mt tb9 : Nat → Int32} {an ky : Nat → Int64} {rw9 : Nat → Int32} {lf : Int32} {σ : SG} {τ : TG}
theorem b_ask (h : inj8 ad) (hw : WF σ τ) (hA : RA σ τ al 0) (a k s x : Int32) : ∃ (r : Int32) (al' : Nat → Int32) (σ' : SG) (τ' : TG) (s1' s2' s3' s4' : Int32) (lw' hg' mt' : Nat → Int32), f_X8_ask (mk8 ad S0 al hz s1 s2 s3 s4 lw hg mt tb9 an ky rw9 lf) (ad 0) a k s x = some (r, mk8 ad S0 al' hz s1' s2' s3' s4' lw' hg' mt' tb9 an ky rw9 lf) ∧ AR σ τ a k s x r σ' τ' ∧ WF σ' τ' ∧ RA σ' τ' al' 0 ∧ ∀ q, 17514 ≤ q → al' q = al q := by
  have hK200 := hw.k200
  unfold f_X8_ask
  simp only [b_isAsker, Option.bind_some, ite10, b_isAsk, g8_0 h, b_K h hA]
  by_cases h1 : rng a 4
  · rw [if_neg (fun q => q h1)]
    by_cases h2 : askok k x
    · rw [if_neg (fun q => q h2)]
      by_cases h3 : gK σ = 200
      · refine ⟨-1, al, σ, τ, s1, s2, s3, s4, lw, hg, mt, ?_, Or.inr ⟨fun q => by omega, rfl, rfl, rfl⟩, hw, hA, fun _ _ => rfl⟩
        rw [if_pos (by rw [h3]; rfl)]
      · have n3 : ¬ nI (gK σ) = 200 := fun q => h3 ((nI_eq (a := gK σ) (b := 200) (by omega) (by omega)).mp q)
        rw [if_neg n3]
        have hK : gK σ < 200 := by omega
        obtain ⟨i, hi, rfl⟩ := (rng_iff (by omega)).mp h1
        obtain ⟨j, rfl, hj⟩ := askok_q h2
        obtain ⟨q, u1, u2, u3, u4, lw', hg', mt', e1, e2, e3⟩ := b_judged (S0 := S0) (hz := hz) (s1 := s1) (s2 := s2) (s3 := s3) (s4 := s4) (lw := lw) (hg := hg) (mt := mt) (tb9 := tb9) (an := an) (ky := ky) (rw9 := rw9) (lf := lf) (set := kn σ s) h hw hA hi hj
        simp only [ck8 h, Option.bind_some, b_numbersOf h hw hA, bd2, e1]
        by_cases hq : q = 0
        · subst hq
          rw [if_pos (show nI 0 = 0 from rfl), b_hdr h hw hA hK, if_pos rfl]
          have hRA := RA_hdr hw hA hK 0 0 (fun _ => 0) (nI i) (nI j) (nI (kn σ s)) x (-2)
          have hWA : WF (gA σ 0 (fun _ => 0) 0 0) (tAsk σ τ (nI i) (nI j) (nI (kn σ s)) x (-2)) := WF_gA hw (by omega) hK rfl _ _ _ _ _
          have hF4 : hdr σ al (nI i) (nI j) (nI (kn σ s)) x (-2) 4 = nI (gF σ) := by
            rw [hdr_o (by omega) (by omega)]
            have := hA.F
            rw [Nat.zero_add] at this
            exact this
          refine ⟨-2, upd (hdr σ al (nI i) (nI j) (nI (kn σ s)) x (-2)) 4 (nI (gF σ + 1)), gRef σ, tAsk σ τ (nI i) (nI j) (nI (kn σ s)) x (-2), u1, u2, u3, u4, lw', hg', mt', ?_, Or.inl ⟨i, j, 0, rfl, hi, rfl, hj, hK, e3, rfl, Or.inl ⟨rfl, rfl, rfl⟩⟩, WF_ref (by have := hw.fle; omega) hWA, RA_ref hWA hRA, fun q hq => ?_⟩
          · rw [g8_0 h]
            simp only [Option.bind_some]
            rw [show (4 : Int32) = nI 4 from rfl, r8_al h (by omega), hF4]
            simp only [Option.bind_some, nI_1]
            rw [w8_al h (by omega)]
            rfl
          · unfold upd
            rw [if_neg (by omega)]
            exact hdr_o (by omega) (by omega)
        · have nq : ¬ nI q = 0 := fun z => hq ((nI_eq (a := q) (b := 0) (by omega) (by omega)).mp z)
          rw [if_neg nq]
          obtain ⟨w1, w2, w3, w4, e4⟩ := b_hiddenAnswer (S0 := S0) (hz := hz) (s1 := u1) (s2 := u2) (s3 := u3) (s4 := u4) (lw := lw') (hg := hg') (mt := mt') (tb9 := tb9) (an := an) (ky := ky) (rw9 := rw9) (lf := lf) (set := kn σ s) h hw hA hj
          rw [e4]
          simp only [Option.bind_some]
          have hvle : ansv σ j x.toNatClampNeg (kn σ s) (vl σ) ≤ 60 := ansv_le hw (fun n hn => (hw.num hn).2.2.1)
          have hvh : ansv σ j x.toNatClampNeg (kn σ s) (valt σ (hid σ (gN σ))) = ansv σ j x.toNatClampNeg (kn σ s) (vl σ) := ansv_v (fun n hn => valt_hid hw hn)
          have n2 : ¬ nI (ansv σ j x.toNatClampNeg (kn σ s) (vl σ)) = (-2 : Int32) := fun z => by
            have := congrArg Int32.toInt z
            rw [nI_toInt (by omega), show (-2 : Int32).toInt = -2 from rfl] at this
            omega
          rw [b_hdr h hw hA hK, if_neg n2]
          have hRA := RA_hdr hw hA hK i (ansv σ j x.toNatClampNeg (kn σ s) (vl σ)) (fun t => ansv σ j x.toNatClampNeg (kn σ s) (valt σ t)) (nI i) (nI j) (nI (kn σ s)) x (nI (ansv σ j x.toNatClampNeg (kn σ s) (vl σ)))
          obtain ⟨al', v1, v2, v3, v4, f1, f2, f3⟩ := b_askLoop (S0 := S0) (hz := hz) (s1 := w1) (s2 := w2) (s3 := w3) (s4 := w4) (lw := lw') (hg := hg') (mt := mt') (tb9 := tb9) (an := an) (ky := ky) (rw9 := rw9) (lf := lf) (set := kn σ s) (A := al) h hw hK hi hj hvh (nI i) (nI j) (nI (kn σ s)) x (nI (ansv σ j x.toNatClampNeg (kn σ s) (vl σ))) rfl hRA
          refine ⟨nI (ansv σ j x.toNatClampNeg (kn σ s) (vl σ)), al', _, _, v1, v2, v3, v4, lw', hg', mt', ?_, Or.inl ⟨i, j, q, rfl, hi, rfl, hj, hK, e3, rfl, Or.inr ⟨hq, rfl, rfl⟩⟩, WF_gA hw hi hK hvh _ _ _ _ _, f2, fun z hz9 => ?_⟩
          · rw [f1]
            rfl
          · rw [f3 z hz9]
            exact hdr_o (by omega) (by omega)
    · refine ⟨-1, al, σ, τ, s1, s2, s3, s4, lw, hg, mt, ?_, Or.inr ⟨fun q => h2 q.2.1, rfl, rfl, rfl⟩, hw, hA, fun _ _ => rfl⟩
      rw [if_pos h2]
  · refine ⟨-1, al, σ, τ, s1, s2, s3, s4, lw, hg, mt, ?_, Or.inr ⟨fun q => h1 q.1, rfl, rfl, rfl⟩, hw, hA, fun _ _ => rfl⟩
    rw [if_pos h1]
end M8M
