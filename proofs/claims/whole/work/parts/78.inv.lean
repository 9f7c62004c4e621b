/-! ===== the invariant: both objects hold the same ===== -/
theorem pt_pt {ca : Nat → Nat} {S : PH} {C D : Nat → PE} (h : injC ca) : pt ca (pt ca S C) D = pt ca S D := by
  funext a
  by_cases e : ∃ i, i < 120 ∧ a = ca i
  · obtain ⟨i, hi, rfl⟩ := e
    rw [pt_at h hi, pt_at h hi]
  · have e' : ∀ i, i < 120 → a ≠ ca i := fun i hi q => e ⟨i, hi, q⟩
    rw [pt_out e', pt_out e', pt_out e']
theorem pt_self {ca : Nat → Nat} {S : PH} {C : Nat → PE} (h : injC ca) (he : ∀ i, i < 120 → S (ca i) = some (C i)) : S = pt ca S C := by
  funext a
  by_cases e : ∃ i, i < 120 ∧ a = ca i
  · obtain ⟨i, hi, rfl⟩ := e
    rw [pt_at h hi, he i hi]
  · have e' : ∀ i, i < 120 → a ≠ ca i := fun i hi q => e ⟨i, hi, q⟩
    rw [pt_out e']
theorem mk_out {ad : Nat → Nat} {S0 : PH} {al hz : Nat → Int32} {s1 s2 s3 s4 : Int32} {lw hg mt tb9 : Nat → Int32} {an ky : Nat → Int64} {rw9 : Nat → Int32} {lf : Int32} {a : Nat} (h : ∀ k, k < 10 → a ≠ ad k) : (mk8 ad S0 al hz s1 s2 s3 s4 lw hg mt tb9 an ky rw9 lf) a = S0 a := by
  unfold mk8
  rw [if_neg (h 0 (by omega)), if_neg (h 1 (by omega)), if_neg (h 2 (by omega)), if_neg (h 3 (by omega)), if_neg (h 4 (by omega)), if_neg (h 5 (by omega)), if_neg (h 6 (by omega)), if_neg (h 7 (by omega)), if_neg (h 8 (by omega)), if_neg (h 9 (by omega))]
theorem mk_in {ad : Nat → Nat} {S0 S1 : PH} {al hz : Nat → Int32} {s1 s2 s3 s4 : Int32} {lw hg mt tb9 : Nat → Int32} {an ky : Nat → Int64} {rw9 : Nat → Int32} {lf : Int32} (h : inj8 ad) {k : Nat} (hk : k < 10) : (mk8 ad S0 al hz s1 s2 s3 s4 lw hg mt tb9 an ky rw9 lf) (ad k) = (mk8 ad S1 al hz s1 s2 s3 s4 lw hg mt tb9 an ky rw9 lf) (ad k) := by
  match k, hk with
  | 0, _ => rw [at8_0 h, at8_0 h]
  | 1, _ => rw [at8_1 h, at8_1 h]
  | 2, _ => rw [at8_2 h, at8_2 h]
  | 3, _ => rw [at8_3 h, at8_3 h]
  | 4, _ => rw [at8_4 h, at8_4 h]
  | 5, _ => rw [at8_5 h, at8_5 h]
  | 6, _ => rw [at8_6 h, at8_6 h]
  | 7, _ => rw [at8_7 h, at8_7 h]
  | 8, _ => rw [at8_8 h, at8_8 h]
  | 9, _ => rw [at8_9 h, at8_9 h]
theorem mk_mv {ad : Nat → Nat} {S S1 : PH} {al hz : Nat → Int32} {s1 s2 s3 s4 : Int32} {lw hg mt tb9 : Nat → Int32} {an ky : Nat → Int64} {rw9 : Nat → Int32} {lf : Int32} (h : inj8 ad) (hS : ∀ k, k < 10 → S (ad k) = (mk8 ad S al hz s1 s2 s3 s4 lw hg mt tb9 an ky rw9 lf) (ad k)) (he : ∀ k, k < 10 → S1 (ad k) = S (ad k)) : S1 = mk8 ad S1 al hz s1 s2 s3 s4 lw hg mt tb9 an ky rw9 lf := by
  funext a
  by_cases e : ∃ k, k < 10 ∧ a = ad k
  · obtain ⟨k, hk, rfl⟩ := e
    rw [he k hk, hS k hk, mk_in (S1 := S1) h hk]
  · rw [mk_out (fun k hk q => e ⟨k, hk, q⟩)]
def INV (ad ca : Nat → Nat) (S : PH) : Prop := ∃ (C : Nat → PE) (al hz : Nat → Int32) (s1 s2 s3 s4 : Int32) (lw hg mt tb9 : Nat → Int32) (an ky : Nat → Int64) (rw9 : Nat → Int32) (lf : Int32) (σ : SG) (τ : TG) (σk : Nat → SG) (τk : Nat → TG),
  S = pt ca S C ∧ S = mk8 ad S al hz s1 s2 s3 s4 lw hg mt tb9 an ky rw9 lf ∧ WF σ τ ∧ RA σ τ al 0 ∧ SC ca σ τ C 12 ∧ TOP ca C 12 ∧ (∃ fi, C 1 = eR 0 3 fi ∧ ∀ k, k < 3 → fi k = some (ca (39 + 27 * k))) ∧ (∃ zt, C 2 = eZ 3 zt ∧ ∀ k, k < 3 → zt k = hz k) ∧
  ∀ k, k < 3 → WF (σk k) (τk k) ∧ SC ca (σk k) (τk k) C (39 + 27 * k) ∧ (hz k ≠ 0 → RA (σk k) (τk k) al (17514 * (k + 1)))
theorem TOP_f2 {ca : Nat → Nat} {C D : Nat → PE} {b : Nat} (h : TOP ca C b) (he : ∀ i, i < 12 → i ≠ 2 → D i = C i) : TOP ca D b := by
  unfold TOP
  rw [he 0 (by omega) (by omega), he 3 (by omega) (by omega), he 4 (by omega) (by omega), he 5 (by omega) (by omega), he 6 (by omega) (by omega), he 7 (by omega) (by omega), he 8 (by omega) (by omega), he 9 (by omega) (by omega), he 10 (by omega) (by omega), he 11 (by omega) (by omega)]
  exact h
section INVS
variable {ad ca : Nat → Nat}
theorem AG_gen (hj : injC ca) (hi8 : inj8 ad) (hx : ∀ i k, i < 120 → k < 10 → ca i ≠ ad k) {S : PH} {C : Nat → PE} {al hz : Nat → Int32} {s1 s2 s3 s4 : Int32} {lw hg mt tb9 : Nat → Int32} {an ky : Nat → Int64} {rw9 : Nat → Int32} {lf : Int32} {σk : Nat → SG} {τk : Nat → TG} (R : Int32 → SG → TG → Prop) (F7 F8 : PH → Option (Int32 × PH))
    (hS : S = pt ca S C) (hM : S = mk8 ad S al hz s1 s2 s3 s4 lw hg mt tb9 an ky rw9 lf) (hT : TOP ca C 12) (hfi : ∃ fi, C 1 = eR 0 3 fi ∧ ∀ k, k < 3 → fi k = some (ca (39 + 27 * k))) (hzt : ∃ zt, C 2 = eZ 3 zt ∧ ∀ k, k < 3 → zt k = hz k)
    (him : ∀ k, k < 3 → WF (σk k) (τk k) ∧ SC ca (σk k) (τk k) C (39 + 27 * k) ∧ (hz k ≠ 0 → RA (σk k) (τk k) al (17514 * (k + 1))))
    (hb : ∀ S0 : PH, ∃ (r : Int32) (al' : Nat → Int32) (σ' : SG) (τ' : TG) (s1' s2' s3' s4' : Int32) (lw' hg' mt' tb9' : Nat → Int32) (an' ky' : Nat → Int64) (rw9' : Nat → Int32) (lf' : Int32), F8 (mk8 ad S0 al hz s1 s2 s3 s4 lw hg mt tb9 an ky rw9 lf) = some (r, mk8 ad S0 al' hz s1' s2' s3' s4' lw' hg' mt' tb9' an' ky' rw9' lf') ∧ R r σ' τ' ∧ WF σ' τ' ∧ RA σ' τ' al' 0 ∧ ∀ q, 17514 ≤ q → al' q = al q)
    (hd : ∀ r σ' τ', R r σ' τ' → ∃ D, F7 (pt ca S C) = some (r, pt ca S D) ∧ SC ca σ' τ' D 12 ∧ TOP ca D 12 ∧ FS C D 12) : ∃ (r : Int32) (S1 S2 : PH), ckO S (ca 0) 7 = some () ∧ F7 S = some (r, S1) ∧ ckO S1 (ad 0) 8 = some () ∧ F8 S1 = some (r, S2) ∧ INV ad ca S2 := by
  have ck1 : ckO S (ca 0) 7 = some () := by
    rw [hS]
    exact pt_ck hj hT.1 (by omega)
  obtain ⟨r0, al0, σ0, τ0, -, -, -, -, -, -, -, -, -, -, -, -, -, R0, -⟩ := hb S
  obtain ⟨D0, eD0, -⟩ := hd r0 σ0 τ0 R0
  obtain ⟨r, al', σ', τ', s1', s2', s3', s4', lw', hg', mt', tb9', an', ky', rw9', lf', e8, hR, hw', hA', ho'⟩ := hb (pt ca S D0)
  obtain ⟨D, eD, hSC, hTOP, hFS⟩ := hd r σ' τ' hR
  have hDD : r0 = r ∧ pt ca S D0 = pt ca S D := by
    rw [eD] at eD0
    have := Option.some.inj eD0
    exact ⟨(congrArg Prod.fst this).symm, (congrArg Prod.snd this).symm⟩
  rw [hDD.2] at e8
  have hS1 : pt ca S D = mk8 ad (pt ca S D) al hz s1 s2 s3 s4 lw hg mt tb9 an ky rw9 lf := mk_mv (S := S) hi8 (fun k hk => congrFun hM (ad k)) (fun k hk => pt_out (fun i hi q => hx i k hi hk q.symm))
  refine ⟨r, pt ca S D, mk8 ad (pt ca S D) al' hz s1' s2' s3' s4' lw' hg' mt' tb9' an' ky' rw9' lf', ck1, ?_, ?_, ?_, ?_⟩
  · rw [hS, pt_pt hj]
    exact eD
  · rw [hS1]
    exact ck8 hi8
  · rw [← hS1] at e8
    exact e8
  · refine ⟨D, al', hz, s1', s2', s3', s4', lw', hg', mt', tb9', an', ky', rw9', lf', σ', τ', σk, τk, ?_, ?_, hw', hA', hSC, hTOP, ?_, ?_, fun k hk => ?_⟩
    · refine pt_self hj (fun i hi => ?_)
      rw [mk_out (fun k hk => hx i k hi hk), pt_at hj hi]
    · exact mk_mv (S := mk8 ad (pt ca S D) al' hz s1' s2' s3' s4' lw' hg' mt' tb9' an' ky' rw9' lf') hi8 (fun k hk => mk_in hi8 hk) (fun k hk => rfl)
    · rw [hFS 1 (by omega)]; exact hfi
    · rw [hFS 2 (by omega)]; exact hzt
    · obtain ⟨a1, a2, a3⟩ := him k hk
      refine ⟨a1, SC_fr a2 (fun i h1 h2 => hFS i (by omega)), fun hne => RA_frame a1 (a3 hne) (fun i hi => ho' _ (by omega))⟩
theorem AG_all (hj : injC ca) (hi8 : inj8 ad) (hx : ∀ i k, i < 120 → k < 10 → ca i ≠ ad k) : AGREE (INV ad ca) (ca 0) (ad 0) := by
  refine ⟨?_, ?_, ?_, ?_, ?_, ?_, ?_, ?_, ?_, ?_, ?_, ?_, ?_, ?_, ?_, ?_, ?_⟩
  -- person
  · rintro S a b c d ⟨C, al, hz, s1, s2, s3, s4, lw, hg, mt, tb9, an, ky, rw9, lf, σ, τ, σk, τk, hS, hM, hw, hA, hC, hT, hfi, hzt, him⟩
    refine AG_gen hj hi8 hx (fun r σ' τ' => PeR σ a b c d r σ' ∧ τ' = τ) (fun S => f_X7_person S (ca 0) a b c d) (fun S => f_X8_person S (ad 0) a b c d) hS hM hT hfi hzt him (fun S0 => ?_) (fun r σ' τ' hR => ?_)
    · obtain ⟨r, al', σ', e, hR, hA', ho⟩ := b_person (S0 := S0) hi8 hw hA a b c d
      exact ⟨r, al', σ', τ, _, _, _, _, _, _, _, _, _, _, _, _, e, ⟨hR, rfl⟩, WF_Pe hw hR, hA', ho⟩
    · obtain ⟨hR, rfl⟩ := hR
      exact d_person hj (by omega) (by omega) hw hC hT hR
  -- change
  · rintro S a b ⟨C, al, hz, s1, s2, s3, s4, lw, hg, mt, tb9, an, ky, rw9, lf, σ, τ, σk, τk, hS, hM, hw, hA, hC, hT, hfi, hzt, him⟩
    refine AG_gen hj hi8 hx (fun r σ' τ' => ChR σ a b r σ' ∧ τ' = τ) (fun S => f_X7_change S (ca 0) a b) (fun S => f_X8_change S (ad 0) a b) hS hM hT hfi hzt him (fun S0 => ?_) (fun r σ' τ' hR => ?_)
    · obtain ⟨r, al', σ', e, hR, hA', ho⟩ := b_change (S0 := S0) hi8 hw hA a b
      exact ⟨r, al', σ', τ, _, _, _, _, _, _, _, _, _, _, _, _, e, ⟨hR, rfl⟩, WF_Ch hw hR, hA', ho⟩
    · obtain ⟨hR, rfl⟩ := hR
      exact d_change hj (by omega) (by omega) hw hC hT hR
  -- ask
  · rintro S a b c d ⟨C, al, hz, s1, s2, s3, s4, lw, hg, mt, tb9, an, ky, rw9, lf, σ, τ, σk, τk, hS, hM, hw, hA, hC, hT, hfi, hzt, him⟩
    refine AG_gen hj hi8 hx (fun r σ' τ' => AR σ τ a b c d r σ' τ') (fun S => f_X7_ask S (ca 0) a b c d) (fun S => f_X8_ask S (ad 0) a b c d) hS hM hT hfi hzt him (fun S0 => ?_) (fun r σ' τ' hR => ?_)
    · obtain ⟨r, al', σ', τ', s1', s2', s3', s4', lw', hg', mt', e, hR, hw', hA', ho⟩ := b_ask (S0 := S0) hi8 hw hA a b c d
      exact ⟨r, al', σ', τ', _, _, _, _, _, _, _, _, _, _, _, _, e, hR, hw', hA', ho⟩
    · exact d_ask hj (by omega) (by omega) hw hC hT hR
  -- would
  · rintro S a b c d ⟨C, al, hz, s1, s2, s3, s4, lw, hg, mt, tb9, an, ky, rw9, lf, σ, τ, σk, τk, hS, hM, hw, hA, hC, hT, hfi, hzt, him⟩
    refine AG_gen hj hi8 hx (fun r σ' τ' => WR σ a b c d r ∧ σ' = σ ∧ τ' = τ) (fun S => f_X7_would S (ca 0) a b c d) (fun S => f_X8_would S (ad 0) a b c d) hS hM hT hfi hzt him (fun S0 => ?_) (fun r σ' τ' hR => ?_)
    · obtain ⟨r, s1', s2', s3', s4', lw', hg', mt', e, hR⟩ := b_would (S0 := S0) hi8 hw hA a b c d
      exact ⟨r, al, σ, τ, _, _, _, _, _, _, _, _, _, _, _, _, e, ⟨hR, rfl, rfl⟩, hw, hA, fun _ _ => rfl⟩
    · obtain ⟨hR, rfl, rfl⟩ := hR
      obtain ⟨D, e, hF, hT'⟩ := d_would (S0 := S) hj (by omega) (by omega) hw hC hT hR
      exact ⟨D, e, SC_FR hC (by omega) hF, hT', FS_FR (by omega) hF⟩
  -- join
  · rintro S a b ⟨C, al, hz, s1, s2, s3, s4, lw, hg, mt, tb9, an, ky, rw9, lf, σ, τ, σk, τk, hS, hM, hw, hA, hC, hT, hfi, hzt, him⟩
    refine AG_gen hj hi8 hx (fun r σ' τ' => JoR σ a b r σ' ∧ τ' = τ) (fun S => f_X7_join S (ca 0) a b) (fun S => f_X8_join S (ad 0) a b) hS hM hT hfi hzt him (fun S0 => ?_) (fun r σ' τ' hR => ?_)
    · obtain ⟨r, al', σ', e, hR, hw', hA', ho⟩ := b_join (S0 := S0) hi8 hw hA a b
      exact ⟨r, al', σ', τ, _, _, _, _, _, _, _, _, _, _, _, _, e, ⟨hR, rfl⟩, hw', hA', ho⟩
    · obtain ⟨hR, rfl⟩ := hR
      exact d_join hj (by omega) (by omega) hw hC hT hR
  -- knows
  · rintro S a b c ⟨C, al, hz, s1, s2, s3, s4, lw, hg, mt, tb9, an, ky, rw9, lf, σ, τ, σk, τk, hS, hM, hw, hA, hC, hT, hfi, hzt, him⟩
    have key := AG_gen hj hi8 hx (fun r σ' τ' => KR σ a b c r ∧ σ' = σ ∧ τ' = τ) (fun S => f_X7_knows S (ca 0) a b c) (fun S => (f_X8_knows S (ad 0) a b c).bind fun r => some (r, S)) hS hM hT hfi hzt him (fun S0 => by
      obtain ⟨r, e, hR⟩ := b_knows (S0 := S0) (hz := hz) (s1 := s1) (s2 := s2) (s3 := s3) (s4 := s4) (lw := lw) (hg := hg) (mt := mt) (tb9 := tb9) (an := an) (ky := ky) (rw9 := rw9) (lf := lf) hi8 hw hA a b c
      exact ⟨r, al, σ, τ, _, _, _, _, _, _, _, _, _, _, _, _, by rw [e]; rfl, ⟨hR, rfl, rfl⟩, hw, hA, fun _ _ => rfl⟩) (fun r σ' τ' hR => by
      obtain ⟨hR, rfl, rfl⟩ := hR
      obtain ⟨D, e, hF, hT'⟩ := d_knows (S0 := S) hj (by omega) (by omega) hw hC hT hR
      exact ⟨D, e, SC_FR hC (by omega) hF, hT', FS_FR (by omega) hF⟩)
    obtain ⟨r, S1, S2, k1, k2, k3, k4, k5⟩ := key
    obtain ⟨r', e1, e2⟩ := bs k4
    have e3 := Option.some.inj e2
    have e4 : r' = r := congrArg Prod.fst e3
    have e5 : S1 = S2 := congrArg Prod.snd e3
    rw [← e5] at k5
    rw [e4] at e1
    exact ⟨r, S1, k1, k2, k3, e1, k5⟩
  -- tables
  · rintro S a hI
    obtain ⟨C, al, hz, s1, s2, s3, s4, lw, hg, mt, tb9, an, ky, rw9, lf, σ, τ, σk, τk, hS, hM, hw, hA, hC, hT, hfi, hzt, him⟩ := id hI
    refine ⟨sTab σ a, ?_, ?_, ?_, ?_, hI⟩
    · rw [hS]; exact pt_ck hj hT.1 (by omega)
    · rw [hS]; exact d_tables hj (by omega) hw hC hT a
    · rw [hM]; exact ck8 hi8
    · rw [hM]; exact b_tables hi8 hw hA a
  -- broken
  · rintro S a ⟨C, al, hz, s1, s2, s3, s4, lw, hg, mt, tb9, an, ky, rw9, lf, σ, τ, σk, τk, hS, hM, hw, hA, hC, hT, hfi, hzt, him⟩
    refine AG_gen hj hi8 hx (fun r σ' τ' => BR σ a r ∧ σ' = σ ∧ τ' = τ) (fun S => f_X7_broken S (ca 0) a) (fun S => f_X8_broken S (ad 0) a) hS hM hT hfi hzt him (fun S0 => ?_) (fun r σ' τ' hR => ?_)
    · obtain ⟨r, lw', hg', mt', e, hR⟩ := b_broken (S0 := S0) hi8 hw hA a
      exact ⟨r, al, σ, τ, _, _, _, _, _, _, _, _, _, _, _, _, e, ⟨hR, rfl, rfl⟩, hw, hA, fun _ _ => rfl⟩
    · obtain ⟨hR, rfl, rfl⟩ := hR
      obtain ⟨D, e, hF, hT'⟩ := d_broken (S0 := S) hj (by omega) (by omega) hw hC hT hR
      exact ⟨D, e, SC_FR hC (by omega) hF, hT', FS_FR (by omega) hF⟩
  -- tell
  · rintro S a b hI
    obtain ⟨C, al, hz, s1, s2, s3, s4, lw, hg, mt, tb9, an, ky, rw9, lf, σ, τ, σk, τk, hS, hM, hw, hA, hC, hT, hfi, hzt, him⟩ := id hI
    refine ⟨sTell σ a b, ?_, ?_, ?_, ?_, hI⟩
    · rw [hS]; exact pt_ck hj hT.1 (by omega)
    · rw [hS]; exact d_tell hj (by omega) hw hC hT a b
    · rw [hM]; exact ck8 hi8
    · rw [hM]; exact b_tell hi8 hw hA a b
  -- asked
  · rintro S a b hI
    obtain ⟨C, al, hz, s1, s2, s3, s4, lw, hg, mt, tb9, an, ky, rw9, lf, σ, τ, σk, τk, hS, hM, hw, hA, hC, hT, hfi, hzt, him⟩ := id hI
    refine ⟨sAsked σ τ a b, ?_, ?_, ?_, ?_, hI⟩
    · rw [hS]; exact pt_ck hj hT.1 (by omega)
    · rw [hS]; exact d_asked hj (by omega) hw hC hT a b
    · rw [hM]; exact ck8 hi8
    · rw [hM]; exact b_asked hi8 hw hA a b
  -- wish
  · rintro S a b c ⟨C, al, hz, s1, s2, s3, s4, lw, hg, mt, tb9, an, ky, rw9, lf, σ, τ, σk, τk, hS, hM, hw, hA, hC, hT, hfi, hzt, him⟩
    refine AG_gen hj hi8 hx (fun r σ' τ' => WiR σ τ a b c r σ' τ') (fun S => f_X7_wish S (ca 0) a b c) (fun S => f_X8_wish S (ad 0) a b c) hS hM hT hfi hzt him (fun S0 => ?_) (fun r σ' τ' hR => ?_)
    · obtain ⟨r, al', σ', τ', e, hR, hA', ho⟩ := b_wish (S0 := S0) hi8 hw hA a b c
      have hw' : WF σ' τ' := by
        rcases id hR with ⟨j, rfl, hk, hW, -, rfl, rfl⟩ | ⟨-, -, rfl, rfl⟩
        · exact WF_wish hw hW (kn_lt σ b) hk
        · exact hw
      exact ⟨r, al', σ', τ', _, _, _, _, _, _, _, _, _, _, _, _, e, hR, hw', hA', ho⟩
    · exact d_wish hj (by omega) (by omega) hw hC hT hR
  -- clear
  · rintro S ⟨C, al, hz, s1, s2, s3, s4, lw, hg, mt, tb9, an, ky, rw9, lf, σ, τ, σk, τk, hS, hM, hw, hA, hC, hT, hfi, hzt, him⟩
    have key := AG_gen hj hi8 hx (fun r σ' τ' => r = 0 ∧ σ' = gClear σ ∧ τ' = τ) (fun S => (f_X7_clear S (ca 0)).bind fun S1 => some (0, S1)) (fun S => (f_X8_clear S (ad 0)).bind fun S1 => some (0, S1)) hS hM hT hfi hzt him (fun S0 => by
      obtain ⟨al', e, hA', ho⟩ := b_clear (S0 := S0) (hz := hz) (s1 := s1) (s2 := s2) (s3 := s3) (s4 := s4) (lw := lw) (hg := hg) (mt := mt) (tb9 := tb9) (an := an) (ky := ky) (rw9 := rw9) (lf := lf) hi8 hw hA
      exact ⟨0, al', gClear σ, τ, _, _, _, _, _, _, _, _, _, _, _, _, by rw [e]; rfl, ⟨rfl, rfl, rfl⟩, WF_clear hw, hA', ho⟩) (fun r σ' τ' hR => by
      obtain ⟨rfl, rfl, rfl⟩ := hR
      obtain ⟨D, e, h1, h2, h3⟩ := d_clear (S0 := S) hj (by omega) (by omega) hw hC hT
      exact ⟨D, by rw [e]; rfl, h1, h2, h3⟩)
    obtain ⟨r, S1, S2, k1, k2, k3, k4, k5⟩ := key
    obtain ⟨T1, e1, e2⟩ := bs k2
    obtain ⟨T2, e3, e4⟩ := bs k4
    have e5 : T1 = S1 := congrArg Prod.snd (Option.some.inj e2)
    have e6 : T2 = S2 := congrArg Prod.snd (Option.some.inj e4)
    rw [e5] at e1
    rw [e6] at e3
    exact ⟨S1, S2, k1, e1, k3, e3, k5⟩
  -- most
  · rintro S a ⟨C, al, hz, s1, s2, s3, s4, lw, hg, mt, tb9, an, ky, rw9, lf, σ, τ, σk, τk, hS, hM, hw, hA, hC, hT, hfi, hzt, him⟩
    refine AG_gen hj hi8 hx (fun r σ' τ' => MoR σ τ a r ∧ σ' = σ ∧ τ' = τ) (fun S => f_X7_most S (ca 0) a) (fun S => f_X8_most S (ad 0) a) hS hM hT hfi hzt him (fun S0 => ?_) (fun r σ' τ' hR => ?_)
    · obtain ⟨r, s1', s2', s3', s4', lw', hg', mt', tb9', an', ky', rw9', lf', e, hR⟩ := b_most (S0 := S0) hi8 hw hA a
      exact ⟨r, al, σ, τ, _, _, _, _, _, _, _, _, _, _, _, _, e, ⟨hR, rfl, rfl⟩, hw, hA, fun _ _ => rfl⟩
    · obtain ⟨hR, rfl, rfl⟩ := hR
      obtain ⟨D, e, hF, hT'⟩ := d_most (S0 := S) hj (by omega) (by omega) hw hC hT hR
      exact ⟨D, e, SC_FR hC (by omega) hF, hT', FS_FR (by omega) hF⟩
  -- together
  · rintro S a b ⟨C, al, hz, s1, s2, s3, s4, lw, hg, mt, tb9, an, ky, rw9, lf, σ, τ, σk, τk, hS, hM, hw, hA, hC, hT, hfi, hzt, him⟩
    refine AG_gen hj hi8 hx (fun r σ' τ' => ToR σ τ a b r ∧ σ' = σ ∧ τ' = τ) (fun S => f_X7_together S (ca 0) a b) (fun S => f_X8_together S (ad 0) a b) hS hM hT hfi hzt him (fun S0 => ?_) (fun r σ' τ' hR => ?_)
    · obtain ⟨r, s1', s2', s3', s4', lw', hg', mt', tb9', an', ky', rw9', lf', e, hR⟩ := b_together (S0 := S0) hi8 hw hA a b
      exact ⟨r, al, σ, τ, _, _, _, _, _, _, _, _, _, _, _, _, e, ⟨hR, rfl, rfl⟩, hw, hA, fun _ _ => rfl⟩
    · obtain ⟨hR, rfl, rfl⟩ := hR
      obtain ⟨D, e, hF, hT'⟩ := d_together (S0 := S) hj (by omega) (by omega) hw hC hT hR
      exact ⟨D, e, SC_FR hC (by omega) hF, hT', FS_FR (by omega) hF⟩
  -- count
  · rintro S a hI
    obtain ⟨C, al, hz, s1, s2, s3, s4, lw, hg, mt, tb9, an, ky, rw9, lf, σ, τ, σk, τk, hS, hM, hw, hA, hC, hT, hfi, hzt, him⟩ := id hI
    refine ⟨sCount σ a, ?_, ?_, ?_, ?_, hI⟩
    · rw [hS]; exact pt_ck hj hT.1 (by omega)
    · rw [hS]; exact d_count hj (by omega) hw hC hT a
    · rw [hM]; exact ck8 hi8
    · rw [hM]; exact b_count hi8 hw hA a
  -- image
  · rintro S a hI
    obtain ⟨C, al, hz, s1, s2, s3, s4, lw, hg, mt, tb9, an, ky, rw9, lf, σ, τ, σk, τk, hS, hM, hw, hA, hC, hT, ⟨fi, h1, hfi⟩, ⟨zt, h2, hzt⟩, him⟩ := id hI
    have ck1 : ckO S (ca 0) 7 = some () := by rw [hS]; exact pt_ck hj hT.1 (by omega)
    by_cases c : rng a 3
    · obtain ⟨k, hk, rfl⟩ := (rng_iff (by omega)).mp c
      obtain ⟨m1, m2, m3⟩ := him k hk
      obtain ⟨D, eD, hD, hDo⟩ := d_copy (S0 := S) (C := C) (b := 39 + 27 * k) (e := 12) hj (by omega) (by omega) (by omega) hw hC m2
      have d0 : D 0 = _ := (hDo 0 (by omega)).trans hT.1
      have d2 : D 2 = _ := (hDo 2 (by omega)).trans h2
      have e7 : f_X7_image (pt ca S C) (ca 0) (nI k) = some (1, pt ca S (va_up D 2 (eZ 3 (upd zt k 1)))) := by
        unfold f_X7_image
        rw [if_neg (Int32.not_lt.mpr c.1), if_pos (show nI k < (3 : Int32) from c.2)]
        simp only [pt_gR hj hT.1 (by omega : 0 < 120) (k := 1) rfl, pt_gR hj hT.1 (by omega : 0 < 120) (k := 0) rfl, pt_ldR hj h1 (by omega : 1 < 120) hk (by omega) (hfi k hk), pt_ck hj m2.1 (by omega : 39 + 27 * k < 120), eD, pt_gR hj d0 (by omega : 0 < 120) (k := 2) rfl, pt_stZ hj d2 (by omega : 2 < 120) hk (by omega), nar1, Option.bind_some, Option.bind_none, bd2, bd3, bd4, nm]
      have hE : ∀ i, i ≠ 2 → va_up D 2 (eZ 3 (upd zt k 1)) i = D i := fun i hi => va_up_ne _ _ hi
      have hS1 : pt ca S (va_up D 2 (eZ 3 (upd zt k 1))) = mk8 ad (pt ca S (va_up D 2 (eZ 3 (upd zt k 1)))) al hz s1 s2 s3 s4 lw hg mt tb9 an ky rw9 lf := mk_mv (S := S) hi8 (fun k hk => congrFun hM (ad k)) (fun k hk => pt_out (fun i hi q => hx i k hi hk q.symm))
      have e8 := b_image (S0 := pt ca S (va_up D 2 (eZ 3 (upd zt k 1)))) (al := al) (hz := hz) (s1 := s1) (s2 := s2) (s3 := s3) (s4 := s4) (lw := lw) (hg := hg) (mt := mt) (tb9 := tb9) (an := an) (ky := ky) (rw9 := rw9) (lf := lf) hi8 hk
      refine ⟨1, pt ca S (va_up D 2 (eZ 3 (upd zt k 1))), mk8 ad (pt ca S (va_up D 2 (eZ 3 (upd zt k 1)))) (mv al 0 (17514 * (k + 1)) 17514) (upd hz k 1) s1 s2 s3 s4 lw hg mt tb9 an ky rw9 lf, ck1, ?_, ?_, ?_, ?_⟩
      · rw [hS, pt_pt hj]; exact e7
      · rw [hS1]; exact ck8 hi8
      · rw [← hS1] at e8; exact e8
      · refine ⟨va_up D 2 (eZ 3 (upd zt k 1)), mv al 0 (17514 * (k + 1)) 17514, upd hz k 1, s1, s2, s3, s4, lw, hg, mt, tb9, an, ky, rw9, lf, σ, τ, va_up σk k σ, va_up τk k τ, ?_, ?_, hw, ?_, ?_, ?_, ?_, ?_, fun j hj3 => ?_⟩
        · refine pt_self hj (fun i hi => ?_)
          rw [mk_out (fun k hk => hx i k hi hk), pt_at hj hi]
        · exact mk_mv (S := mk8 ad (pt ca S (va_up D 2 (eZ 3 (upd zt k 1)))) (mv al 0 (17514 * (k + 1)) 17514) (upd hz k 1) s1 s2 s3 s4 lw hg mt tb9 an ky rw9 lf) hi8 (fun k hk => mk_in hi8 hk) (fun k hk => rfl)
        · refine RA_frame hw hA (fun i hi => ?_)
          show (if 17514 * (k + 1) ≤ 0 + i ∧ 0 + i < 17514 * (k + 1) + 17514 then _ else _) = _
          rw [if_neg (by omega)]
        · exact SC_fr hC (fun i q1 q2 => (hE i (by omega)).trans (hDo i (by omega)))
        · exact TOP_f2 hT (fun i hi h9 => (hE i h9).trans (hDo i (by omega)))
        · refine ⟨fi, ?_, hfi⟩
          rw [hE 1 (by omega), hDo 1 (by omega)]; exact h1
        · refine ⟨upd zt k 1, va_up_self _ _ _, fun j hj3 => ?_⟩
          by_cases e : j = k
          · subst e; rw [pk_us, pk_us]
          · rw [pk_un e, pk_un e]; exact hzt j hj3
        · by_cases e : j = k
          · subst e
            rw [va_up_self, va_up_self]
            refine ⟨hw, SC_fr hD (fun i q1 q2 => hE i (by omega)), fun _ => RA_shift hw hA (fun i hi => ?_)⟩
            show (if 17514 * (j + 1) ≤ 17514 * (j + 1) + i ∧ 17514 * (j + 1) + i < 17514 * (j + 1) + 17514 then al (17514 * (j + 1) + i - 17514 * (j + 1) + 0) else _) = _
            rw [if_pos (by omega), show 17514 * (j + 1) + i - 17514 * (j + 1) + 0 = 0 + i by omega]
          · rw [va_up_ne _ _ e, va_up_ne _ _ e]
            obtain ⟨q1, q2, q3⟩ := him j hj3
            refine ⟨q1, SC_fr q2 (fun i x1 x2 => (hE i (by omega)).trans (hDo i (by omega))), fun hne => ?_⟩
            rw [pk_un e] at hne
            refine RA_frame q1 (q3 hne) (fun i hi => ?_)
            show (if 17514 * (k + 1) ≤ 17514 * (j + 1) + i ∧ 17514 * (j + 1) + i < 17514 * (k + 1) + 17514 then _ else _) = _
            rw [if_neg (by omega)]
    · refine ⟨0, S, S, ck1, ?_, ?_, b_image0 c S (ad 0), hI⟩
      · unfold f_X7_image
        by_cases c1 : a < 0
        · rw [if_pos c1]
        · rw [if_neg c1, if_neg (show ¬ a < (3 : Int32) from fun q => c ⟨Int32.not_lt.mp c1, q⟩)]
      · rw [hM]; exact ck8 hi8
  -- again
  · rintro S a hI
    obtain ⟨C, al, hz, s1, s2, s3, s4, lw, hg, mt, tb9, an, ky, rw9, lf, σ, τ, σk, τk, hS, hM, hw, hA, hC, hT, ⟨fi, h1, hfi⟩, ⟨zt, h2, hzt⟩, him⟩ := id hI
    have ck1 : ckO S (ca 0) 7 = some () := by rw [hS]; exact pt_ck hj hT.1 (by omega)
    have ck2 : ckO S (ad 0) 8 = some () := by rw [hM]; exact ck8 hi8
    by_cases c : rng a 3
    · obtain ⟨k, hk, rfl⟩ := (rng_iff (by omega)).mp c
      by_cases z : hz k = 0
      · refine ⟨0, S, S, ck1, ?_, ck2, ?_, hI⟩
        · rw [hS]
          unfold f_X7_again
          rw [if_neg (Int32.not_lt.mpr c.1), if_neg (show ¬ (3 : Int32) ≤ nI k from Int32.not_le.mpr c.2)]
          simp only [pt_gR hj hT.1 (by omega : 0 < 120) (k := 2) rfl, pt_ldZ hj h2 (by omega : 2 < 120) hk (by omega), hzt k hk, z, Option.bind_some, Option.bind_none, bd2, bd3, bd4, nm]
          rfl
        · rw [hM]
          exact b_again0 hi8 (fun j hj3 e => by
            have : k = j := (nI_eq (by omega) (by omega)).mp e
            rw [← this]; exact z)
      · obtain ⟨m1, m2, m3⟩ := him k hk
        obtain ⟨D, eD, hD, hDo⟩ := d_copy (S0 := S) (C := C) (b := 12) (e := 39 + 27 * k) hj (by omega) (by omega) (by omega) m1 m2 hC
        have e7 : f_X7_again (pt ca S C) (ca 0) (nI k) = some (1, pt ca S D) := by
          unfold f_X7_again
          rw [if_neg (Int32.not_lt.mpr c.1), if_neg (show ¬ (3 : Int32) ≤ nI k from Int32.not_le.mpr c.2)]
          simp only [pt_gR hj hT.1 (by omega : 0 < 120) (k := 2) rfl, pt_ldZ hj h2 (by omega : 2 < 120) hk (by omega), hzt k hk, Option.bind_some, Option.bind_none, bd2, bd3, bd4, nm]
          rw [if_neg z]
          simp only [pt_gR hj hT.1 (by omega : 0 < 120) (k := 0) rfl, pt_gR hj hT.1 (by omega : 0 < 120) (k := 1) rfl, pt_ldR hj h1 (by omega : 1 < 120) hk (by omega) (hfi k hk), pt_ck hj hC.1 (by omega : 12 < 120), eD, Option.bind_some, Option.bind_none, bd2, bd3, bd4, nm]
        have hS1 : pt ca S D = mk8 ad (pt ca S D) al hz s1 s2 s3 s4 lw hg mt tb9 an ky rw9 lf := mk_mv (S := S) hi8 (fun k hk => congrFun hM (ad k)) (fun k hk => pt_out (fun i hi q => hx i k hi hk q.symm))
        have e8 := b_again (S0 := pt ca S D) (al := al) (hz := hz) (s1 := s1) (s2 := s2) (s3 := s3) (s4 := s4) (lw := lw) (hg := hg) (mt := mt) (tb9 := tb9) (an := an) (ky := ky) (rw9 := rw9) (lf := lf) hi8 hk z
        refine ⟨1, pt ca S D, mk8 ad (pt ca S D) (mv al (17514 * (k + 1)) 0 17514) hz s1 s2 s3 s4 lw hg mt tb9 an ky rw9 lf, ck1, ?_, ?_, ?_, ?_⟩
        · rw [hS, pt_pt hj]; exact e7
        · rw [hS1]; exact ck8 hi8
        · rw [← hS1] at e8; exact e8
        · refine ⟨D, mv al (17514 * (k + 1)) 0 17514, hz, s1, s2, s3, s4, lw, hg, mt, tb9, an, ky, rw9, lf, σk k, τk k, σk, τk, ?_, ?_, m1, ?_, hD, ?_, ?_, ?_, fun j hj3 => ?_⟩
          · refine pt_self hj (fun i hi => ?_)
            rw [mk_out (fun k hk => hx i k hi hk), pt_at hj hi]
          · exact mk_mv (S := mk8 ad (pt ca S D) (mv al (17514 * (k + 1)) 0 17514) hz s1 s2 s3 s4 lw hg mt tb9 an ky rw9 lf) hi8 (fun k hk => mk_in hi8 hk) (fun k hk => rfl)
          · refine RA_shift m1 (m3 z) (fun i hi => ?_)
            show (if 0 ≤ 0 + i ∧ 0 + i < 0 + 17514 then al (0 + i - 0 + 17514 * (k + 1)) else _) = _
            rw [if_pos (by omega), show 0 + i - 0 + 17514 * (k + 1) = 17514 * (k + 1) + i by omega]
          · exact TOP_fr hT (fun i hi => hDo i (by omega))
          · exact ⟨fi, (hDo 1 (by omega)).trans h1, hfi⟩
          · exact ⟨zt, (hDo 2 (by omega)).trans h2, hzt⟩
          · obtain ⟨q1, q2, q3⟩ := him j hj3
            refine ⟨q1, SC_fr q2 (fun i x1 x2 => hDo i (by omega)), fun hne => RA_frame q1 (q3 hne) (fun i hi => ?_)⟩
            show (if 0 ≤ 17514 * (j + 1) + i ∧ 17514 * (j + 1) + i < 0 + 17514 then _ else _) = _
            rw [if_neg (by omega)]
    · refine ⟨0, S, S, ck1, ?_, ck2, ?_, hI⟩
      · unfold f_X7_again
        by_cases c1 : a < 0
        · rw [if_pos c1]
        · rw [if_neg c1, if_pos (show (3 : Int32) ≤ a from Int32.not_lt.mp (fun q => c ⟨Int32.not_lt.mp c1, q⟩))]
      · rw [hM]
        exact b_again0 hi8 (fun j hj3 e => absurd ((rng_iff (by omega)).mpr ⟨j, hj3, e⟩) c)
end INVS
