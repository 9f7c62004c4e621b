/-! ===== the reference: clear, wish ===== -/
theorem RA_frame {σ : SG} {τ : TG} {A B : Nat → Int32} {o : Nat} (hw : WF σ τ) (h : RA σ τ A o) (he : ∀ i, i < 17514 → B (o + i) = A (o + i)) : RA σ τ B o := by
  have hP := hw.p8
  have hN := hw.n10
  have hT := hw.tle
  have hW := hw.w8
  have hK := hw.k200
  refine ⟨?_, ?_, ?_, ?_, ?_, ?_, fun a ha => ?_, fun p hp => ?_, fun n hn => ?_, fun a t ha ht => ?_, fun w hw9 => ?_, fun k j hk hj => ?_⟩
  · rw [he 0 (by omega)]; exact h.P
  · rw [he 1 (by omega)]; exact h.N
  · rw [he 2 (by omega)]; exact h.T
  · rw [he 3 (by omega)]; exact h.K
  · rw [he 4 (by omega)]; exact h.F
  · rw [he 5 (by omega)]; exact h.W
  · rw [he _ (by omega)]; exact h.g ha
  · rw [he _ (by omega)]; exact h.c hp
  · obtain ⟨e0, e1, e2, e3, e4, e5⟩ := h.n hn
    rw [he _ (by omega), he _ (by omega), he _ (by omega), he _ (by omega), he _ (by omega), he _ (by omega)]
    exact ⟨e0, e1, e2, e3, e4, e5⟩
  · rw [he _ (by omega)]; exact h.l ha ht
  · obtain ⟨e0, e1, e2⟩ := h.w hw9
    rw [he _ (by omega), he _ (by omega), he _ (by omega)]
    exact ⟨e0, e1, e2⟩
  · rw [he _ (by omega)]; exact h.a hk hj
/-- the state without wishes -/
abbrev gClear (σ : SG) : SG := va_up σ 5 (fun _ => 0)
abbrev gWish (σ : SG) (k s : Nat) : SG := va_up (va_up (va_up σ 5 (fun _ => gW σ + 1)) 17 (va_up (σ 17) (gW σ) k)) 18 (va_up (σ 18) (gW σ) s)
abbrev tWish (σ : SG) (τ : TG) (x : Int32) : TG := va_up τ 5 (va_up (τ 5) (gW σ) x)
theorem stp_congr {σ ρ : SG} (h1 : ∀ n, lo ρ n = lo σ n) (h2 : ∀ n, hi ρ n = hi σ n) : ∀ n, stp ρ n = stp σ n
  | 0 => rfl
  | n + 1 => by
    show stp ρ n * many ρ n = stp σ n * many σ n
    rw [stp_congr h1 h2 n]
    unfold many
    rw [h1, h2]
section M8I
variable {ad : Nat → Nat} {S0 : PH} {al hz : Nat → Int32} {s1 s2 s3 s4 : Int32} {lw hg mt tb9 : Nat → Int32} {an ky : Nat → Int64} {rw9 : Nat → Int32} {lf : Int32} {σ : SG} {τ : TG}
theorem stp_clear (n : Nat) : stp (gClear σ) n = stp σ n := stp_congr (ρ := gClear σ) (σ := σ) (fun _ => rfl) (fun _ => rfl) n
theorem stp_wish (k s n : Nat) : stp (gWish σ k s) n = stp σ n := stp_congr (ρ := gWish σ k s) (σ := σ) (fun _ => rfl) (fun _ => rfl) n
theorem gT_clear : gT (gClear σ) = gT σ := stp_clear _
theorem gT_wish (k s : Nat) : gT (gWish σ k s) = gT σ := stp_wish k s _
theorem lef_clear (a t : Nat) : lef (gClear σ) a t = lef σ a t := by
  show (va_up σ 5 (fun _ => 0)) (20 + a) t = _
  rw [va_up_ne _ _ (by omega)]
theorem lef_wish (k s a t : Nat) : lef (gWish σ k s) a t = lef σ a t := by
  show (va_up (va_up (va_up σ 5 (fun _ => gW σ + 1)) 17 (va_up (σ 17) (gW σ) k)) 18 (va_up (σ 18) (gW σ) s)) (20 + a) t = _
  rw [va_up_ne _ _ (by omega), va_up_ne _ _ (by omega), va_up_ne _ _ (by omega)]
theorem hid_clear (n : Nat) : hid (gClear σ) n = hid σ n := sm_congr n (fun k _ => by rw [stp_clear]; rfl)
theorem hid_wish (k s n : Nat) : hid (gWish σ k s) n = hid σ n := sm_congr n (fun i _ => by rw [stp_wish]; rfl)
theorem WF_clear (hw : WF σ τ) : WF (gClear σ) τ := by
  obtain ⟨h1, h2, h3, h4, h5, h6, h7, h8, h9, h10, h11, h12, h13, h14⟩ := hw
  refine ⟨h1, h2, ?_, h4, h5, h6, Nat.zero_le _, h8, h9, h10, ?_, ?_, ?_, fun w hw => absurd hw (Nat.not_lt_zero w)⟩
  · show stp (gClear σ) (gN σ) ≤ 4096; rw [stp_clear]; exact h3
  · intro a b ha hb hg t ht
    rw [gT_clear] at ht
    rw [lef_clear, lef_clear]
    exact h11 a b ha hb hg t ht
  · intro a t ha ht
    rw [gT_clear] at ht
    rw [lef_clear]
    exact h12 a t ha ht
  · intro a ha
    rw [lef_clear, hid_clear]
    exact h13 a ha
theorem b_clear (h : inj8 ad) (hw : WF σ τ) (hA : RA σ τ al 0) : ∃ al', f_X8_clear (mk8 ad S0 al hz s1 s2 s3 s4 lw hg mt tb9 an ky rw9 lf) (ad 0) = some (mk8 ad S0 al' hz s1 s2 s3 s4 lw hg mt tb9 an ky rw9 lf) ∧ RA (gClear σ) τ al' 0 ∧ ∀ i, 17514 ≤ i → al' i = al i := by
  refine ⟨upd al 5 0, ?_, ?_, fun i hi => by unfold upd; rw [if_neg (by omega)]⟩
  · unfold f_X8_clear
    rw [show (5 : Int32) = nI 5 from rfl]
    simp (disch := first | omega | assumption) only [g8_0, Option.bind_some, w8_al]
  · have hu : ∀ i, i ≠ 5 → upd al 5 0 i = al i := fun i hi => by unfold upd; rw [if_neg hi]
    refine ⟨?_, ?_, ?_, ?_, ?_, ?_, fun a ha => ?_, fun p hp => ?_, fun n hn => ?_, fun a t ha ht => ?_, fun w hw9 => absurd hw9 (Nat.not_lt_zero w), fun k j hk hj => ?_⟩
    · rw [hu _ (by omega)]; exact hA.P
    · rw [hu _ (by omega)]; exact hA.N
    · rw [hu _ (by omega)]
      show _ = nI (stp (gClear σ) (gN σ))
      rw [stp_clear]; exact hA.T
    · rw [hu _ (by omega)]; exact hA.K
    · rw [hu _ (by omega)]; exact hA.F
    · rfl
    · rw [hu _ (by omega)]; exact hA.g ha
    · rw [hu _ (by omega)]; exact hA.c hp
    · obtain ⟨e0, e1, e2, e3, e4, e5⟩ := hA.n (σ := σ) hn
      rw [hu _ (by omega), hu _ (by omega), hu _ (by omega), hu _ (by omega), hu _ (by omega), hu _ (by omega), stp_clear]
      exact ⟨e0, e1, e2, e3, e4, e5⟩
    · rw [gT_clear] at ht
      rw [hu _ (by omega), lef_clear]
      exact hA.l ha ht
    · rw [hu _ (by omega)]; exact hA.a hk hj
theorem b_known (h : inj8 ad) (hw : WF σ τ) (hP : al 0 = nI (gP σ)) (x : Int32) : f_X8_known (mk8 ad S0 al hz s1 s2 s3 s4 lw hg mt tb9 an ky rw9 lf) (ad 0) x = some (nI (kn σ x)) := by
  have := hw.p8
  unfold f_X8_known
  rw [show (0 : Int32) = nI 0 from rfl]
  simp (disch := first | omega | assumption) only [g8_0, Option.bind_some, r8_al, hP]
  rw [mask_p x (by omega)]
theorem WF_wish (hw : WF σ τ) {k s : Nat} {x : Int32} (hW : gW σ < 8) (hs : s < 2 ^ gP σ) (hk : okq k x) : WF (gWish σ k s) (tWish σ τ x) := by
  obtain ⟨h1, h2, h3, h4, h5, h6, h7, h8, h9, h10, h11, h12, h13, h14⟩ := hw
  refine ⟨h1, h2, ?_, h4, h5, h6, ?_, h8, h9, h10, ?_, ?_, ?_, ?_⟩
  · show stp (gWish σ k s) (gN σ) ≤ 4096; rw [stp_wish]; exact h3
  · show gW σ + 1 ≤ 8; omega
  · intro a b ha hb hg t ht
    rw [gT_wish] at ht
    rw [lef_wish, lef_wish]
    exact h11 a b ha hb hg t ht
  · intro a t ha ht
    rw [gT_wish] at ht
    rw [lef_wish]
    exact h12 a t ha ht
  · intro a ha
    rw [lef_wish, hid_wish]
    exact h13 a ha
  · intro w hw9
    have hw' : w < gW σ + 1 := hw9
    show va_up (σ 18) (gW σ) s w < 2 ^ gP σ ∧ okq (va_up (σ 17) (gW σ) k w) (va_up (τ 5) (gW σ) x w)
    by_cases e : w = gW σ
    · subst e
      rw [va_up_self, va_up_self, va_up_self]
      exact ⟨hs, hk⟩
    · rw [va_up_ne _ _ e, va_up_ne _ _ e, va_up_ne _ _ e]
      exact h14 w (by omega)
/-- what wish answers, and the state behind it -/
def WiR (σ : SG) (τ : TG) (k s x r : Int32) (σ' : SG) (τ' : TG) : Prop := (∃ j, k = nI j ∧ okq j x ∧ gW σ < 8 ∧ r = nI (gW σ) ∧ σ' = gWish σ j (kn σ s) ∧ τ' = tWish σ τ x) ∨ (¬ (askok k x ∧ gW σ < 8) ∧ r = -1 ∧ σ' = σ ∧ τ' = τ)
theorem b_wish (h : inj8 ad) (hw : WF σ τ) (hA : RA σ τ al 0) (k s x : Int32) : ∃ r al' σ' τ', f_X8_wish (mk8 ad S0 al hz s1 s2 s3 s4 lw hg mt tb9 an ky rw9 lf) (ad 0) k s x = some (r, mk8 ad S0 al' hz s1 s2 s3 s4 lw hg mt tb9 an ky rw9 lf) ∧ WiR σ τ k s x r σ' τ' ∧ RA σ' τ' al' 0 ∧ ∀ i, 17514 ≤ i → al' i = al i := by
  have hW := hw.w8
  have hPP := hw.p8
  have hNN := hw.n10
  have hKK := hw.k200
  unfold f_X8_wish
  simp only [g8_0 h, Option.bind_some, b_W h hA, b_isAsk, ite10]
  by_cases h8 : gW σ = 8
  · refine ⟨-1, al, σ, τ, ?_, Or.inr ⟨fun q => by omega, rfl, rfl, rfl⟩, hA, fun i _ => rfl⟩
    rw [if_pos (by rw [h8]; rfl)]
  · have n8 : ¬ nI (gW σ) = 8 := fun q => h8 ((nI_eq (a := gW σ) (b := 8) (by omega) (by omega)).mp q)
    rw [if_neg n8]
    by_cases h2 : askok k x
    · obtain ⟨j, rfl, hj⟩ := askok_q h2
      rw [if_neg (fun q => q h2)]
      have hPal := hA.P
      rw [Nat.add_zero] at hPal
      have hWal := hA.W
      rw [Nat.zero_add] at hWal
      have kn2 : kn σ s < 2 ^ gP σ := Nat.mod_lt _ (Nat.two_pow_pos _)
      refine ⟨nI (gW σ), upd (upd (upd (upd al (1100 + 3 * gW σ) (nI j)) (1100 + 3 * gW σ + 1) (nI (kn σ s))) (1100 + 3 * gW σ + 2) x) 5 (nI (gW σ + 1)), gWish σ j (kn σ s), tWish σ τ x, ?_, Or.inl ⟨j, rfl, hj, by omega, rfl, rfl, rfl⟩, ?_, ?_⟩
      · have i0 : (1100 : Int32) + (3 : Int32) * nI (gW σ) = nI (1100 + 3 * gW σ) := by rw [show (3 : Int32) = nI 3 from rfl, pk_mul, show (1100 : Int32) = nI 1100 from rfl, nI_add]
        have i1 : nI (1100 + 3 * gW σ) + 1 = nI (1100 + 3 * gW σ + 1) := nI_add _ 1
        have i2 : nI (1100 + 3 * gW σ) + 2 = nI (1100 + 3 * gW σ + 2) := nI_add _ 2
        rw [i0, i1, i2, show (5 : Int32) = nI 5 from rfl]
        have k1 : ∀ (f : Nat → Int32), f 0 = nI (gP σ) → f_X8_known (mk8 ad S0 f hz s1 s2 s3 s4 lw hg mt tb9 an ky rw9 lf) (ad 0) s = some (nI (kn σ s)) := fun f hf => b_known h hw hf s
        rw [w8_al h (by omega)]
        simp only [Option.bind_some, g8_0 h, ck8 h]
        rw [k1 _ (by unfold upd; rw [if_neg (by omega)]; exact hPal)]
        simp only [Option.bind_some]
        rw [w8_al h (by omega)]
        simp only [Option.bind_some, g8_0 h]
        rw [w8_al h (by omega)]
        simp only [Option.bind_some, g8_0 h]
        rw [r8_al h (show 5 < 70056 by omega)]
        have e5 : upd (upd (upd al (1100 + 3 * gW σ) (nI j)) (1100 + 3 * gW σ + 1) (nI (kn σ s))) (1100 + 3 * gW σ + 2) x 5 = nI (gW σ) := by
          unfold upd
          rw [if_neg (by omega), if_neg (by omega), if_neg (by omega)]
          exact hWal
        rw [e5]
        simp only [Option.bind_some, nI_1]
        rw [w8_al h (by omega)]
        simp only [Option.bind_some, g8_0 h]
        rw [r8_al h (show 5 < 70056 by omega)]
        have e6 : upd (upd (upd (upd al (1100 + 3 * gW σ) (nI j)) (1100 + 3 * gW σ + 1) (nI (kn σ s))) (1100 + 3 * gW σ + 2) x) 5 (nI (gW σ + 1)) 5 = nI (gW σ + 1) := by
          unfold upd
          rw [if_pos rfl]
        rw [e6]
        simp only [Option.bind_some]
        rw [nI_pred]
      · have hu : ∀ i, i ≠ 5 → i ≠ 1100 + 3 * gW σ → i ≠ 1100 + 3 * gW σ + 1 → i ≠ 1100 + 3 * gW σ + 2 → upd (upd (upd (upd al (1100 + 3 * gW σ) (nI j)) (1100 + 3 * gW σ + 1) (nI (kn σ s))) (1100 + 3 * gW σ + 2) x) 5 (nI (gW σ + 1)) i = al i := by
          intro i q1 q2 q3 q4
          unfold upd
          rw [if_neg q1, if_neg q4, if_neg q3, if_neg q2]
        have hTT := hw.tle
        refine ⟨?_, ?_, ?_, ?_, ?_, ?_, fun a ha => ?_, fun p hp => ?_, fun n hn => ?_, fun a t ha ht => ?_, fun w hw9 => ?_, fun q i hq hi => ?_⟩
        · rw [hu _ (by omega) (by omega) (by omega) (by omega)]; exact hA.P
        · rw [hu _ (by omega) (by omega) (by omega) (by omega)]; exact hA.N
        · rw [hu _ (by omega) (by omega) (by omega) (by omega)]
          show _ = nI (stp (gWish σ j (kn σ s)) (gN σ))
          rw [stp_wish]; exact hA.T
        · rw [hu _ (by omega) (by omega) (by omega) (by omega)]; exact hA.K
        · rw [hu _ (by omega) (by omega) (by omega) (by omega)]; exact hA.F
        · unfold upd; rw [if_pos (by omega)]; rfl
        · rw [hu _ (by omega) (by omega) (by omega) (by omega)]; exact hA.g ha
        · have hp' : p < gP σ := hp
          rw [hu _ (by omega) (by omega) (by omega) (by omega)]; exact hA.c hp'
        · have hn' : n < gN σ := hn
          obtain ⟨e0, e1, e2, e3, e4, e5⟩ := hA.n hn'
          rw [hu _ (by omega) (by omega) (by omega) (by omega), hu _ (by omega) (by omega) (by omega) (by omega), hu _ (by omega) (by omega) (by omega) (by omega), hu _ (by omega) (by omega) (by omega) (by omega), hu _ (by omega) (by omega) (by omega) (by omega), hu _ (by omega) (by omega) (by omega) (by omega), stp_wish]
          exact ⟨e0, e1, e2, e3, e4, e5⟩
        · rw [gT_wish] at ht
          rw [hu _ (by omega) (by omega) (by omega) (by omega), lef_wish]
          exact hA.l ha ht
        · have hw' : w < gW σ + 1 := hw9
          show _ = nI (va_up (σ 17) (gW σ) j w) ∧ _ = nI (va_up (σ 18) (gW σ) (kn σ s) w) ∧ _ = va_up (τ 5) (gW σ) x w
          by_cases e : w = gW σ
          · subst e
            rw [va_up_self, va_up_self, va_up_self]
            unfold upd
            refine ⟨?_, ?_, ?_⟩
            · rw [if_neg (by omega), if_neg (by omega), if_neg (by omega), if_pos (by omega)]
            · rw [if_neg (by omega), if_neg (by omega), if_pos (by omega)]
            · rw [if_neg (by omega), if_pos (by omega)]
          · rw [va_up_ne _ _ e, va_up_ne _ _ e, va_up_ne _ _ e, hu _ (by omega) (by omega) (by omega) (by omega), hu _ (by omega) (by omega) (by omega) (by omega), hu _ (by omega) (by omega) (by omega) (by omega)]
            exact hA.w (show w < gW σ by omega)
        · have hq' : q < gK σ := hq
          rw [hu _ (by omega) (by omega) (by omega) (by omega), hA.a hq' hi]
          show τ i q = va_up τ 5 _ i q
          rw [va_up_ne _ _ (by omega)]
      · intro i hi
        unfold upd
        rw [if_neg (by omega), if_neg (by omega), if_neg (by omega), if_neg (by omega)]
    · refine ⟨-1, al, σ, τ, ?_, Or.inr ⟨fun q => h2 q.1, rfl, rfl, rfl⟩, hA, fun i _ => rfl⟩
      rw [if_pos h2]
end M8I
