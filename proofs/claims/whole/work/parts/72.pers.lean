/-! ===== the class's person and change ===== -/
section PERS
variable {ca : Nat → Nat} {S0 : PH} {C : Nat → PE} {b : Nat} {σ : SG} {τ : TG}
theorem d_addNumber (hj : injC ca) (hb : b + 27 ≤ 120) (hw : WF σ τ) {cu ow le gr ne va fi : Nat → Int32} {P p v l g d : Nat} (h0 : C b = eO 5 [.ref (ca (b + 1)), .ref (ca (b + 9)), .ref (ca (b + 16)), .ref (ca (b + 23))]) (hK : KC ca σ C b) (h1 : C (b + 1) = oN ca b (nI P) (nI (gN σ)) (nI (gT σ)) (nI (sm (hi σ) (gN σ))) (nI (fbt σ (gN σ)))) (h2 : C (b + 2) = eI 8 cu) (h3 : C (b + 3) = eI 10 ow) (h4 : C (b + 4) = eI 10 le) (h5 : C (b + 5) = eI 10 gr) (h6 : C (b + 6) = eI 10 ne) (h7 : C (b + 7) = eI 10 va) (h8 : C (b + 8) = eI 10 fi) (h9 : ∀ q, q < gP σ → cu q = nI (cur σ q)) (h10 : ∀ n, n < gN σ → ow n = nI (own σ n) ∧ le n = nI (lo σ n) ∧ gr n = nI (hi σ n) ∧ ne n = nI (nd σ n) ∧ va n = nI (vl σ n) ∧ fi n = nI (fbt σ n)) (hP' : (P = gP σ ∧ p < gP σ) ∨ (P = gP σ + 1 ∧ p = gP σ)) (hP8 : P ≤ 8) (hN : gN σ < 10) (hlg : l ≤ g) (hT : gT σ * (g - l + 1) ≤ 4096) : ∃ D, f_X5_addNumber (pt ca S0 C) (ca b) (nI p) (nI v) (nI l) (nI g) (nI d) = some (pt ca S0 D) ∧ NC ca (gC σ P p v l g d) D b ∧ KC ca (gC σ P p v l g d) D b ∧ ∀ i, i ≤ b ∨ b + 16 ≤ i → D i = C i := by
  have hT1 : 1 ≤ gT σ := stp_pos σ _
  obtain ⟨ld, lr, fr, rows, hX⟩ := id hK
  have hX : KX ca σ C b ld lr fr rows := hX
  obtain ⟨k1, k2, k3, k4, k5⟩ := id hX
  obtain ⟨D, R, eD, hD, hR⟩ := d_widen (S0 := S0) hj hb hX hT1 hT (show 1 ≤ g - l + 1 by omega)
  have g1 : D (b + 1) = _ := (hD _ (by omega)).trans h1
  have g0 : D b = _ := (hD _ (by omega)).trans h0
  obtain ⟨E, eE, hE, hEo⟩ := d_add (S0 := S0) (C := D) (σ := σ) (v := v) (d := d) hj hb g1 ((hD _ (by omega)).trans h2) ((hD _ (by omega)).trans h3) ((hD _ (by omega)).trans h4) ((hD _ (by omega)).trans h5) ((hD _ (by omega)).trans h6) ((hD _ (by omega)).trans h7) ((hD _ (by omega)).trans h8) h9 h10 hP' hP8 hN hlg
  unfold f_X5_addNumber
  simp only [pt_gR hj h0 (by omega : b < 120) (k := 1) rfl, pt_gR hj h0 (by omega : b < 120) (k := 0) rfl, pt_gI hj h1 (by omega : b + 1 < 120) (k := 9) rfl, k_ck hj hb hK, q_sub hlg, nI_1, eD, Option.bind_some, Option.bind_none, bd2, bd3, bd4, nm]
  simp only [pt_gR hj g0 (by omega : b < 120) (k := 0) rfl, pt_ck hj g1 (by omega : b + 1 < 120), eE, Option.bind_some, Option.bind_none, bd2, bd3, bd4, nm]
  refine ⟨E, rfl, hE, ⟨ld, lr, fr, R, ?_, ?_, ?_, fun a ha => ?_, fun a c ha hc => ?_⟩, fun i hi => (hEo i (by omega)).trans (hD i (by omega))⟩
  · rw [hEo _ (by omega), hD _ (by omega)]; exact k1
  · rw [hEo _ (by omega), hD _ (by omega)]; exact k2
  · rw [hEo _ (by omega), hD _ (by omega)]; exact k3
  · obtain ⟨a1, a2, a3, a4, a5, a6⟩ := k4 a ha
    refine ⟨a1, ?_, a3, a4, a5, fun t ht => ?_⟩
    · rw [hEo _ (by omega)]; exact (hR a ha).1
    · rw [(hR (ld a) a4).2 a5 t ht, gC_T, gC_l ha, a6 t ht]
      have hmod : t % gT σ < gT σ := Nat.mod_lt _ (by omega)
      have hle := hw.tle
      rw [a6 (t % gT σ) (by omega)]
      have hTV : gT σ ≤ gT σ * (g - l + 1) := Nat.le_mul_of_pos_right _ (by omega)
      by_cases c : t < gT σ
      · have e1 : t % gT σ = t := Nat.mod_eq_of_lt c
        have e2 : t < gT σ * (g - l + 1) := by omega
        have e3 : ¬ gT σ ≤ t := by omega
        rw [e1]
        simp [c, e2, e3]
      · have e3 : gT σ ≤ t := by omega
        simp [c, e3, hmod]
  · exact k5 a c ha hc
theorem d_person (hj : injC ca) (hb : b + 27 ≤ 120) (hb2 : 12 ≤ b) (hw : WF σ τ) (h : SC ca σ τ C b) (ht : TOP ca C b) {v l g d r : Int32} {σ' : SG} (hR : PeR σ v l g d r σ') : ∃ D, f_X7_person (pt ca S0 C) (ca 0) v l g d = some (r, pt ca S0 D) ∧ SC ca σ' τ D b ∧ TOP ca D b ∧ FS C D b := by
  have h8 := hw.p8
  unfold f_X7_person
  simp only [pt_gR hj ht.1 (by omega : 0 < 120) (k := 0) rfl, pt_gR hj h.1 (by omega : b < 120) (k := 0) rfl, n_g7 hj hb h.2.1, Option.bind_some, Option.bind_none, bd2, bd3, bd4, nm]
  rcases hR with ⟨V, L, G, E, ⟨rfl, rfl, rfl, rfl, c5, c6, c7, c8, c9, c10, c11, c12, c13⟩, rfl, rfl⟩ | ⟨hn, rfl, rfl⟩
  · rw [if_neg (show ¬ (8 : Int32) ≤ nI (gP σ) from fun q => by
      have := (nI_leI (a := 8) (by omega) (by omega)).mp q
      omega), if_neg (Int32.not_lt.mpr (nI_pos' (by omega))), if_neg (nI_nlt (by omega) (by omega)), if_pos (show nI G ≤ (20 : Int32) from nI_le (b := 20) c8 (by omega)), if_neg (show ¬ nI E < (1 : Int32) from nI_nlt (b := 1) (by omega) (by omega)), q_sub (by omega), nI_1, if_neg (nI_nlt (by omega) (by omega))]
    simp only [n_ck hj hb h.2.1, d_hasRoomFor hj hb hw h.2.1 (nI V) (show L ≤ G by omega) c8, ite10, Option.bind_some, Option.bind_none, bd2, bd3, bd4, nm]
    rw [if_neg (fun q => q ⟨c11, ⟨nI_le c6 (by omega), nI_le c7 (by omega)⟩, c12, c13⟩)]
    obtain ⟨cu, ow, le, gr, ne, va, fi, a1, a2, a3, a4, a5, a6, a7, a8, a9, a10⟩ := h.2.1
    simp only [pt_pI hj a1 (by omega : b + 1 < 120) (show 7 < 12 by omega), nI_1, List.set_cons_succ, List.set_cons_zero, Option.bind_some, Option.bind_none, bd2, bd3, bd4, nm]
    have b1 : va_up C (b + 1) (oN ca b (nI (gP σ + 1)) (nI (gN σ)) (nI (gT σ)) (nI (sm (hi σ) (gN σ))) (nI (fbt σ (gN σ)))) (b + 1) = oN ca b (nI (gP σ + 1)) (nI (gN σ)) (nI (gT σ)) (nI (sm (hi σ) (gN σ))) (nI (fbt σ (gN σ))) := va_up_self _ _ _
    have bo : ∀ i, i ≠ b + 1 → va_up C (b + 1) (oN ca b (nI (gP σ + 1)) (nI (gN σ)) (nI (gT σ)) (nI (sm (hi σ) (gN σ))) (nI (fbt σ (gN σ)))) i = C i := fun i hi => va_up_ne _ _ hi
    have hK := KC_f h.2.2.1 (fun i q1 q2 => bo i (by omega))
    obtain ⟨D, eD, hD1, hD2, hDo⟩ := d_addNumber (S0 := S0) (v := V) (d := E) (p := gP σ) (P := gP σ + 1) (l := L) (g := G) hj hb hw ((bo _ (by omega)).trans h.1) hK b1 ((bo _ (by omega)).trans a2) ((bo _ (by omega)).trans a3) ((bo _ (by omega)).trans a4) ((bo _ (by omega)).trans a5) ((bo _ (by omega)).trans a6) ((bo _ (by omega)).trans a7) ((bo _ (by omega)).trans a8) a9 a10 (Or.inr ⟨rfl, rfl⟩) (by omega) c11 (by omega) c12
    have t0 : va_up C (b + 1) (oN ca b (nI (gP σ + 1)) (nI (gN σ)) (nI (gT σ)) (nI (sm (hi σ) (gN σ))) (nI (fbt σ (gN σ)))) 0 = _ := (bo 0 (by omega)).trans ht.1
    have tb : va_up C (b + 1) (oN ca b (nI (gP σ + 1)) (nI (gN σ)) (nI (gT σ)) (nI (sm (hi σ) (gN σ))) (nI (fbt σ (gN σ)))) b = _ := (bo b (by omega)).trans h.1
    simp only [pt_gR hj t0 (by omega : 0 < 120) (k := 0) rfl, pt_ck hj tb (by omega : b < 120), eD, Option.bind_some, Option.bind_none, bd2, bd3, bd4, nm]
    have hout : ∀ i, i ≤ b ∨ b + 16 ≤ i → D i = C i := fun i hi => (hDo i hi).trans (bo i (by omega))
    refine ⟨D, rfl, ⟨?_, hD1, hD2, ?_, ?_⟩, TOP_fr ht (fun k hk => hout k (by omega)), FS_of (fun k hk => hout k (by omega)) hb2⟩
    · rw [hout _ (by omega)]; exact h.1
    · exact AC_f (AC_s h.2.2.2.1 rfl rfl (fun _ _ _ => rfl)) (fun k q1 q2 => hout k (by omega))
    · exact WC_f (WC_s h.2.2.2.2 rfl (fun _ => rfl) (fun _ => rfl) (fun _ => rfl)) (fun k q1 q2 => hout k (by omega))
  · have hback : ∃ D, some ((-1 : Int32), pt ca S0 C) = some ((-1 : Int32), pt ca S0 D) ∧ SC ca σ' τ D b ∧ TOP ca D b ∧ FS C D b := ⟨C, rfl, h, ht, FS_rf C b⟩
    by_cases d1 : (8 : Int32) ≤ nI (gP σ')
    · rw [if_pos d1]; exact hback
    · rw [if_neg d1]
      by_cases d2 : l < 0
      · rw [if_pos d2]; exact hback
      · rw [if_neg d2]
        by_cases d3 : g < l
        · rw [if_pos d3]; exact hback
        · rw [if_neg d3]
          by_cases d4 : g ≤ (20 : Int32)
          · rw [if_pos d4]
            have hl0 : (0 : Int32) ≤ l := Int32.not_lt.mp d2
            have hlg : l ≤ g := Int32.not_lt.mp d3
            obtain ⟨G, -, hG20, rfl⟩ := (inab (x := g) (a := 0) (b := 20) (by omega) (by omega)).mp ⟨Int32.le_trans hl0 hlg, d4⟩
            obtain ⟨L, -, hLG, rfl⟩ := (inab (x := l) (a := 0) (b := G) (by omega) (by omega)).mp ⟨hl0, hlg⟩
            by_cases d5 : d < (1 : Int32)
            · rw [if_pos d5]; exact hback
            · rw [if_neg d5, q_sub hLG, nI_1]
              by_cases d6 : nI (G - L + 1) < d
              · rw [if_pos d6]; exact hback
              · rw [if_neg d6]
                obtain ⟨E, hE1, hE2, rfl⟩ := (inab (x := d) (a := 1) (b := G - L + 1) (by omega) (by omega)).mp ⟨Int32.not_lt.mp d5, Int32.not_lt.mp d6⟩
                simp only [n_ck hj hb h.2.1, d_hasRoomFor hj hb hw h.2.1 v hLG hG20, ite10, Option.bind_some, Option.bind_none, bd2, bd3, bd4, nm]
                rw [if_pos]
                · exact hback
                · rintro ⟨q1, ⟨q2, q3⟩, q4, q5⟩
                  obtain ⟨V, hV1, hV2, rfl⟩ := (inab (x := v) (a := L) (b := G) (by omega) (by omega)).mp ⟨q2, q3⟩
                  refine hn ⟨V, L, G, E, rfl, rfl, rfl, rfl, ?_, hV1, hV2, hG20, hE1, hE2, q1, q4, q5⟩
                  refine Nat.lt_of_not_le (fun c => d1 (nI_le (a := 8) c (by omega)))
          · rw [if_neg d4]; exact hback
theorem d_change (hj : injC ca) (hb : b + 27 ≤ 120) (hb2 : 12 ≤ b) (hw : WF σ τ) (h : SC ca σ τ C b) (ht : TOP ca C b) {p v r : Int32} {σ' : SG} (hR : ChR σ p v r σ') : ∃ D, f_X7_change (pt ca S0 C) (ca 0) p v = some (r, pt ca S0 D) ∧ SC ca σ' τ D b ∧ TOP ca D b ∧ FS C D b := by
  have h8 := hw.p8
  have h10 := hw.n10
  unfold f_X7_change
  simp only [pt_gR hj ht.1 (by omega : 0 < 120) (k := 0) rfl, pt_gR hj h.1 (by omega : b < 120) (k := 0) rfl, n_g7 hj hb h.2.1, Option.bind_some, Option.bind_none, bd2, bd3, bd4, nm]
  by_cases c : rng p (gP σ)
  · obtain ⟨q, hq, rfl⟩ := (rng_iff (by omega)).mp c
    obtain ⟨hcq, hoq⟩ := hw.per hq
    have hnum := hw.num hcq
    rw [if_neg (Int32.not_lt.mpr c.1), if_pos c.2]
    simp only [n_g0 hj hb h.2.1, n_cu hj hb hw h.2.1 hq, n_g2 hj hb h.2.1, n_le hj hb hw h.2.1 hcq, n_g3 hj hb h.2.1, n_gr hj hb hw h.2.1 hcq, n_ck hj hb h.2.1, d_hasRoomFor hj hb hw h.2.1 v (show lo σ (cur σ q) ≤ hi σ (cur σ q) by omega) hnum.2.2.2.1, n_g4 hj hb h.2.1, n_ne hj hb hw h.2.1 hcq, pt_ck hj h.1 (by omega : b < 120), ite10, Option.bind_some, Option.bind_none, bd2, bd3, bd4, nm]
    rcases hR with ⟨q', V, ⟨e1, rfl, hq', v1, v2, v3, v4, v5⟩, rfl, rfl⟩ | ⟨hn, rfl, rfl⟩
    · have : q = q' := (nI_eq (by omega) (by omega)).mp e1
      subst this
      rw [if_neg (fun x => x ⟨v3, ⟨nI_le v1 (by omega), nI_le v2 (by omega)⟩, v4, v5⟩)]
      obtain ⟨cu, ow, le, gr, ne, va, fi, a1, a2, a3, a4, a5, a6, a7, a8, a9, a10⟩ := h.2.1
      obtain ⟨D, eD, hD1, hD2, hDo⟩ := d_addNumber (S0 := S0) (v := V) (d := nd σ (cur σ q)) (p := q) (P := gP σ) (l := lo σ (cur σ q)) (g := hi σ (cur σ q)) hj hb hw h.1 h.2.2.1 a1 a2 a3 a4 a5 a6 a7 a8 a9 a10 (Or.inl ⟨rfl, hq⟩) h8 v3 (by omega) v4
      have hwC : WF (gC σ (gP σ) q V (lo σ (cur σ q)) (hi σ (cur σ q)) (nd σ (cur σ q))) τ := WF_gC hw (Or.inl ⟨rfl, hq⟩) h8 v3 v1 v2 hnum.2.2.2.1 hnum.2.2.2.2.1 hnum.2.2.2.2.2 v4 v5
      have hcur : cur (gC σ (gP σ) q V (lo σ (cur σ q)) (hi σ (cur σ q)) (nd σ (cur σ q))) q = gN σ := if_pos rfl
      simp only [eD, n_g0 hj hb hD1, n_cu hj hb hwC hD1 (show q < gP (gC σ (gP σ) q V (lo σ (cur σ q)) (hi σ (cur σ q)) (nd σ (cur σ q))) from hq), hcur, Option.bind_some, Option.bind_none, bd2, bd3, bd4, nm]
      have hout : ∀ i, i ≤ b ∨ b + 16 ≤ i → D i = C i := hDo
      refine ⟨D, rfl, ⟨?_, hD1, hD2, ?_, ?_⟩, TOP_fr ht (fun k hk => hout k (by omega)), FS_of (fun k hk => hout k (by omega)) hb2⟩
      · rw [hout _ (by omega)]; exact h.1
      · exact AC_f (AC_s h.2.2.2.1 rfl rfl (fun _ _ _ => rfl)) (fun k q1 q2 => hout k (by omega))
      · exact WC_f (WC_s h.2.2.2.2 rfl (fun _ => rfl) (fun _ => rfl) (fun _ => rfl)) (fun k q1 q2 => hout k (by omega))
    · rw [if_pos]
      · exact ⟨C, rfl, h, ht, FS_rf C b⟩
      · rintro ⟨q1, ⟨q2, q3⟩, q4, q5⟩
        obtain ⟨V, hV1, hV2, rfl⟩ := (inab (x := v) (by omega) (by omega)).mp ⟨q2, q3⟩
        exact hn ⟨q, V, rfl, rfl, hq, hV1, hV2, q1, q4, q5⟩
  · rcases hR with ⟨q', V, ⟨rfl, rfl, hq', -⟩, rfl, rfl⟩ | ⟨hn, rfl, rfl⟩
    · exact absurd ((rng_iff (by omega)).mpr ⟨q', hq', rfl⟩) c
    · by_cases c1 : p < 0
      · rw [if_pos c1]
        exact ⟨C, rfl, h, ht, FS_rf C b⟩
      · rw [if_neg c1, if_neg (fun q => c ⟨Int32.not_lt.mp c1, q⟩)]
        exact ⟨C, rfl, h, ht, FS_rf C b⟩
end PERS
