/-! ===== the class's methods that only tell ===== -/
theorem d_isAsker (v : Int32) : f_X7_isAsker v = some (if rng v 4 then 1 else 0) := by
  unfold f_X7_isAsker
  by_cases h1 : v < 0
  · rw [if_pos h1, if_neg (fun q => absurd h1 (Int32.not_lt.mpr q.1))]
  · rw [if_neg h1]
    by_cases h2 : (4 : Int32) ≤ v
    · rw [if_pos h2, if_neg (fun q => absurd q.2 (Int32.not_lt.mpr h2))]
    · rw [if_neg h2, if_pos ⟨Int32.not_lt.mp h1, Int32.not_le.mp h2⟩]
theorem d_isQuestion (k x : Int32) : f_X7_isQuestion k x = some (if askok k x then 1 else 0) := by
  unfold f_X7_isQuestion
  by_cases k0 : k = 0
  · subst k0
    rw [if_pos rfl]
    by_cases h1 : x < 1
    · rw [if_pos h1, if_neg]
      rintro (⟨-, q, -⟩ | ⟨q, -⟩ | q | q)
      · exact absurd h1 (Int32.not_lt.mpr q)
      · exact absurd q (by decide)
      · exact absurd q (by decide)
      · exact absurd q (by decide)
    · rw [if_neg h1]
      by_cases h2 : 20 < x
      · rw [if_pos h2, if_neg]
        rintro (⟨-, -, q⟩ | ⟨q, -⟩ | q | q)
        · exact absurd h2 (Int32.not_lt.mpr q)
        · exact absurd q (by decide)
        · exact absurd q (by decide)
        · exact absurd q (by decide)
      · rw [if_neg h2, if_pos (Or.inl ⟨rfl, Int32.not_lt.mp h1, Int32.not_lt.mp h2⟩)]
  · rw [if_neg k0]
    by_cases k1 : k = 1
    · subst k1
      rw [if_pos rfl]
      by_cases h1 : x < 0
      · rw [if_pos h1, if_neg]
        rintro (⟨q, -⟩ | ⟨-, q, -⟩ | q | q)
        · exact absurd q (by decide)
        · exact absurd h1 (Int32.not_lt.mpr q)
        · exact absurd q (by decide)
        · exact absurd q (by decide)
      · rw [if_neg h1]
        by_cases h2 : 20 < x
        · rw [if_pos h2, if_neg]
          rintro (⟨q, -⟩ | ⟨-, -, q⟩ | q | q)
          · exact absurd q (by decide)
          · exact absurd h2 (Int32.not_lt.mpr q)
          · exact absurd q (by decide)
          · exact absurd q (by decide)
        · rw [if_neg h2, if_pos (Or.inr (Or.inl ⟨rfl, Int32.not_lt.mp h1, Int32.not_lt.mp h2⟩))]
    · rw [if_neg k1]
      by_cases k2 : k = 2
      · rw [if_pos k2, if_pos (Or.inr (Or.inr (Or.inl k2)))]
      · rw [if_neg k2]
        by_cases k3 : k = 3
        · rw [if_pos k3, if_pos (Or.inr (Or.inr (Or.inr k3)))]
        · rw [if_neg k3, if_neg]
          rintro (⟨q, -⟩ | ⟨q, -⟩ | q | q)
          · exact k0 q
          · exact k1 q
          · exact k2 q
          · exact k3 q
theorem okq_ask {j : Nat} {x : Int32} (h : okq j x) : askok (nI j) x := by
  obtain ⟨h1, h2, h3⟩ := h
  by_cases k0 : j = 0
  · obtain ⟨e, e1, e2, rfl⟩ := h2 k0
    subst k0
    exact Or.inl ⟨rfl, nI_le e1 (by omega), nI_le (b := 20) e2 (by omega)⟩
  · by_cases k1 : j = 1
    · obtain ⟨e, e2, rfl⟩ := h3 k1
      subst k1
      exact Or.inr (Or.inl ⟨rfl, nI_pos' (by omega), nI_le (b := 20) e2 (by omega)⟩)
    · by_cases k2 : j = 2
      · subst k2
        exact Or.inr (Or.inr (Or.inl rfl))
      · have : j = 3 := by omega
        subst this
        exact Or.inr (Or.inr (Or.inr rfl))
theorem rng4 {i : Nat} (h : i < 4) : rng (nI i) 4 := (rng_iff (by omega)).mpr ⟨i, h, rfl⟩
theorem kn_lt (σ : SG) (s : Int32) : kn σ s < 2 ^ gP σ := Nat.mod_lt _ (Nat.two_pow_pos _)
theorem sm_zero {f : Nat → Nat} : ∀ n, (∀ k, k < n → f k = 0) → sm f n = 0
  | 0, _ => rfl
  | n + 1, h => by
    show sm f n + f n = 0
    rw [sm_zero n (fun k hk => h k (by omega)), h n (by omega)]
section PUB
variable {ca : Nat → Nat} {S0 : PH} {C : Nat → PE} {b : Nat} {σ : SG} {τ : TG}
theorem d_would (hj : injC ca) (hb : b + 27 ≤ 120) (hb2 : 12 ≤ b) (hw : WF σ τ) (h : SC ca σ τ C b) (ht : TOP ca C b) {a k s x r : Int32} (hR : WR σ a k s x r) : ∃ D, f_X7_would (pt ca S0 C) (ca 0) a k s x = some (r, pt ca S0 D) ∧ FR C D ∧ TOP ca D b := by
  unfold f_X7_would
  rw [d_isAsker, d_isQuestion]
  simp only [ite10, Option.bind_some, Option.bind_none, bd2, bd3, bd4, nm]
  rcases hR with ⟨i, j, q, rfl, hi, rfl, hk, rfl, hq, hJ⟩ | ⟨hn, rfl⟩
  · rw [if_neg (fun c => c (rng4 hi)), if_neg (fun c => c (okq_ask hk))]
    obtain ⟨r', D, f, e1, hr', hJ', hF, hT, -⟩ := d_judge (S0 := S0) hj hb hb2 hw h ht hi hk (kn_lt σ s)
    simp only [pt_gR hj ht.1 (by omega : 0 < 120) (k := 0) rfl, pt_gR hj h.1 (by omega : b < 120) (k := 0) rfl, n_ck hj hb h.2.1, d_onlyPeople hj hb hw h.2.1, pt_ck hj ht.1 (by omega : 0 < 120), e1, Option.bind_some, Option.bind_none, bd2, bd3, bd4, nm]
    rw [JR_one hJ' hJ]
    exact ⟨D, rfl, hF, hT⟩
  · by_cases c1 : rng a 4
    · rw [if_neg (fun c => c c1)]
      have c2 : ¬ askok k x := fun q => hn ⟨c1, q⟩
      rw [if_pos c2]
      exact ⟨C, rfl, FR_rf C, ht⟩
    · rw [if_pos c1]
      exact ⟨C, rfl, FR_rf C, ht⟩
theorem d_seenBy (hj : injC ca) (hb : b + 27 ≤ 120) (hb2 : 12 ≤ b) (hw : WF σ τ) (h : SC ca σ τ C b) (ht : TOP ca C b) {a : Nat} (ha : a < 4) : ∃ X D, f_X7_seenBy (pt ca S0 C) (ca 0) (nI a) = some (lN X, pt ca S0 D) ∧ SM σ X (fun t => t < gT σ ∧ lef σ a t = 1) ∧ FR C D ∧ TOP ca D b := by
  obtain ⟨h0, h3, ⟨f4, h4⟩, -⟩ := id ht
  obtain ⟨mk, em, hmk⟩ := d_markTables (S0 := S0) hj hb hb2 hw h.2.1 h3 h4
  have F1 : FR C (va_up C 4 (eJ 4096 mk)) := FR_up (by omega) (by omega)
  have s1 := SC_FR h hb2 F1
  have t1 := TOP_4 ht mk
  obtain ⟨r, f, el, hr1, hr2, hr3, hf⟩ := k_left (S0 := S0) (C := va_up C 4 (eJ 4096 mk)) hj hb s1.2.2.1 ha
  obtain ⟨X, ex, hX⟩ := d_seenIn (S0 := S0) (C := va_up C 4 (eJ 4096 mk)) hj hw t1.2.1 (mk := mk) rfl hmk (by omega) hr1 hf
  refine ⟨X, _, ?_, hX, F1, t1⟩
  unfold f_X7_seenBy
  simp only [pt_gR hj h0 (by omega : 0 < 120) (k := 0) rfl, pt_gR hj h0 (by omega : 0 < 120) (k := 3) rfl, pt_gR hj h.1 (by omega : b < 120) (k := 0) rfl, pt_ck hj h3 (by omega : 3 < 120), em, Option.bind_some, Option.bind_none, bd2, bd3, bd4, nm]
  simp only [pt_gR hj t1.1 (by omega : 0 < 120) (k := 0) rfl, pt_gR hj t1.1 (by omega : 0 < 120) (k := 3) rfl, pt_gR hj s1.1 (by omega : b < 120) (k := 0) rfl, pt_gR hj s1.1 (by omega : b < 120) (k := 1) rfl, pt_ck hj t1.2.1 (by omega : 3 < 120), k_ck hj hb s1.2.2.1, el, n_g9 hj hb s1.2.1, ex, Option.bind_some, Option.bind_none, bd2, bd3, bd4, nm]
theorem d_broken (hj : injC ca) (hb : b + 27 ≤ 120) (hb2 : 12 ≤ b) (hw : WF σ τ) (h : SC ca σ τ C b) (ht : TOP ca C b) {a r : Int32} (hR : BR σ a r) : ∃ D, f_X7_broken (pt ca S0 C) (ca 0) a = some (r, pt ca S0 D) ∧ FR C D ∧ TOP ca D b := by
  unfold f_X7_broken
  rw [d_isAsker]
  simp only [ite10, Option.bind_some, Option.bind_none, bd2, bd3, bd4, nm]
  rcases hR with ⟨i, rfl, hi, hS⟩ | ⟨hn, rfl⟩
  · rw [if_neg (fun c => c (rng4 hi))]
    obtain ⟨X, D, e1, hX, hF, hT⟩ := d_seenBy (S0 := S0) hj hb hb2 hw h ht hi
    have sD := SC_FR h hb2 hF
    obtain ⟨q, eq, hq⟩ := d_areSafe (S0 := S0) hj hb hw sD.2.1 hX ⟨hid σ (gN σ), hid_lt hw _ (Nat.le_refl _), hw.hdn hi⟩
    simp only [pt_gR hj ht.1 (by omega : 0 < 120) (k := 0) rfl, pt_gR hj h.1 (by omega : b < 120) (k := 0) rfl, pt_ck hj ht.1 (by omega : 0 < 120), e1, n_ck hj hb sD.2.1, eq, Option.bind_some, Option.bind_none, bd2, bd3, bd4, nm]
    rcases hq with ⟨rfl, q1⟩ | ⟨rfl, q1⟩
    · rw [if_neg (by decide)]
      rcases hS with ⟨rfl, -⟩ | ⟨-, q2⟩
      · exact ⟨D, rfl, hF, hT⟩
      · exact absurd q1 q2
    · rw [if_pos rfl]
      rcases hS with ⟨-, q2⟩ | ⟨rfl, -⟩
      · exact absurd q2 q1
      · exact ⟨D, rfl, hF, hT⟩
  · rw [if_pos hn]
    exact ⟨C, rfl, FR_rf C, ht⟩
theorem d_lowest {z l : Nat} (hl : l ≤ 20) (h1 : z.testBit l = true) (h2 : ∀ i, z.testBit i = true → l ≤ i) : f_X7_lowestBit (nI z) = some (nI l) := by
  unfold f_X7_lowestBit
  have key : lpo (fun x : Int32 => f_X7_lowestBit_L2 (nI z) x) FU (0 : Int32) = some (nI l) := by
    refine lpo_det (fun i => nI i) l (by omega) rfl ?_ ?_
    · intro i hi
      unfold f_X7_lowestBit_L2
      rw [if_neg (show ¬ (20 : Int32) ≤ nI i from fun q => by
        have := (nI_leI (a := 20) (by omega) (by omega)).mp q
        omega), d_holdsBit _ (by omega), bt_n (by omega), if_neg (fun q => by
        have := h2 i q
        omega)]
      simp only [nI_1, Option.bind_some, Option.bind_none, bd2, bd3, bd4, nm]
      rfl
    · unfold f_X7_lowestBit_L2
      by_cases e : (20 : Int32) ≤ nI l
      · rw [if_pos e]
      · rw [if_neg e, d_holdsBit _ (by omega), bt_n (by omega), if_pos h1]
        rfl
  rw [key]
  rfl
theorem d_highest {z g : Nat} (hg : g ≤ 20) (h1 : z.testBit g = true) (h2 : ∀ i, z.testBit i = true → i ≤ g) : f_X7_highestBit (nI z) = some (nI g) := by
  unfold f_X7_highestBit
  have key : lpo (fun x : Int32 => f_X7_highestBit_L3 (nI z) x) FU (20 : Int32) = some (nI g) := by
    refine lpo_det (fun i => nI (20 - i)) (20 - g) (by omega) rfl ?_ ?_
    · intro i hi
      show f_X7_highestBit_L3 (nI z) (nI (20 - i)) = some (.inl (nI (20 - (i + 1))))
      unfold f_X7_highestBit_L3
      rw [if_neg (nI_nle (by omega) (by omega)), d_holdsBit _ (by omega), bt_n (by omega), if_neg (fun q => by
        have := h2 (20 - i) q
        omega)]
      simp only [dec1, Option.bind_some, Option.bind_none, bd2, bd3, bd4, nm]
      rw [if_pos trivial, sub1 (by omega), show 20 - i - 1 = 20 - (i + 1) by omega]
    · rw [show 20 - (20 - g) = g by omega]
      unfold f_X7_highestBit_L3
      by_cases e : nI g ≤ 0
      · rw [if_pos e]
      · rw [if_neg e, d_holdsBit _ (by omega), bt_n (by omega), if_pos h1]
        rfl
  rw [key]
  rfl
theorem vin_seen (hw : WF σ τ) {X i m u : Nat} (hm : m < gN σ) (hX : SM σ X (fun t => t < gT σ ∧ lef σ i t = 1)) : (vin σ X m).testBit u = true ↔ u < many σ m ∧ seenb σ i m (gT σ) (lo σ m + u) = true := by
  rw [vin_bit, Bool.and_eq_true, decide_eq_true_iff]
  constructor
  · rintro ⟨h1, h2⟩
    obtain ⟨t, ⟨t1, t2⟩, t3⟩ := (hX.2.2 m hm u h1).mp h2
    exact ⟨h1, seenb_iff.mpr ⟨t, t1, t2, by rw [valt_dg, t3]⟩⟩
  · rintro ⟨h1, h2⟩
    obtain ⟨t, t1, t2, t3⟩ := seenb_iff.mp h2
    rw [valt_dg] at t3
    exact ⟨h1, (hX.2.2 m hm u h1).mpr ⟨t, ⟨t1, t2⟩, by omega⟩⟩
theorem vin_cnt (hw : WF σ τ) {X i m : Nat} (hm : m < gN σ) (hX : SM σ X (fun t => t < gT σ ∧ lef σ i t = 1)) : sm (tbN (vin σ X m)) 32 = sm (sn σ i m) 21 := by
  have h1 := hw.num hm
  have hmany : many σ m = hi σ m - lo σ m + 1 := rfl
  have e1 : sm (sn σ i m) (lo σ m + (21 - lo σ m)) = sm (sn σ i m) (lo σ m) + sm (fun u => sn σ i m (lo σ m + u)) (21 - lo σ m) := sm_add _
  rw [show lo σ m + (21 - lo σ m) = 21 by omega] at e1
  have e2 : sm (sn σ i m) (lo σ m) = 0 := sm_zero _ (fun v hv => by
    unfold sn
    rw [if_neg (fun q => by
      have := (seen_le hw hm q).2.1
      omega)])
  have e3 : sm (tbN (vin σ X m)) ((21 - lo σ m) + (11 + lo σ m)) = sm (tbN (vin σ X m)) (21 - lo σ m) + sm (fun u => tbN (vin σ X m) (21 - lo σ m + u)) (11 + lo σ m) := sm_add _
  rw [show (21 - lo σ m) + (11 + lo σ m) = 32 by omega] at e3
  have e4 : sm (fun u => tbN (vin σ X m) (21 - lo σ m + u)) (11 + lo σ m) = 0 := sm_zero _ (fun u _ => by
    unfold tbN
    rw [if_neg (fun q => by
      have := ((vin_seen hw hm hX).mp q).1
      omega)])
  rw [e1, e2, e3, e4, Nat.add_zero, Nat.zero_add]
  refine sm_congr _ (fun u hu => ?_)
  unfold tbN sn
  by_cases c : seenb σ i m (gT σ) (lo σ m + u) = true
  · have := (seen_le hw hm c).2.2
    rw [if_pos c, if_pos ((vin_seen hw hm hX).mpr ⟨by omega, c⟩)]
  · rw [if_neg c, if_neg (fun q => c ((vin_seen hw hm hX).mp q).2)]
theorem d_knows (hj : injC ca) (hb : b + 27 ≤ 120) (hb2 : 12 ≤ b) (hw : WF σ τ) (h : SC ca σ τ C b) (ht : TOP ca C b) {a n w r : Int32} (hR : KR σ a n w r) : ∃ D, f_X7_knows (pt ca S0 C) (ca 0) a n w = some (r, pt ca S0 D) ∧ FR C D ∧ TOP ca D b := by
  have h10 := hw.n10
  unfold f_X7_knows
  rw [d_isAsker]
  simp only [ite10, Option.bind_some, Option.bind_none, bd2, bd3, bd4, nm]
  by_cases c1 : rng a 4
  · rw [if_neg (fun c => c c1)]
    by_cases c2 : rng n (gN σ)
    · obtain ⟨i, hi9, rfl⟩ := (rng_iff (by omega)).mp c1
      obtain ⟨m, hm, rfl⟩ := (rng_iff (by omega)).mp c2
      obtain ⟨X, D, e1, hX, hF, hT⟩ := d_seenBy (S0 := S0) hj hb hb2 hw h ht hi9
      have sD := SC_FR h hb2 hF
      obtain ⟨ev, hv⟩ := d_valuesIn (S0 := S0) hj hb hw sD.2.1 hm hX.1
      have hnum := hw.num hm
      have hmany : many σ m = hi σ m - lo σ m + 1 := rfl
      rw [if_neg (Int32.not_lt.mpr c2.1)]
      simp only [pt_gR hj ht.1 (by omega : 0 < 120) (k := 0) rfl, pt_gR hj h.1 (by omega : b < 120) (k := 0) rfl, n_g8 hj hb h.2.1, Option.bind_some, Option.bind_none, bd2, bd3, bd4, nm]
      rw [if_pos c2.2]
      simp only [pt_ck hj ht.1 (by omega : 0 < 120), e1, n_ck hj hb sD.2.1, ev, pt_gR hj hT.1 (by omega : 0 < 120) (k := 0) rfl, pt_gR hj sD.1 (by omega : b < 120) (k := 0) rfl, n_g2 hj hb sD.2.1, n_le hj hb hw sD.2.1 hm, Option.bind_some, Option.bind_none, bd2, bd3, bd4, nm]
      rcases hR with ⟨i', m', l, g, ea, hi', en, hm', s1, s2, s3, s4, hw4⟩ | ⟨hn, rfl⟩
      · have : i = i' := (nI_eq (by omega) (by omega)).mp ea
        subst this
        have : m = m' := (nI_eq (by omega) (by omega)).mp en
        subst this
        have hl := seen_le hw hm s1
        have hg := seen_le hw hm s3
        have b1 : (vin σ X m).testBit (l - lo σ m) = true := (vin_seen hw hm hX).mpr ⟨by omega, by rw [show lo σ m + (l - lo σ m) = l by omega]; exact s1⟩
        have b2 : (vin σ X m).testBit (g - lo σ m) = true := (vin_seen hw hm hX).mpr ⟨by omega, by rw [show lo σ m + (g - lo σ m) = g by omega]; exact s3⟩
        have e2 := d_lowest (z := vin σ X m) (l := l - lo σ m) (by omega) b1 (fun u hu => by
          have := s2 _ ((vin_seen hw hm hX).mp hu).2
          omega)
        have e3 := d_highest (z := vin σ X m) (g := g - lo σ m) (by omega) b2 (fun u hu => by
          have := s4 _ ((vin_seen hw hm hX).mp hu).2
          omega)
        have hlg := s2 g s3
        rcases hw4 with ⟨rfl, rfl⟩ | ⟨rfl, rfl⟩ | ⟨rfl, rfl⟩ | ⟨rfl, rfl⟩
        · rw [if_pos rfl, e2]
          simp only [Option.bind_some, Option.bind_none, bd2, bd3, bd4, nm]
          rw [nI_add, show lo σ m + (l - lo σ m) = l by omega]
          exact ⟨D, rfl, hF, hT⟩
        · rw [if_neg (by decide), if_pos rfl, e3]
          simp only [Option.bind_some, Option.bind_none, bd2, bd3, bd4, nm]
          rw [nI_add, show lo σ m + (g - lo σ m) = g by omega]
          exact ⟨D, rfl, hF, hT⟩
        · rw [if_neg (by decide), if_neg (by decide), if_pos rfl, b_count32 (by omega), vin_cnt hw hm hX]
          exact ⟨D, rfl, hF, hT⟩
        · rw [if_neg (by decide), if_neg (by decide), if_neg (by decide), if_pos rfl, e2, e3]
          simp only [Option.bind_some, Option.bind_none, bd2, bd3, bd4, nm]
          rw [q_sub (by omega), nI_1, show g - lo σ m - (l - lo σ m) + 1 = g - l + 1 by omega]
          exact ⟨D, rfl, hF, hT⟩
      · have hw4 : ¬ rng w 4 := fun q => hn ⟨c1, c2, q⟩
        have n0 : ¬ w = 0 := fun q => hw4 (by subst q; exact rng4 (i := 0) (by omega))
        have n1 : ¬ w = 1 := fun q => hw4 (by subst q; exact rng4 (i := 1) (by omega))
        have n2 : ¬ w = 2 := fun q => hw4 (by subst q; exact rng4 (i := 2) (by omega))
        have n3 : ¬ w = 3 := fun q => hw4 (by subst q; exact rng4 (i := 3) (by omega))
        rw [if_neg n0, if_neg n1, if_neg n2, if_neg n3]
        exact ⟨D, rfl, hF, hT⟩
    · have hr : r = -1 := by
        rcases hR with ⟨i', m', l, g, ea, hi', rfl, hm', -⟩ | ⟨-, hr⟩
        · exact absurd ((rng_iff (by omega)).mpr ⟨m', hm', rfl⟩) c2
        · exact hr
      subst hr
      by_cases c3 : n < 0
      · rw [if_pos c3]
        exact ⟨C, rfl, FR_rf C, ht⟩
      · rw [if_neg c3]
        simp only [pt_gR hj ht.1 (by omega : 0 < 120) (k := 0) rfl, pt_gR hj h.1 (by omega : b < 120) (k := 0) rfl, n_g8 hj hb h.2.1, Option.bind_some, Option.bind_none, bd2, bd3, bd4, nm]
        rw [if_neg (fun q => c2 ⟨Int32.not_lt.mp c3, q⟩)]
        exact ⟨C, rfl, FR_rf C, ht⟩
  · rw [if_pos c1]
    have hr : r = -1 := by
      rcases hR with ⟨i', m', l, g, rfl, hi', -⟩ | ⟨-, hr⟩
      · exact absurd (rng4 hi') c1
      · exact hr
    subst hr
    exact ⟨C, rfl, FR_rf C, ht⟩
end PUB
