/-! ===== the reference: the sort ===== -/
/-- all of the first m, each somewhere -/
def Pm (m : Nat) (f : Nat → Nat) : Prop := (∀ k, k < m → f k < m) ∧ ∀ j, j < m → ∃ k, k < m ∧ f k = j
theorem Pm_swap {m a b : Nat} {f g : Nat → Nat} (h : Pm m f) (ha : a < m) (hb : b < m) (h1 : g a = f b) (h2 : g b = f a) (h3 : ∀ q, q ≠ a → q ≠ b → g q = f q) : Pm m g := by
  constructor
  · intro k hk
    by_cases e1 : k = a
    · rw [e1, h1]; exact h.1 b hb
    · by_cases e2 : k = b
      · rw [e2, h2]; exact h.1 a ha
      · rw [h3 k e1 e2]; exact h.1 k hk
  · intro j hj
    obtain ⟨k, hk, e⟩ := h.2 j hj
    by_cases e1 : k = a
    · exact ⟨b, hb, by rw [h2, ← e1]; exact e⟩
    · by_cases e2 : k = b
      · exact ⟨a, ha, by rw [h1, ← e2]; exact e⟩
      · exact ⟨k, hk, by rw [h3 k e1 e2]; exact e⟩
/-- in steps of s the keys up to place n don't fall -/
abbrev Sd (kk : Nat → Nat) (f : Nat → Nat) (s n : Nat) : Prop := ∀ q, s ≤ q → q < n → kk (f (q - s)) ≤ kk (f q)
section M8T
variable {ad : Nat → Nat} {S0 : PH} {al hz : Nat → Int32} {s1 s2 s3 s4 : Int32} {lw hg mt tb9 : Nat → Int32} {an ky : Nat → Int64} {rw9 : Nat → Int32} {lf : Int32}
theorem b_sortM (S : PH) (s : Nat) : lpo (fun y : Int64 × Int32 => f_X8_sorts_L5 S (nI s) y.1 y.2) FU ((0 : Int64), (0 : Int32)) = some (lN (mkw s 8)) := by
  refine lpo_det (fun w => (lN (mkw s w), nI w)) 8 (by omega) rfl ?_ ?_
  · intro w hw9
    have i3 : (6 : Int32) * nI w = nI (6 * w) := by rw [show (6 : Int32) = nI 6 from rfl, pk_mul]
    have hm := mkw_lt (s := s) w
    have h64 : (2 : Nat) ^ (6 * w) ≤ 2 ^ 42 := Nat.pow_le_pow_right (by omega) (by omega)
    have hb : bt (nI s) w = s.testBit w := bt_n (by omega)
    have e63 : (63 : Int64) <<< ((nI (6 * w)).toInt64 &&& 63) = lN (63 * 2 ^ (6 * w)) := wb_shl 63 (by omega)
    show f_X8_sorts_L5 S (nI s) (lN (mkw s w)) (nI w) = some (Sum.inl (lN (if s.testBit w = true then mkw s w ||| 63 * 2 ^ (6 * w) else mkw s w), nI (w + 1)))
    unfold f_X8_sorts_L5
    rw [if_neg (show ¬ (8 : Int32) ≤ nI w from nI_ge (a := w) (b := 8) hw9 (by omega)), i3]
    by_cases hs : s.testBit w = true
    · rw [if_pos (show nI s >>> (nI w &&& 31) &&& 1 = 1 by rw [sh1 _ (by omega), hb]; exact hs), if_pos hs, e63, wb_or (by omega) (by omega)]
      simp only [f_X8_sorts_b34, nI_1]
    · rw [if_neg (show ¬ (nI s >>> (nI w &&& 31) &&& 1 = 1) by rw [sh1 _ (by omega), hb]; exact hs), if_neg hs]
      simp only [f_X8_sorts_b34, nI_1]
  · show f_X8_sorts_L5 S (nI s) (lN (mkw s 8)) (nI 8) = _
    unfold f_X8_sorts_L5
    rw [if_pos (show (8 : Int32) ≤ nI 8 from Int32.le_refl _)]
theorem b_sortK (h : inj8 ad) {m M : Nat} (hm : m ≤ 4096) {kr : Nat → Nat} (ha : ∀ k, k < m → an k = lN (kr k)) (hk : ∀ k, k < m → kr k < 2 ^ 64) (hM : M < 2 ^ 64) : ∃ ky' rw9', lpo (fun y : Int32 × PH => f_X8_sorts_L43 y.2 (ad 0) (lN M) y.1) FU ((0 : Int32), mk8 ad S0 al hz s1 s2 s3 s4 lw hg mt tb9 an ky rw9 (nI m)) = some (mk8 ad S0 al hz s1 s2 s3 s4 lw hg mt tb9 an ky' rw9' (nI m)) ∧ ∀ k, k < m → ky' k = lN (kr k &&& M) ∧ rw9' k = nI k := by
  have key := lpo_run (b := fun y : Int32 × PH => f_X8_sorts_L43 y.2 (ad 0) (lN M) y.1) (x := ((0 : Int32), mk8 ad S0 al hz s1 s2 s3 s4 lw hg mt tb9 an ky rw9 (nI m)))
    (fun n y => ∃ ky' rw9', y = (nI n, mk8 ad S0 al hz s1 s2 s3 s4 lw hg mt tb9 an ky' rw9' (nI m)) ∧ ∀ k, k < n → ky' k = lN (kr k &&& M) ∧ rw9' k = nI k)
    (fun y => ∃ ky' rw9', y = mk8 ad S0 al hz s1 s2 s3 s4 lw hg mt tb9 an ky' rw9' (nI m) ∧ ∀ k, k < m → ky' k = lN (kr k &&& M) ∧ rw9' k = nI k)
    m (by omega) ⟨ky, rw9, rfl, fun k hk => absurd hk (Nat.not_lt_zero k)⟩ (by
      rintro n y hn ⟨ky', rw9', rfl, h1⟩
      refine Or.inl ⟨(nI (n + 1), mk8 ad S0 al hz s1 s2 s3 s4 lw hg mt tb9 an (vp_updL ky' n (lN (kr n &&& M))) (upd rw9' n (nI n)) (nI m)), ?_, _, _, rfl, fun k hk => ?_⟩
      · show f_X8_sorts_L43 _ _ _ (nI n) = _
        unfold f_X8_sorts_L43
        simp (disch := first | omega | assumption) only [g8_13, g8_11, g8_10, Option.bind_some, q_le, r8_an, ha n hn, w8_ky, g8_12, w8_rw, nI_1]
        rw [if_neg (by omega), wb_and (hk n hn) hM]
      · by_cases e : k = n
        · rw [e, pk_us, pk_uLs]; exact ⟨rfl, rfl⟩
        · rw [pk_un e, pk_uLn e]; exact h1 k (by omega)) (by
      rintro y ⟨ky', rw9', rfl, h1⟩
      refine ⟨_, ?_, ky', rw9', rfl, h1⟩
      show f_X8_sorts_L43 _ _ _ (nI m) = _
      unfold f_X8_sorts_L43
      simp (disch := first | omega | assumption) only [g8_13, Option.bind_some, q_le]
      rw [if_pos (Nat.le_refl _)])
  obtain ⟨y9, h1, ky', rw9', rfl, h2⟩ := key
  exact ⟨ky', rw9', h1, h2⟩
/-- the hole at i, from which it was taken -/
def Ho (kk f : Nat → Nat) (m s k i it : Nat) (rw9 : Nat → Int32) : Prop :=
  f i = it ∧ Pm m f ∧ (∀ q, q < m → q ≠ i → rw9 q = nI (f q)) ∧ (∀ q, s ≤ q → q ≤ k → q ≠ i → q ≠ i + s → kk (f (q - s)) ≤ kk (f q)) ∧ (i + s ≤ k → kk it ≤ kk (f (i + s))) ∧ (i + s ≤ k → s ≤ i → kk (f (i - s)) ≤ kk (f (i + s)))
theorem b_sortI (h : inj8 ad) {m s k : Nat} (hm : m ≤ 4096) (hs : 1 ≤ s) (hsk : s ≤ k) (hkm : k < m) {kk f : Nat → Nat} (hky : ∀ q, q < m → ky q = lN (kk q)) (hk63 : ∀ q, q < m → kk q < 2 ^ 63) (hP : Pm m f) (hr : ∀ q, q < m → rw9 q = nI (f q)) (hSd : Sd kk f s k) :
    ∃ i f' rw9', lpo (fun y : Int32 × PH => f_X8_sorts_L119 y.2 (ad 0) (nI s) (nI (f k)) y.1) FU (nI k, mk8 ad S0 al hz s1 s2 s3 s4 lw hg mt tb9 an ky rw9 (nI m)) = some (nI i, mk8 ad S0 al hz s1 s2 s3 s4 lw hg mt tb9 an ky rw9' (nI m)) ∧ i < m ∧ Pm m f' ∧ (∀ q, q < m → upd rw9' i (nI (f k)) q = nI (f' q)) ∧ Sd kk f' s (k + 1) := by
  have hit : f k < m := hP.1 k hkm
  have fin9 : ∀ i g rw9', i < m → Ho kk g m s k i (f k) rw9' → (i < s ∨ kk (g (i - s)) ≤ kk (f k)) → Pm m g ∧ (∀ q, q < m → upd rw9' i (nI (f k)) q = nI (g q)) ∧ Sd kk g s (k + 1) := by
    rintro i g rw9' hi ⟨h1, h2, h3, h4, h5, h6⟩ h7
    refine ⟨h2, fun q hq => ?_, fun q hq1 hq2 => ?_⟩
    · by_cases e : q = i
      · rw [e, pk_us, h1]
      · rw [pk_un e]; exact h3 q hq e
    · by_cases e : q = i
      · rcases h7 with h7 | h7
        · omega
        · rw [e, h1]; exact h7
      · by_cases e2 : q = i + s
        · have := h5 (by omega)
          rw [e2, show i + s - s = i by omega, h1]; exact this
        · exact h4 q hq1 (by omega) e e2
  have key := lpo_run (b := fun y : Int32 × PH => f_X8_sorts_L119 y.2 (ad 0) (nI s) (nI (f k)) y.1) (x := (nI k, mk8 ad S0 al hz s1 s2 s3 s4 lw hg mt tb9 an ky rw9 (nI m)))
    (fun j y => ∃ g rw9', j * s ≤ k ∧ y = (nI (k - j * s), mk8 ad S0 al hz s1 s2 s3 s4 lw hg mt tb9 an ky rw9' (nI m)) ∧ Ho kk g m s k (k - j * s) (f k) rw9')
    (fun y => ∃ i g rw9', y = (nI i, mk8 ad S0 al hz s1 s2 s3 s4 lw hg mt tb9 an ky rw9' (nI m)) ∧ i < m ∧ Ho kk g m s k i (f k) rw9' ∧ (i < s ∨ kk (g (i - s)) ≤ kk (f k)))
    (k / s) (by have := Nat.div_le_self k s; omega)
    ⟨f, rw9, by omega, by rw [Nat.zero_mul, Nat.sub_zero], by
      rw [Nat.zero_mul, Nat.sub_zero]
      exact ⟨rfl, hP, fun q hq _ => hr q hq, fun q h1 h2 h3 _ => hSd q h1 (by omega), fun q => by omega, fun q => by omega⟩⟩ (by
      rintro j y hj ⟨g, rw9', hjs, rfl, hH⟩
      have hj1 : (j + 1) * s ≤ k := Nat.le_trans (Nat.mul_le_mul_right s hj) (Nat.div_mul_le_self k s)
      rw [Nat.succ_mul] at hj1
      obtain ⟨i, hi⟩ : ∃ i, i = k - j * s := ⟨_, rfl⟩
      have hi2 : k - (j + 1) * s = i - s := by rw [Nat.succ_mul]; omega
      rw [hi2, Nat.succ_mul]
      rw [← hi] at hH ⊢
      have hsi : s ≤ i := by omega
      obtain ⟨h1, h2, h3, h4, h5, h6⟩ := hH
      have r1 : rw9' (i - s) = nI (g (i - s)) := h3 (i - s) (by omega) (by omega)
      have b1 : g (i - s) < m := h2.1 (i - s) (by omega)
      have k1 := hk63 _ b1
      have k2 := hk63 _ hit
      by_cases hc : kk (g (i - s)) ≤ kk (f k)
      · refine Or.inr ⟨(nI i, mk8 ad S0 al hz s1 s2 s3 s4 lw hg mt tb9 an ky rw9' (nI m)), ?_, i, g, rw9', rfl, by omega, ⟨h1, h2, h3, h4, h5, h6⟩, Or.inr hc⟩
        show f_X8_sorts_L119 _ _ _ _ (nI i) = _
        unfold f_X8_sorts_L119
        rw [if_neg (nI_nlt hsi (by omega)), q_sub hsi]
        simp (disch := first | omega | assumption) only [g8_11, g8_12, Option.bind_some, r8_rw, r1, r8_ky, hky _ b1, hky _ hit]
        rw [if_pos ((lg_cmp_le _ _).mpr ((pk_lLE k1 k2).mpr hc))]
      · refine Or.inl ⟨(nI (i - s), mk8 ad S0 al hz s1 s2 s3 s4 lw hg mt tb9 an ky (upd rw9' i (nI (g (i - s)))) (nI m)), ?_, va_up (va_up g i (g (i - s))) (i - s) (f k), _, by omega, rfl, ?_⟩
        · show f_X8_sorts_L119 _ _ _ _ (nI i) = _
          unfold f_X8_sorts_L119
          rw [if_neg (nI_nlt hsi (by omega)), q_sub hsi]
          simp (disch := first | omega | assumption) only [g8_11, g8_12, Option.bind_some, r8_rw, r1, r8_ky, hky _ b1, hky _ hit, w8_rw]
          rw [if_neg (fun q => hc ((pk_lLE k1 k2).mp ((lg_cmp_le _ _).mp q)))]
        · have G0 : va_up (va_up g i (g (i - s))) (i - s) (f k) (i - s) = f k := va_up_self _ _ _
          have G1 : va_up (va_up g i (g (i - s))) (i - s) (f k) i = g (i - s) := by rw [va_up_ne _ _ (by omega), va_up_self]
          have G2 : ∀ q, q ≠ i → q ≠ i - s → va_up (va_up g i (g (i - s))) (i - s) (f k) q = g q := fun q q1 q2 => by rw [va_up_ne _ _ q2, va_up_ne _ _ q1]
          refine ⟨G0, Pm_swap h2 (a := i) (b := i - s) (by omega) (by omega) G1 (by rw [G0, h1]) G2, fun q hq hq2 => ?_, fun q q1 q2 q3 q4 => ?_, fun q => ?_, fun q1 q2 => ?_⟩
          · by_cases e : q = i
            · rw [e, pk_us, G1]
            · rw [pk_un e, G2 q e hq2]; exact h3 q hq e
          · have q4' : q ≠ i := by omega
            rw [G2 q q4' q3]
            by_cases e : q = i + s
            · rw [e, show i + s - s = i by omega, G1]
              exact h6 (by omega) hsi
            · rw [G2 (q - s) (by omega) (by omega)]
              exact h4 q q1 q2 q4' e
          · rw [show i - s + s = i by omega, G1]
            omega
          · rw [show i - s + s = i by omega, G1, G2 (i - s - s) (by omega) (by omega)]
            exact h4 (i - s) q2 (by omega) (by omega) (by omega)) (by
      rintro y ⟨g, rw9', hjs, rfl, hH⟩
      have hlt : k - k / s * s < s := by
        have h1 := Nat.div_add_mod k s
        have h2 := Nat.mod_lt k (show 0 < s by omega)
        rw [Nat.mul_comm] at h1
        omega
      refine ⟨_, ?_, k - k / s * s, g, rw9', rfl, by omega, hH, Or.inl hlt⟩
      show f_X8_sorts_L119 _ _ _ _ (nI (k - k / s * s)) = _
      unfold f_X8_sorts_L119
      rw [if_pos (nI_lt hlt (by omega))])
  obtain ⟨y9, e1, i, g, rw9', rfl, e2, e3, e4⟩ := key
  obtain ⟨e5, e6, e7⟩ := fin9 i g rw9' e2 e3 e4
  exact ⟨i, g, rw9', e1, e2, e5, e6, e7⟩
theorem b_sortP (h : inj8 ad) {m s : Nat} (hm : m ≤ 4096) (hs : 1 ≤ s) (hs2 : s ≤ 4096) {kk f : Nat → Nat} (hky : ∀ q, q < m → ky q = lN (kk q)) (hk63 : ∀ q, q < m → kk q < 2 ^ 63) (hP : Pm m f) (hr : ∀ q, q < m → rw9 q = nI (f q)) :
    ∃ f' rw9', lpo (fun y : Int32 × PH => f_X8_sorts_L97 y.2 (ad 0) (nI s) y.1) FU (nI s, mk8 ad S0 al hz s1 s2 s3 s4 lw hg mt tb9 an ky rw9 (nI m)) = some (mk8 ad S0 al hz s1 s2 s3 s4 lw hg mt tb9 an ky rw9' (nI m)) ∧ Pm m f' ∧ (∀ q, q < m → rw9' q = nI (f' q)) ∧ Sd kk f' s m := by
  have key := lpo_run (b := fun y : Int32 × PH => f_X8_sorts_L97 y.2 (ad 0) (nI s) y.1) (x := (nI s, mk8 ad S0 al hz s1 s2 s3 s4 lw hg mt tb9 an ky rw9 (nI m)))
    (fun j y => ∃ g rw9', y = (nI (s + j), mk8 ad S0 al hz s1 s2 s3 s4 lw hg mt tb9 an ky rw9' (nI m)) ∧ Pm m g ∧ (∀ q, q < m → rw9' q = nI (g q)) ∧ Sd kk g s (s + j))
    (fun y => ∃ g rw9', y = mk8 ad S0 al hz s1 s2 s3 s4 lw hg mt tb9 an ky rw9' (nI m) ∧ Pm m g ∧ (∀ q, q < m → rw9' q = nI (g q)) ∧ Sd kk g s m)
    (m - s) (by omega) ⟨f, rw9, rfl, hP, hr, fun q q1 q2 => by omega⟩ (by
      rintro j y hj ⟨g, rw9', rfl, hP', hr', hS'⟩
      obtain ⟨i, f', rw9'', e1, e2, e3, e4, e5⟩ := b_sortI (S0 := S0) (al := al) (hz := hz) (s1 := s1) (s2 := s2) (s3 := s3) (s4 := s4) (lw := lw) (hg := hg) (mt := mt) (tb9 := tb9) (an := an) h hm hs (show s ≤ s + j by omega) (show s + j < m by omega) hky hk63 hP' hr' hS'
      refine Or.inl ⟨(nI (s + (j + 1)), mk8 ad S0 al hz s1 s2 s3 s4 lw hg mt tb9 an ky (upd rw9'' i (nI (g (s + j)))) (nI m)), ?_, f', _, rfl, e3, e4, e5⟩
      show f_X8_sorts_L97 _ _ _ (nI (s + j)) = _
      unfold f_X8_sorts_L97
      simp (disch := first | omega | assumption) only [g8_13, g8_12, Option.bind_some, q_le, r8_rw, hr' _ (show s + j < m by omega), e1, bd2, w8_rw, nI_1]
      rw [if_neg (by omega), Nat.add_assoc]) (by
      rintro y ⟨g, rw9', rfl, hP', hr', hS'⟩
      refine ⟨_, ?_, g, rw9', rfl, hP', hr', fun q q1 q2 => hS' q q1 (by omega)⟩
      show f_X8_sorts_L97 _ _ _ (nI (s + (m - s))) = _
      unfold f_X8_sorts_L97
      simp (disch := first | omega | assumption) only [g8_13, Option.bind_some, q_le]
      rw [if_pos (by omega)])
  obtain ⟨y9, e1, g, rw9', rfl, e2⟩ := key
  exact ⟨g, rw9', e1, e2⟩
theorem b_sortS (h : inj8 ad) {m : Nat} (hm : m ≤ 4096) {kk f : Nat → Nat} (hky : ∀ q, q < m → ky q = lN (kk q)) (hk63 : ∀ q, q < m → kk q < 2 ^ 63) (hP : Pm m f) (hr : ∀ q, q < m → rw9 q = nI (f q)) :
    ∃ f' rw9', lpo (fun y : Int32 × PH => f_X8_sorts_L88 y.2 (ad 0) y.1) FU ((2048 : Int32), mk8 ad S0 al hz s1 s2 s3 s4 lw hg mt tb9 an ky rw9 (nI m)) = some (mk8 ad S0 al hz s1 s2 s3 s4 lw hg mt tb9 an ky rw9' (nI m)) ∧ Pm m f' ∧ (∀ q, q < m → rw9' q = nI (f' q)) ∧ Sd kk f' 1 m := by
  have key := lpo_run (b := fun y : Int32 × PH => f_X8_sorts_L88 y.2 (ad 0) y.1) (x := ((2048 : Int32), mk8 ad S0 al hz s1 s2 s3 s4 lw hg mt tb9 an ky rw9 (nI m)))
    (fun j y => ∃ g rw9', y = (nI (2048 / 2 ^ j), mk8 ad S0 al hz s1 s2 s3 s4 lw hg mt tb9 an ky rw9' (nI m)) ∧ Pm m g ∧ (∀ q, q < m → rw9' q = nI (g q)) ∧ (j = 12 → Sd kk g 1 m))
    (fun y => ∃ g rw9', y = mk8 ad S0 al hz s1 s2 s3 s4 lw hg mt tb9 an ky rw9' (nI m) ∧ Pm m g ∧ (∀ q, q < m → rw9' q = nI (g q)) ∧ Sd kk g 1 m)
    12 (by omega) ⟨f, rw9, rfl, hP, hr, fun q => by omega⟩ (by
      rintro j y hj ⟨g, rw9', rfl, hP', hr', -⟩
      have hs1 : 1 ≤ 2048 / 2 ^ j := by
        have : 2 ^ j ≤ 2 ^ 11 := Nat.pow_le_pow_right (by omega) (by omega)
        exact (Nat.le_div_iff_mul_le (Nat.two_pow_pos j)).mpr (by omega)
      have hs2 : 2048 / 2 ^ j ≤ 2048 := Nat.div_le_self _ _
      obtain ⟨f', rw9'', e1, e2, e3, e4⟩ := b_sortP (S0 := S0) (al := al) (hz := hz) (s1 := s1) (s2 := s2) (s3 := s3) (s4 := s4) (lw := lw) (hg := hg) (mt := mt) (tb9 := tb9) (an := an) h hm hs1 (by omega) hky hk63 hP' hr'
      refine Or.inl ⟨(nI (2048 / 2 ^ (j + 1)), mk8 ad S0 al hz s1 s2 s3 s4 lw hg mt tb9 an ky rw9'' (nI m)), ?_, f', _, rfl, e2, e3, fun q => ?_⟩
      · show f_X8_sorts_L88 _ _ (nI (2048 / 2 ^ j)) = _
        unfold f_X8_sorts_L88
        rw [if_neg (nI_nle (by omega) (by omega)), e1]
        simp only [Option.bind_some]
        rw [show (2 : Int32) = nI 2 from rfl, pk_div (by omega) (by omega) (by omega), Nat.div_div_eq_div_mul, Nat.pow_succ]
      · have hj11 : j = 11 := by omega
        subst hj11
        exact e4) (by
      rintro y ⟨g, rw9', rfl, hP', hr', hS'⟩
      refine ⟨_, ?_, g, rw9', rfl, hP', hr', hS' rfl⟩
      show f_X8_sorts_L88 _ _ (nI (2048 / 2 ^ 12)) = _
      unfold f_X8_sorts_L88
      rw [if_pos (by decide)])
  obtain ⟨y9, e1, g, rw9', rfl, e2⟩ := key
  exact ⟨g, rw9', e1, e2⟩
theorem b_sorts (h : inj8 ad) {m s : Nat} (hm : m ≤ 4096) {kr : Nat → Nat} (ha : ∀ k, k < m → an k = lN (kr k)) (hk : ∀ k, k < m → kr k < 2 ^ 63) : ∃ f ky' rw9', f_X8_sorts (mk8 ad S0 al hz s1 s2 s3 s4 lw hg mt tb9 an ky rw9 (nI m)) (ad 0) (nI s) = some (mk8 ad S0 al hz s1 s2 s3 s4 lw hg mt tb9 an ky' rw9' (nI m)) ∧ (∀ k, k < m → ky' k = lN (kr k &&& mkw s 8)) ∧ Pm m f ∧ (∀ q, q < m → rw9' q = nI (f q)) ∧ Sd (fun k => kr k &&& mkw s 8) f 1 m := by
  have hM : mkw s 8 < 2 ^ 48 := mkw_lt 8
  obtain ⟨ky1, rw1, e1, e2⟩ := b_sortK (S0 := S0) (al := al) (hz := hz) (s1 := s1) (s2 := s2) (s3 := s3) (s4 := s4) (lw := lw) (hg := hg) (mt := mt) (tb9 := tb9) (ky := ky) (rw9 := rw9) (M := mkw s 8) h hm ha (fun k q => by have := hk k q; omega) (by omega)
  obtain ⟨f, rw2, e3, e4, e5, e6⟩ := b_sortS (S0 := S0) (al := al) (hz := hz) (s1 := s1) (s2 := s2) (s3 := s3) (s4 := s4) (lw := lw) (hg := hg) (mt := mt) (tb9 := tb9) (an := an) (ky := ky1) (rw9 := rw1) (kk := fun k => kr k &&& mkw s 8) (f := fun k => k) h hm (fun q hq => (e2 q hq).1) (fun q hq => Nat.lt_of_le_of_lt Nat.and_le_right (by omega)) ⟨fun k hk => hk, fun j hj => ⟨j, hj, rfl⟩⟩ (fun q hq => (e2 q hq).2)
  refine ⟨f, ky1, rw2, ?_, fun k hk => (e2 k hk).1, e4, e5, e6⟩
  unfold f_X8_sorts
  rw [b_sortM]
  simp only [Option.bind_some]
  rw [e1]
  simp only [Option.bind_some]
  rw [e3]
  rfl
end M8T
