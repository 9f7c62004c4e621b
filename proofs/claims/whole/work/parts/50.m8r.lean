/-! ===== the reference: knows ===== -/
/-- some table below t that asker i has left shows number n at v -/
def seenb (σ : SG) (i n : Nat) : Nat → Nat → Bool
  | 0, _ => false
  | t + 1, v => seenb σ i n t v || (decide (lef σ i t = 1) && decide (valt σ t n = v))
theorem seenb_iff {σ : SG} {i n v : Nat} : ∀ {T : Nat}, seenb σ i n T v = true ↔ ∃ t, t < T ∧ lef σ i t = 1 ∧ valt σ t n = v
  | 0 => by simp [seenb]
  | T + 1 => by
    have ih := seenb_iff (σ := σ) (i := i) (n := n) (v := v) (T := T)
    unfold seenb
    rw [Bool.or_eq_true, Bool.and_eq_true, decide_eq_true_eq, decide_eq_true_eq, ih]
    constructor
    · rintro (⟨t, h1, h2⟩ | h)
      · exact ⟨t, by omega, h2⟩
      · exact ⟨T, by omega, h⟩
    · rintro ⟨t, h1, h2⟩
      by_cases e : t = T
      · subst e; exact Or.inr h2
      · exact Or.inl ⟨t, by omega, h2⟩
def vbits (σ : SG) (i n : Nat) : Nat → Nat
  | 0 => 0
  | t + 1 => if lef σ i t = 1 then vbits σ i n t ||| 2 ^ valt σ t n else vbits σ i n t
theorem vbits_bit {σ : SG} {i n v : Nat} : ∀ T, (vbits σ i n T).testBit v = seenb σ i n T v
  | 0 => by simp [vbits, seenb]
  | T + 1 => by
    have ih := vbits_bit (σ := σ) (i := i) (n := n) (v := v) T
    unfold vbits seenb
    by_cases h : lef σ i T = 1
    · rw [if_pos h, Nat.testBit_or, Nat.testBit_two_pow, ih]
      simp [h]
    · rw [if_neg h, ih]
      simp [h]
def sn (σ : SG) (i n v : Nat) : Nat := if seenb σ i n (gT σ) v = true then 1 else 0
/-- what knows answers -/
def KR (σ : SG) (a n w r : Int32) : Prop :=
  (∃ i m l g, a = nI i ∧ i < 4 ∧ n = nI m ∧ m < gN σ ∧ seenb σ i m (gT σ) l = true ∧ (∀ v, seenb σ i m (gT σ) v = true → l ≤ v) ∧ seenb σ i m (gT σ) g = true ∧ (∀ v, seenb σ i m (gT σ) v = true → v ≤ g) ∧ ((w = 0 ∧ r = nI l) ∨ (w = 1 ∧ r = nI g) ∨ (w = 2 ∧ r = nI (sm (sn σ i m) 21)) ∨ (w = 3 ∧ r = nI (g - l + 1)))) ∨
  (¬ (rng a 4 ∧ rng n (gN σ) ∧ rng w 4) ∧ r = -1)
section M8R
variable {ad : Nat → Nat} {S0 : PH} {al hz : Nat → Int32} {s1 s2 s3 s4 : Int32} {lw hg mt tb9 : Nat → Int32} {an ky : Nat → Int64} {rw9 : Nat → Int32} {lf : Int32} {σ : SG} {τ : TG}
theorem seen_le (hw : WF σ τ) {i n v t : Nat} (hn : n < gN σ) (h : seenb σ i n t v = true) : v ≤ 20 ∧ lo σ n ≤ v ∧ v ≤ hi σ n := by
  obtain ⟨u, -, -, rfl⟩ := seenb_iff.mp h
  have h1 := valt_le hw hn u
  have h2 := hw.num hn
  omega
theorem seen_hid (hw : WF σ τ) {i n : Nat} (hi9 : i < 4) (hn : n < gN σ) : seenb σ i n (gT σ) (vl σ n) = true :=
  seenb_iff.mpr ⟨hid σ (gN σ), hid_lt hw _ (Nat.le_refl _), hw.hdn hi9, valt_hid hw hn⟩
theorem b_knowsV (h : inj8 ad) (hw : WF σ τ) (hA : RA σ τ al 0) {i n : Nat} (hi9 : i < 4) (hn : n < gN σ) : lpo (fun y : Int32 × Int32 => f_X8_knows_L32 (mk8 ad S0 al hz s1 s2 s3 s4 lw hg mt tb9 an ky rw9 lf) (ad 0) (nI i) (nI n) y.1 y.2) FU ((0 : Int32), (0 : Int32)) = some (nI (vbits σ i n (gT σ))) := by
  have hT := hw.tle
  refine lpo_det (fun t => (nI (vbits σ i n t), nI t)) (gT σ) (by omega) rfl ?_ ?_
  · intro t ht
    have hv := valt_le hw hn t
    have hh := hw.num hn
    unfold f_X8_knows_L32
    simp (disch := first | omega | assumption) only [g8_0, b_T h hA, Option.bind_some, q_le, ck8, b_isLeft h hw hA hi9 ht, ite10, b_valueIn h hw hA hn (show t < 4096 by omega), f_X8_knows_b67, nI_1]
    rw [if_neg (by omega)]
    show _ = some (Sum.inl (nI (if lef σ i t = 1 then vbits σ i n t ||| 2 ^ valt σ t n else vbits σ i n t), nI (t + 1)))
    by_cases hl : lef σ i t = 1
    · rw [if_neg (fun q => q hl), if_pos hl, or_1 (by omega)]
    · rw [if_pos hl, if_neg hl]
  · unfold f_X8_knows_L32
    simp (disch := first | omega | assumption) only [g8_0, b_T h hA, Option.bind_some, q_le]
    rw [if_pos (Nat.le_refl _)]
/-- the marks behind the first v values -/
def kmk (σ : SG) (i n v : Nat) (x y z : Int32) : Prop := z = nI (sm (sn σ i n) v) ∧ (((∀ u, u < v → ¬ seenb σ i n (gT σ) u = true) ∧ x = -1 ∧ y = -1) ∨ ∃ l g, l < v ∧ g < v ∧ x = nI l ∧ y = nI g ∧ seenb σ i n (gT σ) l = true ∧ (∀ u, u < v → seenb σ i n (gT σ) u = true → l ≤ u) ∧ seenb σ i n (gT σ) g = true ∧ (∀ u, u < v → seenb σ i n (gT σ) u = true → u ≤ g))
theorem b_knowsL (S : PH) (i n : Nat) : ∃ x y z, lpo (fun q : Int32 × Int32 × Int32 × Int32 => f_X8_knows_L85 S (nI (vbits σ i n (gT σ))) q.1 q.2.1 q.2.2.1 q.2.2.2) FU ((-1 : Int32), (-1 : Int32), (0 : Int32), (0 : Int32)) = some (x, y, z) ∧ kmk σ i n 21 x y z := by
  have key := lpo_run (b := fun q : Int32 × Int32 × Int32 × Int32 => f_X8_knows_L85 S (nI (vbits σ i n (gT σ))) q.1 q.2.1 q.2.2.1 q.2.2.2) (x := ((-1 : Int32), (-1 : Int32), (0 : Int32), (0 : Int32)))
    (fun v q => q.2.2.2 = nI v ∧ kmk σ i n v q.1 q.2.1 q.2.2.1) (fun q => kmk σ i n 21 q.1 q.2.1 q.2.2) 21 (by omega)
    ⟨rfl, rfl, Or.inl ⟨fun u hu => absurd hu (Nat.not_lt_zero u), rfl, rfl⟩⟩ (by
      rintro v ⟨x, y, z, w⟩ hv ⟨hw9, hz9, hm⟩
      have hw9 : w = nI v := hw9
      have hz9 : z = nI (sm (sn σ i n) v) := hz9
      subst hw9; subst hz9
      refine Or.inl ?_
      show ∃ x', f_X8_knows_L85 S (nI (vbits σ i n (gT σ))) x y (nI (sm (sn σ i n) v)) (nI v) = some (Sum.inl x') ∧ _
      unfold f_X8_knows_L85
      rw [if_neg (show ¬ (21 : Int32) ≤ nI v from nI_ge (a := v) (b := 21) hv (by omega))]
      have hb : bt (nI (vbits σ i n (gT σ))) v = seenb σ i n (gT σ) v := by rw [bt_n (by omega), vbits_bit]
      by_cases hs : seenb σ i n (gT σ) v = true
      · rw [if_neg (show ¬ (nI (vbits σ i n (gT σ)) >>> (nI v &&& 31) &&& 1 = 0) by rw [sh0 _ (by omega), hb, hs]; decide)]
        have e1 : sm (sn σ i n) (v + 1) = sm (sn σ i n) v + 1 := by show sm (sn σ i n) v + sn σ i n v = _; unfold sn; rw [if_pos hs]
        rcases hm with ⟨h1, h2, h3⟩ | ⟨l, g, h1, h2, h3, h4, h5, h6, h7, h8⟩
        · have h2 : x = -1 := h2
          subst h2
          rw [if_neg (by decide)]
          refine ⟨(nI v, nI v, nI (sm (sn σ i n) (v + 1)), nI (v + 1)), by simp only [f_X8_knows_b117, f_X8_knows_b126, nI_1, e1], rfl, rfl, Or.inr ⟨v, v, by omega, by omega, rfl, rfl, hs, fun u hu hq => ?_, hs, fun u hu _ => by omega⟩⟩
          by_cases e : u = v
          · omega
          · exact absurd hq (h1 u (by omega))
        · have h3 : x = nI l := h3
          subst h3
          rw [if_pos (nI_pos' (by omega))]
          refine ⟨(nI l, nI v, nI (sm (sn σ i n) (v + 1)), nI (v + 1)), by simp only [f_X8_knows_b117, f_X8_knows_b126, nI_1, e1], rfl, rfl, Or.inr ⟨l, v, by omega, by omega, rfl, rfl, h5, fun u hu hq => ?_, hs, fun u hu _ => by omega⟩⟩
          by_cases e : u = v
          · omega
          · exact h6 u (by omega) hq
      · rw [if_pos (show nI (vbits σ i n (gT σ)) >>> (nI v &&& 31) &&& 1 = 0 by rw [sh0 _ (by omega), hb]; exact ts_nt hs)]
        have e1 : sm (sn σ i n) (v + 1) = sm (sn σ i n) v := by show sm (sn σ i n) v + sn σ i n v = _; unfold sn; rw [if_neg hs]; rfl
        refine ⟨(x, y, nI (sm (sn σ i n) (v + 1)), nI (v + 1)), by simp only [f_X8_knows_b126, nI_1, e1], rfl, rfl, ?_⟩
        rcases hm with ⟨h1, h2, h3⟩ | ⟨l, g, h1, h2, h3, h4, h5, h6, h7, h8⟩
        · refine Or.inl ⟨fun u hu => ?_, h2, h3⟩
          by_cases e : u = v
          · rw [e]; exact hs
          · exact h1 u (by omega)
        · refine Or.inr ⟨l, g, by omega, by omega, h3, h4, h5, fun u hu hq => ?_, h7, fun u hu hq => ?_⟩
          · by_cases e : u = v
            · rw [e] at hq; exact absurd hq hs
            · exact h6 u (by omega) hq
          · by_cases e : u = v
            · rw [e] at hq; exact absurd hq hs
            · exact h8 u (by omega) hq) (by
      rintro ⟨x, y, z, w⟩ ⟨hw9, hm⟩
      have hw9 : w = nI 21 := hw9
      subst hw9
      refine ⟨(x, y, z), ?_, hm⟩
      show f_X8_knows_L85 S (nI (vbits σ i n (gT σ))) x y z (nI 21) = _
      unfold f_X8_knows_L85
      rw [if_pos (show (21 : Int32) ≤ nI 21 from Int32.le_refl _)])
  obtain ⟨⟨x, y, z⟩, h1, h2⟩ := key
  exact ⟨x, y, z, h1, h2⟩
theorem b_knows (h : inj8 ad) (hw : WF σ τ) (hA : RA σ τ al 0) (a n w : Int32) : ∃ r, f_X8_knows (mk8 ad S0 al hz s1 s2 s3 s4 lw hg mt tb9 an ky rw9 lf) (ad 0) a n w = some r ∧ KR σ a n w r := by
  have hN := hw.n10
  unfold f_X8_knows
  simp only [b_isAsker, Option.bind_some, ite10, ck8 h, b_isNumber h hw hA, show (3 : Int32) = nI 4 - 1 from rfl, b_rng w (show 4 < 1073741824 by omega)]
  by_cases c1 : rng a 4
  · rw [if_neg (fun q => q c1)]
    by_cases c2 : rng n (gN σ)
    · rw [if_neg (fun q => q c2)]
      by_cases c3 : rng w 4
      · rw [if_neg (fun q => q c3)]
        obtain ⟨i, hi9, rfl⟩ := (rng_iff (by omega)).mp c1
        obtain ⟨m, hm, rfl⟩ := (rng_iff (by omega)).mp c2
        obtain ⟨w9, hw9, rfl⟩ := (rng_iff (by omega)).mp c3
        rw [b_knowsV h hw hA hi9 hm]
        simp only [Option.bind_some]
        obtain ⟨x, y, z, e1, e2, e3⟩ := b_knowsL (σ := σ) (mk8 ad S0 al hz s1 s2 s3 s4 lw hg mt tb9 an ky rw9 lf) i m
        rw [e1]
        simp only [bd3]
        have hsh := seen_hid hw hi9 hm
        rcases e3 with ⟨q1, -⟩ | ⟨l, g, h1, h2, h3, h4, h5, h6, h7, h8⟩
        · have := seen_le hw hm hsh
          exact absurd hsh (q1 _ (by omega))
        · have h6' : ∀ v, seenb σ i m (gT σ) v = true → l ≤ v := fun v hv => h6 v (by have := (seen_le hw hm hv).1; omega) hv
          have h8' : ∀ v, seenb σ i m (gT σ) v = true → v ≤ g := fun v hv => h8 v (by have := (seen_le hw hm hv).1; omega) hv
          have hlg := h6' g h7
          subst h3; subst h4; subst e2
          rcases (show w9 = 0 ∨ w9 = 1 ∨ w9 = 2 ∨ w9 = 3 by omega) with rfl | rfl | rfl | rfl
          · exact ⟨_, rfl, Or.inl ⟨i, m, l, g, rfl, hi9, rfl, hm, h5, h6', h7, h8', Or.inl ⟨rfl, rfl⟩⟩⟩
          · exact ⟨_, rfl, Or.inl ⟨i, m, l, g, rfl, hi9, rfl, hm, h5, h6', h7, h8', Or.inr (Or.inl ⟨rfl, rfl⟩)⟩⟩
          · exact ⟨_, rfl, Or.inl ⟨i, m, l, g, rfl, hi9, rfl, hm, h5, h6', h7, h8', Or.inr (Or.inr (Or.inl ⟨rfl, rfl⟩))⟩⟩
          · refine ⟨_, rfl, Or.inl ⟨i, m, l, g, rfl, hi9, rfl, hm, h5, h6', h7, h8', Or.inr (Or.inr (Or.inr ⟨rfl, ?_⟩))⟩⟩
            rw [q_sub hlg, nI_1]
      · exact ⟨-1, by rw [if_pos c3], Or.inr ⟨fun q => c3 q.2.2, rfl⟩⟩
    · exact ⟨-1, by rw [if_pos c2], Or.inr ⟨fun q => c2 q.2.1, rfl⟩⟩
  · exact ⟨-1, by rw [if_pos c1], Or.inr ⟨fun q => c1 q.1, rfl⟩⟩
theorem KR_one {a n w r q : Int32} (hN : gN σ ≤ 10) (h1 : KR σ a n w r) (h2 : KR σ a n w q) : r = q := by
  have ex : ∀ i m l g : Nat, a = nI i → i < 4 → n = nI m → m < gN σ → ((w = 0 ∧ r = nI l) ∨ (w = 1 ∧ r = nI g) ∨ (w = 2 ∧ r = nI (sm (sn σ i m) 21)) ∨ (w = 3 ∧ r = nI (g - l + 1))) → rng a 4 ∧ rng n (gN σ) ∧ rng w 4 := fun i m l g e1 e2 e3 e4 e5 => by
    refine ⟨(rng_iff (by omega)).mpr ⟨i, e2, e1⟩, (rng_iff (by omega)).mpr ⟨m, e4, e3⟩, ?_⟩
    rcases e5 with e | e | e | e
    · rw [e.1]; decide
    · rw [e.1]; decide
    · rw [e.1]; decide
    · rw [e.1]; decide
  rcases h1 with ⟨i, m, l, g, e1, e2, e3, e4, e5, e6, e7, e8, e9⟩ | ⟨e1, e2⟩
  · rcases h2 with ⟨i', m', l', g', f1, f2, f3, f4, f5, f6, f7, f8, f9⟩ | ⟨f1, f2⟩
    · have ei : i = i' := (nI_eq (by omega) (by omega)).mp (e1.symm.trans f1)
      have em : m = m' := (nI_eq (by omega) (by omega)).mp (e3.symm.trans f3)
      subst ei; subst em
      have el : l = l' := Nat.le_antisymm (e6 _ f5) (f6 _ e5)
      have eg : g = g' := Nat.le_antisymm (f8 _ e7) (e8 _ f7)
      subst el; subst eg
      have d01 : ¬ (0 : Int32) = 1 := by decide
      have d02 : ¬ (0 : Int32) = 2 := by decide
      have d03 : ¬ (0 : Int32) = 3 := by decide
      have d12 : ¬ (1 : Int32) = 2 := by decide
      have d13 : ¬ (1 : Int32) = 3 := by decide
      have d23 : ¬ (2 : Int32) = 3 := by decide
      rcases e9 with ⟨z1, z2⟩ | ⟨z1, z2⟩ | ⟨z1, z2⟩ | ⟨z1, z2⟩ <;> rcases f9 with ⟨y1, y2⟩ | ⟨y1, y2⟩ | ⟨y1, y2⟩ | ⟨y1, y2⟩ <;> first | (rw [z2, y2]; done) | (subst z1; first | exact absurd y1 (by assumption) | exact absurd y1.symm (by assumption))
    · exact absurd (ex i m l g e1 e2 e3 e4 e9) f1
  · rcases h2 with ⟨i', m', l', g', f1, f2, f3, f4, f5, f6, f7, f8, f9⟩ | ⟨f1, f2⟩
    · refine absurd ?_ e1
      refine ⟨(rng_iff (by omega)).mpr ⟨i', f2, f1⟩, (rng_iff (by omega)).mpr ⟨m', f4, f3⟩, ?_⟩
      rcases f9 with e | e | e | e
      · rw [e.1]; decide
      · rw [e.1]; decide
      · rw [e.1]; decide
      · rw [e.1]; decide
    · rw [e2, f2]
end M8R
