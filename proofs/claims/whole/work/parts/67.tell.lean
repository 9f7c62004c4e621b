/-! ===== tell, asked, tables, count ===== -/
def pick (x0 x1 x2 x3 a : Nat) : Nat := if a = 0 then x0 else if a = 1 then x1 else if a = 2 then x2 else x3
theorem pick_eq {f : Nat → Nat} {a : Nat} (ha : a < 4) : pick (f 0) (f 1) (f 2) (f 3) a = f a := by
  unfold pick
  by_cases h0 : a = 0
  · rw [if_pos h0, h0]
  · rw [if_neg h0]
    by_cases h1 : a = 1
    · rw [if_pos h1, h1]
    · rw [if_neg h1]
      by_cases h2 : a = 2
      · rw [if_pos h2, h2]
      · rw [if_neg h2, show a = 3 by omega]
def idemB (x0 x1 x2 x3 : Nat) : Bool := pick x0 x1 x2 x3 x0 == x0 && pick x0 x1 x2 x3 x1 == x1 && pick x0 x1 x2 x3 x2 == x2 && pick x0 x1 x2 x3 x3 == x3
def sameB (x0 x1 x2 x3 y0 y1 y2 y3 : Nat) : Bool := (x0 == x1) == (y0 == y1) && (x0 == x2) == (y0 == y2) && (x0 == x3) == (y0 == y3) && (x1 == x2) == (y1 == y2) && (x1 == x3) == (y1 == y3) && (x2 == x3) == (y2 == y3)
def cnt4 (x0 x1 x2 x3 : Nat) : Nat := (if x0 = 0 then 1 else 0) + (if x1 = 1 then 1 else 0) + (if x2 = 2 then 1 else 0) + (if x3 = 3 then 1 else 0)
def circB (l0 l1 l2 l3 g1 g2 g3 : Nat) : Bool := !(idemB l0 l1 l2 l3) || (!(idemB 0 g1 g2 g3) || (!(sameB l0 l1 l2 l3 0 g1 g2 g3) || cnt4 l0 l1 l2 l3 == cnt4 0 g1 g2 g3))
theorem circ_dec : ∀ l, l < 256 → ∀ g, g < 24 → circB (l % 4) (l / 4 % 4) (l / 16 % 4) (l / 64) (g % 2) (g / 2 % 3) (g / 6) = true := by decide +kernel
theorem beq_iff {a b c d : Nat} (h : a = b ↔ c = d) : ((a == b) == (c == d)) = true := by
  by_cases e : a = b
  · have := h.mp e
    simp [e, this]
  · have : ¬ c = d := fun q => e (h.mpr q)
    rw [beq_eq_false_iff_ne.mpr e, beq_eq_false_iff_ne.mpr this]
    rfl
theorem circ_eq {σ : SG} {τ : TG} (hw : WF σ τ) {ld : Nat → Nat} (h1 : ∀ a, a < 4 → ld a < 4 ∧ ld (ld a) = ld a) (h2 : ∀ a c, a < 4 → c < 4 → (ld a = ld c ↔ grp σ a = grp σ c)) : sm (fun a => if ld a = a then 1 else 0) 4 = sm (circ σ) 4 := by
  have g0 := hw.gpr (show 0 < 4 by omega)
  have g1 := hw.gpr (show 1 < 4 by omega)
  have g2 := hw.gpr (show 2 < 4 by omega)
  have g3 := hw.gpr (show 3 < 4 by omega)
  have z0 : grp σ 0 = 0 := by omega
  have pg : ∀ a, a < 4 → pick 0 (grp σ 1) (grp σ 2) (grp σ 3) a = grp σ a := fun a ha => by
    have := pick_eq (f := grp σ) ha
    rw [z0] at this
    exact this
  have pl : ∀ a, a < 4 → pick (ld 0) (ld 1) (ld 2) (ld 3) a = ld a := fun a ha => pick_eq ha
  have i0 := h1 0 (by omega)
  have i1 := h1 1 (by omega)
  have i2 := h1 2 (by omega)
  have i3 := h1 3 (by omega)
  have key := circ_dec (ld 0 + 4 * ld 1 + 16 * ld 2 + 64 * ld 3) (by omega) (grp σ 1 + 2 * grp σ 2 + 6 * grp σ 3) (by omega)
  rw [show (ld 0 + 4 * ld 1 + 16 * ld 2 + 64 * ld 3) % 4 = ld 0 by omega, show (ld 0 + 4 * ld 1 + 16 * ld 2 + 64 * ld 3) / 4 % 4 = ld 1 by omega, show (ld 0 + 4 * ld 1 + 16 * ld 2 + 64 * ld 3) / 16 % 4 = ld 2 by omega, show (ld 0 + 4 * ld 1 + 16 * ld 2 + 64 * ld 3) / 64 = ld 3 by omega, show (grp σ 1 + 2 * grp σ 2 + 6 * grp σ 3) % 2 = grp σ 1 by omega, show (grp σ 1 + 2 * grp σ 2 + 6 * grp σ 3) / 2 % 3 = grp σ 2 by omega, show (grp σ 1 + 2 * grp σ 2 + 6 * grp σ 3) / 6 = grp σ 3 by omega] at key
  have a1 : idemB (ld 0) (ld 1) (ld 2) (ld 3) = true := by
    unfold idemB
    rw [pl _ i0.1, pl _ i1.1, pl _ i2.1, pl _ i3.1, i0.2, i1.2, i2.2, i3.2]
    simp
  have a2 : idemB 0 (grp σ 1) (grp σ 2) (grp σ 3) = true := by
    unfold idemB
    rw [pg 0 (by omega), pg _ (show grp σ 1 < 4 by omega), pg _ (show grp σ 2 < 4 by omega), pg _ (show grp σ 3 < 4 by omega), g1.2, g2.2, g3.2, z0]
    simp
  have a3 : sameB (ld 0) (ld 1) (ld 2) (ld 3) 0 (grp σ 1) (grp σ 2) (grp σ 3) = true := by
    have q : ∀ a c, a < 4 → c < 4 → ((ld a == ld c) == (grp σ a == grp σ c)) = true := fun a c ha hc => beq_iff (h2 a c ha hc)
    have q01 := q 0 1 (by omega) (by omega)
    have q02 := q 0 2 (by omega) (by omega)
    have q03 := q 0 3 (by omega) (by omega)
    rw [z0] at q01 q02 q03
    unfold sameB
    rw [q01, q02, q03, q 1 2 (by omega) (by omega), q 1 3 (by omega) (by omega), q 2 3 (by omega) (by omega)]
    rfl
  unfold circB at key
  rw [a1, a2, a3] at key
  have key2 : cnt4 (ld 0) (ld 1) (ld 2) (ld 3) = cnt4 0 (grp σ 1) (grp σ 2) (grp σ 3) := by simpa using key
  have e1 : sm (fun a => if ld a = a then 1 else 0) 4 = cnt4 (ld 0) (ld 1) (ld 2) (ld 3) := by
    show 0 + (if ld 0 = 0 then 1 else 0) + (if ld 1 = 1 then 1 else 0) + (if ld 2 = 2 then 1 else 0) + (if ld 3 = 3 then 1 else 0) = _
    unfold cnt4
    omega
  have e2 : sm (circ σ) 4 = cnt4 (grp σ 0) (grp σ 1) (grp σ 2) (grp σ 3) := by
    show 0 + (if grp σ 0 = 0 then 1 else 0) + (if grp σ 1 = 1 then 1 else 0) + (if grp σ 2 = 2 then 1 else 0) + (if grp σ 3 = 3 then 1 else 0) = _
    unfold cnt4
    omega
  rw [e1, e2, z0, key2]
theorem sm_rows {g : Nat → Nat → Nat} {f : Nat → Nat} (h : ∀ i k, k < 64 → g i k = f (64 * i + k)) : ∀ n, sm (fun i => sm (g i) 64) n = sm f (64 * n)
  | 0 => rfl
  | n + 1 => by
    show sm (fun i => sm (g i) 64) n + sm (g n) 64 = sm f (64 * n + 64)
    rw [sm_rows h n, sm_add, sm_congr 64 (fun k hk => h n k hk)]
section TELL
variable {ca : Nat → Nat} {S0 : PH} {C : Nat → PE} {b : Nat} {σ : SG} {τ : TG}
theorem a_g1 (hj : injC ca) (hb : b + 27 ≤ 120) (h : AC ca σ τ C b) : gI (pt ca S0 C) (ca (b + 16)) 0 1 = some (nI (gK σ)) := by
  obtain ⟨fr, rows, h1, -⟩ := h
  exact pt_gI hj h1 (by omega) rfl
theorem a_g2 (hj : injC ca) (hb : b + 27 ≤ 120) (h : AC ca σ τ C b) : gI (pt ca S0 C) (ca (b + 16)) 0 2 = some (nI (gF σ)) := by
  obtain ⟨fr, rows, h1, -⟩ := h
  exact pt_gI hj h1 (by omega) rfl
theorem a_g0 (hj : injC ca) (hb : b + 27 ≤ 120) (h : AC ca σ τ C b) : gR (pt ca S0 C) (ca (b + 16)) 0 0 = some (ca (b + 17)) := by
  obtain ⟨fr, rows, h1, -⟩ := h
  exact pt_gR hj h1 (by omega) rfl
theorem a_r (hj : injC ca) (hb : b + 27 ≤ 120) (h : AC ca σ τ C b) {j : Nat} (hj5 : j < 5) : ldR 1 (pt ca S0 C) (ca (b + 17)) (nI j) = some (ca (b + 18 + j)) := by
  obtain ⟨fr, rows, h1, h2, h3⟩ := h
  exact pt_ldR hj h2 (by omega) hj5 (by omega) (h3 j hj5).1
theorem a_v (hj : injC ca) (hb : b + 27 ≤ 120) (hw : WF σ τ) (h : AC ca σ τ C b) {j k : Nat} (hj5 : j < 5) (hk : k < gK σ) : ldI (pt ca S0 C) (ca (b + 18 + j)) (nI k) = some (τ j k) := by
  obtain ⟨fr, rows, h1, h2, h3⟩ := h
  have := hw.k200
  obtain ⟨-, c2, c3⟩ := h3 j hj5
  rw [pt_ldI hj c2 (by omega) (by omega) (by omega), c3 k hk]
theorem w_g3 (hj : injC ca) (hb : b + 27 ≤ 120) (h : WC ca σ τ C b) : gI (pt ca S0 C) (ca (b + 23)) 6 3 = some (nI (gW σ)) := by
  obtain ⟨ki, se, ex, h1, -⟩ := h
  exact pt_gI hj h1 (by omega) rfl
theorem d_tell (hj : injC ca) (hb : b + 27 ≤ 120) (hw : WF σ τ) (h : SC ca σ τ C b) (ht : TOP ca C b) (k w : Int32) : f_X7_tell (pt ca S0 C) (ca 0) k w = some (sTell σ k w) := by
  have h8 := hw.p8
  have h10 := hw.n10
  unfold f_X7_tell
  simp only [pt_gR hj ht.1 (by omega : 0 < 120) (k := 0) rfl, pt_gR hj h.1 (by omega : b < 120) (k := 0) rfl, n_g7 hj hb h.2.1, n_g8 hj hb h.2.1, Option.bind_some, Option.bind_none, bd2, bd3, bd4, nm]
  unfold sTell f_X7_tell_b23
  by_cases w0 : w = 0
  · subst w0
    rw [if_pos rfl, if_pos rfl]
    by_cases c : rng k (gP σ)
    · obtain ⟨p, hp, rfl⟩ := (rng_iff (by omega)).mp c
      rw [if_neg (Int32.not_lt.mpr c.1), if_pos c.2, if_pos rfl, if_pos c, nI_clamp (by omega)]
      simp only [n_g0 hj hb h.2.1, n_cu hj hb hw h.2.1 hp, Option.bind_some, Option.bind_none, bd2, bd3, bd4, nm]
    · rw [if_neg c]
      by_cases c1 : k < 0
      · rw [if_pos c1]; rfl
      · rw [if_neg c1, if_neg (fun q => c ⟨Int32.not_lt.mp c1, q⟩)]; rfl
  · rw [if_neg w0, if_neg w0]
    by_cases c : rng k (gN σ)
    · obtain ⟨n, hn, rfl⟩ := (rng_iff (by omega)).mp c
      rw [if_neg (Int32.not_lt.mpr c.1), if_pos c.2, if_neg w0, if_pos c, nI_clamp (by omega)]
      simp only [n_g1 hj hb h.2.1, n_ow hj hb hw h.2.1 hn, n_g2 hj hb h.2.1, n_le hj hb hw h.2.1 hn, n_g3 hj hb h.2.1, n_gr hj hb hw h.2.1 hn, n_g4 hj hb h.2.1, n_ne hj hb hw h.2.1 hn, n_ck hj hb h.2.1, d_isCurrent hj hb hw h.2.1 hn, n_g5 hj hb h.2.1, n_va hj hb hw h.2.1 hn, ite10, Option.bind_some, Option.bind_none, bd2, bd3, bd4, nm]
      by_cases w1 : w = 1
      · rw [if_pos w1, if_pos w1]
      · rw [if_neg w1, if_neg w1]
        by_cases w2 : w = 2
        · rw [if_pos w2, if_pos w2]
        · rw [if_neg w2, if_neg w2]
          by_cases w3 : w = 3
          · rw [if_pos w3, if_pos w3]
          · rw [if_neg w3, if_neg w3]
            by_cases w4 : w = 4
            · rw [if_pos w4, if_pos w4]
            · rw [if_neg w4, if_neg w4]
              by_cases w5 : w = 5
              · rw [if_pos w5, if_pos w5]
                by_cases q : cur σ (own σ n) = n
                · rw [if_neg (fun c => c q), if_pos q]
                · rw [if_pos q, if_neg q]
              · rw [if_neg w5, if_neg w5]
                by_cases w6 : w = 6
                · rw [if_pos w6, if_pos w6]
                · rw [if_neg w6, if_neg w6]
    · rw [if_neg c]
      by_cases c1 : k < 0
      · rw [if_pos c1, if_neg w0]
      · rw [if_neg c1, if_neg (fun q => c ⟨Int32.not_lt.mp c1, q⟩), if_neg w0]
theorem d_asked (hj : injC ca) (hb : b + 27 ≤ 120) (hw : WF σ τ) (h : SC ca σ τ C b) (ht : TOP ca C b) (k w : Int32) : f_X7_asked (pt ca S0 C) (ca 0) k w = some (sAsked σ τ k w) := by
  have h200 := hw.k200
  unfold f_X7_asked sAsked
  simp only [pt_gR hj ht.1 (by omega : 0 < 120) (k := 0) rfl, pt_gR hj h.1 (by omega : b < 120) (k := 2) rfl, a_g1 hj hb h.2.2.2.1, a_g0 hj hb h.2.2.2.1, Option.bind_some, Option.bind_none, bd2, bd3, bd4, nm]
  by_cases c : rng k (gK σ)
  · obtain ⟨n, hn, rfl⟩ := (rng_iff (by omega)).mp c
    rw [if_neg (Int32.not_lt.mpr c.1), if_neg (Int32.not_le.mpr c.2)]
    by_cases c2 : rng w 5
    · obtain ⟨j, hj5, rfl⟩ := (rng_iff (by omega)).mp c2
      rw [if_neg (Int32.not_lt.mpr c2.1), if_pos (show nI j < (5 : Int32) from c2.2), if_pos ⟨c, c2⟩, nI_clamp (by omega), nI_clamp (by omega)]
      simp only [a_r hj hb h.2.2.2.1 hj5, a_v hj hb hw h.2.2.2.1 hj5 hn, Option.bind_some, Option.bind_none, bd2, bd3, bd4, nm]
    · rw [if_neg (show ¬ (rng (nI n) (gK σ) ∧ rng w 5) from fun q => c2 q.2)]
      by_cases c1 : w < 0
      · rw [if_pos c1]
      · rw [if_neg c1, if_neg (show ¬ w < (5 : Int32) from fun q => c2 ⟨Int32.not_lt.mp c1, q⟩)]
  · rw [if_neg (show ¬ (rng k (gK σ) ∧ rng w 5) from fun q => c q.1)]
    by_cases c1 : k < 0
    · rw [if_pos c1]
    · rw [if_neg c1, if_pos (Int32.not_lt.mp (fun q => c ⟨Int32.not_lt.mp c1, q⟩))]
theorem d_tables (hj : injC ca) (hb : b + 27 ≤ 120) (hw : WF σ τ) (h : SC ca σ τ C b) (ht : TOP ca C b) (a : Int32) : f_X7_tables (pt ca S0 C) (ca 0) a = some (sTab σ a) := by
  have hT := hw.tle
  unfold f_X7_tables sTab
  rw [d_isAsker]
  simp only [ite10, Option.bind_some, Option.bind_none, bd2, bd3, bd4, nm]
  by_cases c : rng a 4
  · obtain ⟨i, hi9, rfl⟩ := (rng_iff (by omega)).mp c
    rw [if_neg (fun q => q c), if_pos c, nI_clamp (by omega)]
    obtain ⟨r, f, el, hr1, hr2, hr3, hf⟩ := k_left (S0 := S0) hj hb h.2.2.1 hi9
    simp only [pt_gR hj ht.1 (by omega : 0 < 120) (k := 0) rfl, pt_gR hj h.1 (by omega : b < 120) (k := 1) rfl, k_ck hj hb h.2.2.1, Option.bind_some, Option.bind_none, bd2, bd3, bd4, nm]
    unfold f_X1_tablesLeft
    simp only [k_ck hj hb h.2.2.1, el, Option.bind_some, Option.bind_none, bd2, bd3, bd4, nm]
    have hv : ∀ i, ∃ v, v < 2 ^ 64 ∧ f i = lN v := fun i => wb_of (f i)
    have key : lpo (fun x : Int32 × Int32 => f_X1_tablesLeft_L11 (pt ca S0 C) (ca r) x.1 x.2) FU ((0 : Int32), (0 : Int32)) = some (nI (sm (fun i => sm (tbN (f i).toBitVec.toNat) 64) 64)) := by
      refine lpo_det (fun n => (nI (sm (fun i => sm (tbN (f i).toBitVec.toNat) 64) n), nI n)) 64 (by omega) rfl ?_ ?_
      · intro n hn
        obtain ⟨v, hv1, hv2⟩ := hv n
        have hvn : (f n).toBitVec.toNat = v := by rw [hv2, wb_tn hv1]
        show f_X1_tablesLeft_L11 (pt ca S0 C) (ca r) (nI (sm _ n)) (nI n) = some (.inl (nI (sm (fun i => sm (tbN (f i).toBitVec.toNat) 64) n + sm (tbN (f n).toBitVec.toNat) 64), nI (n + 1)))
        unfold f_X1_tablesLeft_L11
        rw [if_neg (show ¬ (64 : Int32) ≤ nI n from fun q => by
          have := (nI_leI (a := 64) (by omega) (by omega)).mp q
          omega), hvn]
        simp only [pt_ldJ hj hr1 (by omega : r < 120) hn (by omega), hv2, b_count64 hv1, nI_add, nI_1, Option.bind_some, Option.bind_none, bd2, bd3, bd4, nm]
      · show f_X1_tablesLeft_L11 (pt ca S0 C) (ca r) (nI (sm _ 64)) (nI 64) = _
        unfold f_X1_tablesLeft_L11
        rw [if_pos (show (64 : Int32) ≤ nI 64 from by decide)]
    rw [key]
    simp only [Option.bind_some, Option.bind_none, bd2, bd3, bd4, nm]
    have e1 : sm (fun i => sm (tbN (f i).toBitVec.toNat) 64) 64 = sm (fun t => if bw f t = true then 1 else 0) (64 * 64) := sm_rows (fun i k hk => by
      show (if (f i).toBitVec.toNat.testBit k = true then 1 else 0) = (if (f ((64 * i + k) / 64)).toBitVec.getLsbD ((64 * i + k) % 64) = true then 1 else 0)
      rw [show (64 * i + k) / 64 = i by omega, show (64 * i + k) % 64 = k by omega]
      rfl) 64
    have e2 : sm (fun t => if bw f t = true then 1 else 0) (gT σ + (4096 - gT σ)) = sm (fun t => if bw f t = true then 1 else 0) (gT σ) + sm (fun u => (fun t => if bw f t = true then 1 else 0) (gT σ + u)) (4096 - gT σ) := sm_add _
    rw [show gT σ + (4096 - gT σ) = 64 * 64 by omega] at e2
    have e3 : sm (fun u => (fun t => if bw f t = true then 1 else 0) (gT σ + u)) (4096 - gT σ) = 0 := sm_zero _ (fun u hu => by
      show (if bw f (gT σ + u) = true then 1 else 0) = 0
      rw [hf _ (by omega), if_neg]
      rw [decide_eq_true_iff]
      omega)
    have e4 : sm (fun t => if bw f t = true then 1 else 0) (gT σ) = sm (lef σ i) (gT σ) := sm_congr _ (fun t ht => by
      have h1 := hw.bit hi9 ht
      have ht' : t < gT σ := ht
      rw [hf t (by omega)]
      by_cases q : lef σ i t = 1
      · rw [if_pos (decide_eq_true ⟨ht', q⟩), q]
      · rw [if_neg (fun c => q (of_decide_eq_true c).2)]
        omega)
    rw [e1, e2, e3, e4, Nat.add_zero]
  · rw [if_pos c, if_neg c]
theorem d_count (hj : injC ca) (hb : b + 27 ≤ 120) (hw : WF σ τ) (h : SC ca σ τ C b) (ht : TOP ca C b) (w : Int32) : f_X7_count (pt ca S0 C) (ca 0) w = some (sCount σ w) := by
  have hcirc : f_X1_circles (pt ca S0 C) (ca (b + 9)) = some (nI (sm (circ σ) 4)) := by
    obtain ⟨ld, lr, fr, rows, h1, h2, h3, h4, h5⟩ := h.2.2.1
    rw [← circ_eq hw (ld := ld) (fun a ha => ⟨(h4 a ha).2.2.2.1, (h4 a ha).2.2.2.2.1⟩) h5]
    unfold f_X1_circles
    have key : lpo (fun x : Int32 × Int32 => f_X1_circles_L4 (pt ca S0 C) (ca (b + 9)) x.1 x.2) FU ((0 : Int32), (0 : Int32)) = some (nI (sm (fun a => if ld a = a then 1 else 0) 4)) := by
      refine lpo_det (fun n => (nI (sm (fun a => if ld a = a then 1 else 0) n), nI n)) 4 (by omega) rfl ?_ ?_
      · intro n hn
        obtain ⟨-, -, c3, c4, -⟩ := h4 n hn
        show f_X1_circles_L4 (pt ca S0 C) (ca (b + 9)) (nI (sm _ n)) (nI n) = some (.inl (nI (sm (fun a => if ld a = a then 1 else 0) n + (if ld n = n then 1 else 0)), nI (n + 1)))
        unfold f_X1_circles_L4
        rw [if_neg (show ¬ (4 : Int32) ≤ nI n from fun q => by
          have := (nI_leI (a := 4) (by omega) (by omega)).mp q
          omega)]
        simp only [pt_gR hj h1 (by omega : b + 9 < 120) (k := 0) rfl, pt_ldI hj h2 (by omega : b + 10 < 120) hn (by omega), c3, f_X1_circles_b22, nI_1, Option.bind_some, Option.bind_none, bd2, bd3, bd4, nm]
        by_cases q : ld n = n
        · rw [if_pos (congrArg nI q), if_pos q]
        · rw [if_neg (fun c => q ((nI_eq (by omega) (by omega)).mp c)), if_neg q]
          rfl
      · show f_X1_circles_L4 (pt ca S0 C) (ca (b + 9)) (nI (sm _ 4)) (nI 4) = _
        unfold f_X1_circles_L4
        rw [if_pos (show (4 : Int32) ≤ nI 4 from by decide)]
    rw [key]
    rfl
  unfold f_X7_count sCount
  simp only [pt_gR hj ht.1 (by omega : 0 < 120) (k := 0) rfl, pt_gR hj h.1 (by omega : b < 120) (k := 0) rfl, pt_gR hj h.1 (by omega : b < 120) (k := 1) rfl, pt_gR hj h.1 (by omega : b < 120) (k := 2) rfl, pt_gR hj h.1 (by omega : b < 120) (k := 3) rfl, n_g7 hj hb h.2.1, n_g8 hj hb h.2.1, n_g9 hj hb h.2.1, a_g1 hj hb h.2.2.2.1, a_g2 hj hb h.2.2.2.1, w_g3 hj hb h.2.2.2.2, k_ck hj hb h.2.2.1, hcirc, Option.bind_some, Option.bind_none, bd2, bd3, bd4, nm]
  by_cases w0 : w = 0
  · rw [if_pos w0, if_pos w0]
  · rw [if_neg w0, if_neg w0]
    by_cases w1 : w = 1
    · rw [if_pos w1, if_pos w1]
    · rw [if_neg w1, if_neg w1]
      by_cases w2 : w = 2
      · rw [if_pos w2, if_pos w2]
      · rw [if_neg w2, if_neg w2]
        by_cases w3 : w = 3
        · rw [if_pos w3, if_pos w3]
        · rw [if_neg w3, if_neg w3]
          by_cases w4 : w = 4
          · rw [if_pos w4, if_pos w4]
          · rw [if_neg w4, if_neg w4]
            by_cases w5 : w = 5
            · rw [if_pos w5, if_pos w5]
            · rw [if_neg w5, if_neg w5]
              by_cases w6 : w = 6
              · rw [if_pos w6, if_pos w6]
              · rw [if_neg w6, if_neg w6]
end TELL
