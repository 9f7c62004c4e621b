/-! ===== the class's sort, and whether a set of wishes is granted ===== -/
theorem xm (x y m : Int64) : (x ^^^ y) &&& m = 0 ↔ x &&& m = y &&& m := by
  constructor
  · intro h
    refine wb_inj (BitVec.eq_of_getLsbD_eq (fun i hi => ?_))
    have h1 := congrArg (fun z : Int64 => z.toBitVec.getLsbD i) h
    simp only [Int64.toBitVec_and, Int64.toBitVec_xor, BitVec.getLsbD_and, BitVec.getLsbD_xor, show (0 : Int64).toBitVec = 0#64 from rfl, BitVec.getLsbD_zero] at h1
    rw [Int64.toBitVec_and, Int64.toBitVec_and, BitVec.getLsbD_and, BitVec.getLsbD_and]
    revert h1
    cases x.toBitVec.getLsbD i <;> cases y.toBitVec.getLsbD i <;> cases m.toBitVec.getLsbD i <;> decide
  · intro h
    refine wb_inj (BitVec.eq_of_getLsbD_eq (fun i hi => ?_))
    have h1 := congrArg (fun z : Int64 => z.toBitVec.getLsbD i) h
    simp only [Int64.toBitVec_and, BitVec.getLsbD_and] at h1
    rw [Int64.toBitVec_and, Int64.toBitVec_xor, BitVec.getLsbD_and, BitVec.getLsbD_xor, show (0 : Int64).toBitVec = 0#64 from rfl, BitVec.getLsbD_zero]
    revert h1
    cases x.toBitVec.getLsbD i <;> cases y.toBitVec.getLsbD i <;> cases m.toBitVec.getLsbD i <;> decide
section GRANT
variable {ca : Nat → Nat} {S0 : PH} {C : Nat → PE} {b i m : Nat} {ord : Nat → Nat} {p q W : Nat} {σ : SG} {τ : TG}
theorem d_sortBy (hj : injC ca) (hw : WF σ τ) (h : SO ca σ τ C b i m ord p q W) (hW : W ≤ 8) {w : Nat} (hwW : w < W) : ∃ D ord', f_X4_sortBy (pt ca S0 C) (ca 7) (nI w) = some (pt ca S0 D) ∧ SO ca σ τ D b i m ord' q p W ∧ (∀ k, k < 7 ∨ k = 8 ∨ 12 ≤ k → D k = C k) ∧ ∀ x y, x ≤ y → y < m → ∃ j k, j < m ∧ k < m ∧ ord' x = ord j ∧ ord' y = ord k ∧ wans σ τ w (ord j) ≤ wans σ τ w (ord k) ∧ (wans σ τ w (ord j) = wans σ τ w (ord k) → j ≤ k) := by
  have hT := hw.tle
  obtain ⟨s1, s2, s3, ⟨rows, s4, s4r⟩, ⟨f, s5, s5f⟩, ⟨fq, s6⟩, ⟨st, s7⟩, s8, s9, s10⟩ := h
  have hp12 : 9 ≤ p ∧ p ≤ 10 ∧ 9 ≤ q ∧ q ≤ 10 ∧ p ≠ q := by omega
  obtain ⟨a, ha⟩ : ∃ a : Nat → Nat, ∀ j, a j = wans σ τ w (ord j) := ⟨_, fun _ => rfl⟩
  have ha64 : ∀ j, j < m → a j < 64 := fun j _ => by
    have := wans_le hw w (ord j)
    rw [ha]
    omega
  have hcm : ∀ c n, cnt a c n ≤ n := fun c n => by
    induction n with
    | zero => exact Nat.le_refl _
    | succ n ih => rw [cnt_1]; split <;> omega
  have hbm : ∀ c, c ≤ 64 → bas a m c ≤ m := fun c hc => by
    have := bas_mono (a := a) (m := m) hc
    rw [bas_all m ha64] at this
    exact this
  -- an answer read
  have hat : ∀ D : Nat → PE, D 7 = o4 ca b p q (nI m) → D 8 = eJ 4096 rows → ∀ n, n < m → f_X4_answerTo (pt ca S0 D) (ca 7) (nI w) (nI (ord n)) = some (nI (a n)) := fun D d7 d8 n hn => by
    obtain ⟨z1, z2⟩ := s9 n hn
    rw [ha]
    exact d_answerTo hj hw d7 d8 (s4r _ z1 z2) hwW hW (by omega)
  obtain ⟨g0, e0, hg0⟩ := d_fillI (S0 := S0) hj (by omega : 11 < 120) (by omega) s7 (0 : Int32)
  -- counts
  have k10 := lpo_run (b := fun x : Int32 × PH => f_X4_sortBy_L10 x.2 (ca 7) (nI w) x.1)
    (fun n y => ∃ g, y = (nI n, pt ca S0 (va_up C 11 (eI 65 g))) ∧ g 0 = nI 0 ∧ ∀ c, c < 64 → g (c + 1) = nI (cnt a c n))
    (fun y => ∃ g, y = pt ca S0 (va_up C 11 (eI 65 g)) ∧ g 0 = nI 0 ∧ ∀ c, c < 64 → g (c + 1) = nI (cnt a c m)) m (by omega) (x := ((0 : Int32), pt ca S0 (va_up C 11 (eI 65 g0))))
    ⟨g0, rfl, hg0 0 (by omega), fun c hc => hg0 (c + 1) (by omega)⟩ (by
      rintro n y hn ⟨g, rfl, hg1, hg2⟩
      have d7 : va_up C 11 (eI 65 g) 7 = _ := (va_up_ne _ _ (by omega)).trans s3
      have d8 : va_up C 11 (eI 65 g) 8 = _ := (va_up_ne _ _ (by omega)).trans s4
      have dp : va_up C 11 (eI 65 g) p = _ := (va_up_ne _ _ (by omega)).trans s5
      have d11 : va_up C 11 (eI 65 g) 11 = eI 65 g := va_up_self _ _ _
      have hA := ha64 n hn
      left
      show ∃ x', f_X4_sortBy_L10 (pt ca S0 (va_up C 11 (eI 65 g))) (ca 7) (nI w) (nI n) = _ ∧ _
      unfold f_X4_sortBy_L10
      simp only [pt_gI hj d7 (by omega : 7 < 120) (k := 6) rfl, pt_gR hj d7 (by omega : 7 < 120) (k := 3) rfl, pt_gR hj d7 (by omega : 7 < 120) (k := 1) rfl, pt_ldI hj dp (by omega : p < 120) (show n < 4096 by omega) (by omega), s5f n hn, pt_ck hj d7 (by omega : 7 < 120), hat _ d7 d8 n hn, nI_1, pt_ldI hj d11 (by omega : 11 < 120) (show a n + 1 < 65 by omega) (by omega), pt_stI hj d11 (by omega : 11 < 120) (show a n + 1 < 65 by omega) (by omega), va_up_up, hg2 (a n) hA, Option.bind_some, Option.bind_none, bd2, bd3, bd4, nm]
      rw [if_neg (by rw [q_le (by omega) (by omega)]; omega)]
      refine ⟨_, rfl, _, rfl, (pk_un (by omega)).trans hg1, fun c hc => ?_⟩
      rw [cnt_1]
      by_cases e : a n = c
      · subst e
        rw [if_pos rfl, pk_us]
      · rw [if_neg e, pk_un (by omega)]
        exact hg2 c hc) (by
      rintro y ⟨g, rfl, hg1, hg2⟩
      have d7 : va_up C 11 (eI 65 g) 7 = _ := (va_up_ne _ _ (by omega)).trans s3
      refine ⟨_, ?_, g, rfl, hg1, hg2⟩
      show f_X4_sortBy_L10 (pt ca S0 (va_up C 11 (eI 65 g))) (ca 7) (nI w) (nI m) = _
      unfold f_X4_sortBy_L10
      simp only [pt_gI hj d7 (by omega : 7 < 120) (k := 6) rfl, Option.bind_some, Option.bind_none, bd2, bd3, bd4, nm]
      rw [if_pos (by rw [q_le (by omega) (by omega)]; omega)])
  obtain ⟨S10, e10, g1, rfl, hg1a, hg1b⟩ := k10
  -- starts
  have k48 := lpo_run (b := fun x : Int32 × PH => f_X4_sortBy_L48 x.2 (ca 7) x.1)
    (fun n y => ∃ g, y = (nI (n + 1), pt ca S0 (va_up C 11 (eI 65 g))) ∧ (∀ c, c ≤ n → g c = nI (bas a m c)) ∧ ∀ c, n ≤ c → c < 64 → g (c + 1) = nI (cnt a c m))
    (fun y => ∃ g, y = pt ca S0 (va_up C 11 (eI 65 g)) ∧ ∀ c, c ≤ 64 → g c = nI (bas a m c)) 64 (by omega) (x := ((1 : Int32), pt ca S0 (va_up C 11 (eI 65 g1))))
    ⟨g1, rfl, fun c hc => by
      have : c = 0 := by omega
      subst this
      exact hg1a, fun c _ hc => hg1b c hc⟩ (by
      rintro n y hn ⟨g, rfl, hga, hgb⟩
      have d7 : va_up C 11 (eI 65 g) 7 = _ := (va_up_ne _ _ (by omega)).trans s3
      have d11 : va_up C 11 (eI 65 g) 11 = eI 65 g := va_up_self _ _ _
      left
      show ∃ x', f_X4_sortBy_L48 (pt ca S0 (va_up C 11 (eI 65 g))) (ca 7) (nI (n + 1)) = _ ∧ _
      unfold f_X4_sortBy_L48
      rw [if_neg (show ¬ (64 : Int32) < nI (n + 1) from nI_nlt (a := 64) (by omega) (by omega)), sub1 (by omega), Nat.add_sub_cancel]
      simp only [pt_gR hj d7 (by omega : 7 < 120) (k := 3) rfl, pt_ldI hj d11 (by omega : 11 < 120) (show n + 1 < 65 by omega) (by omega), pt_ldI hj d11 (by omega : 11 < 120) (show n < 65 by omega) (by omega), pt_stI hj d11 (by omega : 11 < 120) (show n + 1 < 65 by omega) (by omega), va_up_up, hgb n (Nat.le_refl n) hn, hga n (Nat.le_refl n), nI_add, nI_1, Option.bind_some, Option.bind_none, bd2, bd3, bd4, nm]
      refine ⟨_, rfl, _, rfl, fun c hc => ?_, fun c h1 h2 => ?_⟩
      · by_cases e : c = n + 1
        · subst e
          rw [pk_us, bas_1, Nat.add_comm]
        · rw [pk_un e]
          exact hga c (by omega)
      · rw [pk_un (by omega)]
        exact hgb c (by omega) h2) (by
      rintro y ⟨g, rfl, hga, hgb⟩
      refine ⟨_, ?_, g, rfl, hga⟩
      show f_X4_sortBy_L48 (pt ca S0 (va_up C 11 (eI 65 g))) (ca 7) (nI (64 + 1)) = _
      unfold f_X4_sortBy_L48
      rw [if_pos (show (64 : Int32) < nI (64 + 1) from by decide)])
  obtain ⟨S48, e48, g2, rfl, hg2⟩ := k48
  -- places
  have k79 := lpo_run (b := fun x : Int32 × PH => f_X4_sortBy_L79 x.2 (ca 7) (nI w) x.1)
    (fun n y => ∃ (D : Nat → PE) (g sp : Nat → Int32), y = (nI n, pt ca S0 D) ∧ (∀ k, k ≠ 11 → k ≠ q → D k = C k) ∧ D 11 = eI 65 g ∧ D q = eI 4096 sp ∧ (∀ c, c < 64 → g c = nI (bas a m c + cnt a c n)) ∧ ∀ j, j < n → sp (pos a m j) = nI (ord j))
    (fun y => ∃ (D : Nat → PE) (g sp : Nat → Int32), y = pt ca S0 D ∧ (∀ k, k ≠ 11 → k ≠ q → D k = C k) ∧ D 11 = eI 65 g ∧ D q = eI 4096 sp ∧ ∀ j, j < m → sp (pos a m j) = nI (ord j)) m (by omega) (x := ((0 : Int32), pt ca S0 (va_up C 11 (eI 65 g2))))
    ⟨_, g2, fq, rfl, fun k h1 _ => va_up_ne _ _ h1, va_up_self _ _ _, (va_up_ne _ _ (by omega)).trans s6, fun c hc => hg2 c (by omega), fun j hj => absurd hj (Nat.not_lt_zero j)⟩ (by
      rintro n y hn ⟨D, g, sp, rfl, hD, hD11, hDq, hg, hsp⟩
      have d7 : D 7 = _ := (hD 7 (by omega) (by omega)).trans s3
      have d8 : D 8 = _ := (hD 8 (by omega) (by omega)).trans s4
      have dp : D p = _ := (hD p (by omega) (by omega)).trans s5
      have hA := ha64 n hn
      have hposn : bas a m (a n) + cnt a (a n) n = pos a m n := rfl
      have hpl := pos_lt ha64 hn
      have x7 : va_up D q (eI 4096 (upd sp (pos a m n) (nI (ord n)))) 7 = _ := (va_up_ne _ _ (by omega)).trans d7
      have x11 : va_up D q (eI 4096 (upd sp (pos a m n) (nI (ord n)))) 11 = _ := (va_up_ne _ _ (by omega)).trans hD11
      left
      show ∃ x', f_X4_sortBy_L79 (pt ca S0 D) (ca 7) (nI w) (nI n) = _ ∧ _
      unfold f_X4_sortBy_L79
      simp only [pt_gI hj d7 (by omega : 7 < 120) (k := 6) rfl, pt_gR hj d7 (by omega : 7 < 120) (k := 3) rfl, pt_gR hj d7 (by omega : 7 < 120) (k := 1) rfl, pt_gR hj d7 (by omega : 7 < 120) (k := 2) rfl, pt_ldI hj dp (by omega : p < 120) (show n < 4096 by omega) (by omega), s5f n hn, pt_ck hj d7 (by omega : 7 < 120), hat _ d7 d8 n hn, pt_ldI hj hD11 (by omega : 11 < 120) (show a n < 65 by omega) (by omega), hg (a n) hA, hposn, pt_stI hj hDq (by omega : q < 120) (show pos a m n < 4096 by omega) (by omega), Option.bind_some, Option.bind_none, bd2, bd3, bd4, nm]
      rw [if_neg (by rw [q_le (by omega) (by omega)]; omega)]
      simp only [pt_gR hj x7 (by omega : 7 < 120) (k := 3) rfl, pt_ldI hj x11 (by omega : 11 < 120) (show a n < 65 by omega) (by omega), hg (a n) hA, pt_stI hj x11 (by omega : 11 < 120) (show a n < 65 by omega) (by omega), nI_1, Option.bind_some, Option.bind_none, bd2, bd3, bd4, nm]
      refine ⟨_, rfl, _, upd g (a n) (nI (bas a m (a n) + cnt a (a n) n + 1)), upd sp (pos a m n) (nI (ord n)), rfl, fun k h1 h2 => ?_, va_up_self _ _ _, ?_, fun c hc => ?_, fun j hj9 => ?_⟩
      · rw [va_up_ne _ _ h1, va_up_ne _ _ h2]
        exact hD k h1 h2
      · rw [va_up_ne _ _ (by omega), va_up_self]
      · rw [cnt_1]
        by_cases e : a n = c
        · subst e
          rw [if_pos rfl, pk_us]
          rfl
        · rw [if_neg e, pk_un (fun x => e x.symm)]
          exact hg c hc
      · by_cases e : j = n
        · subst e
          rw [pk_us]
        · rw [pk_un (pos_ne (by omega) hn e)]
          exact hsp j (by omega)) (by
      rintro y ⟨D, g, sp, rfl, hD, hD11, hDq, hg, hsp⟩
      have d7 : D 7 = _ := (hD 7 (by omega) (by omega)).trans s3
      refine ⟨_, ?_, D, g, sp, rfl, hD, hD11, hDq, hsp⟩
      show f_X4_sortBy_L79 (pt ca S0 D) (ca 7) (nI w) (nI m) = _
      unfold f_X4_sortBy_L79
      simp only [pt_gI hj d7 (by omega : 7 < 120) (k := 6) rfl, Option.bind_some, Option.bind_none, bd2, bd3, bd4, nm]
      rw [if_pos (by rw [q_le (by omega) (by omega)]; omega)])
  obtain ⟨S79, e79, D, g3, sp, rfl, hD, hD11, hDq, hsp⟩ := k79
  have d7 : D 7 = _ := (hD 7 (by omega) (by omega)).trans s3
  unfold f_X4_sortBy
  simp only [pt_gR hj s3 (by omega : 7 < 120) (k := 3) rfl, e0, e10, e48, e79, pt_gR hj d7 (by omega : 7 < 120) (k := 2) rfl, pt_gR hj d7 (by omega : 7 < 120) (k := 1) rfl, pt_pR hj d7 (by omega : 7 < 120) (show 2 < 7 by omega), List.set_cons_succ, List.set_cons_zero, Option.bind_some, Option.bind_none, bd2, bd3, bd4, nm]
  have x7 : va_up D 7 (eO 4 [.ref (ca 8), .ref (ca p), .ref (ca p), .ref (ca 11), .ref (ca (b + 1)), .ref (ca 4), .int (nI m)]) 7 = eO 4 [.ref (ca 8), .ref (ca p), .ref (ca p), .ref (ca 11), .ref (ca (b + 1)), .ref (ca 4), .int (nI m)] := va_up_self _ _ _
  simp only [pt_pR hj x7 (by omega : 7 < 120) (show 1 < 7 by omega), va_up_up, List.set_cons_succ, List.set_cons_zero, Option.bind_some, Option.bind_none, bd2, bd3, bd4, nm]
  have hon : ∀ x, x < m → ∃ j, j < m ∧ pos a m j = x ∧ (sp x).toNatClampNeg = ord j ∧ sp x = nI (ord j) := fun x hx => by
    obtain ⟨j, j1, j2⟩ := pos_on ha64 hx
    have h1 := hsp j j1
    rw [j2] at h1
    have := (s9 j j1).1
    exact ⟨j, j1, j2, by rw [h1, nI_clamp (by omega)], h1⟩
  refine ⟨_, fun x => (sp x).toNatClampNeg, rfl, ⟨by omega, s2, va_up_self _ _ _, ⟨rows, ?_, s4r⟩, ⟨sp, ?_, fun k hk => ?_⟩, ⟨f, ?_⟩, ⟨g3, ?_⟩, ?_, fun k hk => ?_, fun u h1 h2 => ?_⟩, fun k hk => ?_, fun x y hxy hy => ?_⟩
  · rw [va_up_ne _ _ (by omega), hD _ (by omega) (by omega)]; exact s4
  · rw [va_up_ne _ _ (by omega)]; exact hDq
  · obtain ⟨j, j1, j2, j3, j4⟩ := hon k hk
    show sp k = nI (sp k).toNatClampNeg
    rw [j3, j4]
  · rw [va_up_ne _ _ (by omega), hD _ (by omega) (by omega)]; exact s5
  · rw [va_up_ne _ _ (by omega)]; exact hD11
  · rw [va_up_ne _ _ (by omega), hD _ (by omega) (by omega)]; exact s8
  · obtain ⟨j, j1, j2, j3, j4⟩ := hon k hk
    show (sp k).toNatClampNeg < gT σ ∧ lef σ i (sp k).toNatClampNeg = 1
    rw [j3]
    exact s9 j j1
  · obtain ⟨j, j1, j2⟩ := s10 u h1 h2
    refine ⟨pos a m j, pos_lt ha64 j1, ?_⟩
    show (sp (pos a m j)).toNatClampNeg = u
    rw [hsp j j1, nI_clamp (by omega), j2]
  · rw [va_up_ne _ _ (by omega), hD _ (by omega) (by omega)]
  · obtain ⟨j, j1, j2, j3, j4⟩ := hon x (by omega)
    obtain ⟨k, k1, k2, k3, k4⟩ := hon y hy
    obtain ⟨l1, l2⟩ := pos_le (a := a) (j := j) k1 (by omega)
    rw [ha, ha] at l1 l2
    exact ⟨j, k, j1, k1, j3, k3, l1, l2⟩
theorem d_answerBits (s : Nat) : f_X4_answerBitsOf (nI s) = some (lN (mkw s 8)) := by
  unfold f_X4_answerBitsOf
  have key : lpo (fun x : Int64 × Int32 => f_X4_answerBitsOf_L4 (nI s) x.1 x.2) FU ((0 : Int64), (0 : Int32)) = some (lN (mkw s 8)) := by
    refine lpo_det (fun w => (lN (mkw s w), nI w)) 8 (by omega) rfl ?_ ?_
    · intro w hw
      show f_X4_answerBitsOf_L4 (nI s) (lN (mkw s w)) (nI w) = some (.inl (lN (mkw s (w + 1)), nI (w + 1)))
      unfold f_X4_answerBitsOf_L4
      rw [if_neg (show ¬ (8 : Int32) ≤ nI w from fun c => by
        have := (nI_leI (a := 8) (by omega) (by omega)).mp c
        omega), d_holdsBit _ (by omega), bt_n (by omega)]
      simp only [ite10, f_X4_answerBitsOf_b29, nI_1, Option.bind_some, Option.bind_none, bd2, bd3, bd4, nm]
      by_cases c : s.testBit w = true
      · rw [if_neg (fun x => x c), show nI w * (6 : Int32) = nI (w * 6) from pk_mul w 6, show (63 : Int64) <<< ((nI (w * 6)).toInt64 &&& 63) = lN (63 * 2 ^ (w * 6)) from wb_shl 63 (show w * 6 < 64 by omega), show w * 6 = 6 * w by omega]
        have b1 := mkw_lt (s := s) w
        have b3 : (2 : Nat) ^ (6 * w) ≤ 2 ^ 42 := Nat.pow_le_pow_right (by omega) (by omega)
        rw [wb_or (by omega) (by omega)]
        rw [show mkw s (w + 1) = mkw s w ||| 63 * 2 ^ (6 * w) from if_pos c]
      · rw [if_pos c, show mkw s (w + 1) = mkw s w from if_neg c]
    · show f_X4_answerBitsOf_L4 (nI s) (lN (mkw s 8)) (nI 8) = _
      unfold f_X4_answerBitsOf_L4
      rw [if_pos (show (8 : Int32) ≤ nI 8 from by decide)]
  rw [key]
  rfl
theorem d_cells4 (hj : injC ca) (hb : b + 27 ≤ 120) (hw : WF σ τ) (hN : NC ca σ C b) (h : SO ca σ τ C b i m ord p q W) (hW : W ≤ 8) {s : Nat} (hs : ∀ w, s.testBit w = true → w < W) (hmono : ∀ x y, x ≤ y → y < m → KK σ τ s W 8 (ord x) ≤ KK σ τ s W 8 (ord y)) : ∃ r : Int32, f_X4_areCellsSafe (pt ca S0 C) (ca 7) (lN (mkw s 8)) = some r ∧ ((r = 1 ∧ Gr σ τ i s) ∨ (r = 0 ∧ ¬ Gr σ τ i s)) := by
  have hT := hw.tle
  obtain ⟨s1, s2, s3, ⟨rows, s4, s4r⟩, ⟨f, s5, s5f⟩, ⟨fq, s6⟩, ⟨st, s7⟩, ⟨mk, s8, s8m⟩, s9, s10⟩ := h
  have hp12 : 9 ≤ p ∧ p ≤ 10 ∧ 9 ≤ q ∧ q ≤ 10 ∧ p ≠ q := by omega
  have hkey : ∀ t u, KK σ τ s W 8 t = KK σ τ s W 8 u ↔ sameW σ τ s t u := fun t u => key_iff hw hs
  have hrk : ∀ t, rk σ τ t W < 2 ^ 48 := fun t => Nat.lt_of_lt_of_le (rk_lt hw t W) (Nat.pow_le_pow_right (by omega) (by omega))
  have hmk48 : mkw s 8 < 2 ^ 48 := mkw_lt 8
  -- the cell of a place
  have hcell : ∀ n, n < m → ∀ t, (∃ k, k < m ∧ ord k = t ∧ KK σ τ s W 8 (ord k) = KK σ τ s W 8 (ord n)) ↔ Cw σ τ i s (ord n) t := fun n hn t => by
    constructor
    · rintro ⟨k, hk, rfl, hkk⟩
      exact ⟨(s9 k hk).1, (s9 k hk).2, (hkey _ _).mp hkk.symm⟩
    · rintro ⟨h1, h2, h3⟩
      obtain ⟨k, hk, rfl⟩ := s10 t h1 h2
      exact ⟨k, hk, rfl, ((hkey _ _).mpr h3).symm⟩
  have hsafe : ∀ k n, k < m → n < m → KK σ τ s W 8 (ord k) = KK σ τ s W 8 (ord n) → (Safe σ (Cw σ τ i s (ord k)) ↔ Safe σ (Cw σ τ i s (ord n))) := fun k n hk hn e => Safe_iff (fun t => by rw [← hcell k hk t, ← hcell n hn t, e])
  unfold f_X4_areCellsSafe
  simp only [pt_gR hj s3 (by omega : 7 < 120) (k := 4) rfl, pt_gR hj s3 (by omega : 7 < 120) (k := 5) rfl, Option.bind_some, Option.bind_none, bd2, bd3, bd4, nm]
  have key := lpo_run (b := fun x : Int64 × Int32 => f_X4_areCellsSafe_L21 (pt ca S0 C) (ca 7) (lN (mkw s 8)) x.1 x.2)
    (fun n y => ∃ X, y = (lN X, nI n) ∧ SM σ X (fun t => ∃ k, k < n ∧ n < m ∧ ord k = t ∧ KK σ τ s W 8 (ord k) = KK σ τ s W 8 (ord n)) ∧ ∀ k, k < n → (n = m ∨ KK σ τ s W 8 (ord k) ≠ KK σ τ s W 8 (ord n)) → Safe σ (Cw σ τ i s (ord k)))
    (fun e => (e = .inl () ∧ Gr σ τ i s) ∨ (e = .inr 0 ∧ ¬ Gr σ τ i s)) m (by omega) (x := ((0 : Int64), (0 : Int32)))
    ⟨0, rfl, SM_0 (fun t ⟨k, hk, _⟩ => absurd hk (Nat.not_lt_zero k)), fun k hk => absurd hk (Nat.not_lt_zero k)⟩ (by
      rintro n y hn ⟨X, rfl, hX, hsf⟩
      obtain ⟨z1, z2⟩ := s9 n hn
      have hm60 := mark_lt hw (t := ord n) (Nat.le_refl (gN σ))
      have hX60 := hX.1
      have hE := SM_or hw hX (t := ord n) (E := fun t => (∃ k, k < n ∧ n < m ∧ ord k = t ∧ KK σ τ s W 8 (ord k) = KK σ τ s W 8 (ord n)) ∨ t = ord n) (fun _ => Iff.rfl)
      show (∃ x', f_X4_areCellsSafe_L21 (pt ca S0 C) (ca 7) (lN (mkw s 8)) (lN X) (nI n) = _ ∧ _) ∨ (∃ e, f_X4_areCellsSafe_L21 (pt ca S0 C) (ca 7) (lN (mkw s 8)) (lN X) (nI n) = _ ∧ _)
      -- when the cell ends here
      have ends : (n + 1 = m ∨ (n + 1 < m ∧ KK σ τ s W 8 (ord n) ≠ KK σ τ s W 8 (ord (n + 1)))) → (∃ x', f_X4_areCellsSafe_b89 (pt ca S0 C) (ca 7) (lN (mkw s 8)) (lN (X ||| mark σ (ord n) (gN σ))) (nI n) = some (.inl x') ∧ ∃ X, x' = (lN X, nI (n + 1)) ∧ SM σ X (fun t => ∃ k, k < n + 1 ∧ n + 1 < m ∧ ord k = t ∧ KK σ τ s W 8 (ord k) = KK σ τ s W 8 (ord (n + 1))) ∧ ∀ k, k < n + 1 → (n + 1 = m ∨ KK σ τ s W 8 (ord k) ≠ KK σ τ s W 8 (ord (n + 1))) → Safe σ (Cw σ τ i s (ord k))) ∨ (∃ e, f_X4_areCellsSafe_b89 (pt ca S0 C) (ca 7) (lN (mkw s 8)) (lN (X ||| mark σ (ord n) (gN σ))) (nI n) = some (.inr e) ∧ ((e = .inl () ∧ Gr σ τ i s) ∨ (e = .inr 0 ∧ ¬ Gr σ τ i s))) := by
        intro hend
        have hwhole : ∀ t, ((∃ k, k < n ∧ n < m ∧ ord k = t ∧ KK σ τ s W 8 (ord k) = KK σ τ s W 8 (ord n)) ∨ t = ord n) ↔ Cw σ τ i s (ord n) t := fun t => by
          rw [← hcell n hn t]
          constructor
          · rintro (⟨k, k1, k2, k3, k4⟩ | rfl)
            · exact ⟨k, by omega, k3, k4⟩
            · exact ⟨n, hn, rfl, rfl⟩
          · rintro ⟨k, k1, k2, k3⟩
            rcases Nat.lt_trichotomy k n with e | e | e
            · exact Or.inl ⟨k, e, hn, k2, k3⟩
            · subst e; exact Or.inr k2.symm
            · exfalso
              rcases hend with q1 | ⟨q1, q2⟩
              · omega
              · have m1 := hmono n (n + 1) (by omega) q1
                have m2 := hmono (n + 1) k (by omega) k1
                omega
        have hC9 := SM_iff hE hwhole
        obtain ⟨r, er, hr⟩ := d_areSafe (S0 := S0) hj hb hw hN hC9 ⟨ord n, z1, z2, fun _ _ _ => rfl⟩
        unfold f_X4_areCellsSafe_b89 f_X4_areCellsSafe_b94
        rw [if_neg (by decide)]
        simp only [pt_gR hj s3 (by omega : 7 < 120) (k := 4) rfl, n_ck hj hb hN, er, Option.bind_some, Option.bind_none, bd2, bd3, bd4, nm]
        rcases hr with ⟨rfl, hr⟩ | ⟨rfl, hr⟩
        · left
          rw [if_neg (by decide)]
          unfold f_X4_areCellsSafe_b114 f_X4_areCellsSafe_b121
          rw [if_neg (by decide), nI_1]
          refine ⟨_, rfl, 0, rfl, SM_0 (fun t => ?_), fun k hk hk2 => ?_⟩
          · rintro ⟨k, k1, k2, k3, k4⟩
            rcases hend with q1 | ⟨q1, q2⟩
            · omega
            · have m1 := hmono n (n + 1) (by omega) q1
              have m2 := hmono k n (by omega) hn
              omega
          · by_cases e : KK σ τ s W 8 (ord k) = KK σ τ s W 8 (ord n)
            · exact (hsafe k n (by omega) hn e).mpr hr
            · refine hsf k ?_ (Or.inr e)
              refine Nat.lt_of_le_of_ne (by omega) (fun q => e (by rw [q]))
        · right
          rw [if_pos rfl]
          exact ⟨_, rfl, Or.inr ⟨rfl, fun hg => hr (hg (ord n) z1 z2)⟩⟩
      unfold f_X4_areCellsSafe_L21
      simp only [pt_gI hj s3 (by omega : 7 < 120) (k := 6) rfl, pt_gR hj s3 (by omega : 7 < 120) (k := 1) rfl, pt_gR hj s3 (by omega : 7 < 120) (k := 5) rfl, pt_gR hj s3 (by omega : 7 < 120) (k := 0) rfl, pt_ldI hj s5 (by omega : p < 120) (show n < 4096 by omega) (by omega), s5f n hn, pt_ldJ hj s8 (by omega : 4 < 120) (show ord n < 4096 by omega) (by omega), s8m _ z1, pt_ldJ hj s4 (by omega : 8 < 120) (show ord n < 4096 by omega) (by omega), s4r _ z1 z2, wb_or (show X < 2 ^ 64 by omega) (show mark σ (ord n) (gN σ) < 2 ^ 64 by omega), nI_1, Option.bind_some, Option.bind_none, bd2, bd3, bd4, nm]
      rw [if_neg (show ¬ nI m ≤ nI n from fun c => by
        have := (nI_leI (by omega) (by omega)).mp c
        omega)]
      by_cases c1 : n + 1 = m
      · rw [if_pos (congrArg nI c1)]
        exact ends (Or.inl c1)
      · rw [if_neg (fun c => c1 ((nI_eq (by omega) (by omega)).mp c))]
        have hn1 : n + 1 < m := by omega
        obtain ⟨y1, y2⟩ := s9 (n + 1) hn1
        simp only [pt_ldI hj s5 (by omega : p < 120) (show n + 1 < 4096 by omega) (by omega), s5f (n + 1) hn1, pt_ldJ hj s4 (by omega : 8 < 120) (show ord (n + 1) < 4096 by omega) (by omega), s4r _ y1 y2, Option.bind_some, Option.bind_none, bd2, bd3, bd4, nm]
        have hx : (lN (rk σ τ (ord n) W) ^^^ lN (rk σ τ (ord (n + 1)) W)) &&& lN (mkw s 8) = 0 ↔ KK σ τ s W 8 (ord n) = KK σ τ s W 8 (ord (n + 1)) := by
          have r1 := hrk (ord n)
          have r2 := hrk (ord (n + 1))
          rw [xm, wb_and (by omega) (by omega), wb_and (by omega) (by omega)]
          have a1 : rk σ τ (ord n) W &&& mkw s 8 < 2 ^ 48 := Nat.and_lt_two_pow _ hmk48
          have a2 : rk σ τ (ord (n + 1)) W &&& mkw s 8 < 2 ^ 48 := Nat.and_lt_two_pow _ hmk48
          exact pk_lEQ (by omega) (by omega)
        by_cases c2 : KK σ τ s W 8 (ord n) = KK σ τ s W 8 (ord (n + 1))
        · rw [if_pos ((lg_cmp_eq _ _).mpr (hx.mpr c2))]
          left
          unfold f_X4_areCellsSafe_b94
          rw [if_pos rfl]
          unfold f_X4_areCellsSafe_b114 f_X4_areCellsSafe_b121
          rw [if_pos rfl, nI_1]
          refine ⟨_, rfl, _, rfl, SM_iff hE (fun t => ?_), fun k hk hk2 => ?_⟩
          · constructor
            · rintro (⟨k, k1, k2, k3, k4⟩ | rfl)
              · exact ⟨k, by omega, hn1, k3, k4.trans c2⟩
              · exact ⟨n, by omega, hn1, rfl, c2⟩
            · rintro ⟨k, k1, k2, k3, k4⟩
              by_cases e : k = n
              · subst e; exact Or.inr k3.symm
              · exact Or.inl ⟨k, by omega, hn, k3, k4.trans c2.symm⟩
          · rcases hk2 with e | e
            · omega
            · rw [← c2] at e
              refine hsf k ?_ (Or.inr e)
              refine Nat.lt_of_le_of_ne (by omega) (fun q => e (by rw [q]))
        · rw [if_neg (fun c => c2 (hx.mp ((lg_cmp_eq _ _).mp c)))]
          exact ends (Or.inr ⟨hn1, c2⟩)) (by
      rintro y ⟨X, rfl, hX, hsf⟩
      refine ⟨.inl (), ?_, Or.inl ⟨rfl, fun t0 h1 h2 => ?_⟩⟩
      · show f_X4_areCellsSafe_L21 (pt ca S0 C) (ca 7) (lN (mkw s 8)) (lN X) (nI m) = _
        unfold f_X4_areCellsSafe_L21
        simp only [pt_gI hj s3 (by omega : 7 < 120) (k := 6) rfl, Option.bind_some, Option.bind_none, bd2, bd3, bd4, nm]
        rw [if_pos (by rw [q_le (by omega) (by omega)]; omega)]
      · obtain ⟨k, hk, rfl⟩ := s10 t0 h1 h2
        exact hsf k hk (Or.inl rfl))
  obtain ⟨e, he, hr⟩ := key
  rcases hr with ⟨rfl, hs9⟩ | ⟨rfl, hs9⟩
  · exact ⟨1, by rw [he]; rfl, Or.inl ⟨rfl, hs9⟩⟩
  · exact ⟨0, by rw [he]; rfl, Or.inr ⟨rfl, hs9⟩⟩
theorem d_isGranted (hj : injC ca) (hb : b + 27 ≤ 120) (hb2 : 12 ≤ b) (hw : WF σ τ) (hN : NC ca σ C b) (h : SO ca σ τ C b i m ord p q W) (hW : W ≤ 8) {s : Nat} (hs : ∀ w, s.testBit w = true → w < W) : ∃ (r : Int32) (D : Nat → PE) (ord' : Nat → Nat) (p' q' : Nat), f_X4_isGranted (pt ca S0 C) (ca 7) (nI s) = some (r, pt ca S0 D) ∧ SO ca σ τ D b i m ord' p' q' W ∧ (∀ k, k < 7 ∨ k = 8 ∨ 12 ≤ k → D k = C k) ∧ ((r = 1 ∧ Gr σ τ i s) ∨ (r = 0 ∧ ¬ Gr σ τ i s)) := by
  unfold f_X4_isGranted
  have key := lpo_run (b := fun x : Int32 × PH => f_X4_isGranted_L2 x.2 (ca 7) (nI s) x.1)
    (fun w y => ∃ (D : Nat → PE) (ord' : Nat → Nat) (p' q' : Nat), y = (nI w, pt ca S0 D) ∧ SO ca σ τ D b i m ord' p' q' W ∧ (∀ k, k < 7 ∨ k = 8 ∨ 12 ≤ k → D k = C k) ∧ ∀ x y, x ≤ y → y < m → KK σ τ s W w (ord' x) ≤ KK σ τ s W w (ord' y))
    (fun y => ∃ (D : Nat → PE) (ord' : Nat → Nat) (p' q' : Nat), y = pt ca S0 D ∧ SO ca σ τ D b i m ord' p' q' W ∧ (∀ k, k < 7 ∨ k = 8 ∨ 12 ≤ k → D k = C k) ∧ ∀ x y, x ≤ y → y < m → KK σ τ s W 8 (ord' x) ≤ KK σ τ s W 8 (ord' y)) 8 (by omega) (x := ((0 : Int32), pt ca S0 C))
    ⟨C, ord, p, q, rfl, h, fun _ _ => rfl, fun x y _ _ => by rw [KK_0, KK_0]; exact Nat.le_refl _⟩ (by
      rintro w y hw8 ⟨D, ord', p', q', rfl, hSO, hD, hmono⟩
      left
      show ∃ x', f_X4_isGranted_L2 (pt ca S0 D) (ca 7) (nI s) (nI w) = _ ∧ _
      unfold f_X4_isGranted_L2
      rw [if_neg (show ¬ (8 : Int32) ≤ nI w from fun c => by
        have := (nI_leI (a := 8) (by omega) (by omega)).mp c
        omega), d_holdsBit _ (by omega), bt_n (by omega)]
      simp only [ite10, f_X4_isGranted_b21, nI_1, Option.bind_some, Option.bind_none, bd2, bd3, bd4, nm]
      by_cases c : s.testBit w = true
      · rw [if_neg (fun x => x c)]
        have hwW := hs w c
        obtain ⟨E, ord2, e1, hE, hEo, hE2⟩ := d_sortBy (S0 := S0) hj hw hSO hW hwW
        simp only [pt_ck hj hSO.2.2.1 (by omega : 7 < 120), e1, Option.bind_some, Option.bind_none, bd2, bd3, bd4, nm]
        refine ⟨_, rfl, E, ord2, q', p', rfl, hE, fun k hk => (hEo k hk).trans (hD k hk), fun x y hxy hy => ?_⟩
        obtain ⟨j, k, j1, k1, e2, e3, l1, l2⟩ := hE2 x y hxy hy
        rw [e2, e3]
        exact KK_sort hw c hwW l1 (fun e => hmono j k (l2 e) k1)
      · rw [if_pos c]
        refine ⟨_, rfl, D, ord', p', q', rfl, hSO, hD, fun x y hxy hy => ?_⟩
        rw [KK_no c, KK_no c]
        exact hmono x y hxy hy) (by
      rintro y ⟨D, ord', p', q', rfl, hSO, hD, hmono⟩
      refine ⟨_, ?_, D, ord', p', q', rfl, hSO, hD, hmono⟩
      show f_X4_isGranted_L2 (pt ca S0 D) (ca 7) (nI s) (nI 8) = _
      unfold f_X4_isGranted_L2
      rw [if_pos (show (8 : Int32) ≤ nI 8 from by decide)])
  obtain ⟨S', e1, D, ord', p', q', rfl, hSO, hD, hmono⟩ := key
  have hND : NC ca σ D b := NC_fr hN (fun k h1 h2 => hD k (by omega))
  obtain ⟨r, er, hr⟩ := d_cells4 (S0 := S0) hj hb hw hND hSO hW hs hmono
  rw [e1]
  simp only [d_answerBits, pt_ck hj hSO.2.2.1 (by omega : 7 < 120), er, Option.bind_some, Option.bind_none, bd2, bd3, bd4, nm]
  refine ⟨r, D, ord', p', q', ?_, hSO, hD, hr⟩
  rcases hr with ⟨rfl, -⟩ | ⟨rfl, -⟩
  · rfl
  · rfl
end GRANT
