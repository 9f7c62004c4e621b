/-! ===== the class's together and most ===== -/
def bt2 (x y : Nat) : Prop := pc x < pc y ∨ (pc x = pc y ∧ y ≤ x)
theorem bt2_rf (x : Nat) : bt2 x x := Or.inr ⟨rfl, Nat.le_refl x⟩
theorem bt2_tr {x y z : Nat} (h : bt2 x y) (g : bt2 y z) : bt2 x z := by
  unfold bt2 at *
  omega
theorem tb_join {h y k j : Nat} (hy : y < 2 ^ k) : (2 ^ k * h + y).testBit j = if j < k then y.testBit j else h.testBit (j - k) := Nat.testBit_two_pow_mul_add h hy j
theorem tbN_join {h y k j : Nat} (hy : y < 2 ^ k) : tbN (2 ^ k * h + y) j = tbN (2 ^ k * h) j + tbN y j := by
  have h0 := tb_join (h := h) (j := j) (Nat.two_pow_pos k)
  rw [Nat.add_zero] at h0
  unfold tbN
  rw [tb_join hy, h0]
  by_cases e : j < k
  · rw [if_pos e, if_pos e, Nat.zero_testBit]
    simp
  · rw [if_neg e, if_neg e]
    have : y.testBit j = false := Nat.testBit_lt_two_pow (Nat.lt_of_lt_of_le hy (Nat.pow_le_pow_right (by omega) (by omega)))
    rw [this]
    simp
theorem sm_plus {f g h : Nat → Nat} : ∀ n, (∀ k, k < n → f k = g k + h k) → sm f n = sm g n + sm h n
  | 0, _ => rfl
  | n + 1, e => by
    show sm f n + f n = sm g n + g n + (sm h n + h n)
    rw [sm_plus n (fun k hk => e k (by omega)), e n (by omega)]
    omega
theorem pc_join {h y k : Nat} (hy : y < 2 ^ k) : pc (2 ^ k * h + y) = pc (2 ^ k * h) + pc y := sm_plus 8 (fun j _ => tbN_join hy)
theorem pc_le {y k : Nat} (hk : k ≤ 8) (hy : y < 2 ^ k) : pc y ≤ k := by
  have e : sm (tbN y) (k + (8 - k)) = sm (tbN y) k + sm (fun u => tbN y (k + u)) (8 - k) := sm_add _
  rw [show k + (8 - k) = 8 by omega] at e
  have e2 : sm (fun u => tbN y (k + u)) (8 - k) = 0 := sm_zero _ (fun u _ => by
    unfold tbN
    rw [Nat.testBit_lt_two_pow (Nat.lt_of_lt_of_le hy (Nat.pow_le_pow_right (by omega) (show k ≤ k + u by omega)))]
    rfl)
  unfold pc
  have := sm_tb y k
  omega
theorem pc_bit {w : Nat} (hw : w < 8) : pc (2 ^ w) = 1 := by
  unfold pc
  rw [sm_only (v := w) 8 hw (fun k _ hk => by unfold tbN; rw [Nat.testBit_two_pow_of_ne (fun q => hk q.symm)]; rfl)]
  unfold tbN
  rw [Nat.testBit_two_pow_self]
  rfl
theorem d_pc {s : Nat} (hs : s < 256) : f_J6_bitCount_0f7a4 (nI s) = some (nI (pc s)) := by
  rw [b_count32 (by omega)]
  have e : sm (tbN s) (8 + 24) = sm (tbN s) 8 + sm (fun u => tbN s (8 + u)) 24 := sm_add _
  have e2 : sm (fun u => tbN s (8 + u)) 24 = 0 := sm_zero _ (fun u _ => by
    unfold tbN
    rw [Nat.testBit_lt_two_pow (Nat.lt_of_lt_of_le (show s < 2 ^ 8 from hs) (Nat.pow_le_pow_right (by omega) (show 8 ≤ 8 + u by omega)))]
    rfl)
  have : sm (tbN s) 32 = pc s := by
    rw [show (32 : Nat) = 8 + 24 from rfl, e, e2, Nat.add_zero]
    rfl
  rw [this]
theorem Gr_mono {σ : SG} {τ : TG} {i s u : Nat} (h : ∀ w, s.testBit w = true → u.testBit w = true) (hg : Gr σ τ i u) : Gr σ τ i s := by
  intro t0 h1 h2 n hn
  obtain ⟨t1, t2, ⟨a1, a2, a3⟩, ⟨b1, b2, b3⟩, c⟩ := hg t0 h1 h2 n hn
  exact ⟨t1, t2, ⟨a1, a2, fun w hw hs => a3 w hw (h w hs)⟩, ⟨b1, b2, fun w hw hs => b3 w hw (h w hs)⟩, c⟩
theorem d_better {x y : Nat} (hx : x < 256) (hy : y < 256) : ∃ z, f_X7_betterOf (nI x) (nI y) = some (nI z) ∧ (z = x ∨ z = y) ∧ bt2 x z ∧ bt2 y z := by
  have p1 : pc x ≤ 8 := sm_tb x 8
  have p2 : pc y ≤ 8 := sm_tb y 8
  unfold f_X7_betterOf
  rw [d_pc hx, d_pc hy]
  simp only [Option.bind_some]
  by_cases e : pc y = pc x
  · rw [if_pos (by rw [e, Int32.sub_self])]
    by_cases c : y < x
    · rw [if_pos (nI_lt c (by omega))]
      exact ⟨y, rfl, Or.inr rfl, Or.inr ⟨e.symm, by omega⟩, bt2_rf y⟩
    · rw [if_neg (nI_nlt (by omega) (by omega))]
      exact ⟨x, rfl, Or.inl rfl, bt2_rf x, Or.inr ⟨e, by omega⟩⟩
  · have hz : ¬ nI (pc y) - nI (pc x) = 0 := fun q => e (by
      have := congrArg Int32.toInt q
      rw [pk_sub_toInt (by omega) (by omega)] at this
      have h0 : (0 : Int32).toInt = 0 := rfl
      omega)
    rw [if_neg hz]
    have hl : nI (pc y) - nI (pc x) ≤ 0 ↔ pc y ≤ pc x := by
      rw [Int32.le_iff_toInt_le, pk_sub_toInt (by omega) (by omega)]
      have h0 : (0 : Int32).toInt = 0 := rfl
      omega
    by_cases c : pc y ≤ pc x
    · rw [if_pos (hl.mpr c)]
      exact ⟨x, rfl, Or.inl rfl, bt2_rf x, Or.inl (by omega)⟩
    · rw [if_neg (fun q => c (hl.mp q))]
      exact ⟨y, rfl, Or.inr rfl, Or.inl (by omega), bt2_rf y⟩
section MOST
variable {ca : Nat → Nat} {S0 : PH} {C : Nat → PE} {b i m : Nat} {ord : Nat → Nat} {p q W : Nat} {σ : SG} {τ : TG}
theorem SO_fr {D : Nat → PE} (h : SO ca σ τ C b i m ord p q W) (he : ∀ k, 4 ≤ k → k < 12 → k ≠ 5 → k ≠ 6 → D k = C k) : SO ca σ τ D b i m ord p q W := by
  obtain ⟨s1, s2, s3, s4, s5, s6, s7, s8, s9, s10⟩ := h
  have hp12 : 9 ≤ p ∧ p ≤ 10 ∧ 9 ≤ q ∧ q ≤ 10 ∧ p ≠ q := by omega
  refine ⟨s1, s2, ?_, ?_, ?_, ?_, ?_, ?_, s9, s10⟩
  all_goals (rw [he _ (by omega) (by omega) (by omega) (by omega)]; assumption)
theorem w_rd (hj : injC ca) (hb : b + 27 ≤ 120) (hw : WF σ τ) (h : WC ca σ τ C b) {w : Nat} (hwW : w < gW σ) : gR (pt ca S0 C) (ca (b + 23)) 6 0 = some (ca (b + 24)) ∧ gR (pt ca S0 C) (ca (b + 23)) 6 1 = some (ca (b + 25)) ∧ gR (pt ca S0 C) (ca (b + 23)) 6 2 = some (ca (b + 26)) ∧ ldI (pt ca S0 C) (ca (b + 24)) (nI w) = some (nI (wk σ w)) ∧ ldI (pt ca S0 C) (ca (b + 25)) (nI w) = some (nI (wse σ w)) ∧ ldI (pt ca S0 C) (ca (b + 26)) (nI w) = some (τ 5 w) := by
  have h8 := hw.w8
  obtain ⟨ki, se, ex, a1, a2, a3, a4, a5⟩ := h
  obtain ⟨b1, b2, b3⟩ := a5 w hwW
  refine ⟨pt_gR hj a1 (by omega) rfl, pt_gR hj a1 (by omega) rfl, pt_gR hj a1 (by omega) rfl, ?_, ?_, ?_⟩
  · rw [pt_ldI hj a2 (by omega) (by omega) (by omega), b1]
  · rw [pt_ldI hj a3 (by omega) (by omega) (by omega), b2]
  · rw [pt_ldI hj a4 (by omega) (by omega) (by omega), b3]
theorem d_answerWishes (hj : injC ca) (hb : b + 27 ≤ 120) (hb2 : 12 ≤ b) (hw : WF σ τ) (h : SC ca σ τ C b) (ht : TOP ca C b) {a : Nat} (ha : a < 4) : ∃ (D : Nat → PE) (m : Nat) (ord : Nat → Nat) (p q : Nat), f_X7_answerWishes (pt ca S0 C) (ca 0) (nI a) = some (pt ca S0 D) ∧ SO ca σ τ D b a m ord p q (gW σ) ∧ FR C D ∧ TOP ca D b := by
  have h8 := hw.w8
  obtain ⟨h0, h3, ⟨f4, h4⟩, ⟨f5, h5⟩, -⟩ := id ht
  obtain ⟨mk, em, hmk⟩ := d_markTables (S0 := S0) hj hb hb2 hw h.2.1 h3 h4
  have F1 : FR C (va_up C 4 (eJ 4096 mk)) := FR_up (by omega) (by omega)
  have s1 := SC_FR h hb2 F1
  have t1 := TOP_4 ht mk
  obtain ⟨r, f, el, hr1, hr2, hr3, hf⟩ := k_left (S0 := S0) (C := va_up C 4 (eJ 4096 mk)) hj hb s1.2.2.1 ha
  obtain ⟨D, m, ord, p, q, eD, hSO, hDo⟩ := d_begin (S0 := S0) (C := va_up C 4 (eJ 4096 mk)) hj hb hb2 hw s1.2.1 t1 (mk := mk) rfl hmk (by omega) (by omega) hr1 hf
  have F2 : FR (va_up C 4 (eJ 4096 mk)) D := fun k hk => hDo k (by omega)
  have s2 := SC_FR s1 hb2 F2
  have t2 : TOP ca D b := TOP_so t1 (fun k h1 h2 => hDo k (by omega)) hSO
  obtain ⟨fr7, e7⟩ : ∃ fs, va_up C 4 (eJ 4096 mk) 7 = eO 4 fs := by
    obtain ⟨-, -, -, -, -, ⟨p, q, nu, ma, sz, -, x7⟩, -⟩ := t1
    exact ⟨_, x7⟩
  have key := lpo_run (b := fun x : Int32 × PH => f_X7_answerWishes_L56 x.2 (ca 0) (ca (b + 23)) x.1)
    (fun w y => ∃ E, y = (nI w, pt ca S0 E) ∧ SO ca σ τ E b a m ord p q w ∧ FR D E ∧ TOP ca E b)
    (fun y => ∃ E, y = pt ca S0 E ∧ SO ca σ τ E b a m ord p q (gW σ) ∧ FR D E ∧ TOP ca E b) (gW σ) (by omega) (x := ((0 : Int32), pt ca S0 D))
    ⟨D, rfl, hSO, FR_rf D, t2⟩ (by
      rintro w y hwW ⟨E, rfl, hE, hF, hT⟩
      have sE := SC_FR s2 hb2 hF
      obtain ⟨wq1, wq2⟩ := hw.wsh hwW
      obtain ⟨r0, r1, r2, r3, r4, r5⟩ := w_rd (S0 := S0) hj hb hw sE.2.2.2.2 hwW
      obtain ⟨g5, h5E⟩ := hT.2.2.2.1
      obtain ⟨af, ea, haf⟩ := d_answerTables (S0 := S0) hj hb hb2 hw sE.2.1 hT.2.1 h5E wq2 wq1
      have F5 : FR E (va_up E 5 (eI 4096 af)) := FR_up (by omega) (by omega)
      have T5 := TOP_5 hT af
      have SO5 : SO ca σ τ (va_up E 5 (eI 4096 af)) b a m ord p q w := SO_fr hE (fun k h1 h2 h3 h4 => va_up_ne _ _ h3)
      obtain ⟨G, eG, hG, hGo⟩ := d_addAnswers (S0 := S0) (C := va_up E 5 (eI 4096 af)) hj hw SO5 (show w < 8 by omega) (af := af) rfl haf
      left
      show ∃ x', f_X7_answerWishes_L56 (pt ca S0 E) (ca 0) (ca (b + 23)) (nI w) = _ ∧ _
      unfold f_X7_answerWishes_L56
      simp only [w_g3 hj hb sE.2.2.2.2, pt_gR hj hT.1 (by omega : 0 < 120) (k := 3) rfl, pt_gR hj hT.1 (by omega : 0 < 120) (k := 0) rfl, pt_gR hj sE.1 (by omega : b < 120) (k := 0) rfl, r0, r1, r2, r3, r4, r5, pt_ck hj hT.2.1 (by omega : 3 < 120), ea, Option.bind_some, Option.bind_none, bd2, bd3, bd4, nm]
      rw [if_neg (show ¬ nI (gW σ) ≤ nI w from fun c => by
        have := (nI_leI (by omega) (by omega)).mp c
        omega)]
      simp only [pt_gR hj T5.1 (by omega : 0 < 120) (k := 4) rfl, pt_gR hj T5.1 (by omega : 0 < 120) (k := 3) rfl, pt_gR hj T5.2.1 (by omega : 3 < 120) (k := 1) rfl, pt_ck hj SO5.2.2.1 (by omega : 7 < 120), eG, nI_1, Option.bind_some, Option.bind_none, bd2, bd3, bd4, nm]
      exact ⟨_, rfl, G, rfl, hG, FR_tr hF (FR_tr F5 (fun k hk => hGo k (by omega))), TOP_so T5 (fun k h1 h2 => hGo k (by omega)) hG⟩) (by
      rintro y ⟨E, rfl, hE, hF, hT⟩
      have sE := SC_FR s2 hb2 hF
      refine ⟨_, ?_, E, rfl, hE, hF, hT⟩
      show f_X7_answerWishes_L56 (pt ca S0 E) (ca 0) (ca (b + 23)) (nI (gW σ)) = _
      unfold f_X7_answerWishes_L56
      simp only [w_g3 hj hb sE.2.2.2.2, Option.bind_some, Option.bind_none, bd2, bd3, bd4, nm]
      rw [if_pos (by rw [q_le (by omega) (by omega)]; omega)])
  obtain ⟨S', e1, E, rfl, hE, hF, hT⟩ := key
  unfold f_X7_answerWishes
  simp only [pt_gR hj h0 (by omega : 0 < 120) (k := 0) rfl, pt_gR hj h0 (by omega : 0 < 120) (k := 3) rfl, pt_gR hj h.1 (by omega : b < 120) (k := 0) rfl, pt_gR hj h.1 (by omega : b < 120) (k := 3) rfl, pt_ck hj h3 (by omega : 3 < 120), em, Option.bind_some, Option.bind_none, bd2, bd3, bd4, nm]
  simp only [pt_gR hj t1.1 (by omega : 0 < 120) (k := 0) rfl, pt_gR hj t1.1 (by omega : 0 < 120) (k := 3) rfl, pt_gR hj t1.1 (by omega : 0 < 120) (k := 4) rfl, pt_gR hj s1.1 (by omega : b < 120) (k := 0) rfl, pt_gR hj s1.1 (by omega : b < 120) (k := 1) rfl, pt_gR hj t1.2.1 (by omega : 3 < 120) (k := 0) rfl, k_ck hj hb s1.2.2.1, el, pt_ck hj e7 (by omega : 7 < 120), eD, e1, Option.bind_some, Option.bind_none, bd2, bd3, bd4, nm]
  exact ⟨E, m, ord, p, q, rfl, hE, FR_tr F1 (FR_tr F2 hF), hT⟩
theorem bits_lt {s W : Nat} (h : s < 2 ^ W) : ∀ w, s.testBit w = true → w < W := fun w hw => Nat.lt_of_not_le fun q => by
  rw [Nat.testBit_lt_two_pow (Nat.lt_of_lt_of_le h (Nat.pow_le_pow_right (by omega) q))] at hw
  cases hw
theorem d_together (hj : injC ca) (hb : b + 27 ≤ 120) (hb2 : 12 ≤ b) (hw : WF σ τ) (h : SC ca σ τ C b) (ht : TOP ca C b) {a s r : Int32} (hR : ToR σ τ a s r) : ∃ D, f_X7_together (pt ca S0 C) (ca 0) a s = some (r, pt ca S0 D) ∧ FR C D ∧ TOP ca D b := by
  have h8 := hw.w8
  have h256 : 2 ^ gW σ ≤ 256 := Nat.pow_le_pow_right (n := 2) (j := 8) (by omega) h8
  unfold f_X7_together
  rw [d_isAsker]
  simp only [ite10, Option.bind_some, Option.bind_none, bd2, bd3, bd4, nm]
  by_cases c1 : rng a 4
  · rw [if_neg (fun c => c c1)]
    by_cases c2 : rng s (2 ^ gW σ)
    · obtain ⟨j, hj9, rfl⟩ := (rng_iff (by omega)).mp c1
      obtain ⟨z, hz, rfl⟩ := (rng_iff (by omega)).mp c2
      rw [if_neg (Int32.not_lt.mpr c2.1)]
      simp only [pt_gR hj ht.1 (by omega : 0 < 120) (k := 0) rfl, pt_gR hj h.1 (by omega : b < 120) (k := 3) rfl, w_g3 hj hb h.2.2.2.2, shl_1 (show gW σ < 31 by omega), Option.bind_some, Option.bind_none, bd2, bd3, bd4, nm]
      rw [if_pos c2.2]
      rcases hR with ⟨j', z', ea, hj', es, hz', hr⟩ | ⟨hn, -⟩
      · have : j = j' := (nI_eq (by omega) (by omega)).mp ea
        subst this
        have : z = z' := (nI_eq (by omega) (by omega)).mp es
        subst this
        by_cases z0 : z = 0
        · subst z0
          rw [if_pos (show nI 0 = (0 : Int32) from rfl)]
          rcases hr with ⟨rfl, -⟩ | ⟨-, hr⟩
          · exact ⟨C, rfl, FR_rf C, ht⟩
          · exact absurd (Or.inl rfl) hr
        · rw [if_neg (show ¬ nI z = (0 : Int32) from fun c => z0 ((nI_eq (b := 0) (by omega) (by omega)).mp c))]
          obtain ⟨D, m, ord, p, q, eD, hSO, hF, hT⟩ := d_answerWishes (S0 := S0) hj hb hb2 hw h ht hj9
          have sD := SC_FR h hb2 hF
          obtain ⟨x, E, ord', p', q', eE, hSO', hEo, hx⟩ := d_isGranted (S0 := S0) hj hb hb2 hw sD.2.1 hSO h8 (bits_lt hz)
          simp only [pt_ck hj ht.1 (by omega : 0 < 120), eD, pt_gR hj hT.1 (by omega : 0 < 120) (k := 4) rfl, pt_ck hj hSO.2.2.1 (by omega : 7 < 120), eE, Option.bind_some, Option.bind_none, bd2, bd3, bd4, nm]
          have hxr : x = r := by
            rcases hx with ⟨rfl, hx⟩ | ⟨rfl, hx⟩
            · rcases hr with ⟨rfl, -⟩ | ⟨-, hr⟩
              · rfl
              · exact absurd (Or.inr hx) hr
            · rcases hr with ⟨-, hr⟩ | ⟨rfl, -⟩
              · rcases hr with q1 | q1
                · exact absurd q1 z0
                · exact absurd q1 hx
              · rfl
          have hck : ckZ x = some () := by
            rcases hx with ⟨rfl, -⟩ | ⟨rfl, -⟩
            · rfl
            · rfl
          rw [hck, hxr]
          exact ⟨E, rfl, FR_tr hF (fun k hk => hEo k (by omega)), TOP_so hT (fun k h1 h2 => hEo k (by omega)) hSO'⟩
      · exact absurd ⟨c1, c2⟩ hn
    · have hr : r = 0 := by
        rcases hR with ⟨j', z', ea, hj', rfl, hz', hr⟩ | ⟨-, hr⟩
        · exact absurd ((rng_iff (by omega)).mpr ⟨z', hz', rfl⟩) c2
        · exact hr
      subst hr
      by_cases c3 : s < 0
      · rw [if_pos c3]
        exact ⟨C, rfl, FR_rf C, ht⟩
      · rw [if_neg c3]
        simp only [pt_gR hj ht.1 (by omega : 0 < 120) (k := 0) rfl, pt_gR hj h.1 (by omega : b < 120) (k := 3) rfl, w_g3 hj hb h.2.2.2.2, shl_1 (show gW σ < 31 by omega), Option.bind_some, Option.bind_none, bd2, bd3, bd4, nm]
        rw [if_neg (fun c => c2 ⟨Int32.not_lt.mp c3, c⟩)]
        exact ⟨C, rfl, FR_rf C, ht⟩
  · rw [if_pos c1]
    have hr : r = 0 := by
      rcases hR with ⟨j', z', rfl, hj', -⟩ | ⟨-, hr⟩
      · exact absurd (rng4 hj') c1
      · exact hr
    subst hr
    exact ⟨C, rfl, FR_rf C, ht⟩
theorem d_largest (hj : injC ca) (hb : b + 27 ≤ 120) (hb2 : 12 ≤ b) (hw : WF σ τ) (hW : W ≤ 8) : ∀ (n : Nat) (C : Nat → PE) (ord : Nat → Nat) (p q d set w0 best : Nat), NC ca σ C b → SO ca σ τ C b i m ord p q W → 9 ≤ n + d → set % 2 ^ w0 = 0 → set + 2 ^ w0 ≤ 2 ^ W → pc set = d → d + w0 ≤ 8 → best < 2 ^ W → okS σ τ i best →
    ∃ (r : Nat) (D : Nat → PE) (ord' : Nat → Nat) (p' q' : Nat), f_X7_largestGranted n (pt ca S0 C) (ca 7) (nI d) (nI set) (nI w0) (nI best) = some (nI r, pt ca S0 D) ∧ SO ca σ τ D b i m ord' p' q' W ∧ (∀ k, k < 7 ∨ k = 8 ∨ 12 ≤ k → D k = C k) ∧ r < 2 ^ W ∧ okS σ τ i r ∧ bt2 best r ∧ ∀ x, 0 < x → x < 2 ^ w0 → Gr σ τ i (set + x) → bt2 (set + x) r := by
  have h256 : 2 ^ W ≤ 256 := Nat.pow_le_pow_right (n := 2) (j := 8) (by omega) hW
  intro n
  induction n with
  | zero =>
    intro C ord p q d set w0 best _ _ h1 _ _ _ h5
    omega
  | succ n ih =>
    intro C ord p q d set w0 best hN hSO h1 h2 h3 h4 h5 h6 h7
    show ∃ (r : Nat) (D : Nat → PE) (ord' : Nat → Nat) (p' q' : Nat), fB_X7_largestGranted (f_X7_largestGranted n) (pt ca S0 C) (ca 7) (nI d) (nI set) (nI w0) (nI best) = some (nI r, pt ca S0 D) ∧ _
    unfold fB_X7_largestGranted
    by_cases hd : d < 8
    · rw [if_pos (show nI d < (8 : Int32) from nI_lt (b := 8) hd (by omega))]
      have key := lpo_run (b := fun x : Int32 × Int32 × PH => f_X7_largestGranted_L18 (f_X7_largestGranted n) x.2.2 (ca 7) (nI d) (nI set) x.1 x.2.1)
        (fun j y => ∃ (r : Nat) (D : Nat → PE) (ord' : Nat → Nat) (p' q' : Nat), y = (nI r, nI (w0 - j) - 1, pt ca S0 D) ∧ SO ca σ τ D b i m ord' p' q' W ∧ (∀ k, k < 7 ∨ k = 8 ∨ 12 ≤ k → D k = C k) ∧ r < 2 ^ W ∧ okS σ τ i r ∧ bt2 best r ∧ ∀ x, 2 ^ (w0 - j) ≤ x → x < 2 ^ w0 → Gr σ τ i (set + x) → bt2 (set + x) r)
        (fun y => ∃ (r : Nat) (D : Nat → PE) (ord' : Nat → Nat) (p' q' : Nat), y = (nI r, pt ca S0 D) ∧ SO ca σ τ D b i m ord' p' q' W ∧ (∀ k, k < 7 ∨ k = 8 ∨ 12 ≤ k → D k = C k) ∧ r < 2 ^ W ∧ okS σ τ i r ∧ bt2 best r ∧ ∀ x, 0 < x → x < 2 ^ w0 → Gr σ τ i (set + x) → bt2 (set + x) r) w0 (by omega) (x := (nI best, nI w0 - (1 : Int32), pt ca S0 C))
        ⟨best, C, ord, p, q, rfl, hSO, fun _ _ => rfl, h6, h7, bt2_rf best, fun x q1 q2 => absurd q2 (Nat.not_lt.mpr q1)⟩ (by
          rintro j y hj9 ⟨r, D, ord', p', q', rfl, hS9, hD, hr1, hr2, hr3, hr4⟩
          obtain ⟨w, hw9⟩ : ∃ w, w0 - j = w + 1 := ⟨w0 - j - 1, by omega⟩
          have hw9' : w0 - (j + 1) = w := by omega
          rw [hw9] at hr4
          have hww : w < w0 := by omega
          have hND : NC ca σ D b := NC_fr hN (fun k q1 q2 => hD k (by omega))
          -- set is a multiple
          obtain ⟨h, hh⟩ : ∃ h, set = 2 ^ (w + 1) * h := by
            have hdv : 2 ^ (w + 1) ∣ set := Nat.dvd_trans (Nat.pow_dvd_pow 2 (by omega)) (Nat.dvd_of_mod_eq_zero h2)
            obtain ⟨h, hh⟩ := hdv
            exact ⟨h, hh⟩
          have hp2 : (2 : Nat) ^ (w + 1) = 2 ^ w + 2 ^ w := by rw [Nat.pow_succ]; omega
          have hp0 : (2 : Nat) ^ (w + 1) ≤ 2 ^ w0 := Nat.pow_le_pow_right (by omega) (by omega)
          have hpos := Nat.two_pow_pos w
          have hpcx : ∀ x, x < 2 ^ (w + 1) → pc (set + x) = d + pc x := fun x hx => by
            rw [← h4, hh]
            exact pc_join hx
          show (∃ x', f_X7_largestGranted_L18 (f_X7_largestGranted n) (pt ca S0 D) (ca 7) (nI d) (nI set) (nI r) (nI (w0 - j) - 1) = _ ∧ _) ∨ ∃ e, f_X7_largestGranted_L18 (f_X7_largestGranted n) (pt ca S0 D) (ca 7) (nI d) (nI set) (nI r) (nI (w0 - j) - 1) = _ ∧ _
          rw [hw9, hw9', sub1 (by omega), Nat.add_sub_cancel]
          unfold f_X7_largestGranted_L18
          have hpr : pc r ≤ 8 := sm_tb r 8
          rw [if_neg (Int32.not_lt.mpr (nI_pos' (by omega))), d_pc (by omega), nI_1, nI_add]
          simp only [Option.bind_some, Option.bind_none, bd2, bd3, bd4, nm]
          by_cases c1 : d + 1 + w < pc r
          · right
            rw [if_pos (nI_lt c1 (by omega))]
            refine ⟨_, rfl, r, D, ord', p', q', rfl, hS9, hD, hr1, hr2, hr3, fun x q1 q2 q3 => ?_⟩
            by_cases c2 : 2 ^ (w + 1) ≤ x
            · exact hr4 x c2 q2 q3
            · have e1 := hpcx x (by omega)
              have e2 := pc_le (y := x) (k := w + 1) (by omega) (by omega)
              exact Or.inl (by omega)
          · left
            rw [if_neg (nI_nlt (by omega) (by omega)), or_1 (by omega)]
            have hgrown : set ||| 2 ^ w = set + 2 ^ w := by
              rw [hh, ← Nat.two_pow_add_eq_or_of_lt (show 2 ^ w < 2 ^ (w + 1) by omega)]
            rw [hgrown]
            have hgl : set + 2 ^ w < 2 ^ W := by omega
            obtain ⟨x, E, ord2, p2, q2, eE, hSE, hEo, hx⟩ := d_isGranted (S0 := S0) hj hb hb2 hw hND hS9 hW (s := set + 2 ^ w) (bits_lt hgl)
            simp only [pt_ck hj hS9.2.2.1 (by omega : 7 < 120), eE, f_X7_largestGranted_b74, Option.bind_some, Option.bind_none, bd2, bd3, bd4, nm]
            have hEC : ∀ k, k < 7 ∨ k = 8 ∨ 12 ≤ k → E k = C k := fun k hk => (hEo k hk).trans (hD k hk)
            rcases hx with ⟨rfl, hx⟩ | ⟨rfl, hx⟩
            · rw [if_neg (by decide)]
              obtain ⟨z, ez, hz1, hz2, hz3⟩ := d_better (x := r) (y := set + 2 ^ w) (by omega) (by omega)
              have hNE : NC ca σ E b := NC_fr hN (fun k q1 q2 => hEC k (by omega))
              have hzW : z < 2 ^ W := by rcases hz1 with e | e <;> omega
              have hzok : okS σ τ i z := by
                rcases hz1 with e | e
                · rw [e]; exact hr2
                · rw [e]; exact Or.inr hx
              have hmod : (set + 2 ^ w) % 2 ^ w = 0 := by
                rw [Nat.add_mod_right, hh, Nat.pow_succ, Nat.mul_assoc, Nat.mul_mod_right]
              have hpg : pc (set + 2 ^ w) = d + 1 := by rw [hpcx _ (by omega), pc_bit (by omega)]
              obtain ⟨r2, G, ord3, p3, q3, eG, hSG, hGo, g1, g2, g3, g4⟩ := ih E ord2 p2 q2 (d + 1) (set + 2 ^ w) w z hNE hSE (by omega) hmod (by omega) hpg (by omega) hzW hzok
              simp only [ez, eG, dec1, Option.bind_some, Option.bind_none, bd2, bd3, bd4, nm]
              refine ⟨_, rfl, r2, G, ord3, p3, q3, rfl, hSG, fun k hk => (hGo k hk).trans (hEC k hk), g1, g2, bt2_tr hr3 (bt2_tr hz2 g3), fun x q1 q2 q3 => ?_⟩
              by_cases c2 : 2 ^ (w + 1) ≤ x
              · exact bt2_tr (hr4 x c2 q2 q3) (bt2_tr hz2 g3)
              · by_cases c3 : x = 2 ^ w
                · rw [c3]; exact bt2_tr hz3 g3
                · have := g4 (x - 2 ^ w) (by omega) (by omega)
                  rw [show set + 2 ^ w + (x - 2 ^ w) = set + x by omega] at this
                  exact this q3
            · rw [if_pos rfl]
              simp only [dec1]
              refine ⟨_, rfl, r, E, ord2, p2, q2, rfl, hSE, hEC, hr1, hr2, hr3, fun x q1 q2 q3 => ?_⟩
              by_cases c2 : 2 ^ (w + 1) ≤ x
              · exact hr4 x c2 q2 q3
              · exfalso
                refine hx (Gr_mono (fun v hv => ?_) q3)
                rw [hh] at hv ⊢
                rw [tb_join (show 2 ^ w < 2 ^ (w + 1) by omega)] at hv
                rw [tb_join (show x < 2 ^ (w + 1) by omega)]
                by_cases c3 : v < w + 1
                · rw [if_pos c3, Nat.testBit_two_pow, decide_eq_true_iff] at hv
                  rw [if_pos c3]
                  subst hv
                  exact Nat.testBit_of_two_pow_le_and_two_pow_add_one_gt q1 (by omega)
                · rw [if_neg c3] at hv ⊢
                  exact hv) (by
          rintro y ⟨r, D, ord', p', q', rfl, hS9, hD, hr1, hr2, hr3, hr4⟩
          refine ⟨_, ?_, r, D, ord', p', q', rfl, hS9, hD, hr1, hr2, hr3, fun x q1 q2 q3 => hr4 x ?_ q2 q3⟩
          · show f_X7_largestGranted_L18 (f_X7_largestGranted n) (pt ca S0 D) (ca 7) (nI d) (nI set) (nI r) (nI (w0 - w0) - 1) = _
            rw [Nat.sub_self]
            unfold f_X7_largestGranted_L18
            rw [if_pos nI0m]
          · rw [Nat.sub_self]
            exact q1)
      obtain ⟨y, e1, r, D, ord', p', q', rfl, hS9, hD, hr1, hr2, hr3, hr4⟩ := key
      rw [e1]
      exact ⟨r, D, ord', p', q', rfl, hS9, hD, hr1, hr2, hr3, hr4⟩
    · rw [if_neg (show ¬ nI d < (8 : Int32) from nI_nlt (b := 8) (by omega) (by omega))]
      have hw0 : w0 = 0 := by omega
      refine ⟨best, C, ord, p, q, rfl, hSO, fun _ _ => rfl, h6, h7, bt2_rf best, fun x q1 q2 => ?_⟩
      rw [hw0] at q2
      omega
theorem d_most (hj : injC ca) (hb : b + 27 ≤ 120) (hb2 : 12 ≤ b) (hw : WF σ τ) (h : SC ca σ τ C b) (ht : TOP ca C b) {a r : Int32} (hR : MoR σ τ a r) : ∃ D, f_X7_most (pt ca S0 C) (ca 0) a = some (r, pt ca S0 D) ∧ FR C D ∧ TOP ca D b := by
  have h8 := hw.w8
  unfold f_X7_most
  rw [d_isAsker]
  simp only [ite10, Option.bind_some, Option.bind_none, bd2, bd3, bd4, nm]
  rcases hR with ⟨j, z, rfl, hj9, rfl, hB⟩ | ⟨hn, rfl⟩
  · rw [if_neg (fun c => c (rng4 hj9))]
    obtain ⟨D, m, ord, p, q, eD, hSO, hF, hT⟩ := d_answerWishes (S0 := S0) hj hb hb2 hw h ht hj9
    have sD := SC_FR h hb2 hF
    obtain ⟨x, E, ord', p', q', eE, hSO', hEo, g1, g2, g3, g4⟩ := d_largest (S0 := S0) hj hb hb2 hw h8 10 D ord p q 0 0 (gW σ) 0 sD.2.1 hSO (by omega) (Nat.zero_mod _) (by omega) rfl (by omega) (Nat.two_pow_pos _) (Or.inl rfl)
    have eE' : f_X7_largestGranted 10 (pt ca S0 D) (ca 7) (0 : Int32) (0 : Int32) (nI (gW σ)) (0 : Int32) = some (nI x, pt ca S0 E) := eE
    simp only [pt_ck hj ht.1 (by omega : 0 < 120), eD, pt_gR hj hT.1 (by omega : 0 < 120) (k := 4) rfl, pt_gR hj hT.1 (by omega : 0 < 120) (k := 0) rfl, pt_gR hj sD.1 (by omega : b < 120) (k := 3) rfl, w_g3 hj hb sD.2.2.2.2, eE', Option.bind_some, Option.bind_none, bd2, bd3, bd4, nm]
    have hxz : x = z := Bst_one (i := j) (n := 2 ^ gW σ) ⟨g1, g2, fun c hc hok => by
      by_cases c0 : c = 0
      · subst c0; exact g3
      · have := g4 c (by omega) hc
        rw [Nat.zero_add] at this
        rcases hok with q1 | q1
        · exact absurd q1 c0
        · exact this q1⟩ hB
    rw [hxz]
    exact ⟨E, rfl, FR_tr hF (fun k hk => hEo k (by omega)), TOP_so hT (fun k h1 h2 => hEo k (by omega)) hSO'⟩
  · rw [if_pos hn]
    exact ⟨C, rfl, FR_rf C, ht⟩
end MOST
