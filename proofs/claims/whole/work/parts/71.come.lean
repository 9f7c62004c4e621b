/-! ===== a number comes: widen and add ===== -/
section COME
variable {ca : Nat → Nat} {S0 : PH} {C : Nat → PE} {b : Nat} {σ : SG} {τ : TG}
theorem d_rep18 (hj : injC ca) {r T V t : Nat} (hr : r < 120) (hT : T * V ≤ 4096) (hV : 1 ≤ V) (ht : t < T) (f : Nat → Int64) : ∃ g, lpo (fun x : Int32 × PH => f_X1_repeat_L18 x.2 (ca r) (nI T) (nI V) (nI t) x.1) FU ((1 : Int32), pt ca S0 (va_up C r (eJ 64 f))) = some (pt ca S0 (va_up C r (eJ 64 g))) ∧ ∀ u, u < 4096 → bw g u = (bw f u || decide (T ≤ u ∧ u < T * V ∧ u % T = t)) := by
  have hVT : V ≤ T * V := Nat.le_mul_of_pos_left V (by omega)
  have key := lpo_run (b := fun x : Int32 × PH => f_X1_repeat_L18 x.2 (ca r) (nI T) (nI V) (nI t) x.1)
    (fun n y => ∃ g, y = (nI (n + 1), pt ca S0 (va_up C r (eJ 64 g))) ∧ ∀ u, u < 4096 → bw g u = (bw f u || decide (T ≤ u ∧ u < T * (n + 1) ∧ u % T = t)))
    (fun y => ∃ g, y = pt ca S0 (va_up C r (eJ 64 g)) ∧ ∀ u, u < 4096 → bw g u = (bw f u || decide (T ≤ u ∧ u < T * V ∧ u % T = t))) (V - 1) (by omega) (x := ((1 : Int32), pt ca S0 (va_up C r (eJ 64 f))))
    ⟨f, rfl, fun u hu => by
      rw [decide_eq_false (by rw [Nat.zero_add, Nat.mul_one]; omega), Bool.or_false]⟩ (by
      rintro n y hn ⟨g, rfl, hg⟩
      have gr : va_up C r (eJ 64 g) r = eJ 64 g := va_up_self _ _ _
      have hlt : (n + 1) * T + t < 4096 := by
        have h1 : (n + 2) * T ≤ V * T := Nat.mul_le_mul_right T (by omega)
        have h2 : (n + 2) * T = (n + 1) * T + T := Nat.succ_mul (n + 1) T
        rw [Nat.mul_comm V T] at h1
        omega
      left
      show ∃ x', f_X1_repeat_L18 (pt ca S0 (va_up C r (eJ 64 g))) (ca r) (nI T) (nI V) (nI t) (nI (n + 1)) = _ ∧ _
      unfold f_X1_repeat_L18
      rw [if_neg (by rw [q_le (by omega) (by omega)]; omega), pk_mul, nI_add, show (64 : Int32) = nI 64 from rfl, pk_rem (by omega) (by omega) (by omega), pk_div (by omega) (by omega) (by omega)]
      simp only [pt_ldJ hj gr hr (show ((n + 1) * T + t) / 64 < 64 by omega) (by omega), pt_stJ hj gr hr (show ((n + 1) * T + t) / 64 < 64 by omega) (by omega), va_up_up, nI_1, Option.bind_some, Option.bind_none, bd2, bd3, bd4, nm]
      refine ⟨_, rfl, _, rfl, fun u hu => ?_⟩
      rw [bw_set, hg u hu, Bool.or_assoc]
      congr 1
      have hm : T * (n + 1 + 1) = T * (n + 1) + T := Nat.mul_succ T (n + 1)
      have hc : (n + 1) * T = T * (n + 1) := Nat.mul_comm _ _
      have hge : T * 1 ≤ T * (n + 1) := Nat.mul_le_mul_left T (by omega)
      rw [Bool.eq_iff_iff, Bool.or_eq_true, decide_eq_true_iff, decide_eq_true_iff, decide_eq_true_iff]
      constructor
      · rintro (⟨a1, a2, a3⟩ | a1)
        · exact ⟨a1, by omega, a3⟩
        · subst a1
          refine ⟨by omega, by omega, ?_⟩
          rw [hc, Nat.add_comm, Nat.add_mul_mod_self_left, Nat.mod_eq_of_lt ht]
      · rintro ⟨a1, a2, a3⟩
        by_cases c : u < T * (n + 1)
        · exact Or.inl ⟨a1, c, a3⟩
        · right
          obtain ⟨d, hd⟩ : ∃ d, u = d + T * (n + 1) := ⟨u - T * (n + 1), by omega⟩
          subst hd
          rw [Nat.add_mul_mod_self_left, Nat.mod_eq_of_lt (by omega)] at a3
          omega) (by
      rintro y ⟨g, rfl, hg⟩
      rw [show V - 1 + 1 = V by omega] at hg ⊢
      refine ⟨_, ?_, g, rfl, hg⟩
      show f_X1_repeat_L18 (pt ca S0 (va_up C r (eJ 64 g))) (ca r) (nI T) (nI V) (nI t) (nI V) = _
      unfold f_X1_repeat_L18
      rw [if_pos (by rw [q_le (by omega) (by omega)]; omega)])
  obtain ⟨S', e1, g, rfl, hg⟩ := key
  exact ⟨g, e1, hg⟩
theorem d_repeat (hj : injC ca) {r T V : Nat} {f : Nat → Int64} (hr : r < 120) (hC : C r = eJ 64 f) (hT1 : 1 ≤ T) (hT : T * V ≤ 4096) (hV : 1 ≤ V) : ∃ g, f_X1_repeat (pt ca S0 C) (ca r) (nI T) (nI V) = some (pt ca S0 (va_up C r (eJ 64 g))) ∧ ∀ u, u < 4096 → bw g u = (bw f u || (decide (T ≤ u ∧ u < T * V) && bw f (u % T))) := by
  have hTV : T ≤ T * V := Nat.le_mul_of_pos_right T (by omega)
  have hup : va_up C r (eJ 64 f) = C := by
    funext q
    by_cases e : q = r
    · subst e; rw [va_up_self, hC]
    · rw [va_up_ne _ _ e]
  unfold f_X1_repeat
  have key := lpo_run (b := fun x : Int32 × PH => f_X1_repeat_L2 x.2 (ca r) (nI T) (nI V) x.1)
    (fun n y => ∃ g, y = (nI n, pt ca S0 (va_up C r (eJ 64 g))) ∧ ∀ u, u < 4096 → bw g u = (bw f u || (decide (T ≤ u ∧ u < T * V ∧ u % T < n) && bw f (u % T))))
    (fun y => ∃ g, y = pt ca S0 (va_up C r (eJ 64 g)) ∧ ∀ u, u < 4096 → bw g u = (bw f u || (decide (T ≤ u ∧ u < T * V) && bw f (u % T)))) T (by omega) (x := ((0 : Int32), pt ca S0 C))
    ⟨f, by rw [hup]; rfl, fun u hu => by
      rw [decide_eq_false (by omega), Bool.false_and, Bool.or_false]⟩ (by
      rintro n y hn ⟨g, rfl, hg⟩
      have gr : va_up C r (eJ 64 g) r = eJ 64 g := va_up_self _ _ _
      have hgn : bw g n = bw f n := by
        rw [hg n (by omega), decide_eq_false (by omega), Bool.false_and, Bool.or_false]
      left
      show ∃ x', f_X1_repeat_L2 (pt ca S0 (va_up C r (eJ 64 g))) (ca r) (nI T) (nI V) (nI n) = _ ∧ _
      unfold f_X1_repeat_L2
      rw [if_neg (by rw [q_le (by omega) (by omega)]; omega), d_holds hj hr gr (by omega), hgn]
      simp only [ite10, f_X1_repeat_b55, nI_1, Option.bind_some, Option.bind_none, bd2, bd3, bd4, nm]
      by_cases c : bw f n = true
      · rw [if_neg (fun q => q c)]
        obtain ⟨g2, e2, hg2⟩ := d_rep18 (S0 := S0) (C := C) hj hr hT hV hn g
        rw [e2]
        simp only [Option.bind_some, Option.bind_none, bd2, bd3, bd4, nm]
        refine ⟨_, rfl, g2, rfl, fun u hu => ?_⟩
        rw [hg2 u hu, hg u hu, Bool.or_assoc]
        congr 1
        rw [Bool.eq_iff_iff, Bool.or_eq_true, Bool.and_eq_true, Bool.and_eq_true, decide_eq_true_iff, decide_eq_true_iff, decide_eq_true_iff]
        constructor
        · rintro (⟨⟨a1, a2, a3⟩, a4⟩ | ⟨a1, a2, a3⟩)
          · exact ⟨⟨a1, a2, by omega⟩, a4⟩
          · exact ⟨⟨a1, a2, by omega⟩, by rw [a3]; exact c⟩
        · rintro ⟨⟨a1, a2, a3⟩, a4⟩
          by_cases e : u % T = n
          · exact Or.inr ⟨a1, a2, e⟩
          · exact Or.inl ⟨⟨a1, a2, by omega⟩, a4⟩
      · rw [if_pos c]
        refine ⟨_, rfl, g, rfl, fun u hu => ?_⟩
        rw [hg u hu]
        congr 1
        rw [Bool.eq_iff_iff, Bool.and_eq_true, Bool.and_eq_true, decide_eq_true_iff, decide_eq_true_iff]
        constructor
        · rintro ⟨⟨a1, a2, a3⟩, a4⟩
          exact ⟨⟨a1, a2, by omega⟩, a4⟩
        · rintro ⟨⟨a1, a2, a3⟩, a4⟩
          refine ⟨⟨a1, a2, ?_⟩, a4⟩
          refine Nat.lt_of_le_of_ne (by omega) (fun e => c ?_)
          rw [← e]
          exact a4) (by
      rintro y ⟨g, rfl, hg⟩
      refine ⟨_, ?_, g, rfl, fun u hu => ?_⟩
      · show f_X1_repeat_L2 (pt ca S0 (va_up C r (eJ 64 g))) (ca r) (nI T) (nI V) (nI T) = _
        unfold f_X1_repeat_L2
        rw [if_pos (by rw [q_le (by omega) (by omega)]; omega)]
      · rw [hg u hu]
        have : (T ≤ u ∧ u < T * V ∧ u % T < T) ↔ (T ≤ u ∧ u < T * V) := ⟨fun q => ⟨q.1, q.2.1⟩, fun q => ⟨q.1, q.2, Nat.mod_lt _ (by omega)⟩⟩
        simp only [this])
  obtain ⟨S', e1, g, rfl, hg⟩ := key
  rw [e1]
  exact ⟨g, rfl, hg⟩
theorem d_widen (hj : injC ca) (hb : b + 27 ≤ 120) {ld : Nat → Nat} {lr : Nat → Int32} {fr : Nat → Option Nat} {rows : Nat → Nat → Int64} (h : KX ca σ C b ld lr fr rows) {T V : Nat} (hT1 : 1 ≤ T) (hT : T * V ≤ 4096) (hV : 1 ≤ V) : ∃ (D : Nat → PE) (R : Nat → Nat → Int64), f_X1_widen (pt ca S0 C) (ca (b + 9)) (nI T) (nI V) = some (pt ca S0 D) ∧ (∀ i, i < b + 12 ∨ b + 16 ≤ i → D i = C i) ∧ ∀ a, a < 4 → D (b + 12 + a) = eJ 64 (R a) ∧ (ld a = a → ∀ u, u < 4096 → bw (R a) u = (bw (rows a) u || (decide (T ≤ u ∧ u < T * V) && bw (rows a) (u % T)))) := by
  obtain ⟨h1, h2, h3, h4, h5⟩ := h
  unfold f_X1_widen
  have key := lpo_run (b := fun x : Int32 × PH => f_X1_widen_L2 x.2 (ca (b + 9)) (nI T) (nI V) x.1)
    (fun n y => ∃ (D : Nat → PE) (R : Nat → Nat → Int64), y = (nI n, pt ca S0 D) ∧ (∀ i, i < b + 12 ∨ b + 16 ≤ i → D i = C i) ∧ ∀ a, a < 4 → D (b + 12 + a) = eJ 64 (R a) ∧ (n ≤ a → R a = rows a) ∧ (a < n → ld a = a → ∀ u, u < 4096 → bw (R a) u = (bw (rows a) u || (decide (T ≤ u ∧ u < T * V) && bw (rows a) (u % T)))))
    (fun y => ∃ (D : Nat → PE) (R : Nat → Nat → Int64), y = pt ca S0 D ∧ (∀ i, i < b + 12 ∨ b + 16 ≤ i → D i = C i) ∧ ∀ a, a < 4 → D (b + 12 + a) = eJ 64 (R a) ∧ (ld a = a → ∀ u, u < 4096 → bw (R a) u = (bw (rows a) u || (decide (T ≤ u ∧ u < T * V) && bw (rows a) (u % T))))) 4 (by omega) (x := ((0 : Int32), pt ca S0 C))
    ⟨C, rows, rfl, fun _ _ => rfl, fun a ha => ⟨(h4 a ha).2.1, fun _ => rfl, fun q => absurd q (Nat.not_lt_zero a)⟩⟩ (by
      rintro n y hn ⟨D, R, rfl, hD, hR⟩
      obtain ⟨n1, n2, n3, n4, -⟩ := h4 n hn
      obtain ⟨r1, r2, -⟩ := hR n hn
      have g1 : D (b + 9) = _ := (hD _ (by omega)).trans h1
      have g2 : D (b + 10) = _ := (hD _ (by omega)).trans h2
      have g3 : D (b + 11) = _ := (hD _ (by omega)).trans h3
      left
      show ∃ x', f_X1_widen_L2 (pt ca S0 D) (ca (b + 9)) (nI T) (nI V) (nI n) = _ ∧ _
      unfold f_X1_widen_L2
      rw [if_neg (show ¬ (4 : Int32) ≤ nI n from fun c => by
        have := (nI_leI (a := 4) (by omega) (by omega)).mp c
        omega)]
      simp only [pt_gR hj g1 (by omega : b + 9 < 120) (k := 0) rfl, pt_gR hj g1 (by omega : b + 9 < 120) (k := 1) rfl, pt_ldI hj g2 (by omega : b + 10 < 120) hn (by omega), n3, pt_ldR hj g3 (by omega : b + 11 < 120) hn (by omega) n1, f_X1_widen_b28, nI_1, Option.bind_some, Option.bind_none, bd2, bd3, bd4, nm]
      by_cases c : ld n = n
      · rw [if_pos (congrArg nI c)]
        obtain ⟨g, eg, hg⟩ := d_repeat (S0 := S0) hj (by omega : b + 12 + n < 120) r1 hT1 hT hV
        rw [eg]
        simp only [Option.bind_some, Option.bind_none, bd2, bd3, bd4, nm]
        refine ⟨_, rfl, _, va_up R n g, rfl, fun i hi => (va_up_ne _ _ (by omega)).trans (hD i hi), fun a ha => ?_⟩
        by_cases e : a = n
        · subst e
          rw [va_up_self, va_up_self]
          refine ⟨rfl, fun q => by omega, fun _ _ u hu => ?_⟩
          rw [hg u hu, r2 (Nat.le_refl a)]
        · rw [va_up_ne _ _ (by omega), va_up_ne _ _ e]
          obtain ⟨x1, x2, x3⟩ := hR a ha
          exact ⟨x1, fun q => x2 (by omega), fun q => x3 (by omega)⟩
      · rw [if_neg (fun e => c ((nI_eq (by omega) (by omega)).mp e))]
        refine ⟨_, rfl, D, R, rfl, hD, fun a ha => ?_⟩
        obtain ⟨x1, x2, x3⟩ := hR a ha
        refine ⟨x1, fun q => x2 (by omega), fun q hl => ?_⟩
        by_cases e : a = n
        · subst e; exact absurd hl c
        · exact x3 (by omega) hl) (by
      rintro y ⟨D, R, rfl, hD, hR⟩
      refine ⟨_, ?_, D, R, rfl, hD, fun a ha => ⟨(hR a ha).1, (hR a ha).2.2 ha⟩⟩
      show f_X1_widen_L2 (pt ca S0 D) (ca (b + 9)) (nI T) (nI V) (nI 4) = _
      unfold f_X1_widen_L2
      rw [if_pos (show (4 : Int32) ≤ nI 4 from by decide)])
  obtain ⟨S', e1, D, R, rfl, hD, hR⟩ := key
  rw [e1]
  exact ⟨D, R, rfl, hD, hR⟩
/-- the object of the numbers -/
abbrev oN (ca : Nat → Nat) (b : Nat) (x7 x8 x9 x10 x11 : Int32) : PE := eO 2 [.ref (ca (b + 2)), .ref (ca (b + 3)), .ref (ca (b + 4)), .ref (ca (b + 5)), .ref (ca (b + 6)), .ref (ca (b + 7)), .ref (ca (b + 8)), .int x7, .int x8, .int x9, .int x10, .int x11]
theorem nst (hj : injC ca) (hb : b + 27 ≤ 120) {k : Nat} (hk : k < 7) {n N : Nat} {f : Nat → Int32} {x7 x9 x10 x11 : Int32} (h1 : C (b + 1) = oN ca b x7 (nI N) x9 x10 x11) (hf : C (b + 2 + k) = eI n f) (hN : N < n) (hn : n < 100) (v : Int32) {β : Type} (K : PH → Option β) : ((gR (pt ca S0 C) (ca (b + 1)) 2 k).bind fun x1 => (gI (pt ca S0 C) (ca (b + 1)) 2 8).bind fun x2 => (stI (pt ca S0 C) x1 x2 v).bind K) = K (pt ca S0 (va_up C (b + 2 + k) (eI n (upd f N v)))) := by
  have hg : gR (pt ca S0 C) (ca (b + 1)) 2 k = some (ca (b + 2 + k)) := by
    refine pt_gR hj h1 (by omega) ?_
    match k, hk with
    | 0, _ => rfl
    | 1, _ => rfl
    | 2, _ => rfl
    | 3, _ => rfl
    | 4, _ => rfl
    | 5, _ => rfl
    | 6, _ => rfl
  rw [hg]
  simp only [pt_gI hj h1 (by omega : b + 1 < 120) (k := 8) rfl, pt_stI hj hf (by omega : b + 2 + k < 120) hN (by omega), Option.bind_some]
theorem gC_many {P p v l g d n : Nat} (hn : n < gN σ) : many (gC σ P p v l g d) n = many σ n := by
  show (if n = gN σ then g else hi σ n) - (if n = gN σ then l else lo σ n) + 1 = _
  rw [if_neg (by omega), if_neg (by omega)]
  rfl
theorem gC_fbt {P p v l g d n : Nat} (hn : n ≤ gN σ) : fbt (gC σ P p v l g d) n = fbt σ n := by
  unfold fbt
  rw [sm_congr n (fun k hk => gC_many (show k < gN σ by omega))]
theorem gC_fbt1 {P p v l g d : Nat} : fbt (gC σ P p v l g d) (gN σ + 1) = fbt σ (gN σ) + (g - l + 1) := by
  rw [fbt_1, gC_fbt (Nat.le_refl _)]
  show _ + ((if gN σ = gN σ then g else hi σ (gN σ)) - (if gN σ = gN σ then l else lo σ (gN σ)) + 1) = _
  rw [if_pos rfl, if_pos rfl]
theorem d_add (hj : injC ca) (hb : b + 27 ≤ 120) {cu ow le gr ne va fi : Nat → Int32} {P p v l g d : Nat} (h1 : C (b + 1) = oN ca b (nI P) (nI (gN σ)) (nI (gT σ)) (nI (sm (hi σ) (gN σ))) (nI (fbt σ (gN σ)))) (h2 : C (b + 2) = eI 8 cu) (h3 : C (b + 3) = eI 10 ow) (h4 : C (b + 4) = eI 10 le) (h5 : C (b + 5) = eI 10 gr) (h6 : C (b + 6) = eI 10 ne) (h7 : C (b + 7) = eI 10 va) (h8 : C (b + 8) = eI 10 fi) (h9 : ∀ q, q < gP σ → cu q = nI (cur σ q)) (h10 : ∀ n, n < gN σ → ow n = nI (own σ n) ∧ le n = nI (lo σ n) ∧ gr n = nI (hi σ n) ∧ ne n = nI (nd σ n) ∧ va n = nI (vl σ n) ∧ fi n = nI (fbt σ n)) (hP' : (P = gP σ ∧ p < gP σ) ∨ (P = gP σ + 1 ∧ p = gP σ)) (hP8 : P ≤ 8) (hN : gN σ < 10) (hlg : l ≤ g) : ∃ D, f_X2_add (pt ca S0 C) (ca (b + 1)) (nI p) (nI v) (nI l) (nI g) (nI d) = some (pt ca S0 D) ∧ NC ca (gC σ P p v l g d) D b ∧ ∀ i, i ≤ b ∨ b + 9 ≤ i → D i = C i := by
  obtain ⟨C1, hC1⟩ : ∃ X, X = va_up C (b + 2 + 1) (eI 10 (upd ow (gN σ) (nI p))) := ⟨_, rfl⟩
  obtain ⟨C2, hC2⟩ : ∃ X, X = va_up C1 (b + 2 + 2) (eI 10 (upd le (gN σ) (nI l))) := ⟨_, rfl⟩
  obtain ⟨C3, hC3⟩ : ∃ X, X = va_up C2 (b + 2 + 3) (eI 10 (upd gr (gN σ) (nI g))) := ⟨_, rfl⟩
  obtain ⟨C4, hC4⟩ : ∃ X, X = va_up C3 (b + 2 + 4) (eI 10 (upd ne (gN σ) (nI d))) := ⟨_, rfl⟩
  obtain ⟨C5, hC5⟩ : ∃ X, X = va_up C4 (b + 2 + 5) (eI 10 (upd va (gN σ) (nI v))) := ⟨_, rfl⟩
  obtain ⟨C6, hC6⟩ : ∃ X, X = va_up C5 (b + 8) (eI 10 (upd fi (gN σ) (nI (fbt σ (gN σ))))) := ⟨_, rfl⟩
  obtain ⟨C7, hC7⟩ : ∃ X, X = va_up C6 (b + 2) (eI 8 (upd cu p (nI (gN σ)))) := ⟨_, rfl⟩
  have o1 : ∀ i, i ≠ b + 2 + 1 → C1 i = C i := fun i hi => by rw [hC1, va_up_ne _ _ hi]
  have o2 : ∀ i, i ≠ b + 2 + 2 → C2 i = C1 i := fun i hi => by rw [hC2, va_up_ne _ _ hi]
  have o3 : ∀ i, i ≠ b + 2 + 3 → C3 i = C2 i := fun i hi => by rw [hC3, va_up_ne _ _ hi]
  have o4 : ∀ i, i ≠ b + 2 + 4 → C4 i = C3 i := fun i hi => by rw [hC4, va_up_ne _ _ hi]
  have o5 : ∀ i, i ≠ b + 2 + 5 → C5 i = C4 i := fun i hi => by rw [hC5, va_up_ne _ _ hi]
  have o6 : ∀ i, i ≠ b + 8 → C6 i = C5 i := fun i hi => by rw [hC6, va_up_ne _ _ hi]
  have o7 : ∀ i, i ≠ b + 2 → C7 i = C6 i := fun i hi => by rw [hC7, va_up_ne _ _ hi]
  have a1 : C1 (b + 1) = _ := (o1 _ (by omega)).trans h1
  have a2 : C2 (b + 1) = _ := (o2 _ (by omega)).trans a1
  have a3 : C3 (b + 1) = _ := (o3 _ (by omega)).trans a2
  have a4 : C4 (b + 1) = _ := (o4 _ (by omega)).trans a3
  have a5 : C5 (b + 1) = _ := (o5 _ (by omega)).trans a4
  have a6 : C6 (b + 1) = _ := (o6 _ (by omega)).trans a5
  have a7 : C7 (b + 1) = _ := (o7 _ (by omega)).trans a6
  have r2 : C1 (b + 2 + 2) = _ := (o1 _ (by omega)).trans h4
  have r3 : C2 (b + 2 + 3) = _ := (o2 _ (by omega)).trans ((o1 _ (by omega)).trans h5)
  have r4 : C3 (b + 2 + 4) = _ := (o3 _ (by omega)).trans ((o2 _ (by omega)).trans ((o1 _ (by omega)).trans h6))
  have r5 : C4 (b + 2 + 5) = _ := (o4 _ (by omega)).trans ((o3 _ (by omega)).trans ((o2 _ (by omega)).trans ((o1 _ (by omega)).trans h7)))
  have r6 : C5 (b + 8) = _ := (o5 _ (by omega)).trans ((o4 _ (by omega)).trans ((o3 _ (by omega)).trans ((o2 _ (by omega)).trans ((o1 _ (by omega)).trans h8))))
  have r7 : C6 (b + 2) = _ := (o6 _ (by omega)).trans ((o5 _ (by omega)).trans ((o4 _ (by omega)).trans ((o3 _ (by omega)).trans ((o2 _ (by omega)).trans ((o1 _ (by omega)).trans h2)))))
  have s4 : C7 (b + 4) = eI 10 (upd le (gN σ) (nI l)) := by rw [o7 _ (by omega), o6 _ (by omega), o5 _ (by omega), o4 _ (by omega), o3 _ (by omega), hC2, show b + 2 + 2 = b + 4 by omega, va_up_self]
  have s5 : C7 (b + 5) = eI 10 (upd gr (gN σ) (nI g)) := by rw [o7 _ (by omega), o6 _ (by omega), o5 _ (by omega), o4 _ (by omega), hC3, show b + 2 + 3 = b + 5 by omega, va_up_self]
  have hout : ∀ i, i ≤ b + 1 ∨ b + 9 ≤ i → C7 i = C i := fun i hi => by rw [o7 _ (by omega), o6 _ (by omega), o5 _ (by omega), o4 _ (by omega), o3 _ (by omega), o2 _ (by omega), o1 _ (by omega)]
  have hp8 : p < 8 := by omega
  unfold f_X2_add
  have main : ∀ {β : Type} (K : PH → Option β), ((gR (pt ca S0 C) (ca (b + 1)) 2 1).bind fun x1 =>
(gI (pt ca S0 C) (ca (b + 1)) 2 8).bind fun x2 =>
(stI (pt ca S0 C) x1 x2 (nI p)).bind fun S3 =>
(gR S3 (ca (b + 1)) 2 2).bind fun x4 =>
(gI S3 (ca (b + 1)) 2 8).bind fun x5 =>
(stI S3 x4 x5 (nI l)).bind fun S6 =>
(gR S6 (ca (b + 1)) 2 3).bind fun x7 =>
(gI S6 (ca (b + 1)) 2 8).bind fun x8 =>
(stI S6 x7 x8 (nI g)).bind fun S9 =>
(gR S9 (ca (b + 1)) 2 4).bind fun x10 =>
(gI S9 (ca (b + 1)) 2 8).bind fun x11 =>
(stI S9 x10 x11 (nI d)).bind fun S12 =>
(gR S12 (ca (b + 1)) 2 5).bind fun x13 =>
(gI S12 (ca (b + 1)) 2 8).bind fun x14 =>
(stI S12 x13 x14 (nI v)).bind K) = K (pt ca S0 C5) := by
    intro β K
    refine (nst (k := 1) hj hb (by omega) h1 h3 hN (by omega) (nI p) _).trans ?_
    rw [← hC1]
    refine (nst (k := 2) hj hb (by omega) a1 r2 hN (by omega) (nI l) _).trans ?_
    rw [← hC2]
    refine (nst (k := 3) hj hb (by omega) a2 r3 hN (by omega) (nI g) _).trans ?_
    rw [← hC3]
    refine (nst (k := 4) hj hb (by omega) a3 r4 hN (by omega) (nI d) _).trans ?_
    rw [← hC4]
    refine (nst (k := 5) hj hb (by omega) a4 r5 hN (by omega) (nI v) _).trans ?_
    rw [← hC5]
  rw [main]
  simp only [pt_gR hj a5 (by omega : b + 1 < 120) (k := 6) rfl, pt_gI hj a5 (by omega : b + 1 < 120) (k := 8) rfl, pt_gI hj a5 (by omega : b + 1 < 120) (k := 11) rfl, pt_stI hj r6 (by omega : b + 8 < 120) hN (by omega), ← hC6, Option.bind_some, Option.bind_none, bd2, bd3, bd4, nm]
  simp only [pt_gR hj a6 (by omega : b + 1 < 120) (k := 0) rfl, pt_gI hj a6 (by omega : b + 1 < 120) (k := 8) rfl, pt_stI hj r7 (by omega : b + 2 < 120) hp8 (by omega), ← hC7, Option.bind_some, Option.bind_none, bd2, bd3, bd4, nm]
  have hvc : ∀ D : Nat → PE, (∀ x7 x8 x9 x10 x11, D (b + 1) = oN ca b x7 x8 x9 x10 x11 → D (b + 4) = C7 (b + 4) → D (b + 5) = C7 (b + 5) → f_X2_valueCount (pt ca S0 D) (ca (b + 1)) (nI (gN σ)) = some (nI (g - l + 1))) := by
    intro D x7 x8 x9 x10 x11 q1 q4 q5
    rw [s4] at q4
    rw [s5] at q5
    unfold f_X2_valueCount
    simp only [pt_gR hj q1 (by omega : b + 1 < 120) (k := 3) rfl, pt_gR hj q1 (by omega : b + 1 < 120) (k := 2) rfl, pt_ldI hj q5 (by omega : b + 5 < 120) hN (by omega), pt_ldI hj q4 (by omega : b + 4 < 120) hN (by omega), pk_us, Option.bind_some, Option.bind_none, bd2, bd3, bd4, nm]
    rw [q_sub hlg, nI_1]
  simp only [pt_gI hj a7 (by omega : b + 1 < 120) (k := 11) rfl, pt_gI hj a7 (by omega : b + 1 < 120) (k := 8) rfl, pt_ck hj a7 (by omega : b + 1 < 120), hvc C7 _ _ _ _ _ a7 rfl rfl, nI_add, pt_pI hj a7 (by omega : b + 1 < 120) (show 11 < 12 by omega), Option.bind_some, Option.bind_none, bd2, bd3, bd4, nm]
  have b7 : va_up C7 (b + 1) (oN ca b (nI P) (nI (gN σ)) (nI (gT σ)) (nI (sm (hi σ) (gN σ))) (nI (fbt σ (gN σ) + (g - l + 1)))) (b + 1) = oN ca b (nI P) (nI (gN σ)) (nI (gT σ)) (nI (sm (hi σ) (gN σ))) (nI (fbt σ (gN σ) + (g - l + 1))) := va_up_self _ _ _
  have c7 : va_up C7 (b + 1) (oN ca b (nI P) (nI (gN σ)) (nI (gT σ * (g - l + 1))) (nI (sm (hi σ) (gN σ))) (nI (fbt σ (gN σ) + (g - l + 1)))) (b + 1) = oN ca b (nI P) (nI (gN σ)) (nI (gT σ * (g - l + 1))) (nI (sm (hi σ) (gN σ))) (nI (fbt σ (gN σ) + (g - l + 1))) := va_up_self _ _ _
  have d7 : va_up C7 (b + 1) (oN ca b (nI P) (nI (gN σ)) (nI (gT σ * (g - l + 1))) (nI (sm (hi σ) (gN σ) + g)) (nI (fbt σ (gN σ) + (g - l + 1)))) (b + 1) = oN ca b (nI P) (nI (gN σ)) (nI (gT σ * (g - l + 1))) (nI (sm (hi σ) (gN σ) + g)) (nI (fbt σ (gN σ) + (g - l + 1))) := va_up_self _ _ _
  simp only [List.set_cons_succ, List.set_cons_zero]
  simp only [pt_gI hj b7 (by omega : b + 1 < 120) (k := 9) rfl, pt_gI hj b7 (by omega : b + 1 < 120) (k := 8) rfl, pt_ck hj b7 (by omega : b + 1 < 120), hvc _ _ _ _ _ _ b7 (va_up_ne _ _ (by omega)) (va_up_ne _ _ (by omega)), pk_mul, pt_pI hj b7 (by omega : b + 1 < 120) (show 9 < 12 by omega), va_up_up, List.set_cons_succ, List.set_cons_zero, Option.bind_some, Option.bind_none, bd2, bd3, bd4, nm]
  simp only [pt_gI hj c7 (by omega : b + 1 < 120) (k := 10) rfl, nI_add, pt_pI hj c7 (by omega : b + 1 < 120) (show 10 < 12 by omega), va_up_up, List.set_cons_succ, List.set_cons_zero, Option.bind_some, Option.bind_none, bd2, bd3, bd4, nm]
  simp only [pt_gI hj d7 (by omega : b + 1 < 120) (k := 8) rfl, nI_1, pt_pI hj d7 (by omega : b + 1 < 120) (show 8 < 12 by omega), va_up_up, List.set_cons_succ, List.set_cons_zero, Option.bind_some, Option.bind_none, bd2, bd3, bd4, nm]
  refine ⟨_, rfl, ⟨upd cu p (nI (gN σ)), upd ow (gN σ) (nI p), upd le (gN σ) (nI l), upd gr (gN σ) (nI g), upd ne (gN σ) (nI d), upd va (gN σ) (nI v), upd fi (gN σ) (nI (fbt σ (gN σ))), ?_, ?_, ?_, ?_, ?_, ?_, ?_, ?_, fun q hq => ?_, fun n hn => ?_⟩, fun i hi => ?_⟩
  · rw [va_up_self, gC_T, show gN (gC σ P p v l g d) = gN σ + 1 from rfl, gC_sm, gC_fbt1]
    rfl
  · rw [va_up_ne _ _ (by omega), hC7, va_up_self]
  · rw [va_up_ne _ _ (by omega), o7 _ (by omega), o6 _ (by omega), o5 _ (by omega), o4 _ (by omega), o3 _ (by omega), o2 _ (by omega), hC1, show b + 2 + 1 = b + 3 by omega, va_up_self]
  · rw [va_up_ne _ _ (by omega)]; exact s4
  · rw [va_up_ne _ _ (by omega)]; exact s5
  · rw [va_up_ne _ _ (by omega), o7 _ (by omega), o6 _ (by omega), o5 _ (by omega), hC4, show b + 2 + 4 = b + 6 by omega, va_up_self]
  · rw [va_up_ne _ _ (by omega), o7 _ (by omega), o6 _ (by omega), hC5, show b + 2 + 5 = b + 7 by omega, va_up_self]
  · rw [va_up_ne _ _ (by omega), o7 _ (by omega), hC6, va_up_self]
  · have hq' : q < P := hq
    show _ = nI (if q = p then gN σ else cur σ q)
    by_cases e : q = p
    · rw [if_pos e, e, pk_us]
    · rw [if_neg e, pk_un e]
      exact h9 q (by omega)
  · have hn' : n < gN σ + 1 := hn
    have hfb : fbt (gC σ P p v l g d) n = fbt σ n := gC_fbt (by omega)
    rw [hfb]
    show _ = nI (if n = gN σ then p else own σ n) ∧ _ = nI (if n = gN σ then l else lo σ n) ∧ _ = nI (if n = gN σ then g else hi σ n) ∧ _ = nI (if n = gN σ then d else nd σ n) ∧ _ = nI (if n = gN σ then v else vl σ n) ∧ _
    by_cases e : n = gN σ
    · subst e
      rw [if_pos rfl, if_pos rfl, if_pos rfl, if_pos rfl, if_pos rfl, pk_us, pk_us, pk_us, pk_us, pk_us, pk_us]
      exact ⟨rfl, rfl, rfl, rfl, rfl, rfl⟩
    · rw [if_neg e, if_neg e, if_neg e, if_neg e, if_neg e, pk_un e, pk_un e, pk_un e, pk_un e, pk_un e, pk_un e]
      exact h10 n (by omega)
  · rw [va_up_ne _ _ (by omega)]
    exact hout i (by omega)
end COME
