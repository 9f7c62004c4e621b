/-! ===== marks: a table's values as bits ===== -/
def dg (σ : SG) (t n : Nat) : Nat := t / stp σ n % many σ n
theorem valt_dg (σ : SG) (t n : Nat) : valt σ t n = lo σ n + dg σ t n := rfl
theorem dg_lt (σ : SG) (t n : Nat) : dg σ t n < many σ n := Nat.mod_lt _ (many_pos σ n)
theorem stp_far {σ : SG} {k : Nat} : ∀ n, k < n → ∃ q, stp σ n = stp σ k * many σ k * q
  | 0, h => absurd h (Nat.not_lt_zero k)
  | n + 1, h => by
    by_cases e : k = n
    · subst e
      exact ⟨1, (Nat.mul_one _).symm⟩
    · obtain ⟨q, hq⟩ := stp_far (σ := σ) (k := k) n (by omega)
      refine ⟨q * many σ n, ?_⟩
      show stp σ n * many σ n = _
      rw [hq, Nat.mul_assoc]
theorem dg_mod {σ : SG} {t k n : Nat} (h : k < n) : dg σ (t % stp σ n) k = dg σ t k := by
  obtain ⟨q, hq⟩ := stp_far (σ := σ) n h
  have h1 : t = t % stp σ n + stp σ k * (many σ k * (q * (t / stp σ n))) := by
    have := Nat.mod_add_div t (stp σ n)
    rw [← Nat.mul_assoc, ← Nat.mul_assoc, ← hq]
    omega
  unfold dg
  conv => rhs; rw [h1]
  rw [Nat.add_mul_div_left _ _ (stp_pos σ k), Nat.add_mul_mod_self_left]
theorem dg_top {σ : SG} {t n : Nat} (h : t < stp σ (n + 1)) : t / stp σ n < many σ n ∧ dg σ t n = t / stp σ n := by
  have h1 : t / stp σ n < many σ n := Nat.div_lt_of_lt_mul h
  exact ⟨h1, Nat.mod_eq_of_lt h1⟩
def mark (σ : SG) (t : Nat) : Nat → Nat
  | 0 => 1
  | n + 1 => mark σ t n ||| 2 ^ (fbt σ n + dg σ t n)
theorem mark_mod {σ : SG} {t n : Nat} : ∀ m, m ≤ n → mark σ (t % stp σ n) m = mark σ t m
  | 0, _ => rfl
  | m + 1, h => by
    show mark σ (t % stp σ n) m ||| 2 ^ (fbt σ m + dg σ (t % stp σ n) m) = mark σ t m ||| 2 ^ (fbt σ m + dg σ t m)
    rw [mark_mod m (by omega), dg_mod (by omega)]
theorem mark_bit {σ : SG} {t i : Nat} : ∀ n, (mark σ t n).testBit i = true ↔ i = 0 ∨ ∃ k, k < n ∧ i = fbt σ k + dg σ t k
  | 0 => by
    show (1 : Nat).testBit i = true ↔ _
    rw [show (1 : Nat) = 2 ^ 0 from rfl, Nat.testBit_two_pow]
    simp
    exact eq_comm
  | n + 1 => by
    show (mark σ t n ||| 2 ^ (fbt σ n + dg σ t n)).testBit i = true ↔ _
    rw [Nat.testBit_or, Bool.or_eq_true, mark_bit n, Nat.testBit_two_pow, decide_eq_true_iff]
    constructor
    · rintro ((h | ⟨k, hk, h⟩) | h)
      · exact Or.inl h
      · exact Or.inr ⟨k, by omega, h⟩
      · exact Or.inr ⟨n, by omega, h.symm⟩
    · rintro (h | ⟨k, hk, h⟩)
      · exact Or.inl (Or.inl h)
      · by_cases e : k = n
        · subst e
          exact Or.inr h.symm
        · exact Or.inl (Or.inr ⟨k, by omega, h⟩)
/-! ===== all marks fit into 60 bits ===== -/
def gg (s : Nat) : Nat := 21 ^ (s / 20) * (1 + s % 20)
theorem gg_d : ∀ r, r < 20 → ∀ x, x < 21 → 20 ≤ r + x → 21 * (1 + (r + x - 20)) ≤ (1 + r) * (1 + x) := by decide +kernel
theorem gg_step {s x : Nat} (hx : x ≤ 20) : gg (s + x) ≤ gg s * (1 + x) := by
  unfold gg
  by_cases h : s % 20 + x < 20
  · have e1 : (s + x) / 20 = s / 20 := by omega
    have e2 : (s + x) % 20 = s % 20 + x := by omega
    rw [e1, e2, Nat.mul_assoc]
    refine Nat.mul_le_mul_left _ ?_
    have : (1 + s % 20) * (1 + x) = 1 + s % 20 + x + s % 20 * x := by rw [Nat.mul_add, Nat.mul_one, Nat.add_mul, Nat.one_mul]; omega
    omega
  · have e1 : (s + x) / 20 = s / 20 + 1 := by omega
    have e2 : (s + x) % 20 = s % 20 + x - 20 := by omega
    rw [e1, e2, Nat.pow_succ, Nat.mul_assoc, Nat.mul_assoc]
    exact Nat.mul_le_mul_left _ (gg_d _ (by omega) x (by omega) (by omega))
theorem gg_stp {σ : SG} {τ : TG} (hw : WF σ τ) : ∀ n, n ≤ gN σ → gg (sm (fun k => many σ k - 1) n) ≤ stp σ n
  | 0, _ => by show gg 0 ≤ 1; decide
  | n + 1, h => by
    have h1 := hw.num (show n < gN σ by omega)
    have h2 : many σ n ≤ 21 := by unfold many; omega
    have h3 := many_pos σ n
    show gg (sm (fun k => many σ k - 1) n + (many σ n - 1)) ≤ stp σ n * many σ n
    refine Nat.le_trans (gg_step (by omega)) ?_
    rw [show 1 + (many σ n - 1) = many σ n by omega]
    exact Nat.mul_le_mul_right _ (gg_stp hw n (by omega))
theorem gg_49 {s : Nat} (h : gg s ≤ 4096) : s ≤ 48 := by
  unfold gg at h
  by_cases h1 : s / 20 ≤ 1
  · omega
  · by_cases h2 : s / 20 = 2
    · rw [h2] at h
      omega
    · have h3 : 21 ^ 3 ≤ 21 ^ (s / 20) := Nat.pow_le_pow_right (by omega) (by omega)
      have h4 : 21 ^ (s / 20) * 1 ≤ 21 ^ (s / 20) * (1 + s % 20) := Nat.mul_le_mul_left _ (by omega)
      omega
theorem sm_m1 {σ : SG} : ∀ n, sm (many σ) n = sm (fun k => many σ k - 1) n + n
  | 0 => rfl
  | n + 1 => by
    have h3 := many_pos σ n
    show sm (many σ) n + many σ n = sm (fun k => many σ k - 1) n + (many σ n - 1) + (n + 1)
    rw [sm_m1 n]
    omega
theorem fbt_59 {σ : SG} {τ : TG} (hw : WF σ τ) : fbt σ (gN σ) ≤ 59 := by
  have h1 := gg_49 (Nat.le_trans (gg_stp hw (gN σ) (Nat.le_refl _)) hw.tle)
  have h2 := sm_m1 (σ := σ) (gN σ)
  have h3 := hw.n10
  unfold fbt
  omega
theorem fbt_1 (σ : SG) (n : Nat) : fbt σ (n + 1) = fbt σ n + many σ n := by
  show 1 + (sm (many σ) n + many σ n) = 1 + sm (many σ) n + many σ n
  omega
theorem fbt_le {σ : SG} {k n : Nat} (h : k < n) : fbt σ k + many σ k ≤ fbt σ n := by
  rw [← fbt_1]
  exact Nat.add_le_add_left (sm_le h) 1
theorem fbt_pos (σ : SG) (n : Nat) : 1 ≤ fbt σ n := by unfold fbt; omega
theorem fbt_dis {σ : SG} {n k v d : Nat} (hv : v < many σ n) (hd : d < many σ k) (h : fbt σ n + v = fbt σ k + d) : n = k ∧ v = d := by
  rcases Nat.lt_trichotomy n k with e | e | e
  · have := fbt_le (σ := σ) e
    omega
  · subst e
    exact ⟨rfl, by omega⟩
  · have := fbt_le (σ := σ) e
    omega
theorem mark_lt {σ : SG} {τ : TG} (hw : WF σ τ) {t n : Nat} (hn : n ≤ gN σ) : mark σ t n < 2 ^ 60 := by
  refine Nat.lt_pow_two_of_testBit _ (fun i hi => ?_)
  refine ts_nt (fun q => ?_)
  have h1 := fbt_59 hw
  rcases (mark_bit n).mp q with h | ⟨k, hk, h⟩
  · omega
  · have h2 := dg_lt σ t k
    have h3 := fbt_le (σ := σ) (show k < gN σ by omega)
    omega
theorem mark_vb {σ : SG} {t n v : Nat} (hn : n < gN σ) (hv : v < many σ n) : (mark σ t (gN σ)).testBit (fbt σ n + v) = true ↔ dg σ t n = v := by
  rw [mark_bit]
  constructor
  · rintro (h | ⟨k, hk, h⟩)
    · have := fbt_pos σ n
      omega
    · obtain ⟨h1, h2⟩ := fbt_dis hv (dg_lt σ t k) h
      subst h1
      exact h2.symm
  · intro h
    exact Or.inr ⟨n, hn, by rw [h]⟩
/-- the marks of the tables of D, or-ed -/
def SM (σ : SG) (X : Nat) (D : Nat → Prop) : Prop := X < 2 ^ 60 ∧ (X = 0 ↔ ∀ t, ¬ D t) ∧ ∀ n, n < gN σ → ∀ v, v < many σ n → (X.testBit (fbt σ n + v) = true ↔ ∃ t, D t ∧ dg σ t n = v)
theorem SM_0 {σ : SG} {D : Nat → Prop} (h : ∀ t, ¬ D t) : SM σ 0 D := by
  refine ⟨by decide, ⟨fun _ => h, fun _ => rfl⟩, fun n hn v hv => ?_⟩
  rw [Nat.zero_testBit]
  constructor
  · intro q; cases q
  · rintro ⟨t, ht, -⟩; exact absurd ht (h t)
theorem SM_or {σ : SG} {τ : TG} (hw : WF σ τ) {X t : Nat} {D E : Nat → Prop} (h : SM σ X D) (hE : ∀ q, E q ↔ D q ∨ q = t) : SM σ (X ||| mark σ t (gN σ)) E := by
  have hm := mark_lt hw (t := t) (Nat.le_refl (gN σ))
  have hb0 : (mark σ t (gN σ)).testBit 0 = true := (mark_bit _).mpr (Or.inl rfl)
  refine ⟨Nat.or_lt_two_pow h.1 hm, ⟨fun q => ?_, fun q => absurd ((hE t).mpr (Or.inr rfl)) (q t)⟩, fun n hn v hv => ?_⟩
  · exfalso
    have : (X ||| mark σ t (gN σ)).testBit 0 = true := by rw [Nat.testBit_or, hb0, Bool.or_true]
    rw [q] at this
    cases this
  · rw [Nat.testBit_or, Bool.or_eq_true, mark_vb hn hv, h.2.2 n hn v hv]
    constructor
    · rintro (⟨u, hu, e⟩ | e)
      · exact ⟨u, (hE u).mpr (Or.inl hu), e⟩
      · exact ⟨t, (hE t).mpr (Or.inr rfl), e⟩
    · rintro ⟨u, hu, e⟩
      rcases (hE u).mp hu with h1 | h1
      · exact Or.inl ⟨u, h1, e⟩
      · subst h1; exact Or.inr e
theorem SM_iff {σ : SG} {X : Nat} {D E : Nat → Prop} (h : SM σ X D) (hE : ∀ q, D q ↔ E q) : SM σ X E := by
  refine ⟨h.1, h.2.1.trans ⟨fun q t => fun x => q t ((hE t).mpr x), fun q t => fun x => q t ((hE t).mp x)⟩, fun n hn v hv => (h.2.2 n hn v hv).trans ⟨?_, ?_⟩⟩
  · rintro ⟨t, x, y⟩; exact ⟨t, (hE t).mp x, y⟩
  · rintro ⟨t, x, y⟩; exact ⟨t, (hE t).mpr x, y⟩
abbrev vin (σ : SG) (X n : Nat) : Nat := X / 2 ^ fbt σ n % 2 ^ many σ n
theorem vin_bit {σ : SG} {X n v : Nat} : (vin σ X n).testBit v = (decide (v < many σ n) && X.testBit (fbt σ n + v)) := by
  rw [Nat.testBit_mod_two_pow, Nat.testBit_div_two_pow, Nat.add_comm v]
theorem mask_21 : ∀ p, p < 22 → (((1 : Int32) <<< (nI p &&& 31)) - 1).toBitVec.toNat = 2 ^ p - 1 := by decide +kernel
/-! ===== the lowest bit ===== -/
theorem low_ex : ∀ n z, z < n → 0 < z → ∃ l m, z = 2 ^ l * (2 * m + 1)
  | 0, z, h, _ => absurd h (Nat.not_lt_zero z)
  | n + 1, z, h, h0 => by
    by_cases e : z % 2 = 1
    · exact ⟨0, z / 2, by omega⟩
    · obtain ⟨l, m, hm⟩ := low_ex n (z / 2) (by omega) (by omega)
      refine ⟨l + 1, m, ?_⟩
      rw [Nat.pow_succ, Nat.mul_comm (2 ^ l) 2, Nat.mul_assoc, ← hm]
      omega
theorem low_bit {z : Nat} (h0 : 0 < z) (hz : z < 2 ^ 64) : ∃ l, z.testBit l = true ∧ (∀ i, z.testBit i = true → l ≤ i) ∧ lN z &&& -(lN z) = lN (2 ^ l) := by
  obtain ⟨l, m, hm⟩ := low_ex (z + 1) z (by omega) h0
  have hb : ∀ i, z.testBit i = (decide (i ≥ l) && (2 * m + 1).testBit (i - l)) := fun i => by rw [hm, Nat.testBit_two_pow_mul]
  have hl : z.testBit l = true := by rw [hb, Nat.sub_self]; simp
  have hl64 : l < 64 := Nat.lt_of_not_le fun q => by
    have h1 := Nat.ge_two_pow_of_testBit hl
    have h2 : 2 ^ 64 ≤ 2 ^ l := Nat.pow_le_pow_right (by omega) q
    omega
  refine ⟨l, hl, fun i hi => ?_, ?_⟩
  · rw [hb] at hi
    simp at hi
    exact hi.1
  · have hneg : -(lN z) = lN (2 ^ 64 - z) := by
      refine wb_inj ?_
      rw [Int64.toBitVec_neg, wb_tb, wb_tb]
      apply BitVec.eq_of_toNat_eq
      rw [BitVec.toNat_neg, BitVec.toNat_ofNat, BitVec.toNat_ofNat, Nat.mod_eq_of_lt hz]
    rw [hneg, wb_and hz (by omega)]
    congr 1
    apply Nat.eq_of_testBit_eq
    intro i
    rw [Nat.testBit_and, Nat.testBit_two_pow, show 2 ^ 64 - z = 2 ^ 64 - ((z - 1) + 1) by omega, Nat.testBit_two_pow_sub_succ (by omega)]
    have hz1 : z - 1 = 2 ^ l * (2 * m) + (2 ^ l - 1) := by
      have := Nat.two_pow_pos l
      rw [hm, Nat.mul_add, Nat.mul_one]
      omega
    have h2 : (z - 1).testBit i = if i < l then (2 ^ l - 1).testBit i else (2 * m).testBit (i - l) := by
      have := Nat.two_pow_pos l
      rw [hz1, Nat.testBit_two_pow_mul_add _ (by omega)]
    rw [h2, hb]
    by_cases e1 : i < l
    · rw [if_pos e1]
      have : ¬ i ≥ l := by omega
      simp [this]
      omega
    · rw [if_neg e1]
      by_cases e2 : i = l
      · subst e2
        simp [hl64]
      · obtain ⟨d, hd⟩ : ∃ d, i - l = d + 1 := ⟨i - l - 1, by omega⟩
        rw [hd, Nat.testBit_succ, Nat.testBit_succ, show (2 * m + 1) / 2 = m by omega, show 2 * m / 2 = m by omega]
        have : ¬ l = i := fun q => e2 q.symm
        simp [this]
        intro _ q
        simp [q]
section MARK
variable {ca : Nat → Nat} {S0 : PH} {C : Nat → PE} {b : Nat} {σ : SG} {τ : TG}
theorem d_valuesIn (hj : injC ca) (hb : b + 27 ≤ 120) (hw : WF σ τ) (h : NC ca σ C b) {n X : Nat} (hn : n < gN σ) (hX : X < 2 ^ 60) : f_X2_valuesIn (pt ca S0 C) (ca (b + 1)) (nI n) (lN X) = some (nI (vin σ X n)) ∧ vin σ X n < 2 ^ 21 := by
  have h1 := hw.num hn
  have h2 : many σ n ≤ 21 := by unfold many; omega
  have h3 := fbt_59 hw
  have h4 := fbt_le (σ := σ) hn
  have h5 : 2 ^ many σ n ≤ 2 ^ 21 := Nat.pow_le_pow_right (by omega) h2
  have h6 : vin σ X n < 2 ^ many σ n := Nat.mod_lt (X / 2 ^ fbt σ n) (Nat.two_pow_pos (many σ n))
  refine ⟨?_, by omega⟩
  unfold f_X2_valuesIn
  simp only [n_g6 hj hb h, n_fi hj hb hw h hn, n_ck hj hb h, d_valueCount hj hb hw h hn, Option.bind_some, Option.bind_none, bd2, bd3, bd4, nm]
  rw [wb_shr (by omega) (by omega), lN_i, pk_and _ (many σ n) (mask_21 _ (by omega))]
  congr 2
  show X / 2 ^ fbt σ n % 2 ^ 32 % 2 ^ many σ n = _
  exact Nat.mod_mod_of_dvd _ (Nat.pow_dvd_pow 2 (by omega))
theorem d_safeAt (hw : WF σ τ) {n X : Nat} (hn : n < gN σ) {D : Nat → Prop} (hS : SM σ X D) : (∃ t1 t2, D t1 ∧ D t2 ∧ valt σ t1 n + nd σ n ≤ valt σ t2 n + 1) ↔ ∃ u v, (vin σ X n).testBit u = true ∧ (vin σ X n).testBit v = true ∧ u + nd σ n ≤ v + 1 := by
  constructor
  · rintro ⟨t1, t2, d1, d2, h⟩
    rw [valt_dg, valt_dg] at h
    refine ⟨dg σ t1 n, dg σ t2 n, ?_, ?_, by omega⟩
    · rw [vin_bit, (hS.2.2 n hn _ (dg_lt σ t1 n)).mpr ⟨t1, d1, rfl⟩, decide_eq_true (dg_lt σ t1 n)]; rfl
    · rw [vin_bit, (hS.2.2 n hn _ (dg_lt σ t2 n)).mpr ⟨t2, d2, rfl⟩, decide_eq_true (dg_lt σ t2 n)]; rfl
  · rintro ⟨u, v, h1, h2, h⟩
    rw [vin_bit, Bool.and_eq_true, decide_eq_true_iff] at h1 h2
    obtain ⟨t1, d1, e1⟩ := (hS.2.2 n hn u h1.1).mp h1.2
    obtain ⟨t2, d2, e2⟩ := (hS.2.2 n hn v h2.1).mp h2.2
    refine ⟨t1, t2, d1, d2, ?_⟩
    rw [valt_dg, valt_dg]
    omega
theorem d_areSafe (hj : injC ca) (hb : b + 27 ≤ 120) (hw : WF σ τ) (h : NC ca σ C b) {X : Nat} {D : Nat → Prop} (hS : SM σ X D) (hD : ∃ t, D t) : ∃ r : Int32, f_X2_areSafe (pt ca S0 C) (ca (b + 1)) (lN X) = some r ∧ ((r = 1 ∧ Safe σ D) ∨ (r = 0 ∧ ¬ Safe σ D)) := by
  have h10 := hw.n10
  unfold f_X2_areSafe
  have key := lpo_run (b := fun x : Int32 => f_X2_areSafe_L2 (pt ca S0 C) (ca (b + 1)) (lN X) x)
    (fun n x => x = nI n ∧ ∀ k, k < n → ∃ t1 t2, D t1 ∧ D t2 ∧ valt σ t1 k + nd σ k ≤ valt σ t2 k + 1) (fun e => (e = .inl () ∧ Safe σ D) ∨ (e = .inr 0 ∧ ¬ Safe σ D)) (gN σ) (by omega) (x := (0 : Int32))
    ⟨rfl, fun k hk => absurd hk (Nat.not_lt_zero k)⟩ (by
      rintro n x hn ⟨rfl, ih⟩
      obtain ⟨hv, hvl⟩ := d_valuesIn (S0 := S0) hj hb hw h hn hS.1
      have h1 := hw.num hn
      have h2 : many σ n ≤ 21 := by unfold many; omega
      unfold f_X2_areSafe_L2
      simp only [n_g8 hj hb h, n_ck hj hb h, hv, n_g4 hj hb h, n_ne hj hb hw h hn, Option.bind_some, Option.bind_none, bd2, bd3, bd4, nm]
      rw [if_neg (by rw [q_le (by omega) (by omega)]; omega), sub1 (by omega), nI_l (by omega)]
      have hne : 0 < vin σ X n := by
        obtain ⟨t, ht⟩ := hD
        refine Nat.pos_of_ne_zero (fun q => ?_)
        have : (vin σ X n).testBit (dg σ t n) = true := by
          rw [vin_bit, (hS.2.2 n hn _ (dg_lt σ t n)).mpr ⟨t, ht, rfl⟩, decide_eq_true (dg_lt σ t n)]; rfl
        rw [q, Nat.zero_testBit] at this
        cases this
      obtain ⟨l, l1, l2, l3⟩ := low_bit hne (by omega)
      have hl21 : l < many σ n := by
        rw [vin_bit, Bool.and_eq_true, decide_eq_true_iff] at l1
        exact l1.1
      have hsh : (2 : Nat) ^ l * 2 ^ (nd σ n - 1) = 2 ^ (l + (nd σ n - 1)) := (Nat.pow_add 2 _ _).symm
      have hp : (2 : Nat) ^ (l + (nd σ n - 1)) ≤ 2 ^ 50 := Nat.pow_le_pow_right (by omega) (by omega)
      rw [l3, wb_shl _ (show nd σ n - 1 < 64 by omega), hsh]
      have hcond : (0 ≤ lg_cmp (lN (vin σ X n)) (lN (2 ^ (l + (nd σ n - 1))))) ↔ 2 ^ (l + (nd σ n - 1)) ≤ vin σ X n := by
        rw [lg_cmp_ge, pk_lLE (by omega) (by omega)]
      by_cases hc : 2 ^ (l + (nd σ n - 1)) ≤ vin σ X n
      · rw [if_pos (hcond.mpr hc)]
        refine Or.inl ⟨nI (n + 1), by rw [nI_1], rfl, fun k hk => ?_⟩
        by_cases e : k = n
        · subst e
          obtain ⟨g, g1, g2⟩ := Nat.exists_ge_and_testBit_of_ge_two_pow hc
          exact (d_safeAt hw hn hS).mpr ⟨l, g, l1, g2, by omega⟩
        · exact ih k (by omega)
      · rw [if_neg (fun q => hc (hcond.mp q))]
        refine Or.inr ⟨.inr 0, rfl, Or.inr ⟨rfl, fun hs => ?_⟩⟩
        obtain ⟨u, v, u1, v1, huv⟩ := (d_safeAt hw hn hS).mp (hs n hn)
        have h3 := l2 u u1
        have h4 := Nat.ge_two_pow_of_testBit v1
        have h5 : 2 ^ (l + (nd σ n - 1)) ≤ 2 ^ v := Nat.pow_le_pow_right (by omega) (by omega)
        omega) (by
      rintro x ⟨rfl, ih⟩
      refine ⟨.inl (), ?_, Or.inl ⟨rfl, ih⟩⟩
      unfold f_X2_areSafe_L2
      simp only [n_g8 hj hb h, Option.bind_some, Option.bind_none, bd2, bd3, bd4, nm]
      rw [if_pos (by rw [q_le (by omega) (by omega)]; omega)])
  obtain ⟨e, he, hr⟩ := key
  rcases hr with ⟨rfl, hs⟩ | ⟨rfl, hs⟩
  · exact ⟨1, by rw [he]; rfl, Or.inl ⟨rfl, hs⟩⟩
  · exact ⟨0, by rw [he]; rfl, Or.inr ⟨rfl, hs⟩⟩
end MARK
