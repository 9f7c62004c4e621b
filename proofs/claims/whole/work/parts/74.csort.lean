/-! ===== a counting sort, in numbers ===== -/
def cnt (a : Nat → Nat) (c n : Nat) : Nat := sm (fun j => if a j = c then 1 else 0) n
def bas (a : Nat → Nat) (m c : Nat) : Nat := sm (fun d => cnt a d m) c
def pos (a : Nat → Nat) (m j : Nat) : Nat := bas a m (a j) + cnt a (a j) j
theorem cnt_1 (a : Nat → Nat) (c n : Nat) : cnt a c (n + 1) = cnt a c n + (if a n = c then 1 else 0) := rfl
theorem cnt_mono {a : Nat → Nat} {c n m : Nat} (h : n ≤ m) : cnt a c n ≤ cnt a c m := sm_le h
theorem cnt_lt {a : Nat → Nat} {c j n : Nat} (h : j < n) (hc : a j = c) : cnt a c j + 1 ≤ cnt a c n := by
  have h1 : cnt a c (j + 1) = cnt a c j + 1 := by rw [cnt_1, if_pos hc]
  rw [← h1]
  exact cnt_mono h
theorem bas_mono {a : Nat → Nat} {m c d : Nat} (h : c ≤ d) : bas a m c ≤ bas a m d := sm_le h
theorem bas_1 (a : Nat → Nat) (m c : Nat) : bas a m (c + 1) = bas a m c + cnt a c m := rfl
theorem bas_all {a : Nat → Nat} : ∀ m, (∀ j, j < m → a j < 64) → bas a m 64 = m
  | 0, _ => sm_zero 64 (fun _ _ => rfl)
  | m + 1, h => by
    have ih := bas_all (a := a) m (fun j hj => h j (by omega))
    show sm (fun d => cnt a d (m + 1)) 64 = m + 1
    rw [sm_one (f := fun d => cnt a d m) (g := fun d => cnt a d (m + 1)) (v := a m) 64 (h m (by omega)) (by
      show cnt a (a m) (m + 1) = cnt a (a m) m + 1
      rw [cnt_1, if_pos rfl]) (fun k hk => by
      show cnt a k (m + 1) = cnt a k m
      rw [cnt_1, if_neg (fun q => hk q.symm), Nat.add_zero])]
    rw [show sm (fun d => cnt a d m) 64 = m from ih]
theorem pos_lt1 {a : Nat → Nat} {m j : Nat} (hj : j < m) : pos a m j < bas a m (a j + 1) := by
  have := cnt_lt (c := a j) hj rfl
  rw [bas_1]
  unfold pos
  omega
theorem pos_lt {a : Nat → Nat} {m j : Nat} (ha : ∀ j, j < m → a j < 64) (hj : j < m) : pos a m j < m := by
  have h1 := pos_lt1 (a := a) hj
  have h2 := bas_mono (a := a) (m := m) (show a j + 1 ≤ 64 from ha j hj)
  rw [bas_all m ha] at h2
  omega
theorem pos_a {a : Nat → Nat} {m j k : Nat} (hj : j < m) (h : a j < a k) : pos a m j < pos a m k := by
  have h1 := pos_lt1 (a := a) hj
  have h2 := bas_mono (a := a) (m := m) (show a j + 1 ≤ a k from h)
  unfold pos at *
  omega
theorem pos_e {a : Nat → Nat} {m j k : Nat} (h : a j = a k) (hjk : j < k) : pos a m j < pos a m k := by
  have := cnt_lt (c := a k) hjk h
  unfold pos
  rw [h]
  omega
theorem pos_ne {a : Nat → Nat} {m j k : Nat} (hj : j < m) (hk : k < m) (h : j ≠ k) : pos a m j ≠ pos a m k := by
  rcases Nat.lt_trichotomy (a j) (a k) with e | e | e
  · have := pos_a (m := m) hj e; omega
  · rcases Nat.lt_or_gt_of_ne h with q | q
    · have := pos_e (m := m) e q; omega
    · have := pos_e (m := m) e.symm q; omega
  · have := pos_a (m := m) hk e; omega
theorem pos_le {a : Nat → Nat} {m j k : Nat} (hk : k < m) (h : pos a m j ≤ pos a m k) : a j ≤ a k ∧ (a j = a k → j ≤ k) := by
  constructor
  · refine Nat.le_of_not_lt (fun q => ?_)
    have := pos_a (m := m) hk q
    omega
  · intro e
    refine Nat.le_of_not_lt (fun q => ?_)
    have := pos_e (m := m) e.symm q
    omega
theorem bas_find {a : Nat → Nat} {m p : Nat} : ∀ c, p < bas a m c → ∃ d, d < c ∧ bas a m d ≤ p ∧ p < bas a m (d + 1)
  | 0, h => absurd h (Nat.not_lt_zero p)
  | c + 1, h => by
    by_cases e : p < bas a m c
    · obtain ⟨d, h1, h2, h3⟩ := bas_find c e
      exact ⟨d, by omega, h2, h3⟩
    · exact ⟨c, by omega, by omega, h⟩
theorem cnt_find {a : Nat → Nat} {c k : Nat} : ∀ m, k < cnt a c m → ∃ j, j < m ∧ a j = c ∧ cnt a c j = k
  | 0, h => absurd h (Nat.not_lt_zero k)
  | m + 1, h => by
    by_cases e : k < cnt a c m
    · obtain ⟨j, h1, h2, h3⟩ := cnt_find m e
      exact ⟨j, by omega, h2, h3⟩
    · rw [cnt_1] at h
      by_cases q : a m = c
      · rw [if_pos q] at h
        exact ⟨m, by omega, q, by omega⟩
      · rw [if_neg q] at h
        omega
theorem pos_on {a : Nat → Nat} {m p : Nat} (ha : ∀ j, j < m → a j < 64) (hp : p < m) : ∃ j, j < m ∧ pos a m j = p := by
  obtain ⟨c, -, h2, h3⟩ := bas_find (a := a) (m := m) (p := p) 64 (by rw [bas_all m ha]; exact hp)
  rw [bas_1] at h3
  obtain ⟨j, h4, h5, h6⟩ := cnt_find (a := a) (c := c) (k := p - bas a m c) m (by omega)
  refine ⟨j, h4, ?_⟩
  unfold pos
  rw [h5, h6]
  omega
/-! ===== the key of a table, by the wishes below w ===== -/
abbrev KK (σ : SG) (τ : TG) (s W w t : Nat) : Nat := rk σ τ t W &&& mkw s w
theorem KK_0 (σ : SG) (τ : TG) (s W t : Nat) : KK σ τ s W 0 t = 0 := Nat.and_zero _
theorem KK_lt (σ : SG) (τ : TG) (s W w t : Nat) : KK σ τ s W w t < 2 ^ (6 * w) := Nat.and_lt_two_pow _ (mkw_lt w)
theorem KK_no {σ : SG} {τ : TG} {s W w t : Nat} (h : ¬ s.testBit w = true) : KK σ τ s W (w + 1) t = KK σ τ s W w t := by
  unfold KK
  rw [show mkw s (w + 1) = mkw s w from if_neg h]
theorem KK_yes {σ : SG} {τ : TG} (hw : WF σ τ) {s W w t : Nat} (h : s.testBit w = true) (hW : w < W) : KK σ τ s W (w + 1) t = KK σ τ s W w t + wans σ τ w t * 2 ^ (6 * w) := by
  have h1 : rk σ τ t W &&& (63 * 2 ^ (6 * w)) = wans σ τ w t * 2 ^ (6 * w) := by
    apply Nat.eq_of_testBit_eq
    intro i
    obtain ⟨u, v, hv, rfl⟩ : ∃ u v, v < 6 ∧ i = 6 * u + v := ⟨i / 6, i % 6, by omega, by omega⟩
    have h60 := wans_le hw w t
    rw [Nat.testBit_and, rk_bit hw hv, tb_pack (show 63 < 64 by omega) hv, tb_pack (show wans σ τ w t < 64 by omega) hv]
    by_cases e : u = w
    · subst e
      have h63 : (63 : Nat).testBit v = true := by
        have : ∀ v, v < 6 → (63 : Nat).testBit v = true := by decide
        exact this v hv
      simp [hW, h63]
    · simp [e]
  unfold KK
  rw [show mkw s (w + 1) = mkw s w ||| 63 * 2 ^ (6 * w) from if_pos h, Nat.and_or_distrib_left, h1]
  have h2 : rk σ τ t W &&& mkw s w < 2 ^ (6 * w) := KK_lt σ τ s W w t
  rw [Nat.or_comm, Nat.mul_comm, ← Nat.two_pow_add_eq_or_of_lt h2, Nat.add_comm]
theorem KK_sort {σ : SG} {τ : TG} (hw : WF σ τ) {s W w t u : Nat} (h : s.testBit w = true) (hW : w < W) (h1 : wans σ τ w t ≤ wans σ τ w u) (h2 : wans σ τ w t = wans σ τ w u → KK σ τ s W w t ≤ KK σ τ s W w u) : KK σ τ s W (w + 1) t ≤ KK σ τ s W (w + 1) u := by
  rw [KK_yes hw h hW, KK_yes hw h hW]
  by_cases e : wans σ τ w t = wans σ τ w u
  · have := h2 e
    rw [e]
    omega
  · have h3 : (wans σ τ w t + 1) * 2 ^ (6 * w) ≤ wans σ τ w u * 2 ^ (6 * w) := Nat.mul_le_mul_right _ (by omega)
    rw [Nat.succ_mul] at h3
    have h4 := KK_lt σ τ s W w t
    omega
