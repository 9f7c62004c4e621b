/-! ===== the reference: judged ===== -/
def Dc (σ : SG) (a : Nat) (an : Nat → Nat) (v : Nat) : Nat → Prop := fun t => t < gT σ ∧ lef σ a t = 1 ∧ an t = v
def Same (σ : SG) (a : Nat) (an : Nat → Nat) : Prop := ∀ t, t < gT σ → lef σ a t = 1 → an t = an (hid σ (gN σ))
def Sure (σ : SG) (a : Nat) (an : Nat → Nat) : Prop := ∀ v, (∃ t, Dc σ a an v t) → Safe σ (Dc σ a an v)
/-- the judgement over the answers an: 2 it follows, 1 granted, 0 refused -/
def JR (σ : SG) (a : Nat) (an : Nat → Nat) (r : Nat) : Prop := (r = 2 ∧ Same σ a an) ∨ (r = 1 ∧ ¬ Same σ a an ∧ Sure σ a an) ∨ (r = 0 ∧ ¬ Same σ a an ∧ ¬ Sure σ a an)
theorem JR_one {σ : SG} {a : Nat} {an : Nat → Nat} {r s : Nat} (h1 : JR σ a an r) (h2 : JR σ a an s) : r = s := by
  rcases h1 with ⟨e1, h1⟩ | ⟨e1, h1, h1'⟩ | ⟨e1, h1, h1'⟩ <;> rcases h2 with ⟨e2, h2⟩ | ⟨e2, h2, h2'⟩ | ⟨e2, h2, h2'⟩ <;> first | omega | exact absurd h1 h2 | exact absurd h2 h1 | exact absurd h1' h2' | exact absurd h2' h1'
theorem sm_congr {f g : Nat → Nat} : ∀ n, (∀ k, k < n → f k = g k) → sm f n = sm g n
  | 0, _ => rfl
  | n + 1, h => by
    unfold sm
    rw [sm_congr n (fun k hk => h k (by omega)), h n (by omega)]
theorem sm_one {f g : Nat → Nat} {v : Nat} : ∀ n, v < n → g v = f v + 1 → (∀ k, k ≠ v → g k = f k) → sm g n = sm f n + 1
  | 0, hv, _, _ => by omega
  | n + 1, hv, h1, h2 => by
    unfold sm
    by_cases h : v = n
    · subst h
      rw [sm_congr v (f := g) (g := f) (fun k hk => h2 k (by omega)), h1]
      omega
    · rw [sm_one n (by omega) h1 h2, h2 n (by omega)]
      omega
theorem sm_ge {f : Nat → Nat} {v : Nat} : ∀ n, v < n → f v ≤ sm f n
  | 0, hv => by omega
  | n + 1, hv => by
    unfold sm
    by_cases h : v = n
    · subst h; omega
    · have := sm_ge (f := f) n (show v < n by omega); omega
theorem sm_two {f : Nat → Nat} {u v : Nat} : ∀ n, u < n → v < n → u ≠ v → f u + f v ≤ sm f n
  | 0, hu, _, _ => by omega
  | n + 1, hu, hv, hne => by
    unfold sm
    by_cases h : u = n
    · subst h
      have := sm_ge (f := f) u (show v < u by omega); omega
    · by_cases h2 : v = n
      · subst h2
        have := sm_ge (f := f) v (show u < v by omega); omega
      · have := sm_two (f := f) n (show u < n by omega) (show v < n by omega) hne; omega
theorem sm_only {f : Nat → Nat} {v : Nat} : ∀ n, v < n → (∀ k, k < n → k ≠ v → f k = 0) → sm f n = f v
  | 0, hv, _ => by omega
  | n + 1, hv, h => by
    unfold sm
    by_cases e : v = n
    · subst e
      have : sm f v = 0 := by
        have h0 : ∀ m, m ≤ v → sm f m = 0 := by
          intro m
          induction m with
          | zero => intro _; rfl
          | succ m ih => intro hm; unfold sm; rw [ih (by omega), h m (by omega) (by omega)]
        exact h0 v (Nat.le_refl _)
      omega
    · rw [sm_only n (by omega) (fun k hk => h k (by omega)), h n (by omega) (by omega)]
      omega
theorem hid_lt {σ : SG} {τ : TG} (hw : WF σ τ) : ∀ n, n ≤ gN σ → hid σ n < stp σ n
  | 0, _ => by unfold hid sm stp; omega
  | n + 1, hn => by
    have ih := hid_lt hw n (by omega)
    have hq := hw.num (show n < gN σ by omega)
    have hm : vl σ n - lo σ n + 1 ≤ many σ n := by unfold many; omega
    have h1 : hid σ (n + 1) = hid σ n + (vl σ n - lo σ n) * stp σ n := rfl
    have h2 : stp σ (n + 1) = stp σ n * many σ n := rfl
    have h3 : (vl σ n - lo σ n + 1) * stp σ n ≤ many σ n * stp σ n := Nat.mul_le_mul_right _ hm
    rw [h1, h2, Nat.mul_comm (stp σ n)]
    rw [Nat.add_mul, Nat.one_mul] at h3
    omega
theorem cnt_le {σ : SG} {set e : Nat} {v : Nat → Nat} : ∀ n, cntq σ set e v n ≤ n
  | 0 => Nat.le_refl 0
  | n + 1 => by
    have ih := cnt_le (σ := σ) (set := set) (e := e) (v := v) n
    unfold cntq
    split <;> omega
theorem ansv_le {σ : SG} {τ : TG} (hw : WF σ τ) {k e set : Nat} {v : Nat → Nat} (hv : ∀ n, n < gN σ → v n ≤ hi σ n) : ansv σ k e set v ≤ 60 := by
  have hv20 : ∀ n, n < gN σ → v n ≤ 20 := fun n hn => Nat.le_trans (hv n hn) (hw.num hn).2.2.2.1
  have hN := hw.n10
  unfold ansv
  split
  · exact Nat.le_trans (Nat.div_mul_le_self _ _) (Nat.le_trans (sumq_le hv _ (Nat.le_refl _)) hw.s60)
  · split
    · exact Nat.le_trans (cnt_le _) (by omega)
    · by_cases ha : anyq σ set (gN σ) = true
      · have h2 := any_min (v := v) _ hv20 ha
        split
        · omega
        · rw [fin_n h2.1]; omega
      · have h2 := any_max (v := v) (gN σ) (by simpa using ha)
        split
        · omega
        · rw [h2.2]; decide
section M8F
variable {ad : Nat → Nat} {S0 : PH} {al hz : Nat → Int32} {s1 s2 s3 s4 : Int32} {lw hg mt tb9 : Nat → Int32} {an ky : Nat → Int64} {rw9 : Nat → Int32} {lf : Int32} {σ : SG} {τ : TG}
theorem b_isClose (h : inj8 ad) (hw : WF σ τ) (hA : RA σ τ al 0) {v : Nat} (hv : v < 61) {D : Nat → Prop} (hc : Cell σ lw hg mt v D) (hm : mt v = 1) : ∃ r : Int32, f_X8_isClose (mk8 ad S0 al hz s1 s2 s3 s4 lw hg mt tb9 an ky rw9 lf) (ad 0) (nI v) = some r ∧ ((r = 0 ∧ Safe σ D) ∨ (r = 1 ∧ ¬ Safe σ D)) := by
  have hN := hw.n10
  rcases hc with ⟨m0, -⟩ | ⟨-, -, hD⟩
  · rw [hm] at m0; exact absurd m0 (by decide)
  have key := lpo_run (b := fun x : Int32 × Int32 => f_X8_isClose_L4 (mk8 ad S0 al hz s1 s2 s3 s4 lw hg mt tb9 an ky rw9 lf) (ad 0) (nI v) x.1 x.2) (x := ((0 : Int32), (0 : Int32)))
    (fun n x => (x = (0, nI n) ∧ ∀ k, k < n → ∃ t1 t2, D t1 ∧ D t2 ∧ valt σ t1 k + nd σ k ≤ valt σ t2 k + 1) ∨ (x = (1, nI n) ∧ ∃ k, k < n ∧ ¬ ∃ t1 t2, D t1 ∧ D t2 ∧ valt σ t1 k + nd σ k ≤ valt σ t2 k + 1))
    (fun r => (r = 0 ∧ Safe σ D) ∨ (r = 1 ∧ ¬ Safe σ D)) (gN σ) (by omega) (Or.inl ⟨rfl, fun k hk => absurd hk (by omega)⟩) (by
    rintro n x hn hI
    have ix : (10 : Int32) * nI v + nI n = nI (10 * v + n) := by rw [show (10 : Int32) = nI 10 from rfl, pk_mul, nI_add]
    obtain ⟨a, b, ea, eb, ⟨ta, hta, va⟩, ha, ⟨tb, htb, vb⟩, hb⟩ := hD n hn
    have hb20 : b ≤ 20 := by rw [← vb]; exact Nat.le_trans (valt_le hw hn tb).1 (hw.num hn).2.2.2.1
    have hab : a ≤ b := by rw [← va]; exact hb ta hta
    obtain ⟨-, -, -, e3, -⟩ := hA.n hn
    rw [Nat.zero_add] at e3
    have hnd : nd σ n ≤ 21 := by have := (hw.num hn).2.2.2.2.2; unfold many at this; have := (hw.num hn).2.2.2.1; omega
    have of3 : f_X8_of (mk8 ad S0 al hz s1 s2 s3 s4 lw hg mt tb9 an ky rw9 lf) (ad 0) (nI n) 3 = some (nI (nd σ n)) := by rw [show (3 : Int32) = nI 3 from rfl, b_of h (by omega) (by omega), e3]
    have ok : nd σ n ≤ b - a + 1 ↔ ∃ t1 t2, D t1 ∧ D t2 ∧ valt σ t1 n + nd σ n ≤ valt σ t2 n + 1 := by
      constructor
      · intro q
        exact ⟨ta, tb, hta, htb, by omega⟩
      · rintro ⟨t1, t2, h1, h2, h3⟩
        have := ha t1 h1
        have := hb t2 h2
        omega
    have sub : nI b - nI a + 1 = nI (b - a + 1) := by rw [q_sub hab]; exact nI_1 _
    rcases hI with ⟨rfl, hI⟩ | ⟨rfl, hI⟩
    · by_cases hc : nd σ n ≤ b - a + 1
      · refine Or.inl ⟨(0, nI (n + 1)), ?_, Or.inl ⟨rfl, fun k hk => ?_⟩⟩
        · show f_X8_isClose_L4 _ _ _ 0 (nI n) = _
          unfold f_X8_isClose_L4
          rw [ix]
          simp (disch := first | omega | assumption) only [g8_0, b_N h hA, Option.bind_some, q_le, g8_7, g8_6, r8_hg, r8_lw, ck8, of3, ea, eb, sub]
          rw [if_neg (by omega), if_pos trivial, if_pos hc]
          simp only [f_X8_isClose_b57, nI_1]
        · by_cases hk2 : k = n
          · subst hk2; exact ok.mp hc
          · exact hI k (by omega)
      · refine Or.inl ⟨(1, nI (n + 1)), ?_, Or.inr ⟨rfl, n, by omega, fun q => hc (ok.mpr q)⟩⟩
        show f_X8_isClose_L4 _ _ _ 0 (nI n) = _
        unfold f_X8_isClose_L4
        rw [ix]
        simp (disch := first | omega | assumption) only [g8_0, b_N h hA, Option.bind_some, q_le, g8_7, g8_6, r8_hg, r8_lw, ck8, of3, ea, eb, sub]
        rw [if_neg (by omega), if_pos trivial, if_neg hc]
        simp only [f_X8_isClose_b52, f_X8_isClose_b57, nI_1]
    · obtain ⟨k, hk, hI⟩ := hI
      refine Or.inl ⟨(1, nI (n + 1)), ?_, Or.inr ⟨rfl, k, by omega, hI⟩⟩
      show f_X8_isClose_L4 _ _ _ 1 (nI n) = _
      unfold f_X8_isClose_L4
      simp (disch := first | omega | assumption) only [g8_0, b_N h hA, Option.bind_some, q_le]
      rw [if_neg (by omega), if_neg (by decide)]
      simp only [f_X8_isClose_b52, f_X8_isClose_b57, nI_1]) (by
    rintro x (⟨rfl, hI⟩ | ⟨rfl, k, hk, hI⟩)
    · refine ⟨0, ?_, Or.inl ⟨rfl, fun n hn => hI n hn⟩⟩
      show f_X8_isClose_L4 _ _ _ 0 (nI (gN σ)) = _
      unfold f_X8_isClose_L4
      simp (disch := first | omega | assumption) only [g8_0, b_N h hA, Option.bind_some, q_le]
      rw [if_pos (Nat.le_refl _)]
    · refine ⟨1, ?_, Or.inr ⟨rfl, fun q => hI (q k hk)⟩⟩
      show f_X8_isClose_L4 _ _ _ 1 (nI (gN σ)) = _
      unfold f_X8_isClose_L4
      simp (disch := first | omega | assumption) only [g8_0, b_N h hA, Option.bind_some, q_le]
      rw [if_pos (Nat.le_refl _)])
  obtain ⟨r, h1, h2⟩ := key
  refine ⟨r, ?_, h2⟩
  unfold f_X8_isClose
  rw [h1]
  have : ckZ r = some () := by
    unfold ckZ
    rw [if_pos (h2.elim (fun q => Or.inl q.1) (fun q => Or.inr q.1))]
  simp only [Option.bind_some, this]
end M8F
