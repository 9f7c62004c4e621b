/-! ===== the hidden table; a state whose lefts and asks change ===== -/
theorem hid_far {σ : SG} {n : Nat} : ∀ m, n ≤ m → ∃ q, hid σ m = hid σ n + stp σ n * q
  | 0, h => ⟨0, by rw [show n = 0 by omega]; rfl⟩
  | m + 1, h => by
    by_cases e : n = m + 1
    · subst e; exact ⟨0, by omega⟩
    · obtain ⟨q, hq⟩ := hid_far m (show n ≤ m by omega)
      have h2 : ∃ d, stp σ m = stp σ n * d := by
        have key : ∀ k, ∃ d, stp σ (n + k) = stp σ n * d := by
          intro k
          induction k with
          | zero => exact ⟨1, by simp⟩
          | succ k ih =>
            obtain ⟨d, hd⟩ := ih
            exact ⟨d * many σ (n + k), by show stp σ (n + k) * many σ (n + k) = _; rw [hd, Nat.mul_assoc]⟩
        obtain ⟨d, hd⟩ := key (m - n)
        rw [show n + (m - n) = m by omega] at hd
        exact ⟨d, hd⟩
      obtain ⟨d, hd⟩ := h2
      refine ⟨q + (vl σ m - lo σ m) * d, ?_⟩
      show hid σ m + (vl σ m - lo σ m) * stp σ m = _
      rw [hq, hd, Nat.mul_add, Nat.add_assoc, Nat.mul_left_comm (stp σ n)]
theorem valt_hid {σ : SG} {τ : TG} (hw : WF σ τ) {n : Nat} (hn : n < gN σ) : valt σ (hid σ (gN σ)) n = vl σ n := by
  have hq := hw.num hn
  obtain ⟨q, e⟩ := hid_far (σ := σ) (n := n + 1) (gN σ) (by omega)
  have h1 : hid σ (n + 1) = hid σ n + (vl σ n - lo σ n) * stp σ n := rfl
  have h2 : stp σ (n + 1) = stp σ n * many σ n := rfl
  have h3 := hid_lt hw n (by omega)
  have h4 := stp_pos σ n
  have h5 : hid σ (gN σ) / stp σ n = (vl σ n - lo σ n) + many σ n * q := by
    rw [e, h1, h2, Nat.mul_assoc, Nat.mul_comm (vl σ n - lo σ n), Nat.add_assoc, ← Nat.mul_add, Nat.add_mul_div_left _ _ h4, Nat.div_eq_of_lt h3, Nat.zero_add]
  unfold valt
  rw [h5, Nat.add_mul_mod_self_left, Nat.mod_eq_of_lt (by unfold many; omega)]
  omega
theorem inq_congr {σ ρ : SG} (h1 : ∀ p, cur ρ p = cur σ p) (h2 : ∀ n, own ρ n = own σ n) (set n : Nat) : inq ρ set n = inq σ set n := by
  unfold inq
  rw [h1, h2]
theorem ansv_v {σ : SG} {k e set : Nat} {v w : Nat → Nat} (h : ∀ n, n < gN σ → v n = w n) : ansv σ k e set v = ansv σ k e set w := by
  have h1 : ∀ n, n ≤ gN σ → sumq σ set v n = sumq σ set w n ∧ cntq σ set e v n = cntq σ set e w n ∧ maxq σ set v n = maxq σ set w n ∧ minq σ set v n = minq σ set w n := by
    intro n
    induction n with
    | zero => intro _; exact ⟨rfl, rfl, rfl, rfl⟩
    | succ n ih =>
      intro hn
      obtain ⟨a, b, c, d⟩ := ih (by omega)
      unfold sumq cntq maxq minq
      rw [a, b, c, d, h n (by omega)]
      exact ⟨rfl, rfl, rfl, rfl⟩
  obtain ⟨a, b, c, d⟩ := h1 _ (Nat.le_refl _)
  unfold ansv
  rw [a, b, c, d]
theorem ansv_s {σ ρ : SG} (h1 : ∀ p, cur ρ p = cur σ p) (h2 : ∀ n, own ρ n = own σ n) (h3 : gN ρ = gN σ) (k e set : Nat) (v : Nat → Nat) : ansv ρ k e set v = ansv σ k e set v := by
  have hi := inq_congr (σ := σ) (ρ := ρ) h1 h2 set
  have h4 : ∀ n, sumq ρ set v n = sumq σ set v n ∧ cntq ρ set e v n = cntq σ set e v n ∧ maxq ρ set v n = maxq σ set v n ∧ minq ρ set v n = minq σ set v n := by
    intro n
    induction n with
    | zero => exact ⟨rfl, rfl, rfl, rfl⟩
    | succ n ih =>
      obtain ⟨a, b, c, d⟩ := ih
      unfold sumq cntq maxq minq
      rw [a, b, c, d, hi n]
      exact ⟨rfl, rfl, rfl, rfl⟩
  unfold ansv
  rw [h3, (h4 _).1, (h4 _).2.1, (h4 _).2.2.1, (h4 _).2.2.2]
theorem valt_s {σ ρ : SG} (h1 : ∀ n, lo ρ n = lo σ n) (h2 : ∀ n, hi ρ n = hi σ n) (t n : Nat) : valt ρ t n = valt σ t n := by
  unfold valt
  rw [stp_congr h1 h2 n, h1]
  unfold many
  rw [h1, h2]
/-- lefts below m that don't have answer v go, in i's circle; one more ask -/
def gA (σ : SG) (i : Nat) (an : Nat → Nat) (v m : Nat) : SG := fun f t => if f = 3 then gK σ + 1 else if (f = 20 ∨ f = 21 ∨ f = 22 ∨ f = 23) ∧ grp σ (f - 20) = grp σ i ∧ an t ≠ v ∧ t < m then 0 else σ f t
theorem gA_f {σ : SG} {i : Nat} {an : Nat → Nat} {v m f : Nat} (h1 : f ≠ 3) (h2 : f < 20) : gA σ i an v m f = σ f := by
  funext t
  unfold gA
  rw [if_neg h1, if_neg (fun q => by have := q.1; omega)]
theorem gA_l {σ : SG} {i : Nat} {an : Nat → Nat} {v m a t : Nat} (ha : a < 4) : lef (gA σ i an v m) a t = if grp σ a = grp σ i ∧ an t ≠ v ∧ t < m then 0 else lef σ a t := by
  show gA σ i an v m (20 + a) t = _
  unfold gA
  rw [if_neg (by omega), show 20 + a - 20 = a by omega]
  by_cases hc : grp σ a = grp σ i ∧ an t ≠ v ∧ t < m
  · rw [if_pos ⟨by omega, hc⟩, if_pos hc]
  · rw [if_neg (fun q => hc q.2), if_neg hc]
def tAsk (σ : SG) (τ : TG) (a k s x r : Int32) : TG := fun j i => if i = gK σ ∧ j < 5 then (if j = 0 then a else if j = 1 then k else if j = 2 then s else if j = 3 then x else r) else τ j i
section GA
variable {σ : SG} {τ : TG} {i v m : Nat} {an : Nat → Nat}
theorem gA_stp (n : Nat) : stp (gA σ i an v m) n = stp σ n := stp_congr (ρ := gA σ i an v m) (σ := σ) (fun n => by show gA σ i an v m 12 n = _; rw [gA_f (by omega) (by omega)]) (fun n => by show gA σ i an v m 13 n = _; rw [gA_f (by omega) (by omega)]) n
theorem gA_N : gN (gA σ i an v m) = gN σ := by show gA σ i an v m 1 0 = _; rw [gA_f (by omega) (by omega)]
theorem gA_P : gP (gA σ i an v m) = gP σ := by show gA σ i an v m 0 0 = _; rw [gA_f (by omega) (by omega)]
theorem gA_T : gT (gA σ i an v m) = gT σ := by show stp (gA σ i an v m) (gN (gA σ i an v m)) = _; rw [gA_N, gA_stp]
theorem gA_hid (n : Nat) : hid (gA σ i an v m) n = hid σ n := sm_congr n (fun k _ => by rw [gA_stp]; show (gA σ i an v m 15 k - gA σ i an v m 12 k) * _ = _; rw [gA_f (by omega) (by omega), gA_f (by omega) (by omega)])
theorem WF_gA (hw : WF σ τ) (hi : i < 4) (hK : gK σ < 200) (hv : an (hid σ (gN σ)) = v) (a k s x r : Int32) : WF (gA σ i an v m) (tAsk σ τ a k s x r) := by
  obtain ⟨h1, h2, h3, h4, h5, h6, h7, h8, h9, h10, h11, h12, h13, h14⟩ := hw
  have e10 : gA σ i an v m 10 = σ 10 := gA_f (by omega) (by omega)
  have e11 : gA σ i an v m 11 = σ 11 := gA_f (by omega) (by omega)
  have e12 : gA σ i an v m 12 = σ 12 := gA_f (by omega) (by omega)
  have e13 : gA σ i an v m 13 = σ 13 := gA_f (by omega) (by omega)
  have e14 : gA σ i an v m 14 = σ 14 := gA_f (by omega) (by omega)
  have e15 : gA σ i an v m 15 = σ 15 := gA_f (by omega) (by omega)
  have e16 : gA σ i an v m 16 = σ 16 := gA_f (by omega) (by omega)
  have e17 : gA σ i an v m 17 = σ 17 := gA_f (by omega) (by omega)
  have e18 : gA σ i an v m 18 = σ 18 := gA_f (by omega) (by omega)
  have e0 : gA σ i an v m 0 = σ 0 := gA_f (by omega) (by omega)
  have e1 : gA σ i an v m 1 = σ 1 := gA_f (by omega) (by omega)
  have e4 : gA σ i an v m 4 = σ 4 := gA_f (by omega) (by omega)
  have e5 : gA σ i an v m 5 = σ 5 := gA_f (by omega) (by omega)
  have hmany : ∀ n, many (gA σ i an v m) n = many σ n := fun n => by
    show gA σ i an v m 13 n - gA σ i an v m 12 n + 1 = _
    rw [e12, e13]; rfl
  refine ⟨?_, ?_, ?_, ?_, ?_, ?_, ?_, ?_, ?_, ?_, ?_, ?_, ?_, ?_⟩
  · rw [gA_P]; exact h1
  · rw [gA_N]; exact h2
  · rw [gA_T]; exact h3
  · show sm (gA σ i an v m 13) (gN (gA σ i an v m)) ≤ 60
    rw [gA_N, e13]; exact h4
  · show gK σ + 1 ≤ 200; omega
  · show gA σ i an v m 4 0 ≤ gK σ + 1
    rw [e4]
    have : σ 4 0 ≤ gK σ := h6
    omega
  · show gA σ i an v m 5 0 ≤ 8; rw [e5]; exact h7
  · intro p hp
    rw [gA_P] at hp
    rw [gA_N]
    show gA σ i an v m 10 p < gN σ ∧ gA σ i an v m 11 (gA σ i an v m 10 p) = p
    rw [e10, e11]; exact h8 p hp
  · intro n hn
    rw [gA_N] at hn
    rw [gA_P, hmany]
    show gA σ i an v m 11 n < gP σ ∧ gA σ i an v m 12 n ≤ gA σ i an v m 15 n ∧ gA σ i an v m 15 n ≤ gA σ i an v m 13 n ∧ gA σ i an v m 13 n ≤ 20 ∧ 1 ≤ gA σ i an v m 14 n ∧ gA σ i an v m 14 n ≤ many σ n
    rw [e11, e12, e13, e14, e15]; exact h9 n hn
  · intro b hb
    show gA σ i an v m 16 b ≤ b ∧ gA σ i an v m 16 (gA σ i an v m 16 b) = gA σ i an v m 16 b
    rw [e16]; exact h10 b hb
  · intro b c hb hc hg t ht
    rw [gA_T] at ht
    have hg' : grp σ b = grp σ c := by
      have : gA σ i an v m 16 b = gA σ i an v m 16 c := hg
      rw [e16] at this; exact this
    rw [gA_l hb, gA_l hc, hg', h11 b c hb hc hg' t ht]
  · intro b t hb ht
    rw [gA_T] at ht
    rw [gA_l hb]
    split
    · omega
    · exact h12 b t hb ht
  · intro b hb
    rw [gA_N, gA_hid, gA_l hb, if_neg (fun q => q.2.1 hv)]
    exact h13 b hb
  · intro w hw9
    have hw' : w < gW σ := by
      have : w < gA σ i an v m 5 0 := hw9
      rw [e5] at this; exact this
    rw [gA_P]
    show gA σ i an v m 18 w < 2 ^ gP σ ∧ okq (gA σ i an v m 17 w) (tAsk σ τ a k s x r 5 w)
    rw [e17, e18]
    have : tAsk σ τ a k s x r 5 w = τ 5 w := by unfold tAsk; rw [if_neg (fun q => by have := q.2; omega)]
    rw [this]
    exact h14 w hw'
end GA
