/-! ===== what both sides keep, in numbers: a state is a table of naturals, field and place ===== -/
abbrev SG : Type := Nat → Nat → Nat
/-- ints of the state: parts 0 to 4 of an ask, 5 the extra of a wish -/
abbrev TG : Type := Nat → Nat → Int32
abbrev gP (σ : SG) : Nat := σ 0 0
abbrev gN (σ : SG) : Nat := σ 1 0
abbrev gK (σ : SG) : Nat := σ 3 0
abbrev gF (σ : SG) : Nat := σ 4 0
abbrev gW (σ : SG) : Nat := σ 5 0
abbrev cur (σ : SG) (p : Nat) : Nat := σ 10 p
abbrev own (σ : SG) (n : Nat) : Nat := σ 11 n
abbrev lo (σ : SG) (n : Nat) : Nat := σ 12 n
abbrev hi (σ : SG) (n : Nat) : Nat := σ 13 n
abbrev nd (σ : SG) (n : Nat) : Nat := σ 14 n
abbrev vl (σ : SG) (n : Nat) : Nat := σ 15 n
abbrev grp (σ : SG) (a : Nat) : Nat := σ 16 a
abbrev wk (σ : SG) (w : Nat) : Nat := σ 17 w
abbrev wse (σ : SG) (w : Nat) : Nat := σ 18 w
abbrev lef (σ : SG) (a t : Nat) : Nat := σ (20 + a) t
def many (σ : SG) (n : Nat) : Nat := hi σ n - lo σ n + 1
def stp (σ : SG) : Nat → Nat
  | 0 => 1
  | n + 1 => stp σ n * many σ n
def sm (f : Nat → Nat) : Nat → Nat
  | 0 => 0
  | n + 1 => sm f n + f n
abbrev gT (σ : SG) : Nat := stp σ (gN σ)
/-- the hidden table, of the first n numbers -/
def hid (σ : SG) (n : Nat) : Nat := sm (fun k => (vl σ k - lo σ k) * stp σ k) n
/-- may this question be asked -/
def okq (k : Nat) (x : Int32) : Prop := k < 4 ∧ (k = 0 → ∃ e, 1 ≤ e ∧ e ≤ 20 ∧ x = nI e) ∧ (k = 1 → ∃ e, e ≤ 20 ∧ x = nI e)
def WF (σ : SG) (τ : TG) : Prop :=
  gP σ ≤ 8 ∧ gN σ ≤ 10 ∧ gT σ ≤ 4096 ∧ sm (hi σ) (gN σ) ≤ 60 ∧ gK σ ≤ 200 ∧ gF σ ≤ gK σ ∧ gW σ ≤ 8 ∧
  (∀ p, p < gP σ → cur σ p < gN σ ∧ own σ (cur σ p) = p) ∧
  (∀ n, n < gN σ → own σ n < gP σ ∧ lo σ n ≤ vl σ n ∧ vl σ n ≤ hi σ n ∧ hi σ n ≤ 20 ∧ 1 ≤ nd σ n ∧ nd σ n ≤ many σ n) ∧
  (∀ a, a < 4 → grp σ a ≤ a ∧ grp σ (grp σ a) = grp σ a) ∧
  (∀ a b, a < 4 → b < 4 → grp σ a = grp σ b → ∀ t, t < gT σ → lef σ a t = lef σ b t) ∧
  (∀ a t, a < 4 → t < gT σ → lef σ a t ≤ 1) ∧
  (∀ a, a < 4 → lef σ a (hid σ (gN σ)) = 1) ∧
  (∀ w, w < gW σ → wse σ w < 2 ^ gP σ ∧ okq (wk σ w) (τ 5 w))
/-- the reference's row, from place o on, holds the state -/
def RA (σ : SG) (τ : TG) (A : Nat → Int32) (o : Nat) : Prop :=
  A (o + 0) = nI (gP σ) ∧ A (o + 1) = nI (gN σ) ∧ A (o + 2) = nI (gT σ) ∧ A (o + 3) = nI (gK σ) ∧ A (o + 4) = nI (gF σ) ∧ A (o + 5) = nI (gW σ) ∧
  (∀ a, a < 4 → A (o + (6 + a)) = nI (grp σ a)) ∧ (∀ p, p < gP σ → A (o + (10 + p)) = nI (cur σ p)) ∧
  (∀ n, n < gN σ → A (o + (20 + 8 * n)) = nI (own σ n) ∧ A (o + (20 + 8 * n + 1)) = nI (lo σ n) ∧ A (o + (20 + 8 * n + 2)) = nI (hi σ n) ∧ A (o + (20 + 8 * n + 3)) = nI (nd σ n) ∧ A (o + (20 + 8 * n + 4)) = nI (vl σ n) ∧ A (o + (20 + 8 * n + 5)) = nI (stp σ n)) ∧
  (∀ a t, a < 4 → t < gT σ → A (o + (1130 + 4096 * a + t)) = nI (lef σ a t)) ∧
  (∀ w, w < gW σ → A (o + (1100 + 3 * w)) = nI (wk σ w) ∧ A (o + (1100 + 3 * w + 1)) = nI (wse σ w) ∧ A (o + (1100 + 3 * w + 2)) = τ 5 w) ∧
  (∀ k j, k < gK σ → j < 5 → A (o + (100 + 5 * k + j)) = τ j k)
/-- a number's value in a table -/
def valt (σ : SG) (t n : Nat) : Nat := lo σ n + t / stp σ n % many σ n
/-- is number n asked by the set -/
def inq (σ : SG) (set n : Nat) : Bool := decide (cur σ (own σ n) = n) && set.testBit (own σ n)
def sumq (σ : SG) (set : Nat) (v : Nat → Nat) : Nat → Nat
  | 0 => 0
  | n + 1 => if inq σ set n then sumq σ set v n + v n else sumq σ set v n
def cntq (σ : SG) (set e : Nat) (v : Nat → Nat) : Nat → Nat
  | 0 => 0
  | n + 1 => if inq σ set n && decide (e ≤ v n) then cntq σ set e v n + 1 else cntq σ set e v n
def maxq (σ : SG) (set : Nat) (v : Nat → Nat) : Nat → Nat
  | 0 => 0
  | n + 1 => if inq σ set n then max (maxq σ set v n) (v n) else maxq σ set v n
def minq (σ : SG) (set : Nat) (v : Nat → Nat) : Nat → Nat
  | 0 => 21
  | n + 1 => if inq σ set n then min (minq σ set v n) (v n) else minq σ set v n
def fin (x : Nat) : Nat := if x = 21 then 0 else x
/-- the answer over the values v -/
def ansv (σ : SG) (k e set : Nat) (v : Nat → Nat) : Nat :=
  if k = 0 then sumq σ set v (gN σ) / e * e else if k = 1 then cntq σ set e v (gN σ) else if k = 2 then maxq σ set v (gN σ) else fin (minq σ set v (gN σ))
theorem many_pos (σ : SG) (n : Nat) : 1 ≤ many σ n := by unfold many; omega
theorem stp_pos (σ : SG) : ∀ n, 1 ≤ stp σ n
  | 0 => Nat.le_refl 1
  | n + 1 => by
    have h1 := stp_pos σ n
    have h2 := many_pos σ n
    show 1 ≤ stp σ n * many σ n
    exact Nat.le_trans h1 (Nat.le_mul_of_pos_right _ h2)
theorem stp_le {σ : SG} {n : Nat} : ∀ {m : Nat}, n ≤ m → stp σ n ≤ stp σ m := by
  intro m h
  induction h with
  | refl => exact Nat.le_refl _
  | step _ ih => exact Nat.le_trans ih (Nat.le_mul_of_pos_right _ (many_pos σ _))
theorem sm_le {f : Nat → Nat} {n : Nat} : ∀ {m : Nat}, n ≤ m → sm f n ≤ sm f m := by
  intro m h
  induction h with
  | refl => exact Nat.le_refl _
  | step _ ih => exact Nat.le_trans ih (Nat.le_add_right _ _)
theorem WF.n10 {σ : SG} {τ : TG} (h : WF σ τ) : gN σ ≤ 10 := h.2.1
theorem WF.p8 {σ : SG} {τ : TG} (h : WF σ τ) : gP σ ≤ 8 := h.1
theorem WF.tle {σ : SG} {τ : TG} (h : WF σ τ) : gT σ ≤ 4096 := h.2.2.1
theorem WF.num {σ : SG} {τ : TG} (h : WF σ τ) {n : Nat} (hn : n < gN σ) : own σ n < gP σ ∧ lo σ n ≤ vl σ n ∧ vl σ n ≤ hi σ n ∧ hi σ n ≤ 20 ∧ 1 ≤ nd σ n ∧ nd σ n ≤ many σ n := h.2.2.2.2.2.2.2.2.1 n hn
theorem WF.per {σ : SG} {τ : TG} (h : WF σ τ) {p : Nat} (hp : p < gP σ) : cur σ p < gN σ ∧ own σ (cur σ p) = p := h.2.2.2.2.2.2.2.1 p hp
theorem WF.sle {σ : SG} {τ : TG} (h : WF σ τ) {n : Nat} (hn : n ≤ gN σ) : stp σ n ≤ 4096 := Nat.le_trans (stp_le hn) h.tle
theorem WF.gpr {σ : SG} {τ : TG} (h : WF σ τ) {a : Nat} (ha : a < 4) : grp σ a ≤ a ∧ grp σ (grp σ a) = grp σ a := h.2.2.2.2.2.2.2.2.2.1 a ha
theorem WF.eqv {σ : SG} {τ : TG} (h : WF σ τ) {a b : Nat} (ha : a < 4) (hb : b < 4) (hg : grp σ a = grp σ b) {t : Nat} (ht : t < gT σ) : lef σ a t = lef σ b t := h.2.2.2.2.2.2.2.2.2.2.1 a b ha hb hg t ht
theorem WF.bit {σ : SG} {τ : TG} (h : WF σ τ) {a t : Nat} (ha : a < 4) (ht : t < gT σ) : lef σ a t ≤ 1 := h.2.2.2.2.2.2.2.2.2.2.2.1 a t ha ht
theorem WF.hdn {σ : SG} {τ : TG} (h : WF σ τ) {a : Nat} (ha : a < 4) : lef σ a (hid σ (gN σ)) = 1 := h.2.2.2.2.2.2.2.2.2.2.2.2.1 a ha
theorem WF.wsh {σ : SG} {τ : TG} (h : WF σ τ) {w : Nat} (hw : w < gW σ) : wse σ w < 2 ^ gP σ ∧ okq (wk σ w) (τ 5 w) := h.2.2.2.2.2.2.2.2.2.2.2.2.2 w hw
theorem WF.w8 {σ : SG} {τ : TG} (h : WF σ τ) : gW σ ≤ 8 := h.2.2.2.2.2.2.1
theorem WF.k200 {σ : SG} {τ : TG} (h : WF σ τ) : gK σ ≤ 200 := h.2.2.2.2.1
theorem WF.fle {σ : SG} {τ : TG} (h : WF σ τ) : gF σ ≤ gK σ := h.2.2.2.2.2.1
theorem WF.s60 {σ : SG} {τ : TG} (h : WF σ τ) : sm (hi σ) (gN σ) ≤ 60 := h.2.2.2.1
theorem valt_le {σ : SG} {τ : TG} (h : WF σ τ) {n : Nat} (hn : n < gN σ) (t : Nat) : valt σ t n ≤ hi σ n ∧ lo σ n ≤ valt σ t n := by
  have h1 := h.num hn
  have h2 := Nat.mod_lt (t / stp σ n) (many_pos σ n)
  unfold valt
  unfold many at h2 ⊢
  omega
/-- the reference's row from o on, by name -/
theorem RA.P {σ : SG} {τ : TG} {A : Nat → Int32} {o : Nat} (h : RA σ τ A o) : A (o + 0) = nI (gP σ) := h.1
theorem RA.N {σ : SG} {τ : TG} {A : Nat → Int32} {o : Nat} (h : RA σ τ A o) : A (o + 1) = nI (gN σ) := h.2.1
theorem RA.T {σ : SG} {τ : TG} {A : Nat → Int32} {o : Nat} (h : RA σ τ A o) : A (o + 2) = nI (gT σ) := h.2.2.1
theorem RA.K {σ : SG} {τ : TG} {A : Nat → Int32} {o : Nat} (h : RA σ τ A o) : A (o + 3) = nI (gK σ) := h.2.2.2.1
theorem RA.F {σ : SG} {τ : TG} {A : Nat → Int32} {o : Nat} (h : RA σ τ A o) : A (o + 4) = nI (gF σ) := h.2.2.2.2.1
theorem RA.W {σ : SG} {τ : TG} {A : Nat → Int32} {o : Nat} (h : RA σ τ A o) : A (o + 5) = nI (gW σ) := h.2.2.2.2.2.1
theorem RA.g {σ : SG} {τ : TG} {A : Nat → Int32} {o : Nat} (h : RA σ τ A o) {a : Nat} (ha : a < 4) : A (o + (6 + a)) = nI (grp σ a) := h.2.2.2.2.2.2.1 a ha
theorem RA.c {σ : SG} {τ : TG} {A : Nat → Int32} {o : Nat} (h : RA σ τ A o) {p : Nat} (hp : p < gP σ) : A (o + (10 + p)) = nI (cur σ p) := h.2.2.2.2.2.2.2.1 p hp
theorem RA.n {σ : SG} {τ : TG} {A : Nat → Int32} {o : Nat} (h : RA σ τ A o) {n : Nat} (hn : n < gN σ) : A (o + (20 + 8 * n)) = nI (own σ n) ∧ A (o + (20 + 8 * n + 1)) = nI (lo σ n) ∧ A (o + (20 + 8 * n + 2)) = nI (hi σ n) ∧ A (o + (20 + 8 * n + 3)) = nI (nd σ n) ∧ A (o + (20 + 8 * n + 4)) = nI (vl σ n) ∧ A (o + (20 + 8 * n + 5)) = nI (stp σ n) := h.2.2.2.2.2.2.2.2.1 n hn
theorem RA.l {σ : SG} {τ : TG} {A : Nat → Int32} {o : Nat} (h : RA σ τ A o) {a t : Nat} (ha : a < 4) (ht : t < gT σ) : A (o + (1130 + 4096 * a + t)) = nI (lef σ a t) := h.2.2.2.2.2.2.2.2.2.1 a t ha ht
theorem RA.w {σ : SG} {τ : TG} {A : Nat → Int32} {o : Nat} (h : RA σ τ A o) {w : Nat} (hw : w < gW σ) : A (o + (1100 + 3 * w)) = nI (wk σ w) ∧ A (o + (1100 + 3 * w + 1)) = nI (wse σ w) ∧ A (o + (1100 + 3 * w + 2)) = τ 5 w := h.2.2.2.2.2.2.2.2.2.2.1 w hw
theorem RA.a {σ : SG} {τ : TG} {A : Nat → Int32} {o : Nat} (h : RA σ τ A o) {k j : Nat} (hk : k < gK σ) (hj : j < 5) : A (o + (100 + 5 * k + j)) = τ j k := h.2.2.2.2.2.2.2.2.2.2.2 k j hk hj
/-- an int is one of the first n numbers -/
abbrev rng (x : Int32) (n : Nat) : Prop := 0 ≤ x ∧ x < nI n
theorem rng_iff {x : Int32} {n : Nat} (hn : n < 2147483648) : rng x n ↔ ∃ j, j < n ∧ x = nI j := by
  constructor
  · intro ⟨h1, h2⟩
    rcases i32_cases x hn with h | h | h
    · exact h
    · exact absurd h (Int32.not_lt.mpr h1)
    · exact absurd h2 (Int32.not_lt.mpr h)
  · rintro ⟨j, hj, rfl⟩
    exact ⟨nI_pos' (by omega), nI_lt hj hn⟩
theorem rng_n {j n : Nat} (hj : j < 2147483648) (hn : n < 2147483648) : rng (nI j) n ↔ j < n := by
  rw [rng_iff hn]
  constructor
  · rintro ⟨k, hk, e⟩
    rw [(nI_eq hj (by omega)).mp e]
    exact hk
  · intro h
    exact ⟨j, h, rfl⟩
theorem rng_out {x : Int32} {n : Nat} (h : ¬ rng x n) : x < 0 ∨ nI n ≤ x := by
  by_cases h1 : x < 0
  · exact Or.inl h1
  · exact Or.inr (Int32.not_lt.mp fun h2 => h ⟨Int32.not_lt.mp h1, h2⟩)
