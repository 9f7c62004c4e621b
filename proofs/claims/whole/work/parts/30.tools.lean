/-! ===== PHASE B: pure tools ===== -/
theorem lpo_gen {σ ε : Type} {b : σ → Option (σ ⊕ ε)} (I : Nat → σ → Prop) (E : ε → Prop) (n : Nat) (hs : ∀ i x, i < n → I i x → (∃ x', b x = some (.inl x') ∧ I (i + 1) x') ∨ ∃ e, b x = some (.inr e) ∧ E e) (hx : ∀ x, I n x → ∃ e, b x = some (.inr e) ∧ E e) : ∀ (k i : Nat) (x : σ), n < i + k → i ≤ n → I i x → ∃ e, lpo b k x = some e ∧ E e := by
  intro k
  induction k with
  | zero => intro i x h1 h2 _; omega
  | succ k ih =>
    intro i x h1 h2 hI
    by_cases hi : i < n
    · rcases hs i x hi hI with ⟨x', hb, hI'⟩ | ⟨e, hb, hE⟩
      · obtain ⟨e, h3, h4⟩ := ih (i + 1) x' (by omega) (by omega) hI'
        exact ⟨e, by rw [lpo, hb]; exact h3, h4⟩
      · exact ⟨e, by rw [lpo, hb]; rfl, hE⟩
    · have hin : i = n := by omega
      subst hin
      obtain ⟨e, hb, hE⟩ := hx x hI
      exact ⟨e, by rw [lpo, hb]; rfl, hE⟩
theorem lpo_run {σ ε : Type} {b : σ → Option (σ ⊕ ε)} (I : Nat → σ → Prop) (E : ε → Prop) (n : Nat) (hn : n < 1048576) {x : σ} (h0 : I 0 x) (hs : ∀ i x, i < n → I i x → (∃ x', b x = some (.inl x') ∧ I (i + 1) x') ∨ ∃ e, b x = some (.inr e) ∧ E e) (hx : ∀ x, I n x → ∃ e, b x = some (.inr e) ∧ E e) : ∃ e, lpo b FU x = some e ∧ E e :=
  lpo_gen I E n hs hx FU 0 x (by unfold FU; omega) (Nat.zero_le _) h0
theorem lpo_det {σ ε : Type} {b : σ → Option (σ ⊕ ε)} (F : Nat → σ) (n : Nat) (hn : n < 1048576) {e : ε} {x : σ} (h0 : x = F 0) (hs : ∀ i, i < n → b (F i) = some (.inl (F (i + 1)))) (hx : b (F n) = some (.inr e)) : lpo b FU x = some e := by
  obtain ⟨e', h1, h2⟩ := lpo_run (b := b) (x := x) (fun i x => x = F i) (fun e' => e' = e) n hn h0 (fun i x hi hI => Or.inl ⟨F (i + 1), by rw [hI]; exact hs i hi, rfl⟩) (fun x hI => ⟨e, by rw [hI]; exact hx, rfl⟩)
  rw [h1, h2]
theorem fa_lit (n : Nat) : (OfNat.ofNat n : Int32) = nI n := rfl
theorem q_lt {a b : Nat} (ha : a < 2147483648) (hb : b < 2147483648) : (nI a < nI b) = (a < b) := propext (nI_ltI ha hb)
theorem q_le {a b : Nat} (ha : a < 2147483648) (hb : b < 2147483648) : (nI a ≤ nI b) = (a ≤ b) := propext (nI_leI ha hb)
theorem q_eq {a b : Nat} (ha : a < 2147483648) (hb : b < 2147483648) : (nI a = nI b) = (a = b) := propext (nI_eq ha hb)
theorem q_sub {a b : Nat} (h : b ≤ a) : nI a - nI b = nI (a - b) := pk_sub h
theorem ldI_n {S : PH} {a n : Nat} {f : Nat → Int32} {i : Nat} (h : S a = some (eI n f)) (hi : i < n) (hn : n < 2147483648) : ldI S a (nI i) = some (f i) := by
  unfold ldI
  rw [h]
  have h1 : ¬ (nI i < 0 ∨ n ≤ i) := by intro q; rcases q with q | q; exact nI_pos (by omega) q; omega
  simp only [nI_clamp (show i < 2 ^ 31 by omega), if_neg h1]
theorem ldJ_n {S : PH} {a n : Nat} {f : Nat → Int64} {i : Nat} (h : S a = some (eJ n f)) (hi : i < n) (hn : n < 2147483648) : ldJ S a (nI i) = some (f i) := by
  unfold ldJ
  rw [h]
  have h1 : ¬ (nI i < 0 ∨ n ≤ i) := by intro q; rcases q with q | q; exact nI_pos (by omega) q; omega
  simp only [nI_clamp (show i < 2 ^ 31 by omega), if_neg h1]
theorem ldZ_n {S : PH} {a n : Nat} {f : Nat → Int32} {i : Nat} (h : S a = some (eZ n f)) (hi : i < n) (hn : n < 2147483648) : ldZ S a (nI i) = some (f i) := by
  unfold ldZ
  rw [h]
  have h1 : ¬ (nI i < 0 ∨ n ≤ i) := by intro q; rcases q with q | q; exact nI_pos (by omega) q; omega
  simp only [nI_clamp (show i < 2 ^ 31 by omega), if_neg h1]
theorem ldR_n {S : PH} {kd a n v : Nat} {f : Nat → Option Nat} {i : Nat} (h : S a = some (eR kd n f)) (hi : i < n) (hn : n < 2147483648) (hv : f i = some v) : ldR kd S a (nI i) = some v := by
  unfold ldR
  rw [h]
  have h1 : ¬ (nI i < 0 ∨ n ≤ i) := by intro q; rcases q with q | q; exact nI_pos (by omega) q; omega
  simp only [nI_clamp (show i < 2 ^ 31 by omega), if_neg h1, if_true, hv]
theorem stI_n {S : PH} {a n : Nat} {f : Nat → Int32} {i : Nat} {v : Int32} (h : S a = some (eI n f)) (hi : i < n) (hn : n < 2147483648) : stI S a (nI i) v = some (va_up S a (some (eI n (upd f i v)))) := by
  unfold stI
  rw [h]
  have h1 : ¬ (nI i < 0 ∨ n ≤ i) := by intro q; rcases q with q | q; exact nI_pos (by omega) q; omega
  simp only [nI_clamp (show i < 2 ^ 31 by omega), if_neg h1]
theorem stJ_n {S : PH} {a n : Nat} {f : Nat → Int64} {i : Nat} {v : Int64} (h : S a = some (eJ n f)) (hi : i < n) (hn : n < 2147483648) : stJ S a (nI i) v = some (va_up S a (some (eJ n (vp_updL f i v)))) := by
  unfold stJ
  rw [h]
  have h1 : ¬ (nI i < 0 ∨ n ≤ i) := by intro q; rcases q with q | q; exact nI_pos (by omega) q; omega
  simp only [nI_clamp (show i < 2 ^ 31 by omega), if_neg h1]
theorem stZ_n {S : PH} {a n : Nat} {f : Nat → Int32} {i : Nat} {v : Int32} (h : S a = some (eZ n f)) (hi : i < n) (hn : n < 2147483648) : stZ S a (nI i) v = some (va_up S a (some (eZ n (upd f i (vp_nar .boolean v))))) := by
  unfold stZ
  rw [h]
  have h1 : ¬ (nI i < 0 ∨ n ≤ i) := by intro q; rcases q with q | q; exact nI_pos (by omega) q; omega
  simp only [nI_clamp (show i < 2 ^ 31 by omega), if_neg h1]
theorem gI_n {S : PH} {a ci k : Nat} {fs : List Value} {v : Int32} (h : S a = some (eO ci fs)) (hv : fs[k]? = some (.int v)) : gI S a ci k = some v := by
  unfold gI oF
  rw [h]
  simp only [if_true, hv]
theorem gR_n {S : PH} {a ci k v : Nat} {fs : List Value} (h : S a = some (eO ci fs)) (hv : fs[k]? = some (.ref v)) : gR S a ci k = some v := by
  unfold gR oF
  rw [h]
  simp only [if_true, hv]
theorem ckO_n {S : PH} {a ci : Nat} {fs : List Value} (h : S a = some (eO ci fs)) : ckO S a ci = some () := by
  unfold ckO
  rw [h]
  simp only [if_true]
theorem pF_n {S : PH} {a ci k : Nat} {fs : List Value} {v : Value} (h : S a = some (eO ci fs)) (hk : k < fs.length) : pF S a ci k v = some (va_up S a (some (eO ci (fs.set k v)))) := by
  unfold pF
  rw [h]
  simp only [hk, and_self, if_true]
/-- every int is a small number, or out of a small range -/
theorem i32_cases (x : Int32) {n : Nat} (hn : n < 2147483648) : (∃ j : Nat, j < n ∧ x = nI j) ∨ x < 0 ∨ nI n ≤ x := by
  rcases pk_ix x (n := n) hn with h | h | h
  · exact Or.inr (Or.inl h)
  · exact Or.inr (Or.inr h)
  · exact Or.inl h
