/-! ===== the class's cells: one map of 120, by place ===== -/
def putn (ca : Nat → Nat) (C : Nat → PE) (S0 : PH) : Nat → PH
  | 0 => S0
  | n + 1 => va_up (putn ca C S0 n) (ca n) (some (C n))
def injC (ca : Nat → Nat) : Prop := ∀ i j, i < 120 → j < 120 → ca i = ca j → i = j
def pt (ca : Nat → Nat) (S0 : PH) (C : Nat → PE) : PH := putn ca C S0 120
theorem putn_at {ca : Nat → Nat} {C : Nat → PE} {S0 : PH} (h : injC ca) {i : Nat} : ∀ n, n ≤ 120 → i < n → putn ca C S0 n (ca i) = some (C i)
  | 0, _, hi => absurd hi (Nat.not_lt_zero i)
  | n + 1, hn, hi => by
    show va_up (putn ca C S0 n) (ca n) (some (C n)) (ca i) = _
    by_cases e : i = n
    · subst e
      exact va_up_self _ _ _
    · rw [va_up_ne _ _ (fun q => e (h i n (by omega) (by omega) q))]
      exact putn_at h n (by omega) (by omega)
theorem putn_out {ca : Nat → Nat} {C : Nat → PE} {S0 : PH} {a : Nat} : ∀ n, (∀ i, i < n → a ≠ ca i) → putn ca C S0 n a = S0 a
  | 0, _ => rfl
  | n + 1, hn => by
    show va_up (putn ca C S0 n) (ca n) (some (C n)) a = _
    rw [va_up_ne _ _ (hn n (by omega))]
    exact putn_out n (fun i hi => hn i (by omega))
theorem pt_at {ca : Nat → Nat} {C : Nat → PE} {S0 : PH} (h : injC ca) {i : Nat} (hi : i < 120) : pt ca S0 C (ca i) = some (C i) := putn_at h 120 (Nat.le_refl _) hi
theorem pt_out {ca : Nat → Nat} {C : Nat → PE} {S0 : PH} {a : Nat} (h : ∀ i, i < 120 → a ≠ ca i) : pt ca S0 C a = S0 a := putn_out 120 h
theorem pt_up {ca : Nat → Nat} {C : Nat → PE} {S0 : PH} (h : injC ca) {i : Nat} (hi : i < 120) (e : PE) : va_up (pt ca S0 C) (ca i) (some e) = pt ca S0 (va_up C i e) := by
  funext a
  by_cases ha : ∃ j, j < 120 ∧ a = ca j
  · obtain ⟨j, hj, rfl⟩ := ha
    rw [pt_at h hj]
    by_cases ej : j = i
    · subst ej
      rw [va_up_self, va_up_self]
    · rw [va_up_ne _ _ (fun q => ej (h j i hj hi q)), va_up_ne _ _ ej, pt_at h hj]
  · have h1 : ∀ j, j < 120 → a ≠ ca j := fun j hj q => ha ⟨j, hj, q⟩
    rw [pt_out h1, va_up_ne _ _ (h1 i hi), pt_out h1]
theorem pt_congr {ca : Nat → Nat} {C D : Nat → PE} {S0 : PH} (h : ∀ i, i < 120 → C i = D i) : pt ca S0 C = pt ca S0 D := by
  have : ∀ n, n ≤ 120 → putn ca C S0 n = putn ca D S0 n := by
    intro n
    induction n with
    | zero => intro _; rfl
    | succ n ih =>
      intro hn
      show va_up (putn ca C S0 n) (ca n) (some (C n)) = va_up (putn ca D S0 n) (ca n) (some (D n))
      rw [ih (by omega), h n (by omega)]
  exact this 120 (Nat.le_refl _)
theorem sub1 {a : Nat} (h : 1 ≤ a) : nI a - 1 = nI (a - 1) := q_sub (b := 1) h
theorem va_up_up {α : Type} (f : Nat → α) (k : Nat) (v w : α) : va_up (va_up f k v) k w = va_up f k w := by
  funext j
  by_cases e : j = k
  · subst e; rw [va_up_self, va_up_self]
  · rw [va_up_ne _ _ e, va_up_ne _ _ e, va_up_ne _ _ e]
section CLS
variable {ca : Nat → Nat} {S0 : PH} {C : Nat → PE} {i : Nat}
theorem pt_gI (h : injC ca) {ci k : Nat} {fs : List Value} {v : Int32} (hC : C i = eO ci fs) (hi : i < 120) (hv : fs[k]? = some (.int v)) : gI (pt ca S0 C) (ca i) ci k = some v := gI_n ((pt_at h hi).trans (congrArg some hC)) hv
theorem pt_gR (h : injC ca) {ci k v : Nat} {fs : List Value} (hC : C i = eO ci fs) (hi : i < 120) (hv : fs[k]? = some (.ref v)) : gR (pt ca S0 C) (ca i) ci k = some v := gR_n ((pt_at h hi).trans (congrArg some hC)) hv
theorem pt_ck (h : injC ca) {ci : Nat} {fs : List Value} (hC : C i = eO ci fs) (hi : i < 120) : ckO (pt ca S0 C) (ca i) ci = some () := ckO_n ((pt_at h hi).trans (congrArg some hC))
theorem pt_pF (h : injC ca) {ci k : Nat} {fs : List Value} (hC : C i = eO ci fs) (hi : i < 120) (hk : k < fs.length) (v : Value) : pF (pt ca S0 C) (ca i) ci k v = some (pt ca S0 (va_up C i (eO ci (fs.set k v)))) := by
  rw [pF_n ((pt_at h hi).trans (congrArg some hC)) hk, pt_up h hi]
theorem pt_pI (h : injC ca) {ci k : Nat} {fs : List Value} (hC : C i = eO ci fs) (hi : i < 120) (hk : k < fs.length) (v : Int32) : pI (pt ca S0 C) (ca i) ci k v = some (pt ca S0 (va_up C i (eO ci (fs.set k (.int v))))) := pt_pF h hC hi hk (.int v)
theorem pt_pR (h : injC ca) {ci k : Nat} {fs : List Value} (hC : C i = eO ci fs) (hi : i < 120) (hk : k < fs.length) (v : Nat) : pR (pt ca S0 C) (ca i) ci k v = some (pt ca S0 (va_up C i (eO ci (fs.set k (.ref v))))) := pt_pF h hC hi hk (.ref v)
theorem pt_ldI (h : injC ca) {n j : Nat} {f : Nat → Int32} (hC : C i = eI n f) (hi : i < 120) (hj : j < n) (hn : n < 2147483648) : ldI (pt ca S0 C) (ca i) (nI j) = some (f j) := ldI_n ((pt_at h hi).trans (congrArg some hC)) hj hn
theorem pt_ldJ (h : injC ca) {n j : Nat} {f : Nat → Int64} (hC : C i = eJ n f) (hi : i < 120) (hj : j < n) (hn : n < 2147483648) : ldJ (pt ca S0 C) (ca i) (nI j) = some (f j) := ldJ_n ((pt_at h hi).trans (congrArg some hC)) hj hn
theorem pt_ldZ (h : injC ca) {n j : Nat} {f : Nat → Int32} (hC : C i = eZ n f) (hi : i < 120) (hj : j < n) (hn : n < 2147483648) : ldZ (pt ca S0 C) (ca i) (nI j) = some (f j) := ldZ_n ((pt_at h hi).trans (congrArg some hC)) hj hn
theorem pt_ldR (h : injC ca) {kd n j v : Nat} {f : Nat → Option Nat} (hC : C i = eR kd n f) (hi : i < 120) (hj : j < n) (hn : n < 2147483648) (hv : f j = some v) : ldR kd (pt ca S0 C) (ca i) (nI j) = some v := ldR_n ((pt_at h hi).trans (congrArg some hC)) hj hn hv
theorem pt_stI (h : injC ca) {n j : Nat} {f : Nat → Int32} (hC : C i = eI n f) (hi : i < 120) (hj : j < n) (hn : n < 2147483648) (v : Int32) : stI (pt ca S0 C) (ca i) (nI j) v = some (pt ca S0 (va_up C i (eI n (upd f j v)))) := by
  rw [stI_n ((pt_at h hi).trans (congrArg some hC)) hj hn, pt_up h hi]
theorem pt_stJ (h : injC ca) {n j : Nat} {f : Nat → Int64} (hC : C i = eJ n f) (hi : i < 120) (hj : j < n) (hn : n < 2147483648) (v : Int64) : stJ (pt ca S0 C) (ca i) (nI j) v = some (pt ca S0 (va_up C i (eJ n (vp_updL f j v)))) := by
  rw [stJ_n ((pt_at h hi).trans (congrArg some hC)) hj hn, pt_up h hi]
theorem pt_stZ (h : injC ca) {n j : Nat} {f : Nat → Int32} (hC : C i = eZ n f) (hi : i < 120) (hj : j < n) (hn : n < 2147483648) (v : Int32) : stZ (pt ca S0 C) (ca i) (nI j) v = some (pt ca S0 (va_up C i (eZ n (upd f j (vp_nar .boolean v))))) := by
  rw [stZ_n ((pt_at h hi).trans (congrArg some hC)) hj hn, pt_up h hi]
theorem pt_lnI (h : injC ca) {n : Nat} {f : Nat → Int32} (hC : C i = eI n f) (hi : i < 120) : lnI (pt ca S0 C) (ca i) = some (nI n) := by
  unfold lnI; rw [(pt_at h hi).trans (congrArg some hC)]; rfl
theorem pt_lnJ (h : injC ca) {n : Nat} {f : Nat → Int64} (hC : C i = eJ n f) (hi : i < 120) : lnJ (pt ca S0 C) (ca i) = some (nI n) := by
  unfold lnJ; rw [(pt_at h hi).trans (congrArg some hC)]; rfl
theorem pt_cpI (h : injC ca) {n j : Nat} {f g : Nat → Int32} (hC : C i = eI n f) (hD : C j = eI n g) (hi : i < 120) (hj : j < 120) (hn : n < 2147483648) : cpI (pt ca S0 C) (ca i) 0 (ca j) 0 (nI n) = some (pt ca S0 (va_up C j (eI n (va_cpy f g 0 0 n)))) := by
  unfold cpI
  rw [(pt_at h hi).trans (congrArg some hC), (pt_at h hj).trans (congrArg some hD)]
  have h1 : (nI n).toNatClampNeg = n := nI_clamp hn
  have h2 : (0 : Int32).toNatClampNeg = 0 := rfl
  have h3 : ¬ nI n < 0 := Int32.not_lt.mpr (nI_pos' (by omega))
  simp only [h1, h2]
  rw [if_neg (by
    rintro (q | q | q | q | q)
    · exact absurd q (by decide)
    · exact absurd q (by decide)
    · exact h3 q
    · omega
    · omega), pt_up h hj]
theorem pt_cpJ (h : injC ca) {n j : Nat} {f g : Nat → Int64} (hC : C i = eJ n f) (hD : C j = eJ n g) (hi : i < 120) (hj : j < 120) (hn : n < 2147483648) : cpJ (pt ca S0 C) (ca i) 0 (ca j) 0 (nI n) = some (pt ca S0 (va_up C j (eJ n (va_cpy f g 0 0 n)))) := by
  unfold cpJ
  rw [(pt_at h hi).trans (congrArg some hC), (pt_at h hj).trans (congrArg some hD)]
  have h1 : (nI n).toNatClampNeg = n := nI_clamp hn
  have h2 : (0 : Int32).toNatClampNeg = 0 := rfl
  have h3 : ¬ nI n < 0 := Int32.not_lt.mpr (nI_pos' (by omega))
  simp only [h1, h2]
  rw [if_neg (by
    rintro (q | q | q | q | q)
    · exact absurd q (by decide)
    · exact absurd q (by decide)
    · exact h3 q
    · omega
    · omega), pt_up h hj]
end CLS
/-! ===== a State of the class, at places b to b + 26 ===== -/
/-- where a number's bits begin in a mark -/
def fbt (σ : SG) (n : Nat) : Nat := 1 + sm (many σ) n
def NC (ca : Nat → Nat) (σ : SG) (C : Nat → PE) (b : Nat) : Prop := ∃ cu ow le gr ne va fi : Nat → Int32,
  C (b + 1) = eO 2 [.ref (ca (b + 2)), .ref (ca (b + 3)), .ref (ca (b + 4)), .ref (ca (b + 5)), .ref (ca (b + 6)), .ref (ca (b + 7)), .ref (ca (b + 8)), .int (nI (gP σ)), .int (nI (gN σ)), .int (nI (gT σ)), .int (nI (sm (hi σ) (gN σ))), .int (nI (fbt σ (gN σ)))] ∧
  C (b + 2) = eI 8 cu ∧ C (b + 3) = eI 10 ow ∧ C (b + 4) = eI 10 le ∧ C (b + 5) = eI 10 gr ∧ C (b + 6) = eI 10 ne ∧ C (b + 7) = eI 10 va ∧ C (b + 8) = eI 10 fi ∧
  (∀ p, p < gP σ → cu p = nI (cur σ p)) ∧
  (∀ n, n < gN σ → ow n = nI (own σ n) ∧ le n = nI (lo σ n) ∧ gr n = nI (hi σ n) ∧ ne n = nI (nd σ n) ∧ va n = nI (vl σ n) ∧ fi n = nI (fbt σ n))
/-- is table t in a row of bits -/
def bw (f : Nat → Int64) (t : Nat) : Bool := (f (t / 64)).toBitVec.getLsbD (t % 64)
def KC (ca : Nat → Nat) (σ : SG) (C : Nat → PE) (b : Nat) : Prop := ∃ (ld : Nat → Nat) (lr : Nat → Int32) (fr : Nat → Option Nat) (rows : Nat → Nat → Int64),
  C (b + 9) = eO 1 [.ref (ca (b + 10)), .ref (ca (b + 11))] ∧ C (b + 10) = eI 4 lr ∧ C (b + 11) = eR 2 4 fr ∧
  (∀ a, a < 4 → fr a = some (ca (b + 12 + a)) ∧ C (b + 12 + a) = eJ 64 (rows a) ∧ lr a = nI (ld a) ∧ ld a < 4 ∧ ld (ld a) = ld a ∧ ∀ t, t < 4096 → bw (rows (ld a)) t = decide (t < gT σ ∧ lef σ a t = 1)) ∧
  ∀ a c, a < 4 → c < 4 → (ld a = ld c ↔ grp σ a = grp σ c)
def AC (ca : Nat → Nat) (σ : SG) (τ : TG) (C : Nat → PE) (b : Nat) : Prop := ∃ (fr : Nat → Option Nat) (rows : Nat → Nat → Int32),
  C (b + 16) = eO 0 [.ref (ca (b + 17)), .int (nI (gK σ)), .int (nI (gF σ))] ∧ C (b + 17) = eR 1 5 fr ∧
  ∀ j, j < 5 → fr j = some (ca (b + 18 + j)) ∧ C (b + 18 + j) = eI 200 (rows j) ∧ ∀ k, k < gK σ → rows j k = τ j k
def WC (ca : Nat → Nat) (σ : SG) (τ : TG) (C : Nat → PE) (b : Nat) : Prop := ∃ ki se ex : Nat → Int32,
  C (b + 23) = eO 6 [.ref (ca (b + 24)), .ref (ca (b + 25)), .ref (ca (b + 26)), .int (nI (gW σ))] ∧ C (b + 24) = eI 8 ki ∧ C (b + 25) = eI 8 se ∧ C (b + 26) = eI 8 ex ∧
  ∀ w, w < gW σ → ki w = nI (wk σ w) ∧ se w = nI (wse σ w) ∧ ex w = τ 5 w
def SC (ca : Nat → Nat) (σ : SG) (τ : TG) (C : Nat → PE) (b : Nat) : Prop :=
  C b = eO 5 [.ref (ca (b + 1)), .ref (ca (b + 9)), .ref (ca (b + 16)), .ref (ca (b + 23))] ∧ NC ca σ C b ∧ KC ca σ C b ∧ AC ca σ τ C b ∧ WC ca σ τ C b
theorem NC_fr {ca : Nat → Nat} {σ : SG} {C D : Nat → PE} {b : Nat} (h : NC ca σ C b) (he : ∀ i, b ≤ i → i < b + 27 → D i = C i) : NC ca σ D b := by
  obtain ⟨cu, ow, le, gr, ne, va, fi, h1, h2, h3, h4, h5, h6, h7, h8, h9⟩ := h
  refine ⟨cu, ow, le, gr, ne, va, fi, ?_, ?_, ?_, ?_, ?_, ?_, ?_, ?_, h9⟩
  all_goals (rw [he _ (by omega) (by omega)]; assumption)
theorem KC_fr {ca : Nat → Nat} {σ : SG} {C D : Nat → PE} {b : Nat} (h : KC ca σ C b) (he : ∀ i, b ≤ i → i < b + 27 → D i = C i) : KC ca σ D b := by
  obtain ⟨ld, lr, fr, rows, h1, h2, h3, h4, h5⟩ := h
  refine ⟨ld, lr, fr, rows, ?_, ?_, ?_, ?_, h5⟩
  · rw [he _ (by omega) (by omega)]; exact h1
  · rw [he _ (by omega) (by omega)]; exact h2
  · rw [he _ (by omega) (by omega)]; exact h3
  · intro a ha
    rw [he _ (by omega) (by omega)]; exact h4 a ha
theorem AC_fr {ca : Nat → Nat} {σ : SG} {τ : TG} {C D : Nat → PE} {b : Nat} (h : AC ca σ τ C b) (he : ∀ i, b ≤ i → i < b + 27 → D i = C i) : AC ca σ τ D b := by
  obtain ⟨fr, rows, h1, h2, h3⟩ := h
  refine ⟨fr, rows, ?_, ?_, ?_⟩
  · rw [he _ (by omega) (by omega)]; exact h1
  · rw [he _ (by omega) (by omega)]; exact h2
  · intro j hj
    rw [he _ (by omega) (by omega)]; exact h3 j hj
theorem WC_fr {ca : Nat → Nat} {σ : SG} {τ : TG} {C D : Nat → PE} {b : Nat} (h : WC ca σ τ C b) (he : ∀ i, b ≤ i → i < b + 27 → D i = C i) : WC ca σ τ D b := by
  obtain ⟨ki, se, ex, h1, h2, h3, h4, h5⟩ := h
  refine ⟨ki, se, ex, ?_, ?_, ?_, ?_, h5⟩
  all_goals (rw [he _ (by omega) (by omega)]; assumption)
theorem SC_fr {ca : Nat → Nat} {σ : SG} {τ : TG} {C D : Nat → PE} {b : Nat} (h : SC ca σ τ C b) (he : ∀ i, b ≤ i → i < b + 27 → D i = C i) : SC ca σ τ D b :=
  ⟨(he b (by omega) (by omega)).trans h.1, NC_fr h.2.1 he, KC_fr h.2.2.1 he, AC_fr h.2.2.2.1 he, WC_fr h.2.2.2.2 he⟩
section CLS2
variable {ca : Nat → Nat} {S0 : PH} {C : Nat → PE} {b : Nat} {σ : SG} {τ : TG}
theorem n_g0 (hj : injC ca) (hb : b + 27 ≤ 120) (h : NC ca σ C b) : gR (pt ca S0 C) (ca (b + 1)) 2 0 = some (ca (b + 2)) := by
  obtain ⟨cu, ow, le, gr, ne, va, fi, h1, -⟩ := h
  exact pt_gR hj h1 (by omega) rfl
theorem n_g1 (hj : injC ca) (hb : b + 27 ≤ 120) (h : NC ca σ C b) : gR (pt ca S0 C) (ca (b + 1)) 2 1 = some (ca (b + 3)) := by
  obtain ⟨cu, ow, le, gr, ne, va, fi, h1, -⟩ := h
  exact pt_gR hj h1 (by omega) rfl
theorem n_g2 (hj : injC ca) (hb : b + 27 ≤ 120) (h : NC ca σ C b) : gR (pt ca S0 C) (ca (b + 1)) 2 2 = some (ca (b + 4)) := by
  obtain ⟨cu, ow, le, gr, ne, va, fi, h1, -⟩ := h
  exact pt_gR hj h1 (by omega) rfl
theorem n_g3 (hj : injC ca) (hb : b + 27 ≤ 120) (h : NC ca σ C b) : gR (pt ca S0 C) (ca (b + 1)) 2 3 = some (ca (b + 5)) := by
  obtain ⟨cu, ow, le, gr, ne, va, fi, h1, -⟩ := h
  exact pt_gR hj h1 (by omega) rfl
theorem n_g4 (hj : injC ca) (hb : b + 27 ≤ 120) (h : NC ca σ C b) : gR (pt ca S0 C) (ca (b + 1)) 2 4 = some (ca (b + 6)) := by
  obtain ⟨cu, ow, le, gr, ne, va, fi, h1, -⟩ := h
  exact pt_gR hj h1 (by omega) rfl
theorem n_g5 (hj : injC ca) (hb : b + 27 ≤ 120) (h : NC ca σ C b) : gR (pt ca S0 C) (ca (b + 1)) 2 5 = some (ca (b + 7)) := by
  obtain ⟨cu, ow, le, gr, ne, va, fi, h1, -⟩ := h
  exact pt_gR hj h1 (by omega) rfl
theorem n_g6 (hj : injC ca) (hb : b + 27 ≤ 120) (h : NC ca σ C b) : gR (pt ca S0 C) (ca (b + 1)) 2 6 = some (ca (b + 8)) := by
  obtain ⟨cu, ow, le, gr, ne, va, fi, h1, -⟩ := h
  exact pt_gR hj h1 (by omega) rfl
theorem n_g7 (hj : injC ca) (hb : b + 27 ≤ 120) (h : NC ca σ C b) : gI (pt ca S0 C) (ca (b + 1)) 2 7 = some (nI (gP σ)) := by
  obtain ⟨cu, ow, le, gr, ne, va, fi, h1, -⟩ := h
  exact pt_gI hj h1 (by omega) rfl
theorem n_g8 (hj : injC ca) (hb : b + 27 ≤ 120) (h : NC ca σ C b) : gI (pt ca S0 C) (ca (b + 1)) 2 8 = some (nI (gN σ)) := by
  obtain ⟨cu, ow, le, gr, ne, va, fi, h1, -⟩ := h
  exact pt_gI hj h1 (by omega) rfl
theorem n_g9 (hj : injC ca) (hb : b + 27 ≤ 120) (h : NC ca σ C b) : gI (pt ca S0 C) (ca (b + 1)) 2 9 = some (nI (gT σ)) := by
  obtain ⟨cu, ow, le, gr, ne, va, fi, h1, -⟩ := h
  exact pt_gI hj h1 (by omega) rfl
theorem n_g10 (hj : injC ca) (hb : b + 27 ≤ 120) (h : NC ca σ C b) : gI (pt ca S0 C) (ca (b + 1)) 2 10 = some (nI (sm (hi σ) (gN σ))) := by
  obtain ⟨cu, ow, le, gr, ne, va, fi, h1, -⟩ := h
  exact pt_gI hj h1 (by omega) rfl
theorem n_ck (hj : injC ca) (hb : b + 27 ≤ 120) (h : NC ca σ C b) : ckO (pt ca S0 C) (ca (b + 1)) 2 = some () := by
  obtain ⟨cu, ow, le, gr, ne, va, fi, h1, -⟩ := h
  exact pt_ck hj h1 (by omega)
theorem n_cu (hj : injC ca) (hb : b + 27 ≤ 120) (hw : WF σ τ) (h : NC ca σ C b) {p : Nat} (hp : p < gP σ) : ldI (pt ca S0 C) (ca (b + 2)) (nI p) = some (nI (cur σ p)) := by
  obtain ⟨cu, ow, le, gr, ne, va, fi, h1, h2, h3, h4, h5, h6, h7, h8, h9, h10⟩ := h
  have := hw.p8
  rw [pt_ldI hj h2 (by omega) (by omega) (by omega), h9 p hp]
theorem n_ow (hj : injC ca) (hb : b + 27 ≤ 120) (hw : WF σ τ) (h : NC ca σ C b) {n : Nat} (hn : n < gN σ) : ldI (pt ca S0 C) (ca (b + 3)) (nI n) = some (nI (own σ n)) := by
  obtain ⟨cu, ow, le, gr, ne, va, fi, h1, h2, h3, h4, h5, h6, h7, h8, h9, h10⟩ := h
  have := hw.n10
  rw [pt_ldI hj h3 (by omega) (by omega) (by omega), (h10 n hn).1]
theorem n_le (hj : injC ca) (hb : b + 27 ≤ 120) (hw : WF σ τ) (h : NC ca σ C b) {n : Nat} (hn : n < gN σ) : ldI (pt ca S0 C) (ca (b + 4)) (nI n) = some (nI (lo σ n)) := by
  obtain ⟨cu, ow, le, gr, ne, va, fi, h1, h2, h3, h4, h5, h6, h7, h8, h9, h10⟩ := h
  have := hw.n10
  rw [pt_ldI hj h4 (by omega) (by omega) (by omega), (h10 n hn).2.1]
theorem n_gr (hj : injC ca) (hb : b + 27 ≤ 120) (hw : WF σ τ) (h : NC ca σ C b) {n : Nat} (hn : n < gN σ) : ldI (pt ca S0 C) (ca (b + 5)) (nI n) = some (nI (hi σ n)) := by
  obtain ⟨cu, ow, le, gr, ne, va, fi, h1, h2, h3, h4, h5, h6, h7, h8, h9, h10⟩ := h
  have := hw.n10
  rw [pt_ldI hj h5 (by omega) (by omega) (by omega), (h10 n hn).2.2.1]
theorem n_ne (hj : injC ca) (hb : b + 27 ≤ 120) (hw : WF σ τ) (h : NC ca σ C b) {n : Nat} (hn : n < gN σ) : ldI (pt ca S0 C) (ca (b + 6)) (nI n) = some (nI (nd σ n)) := by
  obtain ⟨cu, ow, le, gr, ne, va, fi, h1, h2, h3, h4, h5, h6, h7, h8, h9, h10⟩ := h
  have := hw.n10
  rw [pt_ldI hj h6 (by omega) (by omega) (by omega), (h10 n hn).2.2.2.1]
theorem n_va (hj : injC ca) (hb : b + 27 ≤ 120) (hw : WF σ τ) (h : NC ca σ C b) {n : Nat} (hn : n < gN σ) : ldI (pt ca S0 C) (ca (b + 7)) (nI n) = some (nI (vl σ n)) := by
  obtain ⟨cu, ow, le, gr, ne, va, fi, h1, h2, h3, h4, h5, h6, h7, h8, h9, h10⟩ := h
  have := hw.n10
  rw [pt_ldI hj h7 (by omega) (by omega) (by omega), (h10 n hn).2.2.2.2.1]
theorem n_fi (hj : injC ca) (hb : b + 27 ≤ 120) (hw : WF σ τ) (h : NC ca σ C b) {n : Nat} (hn : n < gN σ) : ldI (pt ca S0 C) (ca (b + 8)) (nI n) = some (nI (fbt σ n)) := by
  obtain ⟨cu, ow, le, gr, ne, va, fi, h1, h2, h3, h4, h5, h6, h7, h8, h9, h10⟩ := h
  have := hw.n10
  rw [pt_ldI hj h8 (by omega) (by omega) (by omega), (h10 n hn).2.2.2.2.2]
/-! ===== what Numbers tells ===== -/
theorem d_valueCount (hj : injC ca) (hb : b + 27 ≤ 120) (hw : WF σ τ) (h : NC ca σ C b) {n : Nat} (hn : n < gN σ) : f_X2_valueCount (pt ca S0 C) (ca (b + 1)) (nI n) = some (nI (many σ n)) := by
  have h1 := hw.num hn
  unfold f_X2_valueCount
  simp only [n_g3 hj hb h, n_gr hj hb hw h hn, n_g2 hj hb h, n_le hj hb hw h hn, Option.bind_some, Option.bind_none, bd2, bd3, bd4, nm]
  rw [q_sub (by omega), nI_1]
  rfl
theorem d_isCurrent (hj : injC ca) (hb : b + 27 ≤ 120) (hw : WF σ τ) (h : NC ca σ C b) {n : Nat} (hn : n < gN σ) : f_X2_isCurrent (pt ca S0 C) (ca (b + 1)) (nI n) = some (if cur σ (own σ n) = n then 1 else 0) := by
  have h1 := hw.num hn
  have h2 := hw.n10
  have h3 := (hw.per h1.1).1
  unfold f_X2_isCurrent
  simp only [n_g0 hj hb h, n_g1 hj hb h, n_ow hj hb hw h hn, n_cu hj hb hw h h1.1, Option.bind_some, Option.bind_none, bd2, bd3, bd4, nm]
  by_cases e : cur σ (own σ n) = n
  · rw [if_pos (congrArg nI e), if_pos e]
  · rw [if_neg (fun q => e ((nI_eq (by omega) (by omega)).mp q)), if_neg e]
theorem d_holdsBit (x : Int32) {p : Nat} (hp : p < 32) : f_X7_holdsBit x (nI p) = some (if bt x p = true then 1 else 0) := by
  unfold f_X7_holdsBit
  by_cases e : bt x p = true
  · rw [if_neg (by rw [sh0 x hp, e]; decide), if_pos e]
  · rw [if_pos (by rw [sh0 x hp]; exact ts_nt e), if_neg e]
theorem d_isAskedOf (hj : injC ca) (hb : b + 27 ≤ 120) (hw : WF σ τ) (h : NC ca σ C b) {n s : Nat} (hn : n < gN σ) : f_X2_isAskedOf (pt ca S0 C) (ca (b + 1)) (nI n) (nI s) = some (if inq σ s n = true then 1 else 0) := by
  have h1 := hw.num hn
  have h2 := hw.p8
  unfold f_X2_isAskedOf
  simp only [n_ck hj hb h, d_isCurrent hj hb hw h hn, n_g1 hj hb h, n_ow hj hb hw h hn, d_holdsBit (nI s) (p := own σ n) (by omega), bt_n (show own σ n < 32 by omega), Option.bind_some, Option.bind_none, bd2, bd3, bd4, nm]
  unfold inq
  by_cases e : cur σ (own σ n) = n
  · by_cases g : s.testBit (own σ n) = true
    · simp [e, g]
    · simp [e, g]
  · simp [e]
theorem d_onlyPeople (hj : injC ca) (hb : b + 27 ≤ 120) (hw : WF σ τ) (h : NC ca σ C b) (x : Int32) : f_X2_onlyPeople (pt ca S0 C) (ca (b + 1)) x = some (nI (kn σ x)) := by
  have h2 := hw.p8
  unfold f_X2_onlyPeople
  simp only [n_g7 hj hb h, Option.bind_some, Option.bind_none, bd2, bd3, bd4, nm]
  rw [mask_p x (by omega)]
theorem d_hiddenTable (hj : injC ca) (hb : b + 27 ≤ 120) (hw : WF σ τ) (h : NC ca σ C b) : f_X2_hiddenTable (pt ca S0 C) (ca (b + 1)) = some (nI (hid σ (gN σ))) := by
  have h2 := hw.n10
  unfold f_X2_hiddenTable
  have key : lpo (fun x : Int32 × Int32 × Int32 => f_X2_hiddenTable_L6 (pt ca S0 C) (ca (b + 1)) x.1 x.2.1 x.2.2) FU ((0 : Int32), (1 : Int32), (0 : Int32)) = some (nI (hid σ (gN σ))) := by
    refine lpo_det (fun n => (nI (hid σ n), nI (stp σ n), nI n)) (gN σ) (by omega) rfl ?_ ?_
    · intro n hn
      have h1 := hw.num hn
      show f_X2_hiddenTable_L6 _ _ (nI (hid σ n)) (nI (stp σ n)) (nI n) = _
      unfold f_X2_hiddenTable_L6
      simp only [n_g8 hj hb h, n_g5 hj hb h, n_g2 hj hb h, n_va hj hb hw h hn, n_le hj hb hw h hn, n_ck hj hb h, d_valueCount hj hb hw h hn, Option.bind_some, Option.bind_none, bd2, bd3, bd4, nm]
      rw [if_neg (by rw [q_le (by omega) (by omega)]; omega), q_sub (by omega), pk_mul, nI_add, pk_mul, nI_1]
      rfl
    · show f_X2_hiddenTable_L6 _ _ (nI (hid σ (gN σ))) (nI (stp σ (gN σ))) (nI (gN σ)) = _
      unfold f_X2_hiddenTable_L6
      simp only [n_g8 hj hb h, Option.bind_some, Option.bind_none, bd2, bd3, bd4, nm]
      rw [if_pos (by rw [q_le (by omega) (by omega)]; omega)]
  rw [key]
  rfl
theorem d_hasRoomFor (hj : injC ca) (hb : b + 27 ≤ 120) (hw : WF σ τ) (h : NC ca σ C b) (v : Int32) {l g : Nat} (hl : l ≤ g) (hg : g ≤ 20) : f_X2_hasRoomFor (pt ca S0 C) (ca (b + 1)) v (nI l) (nI g) = some (if gN σ < 10 ∧ (nI l ≤ v ∧ v ≤ nI g) ∧ gT σ * (g - l + 1) ≤ 4096 ∧ sm (hi σ) (gN σ) + g ≤ 60 then 1 else 0) := by
  have h2 := hw.n10
  have h3 := hw.s60
  have h4 := hw.tle
  have h5 : gT σ * (g - l + 1) ≤ 4096 * 21 := Nat.mul_le_mul h4 (by omega)
  unfold f_X2_hasRoomFor
  simp only [n_g8 hj hb h, n_g9 hj hb h, n_g10 hj hb h, Option.bind_some, Option.bind_none, bd2, bd3, bd4, nm]
  rw [q_sub hl, nI_1, pk_mul, nI_add]
  have e1 : ((10 : Int32) ≤ nI (gN σ)) = (10 ≤ gN σ) := q_le (a := 10) (by omega) (by omega)
  have e2 : ((4096 : Int32) < nI (gT σ * (g - l + 1))) = (4096 < gT σ * (g - l + 1)) := q_lt (a := 4096) (by omega) (by omega)
  have e3 : ((60 : Int32) < nI (sm (hi σ) (gN σ) + g)) = (60 < sm (hi σ) (gN σ) + g) := q_lt (a := 60) (by omega) (by omega)
  simp only [e1, e2, e3]
  by_cases a1 : gN σ < 10
  · rw [if_neg (by omega)]
    by_cases a2 : v < nI l
    · rw [if_pos a2, if_neg (fun q => absurd a2 (Int32.not_lt.mpr q.2.1.1))]
    · rw [if_neg a2]
      by_cases a3 : nI g < v
      · rw [if_pos a3, if_neg (fun q => absurd a3 (Int32.not_lt.mpr q.2.1.2))]
      · rw [if_neg a3]
        by_cases a4 : gT σ * (g - l + 1) ≤ 4096
        · rw [if_neg (by omega)]
          by_cases a5 : sm (hi σ) (gN σ) + g ≤ 60
          · rw [if_neg (by omega), if_pos ⟨a1, ⟨Int32.not_lt.mp a2, Int32.not_lt.mp a3⟩, a4, a5⟩]
          · rw [if_pos (by omega), if_neg (fun q => a5 q.2.2.2)]
        · rw [if_pos (by omega), if_neg (fun q => a4 q.2.2.1)]
  · rw [if_pos (by omega), if_neg (fun q => a1 q.1)]
end CLS2
