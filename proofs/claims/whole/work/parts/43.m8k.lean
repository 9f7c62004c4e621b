/-! ===== the reference: ask ===== -/
theorem RA_left {ρ ρ' : SG} {τ : TG} {A B : Nat → Int32} (hw : WF ρ τ) (hf : ∀ f, f < 20 → ρ' f = ρ f) (hA : RA ρ τ A 0) (hb : ∀ j, j < 1130 → B j = A j) (hl : ∀ a t, a < 4 → t < gT ρ → B (1130 + 4096 * a + t) = nI (lef ρ' a t)) : RA ρ' τ B 0 := by
  have hP := hw.p8
  have hN := hw.n10
  have hW := hw.w8
  have hK := hw.k200
  have eT : gT ρ' = gT ρ := by
    show stp ρ' (gN ρ') = _
    rw [stp_congr (ρ := ρ') (σ := ρ) (fun n => congrFun (hf 12 (by omega)) n) (fun n => congrFun (hf 13 (by omega)) n)]
    show stp ρ (ρ' 1 0) = _
    rw [hf 1 (by omega)]
  refine ⟨?_, ?_, ?_, ?_, ?_, ?_, fun a ha => ?_, fun p hp => ?_, fun n hn => ?_, fun a t ha ht => ?_, fun w hw9 => ?_, fun k j hk hj => ?_⟩
  · rw [hb _ (by omega)]; show _ = nI (ρ' 0 0); rw [hf 0 (by omega)]; exact hA.P
  · rw [hb _ (by omega)]; show _ = nI (ρ' 1 0); rw [hf 1 (by omega)]; exact hA.N
  · rw [hb _ (by omega), eT]; exact hA.T
  · rw [hb _ (by omega)]; show _ = nI (ρ' 3 0); rw [hf 3 (by omega)]; exact hA.K
  · rw [hb _ (by omega)]; show _ = nI (ρ' 4 0); rw [hf 4 (by omega)]; exact hA.F
  · rw [hb _ (by omega)]; show _ = nI (ρ' 5 0); rw [hf 5 (by omega)]; exact hA.W
  · rw [hb _ (by omega)]; show _ = nI (ρ' 16 a); rw [hf 16 (by omega)]; exact hA.g ha
  · have hp' : p < gP ρ := by have : p < ρ' 0 0 := hp; rw [hf 0 (by omega)] at this; exact this
    rw [hb _ (by omega)]; show _ = nI (ρ' 10 p); rw [hf 10 (by omega)]; exact hA.c hp'
  · have hn' : n < gN ρ := by have : n < ρ' 1 0 := hn; rw [hf 1 (by omega)] at this; exact this
    rw [hb _ (by omega), hb _ (by omega), hb _ (by omega), hb _ (by omega), hb _ (by omega), hb _ (by omega), stp_congr (ρ := ρ') (σ := ρ) (fun n => congrFun (hf 12 (by omega)) n) (fun n => congrFun (hf 13 (by omega)) n)]
    show _ = nI (ρ' 11 n) ∧ _ = nI (ρ' 12 n) ∧ _ = nI (ρ' 13 n) ∧ _ = nI (ρ' 14 n) ∧ _ = nI (ρ' 15 n) ∧ _
    rw [hf 11 (by omega), hf 12 (by omega), hf 13 (by omega), hf 14 (by omega), hf 15 (by omega)]
    exact hA.n hn'
  · rw [eT] at ht
    rw [Nat.zero_add]
    exact hl a t ha ht
  · have hw' : w < gW ρ := by have : w < ρ' 5 0 := hw9; rw [hf 5 (by omega)] at this; exact this
    rw [hb _ (by omega), hb _ (by omega), hb _ (by omega)]
    show _ = nI (ρ' 17 w) ∧ _ = nI (ρ' 18 w) ∧ _
    rw [hf 17 (by omega), hf 18 (by omega)]
    exact hA.w hw'
  · have hk' : k < gK ρ := by have : k < ρ' 3 0 := hk; rw [hf 3 (by omega)] at this; exact this
    rw [hb _ (by omega)]; exact hA.a hk' hj
/-- behind the inner loop of ask: table t goes from the first n askers of i's circle -/
def zq (σ : SG) (i t : Nat) (A : Nat → Int32) : Nat → Nat → Int32
  | 0 => A
  | n + 1 => if grp σ n = grp σ i then upd (zq σ i t A n) (1130 + 4096 * n + t) 0 else zq σ i t A n
theorem zq_out {σ : SG} {i t : Nat} {A : Nat → Int32} (ht : t < 4096) {j : Nat} (hj : j < 1130 ∨ 17514 ≤ j) : ∀ n, n ≤ 4 → zq σ i t A n j = A j
  | 0, _ => rfl
  | n + 1, hn => by
    unfold zq
    split
    · unfold upd
      rw [if_neg (by omega)]
      exact zq_out ht hj n (by omega)
    · exact zq_out ht hj n (by omega)
theorem zq_at {σ : SG} {i t : Nat} {A : Nat → Int32} (ht : t < 4096) {a u : Nat} (ha : a < 4) (hu : u < 4096) : ∀ n, n ≤ 4 → zq σ i t A n (1130 + 4096 * a + u) = if a < n ∧ grp σ a = grp σ i ∧ u = t then 0 else A (1130 + 4096 * a + u)
  | 0, _ => by rw [if_neg (fun q => by omega)]; rfl
  | n + 1, hn => by
    have ih := zq_at (σ := σ) (i := i) (A := A) ht ha hu n (by omega)
    unfold zq
    by_cases hg : grp σ n = grp σ i
    · rw [if_pos hg]
      unfold upd
      by_cases e : 1130 + 4096 * a + u = 1130 + 4096 * n + t
      · have e1 : a = n := by omega
        have e2 : u = t := by omega
        subst e1; subst e2
        rw [if_pos rfl, if_pos ⟨by omega, hg, rfl⟩]
      · rw [if_neg e, ih]
        by_cases hc : a < n ∧ grp σ a = grp σ i ∧ u = t
        · rw [if_pos hc, if_pos ⟨by omega, hc.2⟩]
        · rw [if_neg hc, if_neg]
          rintro ⟨q1, q2, q3⟩
          by_cases e3 : a = n
          · subst e3; subst q3; exact e rfl
          · exact hc ⟨by omega, q2, q3⟩
    · rw [if_neg hg, ih]
      by_cases hc : a < n ∧ grp σ a = grp σ i ∧ u = t
      · rw [if_pos hc, if_pos ⟨by omega, hc.2⟩]
      · rw [if_neg hc, if_neg]
        rintro ⟨q1, q2, q3⟩
        by_cases e3 : a = n
        · subst e3; exact hg q2
        · exact hc ⟨by omega, q2, q3⟩
abbrev hdr (σ : SG) (A : Nat → Int32) (a k s x r : Int32) : Nat → Int32 := upd (upd (upd (upd (upd (upd A (100 + 5 * gK σ) a) (100 + 5 * gK σ + 1) k) (100 + 5 * gK σ + 2) s) (100 + 5 * gK σ + 3) x) (100 + 5 * gK σ + 4) r) 3 (nI (gK σ + 1))
theorem hdr_o {σ : SG} {A : Nat → Int32} {a k s x r : Int32} {j : Nat} (h3 : j ≠ 3) (h : j < 100 + 5 * gK σ ∨ 105 + 5 * gK σ ≤ j) : hdr σ A a k s x r j = A j := by
  unfold hdr upd
  rw [if_neg h3, if_neg (by omega), if_neg (by omega), if_neg (by omega), if_neg (by omega), if_neg (by omega)]
theorem RA_hdr {σ : SG} {τ : TG} {A : Nat → Int32} (hw : WF σ τ) (hA : RA σ τ A 0) (hK : gK σ < 200) (i v : Nat) (an : Nat → Nat) (a k s x r : Int32) : RA (gA σ i an v 0) (tAsk σ τ a k s x r) (hdr σ A a k s x r) 0 := by
  have hP := hw.p8
  have hN := hw.n10
  have hW := hw.w8
  have hT := hw.tle
  have ef : ∀ f, f ≠ 3 → f < 20 → gA σ i an v 0 f = σ f := fun f h1 h2 => gA_f h1 h2
  have el : ∀ b t, b < 4 → lef (gA σ i an v 0) b t = lef σ b t := fun b t hb => by rw [gA_l hb, if_neg (fun q => by omega)]
  refine ⟨?_, ?_, ?_, ?_, ?_, ?_, fun b hb => ?_, fun p hp => ?_, fun n hn => ?_, fun b t hb ht => ?_, fun w hw9 => ?_, fun q j hq hj => ?_⟩
  · rw [hdr_o (by omega) (by omega), gA_P]; exact hA.P
  · rw [hdr_o (by omega) (by omega), gA_N]; exact hA.N
  · rw [hdr_o (by omega) (by omega), gA_T]; exact hA.T
  · unfold hdr upd; rw [if_pos (by omega)]; rfl
  · rw [hdr_o (by omega) (by omega)]; show _ = nI (gA σ i an v 0 4 0); rw [ef 4 (by omega) (by omega)]; exact hA.F
  · rw [hdr_o (by omega) (by omega)]; show _ = nI (gA σ i an v 0 5 0); rw [ef 5 (by omega) (by omega)]; exact hA.W
  · rw [hdr_o (by omega) (by omega)]; show _ = nI (gA σ i an v 0 16 b); rw [ef 16 (by omega) (by omega)]; exact hA.g hb
  · rw [gA_P] at hp
    rw [hdr_o (by omega) (by omega)]; show _ = nI (gA σ i an v 0 10 p); rw [ef 10 (by omega) (by omega)]; exact hA.c hp
  · rw [gA_N] at hn
    rw [hdr_o (by omega) (by omega), hdr_o (by omega) (by omega), hdr_o (by omega) (by omega), hdr_o (by omega) (by omega), hdr_o (by omega) (by omega), hdr_o (by omega) (by omega), gA_stp]
    show _ = nI (gA σ i an v 0 11 n) ∧ _ = nI (gA σ i an v 0 12 n) ∧ _ = nI (gA σ i an v 0 13 n) ∧ _ = nI (gA σ i an v 0 14 n) ∧ _ = nI (gA σ i an v 0 15 n) ∧ _
    rw [ef 11 (by omega) (by omega), ef 12 (by omega) (by omega), ef 13 (by omega) (by omega), ef 14 (by omega) (by omega), ef 15 (by omega) (by omega)]
    exact hA.n hn
  · rw [gA_T] at ht
    rw [hdr_o (by omega) (by omega), el b t hb]; exact hA.l hb ht
  · have hw' : w < gW σ := by have : w < gA σ i an v 0 5 0 := hw9; rw [ef 5 (by omega) (by omega)] at this; exact this
    rw [hdr_o (by omega) (by omega), hdr_o (by omega) (by omega), hdr_o (by omega) (by omega)]
    show _ = nI (gA σ i an v 0 17 w) ∧ _ = nI (gA σ i an v 0 18 w) ∧ _
    rw [ef 17 (by omega) (by omega), ef 18 (by omega) (by omega)]
    have : tAsk σ τ a k s x r 5 w = τ 5 w := by unfold tAsk; rw [if_neg (fun q => by have := q.2; omega)]
    rw [this]
    exact hA.w hw'
  · have hq' : q < gK σ + 1 := hq
    unfold tAsk
    by_cases e : q = gK σ
    · subst e
      rw [if_pos ⟨rfl, hj⟩]
      rcases (show j = 0 ∨ j = 1 ∨ j = 2 ∨ j = 3 ∨ j = 4 by omega) with rfl | rfl | rfl | rfl | rfl
      · unfold hdr upd
        rw [if_neg (by omega), if_neg (by omega), if_neg (by omega), if_neg (by omega), if_neg (by omega), if_pos (by omega)]; rfl
      · unfold hdr upd
        rw [if_neg (by omega), if_neg (by omega), if_neg (by omega), if_neg (by omega), if_pos (by omega)]; rfl
      · unfold hdr upd
        rw [if_neg (by omega), if_neg (by omega), if_neg (by omega), if_pos (by omega)]; rfl
      · unfold hdr upd
        rw [if_neg (by omega), if_neg (by omega), if_pos (by omega)]; rfl
      · unfold hdr upd
        rw [if_neg (by omega), if_pos (by omega)]; rfl
    · rw [if_neg (fun z => e z.1), hdr_o (by omega) (by omega)]
      exact hA.a (by omega) hj
section M8K
variable {ad : Nat → Nat} {S0 : PH} {al hz : Nat → Int32} {s1 s2 s3 s4 : Int32} {lw hg mt tb9 : Nat → Int32} {an ky : Nat → Int64} {rw9 : Nat → Int32} {lf : Int32} {σ : SG} {τ : TG}
theorem b_askIn (h : inj8 ad) (hgr : ∀ b, b < 4 → al (6 + b) = nI (grp σ b)) (hg4 : ∀ b, b < 4 → grp σ b < 4) {i t : Nat} (hi : i < 4) (ht : t < 4096) : lpo (fun y : Int32 × PH => f_X8_ask_L209 y.2 (ad 0) (nI i) (nI t) y.1) FU ((0 : Int32), (mk8 ad S0 al hz s1 s2 s3 s4 lw hg mt tb9 an ky rw9 lf)) = some (mk8 ad S0 (zq σ i t al 4) hz s1 s2 s3 s4 lw hg mt tb9 an ky rw9 lf) := by
  refine lpo_det (fun n => (nI n, mk8 ad S0 (zq σ i t al n) hz s1 s2 s3 s4 lw hg mt tb9 an ky rw9 lf)) 4 (by omega) rfl ?_ ?_
  · intro n hn
    have e1 : zq σ i t al n (6 + n) = nI (grp σ n) := by rw [zq_out ht (by omega) n (by omega)]; exact hgr n hn
    have e2 : zq σ i t al n (6 + i) = nI (grp σ i) := by rw [zq_out ht (by omega) n (by omega)]; exact hgr i hi
    have b1 := hg4 n hn
    have b2 := hg4 i hi
    unfold f_X8_ask_L209
    have ix : (1130 : Int32) + (4096 : Int32) * nI n + nI t = nI (1130 + 4096 * n + t) := by rw [show (4096 : Int32) = nI 4096 from rfl, pk_mul, show (1130 : Int32) = nI 1130 from rfl, nI_add, nI_add]
    rw [if_neg (show ¬ (4 : Int32) ≤ nI n from nI_ge (a := n) (b := 4) hn (by omega)), show (6 : Int32) + nI n = nI (6 + n) from nI_add 6 n, show (6 : Int32) + nI i = nI (6 + i) from nI_add 6 i, ix]
    simp (disch := first | omega | assumption) only [g8_0, Option.bind_some, r8_al, e1, e2, w8_al, f_X8_ask_b256, nI_1]
    show _ = some (Sum.inl (nI (n + 1), mk8 ad S0 (if grp σ n = grp σ i then upd (zq σ i t al n) (1130 + 4096 * n + t) 0 else zq σ i t al n) hz s1 s2 s3 s4 lw hg mt tb9 an ky rw9 lf))
    by_cases hc : grp σ n = grp σ i
    · rw [if_pos (show nI (grp σ n) = nI (grp σ i) by rw [hc]), if_pos hc]
    · rw [if_neg (fun q => hc ((nI_eq (by omega) (by omega)).mp q)), if_neg hc]
  · unfold f_X8_ask_L209
    rw [if_pos (show (4 : Int32) ≤ nI 4 by decide)]
end M8K
