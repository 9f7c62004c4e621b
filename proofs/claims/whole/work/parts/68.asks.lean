/-! ===== the class's methods that change its State: clear, wish, ask ===== -/
theorem fbt_congr {σ ρ : SG} (h1 : ∀ n, lo ρ n = lo σ n) (h2 : ∀ n, hi ρ n = hi σ n) (n : Nat) : fbt ρ n = fbt σ n := by
  unfold fbt
  rw [sm_congr n (fun k _ => show many ρ k = many σ k by unfold many; rw [h1, h2])]
theorem NC_s {ca : Nat → Nat} {σ ρ : SG} {C : Nat → PE} {b : Nat} (h : NC ca σ C b) (h0 : ρ 0 = σ 0) (h1 : ρ 1 = σ 1) (h2 : ∀ f, 10 ≤ f → f ≤ 15 → ρ f = σ f) : NC ca ρ C b := by
  obtain ⟨cu, ow, le, gr, ne, va, fi, a1, a2, a3, a4, a5, a6, a7, a8, a9, a10⟩ := h
  have eP : gP ρ = gP σ := congrFun h0 0
  have eN : gN ρ = gN σ := congrFun h1 0
  have ec : ∀ n, cur ρ n = cur σ n := fun n => congrFun (h2 10 (by omega) (by omega)) n
  have eo : ∀ n, own ρ n = own σ n := fun n => congrFun (h2 11 (by omega) (by omega)) n
  have el : ∀ n, lo ρ n = lo σ n := fun n => congrFun (h2 12 (by omega) (by omega)) n
  have eh : ∀ n, hi ρ n = hi σ n := fun n => congrFun (h2 13 (by omega) (by omega)) n
  have ed : ∀ n, nd ρ n = nd σ n := fun n => congrFun (h2 14 (by omega) (by omega)) n
  have ev : ∀ n, vl ρ n = vl σ n := fun n => congrFun (h2 15 (by omega) (by omega)) n
  have es : ∀ n, stp ρ n = stp σ n := stp_congr el eh
  have ef := fbt_congr (ρ := ρ) (σ := σ) el eh
  have eT : gT ρ = gT σ := by
    show stp ρ (gN ρ) = _
    rw [eN, es]
  refine ⟨cu, ow, le, gr, ne, va, fi, ?_, a2, a3, a4, a5, a6, a7, a8, fun p hp => ?_, fun n hn => ?_⟩
  · rw [a1, eP, eN, eT, sm_congr (gN σ) (fun k _ => eh k), ef]
  · rw [ec]
    exact a9 p (eP ▸ hp)
  · rw [eo, el, eh, ed, ev, ef]
    exact a10 n (eN ▸ hn)
theorem KC_s {ca : Nat → Nat} {σ ρ : SG} {C : Nat → PE} {b : Nat} (h : KC ca σ C b) (hT : gT ρ = gT σ) (hl : ∀ a t, a < 4 → lef ρ a t = lef σ a t) (hg : ∀ a, a < 4 → grp ρ a = grp σ a) : KC ca ρ C b := by
  obtain ⟨ld, lr, fr, rows, h1, h2, h3, h4, h5⟩ := h
  refine ⟨ld, lr, fr, rows, h1, h2, h3, fun a ha => ?_, fun a c ha hc => by rw [hg a ha, hg c hc]; exact h5 a c ha hc⟩
  obtain ⟨a1, a2, a3, a4, a5, a6⟩ := h4 a ha
  refine ⟨a1, a2, a3, a4, a5, fun t ht => ?_⟩
  rw [a6 t ht, hT, hl a t ha]
theorem AC_s {ca : Nat → Nat} {σ ρ : SG} {τ υ : TG} {C : Nat → PE} {b : Nat} (h : AC ca σ τ C b) (h3 : gK ρ = gK σ) (h4 : gF ρ = gF σ) (hτ : ∀ j k, j < 5 → υ j k = τ j k) : AC ca ρ υ C b := by
  obtain ⟨fr, rows, a1, a2, a3⟩ := h
  refine ⟨fr, rows, by rw [a1, h3, h4], a2, fun j hj => ?_⟩
  obtain ⟨c1, c2, c3⟩ := a3 j hj
  exact ⟨c1, c2, fun k hk => by rw [hτ j k hj]; exact c3 k (h3 ▸ hk)⟩
theorem WC_s {ca : Nat → Nat} {σ ρ : SG} {τ υ : TG} {C : Nat → PE} {b : Nat} (h : WC ca σ τ C b) (h5 : gW ρ = gW σ) (h17 : ∀ w, wk ρ w = wk σ w) (h18 : ∀ w, wse ρ w = wse σ w) (hτ : ∀ w, υ 5 w = τ 5 w) : WC ca ρ υ C b := by
  obtain ⟨ki, se, ex, a1, a2, a3, a4, a5⟩ := h
  refine ⟨ki, se, ex, by rw [a1, h5], a2, a3, a4, fun w hw => ?_⟩
  rw [h17, h18, hτ]
  exact a5 w (h5 ▸ hw)
theorem TOP_fr {ca : Nat → Nat} {C D : Nat → PE} {b : Nat} (h : TOP ca C b) (he : ∀ i, i < 12 → D i = C i) : TOP ca D b := by
  unfold TOP
  rw [he 0 (by omega), he 3 (by omega), he 4 (by omega), he 5 (by omega), he 6 (by omega), he 7 (by omega), he 8 (by omega), he 9 (by omega), he 10 (by omega), he 11 (by omega)]
  exact h
/-- nothing but the State at b, the sheet and the sorter has changed -/
def FS (C D : Nat → PE) (b : Nat) : Prop := ∀ i, i < 3 ∨ (12 ≤ i ∧ i < b) ∨ b + 27 ≤ i → D i = C i
theorem FS_rf (C : Nat → PE) (b : Nat) : FS C C b := fun _ _ => rfl
theorem FS_FR {C D : Nat → PE} {b : Nat} (hb2 : 12 ≤ b) (h : FR C D) : FS C D b := fun i hi => h i (by omega)
theorem FS_tr {C D E : Nat → PE} {b : Nat} (h : FS C D b) (g : FS D E b) : FS C E b := fun i hi => (g i hi).trans (h i hi)
theorem FS_of {C D : Nat → PE} {b : Nat} (h : ∀ i, i < b ∨ b + 27 ≤ i → D i = C i) (hb2 : 12 ≤ b) : FS C D b := fun i hi => h i (by omega)
theorem one_shl : ∀ k, k < 64 → ((1 : Int64) <<< ((nI k).toInt64 &&& 63)).toBitVec = BitVec.twoPow 64 k := by decide +kernel
theorem bw_upd {g : Nat → Int64} {q u : Nat} {x : Int64} : bw (vp_updL g q x) u = if u / 64 = q then x.toBitVec.getLsbD (u % 64) else bw g u := by
  unfold bw
  by_cases e : u / 64 = q
  · rw [if_pos e, e, pk_uLs]
  · rw [if_neg e, pk_uLn e]
theorem bw_clr {g : Nat → Int64} {t u : Nat} : bw (vp_updL g (t / 64) (g (t / 64) &&& (((1 : Int64) <<< ((nI (t % 64)).toInt64 &&& 63)) ^^^ (-1)))) u = (bw g u && decide (u ≠ t)) := by
  rw [bw_upd]
  by_cases e : u / 64 = t / 64
  · rw [if_pos e, Int64.toBitVec_and, Int64.toBitVec_xor, one_shl (t % 64) (by omega), BitVec.getLsbD_and, BitVec.getLsbD_xor, BitVec.getLsbD_twoPow, show (-1 : Int64).toBitVec = BitVec.allOnes 64 from rfl, BitVec.getLsbD_allOnes]
    have h64 : u % 64 < 64 := by omega
    unfold bw
    rw [e]
    by_cases c : u = t
    · subst c
      simp [h64]
    · have : ¬ t % 64 = u % 64 := by omega
      simp [this, h64, c]
  · rw [if_neg e]
    have : u ≠ t := fun q => e (by rw [q])
    simp [this]
theorem bw_set {g : Nat → Int64} {t u : Nat} : bw (vp_updL g (t / 64) (g (t / 64) ||| ((1 : Int64) <<< ((nI (t % 64)).toInt64 &&& 63)))) u = (bw g u || decide (u = t)) := by
  rw [bw_upd]
  by_cases e : u / 64 = t / 64
  · rw [if_pos e, Int64.toBitVec_or, one_shl (t % 64) (by omega), BitVec.getLsbD_or, BitVec.getLsbD_twoPow]
    have h64 : u % 64 < 64 := by omega
    unfold bw
    rw [e]
    by_cases c : u = t
    · subst c
      simp [h64]
    · have : ¬ t % 64 = u % 64 := by omega
      simp [this, h64, c]
  · rw [if_neg e]
    have : ¬ u = t := fun q => e (by rw [q])
    simp [this]
def KX (ca : Nat → Nat) (σ : SG) (C : Nat → PE) (b : Nat) (ld : Nat → Nat) (lr : Nat → Int32) (fr : Nat → Option Nat) (rows : Nat → Nat → Int64) : Prop :=
  C (b + 9) = eO 1 [.ref (ca (b + 10)), .ref (ca (b + 11))] ∧ C (b + 10) = eI 4 lr ∧ C (b + 11) = eR 2 4 fr ∧
  (∀ a, a < 4 → fr a = some (ca (b + 12 + a)) ∧ C (b + 12 + a) = eJ 64 (rows a) ∧ lr a = nI (ld a) ∧ ld a < 4 ∧ ld (ld a) = ld a ∧ ∀ t, t < 4096 → bw (rows (ld a)) t = decide (t < gT σ ∧ lef σ a t = 1)) ∧
  ∀ a c, a < 4 → c < 4 → (ld a = ld c ↔ grp σ a = grp σ c)
theorem KX_row {ca : Nat → Nat} {σ ρ : SG} {C : Nat → PE} {b : Nat} {ld : Nat → Nat} {lr : Nat → Int32} {fr : Nat → Option Nat} {rows : Nat → Nat → Int64} (h : KX ca σ C b ld lr fr rows) {q : Nat} (hq : q < 4) (f : Nat → Int64) (hl : ∀ a, a < 4 → ∀ t, t < 4096 → bw (va_up rows q f (ld a)) t = decide (t < gT ρ ∧ lef ρ a t = 1)) (hg : ∀ a, a < 4 → grp ρ a = grp σ a) : KX ca ρ (va_up C (b + 12 + q) (eJ 64 f)) b ld lr fr (va_up rows q f) := by
  obtain ⟨h1, h2, h3, h4, h5⟩ := h
  refine ⟨?_, ?_, ?_, fun a ha => ?_, fun a c ha hc => by rw [hg a ha, hg c hc]; exact h5 a c ha hc⟩
  · rw [va_up_ne _ _ (by omega)]; exact h1
  · rw [va_up_ne _ _ (by omega)]; exact h2
  · rw [va_up_ne _ _ (by omega)]; exact h3
  · obtain ⟨a1, a2, a3, a4, a5, a6⟩ := h4 a ha
    refine ⟨a1, ?_, a3, a4, a5, hl a ha⟩
    by_cases e : a = q
    · subst e
      rw [va_up_self, va_up_self]
    · rw [va_up_ne _ _ (by omega), va_up_ne _ _ e]
      exact a2
section ASKS
variable {ca : Nat → Nat} {S0 : PH} {C : Nat → PE} {b : Nat} {σ : SG} {τ : TG}
theorem d_clear (hj : injC ca) (hb : b + 27 ≤ 120) (hb2 : 12 ≤ b) (hw : WF σ τ) (h : SC ca σ τ C b) (ht : TOP ca C b) : ∃ D, f_X7_clear (pt ca S0 C) (ca 0) = some (pt ca S0 D) ∧ SC ca (gClear σ) τ D b ∧ TOP ca D b ∧ FS C D b := by
  obtain ⟨ki, se, ex, a1, a2, a3, a4, a5⟩ := h.2.2.2.2
  unfold f_X7_clear
  simp only [pt_gR hj ht.1 (by omega : 0 < 120) (k := 0) rfl, pt_gR hj h.1 (by omega : b < 120) (k := 3) rfl, Option.bind_some, Option.bind_none, bd2, bd3, bd4, nm]
  rw [pt_pI hj a1 (by omega) (show 3 < 4 by omega)]
  have hfr : ∀ i, i < b + 23 ∨ b + 24 ≤ i → va_up C (b + 23) (eO 6 [.ref (ca (b + 24)), .ref (ca (b + 25)), .ref (ca (b + 26)), .int 0]) i = C i := fun i hi => va_up_ne _ _ (by omega)
  refine ⟨_, rfl, ⟨?_, ?_, ?_, ?_, ?_⟩, TOP_fr ht (fun i hi => va_up_ne _ _ (by omega)), FS_of (fun i hi => va_up_ne _ _ (by omega)) hb2⟩
  · rw [va_up_ne _ _ (by omega)]; exact h.1
  · have n1 : NC ca (gClear σ) C b := NC_s h.2.1 (va_up_ne _ _ (by omega)) (va_up_ne _ _ (by omega)) (fun f h1 h2 => va_up_ne _ _ (by omega))
    obtain ⟨cu, ow, le, gr, ne, va, fi, e1, e2, e3, e4, e5, e6, e7, e8, e9, e10⟩ := n1
    refine ⟨cu, ow, le, gr, ne, va, fi, ?_, ?_, ?_, ?_, ?_, ?_, ?_, ?_, e9, e10⟩
    all_goals (rw [va_up_ne _ _ (by omega)]; assumption)
  · have n1 : KC ca (gClear σ) C b := KC_s h.2.2.1 gT_clear (fun a t _ => lef_clear a t) (fun a _ => congrFun (va_up_ne _ _ (by omega)) a)
    obtain ⟨ld, lr, fr, rows, e1, e2, e3, e4, e5⟩ := n1
    refine ⟨ld, lr, fr, rows, ?_, ?_, ?_, fun a ha => ?_, e5⟩
    · rw [va_up_ne _ _ (by omega)]; exact e1
    · rw [va_up_ne _ _ (by omega)]; exact e2
    · rw [va_up_ne _ _ (by omega)]; exact e3
    · rw [va_up_ne _ _ (by omega)]; exact e4 a ha
  · have n1 : AC ca (gClear σ) τ C b := AC_s h.2.2.2.1 (congrFun (va_up_ne _ _ (by omega)) 0) (congrFun (va_up_ne _ _ (by omega)) 0) (fun _ _ _ => rfl)
    obtain ⟨fr, rows, e1, e2, e3⟩ := n1
    refine ⟨fr, rows, ?_, ?_, fun j hj => ?_⟩
    · rw [va_up_ne _ _ (by omega)]; exact e1
    · rw [va_up_ne _ _ (by omega)]; exact e2
    · rw [va_up_ne _ _ (by omega)]; exact e3 j hj
  · refine ⟨ki, se, ex, ?_, ?_, ?_, ?_, fun w hw => ?_⟩
    · rw [va_up_self]
      rfl
    · rw [va_up_ne _ _ (by omega)]; exact a2
    · rw [va_up_ne _ _ (by omega)]; exact a3
    · rw [va_up_ne _ _ (by omega)]; exact a4
    · have : gW (gClear σ) = 0 := congrFun (va_up_self _ _ _) 0
      omega
/-- all but the wishes, where a State's cells below b + 23 stand as they did -/
theorem SC_w {D : Nat → PE} {ρ : SG} {υ : TG} (h : SC ca σ τ C b) (he : ∀ i, b ≤ i → i < b + 23 → D i = C i) (hn : ∀ f, f < 17 → f ≠ 5 → ρ f = σ f) (hT : gT ρ = gT σ) (hl : ∀ a t, a < 4 → lef ρ a t = lef σ a t) (hτ : ∀ j k, j < 5 → υ j k = τ j k) (hW : WC ca ρ υ D b) : SC ca ρ υ D b := by
  refine ⟨(he b (by omega) (by omega)).trans h.1, ?_, ?_, ?_, hW⟩
  · have n1 : NC ca ρ C b := NC_s h.2.1 (hn 0 (by omega) (by omega)) (hn 1 (by omega) (by omega)) (fun f h1 h2 => hn f (by omega) (by omega))
    obtain ⟨cu, ow, le, gr, ne, va, fi, e1, e2, e3, e4, e5, e6, e7, e8, e9, e10⟩ := n1
    refine ⟨cu, ow, le, gr, ne, va, fi, ?_, ?_, ?_, ?_, ?_, ?_, ?_, ?_, e9, e10⟩
    all_goals (rw [he _ (by omega) (by omega)]; assumption)
  · have n1 : KC ca ρ C b := KC_s h.2.2.1 hT hl (fun a _ => congrFun (hn 16 (by omega) (by omega)) a)
    obtain ⟨ld, lr, fr, rows, e1, e2, e3, e4, e5⟩ := n1
    refine ⟨ld, lr, fr, rows, ?_, ?_, ?_, fun a ha => ?_, e5⟩
    · rw [he _ (by omega) (by omega)]; exact e1
    · rw [he _ (by omega) (by omega)]; exact e2
    · rw [he _ (by omega) (by omega)]; exact e3
    · rw [he _ (by omega) (by omega)]; exact e4 a ha
  · have n1 : AC ca ρ υ C b := AC_s h.2.2.2.1 (congrFun (hn 3 (by omega) (by omega)) 0) (congrFun (hn 4 (by omega) (by omega)) 0) hτ
    obtain ⟨fr, rows, e1, e2, e3⟩ := n1
    refine ⟨fr, rows, ?_, ?_, fun j hj => ?_⟩
    · rw [he _ (by omega) (by omega)]; exact e1
    · rw [he _ (by omega) (by omega)]; exact e2
    · rw [he _ (by omega) (by omega)]; exact e3 j hj
theorem d_wish (hj : injC ca) (hb : b + 27 ≤ 120) (hb2 : 12 ≤ b) (hw : WF σ τ) (h : SC ca σ τ C b) (ht : TOP ca C b) {k s x r : Int32} {σ' : SG} {τ' : TG} (hR : WiR σ τ k s x r σ' τ') : ∃ D, f_X7_wish (pt ca S0 C) (ca 0) k s x = some (r, pt ca S0 D) ∧ SC ca σ' τ' D b ∧ TOP ca D b ∧ FS C D b := by
  have h8 := hw.w8
  unfold f_X7_wish
  rw [d_isQuestion]
  simp only [ite10, Option.bind_some, Option.bind_none, bd2, bd3, bd4, nm]
  rcases hR with ⟨j, rfl, hk, hW, rfl, rfl, rfl⟩ | ⟨hn, rfl, rfl, rfl⟩
  · rw [if_neg (fun c => c (okq_ask hk))]
    simp only [pt_gR hj ht.1 (by omega : 0 < 120) (k := 0) rfl, pt_gR hj h.1 (by omega : b < 120) (k := 0) rfl, pt_gR hj h.1 (by omega : b < 120) (k := 3) rfl, w_g3 hj hb h.2.2.2.2, Option.bind_some, Option.bind_none, bd2, bd3, bd4, nm]
    rw [if_pos (show nI (gW σ) < (8 : Int32) from nI_lt (b := 8) hW (by omega))]
    obtain ⟨ki, se, ex, a1, a2, a3, a4, a5⟩ := h.2.2.2.2
    simp only [n_ck hj hb h.2.1, d_onlyPeople hj hb hw h.2.1, pt_ck hj a1 (by omega : b + 23 < 120), Option.bind_some, Option.bind_none, bd2, bd3, bd4, nm]
    unfold f_X6_add
    simp only [pt_gR hj a1 (by omega : b + 23 < 120) (k := 0) rfl, pt_gI hj a1 (by omega : b + 23 < 120) (k := 3) rfl, pt_stI hj a2 (by omega : b + 24 < 120) hW (by omega), Option.bind_some, Option.bind_none, bd2, bd3, bd4, nm]
    have b1 : va_up C (b + 24) (eI 8 (upd ki (gW σ) (nI j))) (b + 23) = eO 6 [.ref (ca (b + 24)), .ref (ca (b + 25)), .ref (ca (b + 26)), .int (nI (gW σ))] := (va_up_ne _ _ (by omega)).trans a1
    have b3 : va_up C (b + 24) (eI 8 (upd ki (gW σ) (nI j))) (b + 25) = eI 8 se := (va_up_ne _ _ (by omega)).trans a3
    simp only [pt_gR hj b1 (by omega : b + 23 < 120) (k := 1) rfl, pt_gI hj b1 (by omega : b + 23 < 120) (k := 3) rfl, pt_stI hj b3 (by omega : b + 25 < 120) hW (by omega), Option.bind_some, Option.bind_none, bd2, bd3, bd4, nm]
    have c1 : va_up (va_up C (b + 24) (eI 8 (upd ki (gW σ) (nI j)))) (b + 25) (eI 8 (upd se (gW σ) (nI (kn σ s)))) (b + 23) = eO 6 [.ref (ca (b + 24)), .ref (ca (b + 25)), .ref (ca (b + 26)), .int (nI (gW σ))] := (va_up_ne _ _ (by omega)).trans b1
    have c4 : va_up (va_up C (b + 24) (eI 8 (upd ki (gW σ) (nI j)))) (b + 25) (eI 8 (upd se (gW σ) (nI (kn σ s)))) (b + 26) = eI 8 ex := (va_up_ne _ _ (by omega)).trans ((va_up_ne _ _ (by omega)).trans a4)
    simp only [pt_gR hj c1 (by omega : b + 23 < 120) (k := 2) rfl, pt_gI hj c1 (by omega : b + 23 < 120) (k := 3) rfl, pt_stI hj c4 (by omega : b + 26 < 120) hW (by omega), Option.bind_some, Option.bind_none, bd2, bd3, bd4, nm]
    have d1 : va_up (va_up (va_up C (b + 24) (eI 8 (upd ki (gW σ) (nI j)))) (b + 25) (eI 8 (upd se (gW σ) (nI (kn σ s))))) (b + 26) (eI 8 (upd ex (gW σ) x)) (b + 23) = eO 6 [.ref (ca (b + 24)), .ref (ca (b + 25)), .ref (ca (b + 26)), .int (nI (gW σ))] := (va_up_ne _ _ (by omega)).trans c1
    simp only [pt_gI hj d1 (by omega : b + 23 < 120) (k := 3) rfl, pt_pI hj d1 (by omega : b + 23 < 120) (show 3 < 4 by omega), Option.bind_some, Option.bind_none, bd2, bd3, bd4, nm]
    have e1 : va_up (va_up (va_up (va_up C (b + 24) (eI 8 (upd ki (gW σ) (nI j)))) (b + 25) (eI 8 (upd se (gW σ) (nI (kn σ s))))) (b + 26) (eI 8 (upd ex (gW σ) x))) (b + 23) (eO 6 ([.ref (ca (b + 24)), .ref (ca (b + 25)), .ref (ca (b + 26)), .int (nI (gW σ))].set 3 (.int (nI (gW σ) + 1)))) (b + 23) = eO 6 [.ref (ca (b + 24)), .ref (ca (b + 25)), .ref (ca (b + 26)), .int (nI (gW σ) + 1)] := va_up_self _ _ _
    simp only [pt_gI hj e1 (by omega : b + 23 < 120) (k := 3) rfl, Option.bind_some, Option.bind_none, bd2, bd3, bd4, nm]
    rw [nI_1, sub1 (by omega), Nat.add_sub_cancel]
    have hout : ∀ i, i < b + 23 ∨ b + 27 ≤ i → va_up (va_up (va_up (va_up C (b + 24) (eI 8 (upd ki (gW σ) (nI j)))) (b + 25) (eI 8 (upd se (gW σ) (nI (kn σ s))))) (b + 26) (eI 8 (upd ex (gW σ) x))) (b + 23) (eO 6 ([.ref (ca (b + 24)), .ref (ca (b + 25)), .ref (ca (b + 26)), .int (nI (gW σ))].set 3 (.int (nI (gW σ + 1))))) i = C i := fun i hi => by
      rw [va_up_ne _ _ (by omega), va_up_ne _ _ (by omega), va_up_ne _ _ (by omega), va_up_ne _ _ (by omega)]
    refine ⟨_, rfl, SC_w h (fun i h1 h2 => hout i (by omega)) ?_ (gT_wish _ _) (fun a t _ => lef_wish _ _ a t) ?_ ?_, TOP_fr ht (fun i hi => hout i (by omega)), FS_of (fun i hi => hout i (by omega)) hb2⟩
    · intro f h1 h2
      show va_up (va_up (va_up σ 5 _) 17 _) 18 _ f = _
      rw [va_up_ne _ _ (by omega), va_up_ne _ _ (by omega), va_up_ne _ _ h2]
    · intro q w hq
      show va_up τ 5 _ q w = _
      rw [va_up_ne _ _ (by omega)]
    · have hWn : gW (gWish σ j (kn σ s)) = gW σ + 1 := rfl
      refine ⟨upd ki (gW σ) (nI j), upd se (gW σ) (nI (kn σ s)), upd ex (gW σ) x, ?_, ?_, ?_, ?_, fun w hw9 => ?_⟩
      · rw [va_up_self, hWn]
        rfl
      · rw [va_up_ne _ _ (by omega), va_up_ne _ _ (by omega), va_up_ne _ _ (by omega), va_up_self]
      · rw [va_up_ne _ _ (by omega), va_up_ne _ _ (by omega), va_up_self]
      · rw [va_up_ne _ _ (by omega), va_up_self]
      · rw [hWn] at hw9
        show _ = nI (va_up (σ 17) (gW σ) j w) ∧ _ = nI (va_up (σ 18) (gW σ) (kn σ s) w) ∧ _ = va_up τ 5 (va_up (τ 5) (gW σ) x) 5 w
        rw [va_up_self]
        by_cases q : w = gW σ
        · subst q
          rw [pk_us, pk_us, pk_us, va_up_self, va_up_self, va_up_self]
          exact ⟨rfl, rfl, rfl⟩
        · rw [pk_un q, pk_un q, pk_un q, va_up_ne _ _ q, va_up_ne _ _ q, va_up_ne _ _ q]
          exact a5 w (by omega)
  · by_cases c : askok k x
    · have hW : ¬ gW σ' < 8 := fun q => hn ⟨c, q⟩
      rw [if_neg (fun q => q c)]
      simp only [pt_gR hj ht.1 (by omega : 0 < 120) (k := 0) rfl, pt_gR hj h.1 (by omega : b < 120) (k := 3) rfl, w_g3 hj hb h.2.2.2.2, Option.bind_some, Option.bind_none, bd2, bd3, bd4, nm]
      rw [if_neg (show ¬ nI (gW σ') < (8 : Int32) from nI_nlt (b := 8) (by omega) (by omega))]
      exact ⟨C, rfl, h, ht, FS_rf C b⟩
    · rw [if_pos c]
      exact ⟨C, rfl, h, ht, FS_rf C b⟩
end ASKS
