/-! ===== rows that grow block by block ===== -/
def bm {α : Type} (g : α → α) (f : Nat → α) (a m : Nat) : Nat → α := fun j => if a ≤ j ∧ j < a + m then g (f (j - a)) else f j
theorem bm_0 {α : Type} (g : α → α) (f : Nat → α) (a : Nat) : bm g f a 0 = f := by
  funext j
  show (if a ≤ j ∧ j < a + 0 then _ else _) = _
  rw [if_neg (by omega)]
theorem bm_rd {α : Type} {g : α → α} {f : Nat → α} {a m : Nat} (h : a = 0 ∨ m < a) : bm g f a m m = f m := by
  show (if a ≤ m ∧ m < a + m then _ else _) = _
  rw [if_neg (by omega)]
theorem bm_sJ {g : Int64 → Int64} {f : Nat → Int64} {a m : Nat} : vp_updL (bm g f a m) (a + m) (g (f m)) = bm g f a (m + 1) := by
  funext j
  by_cases e : j = a + m
  · subst e
    rw [pk_uLs]
    show _ = (if a ≤ a + m ∧ a + m < a + (m + 1) then _ else _)
    rw [if_pos (by omega), show a + m - a = m by omega]
  · rw [pk_uLn e]
    show (if a ≤ j ∧ j < a + m then _ else _) = (if a ≤ j ∧ j < a + (m + 1) then _ else _)
    by_cases h : a ≤ j ∧ j < a + m
    · rw [if_pos h, if_pos (by omega)]
    · rw [if_neg h, if_neg (by omega)]
theorem bm_sI {g : Int32 → Int32} {f : Nat → Int32} {a m : Nat} : upd (bm g f a m) (a + m) (g (f m)) = bm g f a (m + 1) := by
  funext j
  by_cases e : j = a + m
  · subst e
    rw [pk_us]
    show _ = (if a ≤ a + m ∧ a + m < a + (m + 1) then _ else _)
    rw [if_pos (by omega), show a + m - a = m by omega]
  · rw [pk_un e]
    show (if a ≤ j ∧ j < a + m then _ else _) = (if a ≤ j ∧ j < a + (m + 1) then _ else _)
    by_cases h : a ≤ j ∧ j < a + m
    · rw [if_pos h, if_pos (by omega)]
    · rw [if_neg h, if_neg (by omega)]
def fm {α : Type} (G : Nat → α → α) (f : Nat → α) (d l h : Nat) : Nat → α := fun j => if l * d ≤ j ∧ j < h * d then G (j / d) (f (j % d)) else f j
theorem fm_top {α : Type} (G : Nat → α → α) (f : Nat → α) (d h : Nat) : fm G f d h h = f := by
  funext j
  show (if h * d ≤ j ∧ j < h * d then _ else _) = _
  rw [if_neg (by omega)]
theorem fm_step {α : Type} {G : Nat → α → α} {f : Nat → α} {d v h : Nat} (hv : v < h) : bm (G v) (fm G f d (v + 1) h) (v * d) d = fm G f d v h := by
  have h1 : (v + 1) * d = v * d + d := Nat.succ_mul v d
  have h2 : (v + 1) * d ≤ h * d := Nat.mul_le_mul_right d hv
  have h3 : d ≤ (v + 1) * d := by omega
  funext j
  show (if v * d ≤ j ∧ j < v * d + d then G v (if (v + 1) * d ≤ j - v * d ∧ j - v * d < h * d then _ else f (j - v * d)) else (if (v + 1) * d ≤ j ∧ j < h * d then G (j / d) (f (j % d)) else f j)) = (if v * d ≤ j ∧ j < h * d then G (j / d) (f (j % d)) else f j)
  by_cases e : v * d ≤ j ∧ j < v * d + d
  · rw [if_pos e, if_neg (by omega), if_pos (by omega)]
    have hj : j = (j - v * d) + d * v := by rw [Nat.mul_comm d v]; omega
    have e1 : j / d = v := by
      rw [hj, Nat.add_mul_div_left _ _ (by omega), Nat.div_eq_of_lt (by omega), Nat.zero_add]
    have e2 : j % d = j - v * d := by
      conv => lhs; rw [hj]
      rw [Nat.add_mul_mod_self_left, Nat.mod_eq_of_lt (by omega)]
    rw [e1, e2]
  · rw [if_neg e]
    by_cases e2 : (v + 1) * d ≤ j ∧ j < h * d
    · rw [if_pos e2, if_pos (by omega)]
    · rw [if_neg e2, if_neg (by omega)]
theorem fm_in {α : Type} {G : Nat → α → α} {f : Nat → α} {d h j : Nat} (hj : j < h * d) : fm G f d 0 h j = G (j / d) (f (j % d)) := by
  show (if 0 * d ≤ j ∧ j < h * d then _ else _) = _
  rw [if_pos (by omega)]
theorem dec1 (x : Int32) : x + (-1) = x - 1 := (Int32.sub_eq_add_neg x 1).symm
theorem nI0m : nI 0 - 1 < 0 := by decide
section TABS
variable {ca : Nat → Nat} {S0 : PH} {C : Nat → PE} {b : Nat} {σ : SG} {τ : TG}
theorem d_mark53 (hj : injC ca) (h3 : C 3 = eO 3 [.ref (ca 4), .ref (ca 5), .ref (ca 6)]) {d v : Nat} (hd : v * d + d ≤ 4096) (x : Int64) (f : Nat → Int64) : lpo (fun y : Int32 × PH => f_X3_markTables_L53 y.2 (ca 3) (nI d) (nI v) x y.1) FU ((0 : Int32), pt ca S0 (va_up C 4 (eJ 4096 f))) = some (pt ca S0 (va_up C 4 (eJ 4096 (bm (fun y => y ||| x) f (v * d) d)))) := by
  refine lpo_det (fun m => (nI m, pt ca S0 (va_up C 4 (eJ 4096 (bm (fun y => y ||| x) f (v * d) m))))) d (by omega) (by rw [bm_0]; rfl) ?_ ?_
  · intro m hm
    have g3 : va_up C 4 (eJ 4096 (bm (fun y => y ||| x) f (v * d) m)) 3 = eO 3 [.ref (ca 4), .ref (ca 5), .ref (ca 6)] := (va_up_ne _ _ (by decide)).trans h3
    have g4 : va_up C 4 (eJ 4096 (bm (fun y => y ||| x) f (v * d) m)) 4 = eJ 4096 (bm (fun y => y ||| x) f (v * d) m) := va_up_self _ _ _
    show f_X3_markTables_L53 (pt ca S0 (va_up C 4 (eJ 4096 (bm (fun y => y ||| x) f (v * d) m)))) (ca 3) (nI d) (nI v) x (nI m) = _
    unfold f_X3_markTables_L53
    rw [if_neg (by rw [q_le (by omega) (by omega)]; omega), pk_mul, nI_add, nI_1]
    simp only [pt_gR hj g3 (by omega : 3 < 120) (k := 0) rfl, pt_ldJ hj g4 (by omega : 4 < 120) (show m < 4096 by omega) (by omega), pt_stJ hj g4 (by omega : 4 < 120) (show v * d + m < 4096 by omega) (by omega), Option.bind_some, Option.bind_none, bd2, bd3, bd4, nm]
    rw [va_up_up, bm_rd (by
      by_cases e : v = 0
      · subst e; left; omega
      · right
        have : 1 * d ≤ v * d := Nat.mul_le_mul_right d (by omega)
        omega)]
    rw [show (f m ||| x) = (fun y => y ||| x) (f m) from rfl, bm_sJ]
  · show f_X3_markTables_L53 (pt ca S0 (va_up C 4 (eJ 4096 (bm (fun y => y ||| x) f (v * d) d)))) (ca 3) (nI d) (nI v) x (nI d) = _
    unfold f_X3_markTables_L53
    rw [if_pos (by rw [q_le (by omega) (by omega)]; omega)]
theorem NC_u4 (h : NC ca σ C b) (hb : 12 ≤ b) (k : Nat) (hk : k < 12) (e : PE) : NC ca σ (va_up C k e) b := NC_fr h (fun i h1 _ => va_up_ne _ _ (by omega))
theorem d_mark32 (hj : injC ca) (hb : b + 27 ≤ 120) (hb2 : 12 ≤ b) (hw : WF σ τ) (h : NC ca σ C b) (h3 : C 3 = eO 3 [.ref (ca 4), .ref (ca 5), .ref (ca 6)]) {n : Nat} (hn : n < gN σ) (f : Nat → Int64) : lpo (fun y : Int32 × PH => f_X3_markTables_L32 y.2 (ca 3) (ca (b + 1)) (nI (stp σ n)) (nI n) y.1) FU (nI (many σ n) - 1, pt ca S0 (va_up C 4 (eJ 4096 f))) = some (pt ca S0 (va_up C 4 (eJ 4096 (fm (fun v y => y ||| lN (2 ^ (fbt σ n + v))) f (stp σ n) 0 (many σ n))))) := by
  have h1 := hw.num hn
  have h2 : many σ n ≤ 21 := by unfold many; omega
  have h59 := fbt_59 hw
  have hfb := fbt_le (σ := σ) hn
  have hT : stp σ n * many σ n ≤ 4096 := hw.sle (show n + 1 ≤ gN σ by omega)
  have hs := stp_pos σ n
  refine lpo_det (fun i => (nI (many σ n - i) - 1, pt ca S0 (va_up C 4 (eJ 4096 (fm (fun v y => y ||| lN (2 ^ (fbt σ n + v))) f (stp σ n) (many σ n - i) (many σ n)))))) (many σ n) (by omega) (by rw [Nat.sub_zero, fm_top]) ?_ ?_
  · intro i hi
    obtain ⟨v, hv⟩ : ∃ v, many σ n - i = v + 1 := ⟨many σ n - i - 1, by omega⟩
    have hv2 : many σ n - (i + 1) = v := by omega
    show f_X3_markTables_L32 (pt ca S0 (va_up C 4 (eJ 4096 (fm (fun v y => y ||| lN (2 ^ (fbt σ n + v))) f (stp σ n) (many σ n - i) (many σ n))))) (ca 3) (ca (b + 1)) (nI (stp σ n)) (nI n) (nI (many σ n - i) - 1) = some (.inl (nI (many σ n - (i + 1)) - 1, _))
    rw [hv, hv2, sub1 (by omega), Nat.add_sub_cancel]
    have hN := NC_u4 h hb2 4 (by omega) (eJ 4096 (fm (fun v y => y ||| lN (2 ^ (fbt σ n + v))) f (stp σ n) (v + 1) (many σ n)))
    have hvd : v * stp σ n + stp σ n ≤ 4096 := by
      have : (v + 1) * stp σ n ≤ many σ n * stp σ n := Nat.mul_le_mul_right _ (by omega)
      rw [Nat.mul_comm (many σ n)] at this
      have e : (v + 1) * stp σ n = v * stp σ n + stp σ n := Nat.succ_mul v (stp σ n)
      omega
    unfold f_X3_markTables_L32
    rw [if_neg (Int32.not_lt.mpr (nI_pos' (by omega)))]
    simp only [n_g6 hj hb hN, n_fi hj hb hw hN hn, Option.bind_some, Option.bind_none, bd2, bd3, bd4, nm]
    rw [nI_add, show (1 : Int64) = lN 1 from rfl, wb_shl 1 (show fbt σ n + v < 64 by omega), Nat.one_mul, d_mark53 hj h3 hvd]
    simp only [Option.bind_some, Option.bind_none, bd2, bd3, bd4, nm]
    rw [dec1, fm_step (G := fun v y => y ||| lN (2 ^ (fbt σ n + v))) (show v < many σ n by omega)]
  · show f_X3_markTables_L32 _ (ca 3) (ca (b + 1)) (nI (stp σ n)) (nI n) (nI (many σ n - many σ n) - 1) = _
    rw [Nat.sub_self]
    unfold f_X3_markTables_L32
    rw [if_pos nI0m]
theorem d_markTables (hj : injC ca) (hb : b + 27 ≤ 120) (hb2 : 12 ≤ b) (hw : WF σ τ) (h : NC ca σ C b) (h3 : C 3 = eO 3 [.ref (ca 4), .ref (ca 5), .ref (ca 6)]) {f0 : Nat → Int64} (h4 : C 4 = eJ 4096 f0) : ∃ f, f_X3_markTables (pt ca S0 C) (ca 3) (ca (b + 1)) = some (pt ca S0 (va_up C 4 (eJ 4096 f))) ∧ ∀ t, t < gT σ → f t = lN (mark σ t (gN σ)) := by
  have h10 := hw.n10
  unfold f_X3_markTables
  simp only [pt_gR hj h3 (by omega : 3 < 120) (k := 0) rfl, Option.bind_some, Option.bind_none, bd2, bd3, bd4, nm]
  rw [show (0 : Int32) = nI 0 from rfl, pt_stJ hj h4 (by omega) (by omega) (by omega)]
  simp only [Option.bind_some, Option.bind_none, bd2, bd3, bd4, nm]
  have key := lpo_run (b := fun x : Int32 × Int32 × PH => f_X3_markTables_L11 x.2.2 (ca 3) (ca (b + 1)) x.1 x.2.1)
    (fun n y => ∃ f, y = (nI (stp σ n), nI n, pt ca S0 (va_up C 4 (eJ 4096 f))) ∧ ∀ t, t < stp σ n → f t = lN (mark σ t n))
    (fun S => ∃ f, S = pt ca S0 (va_up C 4 (eJ 4096 f)) ∧ ∀ t, t < gT σ → f t = lN (mark σ t (gN σ))) (gN σ) (by omega) (x := ((1 : Int32), nI 0, pt ca S0 (va_up C 4 (eJ 4096 (vp_updL f0 0 1)))))
    ⟨_, rfl, fun t ht => by
      have h0 : stp σ 0 = 1 := rfl
      have : t = 0 := by omega
      subst this
      exact pk_uLs⟩ (by
      rintro n y hn ⟨f, rfl, hf⟩
      have hN := NC_u4 h hb2 4 (by omega) (eJ 4096 f)
      show (∃ x', f_X3_markTables_L11 (pt ca S0 (va_up C 4 (eJ 4096 f))) (ca 3) (ca (b + 1)) (nI (stp σ n)) (nI n) = _ ∧ _) ∨ _
      left
      unfold f_X3_markTables_L11
      simp only [n_g8 hj hb hN, n_ck hj hb hN, d_valueCount hj hb hw hN hn, Option.bind_some, Option.bind_none, bd2, bd3, bd4, nm]
      rw [if_neg (by rw [q_le (by omega) (by omega)]; omega), d_mark32 hj hb hb2 hw h h3 hn f]
      simp only [Option.bind_some, Option.bind_none, bd2, bd3, bd4, nm]
      rw [pk_mul, nI_1]
      refine ⟨_, rfl, _, rfl, fun t ht => ?_⟩
      have ht2 : t < many σ n * stp σ n := by rw [Nat.mul_comm]; exact ht
      rw [fm_in ht2, hf _ (Nat.mod_lt _ (stp_pos σ n)), mark_mod n (Nat.le_refl n)]
      have hm := mark_lt hw (t := t) (show n ≤ gN σ by omega)
      have h59 := fbt_59 hw
      have hfb := fbt_le (σ := σ) hn
      obtain ⟨d1, d2⟩ := dg_top (σ := σ) (show t < stp σ (n + 1) from ht)
      have hp : (2 : Nat) ^ (fbt σ n + t / stp σ n) < 2 ^ 64 := Nat.pow_lt_pow_right (by omega) (by omega)
      rw [wb_or (by omega) hp, ← d2]
      rfl) (by
      rintro y ⟨f, rfl, hf⟩
      have hN := NC_u4 h hb2 4 (by omega) (eJ 4096 f)
      refine ⟨_, ?_, f, rfl, hf⟩
      show f_X3_markTables_L11 (pt ca S0 (va_up C 4 (eJ 4096 f))) (ca 3) (ca (b + 1)) (nI (stp σ (gN σ))) (nI (gN σ)) = _
      unfold f_X3_markTables_L11
      simp only [n_g8 hj hb hN, Option.bind_some, Option.bind_none, bd2, bd3, bd4, nm]
      rw [if_pos (by rw [q_le (by omega) (by omega)]; omega)])
  obtain ⟨S', e1, f, rfl, hf⟩ := key
  rw [e1]
  exact ⟨f, rfl, hf⟩
/-! ===== answers ===== -/
def wv (a v k x : Int32) : Int32 := if k = 0 then a + v else if k = 1 then (if v < x then a else a + 1) else if k = 2 then (if a < v then v else a) else (if v < a then v else a)
theorem d_withValue (a v k x : Int32) : f_X3_withValue a v k x = some (wv a v k x) := by
  unfold f_X3_withValue wv
  by_cases h0 : k = 0
  · rw [if_pos h0, if_pos h0]
  · rw [if_neg h0, if_neg h0]
    by_cases h1 : k = 1
    · rw [if_pos h1, if_pos h1]
      by_cases h : v < x
      · rw [if_pos h, if_pos h]
      · rw [if_neg h, if_neg h]
    · rw [if_neg h1, if_neg h1]
      by_cases h2 : k = 2
      · rw [if_pos h2, if_pos h2]
      · rw [if_neg h2, if_neg h2]
def pa (σ : SG) (k e set : Nat) (v : Nat → Nat) (n : Nat) : Nat := if k = 0 then sumq σ set v n else if k = 1 then cntq σ set e v n else if k = 2 then maxq σ set v n else (if set = 0 then 0 else minq σ set v n)
abbrev gw (c : Int32) (l : Nat) (k x : Int32) (v : Nat) (y : Int32) : Int32 := if c = 0 then y else wv y (nI (l + v)) k x
theorem d_ans79 (hj : injC ca) (h3 : C 3 = eO 3 [.ref (ca 4), .ref (ca 5), .ref (ca 6)]) {d v l : Nat} (hd : v * d + d ≤ 4096) (k x c : Int32) (f : Nat → Int32) : lpo (fun y : Int32 × PH => f_X3_answerTables_L79 y.2 (ca 3) k x (nI d) c (nI v) (nI (l + v)) y.1) FU ((0 : Int32), pt ca S0 (va_up C 5 (eI 4096 f))) = some (pt ca S0 (va_up C 5 (eI 4096 (bm (gw c l k x v) f (v * d) d)))) := by
  refine lpo_det (fun m => (nI m, pt ca S0 (va_up C 5 (eI 4096 (bm (gw c l k x v) f (v * d) m))))) d (by omega) (by rw [bm_0]; rfl) ?_ ?_
  · intro m hm
    have g3 : va_up C 5 (eI 4096 (bm (gw c l k x v) f (v * d) m)) 3 = eO 3 [.ref (ca 4), .ref (ca 5), .ref (ca 6)] := (va_up_ne _ _ (by decide)).trans h3
    have g4 : va_up C 5 (eI 4096 (bm (gw c l k x v) f (v * d) m)) 5 = eI 4096 (bm (gw c l k x v) f (v * d) m) := va_up_self _ _ _
    have hrd : bm (gw c l k x v) f (v * d) m m = f m := bm_rd (by
      by_cases e : v = 0
      · subst e; left; omega
      · right
        have : 1 * d ≤ v * d := Nat.mul_le_mul_right d (by omega)
        omega)
    show f_X3_answerTables_L79 (pt ca S0 (va_up C 5 (eI 4096 (bm (gw c l k x v) f (v * d) m)))) (ca 3) k x (nI d) c (nI v) (nI (l + v)) (nI m) = _
    unfold f_X3_answerTables_L79
    rw [if_neg (by rw [q_le (by omega) (by omega)]; omega), pk_mul, nI_add]
    simp only [pt_gR hj g3 (by omega : 3 < 120) (k := 1) rfl, pt_ldI hj g4 (by omega : 5 < 120) (show m < 4096 by omega) (by omega), hrd, d_withValue, f_X3_answerTables_b127, pt_stI hj g4 (by omega : 5 < 120) (show v * d + m < 4096 by omega) (by omega), va_up_up, nI_1, Option.bind_some, Option.bind_none, bd2, bd3, bd4, nm]
    by_cases hc : c = 0
    · rw [if_pos hc]
      rw [show f m = gw c l k x v (f m) from (if_pos hc).symm, bm_sI]
    · rw [if_neg hc]
      rw [show wv (f m) (nI (l + v)) k x = gw c l k x v (f m) from (if_neg hc).symm, bm_sI]
  · show f_X3_answerTables_L79 (pt ca S0 (va_up C 5 (eI 4096 (bm (gw c l k x v) f (v * d) d)))) (ca 3) k x (nI d) c (nI v) (nI (l + v)) (nI d) = _
    unfold f_X3_answerTables_L79
    rw [if_pos (by rw [q_le (by omega) (by omega)]; omega)]
theorem d_ans59 (hj : injC ca) (hb : b + 27 ≤ 120) (hb2 : 12 ≤ b) (hw : WF σ τ) (h : NC ca σ C b) (h3 : C 3 = eO 3 [.ref (ca 4), .ref (ca 5), .ref (ca 6)]) {n : Nat} (hn : n < gN σ) (k x c : Int32) (f : Nat → Int32) : lpo (fun y : Int32 × PH => f_X3_answerTables_L59 y.2 (ca 3) (ca (b + 1)) k x (nI (stp σ n)) (nI n) c y.1) FU (nI (many σ n) - 1, pt ca S0 (va_up C 5 (eI 4096 f))) = some (pt ca S0 (va_up C 5 (eI 4096 (fm (gw c (lo σ n) k x) f (stp σ n) 0 (many σ n))))) := by
  have h1 := hw.num hn
  have h2 : many σ n ≤ 21 := by unfold many; omega
  have hT : stp σ n * many σ n ≤ 4096 := hw.sle (show n + 1 ≤ gN σ by omega)
  have hs := stp_pos σ n
  refine lpo_det (fun i => (nI (many σ n - i) - 1, pt ca S0 (va_up C 5 (eI 4096 (fm (gw c (lo σ n) k x) f (stp σ n) (many σ n - i) (many σ n)))))) (many σ n) (by omega) (by rw [Nat.sub_zero, fm_top]) ?_ ?_
  · intro i hi
    obtain ⟨v, hv⟩ : ∃ v, many σ n - i = v + 1 := ⟨many σ n - i - 1, by omega⟩
    have hv2 : many σ n - (i + 1) = v := by omega
    show f_X3_answerTables_L59 (pt ca S0 (va_up C 5 (eI 4096 (fm (gw c (lo σ n) k x) f (stp σ n) (many σ n - i) (many σ n))))) (ca 3) (ca (b + 1)) k x (nI (stp σ n)) (nI n) c (nI (many σ n - i) - 1) = some (.inl (nI (many σ n - (i + 1)) - 1, _))
    rw [hv, hv2, sub1 (by omega), Nat.add_sub_cancel]
    have hN := NC_u4 h hb2 5 (by omega) (eI 4096 (fm (gw c (lo σ n) k x) f (stp σ n) (v + 1) (many σ n)))
    have hvd : v * stp σ n + stp σ n ≤ 4096 := by
      have : (v + 1) * stp σ n ≤ many σ n * stp σ n := Nat.mul_le_mul_right _ (by omega)
      rw [Nat.mul_comm (many σ n)] at this
      have e : (v + 1) * stp σ n = v * stp σ n + stp σ n := Nat.succ_mul v (stp σ n)
      omega
    unfold f_X3_answerTables_L59
    rw [if_neg (Int32.not_lt.mpr (nI_pos' (by omega)))]
    simp only [n_g2 hj hb hN, n_le hj hb hw hN hn, Option.bind_some, Option.bind_none, bd2, bd3, bd4, nm]
    rw [nI_add, d_ans79 hj h3 hvd]
    simp only [Option.bind_some, Option.bind_none, bd2, bd3, bd4, nm]
    rw [dec1, fm_step (G := gw c (lo σ n) k x) (show v < many σ n by omega)]
  · show f_X3_answerTables_L59 _ (ca 3) (ca (b + 1)) k x (nI (stp σ n)) (nI n) c (nI (many σ n - many σ n) - 1) = _
    rw [Nat.sub_self]
    unfold f_X3_answerTables_L59
    rw [if_pos nI0m]
end TABS
