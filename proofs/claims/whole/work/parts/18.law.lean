/-- person: class and reference answer alike, and the invariant holds again -/
def AG_person (I : PH → Prop) (x m : Nat) : Prop := ∀ (S : PH) (a b c d : Int32), I S → ∃ (r : Int32) (S1 : PH) (S2 : PH), ckO S x 7 = some () ∧ f_X7_person S x a b c d = some (r, S1) ∧ ckO S1 m 8 = some () ∧ f_X8_person S1 m a b c d = some (r, S2) ∧ I S2
/-- change: class and reference answer alike, and the invariant holds again -/
def AG_change (I : PH → Prop) (x m : Nat) : Prop := ∀ (S : PH) (a b : Int32), I S → ∃ (r : Int32) (S1 : PH) (S2 : PH), ckO S x 7 = some () ∧ f_X7_change S x a b = some (r, S1) ∧ ckO S1 m 8 = some () ∧ f_X8_change S1 m a b = some (r, S2) ∧ I S2
/-- ask: class and reference answer alike, and the invariant holds again -/
def AG_ask (I : PH → Prop) (x m : Nat) : Prop := ∀ (S : PH) (a b c d : Int32), I S → ∃ (r : Int32) (S1 : PH) (S2 : PH), ckO S x 7 = some () ∧ f_X7_ask S x a b c d = some (r, S1) ∧ ckO S1 m 8 = some () ∧ f_X8_ask S1 m a b c d = some (r, S2) ∧ I S2
/-- would: class and reference answer alike, and the invariant holds again -/
def AG_would (I : PH → Prop) (x m : Nat) : Prop := ∀ (S : PH) (a b c d : Int32), I S → ∃ (r : Int32) (S1 : PH) (S2 : PH), ckO S x 7 = some () ∧ f_X7_would S x a b c d = some (r, S1) ∧ ckO S1 m 8 = some () ∧ f_X8_would S1 m a b c d = some (r, S2) ∧ I S2
/-- join: class and reference answer alike, and the invariant holds again -/
def AG_join (I : PH → Prop) (x m : Nat) : Prop := ∀ (S : PH) (a b : Int32), I S → ∃ (r : Int32) (S1 : PH) (S2 : PH), ckO S x 7 = some () ∧ f_X7_join S x a b = some (r, S1) ∧ ckO S1 m 8 = some () ∧ f_X8_join S1 m a b = some (r, S2) ∧ I S2
/-- knows: class and reference answer alike, and the invariant holds again -/
def AG_knows (I : PH → Prop) (x m : Nat) : Prop := ∀ (S : PH) (a b c : Int32), I S → ∃ (r : Int32) (S1 : PH), ckO S x 7 = some () ∧ f_X7_knows S x a b c = some (r, S1) ∧ ckO S1 m 8 = some () ∧ f_X8_knows S1 m a b c = some r ∧ I S1
/-- tables: class and reference answer alike, and the invariant holds again -/
def AG_tables (I : PH → Prop) (x m : Nat) : Prop := ∀ (S : PH) (a : Int32), I S → ∃ (r : Int32), ckO S x 7 = some () ∧ f_X7_tables S x a = some r ∧ ckO S m 8 = some () ∧ f_X8_tables S m a = some r ∧ I S
/-- broken: class and reference answer alike, and the invariant holds again -/
def AG_broken (I : PH → Prop) (x m : Nat) : Prop := ∀ (S : PH) (a : Int32), I S → ∃ (r : Int32) (S1 : PH) (S2 : PH), ckO S x 7 = some () ∧ f_X7_broken S x a = some (r, S1) ∧ ckO S1 m 8 = some () ∧ f_X8_broken S1 m a = some (r, S2) ∧ I S2
/-- tell: class and reference answer alike, and the invariant holds again -/
def AG_tell (I : PH → Prop) (x m : Nat) : Prop := ∀ (S : PH) (a b : Int32), I S → ∃ (r : Int32), ckO S x 7 = some () ∧ f_X7_tell S x a b = some r ∧ ckO S m 8 = some () ∧ f_X8_tell S m a b = some r ∧ I S
/-- asked: class and reference answer alike, and the invariant holds again -/
def AG_asked (I : PH → Prop) (x m : Nat) : Prop := ∀ (S : PH) (a b : Int32), I S → ∃ (r : Int32), ckO S x 7 = some () ∧ f_X7_asked S x a b = some r ∧ ckO S m 8 = some () ∧ f_X8_asked S m a b = some r ∧ I S
/-- wish: class and reference answer alike, and the invariant holds again -/
def AG_wish (I : PH → Prop) (x m : Nat) : Prop := ∀ (S : PH) (a b c : Int32), I S → ∃ (r : Int32) (S1 : PH) (S2 : PH), ckO S x 7 = some () ∧ f_X7_wish S x a b c = some (r, S1) ∧ ckO S1 m 8 = some () ∧ f_X8_wish S1 m a b c = some (r, S2) ∧ I S2
/-- clear: class and reference answer alike, and the invariant holds again -/
def AG_clear (I : PH → Prop) (x m : Nat) : Prop := ∀ (S : PH), I S → ∃ (S1 : PH) (S2 : PH), ckO S x 7 = some () ∧ f_X7_clear S x  = some S1 ∧ ckO S1 m 8 = some () ∧ f_X8_clear S1 m  = some S2 ∧ I S2
/-- most: class and reference answer alike, and the invariant holds again -/
def AG_most (I : PH → Prop) (x m : Nat) : Prop := ∀ (S : PH) (a : Int32), I S → ∃ (r : Int32) (S1 : PH) (S2 : PH), ckO S x 7 = some () ∧ f_X7_most S x a = some (r, S1) ∧ ckO S1 m 8 = some () ∧ f_X8_most S1 m a = some (r, S2) ∧ I S2
/-- together: class and reference answer alike, and the invariant holds again -/
def AG_together (I : PH → Prop) (x m : Nat) : Prop := ∀ (S : PH) (a b : Int32), I S → ∃ (r : Int32) (S1 : PH) (S2 : PH), ckO S x 7 = some () ∧ f_X7_together S x a b = some (r, S1) ∧ ckO S1 m 8 = some () ∧ f_X8_together S1 m a b = some (r, S2) ∧ I S2
/-- count: class and reference answer alike, and the invariant holds again -/
def AG_count (I : PH → Prop) (x m : Nat) : Prop := ∀ (S : PH) (a : Int32), I S → ∃ (r : Int32), ckO S x 7 = some () ∧ f_X7_count S x a = some r ∧ ckO S m 8 = some () ∧ f_X8_count S m a = some r ∧ I S
/-- image: class and reference answer alike, and the invariant holds again -/
def AG_image (I : PH → Prop) (x m : Nat) : Prop := ∀ (S : PH) (a : Int32), I S → ∃ (r : Int32) (S1 : PH) (S2 : PH), ckO S x 7 = some () ∧ f_X7_image S x a = some (r, S1) ∧ ckO S1 m 8 = some () ∧ f_X8_image S1 m a = some (r, S2) ∧ I S2
/-- again: class and reference answer alike, and the invariant holds again -/
def AG_again (I : PH → Prop) (x m : Nat) : Prop := ∀ (S : PH) (a : Int32), I S → ∃ (r : Int32) (S1 : PH) (S2 : PH), ckO S x 7 = some () ∧ f_X7_again S x a = some (r, S1) ∧ ckO S1 m 8 = some () ∧ f_X8_again S1 m a = some (r, S2) ∧ I S2
def AGREE (I : PH → Prop) (x m : Nat) : Prop := AG_person I x m ∧ AG_change I x m ∧ AG_ask I x m ∧ AG_would I x m ∧ AG_join I x m ∧ AG_knows I x m ∧ AG_tables I x m ∧ AG_broken I x m ∧ AG_tell I x m ∧ AG_asked I x m ∧ AG_wish I x m ∧ AG_clear I x m ∧ AG_most I x m ∧ AG_together I x m ∧ AG_count I x m ∧ AG_image I x m ∧ AG_again I x m
set_option maxHeartbeats 8000000 in
set_option maxRecDepth 100000 in
theorem law_loop {p : Program} {l : Launch} {e : Env} {s : State} {m : MethodId} {below : List Frame} {meth : Method} {c : Code} {D : va_G} {G : Nat → ClassId} {b N : Nat} {xs : Nat → Int32} (hN : N ≤ 2560) (C0 : lw_At p s m meth c b N xs) (hK : va_K D vwCl (gtys G) s) (hT : TB s) {I : PH → Prop} {L : List Nat} {x0 m0 : Nat} (hag : AGREE I x0 m0) (hLA : ∀ q ∈ L, s.heap.size ≤ q) :
    ∀ (n i : Nat) (S : PH), i ≤ N → N + 1 ≤ i + n → I S → ∀ (H : Heap) (locs : List Loc) (ls : Array Slot), Wd D G L (fun q : Nat => s.heap.size ≤ q) s.heap S H locs → lv_has ls 4 [(0, .ref b), (1, .ref x0), (2, .ref m0), (3, .int (nI i))] → W p l e room_1 s m #[Value.ref b] below meth c H locs 600000 7302250 (lw_Z below #[Value.ref b] s) (F0 m 18 ls []) := by
  obtain ⟨hx, hb, hr, hml, hown, hts, hX, hbl, hlocks, hgv⟩ := C0
  have hbA : ¬ (fun q : Nat => s.heap.size ≤ q) b := Nat.not_le.mpr hbl
  have C : CX p s m c #[Value.ref b] D G cL_law 4 RL := ⟨⟨hx, hb, hml, hown, TB_use _ hT⟩, hK, hT⟩
  have hcs : 600000 ≤ room_1.cells ∧ 7302250 ≤ room_1.slots := ⟨Nat.le_refl _, Nat.le_refl _⟩
  obtain ⟨ag_person, ag_change, ag_ask, ag_would, ag_join, ag_knows, ag_tables, ag_broken, ag_tell, ag_asked, ag_wish, ag_clear, ag_most, ag_together, ag_count, ag_image, ag_again⟩ := hag
  intro n
  induction n with
  | zero =>
    intro i S h1 h2
    exact absurd h2 (by omega)
  | succ n ih =>
    intro i S hi hin hI H locs ls w hl
    have back : ∀ (S : PH), i + 5 ≤ N → I S → ∀ (H : Heap) (locs : List Loc) (ls : Array Slot), Wd D G L (fun q : Nat => s.heap.size ≤ q) s.heap S H locs → lv_has ls 4 [(0, .ref b), (1, .ref x0), (2, .ref m0), (3, .int (nI i))] → W p l e room_1 s m #[Value.ref b] below meth c H locs 600000 7302250 (lw_Z below #[Value.ref b] s) (F0 m 675 ls []) := by
      intro S h5 hI H locs ls w hl
      refine lv_iinc (v := nI (i + 5)) (lv' := [(3, .int (nI (i + 5))), (0, .ref b), (1, .ref x0), (2, .ref m0)]) hx hb dL_law_675 hl (k := 3) rfl (by rw [← nI_add]; rfl) (by decide) rfl (fun ls hl => ?_)
      refine lv_goto (tgt := 18) hx hb dL_law_678 (by decide) ?_
      exact ih (i + 5) S h5 (by omega) hI H locs ls w (lv_sub hl [1, 2, 3, 0] rfl)
    have hS := w.2.2.2
    refine lv_iload_n hx hb dL_law_18 rfl (lv_at hl 3 rfl) ?_
    refine lv_aload_n hx hb dL_law_19 rfl (lv_at hl 0 rfl) ?_
    refine va_slen hx hb hX hbl hbA hS dL_law_20 ?_
    refine lv_iconst (v := 5) hx hb dL_law_21 (by decide) ?_
    refine lv_isub hx hb dL_law_22 ?_
    refine lv_icmp_gt (tgt := 681) hx hb dL_law_23 (by decide) (fun c_1 => ?_) (fun c_1 => ?_)
    · refine lv_iconst (v := 1) hx hb dL_law_681 (by decide) ?_
      refine va_forget (fun q hq => hS.2.2 q hq) ?_
      exact lw_ret hx hb hr hlocks dL_law_682
    have h5 : i + 5 ≤ N := by
      have h1 : (nI N - 5).toInt = (N : Int) - 5 := by
        exact pk_sub_toInt (a := N) (b := 5) (by omega) (by omega)
      have h2 : ¬ (nI N - 5).toInt < (nI i).toInt := fun q => c_1 (Int32.lt_iff_toInt_lt.mpr q)
      rw [h1, nI_toInt (by omega)] at h2
      omega
    have i0 : vp_in (nI i) N := vp_in_nI (by omega) (by omega)
    have i1 : vp_in (nI i + 1) N := by rw [show nI i + 1 = nI (i + 1) from nI_add i 1]; exact vp_in_nI (by omega) (by omega)
    have i2 : vp_in (nI i + 2) N := by rw [show nI i + 2 = nI (i + 2) from nI_add i 2]; exact vp_in_nI (by omega) (by omega)
    have i3 : vp_in (nI i + 3) N := by rw [show nI i + 3 = nI (i + 3) from nI_add i 3]; exact vp_in_nI (by omega) (by omega)
    have i4 : vp_in (nI i + 4) N := by rw [show nI i + 4 = nI (i + 4) from nI_add i 4]; exact vp_in_nI (by omega) (by omega)
    refine lv_aload_n hx hb dL_law_26 rfl (lv_at hl 0 rfl) ?_
    refine lv_iload_n hx hb dL_law_27 rfl (lv_at hl 3 rfl) ?_
    refine va_sld hx hb hX hbl hbA hS i0 dL_law_28 ?_
    refine lv_bipush (v := 31) hx hb dL_law_29 (by decide) ?_
    refine lv_iand hx hb dL_law_31 ?_
    generalize xs (nI i).toNatClampNeg &&& 31 = sel
    by_cases cw_0 : sel = 0
    · refine o_sw0 C 0 cw_0 dL_law_32 (by decide) (by decide) rfl (tgt := 116) (by decide) ?_
      obtain ⟨r, S1, S2, ho1, hc1, ho2, hc2, hI⟩ := ag_person S (xs (nI i + 1).toNatClampNeg) (xs (nI i + 2).toNatClampNeg) (xs (nI i + 3).toNatClampNeg) (xs (nI i + 4).toNatClampNeg) hI
      refine lv_aload_n hx hb dL_law_116 rfl (lv_at hl 1 rfl) ?_
      refine lv_aload_n hx hb dL_law_117 rfl (lv_at hl 0 rfl) ?_
      refine lv_iload_n hx hb dL_law_118 rfl (lv_at hl 3 rfl) ?_
      refine lv_iconst (v := 1) hx hb dL_law_119 (by decide) ?_
      refine lv_iadd hx hb dL_law_120 ?_
      refine va_sld hx hb hX hbl hbA w.2.2.2 i1 dL_law_121 ?_
      refine lv_aload_n hx hb dL_law_122 rfl (lv_at hl 0 rfl) ?_
      refine lv_iload_n hx hb dL_law_123 rfl (lv_at hl 3 rfl) ?_
      refine lv_iconst (v := 2) hx hb dL_law_124 (by decide) ?_
      refine lv_iadd hx hb dL_law_125 ?_
      refine va_sld hx hb hX hbl hbA w.2.2.2 i2 dL_law_126 ?_
      refine lv_aload_n hx hb dL_law_127 rfl (lv_at hl 0 rfl) ?_
      refine lv_iload_n hx hb dL_law_128 rfl (lv_at hl 3 rfl) ?_
      refine lv_iconst (v := 3) hx hb dL_law_129 (by decide) ?_
      refine lv_iadd hx hb dL_law_130 ?_
      refine va_sld hx hb hX hbl hbA w.2.2.2 i3 dL_law_131 ?_
      refine lv_aload_n hx hb dL_law_132 rfl (lv_at hl 0 rfl) ?_
      refine lv_iload_n hx hb dL_law_133 rfl (lv_at hl 3 rfl) ?_
      refine lv_iconst (v := 4) hx hb dL_law_134 (by decide) ?_
      refine lv_iadd hx hb dL_law_135 ?_
      refine va_sld hx hb hX hbl hbA w.2.2.2 i4 dL_law_136 ?_
      refine o_backi w hLA (o_runV (As := [.int (xs (nI i + 1).toNatClampNeg), .int (xs (nI i + 2).toNatClampNeg), .int (xs (nI i + 3).toNatClampNeg), .int (xs (nI i + 4).toNatClampNeg)]) (rest := []) C w (c_X7_person l D G L S x0 (xs (nI i + 1).toNatClampNeg) (xs (nI i + 2).toNatClampNeg) (xs (nI i + 3).toNatClampNeg) (xs (nI i + 4).toNatClampNeg) (r, S1) hc1) ml_L_13 mv_X7_person ⟨rfl, rfl, Nat.le_of_ble_eq_true rfl, Nat.le_of_ble_eq_true rfl⟩ ho1 rfl hl.1 rfl (Nat.le_of_ble_eq_true rfl) dL_law_137 hcs) (fun H locs w => ?_)
      refine lv_aload_n hx hb dL_law_140 rfl (lv_at hl 2 rfl) ?_
      refine lv_aload_n hx hb dL_law_141 rfl (lv_at hl 0 rfl) ?_
      refine lv_iload_n hx hb dL_law_142 rfl (lv_at hl 3 rfl) ?_
      refine lv_iconst (v := 1) hx hb dL_law_143 (by decide) ?_
      refine lv_iadd hx hb dL_law_144 ?_
      refine va_sld hx hb hX hbl hbA w.2.2.2 i1 dL_law_145 ?_
      refine lv_aload_n hx hb dL_law_146 rfl (lv_at hl 0 rfl) ?_
      refine lv_iload_n hx hb dL_law_147 rfl (lv_at hl 3 rfl) ?_
      refine lv_iconst (v := 2) hx hb dL_law_148 (by decide) ?_
      refine lv_iadd hx hb dL_law_149 ?_
      refine va_sld hx hb hX hbl hbA w.2.2.2 i2 dL_law_150 ?_
      refine lv_aload_n hx hb dL_law_151 rfl (lv_at hl 0 rfl) ?_
      refine lv_iload_n hx hb dL_law_152 rfl (lv_at hl 3 rfl) ?_
      refine lv_iconst (v := 3) hx hb dL_law_153 (by decide) ?_
      refine lv_iadd hx hb dL_law_154 ?_
      refine va_sld hx hb hX hbl hbA w.2.2.2 i3 dL_law_155 ?_
      refine lv_aload_n hx hb dL_law_156 rfl (lv_at hl 0 rfl) ?_
      refine lv_iload_n hx hb dL_law_157 rfl (lv_at hl 3 rfl) ?_
      refine lv_iconst (v := 4) hx hb dL_law_158 (by decide) ?_
      refine lv_iadd hx hb dL_law_159 ?_
      refine va_sld hx hb hX hbl hbA w.2.2.2 i4 dL_law_160 ?_
      refine o_backi w hLA (o_runV (As := [.int (xs (nI i + 1).toNatClampNeg), .int (xs (nI i + 2).toNatClampNeg), .int (xs (nI i + 3).toNatClampNeg), .int (xs (nI i + 4).toNatClampNeg)]) (rest := [.int r]) C w (c_X8_person l D G L S1 m0 (xs (nI i + 1).toNatClampNeg) (xs (nI i + 2).toNatClampNeg) (xs (nI i + 3).toNatClampNeg) (xs (nI i + 4).toNatClampNeg) (r, S2) hc2) ml_L_17 mv_X8_person ⟨rfl, rfl, Nat.le_of_ble_eq_true rfl, Nat.le_of_ble_eq_true rfl⟩ ho2 rfl hl.1 rfl (Nat.le_of_ble_eq_true rfl) dL_law_161 hcs) (fun H locs w => ?_)
      refine lv_icmp_eq (tgt := 675) hx hb dL_law_164 (by decide) (fun _ => ?_) (fun cq => absurd rfl cq)
      exact back S2 h5 hI H locs ls w hl
    by_cases cw_1 : sel = 1
    · refine o_sw0 C 1 cw_1 dL_law_32 (by decide) (by decide) rfl (tgt := 169) (by decide) ?_
      obtain ⟨r, S1, S2, ho1, hc1, ho2, hc2, hI⟩ := ag_change S (xs (nI i + 1).toNatClampNeg) (xs (nI i + 2).toNatClampNeg) hI
      refine lv_aload_n hx hb dL_law_169 rfl (lv_at hl 1 rfl) ?_
      refine lv_aload_n hx hb dL_law_170 rfl (lv_at hl 0 rfl) ?_
      refine lv_iload_n hx hb dL_law_171 rfl (lv_at hl 3 rfl) ?_
      refine lv_iconst (v := 1) hx hb dL_law_172 (by decide) ?_
      refine lv_iadd hx hb dL_law_173 ?_
      refine va_sld hx hb hX hbl hbA w.2.2.2 i1 dL_law_174 ?_
      refine lv_aload_n hx hb dL_law_175 rfl (lv_at hl 0 rfl) ?_
      refine lv_iload_n hx hb dL_law_176 rfl (lv_at hl 3 rfl) ?_
      refine lv_iconst (v := 2) hx hb dL_law_177 (by decide) ?_
      refine lv_iadd hx hb dL_law_178 ?_
      refine va_sld hx hb hX hbl hbA w.2.2.2 i2 dL_law_179 ?_
      refine o_backi w hLA (o_runV (As := [.int (xs (nI i + 1).toNatClampNeg), .int (xs (nI i + 2).toNatClampNeg)]) (rest := []) C w (c_X7_change l D G L S x0 (xs (nI i + 1).toNatClampNeg) (xs (nI i + 2).toNatClampNeg) (r, S1) hc1) ml_L_18 mv_X7_change ⟨rfl, rfl, Nat.le_of_ble_eq_true rfl, Nat.le_of_ble_eq_true rfl⟩ ho1 rfl hl.1 rfl (Nat.le_of_ble_eq_true rfl) dL_law_180 hcs) (fun H locs w => ?_)
      refine lv_aload_n hx hb dL_law_183 rfl (lv_at hl 2 rfl) ?_
      refine lv_aload_n hx hb dL_law_184 rfl (lv_at hl 0 rfl) ?_
      refine lv_iload_n hx hb dL_law_185 rfl (lv_at hl 3 rfl) ?_
      refine lv_iconst (v := 1) hx hb dL_law_186 (by decide) ?_
      refine lv_iadd hx hb dL_law_187 ?_
      refine va_sld hx hb hX hbl hbA w.2.2.2 i1 dL_law_188 ?_
      refine lv_aload_n hx hb dL_law_189 rfl (lv_at hl 0 rfl) ?_
      refine lv_iload_n hx hb dL_law_190 rfl (lv_at hl 3 rfl) ?_
      refine lv_iconst (v := 2) hx hb dL_law_191 (by decide) ?_
      refine lv_iadd hx hb dL_law_192 ?_
      refine va_sld hx hb hX hbl hbA w.2.2.2 i2 dL_law_193 ?_
      refine o_backi w hLA (o_runV (As := [.int (xs (nI i + 1).toNatClampNeg), .int (xs (nI i + 2).toNatClampNeg)]) (rest := [.int r]) C w (c_X8_change l D G L S1 m0 (xs (nI i + 1).toNatClampNeg) (xs (nI i + 2).toNatClampNeg) (r, S2) hc2) ml_L_22 mv_X8_change ⟨rfl, rfl, Nat.le_of_ble_eq_true rfl, Nat.le_of_ble_eq_true rfl⟩ ho2 rfl hl.1 rfl (Nat.le_of_ble_eq_true rfl) dL_law_194 hcs) (fun H locs w => ?_)
      refine lv_icmp_eq (tgt := 675) hx hb dL_law_197 (by decide) (fun _ => ?_) (fun cq => absurd rfl cq)
      exact back S2 h5 hI H locs ls w hl
    by_cases cw_2 : sel = 2
    · refine o_sw0 C 2 cw_2 dL_law_32 (by decide) (by decide) rfl (tgt := 202) (by decide) ?_
      obtain ⟨r, S1, S2, ho1, hc1, ho2, hc2, hI⟩ := ag_ask S (xs (nI i + 1).toNatClampNeg) (xs (nI i + 2).toNatClampNeg) (xs (nI i + 3).toNatClampNeg) (xs (nI i + 4).toNatClampNeg) hI
      refine lv_aload_n hx hb dL_law_202 rfl (lv_at hl 1 rfl) ?_
      refine lv_aload_n hx hb dL_law_203 rfl (lv_at hl 0 rfl) ?_
      refine lv_iload_n hx hb dL_law_204 rfl (lv_at hl 3 rfl) ?_
      refine lv_iconst (v := 1) hx hb dL_law_205 (by decide) ?_
      refine lv_iadd hx hb dL_law_206 ?_
      refine va_sld hx hb hX hbl hbA w.2.2.2 i1 dL_law_207 ?_
      refine lv_aload_n hx hb dL_law_208 rfl (lv_at hl 0 rfl) ?_
      refine lv_iload_n hx hb dL_law_209 rfl (lv_at hl 3 rfl) ?_
      refine lv_iconst (v := 2) hx hb dL_law_210 (by decide) ?_
      refine lv_iadd hx hb dL_law_211 ?_
      refine va_sld hx hb hX hbl hbA w.2.2.2 i2 dL_law_212 ?_
      refine lv_aload_n hx hb dL_law_213 rfl (lv_at hl 0 rfl) ?_
      refine lv_iload_n hx hb dL_law_214 rfl (lv_at hl 3 rfl) ?_
      refine lv_iconst (v := 3) hx hb dL_law_215 (by decide) ?_
      refine lv_iadd hx hb dL_law_216 ?_
      refine va_sld hx hb hX hbl hbA w.2.2.2 i3 dL_law_217 ?_
      refine lv_aload_n hx hb dL_law_218 rfl (lv_at hl 0 rfl) ?_
      refine lv_iload_n hx hb dL_law_219 rfl (lv_at hl 3 rfl) ?_
      refine lv_iconst (v := 4) hx hb dL_law_220 (by decide) ?_
      refine lv_iadd hx hb dL_law_221 ?_
      refine va_sld hx hb hX hbl hbA w.2.2.2 i4 dL_law_222 ?_
      refine o_backi w hLA (o_runV (As := [.int (xs (nI i + 1).toNatClampNeg), .int (xs (nI i + 2).toNatClampNeg), .int (xs (nI i + 3).toNatClampNeg), .int (xs (nI i + 4).toNatClampNeg)]) (rest := []) C w (c_X7_ask l D G L S x0 (xs (nI i + 1).toNatClampNeg) (xs (nI i + 2).toNatClampNeg) (xs (nI i + 3).toNatClampNeg) (xs (nI i + 4).toNatClampNeg) (r, S1) hc1) ml_L_23 mv_X7_ask ⟨rfl, rfl, Nat.le_of_ble_eq_true rfl, Nat.le_of_ble_eq_true rfl⟩ ho1 rfl hl.1 rfl (Nat.le_of_ble_eq_true rfl) dL_law_223 hcs) (fun H locs w => ?_)
      refine lv_aload_n hx hb dL_law_226 rfl (lv_at hl 2 rfl) ?_
      refine lv_aload_n hx hb dL_law_227 rfl (lv_at hl 0 rfl) ?_
      refine lv_iload_n hx hb dL_law_228 rfl (lv_at hl 3 rfl) ?_
      refine lv_iconst (v := 1) hx hb dL_law_229 (by decide) ?_
      refine lv_iadd hx hb dL_law_230 ?_
      refine va_sld hx hb hX hbl hbA w.2.2.2 i1 dL_law_231 ?_
      refine lv_aload_n hx hb dL_law_232 rfl (lv_at hl 0 rfl) ?_
      refine lv_iload_n hx hb dL_law_233 rfl (lv_at hl 3 rfl) ?_
      refine lv_iconst (v := 2) hx hb dL_law_234 (by decide) ?_
      refine lv_iadd hx hb dL_law_235 ?_
      refine va_sld hx hb hX hbl hbA w.2.2.2 i2 dL_law_236 ?_
      refine lv_aload_n hx hb dL_law_237 rfl (lv_at hl 0 rfl) ?_
      refine lv_iload_n hx hb dL_law_238 rfl (lv_at hl 3 rfl) ?_
      refine lv_iconst (v := 3) hx hb dL_law_239 (by decide) ?_
      refine lv_iadd hx hb dL_law_240 ?_
      refine va_sld hx hb hX hbl hbA w.2.2.2 i3 dL_law_241 ?_
      refine lv_aload_n hx hb dL_law_242 rfl (lv_at hl 0 rfl) ?_
      refine lv_iload_n hx hb dL_law_243 rfl (lv_at hl 3 rfl) ?_
      refine lv_iconst (v := 4) hx hb dL_law_244 (by decide) ?_
      refine lv_iadd hx hb dL_law_245 ?_
      refine va_sld hx hb hX hbl hbA w.2.2.2 i4 dL_law_246 ?_
      refine o_backi w hLA (o_runV (As := [.int (xs (nI i + 1).toNatClampNeg), .int (xs (nI i + 2).toNatClampNeg), .int (xs (nI i + 3).toNatClampNeg), .int (xs (nI i + 4).toNatClampNeg)]) (rest := [.int r]) C w (c_X8_ask l D G L S1 m0 (xs (nI i + 1).toNatClampNeg) (xs (nI i + 2).toNatClampNeg) (xs (nI i + 3).toNatClampNeg) (xs (nI i + 4).toNatClampNeg) (r, S2) hc2) ml_L_26 mv_X8_ask ⟨rfl, rfl, Nat.le_of_ble_eq_true rfl, Nat.le_of_ble_eq_true rfl⟩ ho2 rfl hl.1 rfl (Nat.le_of_ble_eq_true rfl) dL_law_247 hcs) (fun H locs w => ?_)
      refine lv_icmp_eq (tgt := 675) hx hb dL_law_250 (by decide) (fun _ => ?_) (fun cq => absurd rfl cq)
      exact back S2 h5 hI H locs ls w hl
    by_cases cw_3 : sel = 3
    · refine o_sw0 C 3 cw_3 dL_law_32 (by decide) (by decide) rfl (tgt := 255) (by decide) ?_
      obtain ⟨r, S1, S2, ho1, hc1, ho2, hc2, hI⟩ := ag_would S (xs (nI i + 1).toNatClampNeg) (xs (nI i + 2).toNatClampNeg) (xs (nI i + 3).toNatClampNeg) (xs (nI i + 4).toNatClampNeg) hI
      refine lv_aload_n hx hb dL_law_255 rfl (lv_at hl 1 rfl) ?_
      refine lv_aload_n hx hb dL_law_256 rfl (lv_at hl 0 rfl) ?_
      refine lv_iload_n hx hb dL_law_257 rfl (lv_at hl 3 rfl) ?_
      refine lv_iconst (v := 1) hx hb dL_law_258 (by decide) ?_
      refine lv_iadd hx hb dL_law_259 ?_
      refine va_sld hx hb hX hbl hbA w.2.2.2 i1 dL_law_260 ?_
      refine lv_aload_n hx hb dL_law_261 rfl (lv_at hl 0 rfl) ?_
      refine lv_iload_n hx hb dL_law_262 rfl (lv_at hl 3 rfl) ?_
      refine lv_iconst (v := 2) hx hb dL_law_263 (by decide) ?_
      refine lv_iadd hx hb dL_law_264 ?_
      refine va_sld hx hb hX hbl hbA w.2.2.2 i2 dL_law_265 ?_
      refine lv_aload_n hx hb dL_law_266 rfl (lv_at hl 0 rfl) ?_
      refine lv_iload_n hx hb dL_law_267 rfl (lv_at hl 3 rfl) ?_
      refine lv_iconst (v := 3) hx hb dL_law_268 (by decide) ?_
      refine lv_iadd hx hb dL_law_269 ?_
      refine va_sld hx hb hX hbl hbA w.2.2.2 i3 dL_law_270 ?_
      refine lv_aload_n hx hb dL_law_271 rfl (lv_at hl 0 rfl) ?_
      refine lv_iload_n hx hb dL_law_272 rfl (lv_at hl 3 rfl) ?_
      refine lv_iconst (v := 4) hx hb dL_law_273 (by decide) ?_
      refine lv_iadd hx hb dL_law_274 ?_
      refine va_sld hx hb hX hbl hbA w.2.2.2 i4 dL_law_275 ?_
      refine o_backi w hLA (o_runV (As := [.int (xs (nI i + 1).toNatClampNeg), .int (xs (nI i + 2).toNatClampNeg), .int (xs (nI i + 3).toNatClampNeg), .int (xs (nI i + 4).toNatClampNeg)]) (rest := []) C w (c_X7_would l D G L S x0 (xs (nI i + 1).toNatClampNeg) (xs (nI i + 2).toNatClampNeg) (xs (nI i + 3).toNatClampNeg) (xs (nI i + 4).toNatClampNeg) (r, S1) hc1) ml_L_27 mv_X7_would ⟨rfl, rfl, Nat.le_of_ble_eq_true rfl, Nat.le_of_ble_eq_true rfl⟩ ho1 rfl hl.1 rfl (Nat.le_of_ble_eq_true rfl) dL_law_276 hcs) (fun H locs w => ?_)
      refine lv_aload_n hx hb dL_law_279 rfl (lv_at hl 2 rfl) ?_
      refine lv_aload_n hx hb dL_law_280 rfl (lv_at hl 0 rfl) ?_
      refine lv_iload_n hx hb dL_law_281 rfl (lv_at hl 3 rfl) ?_
      refine lv_iconst (v := 1) hx hb dL_law_282 (by decide) ?_
      refine lv_iadd hx hb dL_law_283 ?_
      refine va_sld hx hb hX hbl hbA w.2.2.2 i1 dL_law_284 ?_
      refine lv_aload_n hx hb dL_law_285 rfl (lv_at hl 0 rfl) ?_
      refine lv_iload_n hx hb dL_law_286 rfl (lv_at hl 3 rfl) ?_
      refine lv_iconst (v := 2) hx hb dL_law_287 (by decide) ?_
      refine lv_iadd hx hb dL_law_288 ?_
      refine va_sld hx hb hX hbl hbA w.2.2.2 i2 dL_law_289 ?_
      refine lv_aload_n hx hb dL_law_290 rfl (lv_at hl 0 rfl) ?_
      refine lv_iload_n hx hb dL_law_291 rfl (lv_at hl 3 rfl) ?_
      refine lv_iconst (v := 3) hx hb dL_law_292 (by decide) ?_
      refine lv_iadd hx hb dL_law_293 ?_
      refine va_sld hx hb hX hbl hbA w.2.2.2 i3 dL_law_294 ?_
      refine lv_aload_n hx hb dL_law_295 rfl (lv_at hl 0 rfl) ?_
      refine lv_iload_n hx hb dL_law_296 rfl (lv_at hl 3 rfl) ?_
      refine lv_iconst (v := 4) hx hb dL_law_297 (by decide) ?_
      refine lv_iadd hx hb dL_law_298 ?_
      refine va_sld hx hb hX hbl hbA w.2.2.2 i4 dL_law_299 ?_
      refine o_backi w hLA (o_runV (As := [.int (xs (nI i + 1).toNatClampNeg), .int (xs (nI i + 2).toNatClampNeg), .int (xs (nI i + 3).toNatClampNeg), .int (xs (nI i + 4).toNatClampNeg)]) (rest := [.int r]) C w (c_X8_would l D G L S1 m0 (xs (nI i + 1).toNatClampNeg) (xs (nI i + 2).toNatClampNeg) (xs (nI i + 3).toNatClampNeg) (xs (nI i + 4).toNatClampNeg) (r, S2) hc2) ml_L_30 mv_X8_would ⟨rfl, rfl, Nat.le_of_ble_eq_true rfl, Nat.le_of_ble_eq_true rfl⟩ ho2 rfl hl.1 rfl (Nat.le_of_ble_eq_true rfl) dL_law_300 hcs) (fun H locs w => ?_)
      refine lv_icmp_eq (tgt := 675) hx hb dL_law_303 (by decide) (fun _ => ?_) (fun cq => absurd rfl cq)
      exact back S2 h5 hI H locs ls w hl
    by_cases cw_4 : sel = 4
    · refine o_sw0 C 4 cw_4 dL_law_32 (by decide) (by decide) rfl (tgt := 308) (by decide) ?_
      obtain ⟨r, S1, S2, ho1, hc1, ho2, hc2, hI⟩ := ag_join S (xs (nI i + 1).toNatClampNeg) (xs (nI i + 2).toNatClampNeg) hI
      refine lv_aload_n hx hb dL_law_308 rfl (lv_at hl 1 rfl) ?_
      refine lv_aload_n hx hb dL_law_309 rfl (lv_at hl 0 rfl) ?_
      refine lv_iload_n hx hb dL_law_310 rfl (lv_at hl 3 rfl) ?_
      refine lv_iconst (v := 1) hx hb dL_law_311 (by decide) ?_
      refine lv_iadd hx hb dL_law_312 ?_
      refine va_sld hx hb hX hbl hbA w.2.2.2 i1 dL_law_313 ?_
      refine lv_aload_n hx hb dL_law_314 rfl (lv_at hl 0 rfl) ?_
      refine lv_iload_n hx hb dL_law_315 rfl (lv_at hl 3 rfl) ?_
      refine lv_iconst (v := 2) hx hb dL_law_316 (by decide) ?_
      refine lv_iadd hx hb dL_law_317 ?_
      refine va_sld hx hb hX hbl hbA w.2.2.2 i2 dL_law_318 ?_
      refine o_backi w hLA (o_runV (As := [.int (xs (nI i + 1).toNatClampNeg), .int (xs (nI i + 2).toNatClampNeg)]) (rest := []) C w (c_X7_join l D G L S x0 (xs (nI i + 1).toNatClampNeg) (xs (nI i + 2).toNatClampNeg) (r, S1) hc1) ml_L_31 mv_X7_join ⟨rfl, rfl, Nat.le_of_ble_eq_true rfl, Nat.le_of_ble_eq_true rfl⟩ ho1 rfl hl.1 rfl (Nat.le_of_ble_eq_true rfl) dL_law_319 hcs) (fun H locs w => ?_)
      refine lv_aload_n hx hb dL_law_322 rfl (lv_at hl 2 rfl) ?_
      refine lv_aload_n hx hb dL_law_323 rfl (lv_at hl 0 rfl) ?_
      refine lv_iload_n hx hb dL_law_324 rfl (lv_at hl 3 rfl) ?_
      refine lv_iconst (v := 1) hx hb dL_law_325 (by decide) ?_
      refine lv_iadd hx hb dL_law_326 ?_
      refine va_sld hx hb hX hbl hbA w.2.2.2 i1 dL_law_327 ?_
      refine lv_aload_n hx hb dL_law_328 rfl (lv_at hl 0 rfl) ?_
      refine lv_iload_n hx hb dL_law_329 rfl (lv_at hl 3 rfl) ?_
      refine lv_iconst (v := 2) hx hb dL_law_330 (by decide) ?_
      refine lv_iadd hx hb dL_law_331 ?_
      refine va_sld hx hb hX hbl hbA w.2.2.2 i2 dL_law_332 ?_
      refine o_backi w hLA (o_runV (As := [.int (xs (nI i + 1).toNatClampNeg), .int (xs (nI i + 2).toNatClampNeg)]) (rest := [.int r]) C w (c_X8_join l D G L S1 m0 (xs (nI i + 1).toNatClampNeg) (xs (nI i + 2).toNatClampNeg) (r, S2) hc2) ml_L_35 mv_X8_join ⟨rfl, rfl, Nat.le_of_ble_eq_true rfl, Nat.le_of_ble_eq_true rfl⟩ ho2 rfl hl.1 rfl (Nat.le_of_ble_eq_true rfl) dL_law_333 hcs) (fun H locs w => ?_)
      refine lv_icmp_eq (tgt := 675) hx hb dL_law_336 (by decide) (fun _ => ?_) (fun cq => absurd rfl cq)
      exact back S2 h5 hI H locs ls w hl
    by_cases cw_5 : sel = 5
    · refine o_sw0 C 5 cw_5 dL_law_32 (by decide) (by decide) rfl (tgt := 341) (by decide) ?_
      obtain ⟨r, S1, ho1, hc1, ho2, hc2, hI⟩ := ag_knows S (xs (nI i + 1).toNatClampNeg) (xs (nI i + 2).toNatClampNeg) (xs (nI i + 3).toNatClampNeg) hI
      refine lv_aload_n hx hb dL_law_341 rfl (lv_at hl 1 rfl) ?_
      refine lv_aload_n hx hb dL_law_342 rfl (lv_at hl 0 rfl) ?_
      refine lv_iload_n hx hb dL_law_343 rfl (lv_at hl 3 rfl) ?_
      refine lv_iconst (v := 1) hx hb dL_law_344 (by decide) ?_
      refine lv_iadd hx hb dL_law_345 ?_
      refine va_sld hx hb hX hbl hbA w.2.2.2 i1 dL_law_346 ?_
      refine lv_aload_n hx hb dL_law_347 rfl (lv_at hl 0 rfl) ?_
      refine lv_iload_n hx hb dL_law_348 rfl (lv_at hl 3 rfl) ?_
      refine lv_iconst (v := 2) hx hb dL_law_349 (by decide) ?_
      refine lv_iadd hx hb dL_law_350 ?_
      refine va_sld hx hb hX hbl hbA w.2.2.2 i2 dL_law_351 ?_
      refine lv_aload_n hx hb dL_law_352 rfl (lv_at hl 0 rfl) ?_
      refine lv_iload_n hx hb dL_law_353 rfl (lv_at hl 3 rfl) ?_
      refine lv_iconst (v := 3) hx hb dL_law_354 (by decide) ?_
      refine lv_iadd hx hb dL_law_355 ?_
      refine va_sld hx hb hX hbl hbA w.2.2.2 i3 dL_law_356 ?_
      refine o_backi w hLA (o_runV (As := [.int (xs (nI i + 1).toNatClampNeg), .int (xs (nI i + 2).toNatClampNeg), .int (xs (nI i + 3).toNatClampNeg)]) (rest := []) C w (c_X7_knows l D G L S x0 (xs (nI i + 1).toNatClampNeg) (xs (nI i + 2).toNatClampNeg) (xs (nI i + 3).toNatClampNeg) (r, S1) hc1) ml_L_36 mv_X7_knows ⟨rfl, rfl, Nat.le_of_ble_eq_true rfl, Nat.le_of_ble_eq_true rfl⟩ ho1 rfl hl.1 rfl (Nat.le_of_ble_eq_true rfl) dL_law_357 hcs) (fun H locs w => ?_)
      refine lv_aload_n hx hb dL_law_360 rfl (lv_at hl 2 rfl) ?_
      refine lv_aload_n hx hb dL_law_361 rfl (lv_at hl 0 rfl) ?_
      refine lv_iload_n hx hb dL_law_362 rfl (lv_at hl 3 rfl) ?_
      refine lv_iconst (v := 1) hx hb dL_law_363 (by decide) ?_
      refine lv_iadd hx hb dL_law_364 ?_
      refine va_sld hx hb hX hbl hbA w.2.2.2 i1 dL_law_365 ?_
      refine lv_aload_n hx hb dL_law_366 rfl (lv_at hl 0 rfl) ?_
      refine lv_iload_n hx hb dL_law_367 rfl (lv_at hl 3 rfl) ?_
      refine lv_iconst (v := 2) hx hb dL_law_368 (by decide) ?_
      refine lv_iadd hx hb dL_law_369 ?_
      refine va_sld hx hb hX hbl hbA w.2.2.2 i2 dL_law_370 ?_
      refine lv_aload_n hx hb dL_law_371 rfl (lv_at hl 0 rfl) ?_
      refine lv_iload_n hx hb dL_law_372 rfl (lv_at hl 3 rfl) ?_
      refine lv_iconst (v := 3) hx hb dL_law_373 (by decide) ?_
      refine lv_iadd hx hb dL_law_374 ?_
      refine va_sld hx hb hX hbl hbA w.2.2.2 i3 dL_law_375 ?_
      refine o_backi w hLA (o_runV (As := [.int (xs (nI i + 1).toNatClampNeg), .int (xs (nI i + 2).toNatClampNeg), .int (xs (nI i + 3).toNatClampNeg)]) (rest := [.int r]) C w (c_X8_knows l D G L S1 m0 (xs (nI i + 1).toNatClampNeg) (xs (nI i + 2).toNatClampNeg) (xs (nI i + 3).toNatClampNeg) r hc2) ml_L_40 mv_X8_knows ⟨rfl, rfl, Nat.le_of_ble_eq_true rfl, Nat.le_of_ble_eq_true rfl⟩ ho2 rfl hl.1 rfl (Nat.le_of_ble_eq_true rfl) dL_law_376 hcs) (fun H locs w => ?_)
      refine lv_icmp_eq (tgt := 675) hx hb dL_law_379 (by decide) (fun _ => ?_) (fun cq => absurd rfl cq)
      exact back S1 h5 hI H locs ls w hl
    by_cases cw_6 : sel = 6
    · refine o_sw0 C 6 cw_6 dL_law_32 (by decide) (by decide) rfl (tgt := 384) (by decide) ?_
      obtain ⟨r, ho1, hc1, ho2, hc2, hI⟩ := ag_tables S (xs (nI i + 1).toNatClampNeg) hI
      refine lv_aload_n hx hb dL_law_384 rfl (lv_at hl 1 rfl) ?_
      refine lv_aload_n hx hb dL_law_385 rfl (lv_at hl 0 rfl) ?_
      refine lv_iload_n hx hb dL_law_386 rfl (lv_at hl 3 rfl) ?_
      refine lv_iconst (v := 1) hx hb dL_law_387 (by decide) ?_
      refine lv_iadd hx hb dL_law_388 ?_
      refine va_sld hx hb hX hbl hbA w.2.2.2 i1 dL_law_389 ?_
      refine o_backi w hLA (o_runV (As := [.int (xs (nI i + 1).toNatClampNeg)]) (rest := []) C w (c_X7_tables l D G L S x0 (xs (nI i + 1).toNatClampNeg) r hc1) ml_L_41 mv_X7_tables ⟨rfl, rfl, Nat.le_of_ble_eq_true rfl, Nat.le_of_ble_eq_true rfl⟩ ho1 rfl hl.1 rfl (Nat.le_of_ble_eq_true rfl) dL_law_390 hcs) (fun H locs w => ?_)
      refine lv_aload_n hx hb dL_law_393 rfl (lv_at hl 2 rfl) ?_
      refine lv_aload_n hx hb dL_law_394 rfl (lv_at hl 0 rfl) ?_
      refine lv_iload_n hx hb dL_law_395 rfl (lv_at hl 3 rfl) ?_
      refine lv_iconst (v := 1) hx hb dL_law_396 (by decide) ?_
      refine lv_iadd hx hb dL_law_397 ?_
      refine va_sld hx hb hX hbl hbA w.2.2.2 i1 dL_law_398 ?_
      refine o_backi w hLA (o_runV (As := [.int (xs (nI i + 1).toNatClampNeg)]) (rest := [.int r]) C w (c_X8_tables l D G L S m0 (xs (nI i + 1).toNatClampNeg) r hc2) ml_L_45 mv_X8_tables ⟨rfl, rfl, Nat.le_of_ble_eq_true rfl, Nat.le_of_ble_eq_true rfl⟩ ho2 rfl hl.1 rfl (Nat.le_of_ble_eq_true rfl) dL_law_399 hcs) (fun H locs w => ?_)
      refine lv_icmp_eq (tgt := 675) hx hb dL_law_402 (by decide) (fun _ => ?_) (fun cq => absurd rfl cq)
      exact back S h5 hI H locs ls w hl
    by_cases cw_7 : sel = 7
    · refine o_sw0 C 7 cw_7 dL_law_32 (by decide) (by decide) rfl (tgt := 407) (by decide) ?_
      obtain ⟨r, S1, S2, ho1, hc1, ho2, hc2, hI⟩ := ag_broken S (xs (nI i + 1).toNatClampNeg) hI
      refine lv_aload_n hx hb dL_law_407 rfl (lv_at hl 1 rfl) ?_
      refine lv_aload_n hx hb dL_law_408 rfl (lv_at hl 0 rfl) ?_
      refine lv_iload_n hx hb dL_law_409 rfl (lv_at hl 3 rfl) ?_
      refine lv_iconst (v := 1) hx hb dL_law_410 (by decide) ?_
      refine lv_iadd hx hb dL_law_411 ?_
      refine va_sld hx hb hX hbl hbA w.2.2.2 i1 dL_law_412 ?_
      refine o_backi w hLA (o_runV (As := [.int (xs (nI i + 1).toNatClampNeg)]) (rest := []) C w (c_X7_broken l D G L S x0 (xs (nI i + 1).toNatClampNeg) (r, S1) hc1) ml_L_46 mv_X7_broken ⟨rfl, rfl, Nat.le_of_ble_eq_true rfl, Nat.le_of_ble_eq_true rfl⟩ ho1 rfl hl.1 rfl (Nat.le_of_ble_eq_true rfl) dL_law_413 hcs) (fun H locs w => ?_)
      refine lv_aload_n hx hb dL_law_416 rfl (lv_at hl 2 rfl) ?_
      refine lv_aload_n hx hb dL_law_417 rfl (lv_at hl 0 rfl) ?_
      refine lv_iload_n hx hb dL_law_418 rfl (lv_at hl 3 rfl) ?_
      refine lv_iconst (v := 1) hx hb dL_law_419 (by decide) ?_
      refine lv_iadd hx hb dL_law_420 ?_
      refine va_sld hx hb hX hbl hbA w.2.2.2 i1 dL_law_421 ?_
      refine o_backi w hLA (o_runV (As := [.int (xs (nI i + 1).toNatClampNeg)]) (rest := [.int r]) C w (c_X8_broken l D G L S1 m0 (xs (nI i + 1).toNatClampNeg) (r, S2) hc2) ml_L_50 mv_X8_broken ⟨rfl, rfl, Nat.le_of_ble_eq_true rfl, Nat.le_of_ble_eq_true rfl⟩ ho2 rfl hl.1 rfl (Nat.le_of_ble_eq_true rfl) dL_law_422 hcs) (fun H locs w => ?_)
      refine lv_icmp_eq (tgt := 675) hx hb dL_law_425 (by decide) (fun _ => ?_) (fun cq => absurd rfl cq)
      exact back S2 h5 hI H locs ls w hl
    by_cases cw_8 : sel = 8
    · refine o_sw0 C 8 cw_8 dL_law_32 (by decide) (by decide) rfl (tgt := 430) (by decide) ?_
      obtain ⟨r, ho1, hc1, ho2, hc2, hI⟩ := ag_tell S (xs (nI i + 1).toNatClampNeg) (xs (nI i + 2).toNatClampNeg) hI
      refine lv_aload_n hx hb dL_law_430 rfl (lv_at hl 1 rfl) ?_
      refine lv_aload_n hx hb dL_law_431 rfl (lv_at hl 0 rfl) ?_
      refine lv_iload_n hx hb dL_law_432 rfl (lv_at hl 3 rfl) ?_
      refine lv_iconst (v := 1) hx hb dL_law_433 (by decide) ?_
      refine lv_iadd hx hb dL_law_434 ?_
      refine va_sld hx hb hX hbl hbA w.2.2.2 i1 dL_law_435 ?_
      refine lv_aload_n hx hb dL_law_436 rfl (lv_at hl 0 rfl) ?_
      refine lv_iload_n hx hb dL_law_437 rfl (lv_at hl 3 rfl) ?_
      refine lv_iconst (v := 2) hx hb dL_law_438 (by decide) ?_
      refine lv_iadd hx hb dL_law_439 ?_
      refine va_sld hx hb hX hbl hbA w.2.2.2 i2 dL_law_440 ?_
      refine o_backi w hLA (o_runV (As := [.int (xs (nI i + 1).toNatClampNeg), .int (xs (nI i + 2).toNatClampNeg)]) (rest := []) C w (c_X7_tell l D G L S x0 (xs (nI i + 1).toNatClampNeg) (xs (nI i + 2).toNatClampNeg) r hc1) ml_L_51 mv_X7_tell ⟨rfl, rfl, Nat.le_of_ble_eq_true rfl, Nat.le_of_ble_eq_true rfl⟩ ho1 rfl hl.1 rfl (Nat.le_of_ble_eq_true rfl) dL_law_441 hcs) (fun H locs w => ?_)
      refine lv_aload_n hx hb dL_law_444 rfl (lv_at hl 2 rfl) ?_
      refine lv_aload_n hx hb dL_law_445 rfl (lv_at hl 0 rfl) ?_
      refine lv_iload_n hx hb dL_law_446 rfl (lv_at hl 3 rfl) ?_
      refine lv_iconst (v := 1) hx hb dL_law_447 (by decide) ?_
      refine lv_iadd hx hb dL_law_448 ?_
      refine va_sld hx hb hX hbl hbA w.2.2.2 i1 dL_law_449 ?_
      refine lv_aload_n hx hb dL_law_450 rfl (lv_at hl 0 rfl) ?_
      refine lv_iload_n hx hb dL_law_451 rfl (lv_at hl 3 rfl) ?_
      refine lv_iconst (v := 2) hx hb dL_law_452 (by decide) ?_
      refine lv_iadd hx hb dL_law_453 ?_
      refine va_sld hx hb hX hbl hbA w.2.2.2 i2 dL_law_454 ?_
      refine o_backi w hLA (o_runV (As := [.int (xs (nI i + 1).toNatClampNeg), .int (xs (nI i + 2).toNatClampNeg)]) (rest := [.int r]) C w (c_X8_tell l D G L S m0 (xs (nI i + 1).toNatClampNeg) (xs (nI i + 2).toNatClampNeg) r hc2) ml_L_54 mv_X8_tell ⟨rfl, rfl, Nat.le_of_ble_eq_true rfl, Nat.le_of_ble_eq_true rfl⟩ ho2 rfl hl.1 rfl (Nat.le_of_ble_eq_true rfl) dL_law_455 hcs) (fun H locs w => ?_)
      refine lv_icmp_eq (tgt := 675) hx hb dL_law_458 (by decide) (fun _ => ?_) (fun cq => absurd rfl cq)
      exact back S h5 hI H locs ls w hl
    by_cases cw_9 : sel = 9
    · refine o_sw0 C 9 cw_9 dL_law_32 (by decide) (by decide) rfl (tgt := 463) (by decide) ?_
      obtain ⟨r, ho1, hc1, ho2, hc2, hI⟩ := ag_asked S (xs (nI i + 1).toNatClampNeg) (xs (nI i + 2).toNatClampNeg) hI
      refine lv_aload_n hx hb dL_law_463 rfl (lv_at hl 1 rfl) ?_
      refine lv_aload_n hx hb dL_law_464 rfl (lv_at hl 0 rfl) ?_
      refine lv_iload_n hx hb dL_law_465 rfl (lv_at hl 3 rfl) ?_
      refine lv_iconst (v := 1) hx hb dL_law_466 (by decide) ?_
      refine lv_iadd hx hb dL_law_467 ?_
      refine va_sld hx hb hX hbl hbA w.2.2.2 i1 dL_law_468 ?_
      refine lv_aload_n hx hb dL_law_469 rfl (lv_at hl 0 rfl) ?_
      refine lv_iload_n hx hb dL_law_470 rfl (lv_at hl 3 rfl) ?_
      refine lv_iconst (v := 2) hx hb dL_law_471 (by decide) ?_
      refine lv_iadd hx hb dL_law_472 ?_
      refine va_sld hx hb hX hbl hbA w.2.2.2 i2 dL_law_473 ?_
      refine o_backi w hLA (o_runV (As := [.int (xs (nI i + 1).toNatClampNeg), .int (xs (nI i + 2).toNatClampNeg)]) (rest := []) C w (c_X7_asked l D G L S x0 (xs (nI i + 1).toNatClampNeg) (xs (nI i + 2).toNatClampNeg) r hc1) ml_L_55 mv_X7_asked ⟨rfl, rfl, Nat.le_of_ble_eq_true rfl, Nat.le_of_ble_eq_true rfl⟩ ho1 rfl hl.1 rfl (Nat.le_of_ble_eq_true rfl) dL_law_474 hcs) (fun H locs w => ?_)
      refine lv_aload_n hx hb dL_law_477 rfl (lv_at hl 2 rfl) ?_
      refine lv_aload_n hx hb dL_law_478 rfl (lv_at hl 0 rfl) ?_
      refine lv_iload_n hx hb dL_law_479 rfl (lv_at hl 3 rfl) ?_
      refine lv_iconst (v := 1) hx hb dL_law_480 (by decide) ?_
      refine lv_iadd hx hb dL_law_481 ?_
      refine va_sld hx hb hX hbl hbA w.2.2.2 i1 dL_law_482 ?_
      refine lv_aload_n hx hb dL_law_483 rfl (lv_at hl 0 rfl) ?_
      refine lv_iload_n hx hb dL_law_484 rfl (lv_at hl 3 rfl) ?_
      refine lv_iconst (v := 2) hx hb dL_law_485 (by decide) ?_
      refine lv_iadd hx hb dL_law_486 ?_
      refine va_sld hx hb hX hbl hbA w.2.2.2 i2 dL_law_487 ?_
      refine o_backi w hLA (o_runV (As := [.int (xs (nI i + 1).toNatClampNeg), .int (xs (nI i + 2).toNatClampNeg)]) (rest := [.int r]) C w (c_X8_asked l D G L S m0 (xs (nI i + 1).toNatClampNeg) (xs (nI i + 2).toNatClampNeg) r hc2) ml_L_58 mv_X8_asked ⟨rfl, rfl, Nat.le_of_ble_eq_true rfl, Nat.le_of_ble_eq_true rfl⟩ ho2 rfl hl.1 rfl (Nat.le_of_ble_eq_true rfl) dL_law_488 hcs) (fun H locs w => ?_)
      refine lv_icmp_eq (tgt := 675) hx hb dL_law_491 (by decide) (fun _ => ?_) (fun cq => absurd rfl cq)
      exact back S h5 hI H locs ls w hl
    by_cases cw_10 : sel = 10
    · refine o_sw0 C 10 cw_10 dL_law_32 (by decide) (by decide) rfl (tgt := 496) (by decide) ?_
      obtain ⟨r, S1, S2, ho1, hc1, ho2, hc2, hI⟩ := ag_wish S (xs (nI i + 1).toNatClampNeg) (xs (nI i + 2).toNatClampNeg) (xs (nI i + 3).toNatClampNeg) hI
      refine lv_aload_n hx hb dL_law_496 rfl (lv_at hl 1 rfl) ?_
      refine lv_aload_n hx hb dL_law_497 rfl (lv_at hl 0 rfl) ?_
      refine lv_iload_n hx hb dL_law_498 rfl (lv_at hl 3 rfl) ?_
      refine lv_iconst (v := 1) hx hb dL_law_499 (by decide) ?_
      refine lv_iadd hx hb dL_law_500 ?_
      refine va_sld hx hb hX hbl hbA w.2.2.2 i1 dL_law_501 ?_
      refine lv_aload_n hx hb dL_law_502 rfl (lv_at hl 0 rfl) ?_
      refine lv_iload_n hx hb dL_law_503 rfl (lv_at hl 3 rfl) ?_
      refine lv_iconst (v := 2) hx hb dL_law_504 (by decide) ?_
      refine lv_iadd hx hb dL_law_505 ?_
      refine va_sld hx hb hX hbl hbA w.2.2.2 i2 dL_law_506 ?_
      refine lv_aload_n hx hb dL_law_507 rfl (lv_at hl 0 rfl) ?_
      refine lv_iload_n hx hb dL_law_508 rfl (lv_at hl 3 rfl) ?_
      refine lv_iconst (v := 3) hx hb dL_law_509 (by decide) ?_
      refine lv_iadd hx hb dL_law_510 ?_
      refine va_sld hx hb hX hbl hbA w.2.2.2 i3 dL_law_511 ?_
      refine o_backi w hLA (o_runV (As := [.int (xs (nI i + 1).toNatClampNeg), .int (xs (nI i + 2).toNatClampNeg), .int (xs (nI i + 3).toNatClampNeg)]) (rest := []) C w (c_X7_wish l D G L S x0 (xs (nI i + 1).toNatClampNeg) (xs (nI i + 2).toNatClampNeg) (xs (nI i + 3).toNatClampNeg) (r, S1) hc1) ml_L_59 mv_X7_wish ⟨rfl, rfl, Nat.le_of_ble_eq_true rfl, Nat.le_of_ble_eq_true rfl⟩ ho1 rfl hl.1 rfl (Nat.le_of_ble_eq_true rfl) dL_law_512 hcs) (fun H locs w => ?_)
      refine lv_aload_n hx hb dL_law_515 rfl (lv_at hl 2 rfl) ?_
      refine lv_aload_n hx hb dL_law_516 rfl (lv_at hl 0 rfl) ?_
      refine lv_iload_n hx hb dL_law_517 rfl (lv_at hl 3 rfl) ?_
      refine lv_iconst (v := 1) hx hb dL_law_518 (by decide) ?_
      refine lv_iadd hx hb dL_law_519 ?_
      refine va_sld hx hb hX hbl hbA w.2.2.2 i1 dL_law_520 ?_
      refine lv_aload_n hx hb dL_law_521 rfl (lv_at hl 0 rfl) ?_
      refine lv_iload_n hx hb dL_law_522 rfl (lv_at hl 3 rfl) ?_
      refine lv_iconst (v := 2) hx hb dL_law_523 (by decide) ?_
      refine lv_iadd hx hb dL_law_524 ?_
      refine va_sld hx hb hX hbl hbA w.2.2.2 i2 dL_law_525 ?_
      refine lv_aload_n hx hb dL_law_526 rfl (lv_at hl 0 rfl) ?_
      refine lv_iload_n hx hb dL_law_527 rfl (lv_at hl 3 rfl) ?_
      refine lv_iconst (v := 3) hx hb dL_law_528 (by decide) ?_
      refine lv_iadd hx hb dL_law_529 ?_
      refine va_sld hx hb hX hbl hbA w.2.2.2 i3 dL_law_530 ?_
      refine o_backi w hLA (o_runV (As := [.int (xs (nI i + 1).toNatClampNeg), .int (xs (nI i + 2).toNatClampNeg), .int (xs (nI i + 3).toNatClampNeg)]) (rest := [.int r]) C w (c_X8_wish l D G L S1 m0 (xs (nI i + 1).toNatClampNeg) (xs (nI i + 2).toNatClampNeg) (xs (nI i + 3).toNatClampNeg) (r, S2) hc2) ml_L_62 mv_X8_wish ⟨rfl, rfl, Nat.le_of_ble_eq_true rfl, Nat.le_of_ble_eq_true rfl⟩ ho2 rfl hl.1 rfl (Nat.le_of_ble_eq_true rfl) dL_law_531 hcs) (fun H locs w => ?_)
      refine lv_icmp_eq (tgt := 675) hx hb dL_law_534 (by decide) (fun _ => ?_) (fun cq => absurd rfl cq)
      exact back S2 h5 hI H locs ls w hl
    by_cases cw_11 : sel = 11
    · refine o_sw0 C 11 cw_11 dL_law_32 (by decide) (by decide) rfl (tgt := 539) (by decide) ?_
      obtain ⟨S1, S2, ho1, hc1, ho2, hc2, hI⟩ := ag_clear S  hI
      refine lv_aload_n hx hb dL_law_539 rfl (lv_at hl 1 rfl) ?_
      refine o_backv w hLA (o_runV (As := []) (rest := []) C w (c_X7_clear l D G L S x0  S1 hc1) ml_L_63 mv_X7_clear ⟨rfl, rfl, Nat.le_of_ble_eq_true rfl, Nat.le_of_ble_eq_true rfl⟩ ho1 rfl hl.1 rfl (Nat.le_of_ble_eq_true rfl) dL_law_540 hcs) (fun H locs w => ?_)
      refine lv_aload_n hx hb dL_law_543 rfl (lv_at hl 2 rfl) ?_
      refine o_backv w hLA (o_runV (As := []) (rest := []) C w (c_X8_clear l D G L S1 m0  S2 hc2) ml_L_66 mv_X8_clear ⟨rfl, rfl, Nat.le_of_ble_eq_true rfl, Nat.le_of_ble_eq_true rfl⟩ ho2 rfl hl.1 rfl (Nat.le_of_ble_eq_true rfl) dL_law_544 hcs) (fun H locs w => ?_)
      refine lv_goto (tgt := 675) hx hb dL_law_547 (by decide) ?_
      exact back S2 h5 hI H locs ls w hl
    by_cases cw_12 : sel = 12
    · refine o_sw0 C 12 cw_12 dL_law_32 (by decide) (by decide) rfl (tgt := 550) (by decide) ?_
      obtain ⟨r, S1, S2, ho1, hc1, ho2, hc2, hI⟩ := ag_most S (xs (nI i + 1).toNatClampNeg) hI
      refine lv_aload_n hx hb dL_law_550 rfl (lv_at hl 1 rfl) ?_
      refine lv_aload_n hx hb dL_law_551 rfl (lv_at hl 0 rfl) ?_
      refine lv_iload_n hx hb dL_law_552 rfl (lv_at hl 3 rfl) ?_
      refine lv_iconst (v := 1) hx hb dL_law_553 (by decide) ?_
      refine lv_iadd hx hb dL_law_554 ?_
      refine va_sld hx hb hX hbl hbA w.2.2.2 i1 dL_law_555 ?_
      refine o_backi w hLA (o_runV (As := [.int (xs (nI i + 1).toNatClampNeg)]) (rest := []) C w (c_X7_most l D G L S x0 (xs (nI i + 1).toNatClampNeg) (r, S1) hc1) ml_L_67 mv_X7_most ⟨rfl, rfl, Nat.le_of_ble_eq_true rfl, Nat.le_of_ble_eq_true rfl⟩ ho1 rfl hl.1 rfl (Nat.le_of_ble_eq_true rfl) dL_law_556 hcs) (fun H locs w => ?_)
      refine lv_aload_n hx hb dL_law_559 rfl (lv_at hl 2 rfl) ?_
      refine lv_aload_n hx hb dL_law_560 rfl (lv_at hl 0 rfl) ?_
      refine lv_iload_n hx hb dL_law_561 rfl (lv_at hl 3 rfl) ?_
      refine lv_iconst (v := 1) hx hb dL_law_562 (by decide) ?_
      refine lv_iadd hx hb dL_law_563 ?_
      refine va_sld hx hb hX hbl hbA w.2.2.2 i1 dL_law_564 ?_
      refine o_backi w hLA (o_runV (As := [.int (xs (nI i + 1).toNatClampNeg)]) (rest := [.int r]) C w (c_X8_most l D G L S1 m0 (xs (nI i + 1).toNatClampNeg) (r, S2) hc2) ml_L_70 mv_X8_most ⟨rfl, rfl, Nat.le_of_ble_eq_true rfl, Nat.le_of_ble_eq_true rfl⟩ ho2 rfl hl.1 rfl (Nat.le_of_ble_eq_true rfl) dL_law_565 hcs) (fun H locs w => ?_)
      refine lv_icmp_eq (tgt := 675) hx hb dL_law_568 (by decide) (fun _ => ?_) (fun cq => absurd rfl cq)
      exact back S2 h5 hI H locs ls w hl
    by_cases cw_13 : sel = 13
    · refine o_sw0 C 13 cw_13 dL_law_32 (by decide) (by decide) rfl (tgt := 573) (by decide) ?_
      obtain ⟨r, S1, S2, ho1, hc1, ho2, hc2, hI⟩ := ag_together S (xs (nI i + 1).toNatClampNeg) (xs (nI i + 2).toNatClampNeg) hI
      refine lv_aload_n hx hb dL_law_573 rfl (lv_at hl 1 rfl) ?_
      refine lv_aload_n hx hb dL_law_574 rfl (lv_at hl 0 rfl) ?_
      refine lv_iload_n hx hb dL_law_575 rfl (lv_at hl 3 rfl) ?_
      refine lv_iconst (v := 1) hx hb dL_law_576 (by decide) ?_
      refine lv_iadd hx hb dL_law_577 ?_
      refine va_sld hx hb hX hbl hbA w.2.2.2 i1 dL_law_578 ?_
      refine lv_aload_n hx hb dL_law_579 rfl (lv_at hl 0 rfl) ?_
      refine lv_iload_n hx hb dL_law_580 rfl (lv_at hl 3 rfl) ?_
      refine lv_iconst (v := 2) hx hb dL_law_581 (by decide) ?_
      refine lv_iadd hx hb dL_law_582 ?_
      refine va_sld hx hb hX hbl hbA w.2.2.2 i2 dL_law_583 ?_
      refine o_backi w hLA (o_runV (As := [.int (xs (nI i + 1).toNatClampNeg), .int (xs (nI i + 2).toNatClampNeg)]) (rest := []) C w (c_X7_together l D G L S x0 (xs (nI i + 1).toNatClampNeg) (xs (nI i + 2).toNatClampNeg) (r, S1) hc1) ml_L_71 mv_X7_together ⟨rfl, rfl, Nat.le_of_ble_eq_true rfl, Nat.le_of_ble_eq_true rfl⟩ ho1 rfl hl.1 rfl (Nat.le_of_ble_eq_true rfl) dL_law_584 hcs) (fun H locs w => ?_)
      refine lv_aload_n hx hb dL_law_587 rfl (lv_at hl 2 rfl) ?_
      refine lv_aload_n hx hb dL_law_588 rfl (lv_at hl 0 rfl) ?_
      refine lv_iload_n hx hb dL_law_589 rfl (lv_at hl 3 rfl) ?_
      refine lv_iconst (v := 1) hx hb dL_law_590 (by decide) ?_
      refine lv_iadd hx hb dL_law_591 ?_
      refine va_sld hx hb hX hbl hbA w.2.2.2 i1 dL_law_592 ?_
      refine lv_aload_n hx hb dL_law_593 rfl (lv_at hl 0 rfl) ?_
      refine lv_iload_n hx hb dL_law_594 rfl (lv_at hl 3 rfl) ?_
      refine lv_iconst (v := 2) hx hb dL_law_595 (by decide) ?_
      refine lv_iadd hx hb dL_law_596 ?_
      refine va_sld hx hb hX hbl hbA w.2.2.2 i2 dL_law_597 ?_
      refine o_backi w hLA (o_runV (As := [.int (xs (nI i + 1).toNatClampNeg), .int (xs (nI i + 2).toNatClampNeg)]) (rest := [.int r]) C w (c_X8_together l D G L S1 m0 (xs (nI i + 1).toNatClampNeg) (xs (nI i + 2).toNatClampNeg) (r, S2) hc2) ml_L_74 mv_X8_together ⟨rfl, rfl, Nat.le_of_ble_eq_true rfl, Nat.le_of_ble_eq_true rfl⟩ ho2 rfl hl.1 rfl (Nat.le_of_ble_eq_true rfl) dL_law_598 hcs) (fun H locs w => ?_)
      refine lv_icmp_eq (tgt := 675) hx hb dL_law_601 (by decide) (fun _ => ?_) (fun cq => absurd rfl cq)
      exact back S2 h5 hI H locs ls w hl
    by_cases cw_14 : sel = 14
    · refine o_sw0 C 14 cw_14 dL_law_32 (by decide) (by decide) rfl (tgt := 606) (by decide) ?_
      obtain ⟨r, ho1, hc1, ho2, hc2, hI⟩ := ag_count S (xs (nI i + 1).toNatClampNeg) hI
      refine lv_aload_n hx hb dL_law_606 rfl (lv_at hl 1 rfl) ?_
      refine lv_aload_n hx hb dL_law_607 rfl (lv_at hl 0 rfl) ?_
      refine lv_iload_n hx hb dL_law_608 rfl (lv_at hl 3 rfl) ?_
      refine lv_iconst (v := 1) hx hb dL_law_609 (by decide) ?_
      refine lv_iadd hx hb dL_law_610 ?_
      refine va_sld hx hb hX hbl hbA w.2.2.2 i1 dL_law_611 ?_
      refine o_backi w hLA (o_runV (As := [.int (xs (nI i + 1).toNatClampNeg)]) (rest := []) C w (c_X7_count l D G L S x0 (xs (nI i + 1).toNatClampNeg) r hc1) ml_L_75 mv_X7_count ⟨rfl, rfl, Nat.le_of_ble_eq_true rfl, Nat.le_of_ble_eq_true rfl⟩ ho1 rfl hl.1 rfl (Nat.le_of_ble_eq_true rfl) dL_law_612 hcs) (fun H locs w => ?_)
      refine lv_aload_n hx hb dL_law_615 rfl (lv_at hl 2 rfl) ?_
      refine lv_aload_n hx hb dL_law_616 rfl (lv_at hl 0 rfl) ?_
      refine lv_iload_n hx hb dL_law_617 rfl (lv_at hl 3 rfl) ?_
      refine lv_iconst (v := 1) hx hb dL_law_618 (by decide) ?_
      refine lv_iadd hx hb dL_law_619 ?_
      refine va_sld hx hb hX hbl hbA w.2.2.2 i1 dL_law_620 ?_
      refine o_backi w hLA (o_runV (As := [.int (xs (nI i + 1).toNatClampNeg)]) (rest := [.int r]) C w (c_X8_count l D G L S m0 (xs (nI i + 1).toNatClampNeg) r hc2) ml_L_78 mv_X8_count ⟨rfl, rfl, Nat.le_of_ble_eq_true rfl, Nat.le_of_ble_eq_true rfl⟩ ho2 rfl hl.1 rfl (Nat.le_of_ble_eq_true rfl) dL_law_621 hcs) (fun H locs w => ?_)
      refine lv_icmp_eq (tgt := 675) hx hb dL_law_624 (by decide) (fun _ => ?_) (fun cq => absurd rfl cq)
      exact back S h5 hI H locs ls w hl
    by_cases cw_15 : sel = 15
    · refine o_sw0 C 15 cw_15 dL_law_32 (by decide) (by decide) rfl (tgt := 629) (by decide) ?_
      obtain ⟨r, S1, S2, ho1, hc1, ho2, hc2, hI⟩ := ag_image S (xs (nI i + 1).toNatClampNeg) hI
      refine lv_aload_n hx hb dL_law_629 rfl (lv_at hl 1 rfl) ?_
      refine lv_aload_n hx hb dL_law_630 rfl (lv_at hl 0 rfl) ?_
      refine lv_iload_n hx hb dL_law_631 rfl (lv_at hl 3 rfl) ?_
      refine lv_iconst (v := 1) hx hb dL_law_632 (by decide) ?_
      refine lv_iadd hx hb dL_law_633 ?_
      refine va_sld hx hb hX hbl hbA w.2.2.2 i1 dL_law_634 ?_
      refine o_backi w hLA (o_runV (As := [.int (xs (nI i + 1).toNatClampNeg)]) (rest := []) C w (c_X7_image l D G L S x0 (xs (nI i + 1).toNatClampNeg) (r, S1) hc1) ml_L_79 mv_X7_image ⟨rfl, rfl, Nat.le_of_ble_eq_true rfl, Nat.le_of_ble_eq_true rfl⟩ ho1 rfl hl.1 rfl (Nat.le_of_ble_eq_true rfl) dL_law_635 hcs) (fun H locs w => ?_)
      refine lv_aload_n hx hb dL_law_638 rfl (lv_at hl 2 rfl) ?_
      refine lv_aload_n hx hb dL_law_639 rfl (lv_at hl 0 rfl) ?_
      refine lv_iload_n hx hb dL_law_640 rfl (lv_at hl 3 rfl) ?_
      refine lv_iconst (v := 1) hx hb dL_law_641 (by decide) ?_
      refine lv_iadd hx hb dL_law_642 ?_
      refine va_sld hx hb hX hbl hbA w.2.2.2 i1 dL_law_643 ?_
      refine o_backi w hLA (o_runV (As := [.int (xs (nI i + 1).toNatClampNeg)]) (rest := [.int r]) C w (c_X8_image l D G L S1 m0 (xs (nI i + 1).toNatClampNeg) (r, S2) hc2) ml_L_82 mv_X8_image ⟨rfl, rfl, Nat.le_of_ble_eq_true rfl, Nat.le_of_ble_eq_true rfl⟩ ho2 rfl hl.1 rfl (Nat.le_of_ble_eq_true rfl) dL_law_644 hcs) (fun H locs w => ?_)
      refine lv_icmp_eq (tgt := 675) hx hb dL_law_647 (by decide) (fun _ => ?_) (fun cq => absurd rfl cq)
      exact back S2 h5 hI H locs ls w hl
    by_cases cw_16 : sel = 16
    · refine o_sw0 C 16 cw_16 dL_law_32 (by decide) (by decide) rfl (tgt := 652) (by decide) ?_
      obtain ⟨r, S1, S2, ho1, hc1, ho2, hc2, hI⟩ := ag_again S (xs (nI i + 1).toNatClampNeg) hI
      refine lv_aload_n hx hb dL_law_652 rfl (lv_at hl 1 rfl) ?_
      refine lv_aload_n hx hb dL_law_653 rfl (lv_at hl 0 rfl) ?_
      refine lv_iload_n hx hb dL_law_654 rfl (lv_at hl 3 rfl) ?_
      refine lv_iconst (v := 1) hx hb dL_law_655 (by decide) ?_
      refine lv_iadd hx hb dL_law_656 ?_
      refine va_sld hx hb hX hbl hbA w.2.2.2 i1 dL_law_657 ?_
      refine o_backi w hLA (o_runV (As := [.int (xs (nI i + 1).toNatClampNeg)]) (rest := []) C w (c_X7_again l D G L S x0 (xs (nI i + 1).toNatClampNeg) (r, S1) hc1) ml_L_83 mv_X7_again ⟨rfl, rfl, Nat.le_of_ble_eq_true rfl, Nat.le_of_ble_eq_true rfl⟩ ho1 rfl hl.1 rfl (Nat.le_of_ble_eq_true rfl) dL_law_658 hcs) (fun H locs w => ?_)
      refine lv_aload_n hx hb dL_law_661 rfl (lv_at hl 2 rfl) ?_
      refine lv_aload_n hx hb dL_law_662 rfl (lv_at hl 0 rfl) ?_
      refine lv_iload_n hx hb dL_law_663 rfl (lv_at hl 3 rfl) ?_
      refine lv_iconst (v := 1) hx hb dL_law_664 (by decide) ?_
      refine lv_iadd hx hb dL_law_665 ?_
      refine va_sld hx hb hX hbl hbA w.2.2.2 i1 dL_law_666 ?_
      refine o_backi w hLA (o_runV (As := [.int (xs (nI i + 1).toNatClampNeg)]) (rest := [.int r]) C w (c_X8_again l D G L S1 m0 (xs (nI i + 1).toNatClampNeg) (r, S2) hc2) ml_L_86 mv_X8_again ⟨rfl, rfl, Nat.le_of_ble_eq_true rfl, Nat.le_of_ble_eq_true rfl⟩ ho2 rfl hl.1 rfl (Nat.le_of_ble_eq_true rfl) dL_law_667 hcs) (fun H locs w => ?_)
      refine lv_icmp_eq (tgt := 675) hx hb dL_law_670 (by decide) (fun _ => ?_) (fun cq => absurd rfl cq)
      exact back S2 h5 hI H locs ls w hl
    have cx0 := lv_neT (k := 0) (a := 0) cw_0 (by decide)
    have cx1 := lv_neT (k := 1) (a := 1) cw_1 (by decide)
    have cx2 := lv_neT (k := 2) (a := 2) cw_2 (by decide)
    have cx3 := lv_neT (k := 3) (a := 3) cw_3 (by decide)
    have cx4 := lv_neT (k := 4) (a := 4) cw_4 (by decide)
    have cx5 := lv_neT (k := 5) (a := 5) cw_5 (by decide)
    have cx6 := lv_neT (k := 6) (a := 6) cw_6 (by decide)
    have cx7 := lv_neT (k := 7) (a := 7) cw_7 (by decide)
    have cx8 := lv_neT (k := 8) (a := 8) cw_8 (by decide)
    have cx9 := lv_neT (k := 9) (a := 9) cw_9 (by decide)
    have cx10 := lv_neT (k := 10) (a := 10) cw_10 (by decide)
    have cx11 := lv_neT (k := 11) (a := 11) cw_11 (by decide)
    have cx12 := lv_neT (k := 12) (a := 12) cw_12 (by decide)
    have cx13 := lv_neT (k := 13) (a := 13) cw_13 (by decide)
    have cx14 := lv_neT (k := 14) (a := 14) cw_14 (by decide)
    have cx15 := lv_neT (k := 15) (a := 15) cw_15 (by decide)
    have cx16 := lv_neT (k := 16) (a := 16) cw_16 (by decide)
    refine lv_tableOut (tgt := 675) hx hb dL_law_32 (by omega) (by decide) ?_
    exact back S h5 hI H locs ls w hl
