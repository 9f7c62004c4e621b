def f_X0_add (S : PH) (v0 : Nat) (v1 : Int32) (v2 : Int32) (v3 : Int32) (v4 : Int32) (v5 : Int32) : Option (PH) :=
(gR S v0 0 0).bind fun x1 =>
(ldR 1 S x1 (0 : Int32)).bind fun x2 =>
(gI S v0 0 1).bind fun x3 =>
(stI S x2 x3 v1).bind fun S4 =>
(gR S4 v0 0 0).bind fun x5 =>
(ldR 1 S4 x5 (1 : Int32)).bind fun x6 =>
(gI S4 v0 0 1).bind fun x7 =>
(stI S4 x6 x7 v2).bind fun S8 =>
(gR S8 v0 0 0).bind fun x9 =>
(ldR 1 S8 x9 (2 : Int32)).bind fun x10 =>
(gI S8 v0 0 1).bind fun x11 =>
(stI S8 x10 x11 v3).bind fun S12 =>
(gR S12 v0 0 0).bind fun x13 =>
(ldR 1 S12 x13 (3 : Int32)).bind fun x14 =>
(gI S12 v0 0 1).bind fun x15 =>
(stI S12 x14 x15 v4).bind fun S16 =>
(gR S16 v0 0 0).bind fun x17 =>
(ldR 1 S16 x17 (4 : Int32)).bind fun x18 =>
(gI S16 v0 0 1).bind fun x19 =>
(stI S16 x18 x19 v5).bind fun S20 =>
(gI S20 v0 0 1).bind fun x21 =>
(pI S20 v0 0 1 (x21 + (1 : Int32))).bind fun S22 =>
if v5 = (-2 : Int32) then (
(gI S22 v0 0 2).bind fun x23 =>
(pI S22 v0 0 2 (x23 + (1 : Int32))).bind fun S24 =>
some S24)
else (
some S22)
set_option maxHeartbeats 4000000 in
set_option maxRecDepth 100000 in
theorem w_X0_add {p : Program} {l : Launch} {e : Env} {R : Room} {s : State} {m : MethodId} {args : Array Value} {below : List Frame} {meth : Method} {c : Code} {cells slots : Nat} {Q : State → Prop} {D : va_G} {G : Nat → ClassId} {L : List Nat} {A : Nat → Prop} {H0 : Heap} (C : CX p s m c args D G cX0_add 6 RX0) (hLA : ∀ q ∈ L, A q) (hcs : cells ≤ R.cells ∧ slots ≤ R.slots)  (S : PH) (v0 : Nat) (v1 : Int32) (v2 : Int32) (v3 : Int32) (v4 : Int32) (v5 : Int32) (r : PH) (h : f_X0_add S v0 v1 v2 v3 v4 v5 = some r) (hret : ∀ (S9 : PH) (H : Heap) (locs : List Loc) (ls : Array Slot) (pc : Nat), Wd D G L A H0 S9 H locs → S9 = r → decode cX0_add pc = .ok (.return_, 1) → W p l e R s m args below meth c H locs cells slots Q (F0 m pc ls [])) : ∀ (H : Heap) (locs : List Loc) (ls : Array Slot), Wd D G L A H0 S H locs → lv_has ls 6 [(0, .ref v0), (1, .int v1), (2, .int v2), (3, .int v3), (4, .int v4), (5, .int v5)] → W p l e R s m args below meth c H locs cells slots Q (F0 m 0 ls []) := by
  have hx := C.1.1
  have hb := C.1.2.1
  unfold f_X0_add at h
  intro H locs ls w hl
  refine lv_aload_n hx hb dX0_add_0 rfl (lv_at hl 0 rfl) ?_
  obtain ⟨x1, hx1, h⟩ := bs h
  refine o_gR C w hx1 fl_X0_11 dX0_add_1 ?_
  refine lv_iconst (v := 0) hx hb dX0_add_4 (by decide) ?_
  obtain ⟨x2, hx2, h⟩ := bs h
  refine o_ldR1 C w hx2 dX0_add_5 ?_
  refine lv_aload_n hx hb dX0_add_6 rfl (lv_at hl 0 rfl) ?_
  obtain ⟨x3, hx3, h⟩ := bs h
  refine o_gI C w hx3 fl_X0_16 dX0_add_7 ?_
  refine lv_iload_n hx hb dX0_add_10 rfl (lv_at hl 1 rfl) ?_
  obtain ⟨S4, hS4, h⟩ := bs h
  refine o_stI C w hS4 dX0_add_11 (fun H locs w => ?_)
  refine lv_aload_n hx hb dX0_add_12 rfl (lv_at hl 0 rfl) ?_
  obtain ⟨x5, hx5, h⟩ := bs h
  refine o_gR C w hx5 fl_X0_11 dX0_add_13 ?_
  refine lv_iconst (v := 1) hx hb dX0_add_16 (by decide) ?_
  obtain ⟨x6, hx6, h⟩ := bs h
  refine o_ldR1 C w hx6 dX0_add_17 ?_
  refine lv_aload_n hx hb dX0_add_18 rfl (lv_at hl 0 rfl) ?_
  obtain ⟨x7, hx7, h⟩ := bs h
  refine o_gI C w hx7 fl_X0_16 dX0_add_19 ?_
  refine lv_iload_n hx hb dX0_add_22 rfl (lv_at hl 2 rfl) ?_
  obtain ⟨S8, hS8, h⟩ := bs h
  refine o_stI C w hS8 dX0_add_23 (fun H locs w => ?_)
  refine lv_aload_n hx hb dX0_add_24 rfl (lv_at hl 0 rfl) ?_
  obtain ⟨x9, hx9, h⟩ := bs h
  refine o_gR C w hx9 fl_X0_11 dX0_add_25 ?_
  refine lv_iconst (v := 2) hx hb dX0_add_28 (by decide) ?_
  obtain ⟨x10, hx10, h⟩ := bs h
  refine o_ldR1 C w hx10 dX0_add_29 ?_
  refine lv_aload_n hx hb dX0_add_30 rfl (lv_at hl 0 rfl) ?_
  obtain ⟨x11, hx11, h⟩ := bs h
  refine o_gI C w hx11 fl_X0_16 dX0_add_31 ?_
  refine lv_iload_n hx hb dX0_add_34 rfl (lv_at hl 3 rfl) ?_
  obtain ⟨S12, hS12, h⟩ := bs h
  refine o_stI C w hS12 dX0_add_35 (fun H locs w => ?_)
  refine lv_aload_n hx hb dX0_add_36 rfl (lv_at hl 0 rfl) ?_
  obtain ⟨x13, hx13, h⟩ := bs h
  refine o_gR C w hx13 fl_X0_11 dX0_add_37 ?_
  refine lv_iconst (v := 3) hx hb dX0_add_40 (by decide) ?_
  obtain ⟨x14, hx14, h⟩ := bs h
  refine o_ldR1 C w hx14 dX0_add_41 ?_
  refine lv_aload_n hx hb dX0_add_42 rfl (lv_at hl 0 rfl) ?_
  obtain ⟨x15, hx15, h⟩ := bs h
  refine o_gI C w hx15 fl_X0_16 dX0_add_43 ?_
  refine lv_iload hx hb dX0_add_46 (lv_at hl 4 rfl) ?_
  obtain ⟨S16, hS16, h⟩ := bs h
  refine o_stI C w hS16 dX0_add_48 (fun H locs w => ?_)
  refine lv_aload_n hx hb dX0_add_49 rfl (lv_at hl 0 rfl) ?_
  obtain ⟨x17, hx17, h⟩ := bs h
  refine o_gR C w hx17 fl_X0_11 dX0_add_50 ?_
  refine lv_iconst (v := 4) hx hb dX0_add_53 (by decide) ?_
  obtain ⟨x18, hx18, h⟩ := bs h
  refine o_ldR1 C w hx18 dX0_add_54 ?_
  refine lv_aload_n hx hb dX0_add_55 rfl (lv_at hl 0 rfl) ?_
  obtain ⟨x19, hx19, h⟩ := bs h
  refine o_gI C w hx19 fl_X0_16 dX0_add_56 ?_
  refine lv_iload hx hb dX0_add_59 (lv_at hl 5 rfl) ?_
  obtain ⟨S20, hS20, h⟩ := bs h
  refine o_stI C w hS20 dX0_add_61 (fun H locs w => ?_)
  refine lv_aload_n hx hb dX0_add_62 rfl (lv_at hl 0 rfl) ?_
  refine lv_dup hx hb dX0_add_63 rfl ?_
  obtain ⟨x21, hx21, h⟩ := bs h
  refine o_gI C w hx21 fl_X0_16 dX0_add_64 ?_
  refine lv_iconst (v := 1) hx hb dX0_add_67 (by decide) ?_
  refine lv_iadd hx hb dX0_add_68 ?_
  obtain ⟨S22, hS22, h⟩ := bs h
  refine o_pF C w hS22 fp_X0_16 rfl rfl dX0_add_69 (fun H locs w => ?_)
  refine lv_iload hx hb dX0_add_72 (lv_at hl 5 rfl) ?_
  refine lv_bipush (v := -2) hx hb dX0_add_74 (by decide) ?_
  refine lv_icmp_ne (tgt := 89) hx hb dX0_add_76 (by decide) (fun cc76 => ?_) (fun cc76 => ?_)
  · have h := ie cc76 h
    exact hret _ _ _ _ _ w (Option.some.inj h) dX0_add_89
  · have h := it cc76 h
    refine lv_aload_n hx hb dX0_add_79 rfl (lv_at hl 0 rfl) ?_
    refine lv_dup hx hb dX0_add_80 rfl ?_
    obtain ⟨x23, hx23, h⟩ := bs h
    refine o_gI C w hx23 fl_X0_20 dX0_add_81 ?_
    refine lv_iconst (v := 1) hx hb dX0_add_84 (by decide) ?_
    refine lv_iadd hx hb dX0_add_85 ?_
    obtain ⟨S24, hS24, h⟩ := bs h
    refine o_pF C w hS24 fp_X0_20 rfl rfl dX0_add_86 (fun H locs w => ?_)
    exact hret _ _ _ _ _ w (Option.some.inj h) dX0_add_89
set_option maxHeartbeats 4000000 in
set_option maxRecDepth 100000 in
theorem c_X0_add (l : Launch) (D : va_G) (G : Nat → ClassId) (L : List Nat) (S : PH) (v0 : Nat) (v1 : Int32) (v2 : Int32) (v3 : Int32) (v4 : Int32) (v5 : Int32) (r : PH) (h : f_X0_add S v0 v1 v2 v3 v4 v5 = some r) : Met l yX0_add [Cond.code yX0_add cX0_add 6 none] ({ frames := 0, cells := 0, slots := 0, locals := 0 }) (va_Pc [.ref v0, .int v1, .int v2, .int v3, .int v4, .int v5] (PreU D G L S)) (Qv D G L r) 0 0 (inL L) := by
  refine Met.ofW (cc := cX0_add) (maxL := 6) (ret := none) (by decide) rfl ?_
  intro p e s m args below meth c s₁ B hml hv
  obtain ⟨rfl, hpre⟩ := hv
  obtain ⟨C, w⟩ := o_ent (own := RX0) rfl B hml hpre
  have hl := lv_entry ([.ref v0, .int v1, .int v2, .int v3, .int v4, .int v5]) (n := 6) (Nat.le_of_ble_eq_true rfl)
  rw [lg_entry_eq]
  generalize (lg_sl ([.ref v0, .int v1, .int v2, .int v3, .int v4, .int v5]) ++ List.replicate (6 - (lg_sl ([.ref v0, .int v1, .int v2, .int v3, .int v4, .int v5])).length) Slot.unset).toArray = ls at hl ⊢
  exact w_X0_add C (fun _ h => h) ⟨Nat.zero_le _, Nat.zero_le _⟩  S v0 v1 v2 v3 v4 v5 r h (fun S9 H locs ls pc w hv hd => by subst hv; exact o_vret C w B.returns B.notSynchronized hd) _ _ _ w hl

def f_X0_copyFrom_L2 (S : PH) (v0 : Nat) (v1 : Nat) (v2 : Int32) : Option ((Int32 × PH) ⊕ (PH)) :=
if (5 : Int32) ≤ v2 then (
some (.inr S))
else (
(gR S v1 0 0).bind fun x1 =>
(ldR 1 S x1 v2).bind fun x2 =>
(gR S v0 0 0).bind fun x3 =>
(ldR 1 S x3 v2).bind fun x4 =>
(cpI S x2 (0 : Int32) x4 (0 : Int32) (200 : Int32)).bind fun S5 =>
some (.inl ((v2 + 1), S5)))
def f_X0_copyFrom (S : PH) (v0 : Nat) (v1 : Nat) : Option (PH) :=
(lpo (fun x : Int32 × PH => f_X0_copyFrom_L2 x.2 v0 v1 x.1) FU ((0 : Int32), S)).bind fun S6 =>
(gI S6 v1 0 1).bind fun x7 =>
(pI S6 v0 0 1 x7).bind fun S8 =>
(gI S8 v1 0 2).bind fun x9 =>
(pI S8 v0 0 2 x9).bind fun S10 =>
some S10
set_option maxHeartbeats 4000000 in
set_option maxRecDepth 100000 in
theorem w_X0_copyFrom {p : Program} {l : Launch} {e : Env} {R : Room} {s : State} {m : MethodId} {args : Array Value} {below : List Frame} {meth : Method} {c : Code} {cells slots : Nat} {Q : State → Prop} {D : va_G} {G : Nat → ClassId} {L : List Nat} {A : Nat → Prop} {H0 : Heap} (C : CX p s m c args D G cX0_copyFrom 3 RX0) (hLA : ∀ q ∈ L, A q) (hcs : cells ≤ R.cells ∧ slots ≤ R.slots) (hRm : 1 ≤ R.frames ∧ 40 ≤ R.locals)  (S : PH) (v0 : Nat) (v1 : Nat) (r : PH) (h : f_X0_copyFrom S v0 v1 = some r) (hret : ∀ (S9 : PH) (H : Heap) (locs : List Loc) (ls : Array Slot) (pc : Nat), Wd D G L A H0 S9 H locs → S9 = r → decode cX0_copyFrom pc = .ok (.return_, 1) → W p l e R s m args below meth c H locs cells slots Q (F0 m pc ls [])) : ∀ (H : Heap) (locs : List Loc) (ls : Array Slot), Wd D G L A H0 S H locs → lv_has ls 3 [(0, .ref v0), (1, .ref v1)] → W p l e R s m args below meth c H locs cells slots Q (F0 m 0 ls []) := by
  have hx := C.1.1
  have hb := C.1.2.1
  unfold f_X0_copyFrom at h
  intro H locs ls w hl
  refine lv_iconst (v := 0) hx hb dX0_copyFrom_0 (by decide) ?_
  refine lv_istore_n (lv' := [(2, .int (0 : Int32)), (0, .ref v0), (1, .ref v1)]) hx hb dX0_copyFrom_1 rfl hl (by decide) rfl (fun ls hl => ?_)
  obtain ⟨S6, hL2, h⟩ := bs h
  have hE2 : ∀ (q11 : PH), S6 = q11 → ∀ (H : Heap) (locs : List Loc) (ls : Array Slot), Wd D G L A H0 q11 H locs → lv_has ls 3 [(0, .ref v0), (1, .ref v1)] → W p l e R s m args below meth c H locs cells slots Q (F0 m 33 ls []) := by
    intro q11 he
    cases he
    intro H locs ls w hl
    refine lv_aload_n hx hb dX0_copyFrom_33 rfl (lv_at hl 0 rfl) ?_
    refine lv_aload_n hx hb dX0_copyFrom_34 rfl (lv_at hl 1 rfl) ?_
    obtain ⟨x7, hx7, h⟩ := bs h
    refine o_gI C w hx7 fl_X0_16 dX0_copyFrom_35 ?_
    obtain ⟨S8, hS8, h⟩ := bs h
    refine o_pF C w hS8 fp_X0_16 rfl rfl dX0_copyFrom_38 (fun H locs w => ?_)
    refine lv_aload_n hx hb dX0_copyFrom_41 rfl (lv_at hl 0 rfl) ?_
    refine lv_aload_n hx hb dX0_copyFrom_42 rfl (lv_at hl 1 rfl) ?_
    obtain ⟨x9, hx9, h⟩ := bs h
    refine o_gI C w hx9 fl_X0_20 dX0_copyFrom_43 ?_
    obtain ⟨S10, hS10, h⟩ := bs h
    refine o_pF C w hS10 fp_X0_20 rfl rfl dX0_copyFrom_46 (fun H locs w => ?_)
    exact hret _ _ _ _ _ w (Option.some.inj h) dX0_copyFrom_49
  refine lpo_W (P := fun x : Int32 × PH => ∀ (H : Heap) (locs : List Loc) (ls : Array Slot), Wd D G L A H0 x.2 H locs → lv_has ls 3 [(0, .ref v0), (1, .ref v1), (2, .int x.1)] → W p l e R s m args below meth c H locs cells slots Q (F0 m 2 ls [])) ?_ FU _ hL2 H locs ls w (lv_sub hl [1, 2, 0] rfl)
  intro x y2 h hnext2 hend2
  obtain ⟨t12, S13⟩ := x
  have h : f_X0_copyFrom_L2 S13 v0 v1 t12 = some y2 := h
  unfold f_X0_copyFrom_L2 at h
  intro H locs ls w hl
  have hl : lv_has ls 3 [(0, .ref v0), (1, .ref v1), (2, .int t12)] := hl
  have w : Wd D G L A H0 S13 H locs := w
  refine lv_iload_n hx hb dX0_copyFrom_2 rfl (lv_at hl 2 rfl) ?_
  refine lv_iconst (v := 5) hx hb dX0_copyFrom_3 (by decide) ?_
  refine lv_icmp_ge (tgt := 33) hx hb dX0_copyFrom_4 (by decide) (fun cc4 => ?_) (fun cc4 => ?_)
  · have h := it cc4 h
    exact hE2 _ (hend2 _ (Option.some.inj h).symm).symm H locs ls w (lv_sub hl [0, 1] rfl)
  · have h := ie cc4 h
    refine lv_aload_n hx hb dX0_copyFrom_7 rfl (lv_at hl 1 rfl) ?_
    obtain ⟨x14, hx14, h⟩ := bs h
    refine o_gR C w hx14 fl_X0_11 dX0_copyFrom_8 ?_
    refine lv_iload_n hx hb dX0_copyFrom_11 rfl (lv_at hl 2 rfl) ?_
    obtain ⟨x15, hx15, h⟩ := bs h
    refine o_ldR1 C w hx15 dX0_copyFrom_12 ?_
    refine lv_iconst (v := 0) hx hb dX0_copyFrom_13 (by decide) ?_
    refine lv_aload_n hx hb dX0_copyFrom_14 rfl (lv_at hl 0 rfl) ?_
    obtain ⟨x16, hx16, h⟩ := bs h
    refine o_gR C w hx16 fl_X0_11 dX0_copyFrom_15 ?_
    refine lv_iload_n hx hb dX0_copyFrom_18 rfl (lv_at hl 2 rfl) ?_
    obtain ⟨x17, hx17, h⟩ := bs h
    refine o_ldR1 C w hx17 dX0_copyFrom_19 ?_
    refine lv_iconst (v := 0) hx hb dX0_copyFrom_20 (by decide) ?_
    refine lv_sipush (v := 200) hx hb dX0_copyFrom_21 (by decide) ?_
    obtain ⟨S18, hS18, h⟩ := bs h
    refine o_cpI C w hl.1 hS18 kac_X0_23 kac_n kac_s kac_i hRm.1 (Nat.le_trans (Nat.le_of_ble_eq_true rfl) hRm.2) dX0_copyFrom_24 (fun H locs w => ?_)
    refine lv_iinc (v := (t12 + 1)) (lv' := [(2, .int (t12 + 1)), (0, .ref v0), (1, .ref v1)]) hx hb dX0_copyFrom_27 hl (k := 2) rfl rfl (by decide) rfl (fun ls hl => ?_)
    refine lv_goto (tgt := 2) hx hb dX0_copyFrom_30 (by decide) ?_
    exact hnext2 _ (Option.some.inj h).symm H locs ls w (lv_sub hl [1, 2, 0] rfl)
set_option maxHeartbeats 4000000 in
set_option maxRecDepth 100000 in
theorem c_X0_copyFrom (l : Launch) (D : va_G) (G : Nat → ClassId) (L : List Nat) (S : PH) (v0 : Nat) (v1 : Nat) (r : PH) (h : f_X0_copyFrom S v0 v1 = some r) : Met l yX0_copyFrom [Cond.code yX0_copyFrom cX0_copyFrom 3 none] ({ frames := 1, cells := 0, slots := 0, locals := 40 }) (va_Pc [.ref v0, .ref v1] (PreU D G L S)) (Qv D G L r) 0 0 (inL L) := by
  refine Met.ofW (cc := cX0_copyFrom) (maxL := 3) (ret := none) (by decide) rfl ?_
  intro p e s m args below meth c s₁ B hml hv
  obtain ⟨rfl, hpre⟩ := hv
  obtain ⟨C, w⟩ := o_ent (own := RX0) rfl B hml hpre
  have hl := lv_entry ([.ref v0, .ref v1]) (n := 3) (Nat.le_of_ble_eq_true rfl)
  rw [lg_entry_eq]
  generalize (lg_sl ([.ref v0, .ref v1]) ++ List.replicate (3 - (lg_sl ([.ref v0, .ref v1])).length) Slot.unset).toArray = ls at hl ⊢
  exact w_X0_copyFrom C (fun _ h => h) ⟨Nat.zero_le _, Nat.zero_le _⟩ ⟨Nat.le_of_ble_eq_true rfl, Nat.le_of_ble_eq_true rfl⟩  S v0 v1 r h (fun S9 H locs ls pc w hv hd => by subst hv; exact o_vret C w B.returns B.notSynchronized hd) _ _ _ w hl

def f_X1_holds (S : PH) (v0 : Nat) (v1 : Int32) : Option (Int32) :=
(ldJ S v0 (v1 / (64 : Int32))).bind fun x1 =>
if (lg_cmp ((x1.toUInt64 >>> ((v1 - v1 / (64 : Int32) * (64 : Int32)).toInt64.toUInt64 &&& Int64.toUInt64 63)).toInt64 &&& (1 : Int64)) (0 : Int64)) = 0 then (
some (0 : Int32))
else (
some (1 : Int32))
set_option maxHeartbeats 4000000 in
set_option maxRecDepth 100000 in
theorem w_X1_holds {p : Program} {l : Launch} {e : Env} {R : Room} {s : State} {m : MethodId} {args : Array Value} {below : List Frame} {meth : Method} {c : Code} {cells slots : Nat} {Q : State → Prop} {D : va_G} {G : Nat → ClassId} {L : List Nat} {A : Nat → Prop} {H0 : Heap} (C : CX p s m c args D G cX1_holds 2 RX1) (hLA : ∀ q ∈ L, A q) (hcs : cells ≤ R.cells ∧ slots ≤ R.slots)  (S : PH) (v0 : Nat) (v1 : Int32) (r : Int32) (h : f_X1_holds S v0 v1 = some r) (hret : ∀ (v : Int32) (H : Heap) (locs : List Loc) (ls : Array Slot) (pc : Nat), Wd D G L A H0 S H locs → narrow .boolean (.int v) = .int v → v = r → decode cX1_holds pc = .ok (.ireturn, 1) → W p l e R s m args below meth c H locs cells slots Q (F0 m pc ls [.int v])) : ∀ (H : Heap) (locs : List Loc) (ls : Array Slot), Wd D G L A H0 S H locs → lv_has ls 2 [(0, .ref v0), (1, .int v1)] → W p l e R s m args below meth c H locs cells slots Q (F0 m 0 ls []) := by
  have hx := C.1.1
  have hb := C.1.2.1
  unfold f_X1_holds at h
  intro H locs ls w hl
  refine lv_aload_n hx hb dX1_holds_0 rfl (lv_at hl 0 rfl) ?_
  refine lv_iload_n hx hb dX1_holds_1 rfl (lv_at hl 1 rfl) ?_
  refine lv_bipush (v := 64) hx hb dX1_holds_2 (by decide) ?_
  refine lv_idiv hx hb dX1_holds_4 (by decide) ?_
  obtain ⟨x1, hx1, h⟩ := bs h
  refine o_ldJ C w hx1 dX1_holds_5 ?_
  refine lv_iload_n hx hb dX1_holds_6 rfl (lv_at hl 1 rfl) ?_
  refine lv_bipush (v := 64) hx hb dX1_holds_7 (by decide) ?_
  refine lv_irem hx hb dX1_holds_9 (by decide) ?_
  refine lv_lushr hx hb dX1_holds_10 rfl ?_
  refine lv_lconst (v := 1) hx hb dX1_holds_11 (by decide) ?_
  refine lv_land hx hb dX1_holds_12 ?_
  refine lv_lconst (v := 0) hx hb dX1_holds_13 (by decide) ?_
  refine W.lcmp hx hb dX1_holds_14 ?_
  refine lv_if_eq (tgt := 22) hx hb dX1_holds_15 (by decide) (fun cc15 => ?_) (fun cc15 => ?_)
  · have h := it cc15 h
    refine lv_iconst (v := 0) hx hb dX1_holds_22 (by decide) ?_
    exact hret _ _ _ _ _ w rfl (Option.some.inj h) dX1_holds_23
  · have h := ie cc15 h
    refine lv_iconst (v := 1) hx hb dX1_holds_18 (by decide) ?_
    refine lv_goto (tgt := 23) hx hb dX1_holds_19 (by decide) ?_
    exact hret _ _ _ _ _ w rfl (Option.some.inj h) dX1_holds_23
set_option maxHeartbeats 4000000 in
set_option maxRecDepth 100000 in
theorem c_X1_holds (l : Launch) (D : va_G) (G : Nat → ClassId) (L : List Nat) (S : PH) (v0 : Nat) (v1 : Int32) (r : Int32) (h : f_X1_holds S v0 v1 = some r) : Met l yX1_holds [Cond.code yX1_holds cX1_holds 2 (some .boolean)] ({ frames := 0, cells := 0, slots := 0, locals := 0 }) (va_Pc [.ref v0, .int v1] (PreU D G L S)) (Qi D G L r S) 0 0 (inL L) := by
  refine Met.ofW (cc := cX1_holds) (maxL := 2) (ret := (some .boolean)) (by decide) rfl ?_
  intro p e s m args below meth c s₁ B hml hv
  obtain ⟨rfl, hpre⟩ := hv
  obtain ⟨C, w⟩ := o_ent (own := RX1) rfl B hml hpre
  have hl := lv_entry ([.ref v0, .int v1]) (n := 2) (Nat.le_of_ble_eq_true rfl)
  rw [lg_entry_eq]
  generalize (lg_sl ([.ref v0, .int v1]) ++ List.replicate (2 - (lg_sl ([.ref v0, .int v1])).length) Slot.unset).toArray = ls at hl ⊢
  exact w_X1_holds C (fun _ h => h) ⟨Nat.zero_le _, Nat.zero_le _⟩  S v0 v1 r h (fun v H locs ls pc w hz hv hd => by subst hv; exact o_zret C w B.returns B.notSynchronized hz hd) _ _ _ w hl

def f_X1_leftOf (S : PH) (v0 : Nat) (v1 : Int32) : Option (Nat) :=
(gR S v0 1 1).bind fun x1 =>
(gR S v0 1 0).bind fun x2 =>
(ldI S x2 v1).bind fun x3 =>
(ldR 2 S x1 x3).bind fun x4 =>
some x4
set_option maxHeartbeats 4000000 in
set_option maxRecDepth 100000 in
theorem w_X1_leftOf {p : Program} {l : Launch} {e : Env} {R : Room} {s : State} {m : MethodId} {args : Array Value} {below : List Frame} {meth : Method} {c : Code} {cells slots : Nat} {Q : State → Prop} {D : va_G} {G : Nat → ClassId} {L : List Nat} {A : Nat → Prop} {H0 : Heap} (C : CX p s m c args D G cX1_leftOf 2 RX1) (hLA : ∀ q ∈ L, A q) (hcs : cells ≤ R.cells ∧ slots ≤ R.slots)  (S : PH) (v0 : Nat) (v1 : Int32) (r : Nat) (h : f_X1_leftOf S v0 v1 = some r) (hret : ∀ (v : Nat) (H : Heap) (locs : List Loc) (ls : Array Slot) (pc : Nat), Wd D G L A H0 S H locs → v = r → decode cX1_leftOf pc = .ok (.areturn, 1) → W p l e R s m args below meth c H locs cells slots Q (F0 m pc ls [.ref v])) : ∀ (H : Heap) (locs : List Loc) (ls : Array Slot), Wd D G L A H0 S H locs → lv_has ls 2 [(0, .ref v0), (1, .int v1)] → W p l e R s m args below meth c H locs cells slots Q (F0 m 0 ls []) := by
  have hx := C.1.1
  have hb := C.1.2.1
  unfold f_X1_leftOf at h
  intro H locs ls w hl
  refine lv_aload_n hx hb dX1_leftOf_0 rfl (lv_at hl 0 rfl) ?_
  obtain ⟨x1, hx1, h⟩ := bs h
  refine o_gR C w hx1 fl_X1_17 dX1_leftOf_1 ?_
  refine lv_aload_n hx hb dX1_leftOf_4 rfl (lv_at hl 0 rfl) ?_
  obtain ⟨x2, hx2, h⟩ := bs h
  refine o_gR C w hx2 fl_X1_9 dX1_leftOf_5 ?_
  refine lv_iload_n hx hb dX1_leftOf_8 rfl (lv_at hl 1 rfl) ?_
  obtain ⟨x3, hx3, h⟩ := bs h
  refine o_ldI C w hx3 dX1_leftOf_9 ?_
  obtain ⟨x4, hx4, h⟩ := bs h
  refine o_ldR2 C w hx4 dX1_leftOf_10 ?_
  exact hret _ _ _ _ _ w (Option.some.inj h) dX1_leftOf_11
set_option maxHeartbeats 4000000 in
set_option maxRecDepth 100000 in
theorem c_X1_leftOf (l : Launch) (D : va_G) (G : Nat → ClassId) (L : List Nat) (S : PH) (v0 : Nat) (v1 : Int32) (r : Nat) (h : f_X1_leftOf S v0 v1 = some r) : Met l yX1_leftOf [Cond.code yX1_leftOf cX1_leftOf 2 (some (.array .long))] ({ frames := 0, cells := 0, slots := 0, locals := 0 }) (va_Pc [.ref v0, .int v1] (PreU D G L S)) (Qr D G L r S) 0 0 (inL L) := by
  refine Met.ofW (cc := cX1_leftOf) (maxL := 2) (ret := (some (.array .long))) (by decide) rfl ?_
  intro p e s m args below meth c s₁ B hml hv
  obtain ⟨rfl, hpre⟩ := hv
  obtain ⟨C, w⟩ := o_ent (own := RX1) rfl B hml hpre
  have hl := lv_entry ([.ref v0, .int v1]) (n := 2) (Nat.le_of_ble_eq_true rfl)
  rw [lg_entry_eq]
  generalize (lg_sl ([.ref v0, .int v1]) ++ List.replicate (2 - (lg_sl ([.ref v0, .int v1])).length) Slot.unset).toArray = ls at hl ⊢
  exact w_X1_leftOf C (fun _ h => h) ⟨Nat.zero_le _, Nat.zero_le _⟩  S v0 v1 r h (fun v H locs ls pc w hv hd => by subst hv; exact o_aret C w B.returns (Or.inr ⟨_, rfl⟩) B.notSynchronized hd) _ _ _ w hl

def f_J13_bitCount_95d88 (v0 : Int64) : Option (Int32) :=
nm (v0 - ((v0.toUInt64 >>> ((1 : Int32).toInt64.toUInt64 &&& Int64.toUInt64 63)).toInt64 &&& (6148914691236517205 : Int64))) fun z1 =>
nm ((z1 &&& (3689348814741910323 : Int64)) + ((z1.toUInt64 >>> ((2 : Int32).toInt64.toUInt64 &&& Int64.toUInt64 63)).toInt64 &&& (3689348814741910323 : Int64))) fun z2 =>
nm ((z2 + (z2.toUInt64 >>> ((4 : Int32).toInt64.toUInt64 &&& Int64.toUInt64 63)).toInt64) &&& (1085102592571150095 : Int64)) fun z3 =>
nm (z3 + (z3.toUInt64 >>> ((8 : Int32).toInt64.toUInt64 &&& Int64.toUInt64 63)).toInt64) fun z4 =>
nm (z4 + (z4.toUInt64 >>> ((16 : Int32).toInt64.toUInt64 &&& Int64.toUInt64 63)).toInt64) fun z5 =>
nm (z5 + (z5.toUInt64 >>> ((32 : Int32).toInt64.toUInt64 &&& Int64.toUInt64 63)).toInt64) fun z6 =>
some (z6.toInt32 &&& (127 : Int32))
set_option maxHeartbeats 4000000 in
set_option maxRecDepth 100000 in
theorem w_J13_bitCount_95d88 {p : Program} {l : Launch} {e : Env} {R : Room} {s : State} {m : MethodId} {args : Array Value} {below : List Frame} {meth : Method} {c : Code} {cells slots : Nat} {Q : State → Prop} {D : va_G} {G : Nat → ClassId} {L : List Nat} {A : Nat → Prop} {H0 : Heap} (C : CX p s m c args D G cJ13_bitCount_95d88 2 RJ13) (hLA : ∀ q ∈ L, A q) (hcs : cells ≤ R.cells ∧ slots ≤ R.slots)  (S : PH) (v0 : Int64) (r : Int32) (h : f_J13_bitCount_95d88 v0 = some r) (hret : ∀ (v : Int32) (H : Heap) (locs : List Loc) (ls : Array Slot) (pc : Nat), Wd D G L A H0 S H locs → v = r → decode cJ13_bitCount_95d88 pc = .ok (.ireturn, 1) → W p l e R s m args below meth c H locs cells slots Q (F0 m pc ls [.int v])) : ∀ (H : Heap) (locs : List Loc) (ls : Array Slot), Wd D G L A H0 S H locs → lv_has ls 2 [(0, .long v0)] → W p l e R s m args below meth c H locs cells slots Q (F0 m 0 ls []) := by
  have hx := C.1.1
  have hb := C.1.2.1
  unfold f_J13_bitCount_95d88 at h
  intro H locs ls w hl
  refine lv_lload_n hx hb dJ13_bitCount_95d88_0 rfl (lv_at hl 0 rfl) ?_
  refine lv_lload_n hx hb dJ13_bitCount_95d88_1 rfl (lv_at hl 0 rfl) ?_
  refine lv_iconst (v := 1) hx hb dJ13_bitCount_95d88_2 (by decide) ?_
  refine lv_lushr hx hb dJ13_bitCount_95d88_3 rfl ?_
  refine lv_ldc2 (v := 6148914691236517205) hx hb C.1.2.2.2.1 (C.1.2.2.2.2 _ kc_J13_314) dJ13_bitCount_95d88_4 ?_
  refine lv_land hx hb dJ13_bitCount_95d88_7 ?_
  refine lv_lsub hx hb dJ13_bitCount_95d88_8 ?_
  obtain ⟨z1, ez1, h⟩ := nm_ex h
  refine o_topl ez1 ?_
  refine lv_lstore_n (lv' := [(0, .long z1)]) hx hb dJ13_bitCount_95d88_9 rfl hl (by decide) rfl (fun ls hl => ?_)
  refine lv_lload_n hx hb dJ13_bitCount_95d88_10 rfl (lv_at hl 0 rfl) ?_
  refine lv_ldc2 (v := 3689348814741910323) hx hb C.1.2.2.2.1 (C.1.2.2.2.2 _ kc_J13_316) dJ13_bitCount_95d88_11 ?_
  refine lv_land hx hb dJ13_bitCount_95d88_14 ?_
  refine lv_lload_n hx hb dJ13_bitCount_95d88_15 rfl (lv_at hl 0 rfl) ?_
  refine lv_iconst (v := 2) hx hb dJ13_bitCount_95d88_16 (by decide) ?_
  refine lv_lushr hx hb dJ13_bitCount_95d88_17 rfl ?_
  refine lv_ldc2 (v := 3689348814741910323) hx hb C.1.2.2.2.1 (C.1.2.2.2.2 _ kc_J13_316) dJ13_bitCount_95d88_18 ?_
  refine lv_land hx hb dJ13_bitCount_95d88_21 ?_
  refine lv_ladd hx hb dJ13_bitCount_95d88_22 ?_
  obtain ⟨z2, ez2, h⟩ := nm_ex h
  refine o_topl ez2 ?_
  refine lv_lstore_n (lv' := [(0, .long z2)]) hx hb dJ13_bitCount_95d88_23 rfl hl (by decide) rfl (fun ls hl => ?_)
  refine lv_lload_n hx hb dJ13_bitCount_95d88_24 rfl (lv_at hl 0 rfl) ?_
  refine lv_lload_n hx hb dJ13_bitCount_95d88_25 rfl (lv_at hl 0 rfl) ?_
  refine lv_iconst (v := 4) hx hb dJ13_bitCount_95d88_26 (by decide) ?_
  refine lv_lushr hx hb dJ13_bitCount_95d88_27 rfl ?_
  refine lv_ladd hx hb dJ13_bitCount_95d88_28 ?_
  refine lv_ldc2 (v := 1085102592571150095) hx hb C.1.2.2.2.1 (C.1.2.2.2.2 _ kc_J13_318) dJ13_bitCount_95d88_29 ?_
  refine lv_land hx hb dJ13_bitCount_95d88_32 ?_
  obtain ⟨z3, ez3, h⟩ := nm_ex h
  refine o_topl ez3 ?_
  refine lv_lstore_n (lv' := [(0, .long z3)]) hx hb dJ13_bitCount_95d88_33 rfl hl (by decide) rfl (fun ls hl => ?_)
  refine lv_lload_n hx hb dJ13_bitCount_95d88_34 rfl (lv_at hl 0 rfl) ?_
  refine lv_lload_n hx hb dJ13_bitCount_95d88_35 rfl (lv_at hl 0 rfl) ?_
  refine lv_bipush (v := 8) hx hb dJ13_bitCount_95d88_36 (by decide) ?_
  refine lv_lushr hx hb dJ13_bitCount_95d88_38 rfl ?_
  refine lv_ladd hx hb dJ13_bitCount_95d88_39 ?_
  obtain ⟨z4, ez4, h⟩ := nm_ex h
  refine o_topl ez4 ?_
  refine lv_lstore_n (lv' := [(0, .long z4)]) hx hb dJ13_bitCount_95d88_40 rfl hl (by decide) rfl (fun ls hl => ?_)
  refine lv_lload_n hx hb dJ13_bitCount_95d88_41 rfl (lv_at hl 0 rfl) ?_
  refine lv_lload_n hx hb dJ13_bitCount_95d88_42 rfl (lv_at hl 0 rfl) ?_
  refine lv_bipush (v := 16) hx hb dJ13_bitCount_95d88_43 (by decide) ?_
  refine lv_lushr hx hb dJ13_bitCount_95d88_45 rfl ?_
  refine lv_ladd hx hb dJ13_bitCount_95d88_46 ?_
  obtain ⟨z5, ez5, h⟩ := nm_ex h
  refine o_topl ez5 ?_
  refine lv_lstore_n (lv' := [(0, .long z5)]) hx hb dJ13_bitCount_95d88_47 rfl hl (by decide) rfl (fun ls hl => ?_)
  refine lv_lload_n hx hb dJ13_bitCount_95d88_48 rfl (lv_at hl 0 rfl) ?_
  refine lv_lload_n hx hb dJ13_bitCount_95d88_49 rfl (lv_at hl 0 rfl) ?_
  refine lv_bipush (v := 32) hx hb dJ13_bitCount_95d88_50 (by decide) ?_
  refine lv_lushr hx hb dJ13_bitCount_95d88_52 rfl ?_
  refine lv_ladd hx hb dJ13_bitCount_95d88_53 ?_
  obtain ⟨z6, ez6, h⟩ := nm_ex h
  refine o_topl ez6 ?_
  refine lv_lstore_n (lv' := [(0, .long z6)]) hx hb dJ13_bitCount_95d88_54 rfl hl (by decide) rfl (fun ls hl => ?_)
  refine lv_lload_n hx hb dJ13_bitCount_95d88_55 rfl (lv_at hl 0 rfl) ?_
  refine lv_l2i hx hb dJ13_bitCount_95d88_56 rfl ?_
  refine lv_bipush (v := 127) hx hb dJ13_bitCount_95d88_57 (by decide) ?_
  refine lv_iand hx hb dJ13_bitCount_95d88_59 ?_
  exact hret _ _ _ _ _ w (Option.some.inj h) dJ13_bitCount_95d88_60
set_option maxHeartbeats 4000000 in
set_option maxRecDepth 100000 in
theorem c_J13_bitCount_95d88 (l : Launch) (D : va_G) (G : Nat → ClassId) (L : List Nat) (S : PH) (v0 : Int64) (r : Int32) (h : f_J13_bitCount_95d88 v0 = some r) : Met l yJ13_bitCount_95d88 [Cond.code yJ13_bitCount_95d88 cJ13_bitCount_95d88 2 (some .int)] ({ frames := 0, cells := 0, slots := 0, locals := 0 }) (va_Pc [.long v0] (PreU D G L S)) (Qi D G L r S) 0 0 (inL L) := by
  refine Met.ofW (cc := cJ13_bitCount_95d88) (maxL := 2) (ret := (some .int)) (by decide) rfl ?_
  intro p e s m args below meth c s₁ B hml hv
  obtain ⟨rfl, hpre⟩ := hv
  obtain ⟨C, w⟩ := o_ent (own := RJ13) rfl B hml hpre
  have hl := lv_entry ([.long v0]) (n := 2) (Nat.le_of_ble_eq_true rfl)
  rw [lg_entry_eq]
  generalize (lg_sl ([.long v0]) ++ List.replicate (2 - (lg_sl ([.long v0])).length) Slot.unset).toArray = ls at hl ⊢
  exact w_J13_bitCount_95d88 C (fun _ h => h) ⟨Nat.zero_le _, Nat.zero_le _⟩  S v0 r h (fun v H locs ls pc w hv hd => by subst hv; exact o_iret C w B.returns B.notSynchronized hd) _ _ _ w hl

def f_X1_tablesLeft_L11 (S : PH) (v2 : Nat) (v3 : Int32) (v4 : Int32) : Option ((Int32 × Int32) ⊕ (Int32)) :=
if (64 : Int32) ≤ v4 then (
some (.inr v3))
else (
(ldJ S v2 v4).bind fun x2 =>
(f_J13_bitCount_95d88 x2).bind fun x3 =>
some (.inl ((v3 + x3), (v4 + 1))))
def f_X1_tablesLeft (S : PH) (v0 : Nat) (v1 : Int32) : Option (Int32) :=
(ckO S v0 1).bind fun _ =>
(f_X1_leftOf S v0 v1).bind fun x1 =>
(lpo (fun x : Int32 × Int32 => f_X1_tablesLeft_L11 S x1 x.1 x.2) FU ((0 : Int32), (0 : Int32))).bind fun y4 =>
some y4
set_option maxHeartbeats 4000000 in
set_option maxRecDepth 100000 in
theorem w_X1_tablesLeft {p : Program} {l : Launch} {e : Env} {R : Room} {s : State} {m : MethodId} {args : Array Value} {below : List Frame} {meth : Method} {c : Code} {cells slots : Nat} {Q : State → Prop} {D : va_G} {G : Nat → ClassId} {L : List Nat} {A : Nat → Prop} {H0 : Heap} (C : CX p s m c args D G cX1_tablesLeft 5 RX1) (hLA : ∀ q ∈ L, A q) (hcs : cells ≤ R.cells ∧ slots ≤ R.slots) (hR_X1_leftOf : RoomOk R ({ frames := 0, cells := 0, slots := 0, locals := 0 }) 2) (hR_J13_bitCount_95d88 : RoomOk R ({ frames := 0, cells := 0, slots := 0, locals := 0 }) 2) (S : PH) (v0 : Nat) (v1 : Int32) (r : Int32) (h : f_X1_tablesLeft S v0 v1 = some r) (hret : ∀ (v : Int32) (H : Heap) (locs : List Loc) (ls : Array Slot) (pc : Nat), Wd D G L A H0 S H locs → v = r → decode cX1_tablesLeft pc = .ok (.ireturn, 1) → W p l e R s m args below meth c H locs cells slots Q (F0 m pc ls [.int v])) : ∀ (H : Heap) (locs : List Loc) (ls : Array Slot), Wd D G L A H0 S H locs → lv_has ls 5 [(0, .ref v0), (1, .int v1)] → W p l e R s m args below meth c H locs cells slots Q (F0 m 0 ls []) := by
  have hx := C.1.1
  have hb := C.1.2.1
  unfold f_X1_tablesLeft at h
  intro H locs ls w hl
  refine lv_aload_n hx hb dX1_tablesLeft_0 rfl (lv_at hl 0 rfl) ?_
  refine lv_iload_n hx hb dX1_tablesLeft_1 rfl (lv_at hl 1 rfl) ?_
  obtain ⟨_, ho, h⟩ := bs h
  obtain ⟨x1, hc, h⟩ := bs h
  refine o_backr w hLA (o_runV (As := [.int v1]) (rest := []) C w (c_X1_leftOf l D G L S v0 v1 x1 hc) ml_X1_20 mv_X1_leftOf hR_X1_leftOf ho rfl hl.1 rfl (Nat.le_of_ble_eq_true rfl) dX1_tablesLeft_2 hcs) (fun H locs w => ?_)
  refine lv_astore_n (lv' := [(2, .ref x1), (0, .ref v0), (1, .int v1)]) hx hb dX1_tablesLeft_5 rfl hl (by decide) rfl (fun ls hl => ?_)
  refine lv_iconst (v := 0) hx hb dX1_tablesLeft_6 (by decide) ?_
  refine lv_istore_n (lv' := [(3, .int (0 : Int32)), (2, .ref x1), (0, .ref v0), (1, .int v1)]) hx hb dX1_tablesLeft_7 rfl hl (by decide) rfl (fun ls hl => ?_)
  refine lv_iconst (v := 0) hx hb dX1_tablesLeft_8 (by decide) ?_
  refine lv_istore (lv' := [(4, .int (0 : Int32)), (3, .int (0 : Int32)), (2, .ref x1), (0, .ref v0), (1, .int v1)]) hx hb dX1_tablesLeft_9 hl (by decide) rfl (fun ls hl => ?_)
  obtain ⟨y4, hL11, h⟩ := bs h
  have hE11 : ∀ (q5 : Int32), y4 = q5 → ∀ (H : Heap) (locs : List Loc) (ls : Array Slot), Wd D G L A H0 S H locs → lv_has ls 5 [(3, .int q5)] → W p l e R s m args below meth c H locs cells slots Q (F0 m 34 ls []) := by
    intro q5 he
    cases he
    intro H locs ls w hl
    refine lv_iload_n hx hb dX1_tablesLeft_34 rfl (lv_at hl 0 rfl) ?_
    exact hret _ _ _ _ _ w (Option.some.inj h) dX1_tablesLeft_35
  refine lpo_W (P := fun x : Int32 × Int32 => ∀ (H : Heap) (locs : List Loc) (ls : Array Slot), Wd D G L A H0 S H locs → lv_has ls 5 [(2, .ref x1), (3, .int x.1), (4, .int x.2)] → W p l e R s m args below meth c H locs cells slots Q (F0 m 11 ls [])) ?_ FU _ hL11 H locs ls w (lv_sub hl [2, 1, 0] rfl)
  intro x y11 h hnext11 hend11
  obtain ⟨t6, t7⟩ := x
  have h : f_X1_tablesLeft_L11 S x1 t6 t7 = some y11 := h
  unfold f_X1_tablesLeft_L11 at h
  intro H locs ls w hl
  have hl : lv_has ls 5 [(2, .ref x1), (3, .int t6), (4, .int t7)] := hl
  refine lv_iload hx hb dX1_tablesLeft_11 (lv_at hl 2 rfl) ?_
  refine lv_bipush (v := 64) hx hb dX1_tablesLeft_13 (by decide) ?_
  refine lv_icmp_ge (tgt := 34) hx hb dX1_tablesLeft_15 (by decide) (fun cc15 => ?_) (fun cc15 => ?_)
  · have h := it cc15 h
    exact hE11 _ (hend11 _ (Option.some.inj h).symm).symm H locs ls w (lv_sub hl [1] rfl)
  · have h := ie cc15 h
    refine lv_iload_n hx hb dX1_tablesLeft_18 rfl (lv_at hl 1 rfl) ?_
    refine lv_aload_n hx hb dX1_tablesLeft_19 rfl (lv_at hl 0 rfl) ?_
    refine lv_iload hx hb dX1_tablesLeft_20 (lv_at hl 2 rfl) ?_
    obtain ⟨x8, hx8, h⟩ := bs h
    refine o_ldJ C w hx8 dX1_tablesLeft_22 ?_
    obtain ⟨x9, hc, h⟩ := bs h
    refine o_backi w hLA (o_runS (As := [.long x8]) (rest := [.int t6]) C w (c_J13_bitCount_95d88 l D G L S x8 x9 hc) ml_X1_24 st_J13_bitCount_95d88 hR_J13_bitCount_95d88 rfl hl.1 rfl (Nat.le_of_ble_eq_true rfl) dX1_tablesLeft_23 hcs) (fun H locs w => ?_)
    refine lv_iadd hx hb dX1_tablesLeft_26 ?_
    refine lv_istore_n (lv' := [(3, .int (t6 + x9)), (2, .ref x1), (4, .int t7)]) hx hb dX1_tablesLeft_27 rfl hl (by decide) rfl (fun ls hl => ?_)
    refine lv_iinc (v := (t7 + 1)) (lv' := [(4, .int (t7 + 1)), (3, .int (t6 + x9)), (2, .ref x1)]) hx hb dX1_tablesLeft_28 hl (k := 2) rfl rfl (by decide) rfl (fun ls hl => ?_)
    refine lv_goto (tgt := 11) hx hb dX1_tablesLeft_31 (by decide) ?_
    exact hnext11 _ (Option.some.inj h).symm H locs ls w (lv_sub hl [2, 1, 0] rfl)
set_option maxHeartbeats 4000000 in
set_option maxRecDepth 100000 in
theorem c_X1_tablesLeft (l : Launch) (D : va_G) (G : Nat → ClassId) (L : List Nat) (S : PH) (v0 : Nat) (v1 : Int32) (r : Int32) (h : f_X1_tablesLeft S v0 v1 = some r) : Met l yX1_tablesLeft [Cond.code yX1_tablesLeft cX1_tablesLeft 5 (some .int)] ({ frames := 1, cells := 0, slots := 0, locals := 21 }) (va_Pc [.ref v0, .int v1] (PreU D G L S)) (Qi D G L r S) 0 0 (inL L) := by
  refine Met.ofW (cc := cX1_tablesLeft) (maxL := 5) (ret := (some .int)) (by decide) rfl ?_
  intro p e s m args below meth c s₁ B hml hv
  obtain ⟨rfl, hpre⟩ := hv
  obtain ⟨C, w⟩ := o_ent (own := RX1) rfl B hml hpre
  have hl := lv_entry ([.ref v0, .int v1]) (n := 5) (Nat.le_of_ble_eq_true rfl)
  rw [lg_entry_eq]
  generalize (lg_sl ([.ref v0, .int v1]) ++ List.replicate (5 - (lg_sl ([.ref v0, .int v1])).length) Slot.unset).toArray = ls at hl ⊢
  exact w_X1_tablesLeft C (fun _ h => h) ⟨Nat.zero_le _, Nat.zero_le _⟩ ⟨rfl, rfl, Nat.le_of_ble_eq_true rfl, Nat.le_of_ble_eq_true rfl⟩ ⟨rfl, rfl, Nat.le_of_ble_eq_true rfl, Nat.le_of_ble_eq_true rfl⟩ S v0 v1 r h (fun v H locs ls pc w hv hd => by subst hv; exact o_iret C w B.returns B.notSynchronized hd) _ _ _ w hl

def f_X1_circles_b22 (S : PH) (v0 : Nat) (v1 : Int32) (v2 : Int32) : Option ((Int32 × Int32) ⊕ (Int32)) :=
some (.inl (v1, (v2 + 1)))
def f_X1_circles_L4 (S : PH) (v0 : Nat) (v1 : Int32) (v2 : Int32) : Option ((Int32 × Int32) ⊕ (Int32)) :=
if (4 : Int32) ≤ v2 then (
some (.inr v1))
else (
(gR S v0 1 0).bind fun x1 =>
(ldI S x1 v2).bind fun x2 =>
if x2 = v2 then (
f_X1_circles_b22 S v0 (v1 + 1) v2)
else (
f_X1_circles_b22 S v0 v1 v2))
def f_X1_circles (S : PH) (v0 : Nat) : Option (Int32) :=
(lpo (fun x : Int32 × Int32 => f_X1_circles_L4 S v0 x.1 x.2) FU ((0 : Int32), (0 : Int32))).bind fun y3 =>
some y3
set_option maxHeartbeats 4000000 in
set_option maxRecDepth 100000 in
theorem w_X1_circles {p : Program} {l : Launch} {e : Env} {R : Room} {s : State} {m : MethodId} {args : Array Value} {below : List Frame} {meth : Method} {c : Code} {cells slots : Nat} {Q : State → Prop} {D : va_G} {G : Nat → ClassId} {L : List Nat} {A : Nat → Prop} {H0 : Heap} (C : CX p s m c args D G cX1_circles 3 RX1) (hLA : ∀ q ∈ L, A q) (hcs : cells ≤ R.cells ∧ slots ≤ R.slots)  (S : PH) (v0 : Nat) (r : Int32) (h : f_X1_circles S v0 = some r) (hret : ∀ (v : Int32) (H : Heap) (locs : List Loc) (ls : Array Slot) (pc : Nat), Wd D G L A H0 S H locs → v = r → decode cX1_circles pc = .ok (.ireturn, 1) → W p l e R s m args below meth c H locs cells slots Q (F0 m pc ls [.int v])) : ∀ (H : Heap) (locs : List Loc) (ls : Array Slot), Wd D G L A H0 S H locs → lv_has ls 3 [(0, .ref v0)] → W p l e R s m args below meth c H locs cells slots Q (F0 m 0 ls []) := by
  have hx := C.1.1
  have hb := C.1.2.1
  unfold f_X1_circles at h
  intro H locs ls w hl
  refine lv_iconst (v := 0) hx hb dX1_circles_0 (by decide) ?_
  refine lv_istore_n (lv' := [(1, .int (0 : Int32)), (0, .ref v0)]) hx hb dX1_circles_1 rfl hl (by decide) rfl (fun ls hl => ?_)
  refine lv_iconst (v := 0) hx hb dX1_circles_2 (by decide) ?_
  refine lv_istore_n (lv' := [(2, .int (0 : Int32)), (1, .int (0 : Int32)), (0, .ref v0)]) hx hb dX1_circles_3 rfl hl (by decide) rfl (fun ls hl => ?_)
  obtain ⟨y3, hL4, h⟩ := bs h
  have hE4 : ∀ (q4 : Int32), y3 = q4 → ∀ (H : Heap) (locs : List Loc) (ls : Array Slot), Wd D G L A H0 S H locs → lv_has ls 3 [(1, .int q4)] → W p l e R s m args below meth c H locs cells slots Q (F0 m 28 ls []) := by
    intro q4 he
    cases he
    intro H locs ls w hl
    refine lv_iload_n hx hb dX1_circles_28 rfl (lv_at hl 0 rfl) ?_
    exact hret _ _ _ _ _ w (Option.some.inj h) dX1_circles_29
  refine lpo_W (P := fun x : Int32 × Int32 => ∀ (H : Heap) (locs : List Loc) (ls : Array Slot), Wd D G L A H0 S H locs → lv_has ls 3 [(0, .ref v0), (1, .int x.1), (2, .int x.2)] → W p l e R s m args below meth c H locs cells slots Q (F0 m 4 ls [])) ?_ FU _ hL4 H locs ls w (lv_sub hl [2, 1, 0] rfl)
  intro x y4 h hnext4 hend4
  obtain ⟨t5, t6⟩ := x
  have h : f_X1_circles_L4 S v0 t5 t6 = some y4 := h
  unfold f_X1_circles_L4 at h
  have hb22 : ∀ (u7 : Int32) (u8 : Int32), f_X1_circles_b22 S v0 u7 u8 = some y4 → ∀ (H : Heap) (locs : List Loc) (ls : Array Slot), Wd D G L A H0 S H locs → lv_has ls 3 [(0, .ref v0), (1, .int u7), (2, .int u8)] → W p l e R s m args below meth c H locs cells slots Q (F0 m 22 ls []) := by
    intro u7 u8 h H locs ls w hl
    unfold f_X1_circles_b22 at h
    refine lv_iinc (v := (u8 + 1)) (lv' := [(2, .int (u8 + 1)), (0, .ref v0), (1, .int u7)]) hx hb dX1_circles_22 hl (k := 2) rfl rfl (by decide) rfl (fun ls hl => ?_)
    refine lv_goto (tgt := 4) hx hb dX1_circles_25 (by decide) ?_
    exact hnext4 _ (Option.some.inj h).symm H locs ls w (lv_sub hl [1, 2, 0] rfl)
  intro H locs ls w hl
  have hl : lv_has ls 3 [(0, .ref v0), (1, .int t5), (2, .int t6)] := hl
  refine lv_iload_n hx hb dX1_circles_4 rfl (lv_at hl 2 rfl) ?_
  refine lv_iconst (v := 4) hx hb dX1_circles_5 (by decide) ?_
  refine lv_icmp_ge (tgt := 28) hx hb dX1_circles_6 (by decide) (fun cc6 => ?_) (fun cc6 => ?_)
  · have h := it cc6 h
    exact hE4 _ (hend4 _ (Option.some.inj h).symm).symm H locs ls w (lv_sub hl [1] rfl)
  · have h := ie cc6 h
    refine lv_aload_n hx hb dX1_circles_9 rfl (lv_at hl 0 rfl) ?_
    obtain ⟨x9, hx9, h⟩ := bs h
    refine o_gR C w hx9 fl_X1_9 dX1_circles_10 ?_
    refine lv_iload_n hx hb dX1_circles_13 rfl (lv_at hl 2 rfl) ?_
    obtain ⟨x10, hx10, h⟩ := bs h
    refine o_ldI C w hx10 dX1_circles_14 ?_
    refine lv_iload_n hx hb dX1_circles_15 rfl (lv_at hl 2 rfl) ?_
    refine lv_icmp_ne (tgt := 22) hx hb dX1_circles_16 (by decide) (fun cc16 => ?_) (fun cc16 => ?_)
    · have h := ie cc16 h
      exact hb22 _ _ h H locs ls w (lv_sub hl [0, 1, 2] rfl)
    · have h := it cc16 h
      refine lv_iinc (v := (t5 + 1)) (lv' := [(1, .int (t5 + 1)), (0, .ref v0), (2, .int t6)]) hx hb dX1_circles_19 hl (k := 1) rfl rfl (by decide) rfl (fun ls hl => ?_)
      exact hb22 _ _ h H locs ls w (lv_sub hl [1, 0, 2] rfl)
set_option maxHeartbeats 4000000 in
set_option maxRecDepth 100000 in
theorem c_X1_circles (l : Launch) (D : va_G) (G : Nat → ClassId) (L : List Nat) (S : PH) (v0 : Nat) (r : Int32) (h : f_X1_circles S v0 = some r) : Met l yX1_circles [Cond.code yX1_circles cX1_circles 3 (some .int)] ({ frames := 0, cells := 0, slots := 0, locals := 0 }) (va_Pc [.ref v0] (PreU D G L S)) (Qi D G L r S) 0 0 (inL L) := by
  refine Met.ofW (cc := cX1_circles) (maxL := 3) (ret := (some .int)) (by decide) rfl ?_
  intro p e s m args below meth c s₁ B hml hv
  obtain ⟨rfl, hpre⟩ := hv
  obtain ⟨C, w⟩ := o_ent (own := RX1) rfl B hml hpre
  have hl := lv_entry ([.ref v0]) (n := 3) (Nat.le_of_ble_eq_true rfl)
  rw [lg_entry_eq]
  generalize (lg_sl ([.ref v0]) ++ List.replicate (3 - (lg_sl ([.ref v0])).length) Slot.unset).toArray = ls at hl ⊢
  exact w_X1_circles C (fun _ h => h) ⟨Nat.zero_le _, Nat.zero_le _⟩  S v0 r h (fun v H locs ls pc w hv hd => by subst hv; exact o_iret C w B.returns B.notSynchronized hd) _ _ _ w hl

def f_X1_repeat_b55 (S : PH) (v0 : Nat) (v1 : Int32) (v2 : Int32) (v3 : Int32) : Option ((Int32 × PH) ⊕ (PH)) :=
some (.inl ((v3 + 1), S))
def f_X1_repeat_L18 (S : PH) (v0 : Nat) (v1 : Int32) (v2 : Int32) (v3 : Int32) (v4 : Int32) : Option ((Int32 × PH) ⊕ (PH)) :=
if v2 ≤ v4 then (
some (.inr S))
else (
(ldJ S v0 (((v4 * v1) + v3) / (64 : Int32))).bind fun x2 =>
(stJ S v0 (((v4 * v1) + v3) / (64 : Int32)) (x2 ||| ((1 : Int64) <<< ((((v4 * v1) + v3) - ((v4 * v1) + v3) / (64 : Int32) * (64 : Int32)).toInt64 &&& 63)))).bind fun S3 =>
some (.inl ((v4 + 1), S3)))
def f_X1_repeat_L2 (S : PH) (v0 : Nat) (v1 : Int32) (v2 : Int32) (v3 : Int32) : Option ((Int32 × PH) ⊕ (PH)) :=
if v1 ≤ v3 then (
some (.inr S))
else (
(f_X1_holds S v0 v3).bind fun x1 =>
if x1 = 0 then (
f_X1_repeat_b55 S v0 v1 v2 v3)
else (
(lpo (fun x : Int32 × PH => f_X1_repeat_L18 x.2 v0 v1 v2 v3 x.1) FU ((1 : Int32), S)).bind fun S4 =>
f_X1_repeat_b55 S4 v0 v1 v2 v3))
def f_X1_repeat (S : PH) (v0 : Nat) (v1 : Int32) (v2 : Int32) : Option (PH) :=
(lpo (fun x : Int32 × PH => f_X1_repeat_L2 x.2 v0 v1 v2 x.1) FU ((0 : Int32), S)).bind fun S10 =>
some S10
set_option maxHeartbeats 4000000 in
set_option maxRecDepth 100000 in
theorem w_X1_repeat {p : Program} {l : Launch} {e : Env} {R : Room} {s : State} {m : MethodId} {args : Array Value} {below : List Frame} {meth : Method} {c : Code} {cells slots : Nat} {Q : State → Prop} {D : va_G} {G : Nat → ClassId} {L : List Nat} {A : Nat → Prop} {H0 : Heap} (C : CX p s m c args D G cX1_repeat 6 RX1) (hLA : ∀ q ∈ L, A q) (hcs : cells ≤ R.cells ∧ slots ≤ R.slots) (hR_X1_holds : RoomOk R ({ frames := 0, cells := 0, slots := 0, locals := 0 }) 2) (S : PH) (v0 : Nat) (v1 : Int32) (v2 : Int32) (r : PH) (h : f_X1_repeat S v0 v1 v2 = some r) (hret : ∀ (S9 : PH) (H : Heap) (locs : List Loc) (ls : Array Slot) (pc : Nat), Wd D G L A H0 S9 H locs → S9 = r → decode cX1_repeat pc = .ok (.return_, 1) → W p l e R s m args below meth c H locs cells slots Q (F0 m pc ls [])) : ∀ (H : Heap) (locs : List Loc) (ls : Array Slot), Wd D G L A H0 S H locs → lv_has ls 6 [(0, .ref v0), (1, .int v1), (2, .int v2)] → W p l e R s m args below meth c H locs cells slots Q (F0 m 0 ls []) := by
  have hx := C.1.1
  have hb := C.1.2.1
  unfold f_X1_repeat at h
  intro H locs ls w hl
  refine lv_iconst (v := 0) hx hb dX1_repeat_0 (by decide) ?_
  refine lv_istore_n (lv' := [(3, .int (0 : Int32)), (0, .ref v0), (1, .int v1), (2, .int v2)]) hx hb dX1_repeat_1 rfl hl (by decide) rfl (fun ls hl => ?_)
  obtain ⟨S10, hL2, h⟩ := bs h
  have hE2 : ∀ (q11 : PH), S10 = q11 → ∀ (H : Heap) (locs : List Loc) (ls : Array Slot), Wd D G L A H0 q11 H locs → lv_has ls 6 [] → W p l e R s m args below meth c H locs cells slots Q (F0 m 61 ls []) := by
    intro q11 he
    cases he
    intro H locs ls w hl
    exact hret _ _ _ _ _ w (Option.some.inj h) dX1_repeat_61
  refine lpo_W (P := fun x : Int32 × PH => ∀ (H : Heap) (locs : List Loc) (ls : Array Slot), Wd D G L A H0 x.2 H locs → lv_has ls 6 [(0, .ref v0), (1, .int v1), (2, .int v2), (3, .int x.1)] → W p l e R s m args below meth c H locs cells slots Q (F0 m 2 ls [])) ?_ FU _ hL2 H locs ls w (lv_sub hl [1, 2, 3, 0] rfl)
  intro x y2 h hnext2 hend2
  obtain ⟨t12, S13⟩ := x
  have h : f_X1_repeat_L2 S13 v0 v1 v2 t12 = some y2 := h
  unfold f_X1_repeat_L2 at h
  have hb55 : ∀ (S14 : PH) (u15 : Int32), f_X1_repeat_b55 S14 v0 v1 v2 u15 = some y2 → ∀ (H : Heap) (locs : List Loc) (ls : Array Slot), Wd D G L A H0 S14 H locs → lv_has ls 6 [(0, .ref v0), (1, .int v1), (2, .int v2), (3, .int u15)] → W p l e R s m args below meth c H locs cells slots Q (F0 m 55 ls []) := by
    intro S14 u15 h H locs ls w hl
    unfold f_X1_repeat_b55 at h
    refine lv_iinc (v := (u15 + 1)) (lv' := [(3, .int (u15 + 1)), (0, .ref v0), (1, .int v1), (2, .int v2)]) hx hb dX1_repeat_55 hl (k := 3) rfl rfl (by decide) rfl (fun ls hl => ?_)
    refine lv_goto (tgt := 2) hx hb dX1_repeat_58 (by decide) ?_
    exact hnext2 _ (Option.some.inj h).symm H locs ls w (lv_sub hl [1, 2, 3, 0] rfl)
  intro H locs ls w hl
  have hl : lv_has ls 6 [(0, .ref v0), (1, .int v1), (2, .int v2), (3, .int t12)] := hl
  have w : Wd D G L A H0 S13 H locs := w
  refine lv_iload_n hx hb dX1_repeat_2 rfl (lv_at hl 3 rfl) ?_
  refine lv_iload_n hx hb dX1_repeat_3 rfl (lv_at hl 1 rfl) ?_
  refine lv_icmp_ge (tgt := 61) hx hb dX1_repeat_4 (by decide) (fun cc4 => ?_) (fun cc4 => ?_)
  · have h := it cc4 h
    exact hE2 _ (hend2 _ (Option.some.inj h).symm).symm H locs ls w (lv_sub hl [] rfl)
  · have h := ie cc4 h
    refine lv_aload_n hx hb dX1_repeat_7 rfl (lv_at hl 0 rfl) ?_
    refine lv_iload_n hx hb dX1_repeat_8 rfl (lv_at hl 3 rfl) ?_
    obtain ⟨x16, hc, h⟩ := bs h
    refine o_backi w hLA (o_runS (As := [.ref v0, .int t12]) (rest := []) C w (c_X1_holds l D G L S13 v0 t12 x16 hc) ml_X1_34 st_X1_holds hR_X1_holds rfl hl.1 rfl (Nat.le_of_ble_eq_true rfl) dX1_repeat_9 hcs) (fun H locs w => ?_)
    refine lv_if_eq (tgt := 55) hx hb dX1_repeat_12 (by decide) (fun cc12 => ?_) (fun cc12 => ?_)
    · have h := it cc12 h
      exact hb55 _ _ h H locs ls w (lv_sub hl [0, 1, 2, 3] rfl)
    · have h := ie cc12 h
      refine lv_iconst (v := 1) hx hb dX1_repeat_15 (by decide) ?_
      refine lv_istore (lv' := [(4, .int (1 : Int32)), (0, .ref v0), (1, .int v1), (2, .int v2), (3, .int t12)]) hx hb dX1_repeat_16 hl (by decide) rfl (fun ls hl => ?_)
      obtain ⟨S17, hL18, h⟩ := bs h
      have hE18 : ∀ (q18 : PH), S17 = q18 → ∀ (H : Heap) (locs : List Loc) (ls : Array Slot), Wd D G L A H0 q18 H locs → lv_has ls 6 [(0, .ref v0), (1, .int v1), (2, .int v2), (3, .int t12)] → W p l e R s m args below meth c H locs cells slots Q (F0 m 55 ls []) := by
        intro q18 he
        cases he
        intro H locs ls w hl
        exact hb55 _ _ h H locs ls w (lv_sub hl [0, 1, 2, 3] rfl)
      refine lpo_W (P := fun x : Int32 × PH => ∀ (H : Heap) (locs : List Loc) (ls : Array Slot), Wd D G L A H0 x.2 H locs → lv_has ls 6 [(0, .ref v0), (1, .int v1), (2, .int v2), (3, .int t12), (4, .int x.1)] → W p l e R s m args below meth c H locs cells slots Q (F0 m 18 ls [])) ?_ FU _ hL18 H locs ls w (lv_sub hl [1, 2, 3, 4, 0] rfl)
      intro x y18 h hnext18 hend18
      obtain ⟨t19, S20⟩ := x
      have h : f_X1_repeat_L18 S20 v0 v1 v2 t12 t19 = some y18 := h
      unfold f_X1_repeat_L18 at h
      intro H locs ls w hl
      have hl : lv_has ls 6 [(0, .ref v0), (1, .int v1), (2, .int v2), (3, .int t12), (4, .int t19)] := hl
      have w : Wd D G L A H0 S20 H locs := w
      refine lv_iload hx hb dX1_repeat_18 (lv_at hl 4 rfl) ?_
      refine lv_iload_n hx hb dX1_repeat_20 rfl (lv_at hl 2 rfl) ?_
      refine lv_icmp_ge (tgt := 55) hx hb dX1_repeat_21 (by decide) (fun cc21 => ?_) (fun cc21 => ?_)
      · have h := it cc21 h
        exact hE18 _ (hend18 _ (Option.some.inj h).symm).symm H locs ls w (lv_sub hl [0, 1, 2, 3] rfl)
      · have h := ie cc21 h
        refine lv_iload hx hb dX1_repeat_24 (lv_at hl 4 rfl) ?_
        refine lv_iload_n hx hb dX1_repeat_26 rfl (lv_at hl 1 rfl) ?_
        refine lv_imul hx hb dX1_repeat_27 ?_
        refine lv_iload_n hx hb dX1_repeat_28 rfl (lv_at hl 3 rfl) ?_
        refine lv_iadd hx hb dX1_repeat_29 ?_
        refine lv_istore (lv' := [(5, .int ((t19 * v1) + t12)), (0, .ref v0), (1, .int v1), (2, .int v2), (3, .int t12), (4, .int t19)]) hx hb dX1_repeat_30 hl (by decide) rfl (fun ls hl => ?_)
        refine lv_aload_n hx hb dX1_repeat_32 rfl (lv_at hl 1 rfl) ?_
        refine lv_iload hx hb dX1_repeat_33 (lv_at hl 0 rfl) ?_
        refine lv_bipush (v := 64) hx hb dX1_repeat_35 (by decide) ?_
        refine lv_idiv hx hb dX1_repeat_37 (by decide) ?_
        refine lv_dup2_11 hx hb dX1_repeat_38 rfl rfl ?_
        obtain ⟨x21, hx21, h⟩ := bs h
        refine o_ldJ C w hx21 dX1_repeat_39 ?_
        refine lv_lconst (v := 1) hx hb dX1_repeat_40 (by decide) ?_
        refine lv_iload hx hb dX1_repeat_41 (lv_at hl 0 rfl) ?_
        refine lv_bipush (v := 64) hx hb dX1_repeat_43 (by decide) ?_
        refine lv_irem hx hb dX1_repeat_45 (by decide) ?_
        refine lv_lshl hx hb dX1_repeat_46 rfl ?_
        refine lv_lor hx hb dX1_repeat_47 ?_
        obtain ⟨S22, hS22, h⟩ := bs h
        refine o_stJ C w hS22 dX1_repeat_48 (fun H locs w => ?_)
        refine lv_iinc (v := (t19 + 1)) (lv' := [(4, .int (t19 + 1)), (5, .int ((t19 * v1) + t12)), (0, .ref v0), (1, .int v1), (2, .int v2), (3, .int t12)]) hx hb dX1_repeat_49 hl (k := 5) rfl rfl (by decide) rfl (fun ls hl => ?_)
        refine lv_goto (tgt := 18) hx hb dX1_repeat_52 (by decide) ?_
        exact hnext18 _ (Option.some.inj h).symm H locs ls w (lv_sub hl [2, 3, 4, 5, 0] rfl)
set_option maxHeartbeats 4000000 in
set_option maxRecDepth 100000 in
theorem c_X1_repeat (l : Launch) (D : va_G) (G : Nat → ClassId) (L : List Nat) (S : PH) (v0 : Nat) (v1 : Int32) (v2 : Int32) (r : PH) (h : f_X1_repeat S v0 v1 v2 = some r) : Met l yX1_repeat [Cond.code yX1_repeat cX1_repeat 6 none] ({ frames := 1, cells := 0, slots := 0, locals := 21 }) (va_Pc [.ref v0, .int v1, .int v2] (PreU D G L S)) (Qv D G L r) 0 0 (inL L) := by
  refine Met.ofW (cc := cX1_repeat) (maxL := 6) (ret := none) (by decide) rfl ?_
  intro p e s m args below meth c s₁ B hml hv
  obtain ⟨rfl, hpre⟩ := hv
  obtain ⟨C, w⟩ := o_ent (own := RX1) rfl B hml hpre
  have hl := lv_entry ([.ref v0, .int v1, .int v2]) (n := 6) (Nat.le_of_ble_eq_true rfl)
  rw [lg_entry_eq]
  generalize (lg_sl ([.ref v0, .int v1, .int v2]) ++ List.replicate (6 - (lg_sl ([.ref v0, .int v1, .int v2])).length) Slot.unset).toArray = ls at hl ⊢
  exact w_X1_repeat C (fun _ h => h) ⟨Nat.zero_le _, Nat.zero_le _⟩ ⟨rfl, rfl, Nat.le_of_ble_eq_true rfl, Nat.le_of_ble_eq_true rfl⟩ S v0 v1 v2 r h (fun S9 H locs ls pc w hv hd => by subst hv; exact o_vret C w B.returns B.notSynchronized hd) _ _ _ w hl

def f_X1_widen_b28 (S : PH) (v0 : Nat) (v1 : Int32) (v2 : Int32) (v3 : Int32) : Option ((Int32 × PH) ⊕ (PH)) :=
some (.inl ((v3 + 1), S))
def f_X1_widen_L2 (S : PH) (v0 : Nat) (v1 : Int32) (v2 : Int32) (v3 : Int32) : Option ((Int32 × PH) ⊕ (PH)) :=
if (4 : Int32) ≤ v3 then (
some (.inr S))
else (
(gR S v0 1 0).bind fun x1 =>
(ldI S x1 v3).bind fun x2 =>
if x2 = v3 then (
(gR S v0 1 1).bind fun x3 =>
(ldR 2 S x3 v3).bind fun x4 =>
(f_X1_repeat S x4 v1 v2).bind fun S5 =>
f_X1_widen_b28 S5 v0 v1 v2 v3)
else (
f_X1_widen_b28 S v0 v1 v2 v3))
def f_X1_widen (S : PH) (v0 : Nat) (v1 : Int32) (v2 : Int32) : Option (PH) :=
(lpo (fun x : Int32 × PH => f_X1_widen_L2 x.2 v0 v1 v2 x.1) FU ((0 : Int32), S)).bind fun S6 =>
some S6
set_option maxHeartbeats 4000000 in
set_option maxRecDepth 100000 in
theorem w_X1_widen {p : Program} {l : Launch} {e : Env} {R : Room} {s : State} {m : MethodId} {args : Array Value} {below : List Frame} {meth : Method} {c : Code} {cells slots : Nat} {Q : State → Prop} {D : va_G} {G : Nat → ClassId} {L : List Nat} {A : Nat → Prop} {H0 : Heap} (C : CX p s m c args D G cX1_widen 4 RX1) (hLA : ∀ q ∈ L, A q) (hcs : cells ≤ R.cells ∧ slots ≤ R.slots) (hR_X1_repeat : RoomOk R ({ frames := 1, cells := 0, slots := 0, locals := 21 }) 6) (S : PH) (v0 : Nat) (v1 : Int32) (v2 : Int32) (r : PH) (h : f_X1_widen S v0 v1 v2 = some r) (hret : ∀ (S9 : PH) (H : Heap) (locs : List Loc) (ls : Array Slot) (pc : Nat), Wd D G L A H0 S9 H locs → S9 = r → decode cX1_widen pc = .ok (.return_, 1) → W p l e R s m args below meth c H locs cells slots Q (F0 m pc ls [])) : ∀ (H : Heap) (locs : List Loc) (ls : Array Slot), Wd D G L A H0 S H locs → lv_has ls 4 [(0, .ref v0), (1, .int v1), (2, .int v2)] → W p l e R s m args below meth c H locs cells slots Q (F0 m 0 ls []) := by
  have hx := C.1.1
  have hb := C.1.2.1
  unfold f_X1_widen at h
  intro H locs ls w hl
  refine lv_iconst (v := 0) hx hb dX1_widen_0 (by decide) ?_
  refine lv_istore_n (lv' := [(3, .int (0 : Int32)), (0, .ref v0), (1, .int v1), (2, .int v2)]) hx hb dX1_widen_1 rfl hl (by decide) rfl (fun ls hl => ?_)
  obtain ⟨S6, hL2, h⟩ := bs h
  have hE2 : ∀ (q7 : PH), S6 = q7 → ∀ (H : Heap) (locs : List Loc) (ls : Array Slot), Wd D G L A H0 q7 H locs → lv_has ls 4 [] → W p l e R s m args below meth c H locs cells slots Q (F0 m 34 ls []) := by
    intro q7 he
    cases he
    intro H locs ls w hl
    exact hret _ _ _ _ _ w (Option.some.inj h) dX1_widen_34
  refine lpo_W (P := fun x : Int32 × PH => ∀ (H : Heap) (locs : List Loc) (ls : Array Slot), Wd D G L A H0 x.2 H locs → lv_has ls 4 [(0, .ref v0), (1, .int v1), (2, .int v2), (3, .int x.1)] → W p l e R s m args below meth c H locs cells slots Q (F0 m 2 ls [])) ?_ FU _ hL2 H locs ls w (lv_sub hl [1, 2, 3, 0] rfl)
  intro x y2 h hnext2 hend2
  obtain ⟨t8, S9⟩ := x
  have h : f_X1_widen_L2 S9 v0 v1 v2 t8 = some y2 := h
  unfold f_X1_widen_L2 at h
  have hb28 : ∀ (S10 : PH) (u11 : Int32), f_X1_widen_b28 S10 v0 v1 v2 u11 = some y2 → ∀ (H : Heap) (locs : List Loc) (ls : Array Slot), Wd D G L A H0 S10 H locs → lv_has ls 4 [(0, .ref v0), (1, .int v1), (2, .int v2), (3, .int u11)] → W p l e R s m args below meth c H locs cells slots Q (F0 m 28 ls []) := by
    intro S10 u11 h H locs ls w hl
    unfold f_X1_widen_b28 at h
    refine lv_iinc (v := (u11 + 1)) (lv' := [(3, .int (u11 + 1)), (0, .ref v0), (1, .int v1), (2, .int v2)]) hx hb dX1_widen_28 hl (k := 3) rfl rfl (by decide) rfl (fun ls hl => ?_)
    refine lv_goto (tgt := 2) hx hb dX1_widen_31 (by decide) ?_
    exact hnext2 _ (Option.some.inj h).symm H locs ls w (lv_sub hl [1, 2, 3, 0] rfl)
  intro H locs ls w hl
  have hl : lv_has ls 4 [(0, .ref v0), (1, .int v1), (2, .int v2), (3, .int t8)] := hl
  have w : Wd D G L A H0 S9 H locs := w
  refine lv_iload_n hx hb dX1_widen_2 rfl (lv_at hl 3 rfl) ?_
  refine lv_iconst (v := 4) hx hb dX1_widen_3 (by decide) ?_
  refine lv_icmp_ge (tgt := 34) hx hb dX1_widen_4 (by decide) (fun cc4 => ?_) (fun cc4 => ?_)
  · have h := it cc4 h
    exact hE2 _ (hend2 _ (Option.some.inj h).symm).symm H locs ls w (lv_sub hl [] rfl)
  · have h := ie cc4 h
    refine lv_aload_n hx hb dX1_widen_7 rfl (lv_at hl 0 rfl) ?_
    obtain ⟨x12, hx12, h⟩ := bs h
    refine o_gR C w hx12 fl_X1_9 dX1_widen_8 ?_
    refine lv_iload_n hx hb dX1_widen_11 rfl (lv_at hl 3 rfl) ?_
    obtain ⟨x13, hx13, h⟩ := bs h
    refine o_ldI C w hx13 dX1_widen_12 ?_
    refine lv_iload_n hx hb dX1_widen_13 rfl (lv_at hl 3 rfl) ?_
    refine lv_icmp_ne (tgt := 28) hx hb dX1_widen_14 (by decide) (fun cc14 => ?_) (fun cc14 => ?_)
    · have h := ie cc14 h
      exact hb28 _ _ h H locs ls w (lv_sub hl [0, 1, 2, 3] rfl)
    · have h := it cc14 h
      refine lv_aload_n hx hb dX1_widen_17 rfl (lv_at hl 0 rfl) ?_
      obtain ⟨x14, hx14, h⟩ := bs h
      refine o_gR C w hx14 fl_X1_17 dX1_widen_18 ?_
      refine lv_iload_n hx hb dX1_widen_21 rfl (lv_at hl 3 rfl) ?_
      obtain ⟨x15, hx15, h⟩ := bs h
      refine o_ldR2 C w hx15 dX1_widen_22 ?_
      refine lv_iload_n hx hb dX1_widen_23 rfl (lv_at hl 1 rfl) ?_
      refine lv_iload_n hx hb dX1_widen_24 rfl (lv_at hl 2 rfl) ?_
      obtain ⟨S16, hc, h⟩ := bs h
      refine o_backv w hLA (o_runS (As := [.ref x15, .int v1, .int v2]) (rest := []) C w (c_X1_repeat l D G L S9 x15 v1 v2 S16 hc) ml_X1_30 st_X1_repeat hR_X1_repeat rfl hl.1 rfl (Nat.le_of_ble_eq_true rfl) dX1_widen_25 hcs) (fun H locs w => ?_)
      exact hb28 _ _ h H locs ls w (lv_sub hl [0, 1, 2, 3] rfl)
set_option maxHeartbeats 4000000 in
set_option maxRecDepth 100000 in
theorem c_X1_widen (l : Launch) (D : va_G) (G : Nat → ClassId) (L : List Nat) (S : PH) (v0 : Nat) (v1 : Int32) (v2 : Int32) (r : PH) (h : f_X1_widen S v0 v1 v2 = some r) : Met l yX1_widen [Cond.code yX1_widen cX1_widen 4 none] ({ frames := 2, cells := 0, slots := 0, locals := 46 }) (va_Pc [.ref v0, .int v1, .int v2] (PreU D G L S)) (Qv D G L r) 0 0 (inL L) := by
  refine Met.ofW (cc := cX1_widen) (maxL := 4) (ret := none) (by decide) rfl ?_
  intro p e s m args below meth c s₁ B hml hv
  obtain ⟨rfl, hpre⟩ := hv
  obtain ⟨C, w⟩ := o_ent (own := RX1) rfl B hml hpre
  have hl := lv_entry ([.ref v0, .int v1, .int v2]) (n := 4) (Nat.le_of_ble_eq_true rfl)
  rw [lg_entry_eq]
  generalize (lg_sl ([.ref v0, .int v1, .int v2]) ++ List.replicate (4 - (lg_sl ([.ref v0, .int v1, .int v2])).length) Slot.unset).toArray = ls at hl ⊢
  exact w_X1_widen C (fun _ h => h) ⟨Nat.zero_le _, Nat.zero_le _⟩ ⟨rfl, rfl, Nat.le_of_ble_eq_true rfl, Nat.le_of_ble_eq_true rfl⟩ S v0 v1 v2 r h (fun S9 H locs ls pc w hv hd => by subst hv; exact o_vret C w B.returns B.notSynchronized hd) _ _ _ w hl

def f_X1_keepOnly_b47 (S : PH) (v2 : Int32) (v3 : Nat) (v4 : Int32) (v5 : Nat) (v6 : Int32) : Option ((Int32 × PH) ⊕ (PH)) :=
some (.inl ((v6 + 1), S))
def f_X1_keepOnly_L10 (S : PH) (v2 : Int32) (v3 : Nat) (v4 : Int32) (v5 : Nat) (v6 : Int32) : Option ((Int32 × PH) ⊕ (PH)) :=
if v2 ≤ v6 then (
some (.inr S))
else (
(ldI S v3 v6).bind fun x2 =>
if x2 = v4 then (
f_X1_keepOnly_b47 S v2 v3 v4 v5 v6)
else (
(ldJ S v5 (v6 / (64 : Int32))).bind fun x3 =>
(stJ S v5 (v6 / (64 : Int32)) (x3 &&& (((1 : Int64) <<< ((v6 - v6 / (64 : Int32) * (64 : Int32)).toInt64 &&& 63)) ^^^ (-1 : Int64)))).bind fun S4 =>
f_X1_keepOnly_b47 S4 v2 v3 v4 v5 v6))
def f_X1_keepOnly (S : PH) (v0 : Nat) (v1 : Int32) (v2 : Int32) (v3 : Nat) (v4 : Int32) : Option (PH) :=
(ckO S v0 1).bind fun _ =>
(f_X1_leftOf S v0 v1).bind fun x1 =>
(lpo (fun x : Int32 × PH => f_X1_keepOnly_L10 x.2 v2 v3 v4 x1 x.1) FU ((0 : Int32), S)).bind fun S5 =>
some S5
set_option maxHeartbeats 4000000 in
set_option maxRecDepth 100000 in
theorem w_X1_keepOnly {p : Program} {l : Launch} {e : Env} {R : Room} {s : State} {m : MethodId} {args : Array Value} {below : List Frame} {meth : Method} {c : Code} {cells slots : Nat} {Q : State → Prop} {D : va_G} {G : Nat → ClassId} {L : List Nat} {A : Nat → Prop} {H0 : Heap} (C : CX p s m c args D G cX1_keepOnly 7 RX1) (hLA : ∀ q ∈ L, A q) (hcs : cells ≤ R.cells ∧ slots ≤ R.slots) (hR_X1_leftOf : RoomOk R ({ frames := 0, cells := 0, slots := 0, locals := 0 }) 2) (S : PH) (v0 : Nat) (v1 : Int32) (v2 : Int32) (v3 : Nat) (v4 : Int32) (r : PH) (h : f_X1_keepOnly S v0 v1 v2 v3 v4 = some r) (hret : ∀ (S9 : PH) (H : Heap) (locs : List Loc) (ls : Array Slot) (pc : Nat), Wd D G L A H0 S9 H locs → S9 = r → decode cX1_keepOnly pc = .ok (.return_, 1) → W p l e R s m args below meth c H locs cells slots Q (F0 m pc ls [])) : ∀ (H : Heap) (locs : List Loc) (ls : Array Slot), Wd D G L A H0 S H locs → lv_has ls 7 [(0, .ref v0), (1, .int v1), (2, .int v2), (3, .ref v3), (4, .int v4)] → W p l e R s m args below meth c H locs cells slots Q (F0 m 0 ls []) := by
  have hx := C.1.1
  have hb := C.1.2.1
  unfold f_X1_keepOnly at h
  intro H locs ls w hl
  refine lv_aload_n hx hb dX1_keepOnly_0 rfl (lv_at hl 0 rfl) ?_
  refine lv_iload_n hx hb dX1_keepOnly_1 rfl (lv_at hl 1 rfl) ?_
  obtain ⟨_, ho, h⟩ := bs h
  obtain ⟨x1, hc, h⟩ := bs h
  refine o_backr w hLA (o_runV (As := [.int v1]) (rest := []) C w (c_X1_leftOf l D G L S v0 v1 x1 hc) ml_X1_20 mv_X1_leftOf hR_X1_leftOf ho rfl hl.1 rfl (Nat.le_of_ble_eq_true rfl) dX1_keepOnly_2 hcs) (fun H locs w => ?_)
  refine lv_astore (lv' := [(5, .ref x1), (0, .ref v0), (1, .int v1), (2, .int v2), (3, .ref v3), (4, .int v4)]) hx hb dX1_keepOnly_5 hl (by decide) rfl (fun ls hl => ?_)
  refine lv_iconst (v := 0) hx hb dX1_keepOnly_7 (by decide) ?_
  refine lv_istore (lv' := [(6, .int (0 : Int32)), (5, .ref x1), (0, .ref v0), (1, .int v1), (2, .int v2), (3, .ref v3), (4, .int v4)]) hx hb dX1_keepOnly_8 hl (by decide) rfl (fun ls hl => ?_)
  obtain ⟨S5, hL10, h⟩ := bs h
  have hE10 : ∀ (q6 : PH), S5 = q6 → ∀ (H : Heap) (locs : List Loc) (ls : Array Slot), Wd D G L A H0 q6 H locs → lv_has ls 7 [] → W p l e R s m args below meth c H locs cells slots Q (F0 m 53 ls []) := by
    intro q6 he
    cases he
    intro H locs ls w hl
    exact hret _ _ _ _ _ w (Option.some.inj h) dX1_keepOnly_53
  refine lpo_W (P := fun x : Int32 × PH => ∀ (H : Heap) (locs : List Loc) (ls : Array Slot), Wd D G L A H0 x.2 H locs → lv_has ls 7 [(2, .int v2), (3, .ref v3), (4, .int v4), (5, .ref x1), (6, .int x.1)] → W p l e R s m args below meth c H locs cells slots Q (F0 m 10 ls [])) ?_ FU _ hL10 H locs ls w (lv_sub hl [4, 5, 6, 1, 0] rfl)
  intro x y10 h hnext10 hend10
  obtain ⟨t7, S8⟩ := x
  have h : f_X1_keepOnly_L10 S8 v2 v3 v4 x1 t7 = some y10 := h
  unfold f_X1_keepOnly_L10 at h
  have hb47 : ∀ (S9 : PH) (u10 : Int32), f_X1_keepOnly_b47 S9 v2 v3 v4 x1 u10 = some y10 → ∀ (H : Heap) (locs : List Loc) (ls : Array Slot), Wd D G L A H0 S9 H locs → lv_has ls 7 [(2, .int v2), (3, .ref v3), (4, .int v4), (5, .ref x1), (6, .int u10)] → W p l e R s m args below meth c H locs cells slots Q (F0 m 47 ls []) := by
    intro S9 u10 h H locs ls w hl
    unfold f_X1_keepOnly_b47 at h
    refine lv_iinc (v := (u10 + 1)) (lv' := [(6, .int (u10 + 1)), (2, .int v2), (3, .ref v3), (4, .int v4), (5, .ref x1)]) hx hb dX1_keepOnly_47 hl (k := 4) rfl rfl (by decide) rfl (fun ls hl => ?_)
    refine lv_goto (tgt := 10) hx hb dX1_keepOnly_50 (by decide) ?_
    exact hnext10 _ (Option.some.inj h).symm H locs ls w (lv_sub hl [1, 2, 3, 4, 0] rfl)
  intro H locs ls w hl
  have hl : lv_has ls 7 [(2, .int v2), (3, .ref v3), (4, .int v4), (5, .ref x1), (6, .int t7)] := hl
  have w : Wd D G L A H0 S8 H locs := w
  refine lv_iload hx hb dX1_keepOnly_10 (lv_at hl 4 rfl) ?_
  refine lv_iload_n hx hb dX1_keepOnly_12 rfl (lv_at hl 0 rfl) ?_
  refine lv_icmp_ge (tgt := 53) hx hb dX1_keepOnly_13 (by decide) (fun cc13 => ?_) (fun cc13 => ?_)
  · have h := it cc13 h
    exact hE10 _ (hend10 _ (Option.some.inj h).symm).symm H locs ls w (lv_sub hl [] rfl)
  · have h := ie cc13 h
    refine lv_aload_n hx hb dX1_keepOnly_16 rfl (lv_at hl 1 rfl) ?_
    refine lv_iload hx hb dX1_keepOnly_17 (lv_at hl 4 rfl) ?_
    obtain ⟨x11, hx11, h⟩ := bs h
    refine o_ldI C w hx11 dX1_keepOnly_19 ?_
    refine lv_iload hx hb dX1_keepOnly_20 (lv_at hl 2 rfl) ?_
    refine lv_icmp_eq (tgt := 47) hx hb dX1_keepOnly_22 (by decide) (fun cc22 => ?_) (fun cc22 => ?_)
    · have h := it cc22 h
      exact hb47 _ _ h H locs ls w (lv_sub hl [0, 1, 2, 3, 4] rfl)
    · have h := ie cc22 h
      refine lv_aload hx hb dX1_keepOnly_25 (lv_at hl 3 rfl) ?_
      refine lv_iload hx hb dX1_keepOnly_27 (lv_at hl 4 rfl) ?_
      refine lv_bipush (v := 64) hx hb dX1_keepOnly_29 (by decide) ?_
      refine lv_idiv hx hb dX1_keepOnly_31 (by decide) ?_
      refine lv_dup2_11 hx hb dX1_keepOnly_32 rfl rfl ?_
      obtain ⟨x12, hx12, h⟩ := bs h
      refine o_ldJ C w hx12 dX1_keepOnly_33 ?_
      refine lv_lconst (v := 1) hx hb dX1_keepOnly_34 (by decide) ?_
      refine lv_iload hx hb dX1_keepOnly_35 (lv_at hl 4 rfl) ?_
      refine lv_bipush (v := 64) hx hb dX1_keepOnly_37 (by decide) ?_
      refine lv_irem hx hb dX1_keepOnly_39 (by decide) ?_
      refine lv_lshl hx hb dX1_keepOnly_40 rfl ?_
      refine lv_ldc2 (v := -1) hx hb C.1.2.2.2.1 (C.1.2.2.2.2 _ kc_X1_38) dX1_keepOnly_41 ?_
      refine lv_lxor hx hb dX1_keepOnly_44 ?_
      refine lv_land hx hb dX1_keepOnly_45 ?_
      obtain ⟨S13, hS13, h⟩ := bs h
      refine o_stJ C w hS13 dX1_keepOnly_46 (fun H locs w => ?_)
      exact hb47 _ _ h H locs ls w (lv_sub hl [0, 1, 2, 3, 4] rfl)
set_option maxHeartbeats 4000000 in
set_option maxRecDepth 100000 in
theorem c_X1_keepOnly (l : Launch) (D : va_G) (G : Nat → ClassId) (L : List Nat) (S : PH) (v0 : Nat) (v1 : Int32) (v2 : Int32) (v3 : Nat) (v4 : Int32) (r : PH) (h : f_X1_keepOnly S v0 v1 v2 v3 v4 = some r) : Met l yX1_keepOnly [Cond.code yX1_keepOnly cX1_keepOnly 7 none] ({ frames := 1, cells := 0, slots := 0, locals := 21 }) (va_Pc [.ref v0, .int v1, .int v2, .ref v3, .int v4] (PreU D G L S)) (Qv D G L r) 0 0 (inL L) := by
  refine Met.ofW (cc := cX1_keepOnly) (maxL := 7) (ret := none) (by decide) rfl ?_
  intro p e s m args below meth c s₁ B hml hv
  obtain ⟨rfl, hpre⟩ := hv
  obtain ⟨C, w⟩ := o_ent (own := RX1) rfl B hml hpre
  have hl := lv_entry ([.ref v0, .int v1, .int v2, .ref v3, .int v4]) (n := 7) (Nat.le_of_ble_eq_true rfl)
  rw [lg_entry_eq]
  generalize (lg_sl ([.ref v0, .int v1, .int v2, .ref v3, .int v4]) ++ List.replicate (7 - (lg_sl ([.ref v0, .int v1, .int v2, .ref v3, .int v4])).length) Slot.unset).toArray = ls at hl ⊢
  exact w_X1_keepOnly C (fun _ h => h) ⟨Nat.zero_le _, Nat.zero_le _⟩ ⟨rfl, rfl, Nat.le_of_ble_eq_true rfl, Nat.le_of_ble_eq_true rfl⟩ S v0 v1 v2 v3 v4 r h (fun S9 H locs ls pc w hv hd => by subst hv; exact o_vret C w B.returns B.notSynchronized hd) _ _ _ w hl

def f_X1_unite_L26 (S : PH) (v0 : Nat) (v3 : Int32) (v4 : Int32) (v5 : Int32) : Option ((Int32 × PH) ⊕ (PH)) :=
if (64 : Int32) ≤ v5 then (
some (.inr S))
else (
(gR S v0 1 1).bind fun x5 =>
(ldR 2 S x5 v3).bind fun x6 =>
(ldJ S x6 v5).bind fun x7 =>
(gR S v0 1 1).bind fun x8 =>
(ldR 2 S x8 v4).bind fun x9 =>
(ldJ S x9 v5).bind fun x10 =>
(stJ S x6 v5 (x7 &&& x10)).bind fun S11 =>
some (.inl ((v5 + 1), S11)))
def f_X1_unite_b90 (S : PH) (v0 : Nat) (v3 : Int32) (v4 : Int32) (v5 : Int32) : Option ((Int32 × PH) ⊕ (PH)) :=
some (.inl ((v5 + 1), S))
def f_X1_unite_L64 (S : PH) (v0 : Nat) (v3 : Int32) (v4 : Int32) (v5 : Int32) : Option ((Int32 × PH) ⊕ (PH)) :=
if (4 : Int32) ≤ v5 then (
some (.inr S))
else (
(gR S v0 1 0).bind fun x13 =>
(ldI S x13 v5).bind fun x14 =>
if x14 = v4 then (
(gR S v0 1 0).bind fun x15 =>
(stI S x15 v5 v3).bind fun S16 =>
f_X1_unite_b90 S16 v0 v3 v4 v5)
else (
f_X1_unite_b90 S v0 v3 v4 v5))
def f_X1_unite (S : PH) (v0 : Nat) (v1 : Int32) (v2 : Int32) : Option (Int32 × PH) :=
(gR S v0 1 0).bind fun x1 =>
(ldI S x1 v1).bind fun x2 =>
(gR S v0 1 0).bind fun x3 =>
(ldI S x3 v2).bind fun x4 =>
if x2 = x4 then (
some ((0 : Int32), S))
else (
(lpo (fun x : Int32 × PH => f_X1_unite_L26 x.2 v0 x2 x4 x.1) FU ((0 : Int32), S)).bind fun S12 =>
(lpo (fun x : Int32 × PH => f_X1_unite_L64 x.2 v0 x2 x4 x.1) FU ((0 : Int32), S12)).bind fun S17 =>
some ((1 : Int32), S17))
set_option maxHeartbeats 4000000 in
set_option maxRecDepth 100000 in
theorem w_X1_unite {p : Program} {l : Launch} {e : Env} {R : Room} {s : State} {m : MethodId} {args : Array Value} {below : List Frame} {meth : Method} {c : Code} {cells slots : Nat} {Q : State → Prop} {D : va_G} {G : Nat → ClassId} {L : List Nat} {A : Nat → Prop} {H0 : Heap} (C : CX p s m c args D G cX1_unite 6 RX1) (hLA : ∀ q ∈ L, A q) (hcs : cells ≤ R.cells ∧ slots ≤ R.slots)  (S : PH) (v0 : Nat) (v1 : Int32) (v2 : Int32) (r : Int32 × PH) (h : f_X1_unite S v0 v1 v2 = some r) (hret : ∀ (v : Int32) (S9 : PH) (H : Heap) (locs : List Loc) (ls : Array Slot) (pc : Nat), Wd D G L A H0 S9 H locs → narrow .boolean (.int v) = .int v → (v, S9) = r → decode cX1_unite pc = .ok (.ireturn, 1) → W p l e R s m args below meth c H locs cells slots Q (F0 m pc ls [.int v])) : ∀ (H : Heap) (locs : List Loc) (ls : Array Slot), Wd D G L A H0 S H locs → lv_has ls 6 [(0, .ref v0), (1, .int v1), (2, .int v2)] → W p l e R s m args below meth c H locs cells slots Q (F0 m 0 ls []) := by
  have hx := C.1.1
  have hb := C.1.2.1
  unfold f_X1_unite at h
  intro H locs ls w hl
  refine lv_aload_n hx hb dX1_unite_0 rfl (lv_at hl 0 rfl) ?_
  obtain ⟨x1, hx1, h⟩ := bs h
  refine o_gR C w hx1 fl_X1_9 dX1_unite_1 ?_
  refine lv_iload_n hx hb dX1_unite_4 rfl (lv_at hl 1 rfl) ?_
  obtain ⟨x2, hx2, h⟩ := bs h
  refine o_ldI C w hx2 dX1_unite_5 ?_
  refine lv_istore_n (lv' := [(3, .int x2), (0, .ref v0), (1, .int v1), (2, .int v2)]) hx hb dX1_unite_6 rfl hl (by decide) rfl (fun ls hl => ?_)
  refine lv_aload_n hx hb dX1_unite_7 rfl (lv_at hl 1 rfl) ?_
  obtain ⟨x3, hx3, h⟩ := bs h
  refine o_gR C w hx3 fl_X1_9 dX1_unite_8 ?_
  refine lv_iload_n hx hb dX1_unite_11 rfl (lv_at hl 3 rfl) ?_
  obtain ⟨x4, hx4, h⟩ := bs h
  refine o_ldI C w hx4 dX1_unite_12 ?_
  refine lv_istore (lv' := [(4, .int x4), (3, .int x2), (0, .ref v0), (1, .int v1), (2, .int v2)]) hx hb dX1_unite_13 hl (by decide) rfl (fun ls hl => ?_)
  refine lv_iload_n hx hb dX1_unite_15 rfl (lv_at hl 1 rfl) ?_
  refine lv_iload hx hb dX1_unite_16 (lv_at hl 0 rfl) ?_
  refine lv_icmp_ne (tgt := 23) hx hb dX1_unite_18 (by decide) (fun cc18 => ?_) (fun cc18 => ?_)
  · have h := ie cc18 h
    refine lv_iconst (v := 0) hx hb dX1_unite_23 (by decide) ?_
    refine lv_istore (lv' := [(5, .int (0 : Int32)), (4, .int x4), (3, .int x2), (0, .ref v0), (1, .int v1), (2, .int v2)]) hx hb dX1_unite_24 hl (by decide) rfl (fun ls hl => ?_)
    obtain ⟨S12, hL26, h⟩ := bs h
    have hE26 : ∀ (q27 : PH), S12 = q27 → ∀ (H : Heap) (locs : List Loc) (ls : Array Slot), Wd D G L A H0 q27 H locs → lv_has ls 6 [(0, .ref v0), (3, .int x2), (4, .int x4)] → W p l e R s m args below meth c H locs cells slots Q (F0 m 61 ls []) := by
      intro q27 he
      cases he
      intro H locs ls w hl
      refine lv_iconst (v := 0) hx hb dX1_unite_61 (by decide) ?_
      refine lv_istore (lv' := [(5, .int (0 : Int32)), (0, .ref v0), (3, .int x2), (4, .int x4)]) hx hb dX1_unite_62 hl (by decide) rfl (fun ls hl => ?_)
      obtain ⟨S17, hL64, h⟩ := bs h
      have hE64 : ∀ (q18 : PH), S17 = q18 → ∀ (H : Heap) (locs : List Loc) (ls : Array Slot), Wd D G L A H0 q18 H locs → lv_has ls 6 [] → W p l e R s m args below meth c H locs cells slots Q (F0 m 96 ls []) := by
        intro q18 he
        cases he
        intro H locs ls w hl
        refine lv_iconst (v := 1) hx hb dX1_unite_96 (by decide) ?_
        exact hret _ _ _ _ _ _ w rfl (Option.some.inj h) dX1_unite_97
      refine lpo_W (P := fun x : Int32 × PH => ∀ (H : Heap) (locs : List Loc) (ls : Array Slot), Wd D G L A H0 x.2 H locs → lv_has ls 6 [(0, .ref v0), (3, .int x2), (4, .int x4), (5, .int x.1)] → W p l e R s m args below meth c H locs cells slots Q (F0 m 64 ls [])) ?_ FU _ hL64 H locs ls w (lv_sub hl [1, 2, 3, 0] rfl)
      intro x y64 h hnext64 hend64
      obtain ⟨t19, S20⟩ := x
      have h : f_X1_unite_L64 S20 v0 x2 x4 t19 = some y64 := h
      unfold f_X1_unite_L64 at h
      have hb90 : ∀ (S21 : PH) (u22 : Int32), f_X1_unite_b90 S21 v0 x2 x4 u22 = some y64 → ∀ (H : Heap) (locs : List Loc) (ls : Array Slot), Wd D G L A H0 S21 H locs → lv_has ls 6 [(0, .ref v0), (3, .int x2), (4, .int x4), (5, .int u22)] → W p l e R s m args below meth c H locs cells slots Q (F0 m 90 ls []) := by
        intro S21 u22 h H locs ls w hl
        unfold f_X1_unite_b90 at h
        refine lv_iinc (v := (u22 + 1)) (lv' := [(5, .int (u22 + 1)), (0, .ref v0), (3, .int x2), (4, .int x4)]) hx hb dX1_unite_90 hl (k := 3) rfl rfl (by decide) rfl (fun ls hl => ?_)
        refine lv_goto (tgt := 64) hx hb dX1_unite_93 (by decide) ?_
        exact hnext64 _ (Option.some.inj h).symm H locs ls w (lv_sub hl [1, 2, 3, 0] rfl)
      intro H locs ls w hl
      have hl : lv_has ls 6 [(0, .ref v0), (3, .int x2), (4, .int x4), (5, .int t19)] := hl
      have w : Wd D G L A H0 S20 H locs := w
      refine lv_iload hx hb dX1_unite_64 (lv_at hl 3 rfl) ?_
      refine lv_iconst (v := 4) hx hb dX1_unite_66 (by decide) ?_
      refine lv_icmp_ge (tgt := 96) hx hb dX1_unite_67 (by decide) (fun cc67 => ?_) (fun cc67 => ?_)
      · have h := it cc67 h
        exact hE64 _ (hend64 _ (Option.some.inj h).symm).symm H locs ls w (lv_sub hl [] rfl)
      · have h := ie cc67 h
        refine lv_aload_n hx hb dX1_unite_70 rfl (lv_at hl 0 rfl) ?_
        obtain ⟨x23, hx23, h⟩ := bs h
        refine o_gR C w hx23 fl_X1_9 dX1_unite_71 ?_
        refine lv_iload hx hb dX1_unite_74 (lv_at hl 3 rfl) ?_
        obtain ⟨x24, hx24, h⟩ := bs h
        refine o_ldI C w hx24 dX1_unite_76 ?_
        refine lv_iload hx hb dX1_unite_77 (lv_at hl 2 rfl) ?_
        refine lv_icmp_ne (tgt := 90) hx hb dX1_unite_79 (by decide) (fun cc79 => ?_) (fun cc79 => ?_)
        · have h := ie cc79 h
          exact hb90 _ _ h H locs ls w (lv_sub hl [0, 1, 2, 3] rfl)
        · have h := it cc79 h
          refine lv_aload_n hx hb dX1_unite_82 rfl (lv_at hl 0 rfl) ?_
          obtain ⟨x25, hx25, h⟩ := bs h
          refine o_gR C w hx25 fl_X1_9 dX1_unite_83 ?_
          refine lv_iload hx hb dX1_unite_86 (lv_at hl 3 rfl) ?_
          refine lv_iload_n hx hb dX1_unite_88 rfl (lv_at hl 1 rfl) ?_
          obtain ⟨S26, hS26, h⟩ := bs h
          refine o_stI C w hS26 dX1_unite_89 (fun H locs w => ?_)
          exact hb90 _ _ h H locs ls w (lv_sub hl [0, 1, 2, 3] rfl)
    refine lpo_W (P := fun x : Int32 × PH => ∀ (H : Heap) (locs : List Loc) (ls : Array Slot), Wd D G L A H0 x.2 H locs → lv_has ls 6 [(0, .ref v0), (3, .int x2), (4, .int x4), (5, .int x.1)] → W p l e R s m args below meth c H locs cells slots Q (F0 m 26 ls [])) ?_ FU _ hL26 H locs ls w (lv_sub hl [3, 2, 1, 0] rfl)
    intro x y26 h hnext26 hend26
    obtain ⟨t28, S29⟩ := x
    have h : f_X1_unite_L26 S29 v0 x2 x4 t28 = some y26 := h
    unfold f_X1_unite_L26 at h
    intro H locs ls w hl
    have hl : lv_has ls 6 [(0, .ref v0), (3, .int x2), (4, .int x4), (5, .int t28)] := hl
    have w : Wd D G L A H0 S29 H locs := w
    refine lv_iload hx hb dX1_unite_26 (lv_at hl 3 rfl) ?_
    refine lv_bipush (v := 64) hx hb dX1_unite_28 (by decide) ?_
    refine lv_icmp_ge (tgt := 61) hx hb dX1_unite_30 (by decide) (fun cc30 => ?_) (fun cc30 => ?_)
    · have h := it cc30 h
      exact hE26 _ (hend26 _ (Option.some.inj h).symm).symm H locs ls w (lv_sub hl [0, 1, 2] rfl)
    · have h := ie cc30 h
      refine lv_aload_n hx hb dX1_unite_33 rfl (lv_at hl 0 rfl) ?_
      obtain ⟨x30, hx30, h⟩ := bs h
      refine o_gR C w hx30 fl_X1_17 dX1_unite_34 ?_
      refine lv_iload_n hx hb dX1_unite_37 rfl (lv_at hl 1 rfl) ?_
      obtain ⟨x31, hx31, h⟩ := bs h
      refine o_ldR2 C w hx31 dX1_unite_38 ?_
      refine lv_iload hx hb dX1_unite_39 (lv_at hl 3 rfl) ?_
      refine lv_dup2_11 hx hb dX1_unite_41 rfl rfl ?_
      obtain ⟨x32, hx32, h⟩ := bs h
      refine o_ldJ C w hx32 dX1_unite_42 ?_
      refine lv_aload_n hx hb dX1_unite_43 rfl (lv_at hl 0 rfl) ?_
      obtain ⟨x33, hx33, h⟩ := bs h
      refine o_gR C w hx33 fl_X1_17 dX1_unite_44 ?_
      refine lv_iload hx hb dX1_unite_47 (lv_at hl 2 rfl) ?_
      obtain ⟨x34, hx34, h⟩ := bs h
      refine o_ldR2 C w hx34 dX1_unite_49 ?_
      refine lv_iload hx hb dX1_unite_50 (lv_at hl 3 rfl) ?_
      obtain ⟨x35, hx35, h⟩ := bs h
      refine o_ldJ C w hx35 dX1_unite_52 ?_
      refine lv_land hx hb dX1_unite_53 ?_
      obtain ⟨S36, hS36, h⟩ := bs h
      refine o_stJ C w hS36 dX1_unite_54 (fun H locs w => ?_)
      refine lv_iinc (v := (t28 + 1)) (lv' := [(5, .int (t28 + 1)), (0, .ref v0), (3, .int x2), (4, .int x4)]) hx hb dX1_unite_55 hl (k := 3) rfl rfl (by decide) rfl (fun ls hl => ?_)
      refine lv_goto (tgt := 26) hx hb dX1_unite_58 (by decide) ?_
      exact hnext26 _ (Option.some.inj h).symm H locs ls w (lv_sub hl [1, 2, 3, 0] rfl)
  · have h := it cc18 h
    refine lv_iconst (v := 0) hx hb dX1_unite_21 (by decide) ?_
    exact hret _ _ _ _ _ _ w rfl (Option.some.inj h) dX1_unite_22
set_option maxHeartbeats 4000000 in
set_option maxRecDepth 100000 in
theorem c_X1_unite (l : Launch) (D : va_G) (G : Nat → ClassId) (L : List Nat) (S : PH) (v0 : Nat) (v1 : Int32) (v2 : Int32) (r : Int32 × PH) (h : f_X1_unite S v0 v1 v2 = some r) : Met l yX1_unite [Cond.code yX1_unite cX1_unite 6 (some .boolean)] ({ frames := 0, cells := 0, slots := 0, locals := 0 }) (va_Pc [.ref v0, .int v1, .int v2] (PreU D G L S)) (Qi D G L r.1 r.2) 0 0 (inL L) := by
  refine Met.ofW (cc := cX1_unite) (maxL := 6) (ret := (some .boolean)) (by decide) rfl ?_
  intro p e s m args below meth c s₁ B hml hv
  obtain ⟨rfl, hpre⟩ := hv
  obtain ⟨C, w⟩ := o_ent (own := RX1) rfl B hml hpre
  have hl := lv_entry ([.ref v0, .int v1, .int v2]) (n := 6) (Nat.le_of_ble_eq_true rfl)
  rw [lg_entry_eq]
  generalize (lg_sl ([.ref v0, .int v1, .int v2]) ++ List.replicate (6 - (lg_sl ([.ref v0, .int v1, .int v2])).length) Slot.unset).toArray = ls at hl ⊢
  exact w_X1_unite C (fun _ h => h) ⟨Nat.zero_le _, Nat.zero_le _⟩  S v0 v1 v2 r h (fun v S9 H locs ls pc w hz hv hd => by subst hv; exact o_zret C w B.returns B.notSynchronized hz hd) _ _ _ w hl

def f_X1_copyFrom_L16 (S : PH) (v0 : Nat) (v1 : Nat) (v2 : Int32) : Option ((Int32 × PH) ⊕ (PH)) :=
if (4 : Int32) ≤ v2 then (
some (.inr S))
else (
(gR S v1 1 1).bind fun x4 =>
(ldR 2 S x4 v2).bind fun x5 =>
(gR S v0 1 1).bind fun x6 =>
(ldR 2 S x6 v2).bind fun x7 =>
(cpJ S x5 (0 : Int32) x7 (0 : Int32) (64 : Int32)).bind fun S8 =>
some (.inl ((v2 + 1), S8)))
def f_X1_copyFrom (S : PH) (v0 : Nat) (v1 : Nat) : Option (PH) :=
(gR S v1 1 0).bind fun x1 =>
(gR S v0 1 0).bind fun x2 =>
(cpI S x1 (0 : Int32) x2 (0 : Int32) (4 : Int32)).bind fun S3 =>
(lpo (fun x : Int32 × PH => f_X1_copyFrom_L16 x.2 v0 v1 x.1) FU ((0 : Int32), S3)).bind fun S9 =>
some S9
set_option maxHeartbeats 4000000 in
set_option maxRecDepth 100000 in
theorem w_X1_copyFrom {p : Program} {l : Launch} {e : Env} {R : Room} {s : State} {m : MethodId} {args : Array Value} {below : List Frame} {meth : Method} {c : Code} {cells slots : Nat} {Q : State → Prop} {D : va_G} {G : Nat → ClassId} {L : List Nat} {A : Nat → Prop} {H0 : Heap} (C : CX p s m c args D G cX1_copyFrom 3 RX1) (hLA : ∀ q ∈ L, A q) (hcs : cells ≤ R.cells ∧ slots ≤ R.slots) (hRm : 1 ≤ R.frames ∧ 40 ≤ R.locals)  (S : PH) (v0 : Nat) (v1 : Nat) (r : PH) (h : f_X1_copyFrom S v0 v1 = some r) (hret : ∀ (S9 : PH) (H : Heap) (locs : List Loc) (ls : Array Slot) (pc : Nat), Wd D G L A H0 S9 H locs → S9 = r → decode cX1_copyFrom pc = .ok (.return_, 1) → W p l e R s m args below meth c H locs cells slots Q (F0 m pc ls [])) : ∀ (H : Heap) (locs : List Loc) (ls : Array Slot), Wd D G L A H0 S H locs → lv_has ls 3 [(0, .ref v0), (1, .ref v1)] → W p l e R s m args below meth c H locs cells slots Q (F0 m 0 ls []) := by
  have hx := C.1.1
  have hb := C.1.2.1
  unfold f_X1_copyFrom at h
  intro H locs ls w hl
  refine lv_aload_n hx hb dX1_copyFrom_0 rfl (lv_at hl 1 rfl) ?_
  obtain ⟨x1, hx1, h⟩ := bs h
  refine o_gR C w hx1 fl_X1_9 dX1_copyFrom_1 ?_
  refine lv_iconst (v := 0) hx hb dX1_copyFrom_4 (by decide) ?_
  refine lv_aload_n hx hb dX1_copyFrom_5 rfl (lv_at hl 0 rfl) ?_
  obtain ⟨x2, hx2, h⟩ := bs h
  refine o_gR C w hx2 fl_X1_9 dX1_copyFrom_6 ?_
  refine lv_iconst (v := 0) hx hb dX1_copyFrom_9 (by decide) ?_
  refine lv_iconst (v := 4) hx hb dX1_copyFrom_10 (by decide) ?_
  obtain ⟨S3, hS3, h⟩ := bs h
  refine o_cpI C w hl.1 hS3 kac_X1_40 kac_n kac_s kac_i hRm.1 (Nat.le_trans (Nat.le_of_ble_eq_true rfl) hRm.2) dX1_copyFrom_11 (fun H locs w => ?_)
  refine lv_iconst (v := 0) hx hb dX1_copyFrom_14 (by decide) ?_
  refine lv_istore_n (lv' := [(2, .int (0 : Int32)), (0, .ref v0), (1, .ref v1)]) hx hb dX1_copyFrom_15 rfl hl (by decide) rfl (fun ls hl => ?_)
  obtain ⟨S9, hL16, h⟩ := bs h
  have hE16 : ∀ (q10 : PH), S9 = q10 → ∀ (H : Heap) (locs : List Loc) (ls : Array Slot), Wd D G L A H0 q10 H locs → lv_has ls 3 [] → W p l e R s m args below meth c H locs cells slots Q (F0 m 46 ls []) := by
    intro q10 he
    cases he
    intro H locs ls w hl
    exact hret _ _ _ _ _ w (Option.some.inj h) dX1_copyFrom_46
  refine lpo_W (P := fun x : Int32 × PH => ∀ (H : Heap) (locs : List Loc) (ls : Array Slot), Wd D G L A H0 x.2 H locs → lv_has ls 3 [(0, .ref v0), (1, .ref v1), (2, .int x.1)] → W p l e R s m args below meth c H locs cells slots Q (F0 m 16 ls [])) ?_ FU _ hL16 H locs ls w (lv_sub hl [1, 2, 0] rfl)
  intro x y16 h hnext16 hend16
  obtain ⟨t11, S12⟩ := x
  have h : f_X1_copyFrom_L16 S12 v0 v1 t11 = some y16 := h
  unfold f_X1_copyFrom_L16 at h
  intro H locs ls w hl
  have hl : lv_has ls 3 [(0, .ref v0), (1, .ref v1), (2, .int t11)] := hl
  have w : Wd D G L A H0 S12 H locs := w
  refine lv_iload_n hx hb dX1_copyFrom_16 rfl (lv_at hl 2 rfl) ?_
  refine lv_iconst (v := 4) hx hb dX1_copyFrom_17 (by decide) ?_
  refine lv_icmp_ge (tgt := 46) hx hb dX1_copyFrom_18 (by decide) (fun cc18 => ?_) (fun cc18 => ?_)
  · have h := it cc18 h
    exact hE16 _ (hend16 _ (Option.some.inj h).symm).symm H locs ls w (lv_sub hl [] rfl)
  · have h := ie cc18 h
    refine lv_aload_n hx hb dX1_copyFrom_21 rfl (lv_at hl 1 rfl) ?_
    obtain ⟨x13, hx13, h⟩ := bs h
    refine o_gR C w hx13 fl_X1_17 dX1_copyFrom_22 ?_
    refine lv_iload_n hx hb dX1_copyFrom_25 rfl (lv_at hl 2 rfl) ?_
    obtain ⟨x14, hx14, h⟩ := bs h
    refine o_ldR2 C w hx14 dX1_copyFrom_26 ?_
    refine lv_iconst (v := 0) hx hb dX1_copyFrom_27 (by decide) ?_
    refine lv_aload_n hx hb dX1_copyFrom_28 rfl (lv_at hl 0 rfl) ?_
    obtain ⟨x15, hx15, h⟩ := bs h
    refine o_gR C w hx15 fl_X1_17 dX1_copyFrom_29 ?_
    refine lv_iload_n hx hb dX1_copyFrom_32 rfl (lv_at hl 2 rfl) ?_
    obtain ⟨x16, hx16, h⟩ := bs h
    refine o_ldR2 C w hx16 dX1_copyFrom_33 ?_
    refine lv_iconst (v := 0) hx hb dX1_copyFrom_34 (by decide) ?_
    refine lv_bipush (v := 64) hx hb dX1_copyFrom_35 (by decide) ?_
    obtain ⟨S17, hS17, h⟩ := bs h
    refine o_cpJ C w hl.1 hS17 kac_X1_40 kac_n kac_s kac_i hRm.1 (Nat.le_trans (Nat.le_of_ble_eq_true rfl) hRm.2) dX1_copyFrom_37 (fun H locs w => ?_)
    refine lv_iinc (v := (t11 + 1)) (lv' := [(2, .int (t11 + 1)), (0, .ref v0), (1, .ref v1)]) hx hb dX1_copyFrom_40 hl (k := 2) rfl rfl (by decide) rfl (fun ls hl => ?_)
    refine lv_goto (tgt := 16) hx hb dX1_copyFrom_43 (by decide) ?_
    exact hnext16 _ (Option.some.inj h).symm H locs ls w (lv_sub hl [1, 2, 0] rfl)
set_option maxHeartbeats 4000000 in
set_option maxRecDepth 100000 in
theorem c_X1_copyFrom (l : Launch) (D : va_G) (G : Nat → ClassId) (L : List Nat) (S : PH) (v0 : Nat) (v1 : Nat) (r : PH) (h : f_X1_copyFrom S v0 v1 = some r) : Met l yX1_copyFrom [Cond.code yX1_copyFrom cX1_copyFrom 3 none] ({ frames := 1, cells := 0, slots := 0, locals := 40 }) (va_Pc [.ref v0, .ref v1] (PreU D G L S)) (Qv D G L r) 0 0 (inL L) := by
  refine Met.ofW (cc := cX1_copyFrom) (maxL := 3) (ret := none) (by decide) rfl ?_
  intro p e s m args below meth c s₁ B hml hv
  obtain ⟨rfl, hpre⟩ := hv
  obtain ⟨C, w⟩ := o_ent (own := RX1) rfl B hml hpre
  have hl := lv_entry ([.ref v0, .ref v1]) (n := 3) (Nat.le_of_ble_eq_true rfl)
  rw [lg_entry_eq]
  generalize (lg_sl ([.ref v0, .ref v1]) ++ List.replicate (3 - (lg_sl ([.ref v0, .ref v1])).length) Slot.unset).toArray = ls at hl ⊢
  exact w_X1_copyFrom C (fun _ h => h) ⟨Nat.zero_le _, Nat.zero_le _⟩ ⟨Nat.le_of_ble_eq_true rfl, Nat.le_of_ble_eq_true rfl⟩  S v0 v1 r h (fun S9 H locs ls pc w hv hd => by subst hv; exact o_vret C w B.returns B.notSynchronized hd) _ _ _ w hl

def f_X2_hasRoomFor (S : PH) (v0 : Nat) (v1 : Int32) (v2 : Int32) (v3 : Int32) : Option (Int32) :=
(gI S v0 2 8).bind fun x1 =>
if (10 : Int32) ≤ x1 then (
some (0 : Int32))
else (
if v1 < v2 then (
some (0 : Int32))
else (
if v3 < v1 then (
some (0 : Int32))
else (
(gI S v0 2 9).bind fun x2 =>
if (4096 : Int32) < (x2 * ((v3 - v2) + (1 : Int32))) then (
some (0 : Int32))
else (
(gI S v0 2 10).bind fun x3 =>
if (60 : Int32) < (x3 + v3) then (
some (0 : Int32))
else (
some (1 : Int32))))))
set_option maxHeartbeats 4000000 in
set_option maxRecDepth 100000 in
theorem w_X2_hasRoomFor {p : Program} {l : Launch} {e : Env} {R : Room} {s : State} {m : MethodId} {args : Array Value} {below : List Frame} {meth : Method} {c : Code} {cells slots : Nat} {Q : State → Prop} {D : va_G} {G : Nat → ClassId} {L : List Nat} {A : Nat → Prop} {H0 : Heap} (C : CX p s m c args D G cX2_hasRoomFor 4 RX2) (hLA : ∀ q ∈ L, A q) (hcs : cells ≤ R.cells ∧ slots ≤ R.slots)  (S : PH) (v0 : Nat) (v1 : Int32) (v2 : Int32) (v3 : Int32) (r : Int32) (h : f_X2_hasRoomFor S v0 v1 v2 v3 = some r) (hret : ∀ (v : Int32) (H : Heap) (locs : List Loc) (ls : Array Slot) (pc : Nat), Wd D G L A H0 S H locs → narrow .boolean (.int v) = .int v → v = r → decode cX2_hasRoomFor pc = .ok (.ireturn, 1) → W p l e R s m args below meth c H locs cells slots Q (F0 m pc ls [.int v])) : ∀ (H : Heap) (locs : List Loc) (ls : Array Slot), Wd D G L A H0 S H locs → lv_has ls 4 [(0, .ref v0), (1, .int v1), (2, .int v2), (3, .int v3)] → W p l e R s m args below meth c H locs cells slots Q (F0 m 0 ls []) := by
  have hx := C.1.1
  have hb := C.1.2.1
  unfold f_X2_hasRoomFor at h
  intro H locs ls w hl
  refine lv_aload_n hx hb dX2_hasRoomFor_0 rfl (lv_at hl 0 rfl) ?_
  obtain ⟨x1, hx1, h⟩ := bs h
  refine o_gI C w hx1 fl_X2_37 dX2_hasRoomFor_1 ?_
  refine lv_bipush (v := 10) hx hb dX2_hasRoomFor_4 (by decide) ?_
  refine lv_icmp_ge (tgt := 50) hx hb dX2_hasRoomFor_6 (by decide) (fun cc6 => ?_) (fun cc6 => ?_)
  · have h := it cc6 h
    refine lv_iconst (v := 0) hx hb dX2_hasRoomFor_50 (by decide) ?_
    exact hret _ _ _ _ _ w rfl (Option.some.inj h) dX2_hasRoomFor_51
  · have h := ie cc6 h
    refine lv_iload_n hx hb dX2_hasRoomFor_9 rfl (lv_at hl 1 rfl) ?_
    refine lv_iload_n hx hb dX2_hasRoomFor_10 rfl (lv_at hl 2 rfl) ?_
    refine lv_icmp_lt (tgt := 50) hx hb dX2_hasRoomFor_11 (by decide) (fun cc11 => ?_) (fun cc11 => ?_)
    · have h := it cc11 h
      refine lv_iconst (v := 0) hx hb dX2_hasRoomFor_50 (by decide) ?_
      exact hret _ _ _ _ _ w rfl (Option.some.inj h) dX2_hasRoomFor_51
    · have h := ie cc11 h
      refine lv_iload_n hx hb dX2_hasRoomFor_14 rfl (lv_at hl 1 rfl) ?_
      refine lv_iload_n hx hb dX2_hasRoomFor_15 rfl (lv_at hl 3 rfl) ?_
      refine lv_icmp_gt (tgt := 50) hx hb dX2_hasRoomFor_16 (by decide) (fun cc16 => ?_) (fun cc16 => ?_)
      · have h := it cc16 h
        refine lv_iconst (v := 0) hx hb dX2_hasRoomFor_50 (by decide) ?_
        exact hret _ _ _ _ _ w rfl (Option.some.inj h) dX2_hasRoomFor_51
      · have h := ie cc16 h
        refine lv_aload_n hx hb dX2_hasRoomFor_19 rfl (lv_at hl 0 rfl) ?_
        obtain ⟨x2, hx2, h⟩ := bs h
        refine o_gI C w hx2 fl_X2_40 dX2_hasRoomFor_20 ?_
        refine lv_iload_n hx hb dX2_hasRoomFor_23 rfl (lv_at hl 3 rfl) ?_
        refine lv_iload_n hx hb dX2_hasRoomFor_24 rfl (lv_at hl 2 rfl) ?_
        refine lv_isub hx hb dX2_hasRoomFor_25 ?_
        refine lv_iconst (v := 1) hx hb dX2_hasRoomFor_26 (by decide) ?_
        refine lv_iadd hx hb dX2_hasRoomFor_27 ?_
        refine lv_imul hx hb dX2_hasRoomFor_28 ?_
        refine lv_sipush (v := 4096) hx hb dX2_hasRoomFor_29 (by decide) ?_
        refine lv_icmp_gt (tgt := 50) hx hb dX2_hasRoomFor_32 (by decide) (fun cc32 => ?_) (fun cc32 => ?_)
        · have h := it cc32 h
          refine lv_iconst (v := 0) hx hb dX2_hasRoomFor_50 (by decide) ?_
          exact hret _ _ _ _ _ w rfl (Option.some.inj h) dX2_hasRoomFor_51
        · have h := ie cc32 h
          refine lv_aload_n hx hb dX2_hasRoomFor_35 rfl (lv_at hl 0 rfl) ?_
          obtain ⟨x3, hx3, h⟩ := bs h
          refine o_gI C w hx3 fl_X2_43 dX2_hasRoomFor_36 ?_
          refine lv_iload_n hx hb dX2_hasRoomFor_39 rfl (lv_at hl 3 rfl) ?_
          refine lv_iadd hx hb dX2_hasRoomFor_40 ?_
          refine lv_bipush (v := 60) hx hb dX2_hasRoomFor_41 (by decide) ?_
          refine lv_icmp_gt (tgt := 50) hx hb dX2_hasRoomFor_43 (by decide) (fun cc43 => ?_) (fun cc43 => ?_)
          · have h := it cc43 h
            refine lv_iconst (v := 0) hx hb dX2_hasRoomFor_50 (by decide) ?_
            exact hret _ _ _ _ _ w rfl (Option.some.inj h) dX2_hasRoomFor_51
          · have h := ie cc43 h
            refine lv_iconst (v := 1) hx hb dX2_hasRoomFor_46 (by decide) ?_
            refine lv_goto (tgt := 51) hx hb dX2_hasRoomFor_47 (by decide) ?_
            exact hret _ _ _ _ _ w rfl (Option.some.inj h) dX2_hasRoomFor_51
set_option maxHeartbeats 4000000 in
set_option maxRecDepth 100000 in
theorem c_X2_hasRoomFor (l : Launch) (D : va_G) (G : Nat → ClassId) (L : List Nat) (S : PH) (v0 : Nat) (v1 : Int32) (v2 : Int32) (v3 : Int32) (r : Int32) (h : f_X2_hasRoomFor S v0 v1 v2 v3 = some r) : Met l yX2_hasRoomFor [Cond.code yX2_hasRoomFor cX2_hasRoomFor 4 (some .boolean)] ({ frames := 0, cells := 0, slots := 0, locals := 0 }) (va_Pc [.ref v0, .int v1, .int v2, .int v3] (PreU D G L S)) (Qi D G L r S) 0 0 (inL L) := by
  refine Met.ofW (cc := cX2_hasRoomFor) (maxL := 4) (ret := (some .boolean)) (by decide) rfl ?_
  intro p e s m args below meth c s₁ B hml hv
  obtain ⟨rfl, hpre⟩ := hv
  obtain ⟨C, w⟩ := o_ent (own := RX2) rfl B hml hpre
  have hl := lv_entry ([.ref v0, .int v1, .int v2, .int v3]) (n := 4) (Nat.le_of_ble_eq_true rfl)
  rw [lg_entry_eq]
  generalize (lg_sl ([.ref v0, .int v1, .int v2, .int v3]) ++ List.replicate (4 - (lg_sl ([.ref v0, .int v1, .int v2, .int v3])).length) Slot.unset).toArray = ls at hl ⊢
  exact w_X2_hasRoomFor C (fun _ h => h) ⟨Nat.zero_le _, Nat.zero_le _⟩  S v0 v1 v2 v3 r h (fun v H locs ls pc w hz hv hd => by subst hv; exact o_zret C w B.returns B.notSynchronized hz hd) _ _ _ w hl

def f_X2_valueCount (S : PH) (v0 : Nat) (v1 : Int32) : Option (Int32) :=
(gR S v0 2 3).bind fun x1 =>
(ldI S x1 v1).bind fun x2 =>
(gR S v0 2 2).bind fun x3 =>
(ldI S x3 v1).bind fun x4 =>
some ((x2 - x4) + (1 : Int32))
set_option maxHeartbeats 4000000 in
set_option maxRecDepth 100000 in
theorem w_X2_valueCount {p : Program} {l : Launch} {e : Env} {R : Room} {s : State} {m : MethodId} {args : Array Value} {below : List Frame} {meth : Method} {c : Code} {cells slots : Nat} {Q : State → Prop} {D : va_G} {G : Nat → ClassId} {L : List Nat} {A : Nat → Prop} {H0 : Heap} (C : CX p s m c args D G cX2_valueCount 2 RX2) (hLA : ∀ q ∈ L, A q) (hcs : cells ≤ R.cells ∧ slots ≤ R.slots)  (S : PH) (v0 : Nat) (v1 : Int32) (r : Int32) (h : f_X2_valueCount S v0 v1 = some r) (hret : ∀ (v : Int32) (H : Heap) (locs : List Loc) (ls : Array Slot) (pc : Nat), Wd D G L A H0 S H locs → v = r → decode cX2_valueCount pc = .ok (.ireturn, 1) → W p l e R s m args below meth c H locs cells slots Q (F0 m pc ls [.int v])) : ∀ (H : Heap) (locs : List Loc) (ls : Array Slot), Wd D G L A H0 S H locs → lv_has ls 2 [(0, .ref v0), (1, .int v1)] → W p l e R s m args below meth c H locs cells slots Q (F0 m 0 ls []) := by
  have hx := C.1.1
  have hb := C.1.2.1
  unfold f_X2_valueCount at h
  intro H locs ls w hl
  refine lv_aload_n hx hb dX2_valueCount_0 rfl (lv_at hl 0 rfl) ?_
  obtain ⟨x1, hx1, h⟩ := bs h
  refine o_gR C w hx1 fl_X2_21 dX2_valueCount_1 ?_
  refine lv_iload_n hx hb dX2_valueCount_4 rfl (lv_at hl 1 rfl) ?_
  obtain ⟨x2, hx2, h⟩ := bs h
  refine o_ldI C w hx2 dX2_valueCount_5 ?_
  refine lv_aload_n hx hb dX2_valueCount_6 rfl (lv_at hl 0 rfl) ?_
  obtain ⟨x3, hx3, h⟩ := bs h
  refine o_gR C w hx3 fl_X2_18 dX2_valueCount_7 ?_
  refine lv_iload_n hx hb dX2_valueCount_10 rfl (lv_at hl 1 rfl) ?_
  obtain ⟨x4, hx4, h⟩ := bs h
  refine o_ldI C w hx4 dX2_valueCount_11 ?_
  refine lv_isub hx hb dX2_valueCount_12 ?_
  refine lv_iconst (v := 1) hx hb dX2_valueCount_13 (by decide) ?_
  refine lv_iadd hx hb dX2_valueCount_14 ?_
  exact hret _ _ _ _ _ w (Option.some.inj h) dX2_valueCount_15
set_option maxHeartbeats 4000000 in
set_option maxRecDepth 100000 in
theorem c_X2_valueCount (l : Launch) (D : va_G) (G : Nat → ClassId) (L : List Nat) (S : PH) (v0 : Nat) (v1 : Int32) (r : Int32) (h : f_X2_valueCount S v0 v1 = some r) : Met l yX2_valueCount [Cond.code yX2_valueCount cX2_valueCount 2 (some .int)] ({ frames := 0, cells := 0, slots := 0, locals := 0 }) (va_Pc [.ref v0, .int v1] (PreU D G L S)) (Qi D G L r S) 0 0 (inL L) := by
  refine Met.ofW (cc := cX2_valueCount) (maxL := 2) (ret := (some .int)) (by decide) rfl ?_
  intro p e s m args below meth c s₁ B hml hv
  obtain ⟨rfl, hpre⟩ := hv
  obtain ⟨C, w⟩ := o_ent (own := RX2) rfl B hml hpre
  have hl := lv_entry ([.ref v0, .int v1]) (n := 2) (Nat.le_of_ble_eq_true rfl)
  rw [lg_entry_eq]
  generalize (lg_sl ([.ref v0, .int v1]) ++ List.replicate (2 - (lg_sl ([.ref v0, .int v1])).length) Slot.unset).toArray = ls at hl ⊢
  exact w_X2_valueCount C (fun _ h => h) ⟨Nat.zero_le _, Nat.zero_le _⟩  S v0 v1 r h (fun v H locs ls pc w hv hd => by subst hv; exact o_iret C w B.returns B.notSynchronized hd) _ _ _ w hl

def f_X2_add (S : PH) (v0 : Nat) (v1 : Int32) (v2 : Int32) (v3 : Int32) (v4 : Int32) (v5 : Int32) : Option (PH) :=
(gR S v0 2 1).bind fun x1 =>
(gI S v0 2 8).bind fun x2 =>
(stI S x1 x2 v1).bind fun S3 =>
(gR S3 v0 2 2).bind fun x4 =>
(gI S3 v0 2 8).bind fun x5 =>
(stI S3 x4 x5 v3).bind fun S6 =>
(gR S6 v0 2 3).bind fun x7 =>
(gI S6 v0 2 8).bind fun x8 =>
(stI S6 x7 x8 v4).bind fun S9 =>
(gR S9 v0 2 4).bind fun x10 =>
(gI S9 v0 2 8).bind fun x11 =>
(stI S9 x10 x11 v5).bind fun S12 =>
(gR S12 v0 2 5).bind fun x13 =>
(gI S12 v0 2 8).bind fun x14 =>
(stI S12 x13 x14 v2).bind fun S15 =>
(gR S15 v0 2 6).bind fun x16 =>
(gI S15 v0 2 8).bind fun x17 =>
(gI S15 v0 2 11).bind fun x18 =>
(stI S15 x16 x17 x18).bind fun S19 =>
(gR S19 v0 2 0).bind fun x20 =>
(gI S19 v0 2 8).bind fun x21 =>
(stI S19 x20 v1 x21).bind fun S22 =>
(gI S22 v0 2 11).bind fun x23 =>
(gI S22 v0 2 8).bind fun x24 =>
(ckO S22 v0 2).bind fun _ =>
(f_X2_valueCount S22 v0 x24).bind fun x25 =>
(pI S22 v0 2 11 (x23 + x25)).bind fun S26 =>
(gI S26 v0 2 9).bind fun x27 =>
(gI S26 v0 2 8).bind fun x28 =>
(ckO S26 v0 2).bind fun _ =>
(f_X2_valueCount S26 v0 x28).bind fun x29 =>
(pI S26 v0 2 9 (x27 * x29)).bind fun S30 =>
(gI S30 v0 2 10).bind fun x31 =>
(pI S30 v0 2 10 (x31 + v4)).bind fun S32 =>
(gI S32 v0 2 8).bind fun x33 =>
(pI S32 v0 2 8 (x33 + (1 : Int32))).bind fun S34 =>
some S34
set_option maxHeartbeats 4000000 in
set_option maxRecDepth 100000 in
theorem w_X2_add {p : Program} {l : Launch} {e : Env} {R : Room} {s : State} {m : MethodId} {args : Array Value} {below : List Frame} {meth : Method} {c : Code} {cells slots : Nat} {Q : State → Prop} {D : va_G} {G : Nat → ClassId} {L : List Nat} {A : Nat → Prop} {H0 : Heap} (C : CX p s m c args D G cX2_add 6 RX2) (hLA : ∀ q ∈ L, A q) (hcs : cells ≤ R.cells ∧ slots ≤ R.slots) (hR_X2_valueCount : RoomOk R ({ frames := 0, cells := 0, slots := 0, locals := 0 }) 2) (S : PH) (v0 : Nat) (v1 : Int32) (v2 : Int32) (v3 : Int32) (v4 : Int32) (v5 : Int32) (r : PH) (h : f_X2_add S v0 v1 v2 v3 v4 v5 = some r) (hret : ∀ (S9 : PH) (H : Heap) (locs : List Loc) (ls : Array Slot) (pc : Nat), Wd D G L A H0 S9 H locs → S9 = r → decode cX2_add pc = .ok (.return_, 1) → W p l e R s m args below meth c H locs cells slots Q (F0 m pc ls [])) : ∀ (H : Heap) (locs : List Loc) (ls : Array Slot), Wd D G L A H0 S H locs → lv_has ls 6 [(0, .ref v0), (1, .int v1), (2, .int v2), (3, .int v3), (4, .int v4), (5, .int v5)] → W p l e R s m args below meth c H locs cells slots Q (F0 m 0 ls []) := by
  have hx := C.1.1
  have hb := C.1.2.1
  unfold f_X2_add at h
  intro H locs ls w hl
  refine lv_aload_n hx hb dX2_add_0 rfl (lv_at hl 0 rfl) ?_
  obtain ⟨x1, hx1, h⟩ := bs h
  refine o_gR C w hx1 fl_X2_15 dX2_add_1 ?_
  refine lv_aload_n hx hb dX2_add_4 rfl (lv_at hl 0 rfl) ?_
  obtain ⟨x2, hx2, h⟩ := bs h
  refine o_gI C w hx2 fl_X2_37 dX2_add_5 ?_
  refine lv_iload_n hx hb dX2_add_8 rfl (lv_at hl 1 rfl) ?_
  obtain ⟨S3, hS3, h⟩ := bs h
  refine o_stI C w hS3 dX2_add_9 (fun H locs w => ?_)
  refine lv_aload_n hx hb dX2_add_10 rfl (lv_at hl 0 rfl) ?_
  obtain ⟨x4, hx4, h⟩ := bs h
  refine o_gR C w hx4 fl_X2_18 dX2_add_11 ?_
  refine lv_aload_n hx hb dX2_add_14 rfl (lv_at hl 0 rfl) ?_
  obtain ⟨x5, hx5, h⟩ := bs h
  refine o_gI C w hx5 fl_X2_37 dX2_add_15 ?_
  refine lv_iload_n hx hb dX2_add_18 rfl (lv_at hl 3 rfl) ?_
  obtain ⟨S6, hS6, h⟩ := bs h
  refine o_stI C w hS6 dX2_add_19 (fun H locs w => ?_)
  refine lv_aload_n hx hb dX2_add_20 rfl (lv_at hl 0 rfl) ?_
  obtain ⟨x7, hx7, h⟩ := bs h
  refine o_gR C w hx7 fl_X2_21 dX2_add_21 ?_
  refine lv_aload_n hx hb dX2_add_24 rfl (lv_at hl 0 rfl) ?_
  obtain ⟨x8, hx8, h⟩ := bs h
  refine o_gI C w hx8 fl_X2_37 dX2_add_25 ?_
  refine lv_iload hx hb dX2_add_28 (lv_at hl 4 rfl) ?_
  obtain ⟨S9, hS9, h⟩ := bs h
  refine o_stI C w hS9 dX2_add_30 (fun H locs w => ?_)
  refine lv_aload_n hx hb dX2_add_31 rfl (lv_at hl 0 rfl) ?_
  obtain ⟨x10, hx10, h⟩ := bs h
  refine o_gR C w hx10 fl_X2_24 dX2_add_32 ?_
  refine lv_aload_n hx hb dX2_add_35 rfl (lv_at hl 0 rfl) ?_
  obtain ⟨x11, hx11, h⟩ := bs h
  refine o_gI C w hx11 fl_X2_37 dX2_add_36 ?_
  refine lv_iload hx hb dX2_add_39 (lv_at hl 5 rfl) ?_
  obtain ⟨S12, hS12, h⟩ := bs h
  refine o_stI C w hS12 dX2_add_41 (fun H locs w => ?_)
  refine lv_aload_n hx hb dX2_add_42 rfl (lv_at hl 0 rfl) ?_
  obtain ⟨x13, hx13, h⟩ := bs h
  refine o_gR C w hx13 fl_X2_27 dX2_add_43 ?_
  refine lv_aload_n hx hb dX2_add_46 rfl (lv_at hl 0 rfl) ?_
  obtain ⟨x14, hx14, h⟩ := bs h
  refine o_gI C w hx14 fl_X2_37 dX2_add_47 ?_
  refine lv_iload_n hx hb dX2_add_50 rfl (lv_at hl 2 rfl) ?_
  obtain ⟨S15, hS15, h⟩ := bs h
  refine o_stI C w hS15 dX2_add_51 (fun H locs w => ?_)
  refine lv_aload_n hx hb dX2_add_52 rfl (lv_at hl 0 rfl) ?_
  obtain ⟨x16, hx16, h⟩ := bs h
  refine o_gR C w hx16 fl_X2_30 dX2_add_53 ?_
  refine lv_aload_n hx hb dX2_add_56 rfl (lv_at hl 0 rfl) ?_
  obtain ⟨x17, hx17, h⟩ := bs h
  refine o_gI C w hx17 fl_X2_37 dX2_add_57 ?_
  refine lv_aload_n hx hb dX2_add_60 rfl (lv_at hl 0 rfl) ?_
  obtain ⟨x18, hx18, h⟩ := bs h
  refine o_gI C w hx18 fl_X2_46 dX2_add_61 ?_
  obtain ⟨S19, hS19, h⟩ := bs h
  refine o_stI C w hS19 dX2_add_64 (fun H locs w => ?_)
  refine lv_aload_n hx hb dX2_add_65 rfl (lv_at hl 0 rfl) ?_
  obtain ⟨x20, hx20, h⟩ := bs h
  refine o_gR C w hx20 fl_X2_9 dX2_add_66 ?_
  refine lv_iload_n hx hb dX2_add_69 rfl (lv_at hl 1 rfl) ?_
  refine lv_aload_n hx hb dX2_add_70 rfl (lv_at hl 0 rfl) ?_
  obtain ⟨x21, hx21, h⟩ := bs h
  refine o_gI C w hx21 fl_X2_37 dX2_add_71 ?_
  obtain ⟨S22, hS22, h⟩ := bs h
  refine o_stI C w hS22 dX2_add_74 (fun H locs w => ?_)
  refine lv_aload_n hx hb dX2_add_75 rfl (lv_at hl 0 rfl) ?_
  refine lv_dup hx hb dX2_add_76 rfl ?_
  obtain ⟨x23, hx23, h⟩ := bs h
  refine o_gI C w hx23 fl_X2_46 dX2_add_77 ?_
  refine lv_aload_n hx hb dX2_add_80 rfl (lv_at hl 0 rfl) ?_
  refine lv_aload_n hx hb dX2_add_81 rfl (lv_at hl 0 rfl) ?_
  obtain ⟨x24, hx24, h⟩ := bs h
  refine o_gI C w hx24 fl_X2_37 dX2_add_82 ?_
  obtain ⟨_, ho, h⟩ := bs h
  obtain ⟨x25, hc, h⟩ := bs h
  refine o_backi w hLA (o_runV (As := [.int x24]) (rest := [.int x23, .ref v0]) C w (c_X2_valueCount l D G L S22 v0 x24 x25 hc) ml_X2_49 mv_X2_valueCount hR_X2_valueCount ho rfl hl.1 rfl (Nat.le_of_ble_eq_true rfl) dX2_add_85 hcs) (fun H locs w => ?_)
  refine lv_iadd hx hb dX2_add_88 ?_
  obtain ⟨S26, hS26, h⟩ := bs h
  refine o_pF C w hS26 fp_X2_46 rfl rfl dX2_add_89 (fun H locs w => ?_)
  refine lv_aload_n hx hb dX2_add_92 rfl (lv_at hl 0 rfl) ?_
  refine lv_dup hx hb dX2_add_93 rfl ?_
  obtain ⟨x27, hx27, h⟩ := bs h
  refine o_gI C w hx27 fl_X2_40 dX2_add_94 ?_
  refine lv_aload_n hx hb dX2_add_97 rfl (lv_at hl 0 rfl) ?_
  refine lv_aload_n hx hb dX2_add_98 rfl (lv_at hl 0 rfl) ?_
  obtain ⟨x28, hx28, h⟩ := bs h
  refine o_gI C w hx28 fl_X2_37 dX2_add_99 ?_
  obtain ⟨_, ho, h⟩ := bs h
  obtain ⟨x29, hc, h⟩ := bs h
  refine o_backi w hLA (o_runV (As := [.int x28]) (rest := [.int x27, .ref v0]) C w (c_X2_valueCount l D G L S26 v0 x28 x29 hc) ml_X2_49 mv_X2_valueCount hR_X2_valueCount ho rfl hl.1 rfl (Nat.le_of_ble_eq_true rfl) dX2_add_102 hcs) (fun H locs w => ?_)
  refine lv_imul hx hb dX2_add_105 ?_
  obtain ⟨S30, hS30, h⟩ := bs h
  refine o_pF C w hS30 fp_X2_40 rfl rfl dX2_add_106 (fun H locs w => ?_)
  refine lv_aload_n hx hb dX2_add_109 rfl (lv_at hl 0 rfl) ?_
  refine lv_dup hx hb dX2_add_110 rfl ?_
  obtain ⟨x31, hx31, h⟩ := bs h
  refine o_gI C w hx31 fl_X2_43 dX2_add_111 ?_
  refine lv_iload hx hb dX2_add_114 (lv_at hl 4 rfl) ?_
  refine lv_iadd hx hb dX2_add_116 ?_
  obtain ⟨S32, hS32, h⟩ := bs h
  refine o_pF C w hS32 fp_X2_43 rfl rfl dX2_add_117 (fun H locs w => ?_)
  refine lv_aload_n hx hb dX2_add_120 rfl (lv_at hl 0 rfl) ?_
  refine lv_dup hx hb dX2_add_121 rfl ?_
  obtain ⟨x33, hx33, h⟩ := bs h
  refine o_gI C w hx33 fl_X2_37 dX2_add_122 ?_
  refine lv_iconst (v := 1) hx hb dX2_add_125 (by decide) ?_
  refine lv_iadd hx hb dX2_add_126 ?_
  obtain ⟨S34, hS34, h⟩ := bs h
  refine o_pF C w hS34 fp_X2_37 rfl rfl dX2_add_127 (fun H locs w => ?_)
  exact hret _ _ _ _ _ w (Option.some.inj h) dX2_add_130
set_option maxHeartbeats 4000000 in
set_option maxRecDepth 100000 in
theorem c_X2_add (l : Launch) (D : va_G) (G : Nat → ClassId) (L : List Nat) (S : PH) (v0 : Nat) (v1 : Int32) (v2 : Int32) (v3 : Int32) (v4 : Int32) (v5 : Int32) (r : PH) (h : f_X2_add S v0 v1 v2 v3 v4 v5 = some r) : Met l yX2_add [Cond.code yX2_add cX2_add 6 none] ({ frames := 1, cells := 0, slots := 0, locals := 21 }) (va_Pc [.ref v0, .int v1, .int v2, .int v3, .int v4, .int v5] (PreU D G L S)) (Qv D G L r) 0 0 (inL L) := by
  refine Met.ofW (cc := cX2_add) (maxL := 6) (ret := none) (by decide) rfl ?_
  intro p e s m args below meth c s₁ B hml hv
  obtain ⟨rfl, hpre⟩ := hv
  obtain ⟨C, w⟩ := o_ent (own := RX2) rfl B hml hpre
  have hl := lv_entry ([.ref v0, .int v1, .int v2, .int v3, .int v4, .int v5]) (n := 6) (Nat.le_of_ble_eq_true rfl)
  rw [lg_entry_eq]
  generalize (lg_sl ([.ref v0, .int v1, .int v2, .int v3, .int v4, .int v5]) ++ List.replicate (6 - (lg_sl ([.ref v0, .int v1, .int v2, .int v3, .int v4, .int v5])).length) Slot.unset).toArray = ls at hl ⊢
  exact w_X2_add C (fun _ h => h) ⟨Nat.zero_le _, Nat.zero_le _⟩ ⟨rfl, rfl, Nat.le_of_ble_eq_true rfl, Nat.le_of_ble_eq_true rfl⟩ S v0 v1 v2 v3 v4 v5 r h (fun S9 H locs ls pc w hv hd => by subst hv; exact o_vret C w B.returns B.notSynchronized hd) _ _ _ w hl

def f_X2_isCurrent (S : PH) (v0 : Nat) (v1 : Int32) : Option (Int32) :=
(gR S v0 2 0).bind fun x1 =>
(gR S v0 2 1).bind fun x2 =>
(ldI S x2 v1).bind fun x3 =>
(ldI S x1 x3).bind fun x4 =>
if x4 = v1 then (
some (1 : Int32))
else (
some (0 : Int32))
set_option maxHeartbeats 4000000 in
set_option maxRecDepth 100000 in
theorem w_X2_isCurrent {p : Program} {l : Launch} {e : Env} {R : Room} {s : State} {m : MethodId} {args : Array Value} {below : List Frame} {meth : Method} {c : Code} {cells slots : Nat} {Q : State → Prop} {D : va_G} {G : Nat → ClassId} {L : List Nat} {A : Nat → Prop} {H0 : Heap} (C : CX p s m c args D G cX2_isCurrent 2 RX2) (hLA : ∀ q ∈ L, A q) (hcs : cells ≤ R.cells ∧ slots ≤ R.slots)  (S : PH) (v0 : Nat) (v1 : Int32) (r : Int32) (h : f_X2_isCurrent S v0 v1 = some r) (hret : ∀ (v : Int32) (H : Heap) (locs : List Loc) (ls : Array Slot) (pc : Nat), Wd D G L A H0 S H locs → narrow .boolean (.int v) = .int v → v = r → decode cX2_isCurrent pc = .ok (.ireturn, 1) → W p l e R s m args below meth c H locs cells slots Q (F0 m pc ls [.int v])) : ∀ (H : Heap) (locs : List Loc) (ls : Array Slot), Wd D G L A H0 S H locs → lv_has ls 2 [(0, .ref v0), (1, .int v1)] → W p l e R s m args below meth c H locs cells slots Q (F0 m 0 ls []) := by
  have hx := C.1.1
  have hb := C.1.2.1
  unfold f_X2_isCurrent at h
  intro H locs ls w hl
  refine lv_aload_n hx hb dX2_isCurrent_0 rfl (lv_at hl 0 rfl) ?_
  obtain ⟨x1, hx1, h⟩ := bs h
  refine o_gR C w hx1 fl_X2_9 dX2_isCurrent_1 ?_
  refine lv_aload_n hx hb dX2_isCurrent_4 rfl (lv_at hl 0 rfl) ?_
  obtain ⟨x2, hx2, h⟩ := bs h
  refine o_gR C w hx2 fl_X2_15 dX2_isCurrent_5 ?_
  refine lv_iload_n hx hb dX2_isCurrent_8 rfl (lv_at hl 1 rfl) ?_
  obtain ⟨x3, hx3, h⟩ := bs h
  refine o_ldI C w hx3 dX2_isCurrent_9 ?_
  obtain ⟨x4, hx4, h⟩ := bs h
  refine o_ldI C w hx4 dX2_isCurrent_10 ?_
  refine lv_iload_n hx hb dX2_isCurrent_11 rfl (lv_at hl 1 rfl) ?_
  refine lv_icmp_ne (tgt := 19) hx hb dX2_isCurrent_12 (by decide) (fun cc12 => ?_) (fun cc12 => ?_)
  · have h := ie cc12 h
    refine lv_iconst (v := 0) hx hb dX2_isCurrent_19 (by decide) ?_
    exact hret _ _ _ _ _ w rfl (Option.some.inj h) dX2_isCurrent_20
  · have h := it cc12 h
    refine lv_iconst (v := 1) hx hb dX2_isCurrent_15 (by decide) ?_
    refine lv_goto (tgt := 20) hx hb dX2_isCurrent_16 (by decide) ?_
    exact hret _ _ _ _ _ w rfl (Option.some.inj h) dX2_isCurrent_20
set_option maxHeartbeats 4000000 in
set_option maxRecDepth 100000 in
theorem c_X2_isCurrent (l : Launch) (D : va_G) (G : Nat → ClassId) (L : List Nat) (S : PH) (v0 : Nat) (v1 : Int32) (r : Int32) (h : f_X2_isCurrent S v0 v1 = some r) : Met l yX2_isCurrent [Cond.code yX2_isCurrent cX2_isCurrent 2 (some .boolean)] ({ frames := 0, cells := 0, slots := 0, locals := 0 }) (va_Pc [.ref v0, .int v1] (PreU D G L S)) (Qi D G L r S) 0 0 (inL L) := by
  refine Met.ofW (cc := cX2_isCurrent) (maxL := 2) (ret := (some .boolean)) (by decide) rfl ?_
  intro p e s m args below meth c s₁ B hml hv
  obtain ⟨rfl, hpre⟩ := hv
  obtain ⟨C, w⟩ := o_ent (own := RX2) rfl B hml hpre
  have hl := lv_entry ([.ref v0, .int v1]) (n := 2) (Nat.le_of_ble_eq_true rfl)
  rw [lg_entry_eq]
  generalize (lg_sl ([.ref v0, .int v1]) ++ List.replicate (2 - (lg_sl ([.ref v0, .int v1])).length) Slot.unset).toArray = ls at hl ⊢
  exact w_X2_isCurrent C (fun _ h => h) ⟨Nat.zero_le _, Nat.zero_le _⟩  S v0 v1 r h (fun v H locs ls pc w hz hv hd => by subst hv; exact o_zret C w B.returns B.notSynchronized hz hd) _ _ _ w hl

def f_X7_holdsBit (v0 : Int32) (v1 : Int32) : Option (Int32) :=
if ((v0 >>> (v1 &&& 31)) &&& (1 : Int32)) = 0 then (
some (0 : Int32))
else (
some (1 : Int32))
set_option maxHeartbeats 4000000 in
set_option maxRecDepth 100000 in
theorem w_X7_holdsBit {p : Program} {l : Launch} {e : Env} {R : Room} {s : State} {m : MethodId} {args : Array Value} {below : List Frame} {meth : Method} {c : Code} {cells slots : Nat} {Q : State → Prop} {D : va_G} {G : Nat → ClassId} {L : List Nat} {A : Nat → Prop} {H0 : Heap} (C : CX p s m c args D G cX7_holdsBit 2 RX7) (hLA : ∀ q ∈ L, A q) (hcs : cells ≤ R.cells ∧ slots ≤ R.slots)  (S : PH) (v0 : Int32) (v1 : Int32) (r : Int32) (h : f_X7_holdsBit v0 v1 = some r) (hret : ∀ (v : Int32) (H : Heap) (locs : List Loc) (ls : Array Slot) (pc : Nat), Wd D G L A H0 S H locs → narrow .boolean (.int v) = .int v → v = r → decode cX7_holdsBit pc = .ok (.ireturn, 1) → W p l e R s m args below meth c H locs cells slots Q (F0 m pc ls [.int v])) : ∀ (H : Heap) (locs : List Loc) (ls : Array Slot), Wd D G L A H0 S H locs → lv_has ls 2 [(0, .int v0), (1, .int v1)] → W p l e R s m args below meth c H locs cells slots Q (F0 m 0 ls []) := by
  have hx := C.1.1
  have hb := C.1.2.1
  unfold f_X7_holdsBit at h
  intro H locs ls w hl
  refine lv_iload_n hx hb dX7_holdsBit_0 rfl (lv_at hl 0 rfl) ?_
  refine lv_iload_n hx hb dX7_holdsBit_1 rfl (lv_at hl 1 rfl) ?_
  refine lv_ishr hx hb dX7_holdsBit_2 ?_
  refine lv_iconst (v := 1) hx hb dX7_holdsBit_3 (by decide) ?_
  refine lv_iand hx hb dX7_holdsBit_4 ?_
  refine lv_if_eq (tgt := 12) hx hb dX7_holdsBit_5 (by decide) (fun cc5 => ?_) (fun cc5 => ?_)
  · have h := it cc5 h
    refine lv_iconst (v := 0) hx hb dX7_holdsBit_12 (by decide) ?_
    exact hret _ _ _ _ _ w rfl (Option.some.inj h) dX7_holdsBit_13
  · have h := ie cc5 h
    refine lv_iconst (v := 1) hx hb dX7_holdsBit_8 (by decide) ?_
    refine lv_goto (tgt := 13) hx hb dX7_holdsBit_9 (by decide) ?_
    exact hret _ _ _ _ _ w rfl (Option.some.inj h) dX7_holdsBit_13
set_option maxHeartbeats 4000000 in
set_option maxRecDepth 100000 in
theorem c_X7_holdsBit (l : Launch) (D : va_G) (G : Nat → ClassId) (L : List Nat) (S : PH) (v0 : Int32) (v1 : Int32) (r : Int32) (h : f_X7_holdsBit v0 v1 = some r) : Met l yX7_holdsBit [Cond.code yX7_holdsBit cX7_holdsBit 2 (some .boolean)] ({ frames := 0, cells := 0, slots := 0, locals := 0 }) (va_Pc [.int v0, .int v1] (PreU D G L S)) (Qi D G L r S) 0 0 (inL L) := by
  refine Met.ofW (cc := cX7_holdsBit) (maxL := 2) (ret := (some .boolean)) (by decide) rfl ?_
  intro p e s m args below meth c s₁ B hml hv
  obtain ⟨rfl, hpre⟩ := hv
  obtain ⟨C, w⟩ := o_ent (own := RX7) rfl B hml hpre
  have hl := lv_entry ([.int v0, .int v1]) (n := 2) (Nat.le_of_ble_eq_true rfl)
  rw [lg_entry_eq]
  generalize (lg_sl ([.int v0, .int v1]) ++ List.replicate (2 - (lg_sl ([.int v0, .int v1])).length) Slot.unset).toArray = ls at hl ⊢
  exact w_X7_holdsBit C (fun _ h => h) ⟨Nat.zero_le _, Nat.zero_le _⟩  S v0 v1 r h (fun v H locs ls pc w hz hv hd => by subst hv; exact o_zret C w B.returns B.notSynchronized hz hd) _ _ _ w hl

def f_X2_isAskedOf (S : PH) (v0 : Nat) (v1 : Int32) (v2 : Int32) : Option (Int32) :=
(ckO S v0 2).bind fun _ =>
(f_X2_isCurrent S v0 v1).bind fun x1 =>
if x1 = 0 then (
some (0 : Int32))
else (
(gR S v0 2 1).bind fun x2 =>
(ldI S x2 v1).bind fun x3 =>
(f_X7_holdsBit v2 x3).bind fun x4 =>
if x4 = 0 then (
some (0 : Int32))
else (
some (1 : Int32)))
set_option maxHeartbeats 4000000 in
set_option maxRecDepth 100000 in
theorem w_X2_isAskedOf {p : Program} {l : Launch} {e : Env} {R : Room} {s : State} {m : MethodId} {args : Array Value} {below : List Frame} {meth : Method} {c : Code} {cells slots : Nat} {Q : State → Prop} {D : va_G} {G : Nat → ClassId} {L : List Nat} {A : Nat → Prop} {H0 : Heap} (C : CX p s m c args D G cX2_isAskedOf 3 RX2) (hLA : ∀ q ∈ L, A q) (hcs : cells ≤ R.cells ∧ slots ≤ R.slots) (hR_X2_isCurrent : RoomOk R ({ frames := 0, cells := 0, slots := 0, locals := 0 }) 2) (hR_X7_holdsBit : RoomOk R ({ frames := 0, cells := 0, slots := 0, locals := 0 }) 2) (S : PH) (v0 : Nat) (v1 : Int32) (v2 : Int32) (r : Int32) (h : f_X2_isAskedOf S v0 v1 v2 = some r) (hret : ∀ (v : Int32) (H : Heap) (locs : List Loc) (ls : Array Slot) (pc : Nat), Wd D G L A H0 S H locs → narrow .boolean (.int v) = .int v → v = r → decode cX2_isAskedOf pc = .ok (.ireturn, 1) → W p l e R s m args below meth c H locs cells slots Q (F0 m pc ls [.int v])) : ∀ (H : Heap) (locs : List Loc) (ls : Array Slot), Wd D G L A H0 S H locs → lv_has ls 3 [(0, .ref v0), (1, .int v1), (2, .int v2)] → W p l e R s m args below meth c H locs cells slots Q (F0 m 0 ls []) := by
  have hx := C.1.1
  have hb := C.1.2.1
  unfold f_X2_isAskedOf at h
  intro H locs ls w hl
  refine lv_aload_n hx hb dX2_isAskedOf_0 rfl (lv_at hl 0 rfl) ?_
  refine lv_iload_n hx hb dX2_isAskedOf_1 rfl (lv_at hl 1 rfl) ?_
  obtain ⟨_, ho, h⟩ := bs h
  obtain ⟨x1, hc, h⟩ := bs h
  refine o_backi w hLA (o_runV (As := [.int v1]) (rest := []) C w (c_X2_isCurrent l D G L S v0 v1 x1 hc) ml_X2_53 mv_X2_isCurrent hR_X2_isCurrent ho rfl hl.1 rfl (Nat.le_of_ble_eq_true rfl) dX2_isAskedOf_2 hcs) (fun H locs w => ?_)
  refine lv_if_eq (tgt := 25) hx hb dX2_isAskedOf_5 (by decide) (fun cc5 => ?_) (fun cc5 => ?_)
  · have h := it cc5 h
    refine lv_iconst (v := 0) hx hb dX2_isAskedOf_25 (by decide) ?_
    exact hret _ _ _ _ _ w rfl (Option.some.inj h) dX2_isAskedOf_26
  · have h := ie cc5 h
    refine lv_iload_n hx hb dX2_isAskedOf_8 rfl (lv_at hl 2 rfl) ?_
    refine lv_aload_n hx hb dX2_isAskedOf_9 rfl (lv_at hl 0 rfl) ?_
    obtain ⟨x2, hx2, h⟩ := bs h
    refine o_gR C w hx2 fl_X2_15 dX2_isAskedOf_10 ?_
    refine lv_iload_n hx hb dX2_isAskedOf_13 rfl (lv_at hl 1 rfl) ?_
    obtain ⟨x3, hx3, h⟩ := bs h
    refine o_ldI C w hx3 dX2_isAskedOf_14 ?_
    obtain ⟨x4, hc, h⟩ := bs h
    refine o_backi w hLA (o_runS (As := [.int v2, .int x3]) (rest := []) C w (c_X7_holdsBit l D G L S v2 x3 x4 hc) ml_X2_57 st_X7_holdsBit hR_X7_holdsBit rfl hl.1 rfl (Nat.le_of_ble_eq_true rfl) dX2_isAskedOf_15 hcs) (fun H locs w => ?_)
    refine lv_if_eq (tgt := 25) hx hb dX2_isAskedOf_18 (by decide) (fun cc18 => ?_) (fun cc18 => ?_)
    · have h := it cc18 h
      refine lv_iconst (v := 0) hx hb dX2_isAskedOf_25 (by decide) ?_
      exact hret _ _ _ _ _ w rfl (Option.some.inj h) dX2_isAskedOf_26
    · have h := ie cc18 h
      refine lv_iconst (v := 1) hx hb dX2_isAskedOf_21 (by decide) ?_
      refine lv_goto (tgt := 26) hx hb dX2_isAskedOf_22 (by decide) ?_
      exact hret _ _ _ _ _ w rfl (Option.some.inj h) dX2_isAskedOf_26
set_option maxHeartbeats 4000000 in
set_option maxRecDepth 100000 in
theorem c_X2_isAskedOf (l : Launch) (D : va_G) (G : Nat → ClassId) (L : List Nat) (S : PH) (v0 : Nat) (v1 : Int32) (v2 : Int32) (r : Int32) (h : f_X2_isAskedOf S v0 v1 v2 = some r) : Met l yX2_isAskedOf [Cond.code yX2_isAskedOf cX2_isAskedOf 3 (some .boolean)] ({ frames := 1, cells := 0, slots := 0, locals := 21 }) (va_Pc [.ref v0, .int v1, .int v2] (PreU D G L S)) (Qi D G L r S) 0 0 (inL L) := by
  refine Met.ofW (cc := cX2_isAskedOf) (maxL := 3) (ret := (some .boolean)) (by decide) rfl ?_
  intro p e s m args below meth c s₁ B hml hv
  obtain ⟨rfl, hpre⟩ := hv
  obtain ⟨C, w⟩ := o_ent (own := RX2) rfl B hml hpre
  have hl := lv_entry ([.ref v0, .int v1, .int v2]) (n := 3) (Nat.le_of_ble_eq_true rfl)
  rw [lg_entry_eq]
  generalize (lg_sl ([.ref v0, .int v1, .int v2]) ++ List.replicate (3 - (lg_sl ([.ref v0, .int v1, .int v2])).length) Slot.unset).toArray = ls at hl ⊢
  exact w_X2_isAskedOf C (fun _ h => h) ⟨Nat.zero_le _, Nat.zero_le _⟩ ⟨rfl, rfl, Nat.le_of_ble_eq_true rfl, Nat.le_of_ble_eq_true rfl⟩ ⟨rfl, rfl, Nat.le_of_ble_eq_true rfl, Nat.le_of_ble_eq_true rfl⟩ S v0 v1 v2 r h (fun v H locs ls pc w hz hv hd => by subst hv; exact o_zret C w B.returns B.notSynchronized hz hd) _ _ _ w hl

def f_X2_onlyPeople (S : PH) (v0 : Nat) (v1 : Int32) : Option (Int32) :=
(gI S v0 2 7).bind fun x1 =>
some (v1 &&& (((1 : Int32) <<< (x1 &&& 31)) - (1 : Int32)))
set_option maxHeartbeats 4000000 in
set_option maxRecDepth 100000 in
theorem w_X2_onlyPeople {p : Program} {l : Launch} {e : Env} {R : Room} {s : State} {m : MethodId} {args : Array Value} {below : List Frame} {meth : Method} {c : Code} {cells slots : Nat} {Q : State → Prop} {D : va_G} {G : Nat → ClassId} {L : List Nat} {A : Nat → Prop} {H0 : Heap} (C : CX p s m c args D G cX2_onlyPeople 2 RX2) (hLA : ∀ q ∈ L, A q) (hcs : cells ≤ R.cells ∧ slots ≤ R.slots)  (S : PH) (v0 : Nat) (v1 : Int32) (r : Int32) (h : f_X2_onlyPeople S v0 v1 = some r) (hret : ∀ (v : Int32) (H : Heap) (locs : List Loc) (ls : Array Slot) (pc : Nat), Wd D G L A H0 S H locs → v = r → decode cX2_onlyPeople pc = .ok (.ireturn, 1) → W p l e R s m args below meth c H locs cells slots Q (F0 m pc ls [.int v])) : ∀ (H : Heap) (locs : List Loc) (ls : Array Slot), Wd D G L A H0 S H locs → lv_has ls 2 [(0, .ref v0), (1, .int v1)] → W p l e R s m args below meth c H locs cells slots Q (F0 m 0 ls []) := by
  have hx := C.1.1
  have hb := C.1.2.1
  unfold f_X2_onlyPeople at h
  intro H locs ls w hl
  refine lv_iload_n hx hb dX2_onlyPeople_0 rfl (lv_at hl 1 rfl) ?_
  refine lv_iconst (v := 1) hx hb dX2_onlyPeople_1 (by decide) ?_
  refine lv_aload_n hx hb dX2_onlyPeople_2 rfl (lv_at hl 0 rfl) ?_
  obtain ⟨x1, hx1, h⟩ := bs h
  refine o_gI C w hx1 fl_X2_33 dX2_onlyPeople_3 ?_
  refine lv_ishl hx hb dX2_onlyPeople_6 ?_
  refine lv_iconst (v := 1) hx hb dX2_onlyPeople_7 (by decide) ?_
  refine lv_isub hx hb dX2_onlyPeople_8 ?_
  refine lv_iand hx hb dX2_onlyPeople_9 ?_
  exact hret _ _ _ _ _ w (Option.some.inj h) dX2_onlyPeople_10
set_option maxHeartbeats 4000000 in
set_option maxRecDepth 100000 in
theorem c_X2_onlyPeople (l : Launch) (D : va_G) (G : Nat → ClassId) (L : List Nat) (S : PH) (v0 : Nat) (v1 : Int32) (r : Int32) (h : f_X2_onlyPeople S v0 v1 = some r) : Met l yX2_onlyPeople [Cond.code yX2_onlyPeople cX2_onlyPeople 2 (some .int)] ({ frames := 0, cells := 0, slots := 0, locals := 0 }) (va_Pc [.ref v0, .int v1] (PreU D G L S)) (Qi D G L r S) 0 0 (inL L) := by
  refine Met.ofW (cc := cX2_onlyPeople) (maxL := 2) (ret := (some .int)) (by decide) rfl ?_
  intro p e s m args below meth c s₁ B hml hv
  obtain ⟨rfl, hpre⟩ := hv
  obtain ⟨C, w⟩ := o_ent (own := RX2) rfl B hml hpre
  have hl := lv_entry ([.ref v0, .int v1]) (n := 2) (Nat.le_of_ble_eq_true rfl)
  rw [lg_entry_eq]
  generalize (lg_sl ([.ref v0, .int v1]) ++ List.replicate (2 - (lg_sl ([.ref v0, .int v1])).length) Slot.unset).toArray = ls at hl ⊢
  exact w_X2_onlyPeople C (fun _ h => h) ⟨Nat.zero_le _, Nat.zero_le _⟩  S v0 v1 r h (fun v H locs ls pc w hv hd => by subst hv; exact o_iret C w B.returns B.notSynchronized hd) _ _ _ w hl

def f_X2_hiddenTable_L6 (S : PH) (v0 : Nat) (v1 : Int32) (v2 : Int32) (v3 : Int32) : Option ((Int32 × Int32 × Int32) ⊕ (Int32)) :=
(gI S v0 2 8).bind fun x1 =>
if x1 ≤ v3 then (
some (.inr v1))
else (
(gR S v0 2 5).bind fun x2 =>
(ldI S x2 v3).bind fun x3 =>
(gR S v0 2 2).bind fun x4 =>
(ldI S x4 v3).bind fun x5 =>
(ckO S v0 2).bind fun _ =>
(f_X2_valueCount S v0 v3).bind fun x6 =>
some (.inl ((v1 + ((x3 - x5) * v2)), (v2 * x6), (v3 + 1))))
def f_X2_hiddenTable (S : PH) (v0 : Nat) : Option (Int32) :=
(lpo (fun x : Int32 × Int32 × Int32 => f_X2_hiddenTable_L6 S v0 x.1 x.2.1 x.2.2) FU ((0 : Int32), (1 : Int32), (0 : Int32))).bind fun y7 =>
some y7
set_option maxHeartbeats 4000000 in
set_option maxRecDepth 100000 in
theorem w_X2_hiddenTable {p : Program} {l : Launch} {e : Env} {R : Room} {s : State} {m : MethodId} {args : Array Value} {below : List Frame} {meth : Method} {c : Code} {cells slots : Nat} {Q : State → Prop} {D : va_G} {G : Nat → ClassId} {L : List Nat} {A : Nat → Prop} {H0 : Heap} (C : CX p s m c args D G cX2_hiddenTable 4 RX2) (hLA : ∀ q ∈ L, A q) (hcs : cells ≤ R.cells ∧ slots ≤ R.slots) (hR_X2_valueCount : RoomOk R ({ frames := 0, cells := 0, slots := 0, locals := 0 }) 2) (S : PH) (v0 : Nat) (r : Int32) (h : f_X2_hiddenTable S v0 = some r) (hret : ∀ (v : Int32) (H : Heap) (locs : List Loc) (ls : Array Slot) (pc : Nat), Wd D G L A H0 S H locs → v = r → decode cX2_hiddenTable pc = .ok (.ireturn, 1) → W p l e R s m args below meth c H locs cells slots Q (F0 m pc ls [.int v])) : ∀ (H : Heap) (locs : List Loc) (ls : Array Slot), Wd D G L A H0 S H locs → lv_has ls 4 [(0, .ref v0)] → W p l e R s m args below meth c H locs cells slots Q (F0 m 0 ls []) := by
  have hx := C.1.1
  have hb := C.1.2.1
  unfold f_X2_hiddenTable at h
  intro H locs ls w hl
  refine lv_iconst (v := 0) hx hb dX2_hiddenTable_0 (by decide) ?_
  refine lv_istore_n (lv' := [(1, .int (0 : Int32)), (0, .ref v0)]) hx hb dX2_hiddenTable_1 rfl hl (by decide) rfl (fun ls hl => ?_)
  refine lv_iconst (v := 1) hx hb dX2_hiddenTable_2 (by decide) ?_
  refine lv_istore_n (lv' := [(2, .int (1 : Int32)), (1, .int (0 : Int32)), (0, .ref v0)]) hx hb dX2_hiddenTable_3 rfl hl (by decide) rfl (fun ls hl => ?_)
  refine lv_iconst (v := 0) hx hb dX2_hiddenTable_4 (by decide) ?_
  refine lv_istore_n (lv' := [(3, .int (0 : Int32)), (2, .int (1 : Int32)), (1, .int (0 : Int32)), (0, .ref v0)]) hx hb dX2_hiddenTable_5 rfl hl (by decide) rfl (fun ls hl => ?_)
  obtain ⟨y7, hL6, h⟩ := bs h
  have hE6 : ∀ (q8 : Int32), y7 = q8 → ∀ (H : Heap) (locs : List Loc) (ls : Array Slot), Wd D G L A H0 S H locs → lv_has ls 4 [(1, .int q8)] → W p l e R s m args below meth c H locs cells slots Q (F0 m 46 ls []) := by
    intro q8 he
    cases he
    intro H locs ls w hl
    refine lv_iload_n hx hb dX2_hiddenTable_46 rfl (lv_at hl 0 rfl) ?_
    exact hret _ _ _ _ _ w (Option.some.inj h) dX2_hiddenTable_47
  refine lpo_W (P := fun x : Int32 × Int32 × Int32 => ∀ (H : Heap) (locs : List Loc) (ls : Array Slot), Wd D G L A H0 S H locs → lv_has ls 4 [(0, .ref v0), (1, .int x.1), (2, .int x.2.1), (3, .int x.2.2)] → W p l e R s m args below meth c H locs cells slots Q (F0 m 6 ls [])) ?_ FU _ hL6 H locs ls w (lv_sub hl [3, 2, 1, 0] rfl)
  intro x y6 h hnext6 hend6
  obtain ⟨t9, t10, t11⟩ := x
  have h : f_X2_hiddenTable_L6 S v0 t9 t10 t11 = some y6 := h
  unfold f_X2_hiddenTable_L6 at h
  intro H locs ls w hl
  have hl : lv_has ls 4 [(0, .ref v0), (1, .int t9), (2, .int t10), (3, .int t11)] := hl
  refine lv_iload_n hx hb dX2_hiddenTable_6 rfl (lv_at hl 3 rfl) ?_
  refine lv_aload_n hx hb dX2_hiddenTable_7 rfl (lv_at hl 0 rfl) ?_
  obtain ⟨x12, hx12, h⟩ := bs h
  refine o_gI C w hx12 fl_X2_37 dX2_hiddenTable_8 ?_
  refine lv_icmp_ge (tgt := 46) hx hb dX2_hiddenTable_11 (by decide) (fun cc11 => ?_) (fun cc11 => ?_)
  · have h := it cc11 h
    exact hE6 _ (hend6 _ (Option.some.inj h).symm).symm H locs ls w (lv_sub hl [1] rfl)
  · have h := ie cc11 h
    refine lv_iload_n hx hb dX2_hiddenTable_14 rfl (lv_at hl 1 rfl) ?_
    refine lv_aload_n hx hb dX2_hiddenTable_15 rfl (lv_at hl 0 rfl) ?_
    obtain ⟨x13, hx13, h⟩ := bs h
    refine o_gR C w hx13 fl_X2_27 dX2_hiddenTable_16 ?_
    refine lv_iload_n hx hb dX2_hiddenTable_19 rfl (lv_at hl 3 rfl) ?_
    obtain ⟨x14, hx14, h⟩ := bs h
    refine o_ldI C w hx14 dX2_hiddenTable_20 ?_
    refine lv_aload_n hx hb dX2_hiddenTable_21 rfl (lv_at hl 0 rfl) ?_
    obtain ⟨x15, hx15, h⟩ := bs h
    refine o_gR C w hx15 fl_X2_18 dX2_hiddenTable_22 ?_
    refine lv_iload_n hx hb dX2_hiddenTable_25 rfl (lv_at hl 3 rfl) ?_
    obtain ⟨x16, hx16, h⟩ := bs h
    refine o_ldI C w hx16 dX2_hiddenTable_26 ?_
    refine lv_isub hx hb dX2_hiddenTable_27 ?_
    refine lv_iload_n hx hb dX2_hiddenTable_28 rfl (lv_at hl 2 rfl) ?_
    refine lv_imul hx hb dX2_hiddenTable_29 ?_
    refine lv_iadd hx hb dX2_hiddenTable_30 ?_
    refine lv_istore_n (lv' := [(1, .int (t9 + ((x14 - x16) * t10))), (0, .ref v0), (2, .int t10), (3, .int t11)]) hx hb dX2_hiddenTable_31 rfl hl (by decide) rfl (fun ls hl => ?_)
    refine lv_iload_n hx hb dX2_hiddenTable_32 rfl (lv_at hl 2 rfl) ?_
    refine lv_aload_n hx hb dX2_hiddenTable_33 rfl (lv_at hl 1 rfl) ?_
    refine lv_iload_n hx hb dX2_hiddenTable_34 rfl (lv_at hl 3 rfl) ?_
    obtain ⟨_, ho, h⟩ := bs h
    obtain ⟨x17, hc, h⟩ := bs h
    refine o_backi w hLA (o_runV (As := [.int t11]) (rest := [.int t10]) C w (c_X2_valueCount l D G L S v0 t11 x17 hc) ml_X2_49 mv_X2_valueCount hR_X2_valueCount ho rfl hl.1 rfl (Nat.le_of_ble_eq_true rfl) dX2_hiddenTable_35 hcs) (fun H locs w => ?_)
    refine lv_imul hx hb dX2_hiddenTable_38 ?_
    refine lv_istore_n (lv' := [(2, .int (t10 * x17)), (1, .int (t9 + ((x14 - x16) * t10))), (0, .ref v0), (3, .int t11)]) hx hb dX2_hiddenTable_39 rfl hl (by decide) rfl (fun ls hl => ?_)
    refine lv_iinc (v := (t11 + 1)) (lv' := [(3, .int (t11 + 1)), (2, .int (t10 * x17)), (1, .int (t9 + ((x14 - x16) * t10))), (0, .ref v0)]) hx hb dX2_hiddenTable_40 hl (k := 3) rfl rfl (by decide) rfl (fun ls hl => ?_)
    refine lv_goto (tgt := 6) hx hb dX2_hiddenTable_43 (by decide) ?_
    exact hnext6 _ (Option.some.inj h).symm H locs ls w (lv_sub hl [3, 2, 1, 0] rfl)
set_option maxHeartbeats 4000000 in
set_option maxRecDepth 100000 in
theorem c_X2_hiddenTable (l : Launch) (D : va_G) (G : Nat → ClassId) (L : List Nat) (S : PH) (v0 : Nat) (r : Int32) (h : f_X2_hiddenTable S v0 = some r) : Met l yX2_hiddenTable [Cond.code yX2_hiddenTable cX2_hiddenTable 4 (some .int)] ({ frames := 1, cells := 0, slots := 0, locals := 21 }) (va_Pc [.ref v0] (PreU D G L S)) (Qi D G L r S) 0 0 (inL L) := by
  refine Met.ofW (cc := cX2_hiddenTable) (maxL := 4) (ret := (some .int)) (by decide) rfl ?_
  intro p e s m args below meth c s₁ B hml hv
  obtain ⟨rfl, hpre⟩ := hv
  obtain ⟨C, w⟩ := o_ent (own := RX2) rfl B hml hpre
  have hl := lv_entry ([.ref v0]) (n := 4) (Nat.le_of_ble_eq_true rfl)
  rw [lg_entry_eq]
  generalize (lg_sl ([.ref v0]) ++ List.replicate (4 - (lg_sl ([.ref v0])).length) Slot.unset).toArray = ls at hl ⊢
  exact w_X2_hiddenTable C (fun _ h => h) ⟨Nat.zero_le _, Nat.zero_le _⟩ ⟨rfl, rfl, Nat.le_of_ble_eq_true rfl, Nat.le_of_ble_eq_true rfl⟩ S v0 r h (fun v H locs ls pc w hv hd => by subst hv; exact o_iret C w B.returns B.notSynchronized hd) _ _ _ w hl

def f_X2_valuesIn (S : PH) (v0 : Nat) (v1 : Int32) (v2 : Int64) : Option (Int32) :=
(gR S v0 2 6).bind fun x1 =>
(ldI S x1 v1).bind fun x2 =>
(ckO S v0 2).bind fun _ =>
(f_X2_valueCount S v0 v1).bind fun x3 =>
some ((v2.toUInt64 >>> (x2.toInt64.toUInt64 &&& Int64.toUInt64 63)).toInt64.toInt32 &&& (((1 : Int32) <<< (x3 &&& 31)) - (1 : Int32)))
set_option maxHeartbeats 4000000 in
set_option maxRecDepth 100000 in
theorem w_X2_valuesIn {p : Program} {l : Launch} {e : Env} {R : Room} {s : State} {m : MethodId} {args : Array Value} {below : List Frame} {meth : Method} {c : Code} {cells slots : Nat} {Q : State → Prop} {D : va_G} {G : Nat → ClassId} {L : List Nat} {A : Nat → Prop} {H0 : Heap} (C : CX p s m c args D G cX2_valuesIn 4 RX2) (hLA : ∀ q ∈ L, A q) (hcs : cells ≤ R.cells ∧ slots ≤ R.slots) (hR_X2_valueCount : RoomOk R ({ frames := 0, cells := 0, slots := 0, locals := 0 }) 2) (S : PH) (v0 : Nat) (v1 : Int32) (v2 : Int64) (r : Int32) (h : f_X2_valuesIn S v0 v1 v2 = some r) (hret : ∀ (v : Int32) (H : Heap) (locs : List Loc) (ls : Array Slot) (pc : Nat), Wd D G L A H0 S H locs → v = r → decode cX2_valuesIn pc = .ok (.ireturn, 1) → W p l e R s m args below meth c H locs cells slots Q (F0 m pc ls [.int v])) : ∀ (H : Heap) (locs : List Loc) (ls : Array Slot), Wd D G L A H0 S H locs → lv_has ls 4 [(0, .ref v0), (1, .int v1), (2, .long v2)] → W p l e R s m args below meth c H locs cells slots Q (F0 m 0 ls []) := by
  have hx := C.1.1
  have hb := C.1.2.1
  unfold f_X2_valuesIn at h
  intro H locs ls w hl
  refine lv_lload_n hx hb dX2_valuesIn_0 rfl (lv_at hl 2 rfl) ?_
  refine lv_aload_n hx hb dX2_valuesIn_1 rfl (lv_at hl 0 rfl) ?_
  obtain ⟨x1, hx1, h⟩ := bs h
  refine o_gR C w hx1 fl_X2_30 dX2_valuesIn_2 ?_
  refine lv_iload_n hx hb dX2_valuesIn_5 rfl (lv_at hl 1 rfl) ?_
  obtain ⟨x2, hx2, h⟩ := bs h
  refine o_ldI C w hx2 dX2_valuesIn_6 ?_
  refine lv_lushr hx hb dX2_valuesIn_7 rfl ?_
  refine lv_l2i hx hb dX2_valuesIn_8 rfl ?_
  refine lv_iconst (v := 1) hx hb dX2_valuesIn_9 (by decide) ?_
  refine lv_aload_n hx hb dX2_valuesIn_10 rfl (lv_at hl 0 rfl) ?_
  refine lv_iload_n hx hb dX2_valuesIn_11 rfl (lv_at hl 1 rfl) ?_
  obtain ⟨_, ho, h⟩ := bs h
  obtain ⟨x3, hc, h⟩ := bs h
  refine o_backi w hLA (o_runV (As := [.int v1]) (rest := [.int (1 : Int32), .int (v2.toUInt64 >>> (x2.toInt64.toUInt64 &&& Int64.toUInt64 63)).toInt64.toInt32]) C w (c_X2_valueCount l D G L S v0 v1 x3 hc) ml_X2_49 mv_X2_valueCount hR_X2_valueCount ho rfl hl.1 rfl (Nat.le_of_ble_eq_true rfl) dX2_valuesIn_12 hcs) (fun H locs w => ?_)
  refine lv_ishl hx hb dX2_valuesIn_15 ?_
  refine lv_iconst (v := 1) hx hb dX2_valuesIn_16 (by decide) ?_
  refine lv_isub hx hb dX2_valuesIn_17 ?_
  refine lv_iand hx hb dX2_valuesIn_18 ?_
  exact hret _ _ _ _ _ w (Option.some.inj h) dX2_valuesIn_19
set_option maxHeartbeats 4000000 in
set_option maxRecDepth 100000 in
theorem c_X2_valuesIn (l : Launch) (D : va_G) (G : Nat → ClassId) (L : List Nat) (S : PH) (v0 : Nat) (v1 : Int32) (v2 : Int64) (r : Int32) (h : f_X2_valuesIn S v0 v1 v2 = some r) : Met l yX2_valuesIn [Cond.code yX2_valuesIn cX2_valuesIn 4 (some .int)] ({ frames := 1, cells := 0, slots := 0, locals := 21 }) (va_Pc [.ref v0, .int v1, .long v2] (PreU D G L S)) (Qi D G L r S) 0 0 (inL L) := by
  refine Met.ofW (cc := cX2_valuesIn) (maxL := 4) (ret := (some .int)) (by decide) rfl ?_
  intro p e s m args below meth c s₁ B hml hv
  obtain ⟨rfl, hpre⟩ := hv
  obtain ⟨C, w⟩ := o_ent (own := RX2) rfl B hml hpre
  have hl := lv_entry ([.ref v0, .int v1, .long v2]) (n := 4) (Nat.le_of_ble_eq_true rfl)
  rw [lg_entry_eq]
  generalize (lg_sl ([.ref v0, .int v1, .long v2]) ++ List.replicate (4 - (lg_sl ([.ref v0, .int v1, .long v2])).length) Slot.unset).toArray = ls at hl ⊢
  exact w_X2_valuesIn C (fun _ h => h) ⟨Nat.zero_le _, Nat.zero_le _⟩ ⟨rfl, rfl, Nat.le_of_ble_eq_true rfl, Nat.le_of_ble_eq_true rfl⟩ S v0 v1 v2 r h (fun v H locs ls pc w hv hd => by subst hv; exact o_iret C w B.returns B.notSynchronized hd) _ _ _ w hl

def f_X2_areSafe_L2 (S : PH) (v0 : Nat) (v1 : Int64) (v3 : Int32) : Option ((Int32) ⊕ ((Unit) ⊕ (Int32))) :=
(gI S v0 2 8).bind fun x1 =>
if x1 ≤ v3 then (
some (.inr (.inl ())))
else (
(ckO S v0 2).bind fun _ =>
(f_X2_valuesIn S v0 v3 v1).bind fun x2 =>
(gR S v0 2 4).bind fun x3 =>
(ldI S x3 v3).bind fun x4 =>
if 0 ≤ (lg_cmp x2.toInt64 ((x2.toInt64 &&& (-x2.toInt64)) <<< ((x4 - (1 : Int32)).toInt64 &&& 63))) then (
some (.inl (v3 + 1)))
else (
some (.inr (.inr (0 : Int32)))))
def f_X2_areSafe (S : PH) (v0 : Nat) (v1 : Int64) : Option (Int32) :=
bdS (lpo (fun x : Int32 => f_X2_areSafe_L2 S v0 v1 x) FU (0 : Int32)) (fun _ =>
some (1 : Int32)) some
set_option maxHeartbeats 4000000 in
set_option maxRecDepth 100000 in
theorem w_X2_areSafe {p : Program} {l : Launch} {e : Env} {R : Room} {s : State} {m : MethodId} {args : Array Value} {below : List Frame} {meth : Method} {c : Code} {cells slots : Nat} {Q : State → Prop} {D : va_G} {G : Nat → ClassId} {L : List Nat} {A : Nat → Prop} {H0 : Heap} (C : CX p s m c args D G cX2_areSafe 8 RX2) (hLA : ∀ q ∈ L, A q) (hcs : cells ≤ R.cells ∧ slots ≤ R.slots) (hR_X2_valuesIn : RoomOk R ({ frames := 1, cells := 0, slots := 0, locals := 21 }) 4) (S : PH) (v0 : Nat) (v1 : Int64) (r : Int32) (h : f_X2_areSafe S v0 v1 = some r) (hret : ∀ (v : Int32) (H : Heap) (locs : List Loc) (ls : Array Slot) (pc : Nat), Wd D G L A H0 S H locs → narrow .boolean (.int v) = .int v → v = r → decode cX2_areSafe pc = .ok (.ireturn, 1) → W p l e R s m args below meth c H locs cells slots Q (F0 m pc ls [.int v])) : ∀ (H : Heap) (locs : List Loc) (ls : Array Slot), Wd D G L A H0 S H locs → lv_has ls 8 [(0, .ref v0), (1, .long v1)] → W p l e R s m args below meth c H locs cells slots Q (F0 m 0 ls []) := by
  have hx := C.1.1
  have hb := C.1.2.1
  unfold f_X2_areSafe at h
  intro H locs ls w hl
  refine lv_iconst (v := 0) hx hb dX2_areSafe_0 (by decide) ?_
  refine lv_istore_n (lv' := [(3, .int (0 : Int32)), (0, .ref v0), (1, .long v1)]) hx hb dX2_areSafe_1 rfl hl (by decide) rfl (fun ls hl => ?_)
  obtain ⟨e2, hL2, h⟩ := bs h
  have hE2 : e2 = Sum.inl () → ∀ (H : Heap) (locs : List Loc) (ls : Array Slot), Wd D G L A H0 S H locs → lv_has ls 8 [] → W p l e R s m args below meth c H locs cells slots Q (F0 m 52 ls []) := by
    intro he
    subst he
    have h : _ = some r := h
    intro H locs ls w hl
    refine lv_iconst (v := 1) hx hb dX2_areSafe_52 (by decide) ?_
    exact hret _ _ _ _ _ w rfl (Option.some.inj h) dX2_areSafe_53
  have hR2 : ∀ q, e2 = Sum.inr q → q = r := by
    intro q he
    subst he
    exact Option.some.inj h
  refine lpo_W (P := fun x : Int32 => ∀ (H : Heap) (locs : List Loc) (ls : Array Slot), Wd D G L A H0 S H locs → lv_has ls 8 [(0, .ref v0), (1, .long v1), (3, .int x)] → W p l e R s m args below meth c H locs cells slots Q (F0 m 2 ls [])) ?_ FU _ hL2 H locs ls w (lv_sub hl [1, 2, 0] rfl)
  intro t5 y2 h hnext2 hend2
  have h : f_X2_areSafe_L2 S v0 v1 t5 = some y2 := h
  unfold f_X2_areSafe_L2 at h
  intro H locs ls w hl
  have hl : lv_has ls 8 [(0, .ref v0), (1, .long v1), (3, .int t5)] := hl
  refine lv_iload_n hx hb dX2_areSafe_2 rfl (lv_at hl 2 rfl) ?_
  refine lv_aload_n hx hb dX2_areSafe_3 rfl (lv_at hl 0 rfl) ?_
  obtain ⟨x6, hx6, h⟩ := bs h
  refine o_gI C w hx6 fl_X2_37 dX2_areSafe_4 ?_
  refine lv_icmp_ge (tgt := 52) hx hb dX2_areSafe_7 (by decide) (fun cc7 => ?_) (fun cc7 => ?_)
  · have h := it cc7 h
    exact hE2  (hend2 _ (Option.some.inj h).symm).symm H locs ls w (lv_sub hl [] rfl)
  · have h := ie cc7 h
    refine lv_aload_n hx hb dX2_areSafe_10 rfl (lv_at hl 0 rfl) ?_
    refine lv_iload_n hx hb dX2_areSafe_11 rfl (lv_at hl 2 rfl) ?_
    refine lv_lload_n hx hb dX2_areSafe_12 rfl (lv_at hl 1 rfl) ?_
    obtain ⟨_, ho, h⟩ := bs h
    obtain ⟨x7, hc, h⟩ := bs h
    refine o_backi w hLA (o_runV (As := [.int t5, .long v1]) (rest := []) C w (c_X2_valuesIn l D G L S v0 t5 v1 x7 hc) ml_X2_61 mv_X2_valuesIn hR_X2_valuesIn ho rfl hl.1 rfl (Nat.le_of_ble_eq_true rfl) dX2_areSafe_13 hcs) (fun H locs w => ?_)
    refine lv_i2l hx hb dX2_areSafe_16 rfl ?_
    refine lv_lstore (lv' := [(4, .long x7.toInt64), (0, .ref v0), (1, .long v1), (3, .int t5)]) hx hb dX2_areSafe_17 hl (by decide) rfl (fun ls hl => ?_)
    refine lv_lload hx hb dX2_areSafe_19 (lv_at hl 0 rfl) ?_
    refine lv_lload hx hb dX2_areSafe_21 (lv_at hl 0 rfl) ?_
    refine lv_lneg hx hb dX2_areSafe_23 ?_
    refine lv_land hx hb dX2_areSafe_24 ?_
    refine lv_lstore (lv' := [(6, .long (x7.toInt64 &&& (-x7.toInt64))), (4, .long x7.toInt64), (0, .ref v0), (1, .long v1), (3, .int t5)]) hx hb dX2_areSafe_25 hl (by decide) rfl (fun ls hl => ?_)
    refine lv_lload hx hb dX2_areSafe_27 (lv_at hl 1 rfl) ?_
    refine lv_lload hx hb dX2_areSafe_29 (lv_at hl 0 rfl) ?_
    refine lv_aload_n hx hb dX2_areSafe_31 rfl (lv_at hl 2 rfl) ?_
    obtain ⟨x8, hx8, h⟩ := bs h
    refine o_gR C w hx8 fl_X2_24 dX2_areSafe_32 ?_
    refine lv_iload_n hx hb dX2_areSafe_35 rfl (lv_at hl 4 rfl) ?_
    obtain ⟨x9, hx9, h⟩ := bs h
    refine o_ldI C w hx9 dX2_areSafe_36 ?_
    refine lv_iconst (v := 1) hx hb dX2_areSafe_37 (by decide) ?_
    refine lv_isub hx hb dX2_areSafe_38 ?_
    refine lv_lshl hx hb dX2_areSafe_39 rfl ?_
    refine W.lcmp hx hb dX2_areSafe_40 ?_
    refine lv_if_ge (tgt := 46) hx hb dX2_areSafe_41 (by decide) (fun cc41 => ?_) (fun cc41 => ?_)
    · have h := it cc41 h
      refine lv_iinc (v := (t5 + 1)) (lv' := [(3, .int (t5 + 1)), (6, .long (x7.toInt64 &&& (-x7.toInt64))), (4, .long x7.toInt64), (0, .ref v0), (1, .long v1)]) hx hb dX2_areSafe_46 hl (k := 4) rfl rfl (by decide) rfl (fun ls hl => ?_)
      refine lv_goto (tgt := 2) hx hb dX2_areSafe_49 (by decide) ?_
      exact hnext2 _ (Option.some.inj h).symm H locs ls w (lv_sub hl [3, 4, 0] rfl)
    · have h := ie cc41 h
      refine lv_iconst (v := 0) hx hb dX2_areSafe_44 (by decide) ?_
      exact hret _ _ _ _ _ w rfl (hR2 _ (hend2 _ (Option.some.inj h).symm).symm) dX2_areSafe_45
set_option maxHeartbeats 4000000 in
set_option maxRecDepth 100000 in
theorem c_X2_areSafe (l : Launch) (D : va_G) (G : Nat → ClassId) (L : List Nat) (S : PH) (v0 : Nat) (v1 : Int64) (r : Int32) (h : f_X2_areSafe S v0 v1 = some r) : Met l yX2_areSafe [Cond.code yX2_areSafe cX2_areSafe 8 (some .boolean)] ({ frames := 2, cells := 0, slots := 0, locals := 44 }) (va_Pc [.ref v0, .long v1] (PreU D G L S)) (Qi D G L r S) 0 0 (inL L) := by
  refine Met.ofW (cc := cX2_areSafe) (maxL := 8) (ret := (some .boolean)) (by decide) rfl ?_
  intro p e s m args below meth c s₁ B hml hv
  obtain ⟨rfl, hpre⟩ := hv
  obtain ⟨C, w⟩ := o_ent (own := RX2) rfl B hml hpre
  have hl := lv_entry ([.ref v0, .long v1]) (n := 8) (Nat.le_of_ble_eq_true rfl)
  rw [lg_entry_eq]
  generalize (lg_sl ([.ref v0, .long v1]) ++ List.replicate (8 - (lg_sl ([.ref v0, .long v1])).length) Slot.unset).toArray = ls at hl ⊢
  exact w_X2_areSafe C (fun _ h => h) ⟨Nat.zero_le _, Nat.zero_le _⟩ ⟨rfl, rfl, Nat.le_of_ble_eq_true rfl, Nat.le_of_ble_eq_true rfl⟩ S v0 v1 r h (fun v H locs ls pc w hz hv hd => by subst hv; exact o_zret C w B.returns B.notSynchronized hz hd) _ _ _ w hl

def f_X2_copyFrom (S : PH) (v0 : Nat) (v1 : Nat) : Option (PH) :=
(gR S v1 2 0).bind fun x1 =>
(gR S v0 2 0).bind fun x2 =>
(cpI S x1 (0 : Int32) x2 (0 : Int32) (8 : Int32)).bind fun S3 =>
(gR S3 v1 2 1).bind fun x4 =>
(gR S3 v0 2 1).bind fun x5 =>
(cpI S3 x4 (0 : Int32) x5 (0 : Int32) (10 : Int32)).bind fun S6 =>
(gR S6 v1 2 2).bind fun x7 =>
(gR S6 v0 2 2).bind fun x8 =>
(cpI S6 x7 (0 : Int32) x8 (0 : Int32) (10 : Int32)).bind fun S9 =>
(gR S9 v1 2 3).bind fun x10 =>
(gR S9 v0 2 3).bind fun x11 =>
(cpI S9 x10 (0 : Int32) x11 (0 : Int32) (10 : Int32)).bind fun S12 =>
(gR S12 v1 2 4).bind fun x13 =>
(gR S12 v0 2 4).bind fun x14 =>
(cpI S12 x13 (0 : Int32) x14 (0 : Int32) (10 : Int32)).bind fun S15 =>
(gR S15 v1 2 5).bind fun x16 =>
(gR S15 v0 2 5).bind fun x17 =>
(cpI S15 x16 (0 : Int32) x17 (0 : Int32) (10 : Int32)).bind fun S18 =>
(gR S18 v1 2 6).bind fun x19 =>
(gR S18 v0 2 6).bind fun x20 =>
(cpI S18 x19 (0 : Int32) x20 (0 : Int32) (10 : Int32)).bind fun S21 =>
(gI S21 v1 2 7).bind fun x22 =>
(pI S21 v0 2 7 x22).bind fun S23 =>
(gI S23 v1 2 8).bind fun x24 =>
(pI S23 v0 2 8 x24).bind fun S25 =>
(gI S25 v1 2 9).bind fun x26 =>
(pI S25 v0 2 9 x26).bind fun S27 =>
(gI S27 v1 2 10).bind fun x28 =>
(pI S27 v0 2 10 x28).bind fun S29 =>
(gI S29 v1 2 11).bind fun x30 =>
(pI S29 v0 2 11 x30).bind fun S31 =>
some S31
set_option maxHeartbeats 4000000 in
set_option maxRecDepth 100000 in
theorem w_X2_copyFrom {p : Program} {l : Launch} {e : Env} {R : Room} {s : State} {m : MethodId} {args : Array Value} {below : List Frame} {meth : Method} {c : Code} {cells slots : Nat} {Q : State → Prop} {D : va_G} {G : Nat → ClassId} {L : List Nat} {A : Nat → Prop} {H0 : Heap} (C : CX p s m c args D G cX2_copyFrom 2 RX2) (hLA : ∀ q ∈ L, A q) (hcs : cells ≤ R.cells ∧ slots ≤ R.slots) (hRm : 1 ≤ R.frames ∧ 40 ≤ R.locals)  (S : PH) (v0 : Nat) (v1 : Nat) (r : PH) (h : f_X2_copyFrom S v0 v1 = some r) (hret : ∀ (S9 : PH) (H : Heap) (locs : List Loc) (ls : Array Slot) (pc : Nat), Wd D G L A H0 S9 H locs → S9 = r → decode cX2_copyFrom pc = .ok (.return_, 1) → W p l e R s m args below meth c H locs cells slots Q (F0 m pc ls [])) : ∀ (H : Heap) (locs : List Loc) (ls : Array Slot), Wd D G L A H0 S H locs → lv_has ls 2 [(0, .ref v0), (1, .ref v1)] → W p l e R s m args below meth c H locs cells slots Q (F0 m 0 ls []) := by
  have hx := C.1.1
  have hb := C.1.2.1
  unfold f_X2_copyFrom at h
  intro H locs ls w hl
  refine lv_aload_n hx hb dX2_copyFrom_0 rfl (lv_at hl 1 rfl) ?_
  obtain ⟨x1, hx1, h⟩ := bs h
  refine o_gR C w hx1 fl_X2_9 dX2_copyFrom_1 ?_
  refine lv_iconst (v := 0) hx hb dX2_copyFrom_4 (by decide) ?_
  refine lv_aload_n hx hb dX2_copyFrom_5 rfl (lv_at hl 0 rfl) ?_
  obtain ⟨x2, hx2, h⟩ := bs h
  refine o_gR C w hx2 fl_X2_9 dX2_copyFrom_6 ?_
  refine lv_iconst (v := 0) hx hb dX2_copyFrom_9 (by decide) ?_
  refine lv_bipush (v := 8) hx hb dX2_copyFrom_10 (by decide) ?_
  obtain ⟨S3, hS3, h⟩ := bs h
  refine o_cpI C w hl.1 hS3 kac_X2_65 kac_n kac_s kac_i hRm.1 (Nat.le_trans (Nat.le_of_ble_eq_true rfl) hRm.2) dX2_copyFrom_12 (fun H locs w => ?_)
  refine lv_aload_n hx hb dX2_copyFrom_15 rfl (lv_at hl 1 rfl) ?_
  obtain ⟨x4, hx4, h⟩ := bs h
  refine o_gR C w hx4 fl_X2_15 dX2_copyFrom_16 ?_
  refine lv_iconst (v := 0) hx hb dX2_copyFrom_19 (by decide) ?_
  refine lv_aload_n hx hb dX2_copyFrom_20 rfl (lv_at hl 0 rfl) ?_
  obtain ⟨x5, hx5, h⟩ := bs h
  refine o_gR C w hx5 fl_X2_15 dX2_copyFrom_21 ?_
  refine lv_iconst (v := 0) hx hb dX2_copyFrom_24 (by decide) ?_
  refine lv_bipush (v := 10) hx hb dX2_copyFrom_25 (by decide) ?_
  obtain ⟨S6, hS6, h⟩ := bs h
  refine o_cpI C w hl.1 hS6 kac_X2_65 kac_n kac_s kac_i hRm.1 (Nat.le_trans (Nat.le_of_ble_eq_true rfl) hRm.2) dX2_copyFrom_27 (fun H locs w => ?_)
  refine lv_aload_n hx hb dX2_copyFrom_30 rfl (lv_at hl 1 rfl) ?_
  obtain ⟨x7, hx7, h⟩ := bs h
  refine o_gR C w hx7 fl_X2_18 dX2_copyFrom_31 ?_
  refine lv_iconst (v := 0) hx hb dX2_copyFrom_34 (by decide) ?_
  refine lv_aload_n hx hb dX2_copyFrom_35 rfl (lv_at hl 0 rfl) ?_
  obtain ⟨x8, hx8, h⟩ := bs h
  refine o_gR C w hx8 fl_X2_18 dX2_copyFrom_36 ?_
  refine lv_iconst (v := 0) hx hb dX2_copyFrom_39 (by decide) ?_
  refine lv_bipush (v := 10) hx hb dX2_copyFrom_40 (by decide) ?_
  obtain ⟨S9, hS9, h⟩ := bs h
  refine o_cpI C w hl.1 hS9 kac_X2_65 kac_n kac_s kac_i hRm.1 (Nat.le_trans (Nat.le_of_ble_eq_true rfl) hRm.2) dX2_copyFrom_42 (fun H locs w => ?_)
  refine lv_aload_n hx hb dX2_copyFrom_45 rfl (lv_at hl 1 rfl) ?_
  obtain ⟨x10, hx10, h⟩ := bs h
  refine o_gR C w hx10 fl_X2_21 dX2_copyFrom_46 ?_
  refine lv_iconst (v := 0) hx hb dX2_copyFrom_49 (by decide) ?_
  refine lv_aload_n hx hb dX2_copyFrom_50 rfl (lv_at hl 0 rfl) ?_
  obtain ⟨x11, hx11, h⟩ := bs h
  refine o_gR C w hx11 fl_X2_21 dX2_copyFrom_51 ?_
  refine lv_iconst (v := 0) hx hb dX2_copyFrom_54 (by decide) ?_
  refine lv_bipush (v := 10) hx hb dX2_copyFrom_55 (by decide) ?_
  obtain ⟨S12, hS12, h⟩ := bs h
  refine o_cpI C w hl.1 hS12 kac_X2_65 kac_n kac_s kac_i hRm.1 (Nat.le_trans (Nat.le_of_ble_eq_true rfl) hRm.2) dX2_copyFrom_57 (fun H locs w => ?_)
  refine lv_aload_n hx hb dX2_copyFrom_60 rfl (lv_at hl 1 rfl) ?_
  obtain ⟨x13, hx13, h⟩ := bs h
  refine o_gR C w hx13 fl_X2_24 dX2_copyFrom_61 ?_
  refine lv_iconst (v := 0) hx hb dX2_copyFrom_64 (by decide) ?_
  refine lv_aload_n hx hb dX2_copyFrom_65 rfl (lv_at hl 0 rfl) ?_
  obtain ⟨x14, hx14, h⟩ := bs h
  refine o_gR C w hx14 fl_X2_24 dX2_copyFrom_66 ?_
  refine lv_iconst (v := 0) hx hb dX2_copyFrom_69 (by decide) ?_
  refine lv_bipush (v := 10) hx hb dX2_copyFrom_70 (by decide) ?_
  obtain ⟨S15, hS15, h⟩ := bs h
  refine o_cpI C w hl.1 hS15 kac_X2_65 kac_n kac_s kac_i hRm.1 (Nat.le_trans (Nat.le_of_ble_eq_true rfl) hRm.2) dX2_copyFrom_72 (fun H locs w => ?_)
  refine lv_aload_n hx hb dX2_copyFrom_75 rfl (lv_at hl 1 rfl) ?_
  obtain ⟨x16, hx16, h⟩ := bs h
  refine o_gR C w hx16 fl_X2_27 dX2_copyFrom_76 ?_
  refine lv_iconst (v := 0) hx hb dX2_copyFrom_79 (by decide) ?_
  refine lv_aload_n hx hb dX2_copyFrom_80 rfl (lv_at hl 0 rfl) ?_
  obtain ⟨x17, hx17, h⟩ := bs h
  refine o_gR C w hx17 fl_X2_27 dX2_copyFrom_81 ?_
  refine lv_iconst (v := 0) hx hb dX2_copyFrom_84 (by decide) ?_
  refine lv_bipush (v := 10) hx hb dX2_copyFrom_85 (by decide) ?_
  obtain ⟨S18, hS18, h⟩ := bs h
  refine o_cpI C w hl.1 hS18 kac_X2_65 kac_n kac_s kac_i hRm.1 (Nat.le_trans (Nat.le_of_ble_eq_true rfl) hRm.2) dX2_copyFrom_87 (fun H locs w => ?_)
  refine lv_aload_n hx hb dX2_copyFrom_90 rfl (lv_at hl 1 rfl) ?_
  obtain ⟨x19, hx19, h⟩ := bs h
  refine o_gR C w hx19 fl_X2_30 dX2_copyFrom_91 ?_
  refine lv_iconst (v := 0) hx hb dX2_copyFrom_94 (by decide) ?_
  refine lv_aload_n hx hb dX2_copyFrom_95 rfl (lv_at hl 0 rfl) ?_
  obtain ⟨x20, hx20, h⟩ := bs h
  refine o_gR C w hx20 fl_X2_30 dX2_copyFrom_96 ?_
  refine lv_iconst (v := 0) hx hb dX2_copyFrom_99 (by decide) ?_
  refine lv_bipush (v := 10) hx hb dX2_copyFrom_100 (by decide) ?_
  obtain ⟨S21, hS21, h⟩ := bs h
  refine o_cpI C w hl.1 hS21 kac_X2_65 kac_n kac_s kac_i hRm.1 (Nat.le_trans (Nat.le_of_ble_eq_true rfl) hRm.2) dX2_copyFrom_102 (fun H locs w => ?_)
  refine lv_aload_n hx hb dX2_copyFrom_105 rfl (lv_at hl 0 rfl) ?_
  refine lv_aload_n hx hb dX2_copyFrom_106 rfl (lv_at hl 1 rfl) ?_
  obtain ⟨x22, hx22, h⟩ := bs h
  refine o_gI C w hx22 fl_X2_33 dX2_copyFrom_107 ?_
  obtain ⟨S23, hS23, h⟩ := bs h
  refine o_pF C w hS23 fp_X2_33 rfl rfl dX2_copyFrom_110 (fun H locs w => ?_)
  refine lv_aload_n hx hb dX2_copyFrom_113 rfl (lv_at hl 0 rfl) ?_
  refine lv_aload_n hx hb dX2_copyFrom_114 rfl (lv_at hl 1 rfl) ?_
  obtain ⟨x24, hx24, h⟩ := bs h
  refine o_gI C w hx24 fl_X2_37 dX2_copyFrom_115 ?_
  obtain ⟨S25, hS25, h⟩ := bs h
  refine o_pF C w hS25 fp_X2_37 rfl rfl dX2_copyFrom_118 (fun H locs w => ?_)
  refine lv_aload_n hx hb dX2_copyFrom_121 rfl (lv_at hl 0 rfl) ?_
  refine lv_aload_n hx hb dX2_copyFrom_122 rfl (lv_at hl 1 rfl) ?_
  obtain ⟨x26, hx26, h⟩ := bs h
  refine o_gI C w hx26 fl_X2_40 dX2_copyFrom_123 ?_
  obtain ⟨S27, hS27, h⟩ := bs h
  refine o_pF C w hS27 fp_X2_40 rfl rfl dX2_copyFrom_126 (fun H locs w => ?_)
  refine lv_aload_n hx hb dX2_copyFrom_129 rfl (lv_at hl 0 rfl) ?_
  refine lv_aload_n hx hb dX2_copyFrom_130 rfl (lv_at hl 1 rfl) ?_
  obtain ⟨x28, hx28, h⟩ := bs h
  refine o_gI C w hx28 fl_X2_43 dX2_copyFrom_131 ?_
  obtain ⟨S29, hS29, h⟩ := bs h
  refine o_pF C w hS29 fp_X2_43 rfl rfl dX2_copyFrom_134 (fun H locs w => ?_)
  refine lv_aload_n hx hb dX2_copyFrom_137 rfl (lv_at hl 0 rfl) ?_
  refine lv_aload_n hx hb dX2_copyFrom_138 rfl (lv_at hl 1 rfl) ?_
  obtain ⟨x30, hx30, h⟩ := bs h
  refine o_gI C w hx30 fl_X2_46 dX2_copyFrom_139 ?_
  obtain ⟨S31, hS31, h⟩ := bs h
  refine o_pF C w hS31 fp_X2_46 rfl rfl dX2_copyFrom_142 (fun H locs w => ?_)
  exact hret _ _ _ _ _ w (Option.some.inj h) dX2_copyFrom_145
set_option maxHeartbeats 4000000 in
set_option maxRecDepth 100000 in
theorem c_X2_copyFrom (l : Launch) (D : va_G) (G : Nat → ClassId) (L : List Nat) (S : PH) (v0 : Nat) (v1 : Nat) (r : PH) (h : f_X2_copyFrom S v0 v1 = some r) : Met l yX2_copyFrom [Cond.code yX2_copyFrom cX2_copyFrom 2 none] ({ frames := 1, cells := 0, slots := 0, locals := 40 }) (va_Pc [.ref v0, .ref v1] (PreU D G L S)) (Qv D G L r) 0 0 (inL L) := by
  refine Met.ofW (cc := cX2_copyFrom) (maxL := 2) (ret := none) (by decide) rfl ?_
  intro p e s m args below meth c s₁ B hml hv
  obtain ⟨rfl, hpre⟩ := hv
  obtain ⟨C, w⟩ := o_ent (own := RX2) rfl B hml hpre
  have hl := lv_entry ([.ref v0, .ref v1]) (n := 2) (Nat.le_of_ble_eq_true rfl)
  rw [lg_entry_eq]
  generalize (lg_sl ([.ref v0, .ref v1]) ++ List.replicate (2 - (lg_sl ([.ref v0, .ref v1])).length) Slot.unset).toArray = ls at hl ⊢
  exact w_X2_copyFrom C (fun _ h => h) ⟨Nat.zero_le _, Nat.zero_le _⟩ ⟨Nat.le_of_ble_eq_true rfl, Nat.le_of_ble_eq_true rfl⟩  S v0 v1 r h (fun S9 H locs ls pc w hv hd => by subst hv; exact o_vret C w B.returns B.notSynchronized hd) _ _ _ w hl

def f_X3_markTables_L53 (S : PH) (v0 : Nat) (v2 : Int32) (v5 : Int32) (v6 : Int64) (v8 : Int32) : Option ((Int32 × PH) ⊕ (PH)) :=
if v2 ≤ v8 then (
some (.inr S))
else (
(gR S v0 3 0).bind fun x7 =>
(gR S v0 3 0).bind fun x8 =>
(ldJ S x8 v8).bind fun x9 =>
(stJ S x7 ((v5 * v2) + v8) (x9 ||| v6)).bind fun S10 =>
some (.inl ((v8 + 1), S10)))
def f_X3_markTables_L32 (S : PH) (v0 : Nat) (v1 : Nat) (v2 : Int32) (v3 : Int32) (v5 : Int32) : Option ((Int32 × PH) ⊕ (PH)) :=
if v5 < 0 then (
some (.inr S))
else (
(gR S v1 2 6).bind fun x5 =>
(ldI S x5 v3).bind fun x6 =>
(lpo (fun x : Int32 × PH => f_X3_markTables_L53 x.2 v0 v2 v5 ((1 : Int64) <<< ((x6 + v5).toInt64 &&& 63)) x.1) FU ((0 : Int32), S)).bind fun S11 =>
some (.inl ((v5 + (-1)), S11)))
def f_X3_markTables_L11 (S : PH) (v0 : Nat) (v1 : Nat) (v2 : Int32) (v3 : Int32) : Option ((Int32 × Int32 × PH) ⊕ (PH)) :=
(gI S v1 2 8).bind fun x3 =>
if x3 ≤ v3 then (
some (.inr S))
else (
(ckO S v1 2).bind fun _ =>
(f_X2_valueCount S v1 v3).bind fun x4 =>
(lpo (fun x : Int32 × PH => f_X3_markTables_L32 x.2 v0 v1 v2 v3 x.1) FU ((x4 - (1 : Int32)), S)).bind fun S19 =>
some (.inl ((v2 * x4), (v3 + 1), S19)))
def f_X3_markTables (S : PH) (v0 : Nat) (v1 : Nat) : Option (PH) :=
(gR S v0 3 0).bind fun x1 =>
(stJ S x1 (0 : Int32) (1 : Int64)).bind fun S2 =>
(lpo (fun x : Int32 × Int32 × PH => f_X3_markTables_L11 x.2.2 v0 v1 x.1 x.2.1) FU ((1 : Int32), (0 : Int32), S2)).bind fun S33 =>
some S33
set_option maxHeartbeats 4000000 in
set_option maxRecDepth 100000 in
theorem w_X3_markTables {p : Program} {l : Launch} {e : Env} {R : Room} {s : State} {m : MethodId} {args : Array Value} {below : List Frame} {meth : Method} {c : Code} {cells slots : Nat} {Q : State → Prop} {D : va_G} {G : Nat → ClassId} {L : List Nat} {A : Nat → Prop} {H0 : Heap} (C : CX p s m c args D G cX3_markTables 9 RX3) (hLA : ∀ q ∈ L, A q) (hcs : cells ≤ R.cells ∧ slots ≤ R.slots) (hR_X2_valueCount : RoomOk R ({ frames := 0, cells := 0, slots := 0, locals := 0 }) 2) (S : PH) (v0 : Nat) (v1 : Nat) (r : PH) (h : f_X3_markTables S v0 v1 = some r) (hret : ∀ (S9 : PH) (H : Heap) (locs : List Loc) (ls : Array Slot) (pc : Nat), Wd D G L A H0 S9 H locs → S9 = r → decode cX3_markTables pc = .ok (.return_, 1) → W p l e R s m args below meth c H locs cells slots Q (F0 m pc ls [])) : ∀ (H : Heap) (locs : List Loc) (ls : Array Slot), Wd D G L A H0 S H locs → lv_has ls 9 [(0, .ref v0), (1, .ref v1)] → W p l e R s m args below meth c H locs cells slots Q (F0 m 0 ls []) := by
  have hx := C.1.1
  have hb := C.1.2.1
  unfold f_X3_markTables at h
  intro H locs ls w hl
  refine lv_aload_n hx hb dX3_markTables_0 rfl (lv_at hl 0 rfl) ?_
  obtain ⟨x1, hx1, h⟩ := bs h
  refine o_gR C w hx1 fl_X3_9 dX3_markTables_1 ?_
  refine lv_iconst (v := 0) hx hb dX3_markTables_4 (by decide) ?_
  refine lv_lconst (v := 1) hx hb dX3_markTables_5 (by decide) ?_
  obtain ⟨S2, hS2, h⟩ := bs h
  refine o_stJ C w hS2 dX3_markTables_6 (fun H locs w => ?_)
  refine lv_iconst (v := 1) hx hb dX3_markTables_7 (by decide) ?_
  refine lv_istore_n (lv' := [(2, .int (1 : Int32)), (0, .ref v0), (1, .ref v1)]) hx hb dX3_markTables_8 rfl hl (by decide) rfl (fun ls hl => ?_)
  refine lv_iconst (v := 0) hx hb dX3_markTables_9 (by decide) ?_
  refine lv_istore_n (lv' := [(3, .int (0 : Int32)), (2, .int (1 : Int32)), (0, .ref v0), (1, .ref v1)]) hx hb dX3_markTables_10 rfl hl (by decide) rfl (fun ls hl => ?_)
  obtain ⟨S33, hL11, h⟩ := bs h
  have hE11 : ∀ (q34 : PH), S33 = q34 → ∀ (H : Heap) (locs : List Loc) (ls : Array Slot), Wd D G L A H0 q34 H locs → lv_has ls 9 [] → W p l e R s m args below meth c H locs cells slots Q (F0 m 104 ls []) := by
    intro q34 he
    cases he
    intro H locs ls w hl
    exact hret _ _ _ _ _ w (Option.some.inj h) dX3_markTables_104
  refine lpo_W (P := fun x : Int32 × Int32 × PH => ∀ (H : Heap) (locs : List Loc) (ls : Array Slot), Wd D G L A H0 x.2.2 H locs → lv_has ls 9 [(0, .ref v0), (1, .ref v1), (2, .int x.1), (3, .int x.2.1)] → W p l e R s m args below meth c H locs cells slots Q (F0 m 11 ls [])) ?_ FU _ hL11 H locs ls w (lv_sub hl [2, 3, 1, 0] rfl)
  intro x y11 h hnext11 hend11
  obtain ⟨t35, t36, S37⟩ := x
  have h : f_X3_markTables_L11 S37 v0 v1 t35 t36 = some y11 := h
  unfold f_X3_markTables_L11 at h
  intro H locs ls w hl
  have hl : lv_has ls 9 [(0, .ref v0), (1, .ref v1), (2, .int t35), (3, .int t36)] := hl
  have w : Wd D G L A H0 S37 H locs := w
  refine lv_iload_n hx hb dX3_markTables_11 rfl (lv_at hl 3 rfl) ?_
  refine lv_aload_n hx hb dX3_markTables_12 rfl (lv_at hl 1 rfl) ?_
  obtain ⟨x38, hx38, h⟩ := bs h
  refine o_gI C w hx38 fl_X3_22 dX3_markTables_13 ?_
  refine lv_icmp_ge (tgt := 104) hx hb dX3_markTables_16 (by decide) (fun cc16 => ?_) (fun cc16 => ?_)
  · have h := it cc16 h
    exact hE11 _ (hend11 _ (Option.some.inj h).symm).symm H locs ls w (lv_sub hl [] rfl)
  · have h := ie cc16 h
    refine lv_aload_n hx hb dX3_markTables_19 rfl (lv_at hl 1 rfl) ?_
    refine lv_iload_n hx hb dX3_markTables_20 rfl (lv_at hl 3 rfl) ?_
    obtain ⟨_, ho, h⟩ := bs h
    obtain ⟨x39, hc, h⟩ := bs h
    refine o_backi w hLA (o_runV (As := [.int t36]) (rest := []) C w (c_X2_valueCount l D G L S37 v1 t36 x39 hc) ml_X3_28 mv_X2_valueCount hR_X2_valueCount ho rfl hl.1 rfl (Nat.le_of_ble_eq_true rfl) dX3_markTables_21 hcs) (fun H locs w => ?_)
    refine lv_istore (lv' := [(4, .int x39), (0, .ref v0), (1, .ref v1), (2, .int t35), (3, .int t36)]) hx hb dX3_markTables_24 hl (by decide) rfl (fun ls hl => ?_)
    refine lv_iload hx hb dX3_markTables_26 (lv_at hl 0 rfl) ?_
    refine lv_iconst (v := 1) hx hb dX3_markTables_28 (by decide) ?_
    refine lv_isub hx hb dX3_markTables_29 ?_
    refine lv_istore (lv' := [(5, .int (x39 - (1 : Int32))), (4, .int x39), (0, .ref v0), (1, .ref v1), (2, .int t35), (3, .int t36)]) hx hb dX3_markTables_30 hl (by decide) rfl (fun ls hl => ?_)
    obtain ⟨S40, hL32, h⟩ := bs h
    have hE32 : ∀ (q41 : PH), S40 = q41 → ∀ (H : Heap) (locs : List Loc) (ls : Array Slot), Wd D G L A H0 q41 H locs → lv_has ls 9 [(0, .ref v0), (1, .ref v1), (2, .int t35), (3, .int t36), (4, .int x39)] → W p l e R s m args below meth c H locs cells slots Q (F0 m 93 ls []) := by
      intro q41 he
      cases he
      intro H locs ls w hl
      refine lv_iload_n hx hb dX3_markTables_93 rfl (lv_at hl 2 rfl) ?_
      refine lv_iload hx hb dX3_markTables_94 (lv_at hl 4 rfl) ?_
      refine lv_imul hx hb dX3_markTables_96 ?_
      refine lv_istore_n (lv' := [(2, .int (t35 * x39)), (0, .ref v0), (1, .ref v1), (3, .int t36), (4, .int x39)]) hx hb dX3_markTables_97 rfl hl (by decide) rfl (fun ls hl => ?_)
      refine lv_iinc (v := (t36 + 1)) (lv' := [(3, .int (t36 + 1)), (2, .int (t35 * x39)), (0, .ref v0), (1, .ref v1), (4, .int x39)]) hx hb dX3_markTables_98 hl (k := 3) rfl rfl (by decide) rfl (fun ls hl => ?_)
      refine lv_goto (tgt := 11) hx hb dX3_markTables_101 (by decide) ?_
      exact hnext11 _ (Option.some.inj h).symm H locs ls w (lv_sub hl [2, 3, 1, 0] rfl)
    refine lpo_W (P := fun x : Int32 × PH => ∀ (H : Heap) (locs : List Loc) (ls : Array Slot), Wd D G L A H0 x.2 H locs → lv_has ls 9 [(0, .ref v0), (1, .ref v1), (2, .int t35), (3, .int t36), (4, .int x39), (5, .int x.1)] → W p l e R s m args below meth c H locs cells slots Q (F0 m 32 ls [])) ?_ FU _ hL32 H locs ls w (lv_sub hl [2, 3, 4, 5, 1, 0] rfl)
    intro x y32 h hnext32 hend32
    obtain ⟨t42, S43⟩ := x
    have h : f_X3_markTables_L32 S43 v0 v1 t35 t36 t42 = some y32 := h
    unfold f_X3_markTables_L32 at h
    intro H locs ls w hl
    have hl : lv_has ls 9 [(0, .ref v0), (1, .ref v1), (2, .int t35), (3, .int t36), (4, .int x39), (5, .int t42)] := hl
    have w : Wd D G L A H0 S43 H locs := w
    refine lv_iload hx hb dX3_markTables_32 (lv_at hl 5 rfl) ?_
    refine lv_if_lt (tgt := 93) hx hb dX3_markTables_34 (by decide) (fun cc34 => ?_) (fun cc34 => ?_)
    · have h := it cc34 h
      exact hE32 _ (hend32 _ (Option.some.inj h).symm).symm H locs ls w (lv_sub hl [0, 1, 2, 3, 4] rfl)
    · have h := ie cc34 h
      refine lv_lconst (v := 1) hx hb dX3_markTables_37 (by decide) ?_
      refine lv_aload_n hx hb dX3_markTables_38 rfl (lv_at hl 1 rfl) ?_
      obtain ⟨x44, hx44, h⟩ := bs h
      refine o_gR C w hx44 fl_X3_32 dX3_markTables_39 ?_
      refine lv_iload_n hx hb dX3_markTables_42 rfl (lv_at hl 3 rfl) ?_
      obtain ⟨x45, hx45, h⟩ := bs h
      refine o_ldI C w hx45 dX3_markTables_43 ?_
      refine lv_iload hx hb dX3_markTables_44 (lv_at hl 5 rfl) ?_
      refine lv_iadd hx hb dX3_markTables_46 ?_
      refine lv_lshl hx hb dX3_markTables_47 rfl ?_
      refine lv_lstore (lv' := [(6, .long ((1 : Int64) <<< ((x45 + t42).toInt64 &&& 63))), (0, .ref v0), (1, .ref v1), (2, .int t35), (3, .int t36), (4, .int x39), (5, .int t42)]) hx hb dX3_markTables_48 hl (by decide) rfl (fun ls hl => ?_)
      refine lv_iconst (v := 0) hx hb dX3_markTables_50 (by decide) ?_
      refine lv_istore (lv' := [(8, .int (0 : Int32)), (6, .long ((1 : Int64) <<< ((x45 + t42).toInt64 &&& 63))), (0, .ref v0), (1, .ref v1), (2, .int t35), (3, .int t36), (4, .int x39), (5, .int t42)]) hx hb dX3_markTables_51 hl (by decide) rfl (fun ls hl => ?_)
      obtain ⟨S46, hL53, h⟩ := bs h
      have hE53 : ∀ (q47 : PH), S46 = q47 → ∀ (H : Heap) (locs : List Loc) (ls : Array Slot), Wd D G L A H0 q47 H locs → lv_has ls 9 [(0, .ref v0), (1, .ref v1), (2, .int t35), (3, .int t36), (4, .int x39), (5, .int t42)] → W p l e R s m args below meth c H locs cells slots Q (F0 m 87 ls []) := by
        intro q47 he
        cases he
        intro H locs ls w hl
        refine lv_iinc (v := (t42 + (-1))) (lv' := [(5, .int (t42 + (-1))), (0, .ref v0), (1, .ref v1), (2, .int t35), (3, .int t36), (4, .int x39)]) hx hb dX3_markTables_87 hl (k := 5) rfl rfl (by decide) rfl (fun ls hl => ?_)
        refine lv_goto (tgt := 32) hx hb dX3_markTables_90 (by decide) ?_
        exact hnext32 _ (Option.some.inj h).symm H locs ls w (lv_sub hl [1, 2, 3, 4, 5, 0] rfl)
      refine lpo_W (P := fun x : Int32 × PH => ∀ (H : Heap) (locs : List Loc) (ls : Array Slot), Wd D G L A H0 x.2 H locs → lv_has ls 9 [(0, .ref v0), (1, .ref v1), (2, .int t35), (3, .int t36), (4, .int x39), (5, .int t42), (6, .long ((1 : Int64) <<< ((x45 + t42).toInt64 &&& 63))), (8, .int x.1)] → W p l e R s m args below meth c H locs cells slots Q (F0 m 53 ls [])) ?_ FU _ hL53 H locs ls w (lv_sub hl [2, 3, 4, 5, 6, 7, 1, 0] rfl)
      intro x y53 h hnext53 hend53
      obtain ⟨t48, S49⟩ := x
      have h : f_X3_markTables_L53 S49 v0 t35 t42 ((1 : Int64) <<< ((x45 + t42).toInt64 &&& 63)) t48 = some y53 := h
      unfold f_X3_markTables_L53 at h
      intro H locs ls w hl
      have hl : lv_has ls 9 [(0, .ref v0), (1, .ref v1), (2, .int t35), (3, .int t36), (4, .int x39), (5, .int t42), (6, .long ((1 : Int64) <<< ((x45 + t42).toInt64 &&& 63))), (8, .int t48)] := hl
      have w : Wd D G L A H0 S49 H locs := w
      refine lv_iload hx hb dX3_markTables_53 (lv_at hl 7 rfl) ?_
      refine lv_iload_n hx hb dX3_markTables_55 rfl (lv_at hl 2 rfl) ?_
      refine lv_icmp_ge (tgt := 87) hx hb dX3_markTables_56 (by decide) (fun cc56 => ?_) (fun cc56 => ?_)
      · have h := it cc56 h
        exact hE53 _ (hend53 _ (Option.some.inj h).symm).symm H locs ls w (lv_sub hl [0, 1, 2, 3, 4, 5] rfl)
      · have h := ie cc56 h
        refine lv_aload_n hx hb dX3_markTables_59 rfl (lv_at hl 0 rfl) ?_
        obtain ⟨x50, hx50, h⟩ := bs h
        refine o_gR C w hx50 fl_X3_9 dX3_markTables_60 ?_
        refine lv_iload hx hb dX3_markTables_63 (lv_at hl 5 rfl) ?_
        refine lv_iload_n hx hb dX3_markTables_65 rfl (lv_at hl 2 rfl) ?_
        refine lv_imul hx hb dX3_markTables_66 ?_
        refine lv_iload hx hb dX3_markTables_67 (lv_at hl 7 rfl) ?_
        refine lv_iadd hx hb dX3_markTables_69 ?_
        refine lv_aload_n hx hb dX3_markTables_70 rfl (lv_at hl 0 rfl) ?_
        obtain ⟨x51, hx51, h⟩ := bs h
        refine o_gR C w hx51 fl_X3_9 dX3_markTables_71 ?_
        refine lv_iload hx hb dX3_markTables_74 (lv_at hl 7 rfl) ?_
        obtain ⟨x52, hx52, h⟩ := bs h
        refine o_ldJ C w hx52 dX3_markTables_76 ?_
        refine lv_lload hx hb dX3_markTables_77 (lv_at hl 6 rfl) ?_
        refine lv_lor hx hb dX3_markTables_79 ?_
        obtain ⟨S53, hS53, h⟩ := bs h
        refine o_stJ C w hS53 dX3_markTables_80 (fun H locs w => ?_)
        refine lv_iinc (v := (t48 + 1)) (lv' := [(8, .int (t48 + 1)), (0, .ref v0), (1, .ref v1), (2, .int t35), (3, .int t36), (4, .int x39), (5, .int t42), (6, .long ((1 : Int64) <<< ((x45 + t42).toInt64 &&& 63)))]) hx hb dX3_markTables_81 hl (k := 7) rfl rfl (by decide) rfl (fun ls hl => ?_)
        refine lv_goto (tgt := 53) hx hb dX3_markTables_84 (by decide) ?_
        exact hnext53 _ (Option.some.inj h).symm H locs ls w (lv_sub hl [1, 2, 3, 4, 5, 6, 7, 0] rfl)
set_option maxHeartbeats 4000000 in
set_option maxRecDepth 100000 in
theorem c_X3_markTables (l : Launch) (D : va_G) (G : Nat → ClassId) (L : List Nat) (S : PH) (v0 : Nat) (v1 : Nat) (r : PH) (h : f_X3_markTables S v0 v1 = some r) : Met l yX3_markTables [Cond.code yX3_markTables cX3_markTables 9 none] ({ frames := 1, cells := 0, slots := 0, locals := 21 }) (va_Pc [.ref v0, .ref v1] (PreU D G L S)) (Qv D G L r) 0 0 (inL L) := by
  refine Met.ofW (cc := cX3_markTables) (maxL := 9) (ret := none) (by decide) rfl ?_
  intro p e s m args below meth c s₁ B hml hv
  obtain ⟨rfl, hpre⟩ := hv
  obtain ⟨C, w⟩ := o_ent (own := RX3) rfl B hml hpre
  have hl := lv_entry ([.ref v0, .ref v1]) (n := 9) (Nat.le_of_ble_eq_true rfl)
  rw [lg_entry_eq]
  generalize (lg_sl ([.ref v0, .ref v1]) ++ List.replicate (9 - (lg_sl ([.ref v0, .ref v1])).length) Slot.unset).toArray = ls at hl ⊢
  exact w_X3_markTables C (fun _ h => h) ⟨Nat.zero_le _, Nat.zero_le _⟩ ⟨rfl, rfl, Nat.le_of_ble_eq_true rfl, Nat.le_of_ble_eq_true rfl⟩ S v0 v1 r h (fun S9 H locs ls pc w hv hd => by subst hv; exact o_vret C w B.returns B.notSynchronized hd) _ _ _ w hl

def f_X3_withValue (v0 : Int32) (v1 : Int32) (v2 : Int32) (v3 : Int32) : Option (Int32) :=
if v2 = 0 then (
some (v0 + v1))
else if v2 = 1 then (
if v1 < v3 then (
some v0)
else (
some (v0 + (1 : Int32))))
else if v2 = 2 then (
some (if v0 < v1 then v1 else v0))
else (
some (if v1 < v0 then v1 else v0))
set_option maxHeartbeats 4000000 in
set_option maxRecDepth 100000 in
theorem w_X3_withValue {p : Program} {l : Launch} {e : Env} {R : Room} {s : State} {m : MethodId} {args : Array Value} {below : List Frame} {meth : Method} {c : Code} {cells slots : Nat} {Q : State → Prop} {D : va_G} {G : Nat → ClassId} {L : List Nat} {A : Nat → Prop} {H0 : Heap} (C : CX p s m c args D G cX3_withValue 4 RX3) (hLA : ∀ q ∈ L, A q) (hcs : cells ≤ R.cells ∧ slots ≤ R.slots) (hRm : 1 ≤ R.frames ∧ 21 ≤ R.locals)  (S : PH) (v0 : Int32) (v1 : Int32) (v2 : Int32) (v3 : Int32) (r : Int32) (h : f_X3_withValue v0 v1 v2 v3 = some r) (hret : ∀ (v : Int32) (H : Heap) (locs : List Loc) (ls : Array Slot) (pc : Nat), Wd D G L A H0 S H locs → v = r → decode cX3_withValue pc = .ok (.ireturn, 1) → W p l e R s m args below meth c H locs cells slots Q (F0 m pc ls [.int v])) : ∀ (H : Heap) (locs : List Loc) (ls : Array Slot), Wd D G L A H0 S H locs → lv_has ls 4 [(0, .int v0), (1, .int v1), (2, .int v2), (3, .int v3)] → W p l e R s m args below meth c H locs cells slots Q (F0 m 0 ls []) := by
  have hx := C.1.1
  have hb := C.1.2.1
  unfold f_X3_withValue at h
  intro H locs ls w hl
  refine lv_iload_n hx hb dX3_withValue_0 rfl (lv_at hl 2 rfl) ?_
  by_cases cw1_0 : v2 = 0
  · have h := it cw1_0 h
    refine o_sw0 C 0 cw1_0 dX3_withValue_1 (by decide) (by decide) rfl (tgt := 28) (by decide) ?_
    refine lv_iload_n hx hb dX3_withValue_28 rfl (lv_at hl 0 rfl) ?_
    refine lv_iload_n hx hb dX3_withValue_29 rfl (lv_at hl 1 rfl) ?_
    refine lv_iadd hx hb dX3_withValue_30 ?_
    exact hret _ _ _ _ _ w (Option.some.inj h) dX3_withValue_31
  have h := ie cw1_0 h
  by_cases cw1_1 : v2 = 1
  · have h := it cw1_1 h
    refine o_sw0 C 1 cw1_1 dX3_withValue_1 (by decide) (by decide) rfl (tgt := 32) (by decide) ?_
    refine lv_iload_n hx hb dX3_withValue_32 rfl (lv_at hl 1 rfl) ?_
    refine lv_iload_n hx hb dX3_withValue_33 rfl (lv_at hl 3 rfl) ?_
    refine lv_icmp_lt (tgt := 43) hx hb dX3_withValue_34 (by decide) (fun cc34 => ?_) (fun cc34 => ?_)
    · have h := it cc34 h
      refine lv_iload_n hx hb dX3_withValue_43 rfl (lv_at hl 0 rfl) ?_
      exact hret _ _ _ _ _ w (Option.some.inj h) dX3_withValue_44
    · have h := ie cc34 h
      refine lv_iload_n hx hb dX3_withValue_37 rfl (lv_at hl 0 rfl) ?_
      refine lv_iconst (v := 1) hx hb dX3_withValue_38 (by decide) ?_
      refine lv_iadd hx hb dX3_withValue_39 ?_
      refine lv_goto (tgt := 44) hx hb dX3_withValue_40 (by decide) ?_
      exact hret _ _ _ _ _ w (Option.some.inj h) dX3_withValue_44
  have h := ie cw1_1 h
  by_cases cw1_2 : v2 = 2
  · have h := it cw1_2 h
    refine o_sw0 C 2 cw1_2 dX3_withValue_1 (by decide) (by decide) rfl (tgt := 45) (by decide) ?_
    refine lv_iload_n hx hb dX3_withValue_45 rfl (lv_at hl 0 rfl) ?_
    refine lv_iload_n hx hb dX3_withValue_46 rfl (lv_at hl 1 rfl) ?_
    refine va_mmax hx hb (C.1.2.2.1.trans hl.1.symm) C.1.2.2.2.1 (C.1.2.2.2.2 _ kmm_X3_50) (C.1.2.2.2.2 _ kmm_max_s) (C.1.2.2.2.2 _ kmm_i) (C.1.2.2.2.2 _ kmm_max_c) hRm.1 (Nat.le_trans (Nat.le_of_ble_eq_true rfl) hRm.2) hcs.1 hcs.2 dX3_withValue_47 ?_
    exact hret _ _ _ _ _ w (Option.some.inj h) dX3_withValue_50
  have h := ie cw1_2 h
  have cx0 := lv_neT (k := 0) (a := 0) cw1_0 (by decide)
  have cx1 := lv_neT (k := 1) (a := 1) cw1_1 (by decide)
  have cx2 := lv_neT (k := 2) (a := 2) cw1_2 (by decide)
  refine lv_tableOut (tgt := 51) hx hb dX3_withValue_1 (by omega) (by decide) ?_
  refine lv_iload_n hx hb dX3_withValue_51 rfl (lv_at hl 0 rfl) ?_
  refine lv_iload_n hx hb dX3_withValue_52 rfl (lv_at hl 1 rfl) ?_
  refine va_mmin hx hb (C.1.2.2.1.trans hl.1.symm) C.1.2.2.2.1 (C.1.2.2.2.2 _ kmm_X3_56) (C.1.2.2.2.2 _ kmm_min_s) (C.1.2.2.2.2 _ kmm_i) (C.1.2.2.2.2 _ kmm_min_c) hRm.1 (Nat.le_trans (Nat.le_of_ble_eq_true rfl) hRm.2) hcs.1 hcs.2 dX3_withValue_53 ?_
  exact hret _ _ _ _ _ w (Option.some.inj h) dX3_withValue_56
set_option maxHeartbeats 4000000 in
set_option maxRecDepth 100000 in
theorem c_X3_withValue (l : Launch) (D : va_G) (G : Nat → ClassId) (L : List Nat) (S : PH) (v0 : Int32) (v1 : Int32) (v2 : Int32) (v3 : Int32) (r : Int32) (h : f_X3_withValue v0 v1 v2 v3 = some r) : Met l yX3_withValue [Cond.code yX3_withValue cX3_withValue 4 (some .int)] ({ frames := 1, cells := 0, slots := 0, locals := 21 }) (va_Pc [.int v0, .int v1, .int v2, .int v3] (PreU D G L S)) (Qi D G L r S) 0 0 (inL L) := by
  refine Met.ofW (cc := cX3_withValue) (maxL := 4) (ret := (some .int)) (by decide) rfl ?_
  intro p e s m args below meth c s₁ B hml hv
  obtain ⟨rfl, hpre⟩ := hv
  obtain ⟨C, w⟩ := o_ent (own := RX3) rfl B hml hpre
  have hl := lv_entry ([.int v0, .int v1, .int v2, .int v3]) (n := 4) (Nat.le_of_ble_eq_true rfl)
  rw [lg_entry_eq]
  generalize (lg_sl ([.int v0, .int v1, .int v2, .int v3]) ++ List.replicate (4 - (lg_sl ([.int v0, .int v1, .int v2, .int v3])).length) Slot.unset).toArray = ls at hl ⊢
  exact w_X3_withValue C (fun _ h => h) ⟨Nat.zero_le _, Nat.zero_le _⟩ ⟨Nat.le_of_ble_eq_true rfl, Nat.le_of_ble_eq_true rfl⟩  S v0 v1 v2 v3 r h (fun v H locs ls pc w hv hd => by subst hv; exact o_iret C w B.returns B.notSynchronized hd) _ _ _ w hl

def f_X3_cutAnswers_L8 (S : PH) (v0 : Nat) (v1 : Int32) (v2 : Int32) (v3 : Int32) : Option ((Int32 × PH) ⊕ (PH)) :=
if v1 ≤ v3 then (
some (.inr S))
else (
(gR S v0 3 1).bind fun x1 =>
(ldI S x1 v3).bind fun x2 =>
(gR S v0 3 1).bind fun x3 =>
(ldI S x3 v3).bind fun x4 =>
(rmI x4 v2).bind fun x5 =>
(stI S x1 v3 (x2 - x5)).bind fun S6 =>
some (.inl ((v3 + 1), S6)))
def f_X3_cutAnswers (S : PH) (v0 : Nat) (v1 : Int32) (v2 : Int32) : Option (PH) :=
if (1 : Int32) ≤ v2 then (
(lpo (fun x : Int32 × PH => f_X3_cutAnswers_L8 x.2 v0 v1 v2 x.1) FU ((0 : Int32), S)).bind fun S7 =>
some S7)
else (
some S)
set_option maxHeartbeats 4000000 in
set_option maxRecDepth 100000 in
theorem w_X3_cutAnswers {p : Program} {l : Launch} {e : Env} {R : Room} {s : State} {m : MethodId} {args : Array Value} {below : List Frame} {meth : Method} {c : Code} {cells slots : Nat} {Q : State → Prop} {D : va_G} {G : Nat → ClassId} {L : List Nat} {A : Nat → Prop} {H0 : Heap} (C : CX p s m c args D G cX3_cutAnswers 4 RX3) (hLA : ∀ q ∈ L, A q) (hcs : cells ≤ R.cells ∧ slots ≤ R.slots)  (S : PH) (v0 : Nat) (v1 : Int32) (v2 : Int32) (r : PH) (h : f_X3_cutAnswers S v0 v1 v2 = some r) (hret : ∀ (S9 : PH) (H : Heap) (locs : List Loc) (ls : Array Slot) (pc : Nat), Wd D G L A H0 S9 H locs → S9 = r → decode cX3_cutAnswers pc = .ok (.return_, 1) → W p l e R s m args below meth c H locs cells slots Q (F0 m pc ls [])) : ∀ (H : Heap) (locs : List Loc) (ls : Array Slot), Wd D G L A H0 S H locs → lv_has ls 4 [(0, .ref v0), (1, .int v1), (2, .int v2)] → W p l e R s m args below meth c H locs cells slots Q (F0 m 0 ls []) := by
  have hx := C.1.1
  have hb := C.1.2.1
  unfold f_X3_cutAnswers at h
  intro H locs ls w hl
  refine lv_iload_n hx hb dX3_cutAnswers_0 rfl (lv_at hl 2 rfl) ?_
  refine lv_iconst (v := 1) hx hb dX3_cutAnswers_1 (by decide) ?_
  refine lv_icmp_ge (tgt := 6) hx hb dX3_cutAnswers_2 (by decide) (fun cc2 => ?_) (fun cc2 => ?_)
  · have h := it cc2 h
    refine lv_iconst (v := 0) hx hb dX3_cutAnswers_6 (by decide) ?_
    refine lv_istore_n (lv' := [(3, .int (0 : Int32)), (0, .ref v0), (1, .int v1), (2, .int v2)]) hx hb dX3_cutAnswers_7 rfl hl (by decide) rfl (fun ls hl => ?_)
    obtain ⟨S7, hL8, h⟩ := bs h
    have hE8 : ∀ (q8 : PH), S7 = q8 → ∀ (H : Heap) (locs : List Loc) (ls : Array Slot), Wd D G L A H0 q8 H locs → lv_has ls 4 [] → W p l e R s m args below meth c H locs cells slots Q (F0 m 36 ls []) := by
      intro q8 he
      cases he
      intro H locs ls w hl
      exact hret _ _ _ _ _ w (Option.some.inj h) dX3_cutAnswers_36
    refine lpo_W (P := fun x : Int32 × PH => ∀ (H : Heap) (locs : List Loc) (ls : Array Slot), Wd D G L A H0 x.2 H locs → lv_has ls 4 [(0, .ref v0), (1, .int v1), (2, .int v2), (3, .int x.1)] → W p l e R s m args below meth c H locs cells slots Q (F0 m 8 ls [])) ?_ FU _ hL8 H locs ls w (lv_sub hl [1, 2, 3, 0] rfl)
    intro x y8 h hnext8 hend8
    obtain ⟨t9, S10⟩ := x
    have h : f_X3_cutAnswers_L8 S10 v0 v1 v2 t9 = some y8 := h
    unfold f_X3_cutAnswers_L8 at h
    intro H locs ls w hl
    have hl : lv_has ls 4 [(0, .ref v0), (1, .int v1), (2, .int v2), (3, .int t9)] := hl
    have w : Wd D G L A H0 S10 H locs := w
    refine lv_iload_n hx hb dX3_cutAnswers_8 rfl (lv_at hl 3 rfl) ?_
    refine lv_iload_n hx hb dX3_cutAnswers_9 rfl (lv_at hl 1 rfl) ?_
    refine lv_icmp_ge (tgt := 36) hx hb dX3_cutAnswers_10 (by decide) (fun cc10 => ?_) (fun cc10 => ?_)
    · have h := it cc10 h
      exact hE8 _ (hend8 _ (Option.some.inj h).symm).symm H locs ls w (lv_sub hl [] rfl)
    · have h := ie cc10 h
      refine lv_aload_n hx hb dX3_cutAnswers_13 rfl (lv_at hl 0 rfl) ?_
      obtain ⟨x11, hx11, h⟩ := bs h
      refine o_gR C w hx11 fl_X3_15 dX3_cutAnswers_14 ?_
      refine lv_iload_n hx hb dX3_cutAnswers_17 rfl (lv_at hl 3 rfl) ?_
      refine lv_dup2_11 hx hb dX3_cutAnswers_18 rfl rfl ?_
      obtain ⟨x12, hx12, h⟩ := bs h
      refine o_ldI C w hx12 dX3_cutAnswers_19 ?_
      refine lv_aload_n hx hb dX3_cutAnswers_20 rfl (lv_at hl 0 rfl) ?_
      obtain ⟨x13, hx13, h⟩ := bs h
      refine o_gR C w hx13 fl_X3_15 dX3_cutAnswers_21 ?_
      refine lv_iload_n hx hb dX3_cutAnswers_24 rfl (lv_at hl 3 rfl) ?_
      obtain ⟨x14, hx14, h⟩ := bs h
      refine o_ldI C w hx14 dX3_cutAnswers_25 ?_
      refine lv_iload_n hx hb dX3_cutAnswers_26 rfl (lv_at hl 2 rfl) ?_
      obtain ⟨x15, hx15, h⟩ := bs h
      refine o_rm C hx15 dX3_cutAnswers_27 ?_
      refine lv_isub hx hb dX3_cutAnswers_28 ?_
      obtain ⟨S16, hS16, h⟩ := bs h
      refine o_stI C w hS16 dX3_cutAnswers_29 (fun H locs w => ?_)
      refine lv_iinc (v := (t9 + 1)) (lv' := [(3, .int (t9 + 1)), (0, .ref v0), (1, .int v1), (2, .int v2)]) hx hb dX3_cutAnswers_30 hl (k := 3) rfl rfl (by decide) rfl (fun ls hl => ?_)
      refine lv_goto (tgt := 8) hx hb dX3_cutAnswers_33 (by decide) ?_
      exact hnext8 _ (Option.some.inj h).symm H locs ls w (lv_sub hl [1, 2, 3, 0] rfl)
  · have h := ie cc2 h
    exact hret _ _ _ _ _ w (Option.some.inj h) dX3_cutAnswers_5
set_option maxHeartbeats 4000000 in
set_option maxRecDepth 100000 in
theorem c_X3_cutAnswers (l : Launch) (D : va_G) (G : Nat → ClassId) (L : List Nat) (S : PH) (v0 : Nat) (v1 : Int32) (v2 : Int32) (r : PH) (h : f_X3_cutAnswers S v0 v1 v2 = some r) : Met l yX3_cutAnswers [Cond.code yX3_cutAnswers cX3_cutAnswers 4 none] ({ frames := 0, cells := 0, slots := 0, locals := 0 }) (va_Pc [.ref v0, .int v1, .int v2] (PreU D G L S)) (Qv D G L r) 0 0 (inL L) := by
  refine Met.ofW (cc := cX3_cutAnswers) (maxL := 4) (ret := none) (by decide) rfl ?_
  intro p e s m args below meth c s₁ B hml hv
  obtain ⟨rfl, hpre⟩ := hv
  obtain ⟨C, w⟩ := o_ent (own := RX3) rfl B hml hpre
  have hl := lv_entry ([.ref v0, .int v1, .int v2]) (n := 4) (Nat.le_of_ble_eq_true rfl)
  rw [lg_entry_eq]
  generalize (lg_sl ([.ref v0, .int v1, .int v2]) ++ List.replicate (4 - (lg_sl ([.ref v0, .int v1, .int v2])).length) Slot.unset).toArray = ls at hl ⊢
  exact w_X3_cutAnswers C (fun _ h => h) ⟨Nat.zero_le _, Nat.zero_le _⟩  S v0 v1 v2 r h (fun S9 H locs ls pc w hv hd => by subst hv; exact o_vret C w B.returns B.notSynchronized hd) _ _ _ w hl

def f_X3_answerTables_b127 (S : PH) (v0 : Nat) (v2 : Int32) (v4 : Int32) (v5 : Int32) (v8 : Int32) (v9 : Int32) (v10 : Int32) (v11 : Int32) (s0 : Nat) (s1 : Int32) (s2 : Int32) : Option ((Int32 × PH) ⊕ (PH)) :=
(stI S s0 s1 s2).bind fun S7 =>
some (.inl ((v11 + 1), S7))
def f_X3_answerTables_L79 (S : PH) (v0 : Nat) (v2 : Int32) (v4 : Int32) (v5 : Int32) (v8 : Int32) (v9 : Int32) (v10 : Int32) (v11 : Int32) : Option ((Int32 × PH) ⊕ (PH)) :=
if v5 ≤ v11 then (
some (.inr S))
else (
(gR S v0 3 1).bind fun x8 =>
(ldI S x8 v11).bind fun x9 =>
(gR S v0 3 1).bind fun x10 =>
if v8 = 0 then (
f_X3_answerTables_b127 S v0 v2 v4 v5 v8 v9 v10 v11 x10 ((v9 * v5) + v11) x9)
else (
(f_X3_withValue x9 v10 v2 v4).bind fun x11 =>
f_X3_answerTables_b127 S v0 v2 v4 v5 v8 v9 v10 v11 x10 ((v9 * v5) + v11) x11))
def f_X3_answerTables_L59 (S : PH) (v0 : Nat) (v1 : Nat) (v2 : Int32) (v4 : Int32) (v5 : Int32) (v6 : Int32) (v8 : Int32) (v9 : Int32) : Option ((Int32 × PH) ⊕ (PH)) :=
if v9 < 0 then (
some (.inr S))
else (
(gR S v1 2 2).bind fun x5 =>
(ldI S x5 v6).bind fun x6 =>
(lpo (fun x : Int32 × PH => f_X3_answerTables_L79 x.2 v0 v2 v4 v5 v8 v9 (x6 + v9) x.1) FU ((0 : Int32), S)).bind fun S12 =>
some (.inl ((v9 + (-1)), S12)))
def f_X3_answerTables_L27 (S : PH) (v0 : Nat) (v1 : Nat) (v2 : Int32) (v3 : Int32) (v4 : Int32) (v5 : Int32) (v6 : Int32) : Option ((Int32 × Int32 × PH) ⊕ (Int32 × PH)) :=
(gI S v1 2 8).bind fun x2 =>
if x2 ≤ v6 then (
some (.inr (v5, S)))
else (
(ckO S v1 2).bind fun _ =>
(f_X2_valueCount S v1 v6).bind fun x3 =>
(ckO S v1 2).bind fun _ =>
(f_X2_isAskedOf S v1 v6 v3).bind fun x4 =>
(lpo (fun x : Int32 × PH => f_X3_answerTables_L59 x.2 v0 v1 v2 v4 v5 v6 x4 x.1) FU ((x3 - (1 : Int32)), S)).bind fun S26 =>
some (.inl ((v5 * x3), (v6 + 1), S26)))
def f_X3_answerTables_b20 (S : PH) (v0 : Nat) (v1 : Nat) (v2 : Int32) (v3 : Int32) (v4 : Int32) (s0 : Nat) (s1 : Int32) (s2 : Int32) : Option (PH) :=
(stI S s0 s1 s2).bind fun S1 =>
bd2 (lpo (fun x : Int32 × Int32 × PH => f_X3_answerTables_L27 x.2.2 v0 v1 v2 v3 v4 x.1 x.2.1) FU ((1 : Int32), (0 : Int32), S1)) fun y46 S47 =>
if v2 = 0 then (
if v4 ≤ (1 : Int32) then (
some S47)
else (
(ckO S47 v0 3).bind fun _ =>
(f_X3_cutAnswers S47 v0 y46 v4).bind fun S48 =>
some S48))
else (
some S47)
def f_X3_answerTables_b19 (S : PH) (v0 : Nat) (v1 : Nat) (v2 : Int32) (v3 : Int32) (v4 : Int32) (s0 : Nat) (s1 : Int32) : Option (PH) :=
f_X3_answerTables_b20 S v0 v1 v2 v3 v4 s0 s1 (0 : Int32)
def f_X3_answerTables (S : PH) (v0 : Nat) (v1 : Nat) (v2 : Int32) (v3 : Int32) (v4 : Int32) : Option (PH) :=
(gR S v0 3 1).bind fun x77 =>
if v2 = (3 : Int32) then (
if v3 = 0 then (
f_X3_answerTables_b19 S v0 v1 v2 v3 v4 x77 (0 : Int32))
else (
f_X3_answerTables_b20 S v0 v1 v2 v3 v4 x77 (0 : Int32) (21 : Int32)))
else (
f_X3_answerTables_b19 S v0 v1 v2 v3 v4 x77 (0 : Int32))
set_option maxHeartbeats 4000000 in
set_option maxRecDepth 100000 in
theorem w_X3_answerTables {p : Program} {l : Launch} {e : Env} {R : Room} {s : State} {m : MethodId} {args : Array Value} {below : List Frame} {meth : Method} {c : Code} {cells slots : Nat} {Q : State → Prop} {D : va_G} {G : Nat → ClassId} {L : List Nat} {A : Nat → Prop} {H0 : Heap} (C : CX p s m c args D G cX3_answerTables 13 RX3) (hLA : ∀ q ∈ L, A q) (hcs : cells ≤ R.cells ∧ slots ≤ R.slots) (hR_X2_valueCount : RoomOk R ({ frames := 0, cells := 0, slots := 0, locals := 0 }) 2) (hR_X2_isAskedOf : RoomOk R ({ frames := 1, cells := 0, slots := 0, locals := 21 }) 3) (hR_X3_withValue : RoomOk R ({ frames := 1, cells := 0, slots := 0, locals := 21 }) 4) (hR_X3_cutAnswers : RoomOk R ({ frames := 0, cells := 0, slots := 0, locals := 0 }) 4) (S : PH) (v0 : Nat) (v1 : Nat) (v2 : Int32) (v3 : Int32) (v4 : Int32) (r : PH) (h : f_X3_answerTables S v0 v1 v2 v3 v4 = some r) (hret : ∀ (S9 : PH) (H : Heap) (locs : List Loc) (ls : Array Slot) (pc : Nat), Wd D G L A H0 S9 H locs → S9 = r → decode cX3_answerTables pc = .ok (.return_, 1) → W p l e R s m args below meth c H locs cells slots Q (F0 m pc ls [])) : ∀ (H : Heap) (locs : List Loc) (ls : Array Slot), Wd D G L A H0 S H locs → lv_has ls 13 [(0, .ref v0), (1, .ref v1), (2, .int v2), (3, .int v3), (4, .int v4)] → W p l e R s m args below meth c H locs cells slots Q (F0 m 0 ls []) := by
  have hx := C.1.1
  have hb := C.1.2.1
  unfold f_X3_answerTables at h
  have hb20 : ∀ (S78 : PH) (u79 : Nat) (u80 : Nat) (u81 : Int32) (u82 : Int32) (u83 : Int32) (u84 : Nat) (u85 : Int32) (u86 : Int32), f_X3_answerTables_b20 S78 u79 u80 u81 u82 u83 u84 u85 u86 = some r → ∀ (H : Heap) (locs : List Loc) (ls : Array Slot), Wd D G L A H0 S78 H locs → lv_has ls 13 [(0, .ref u79), (1, .ref u80), (2, .int u81), (3, .int u82), (4, .int u83)] → W p l e R s m args below meth c H locs cells slots Q (F0 m 20 ls [.int u86, .int u85, .ref u84]) := by
    intro S78 u79 u80 u81 u82 u83 u84 u85 u86 h H locs ls w hl
    unfold f_X3_answerTables_b20 at h
    obtain ⟨S87, hS87, h⟩ := bs h
    refine o_stI C w hS87 dX3_answerTables_20 (fun H locs w => ?_)
    refine lv_iconst (v := 1) hx hb dX3_answerTables_21 (by decide) ?_
    refine lv_istore (lv' := [(5, .int (1 : Int32)), (0, .ref u79), (1, .ref u80), (2, .int u81), (3, .int u82), (4, .int u83)]) hx hb dX3_answerTables_22 hl (by decide) rfl (fun ls hl => ?_)
    refine lv_iconst (v := 0) hx hb dX3_answerTables_24 (by decide) ?_
    refine lv_istore (lv' := [(6, .int (0 : Int32)), (5, .int (1 : Int32)), (0, .ref u79), (1, .ref u80), (2, .int u81), (3, .int u82), (4, .int u83)]) hx hb dX3_answerTables_25 hl (by decide) rfl (fun ls hl => ?_)
    obtain ⟨y88, S89, hL27, h⟩ := bs2 h
    have hE27 : ∀ (q91 : Int32) (q92 : PH), (y88, S89) = (q91, q92) → ∀ (H : Heap) (locs : List Loc) (ls : Array Slot), Wd D G L A H0 q92 H locs → lv_has ls 13 [(0, .ref u79), (2, .int u81), (4, .int u83), (5, .int q91)] → W p l e R s m args below meth c H locs cells slots Q (F0 m 153 ls []) := by
      intro q91 q92 he
      cases he
      intro H locs ls w hl
      refine lv_iload_n hx hb dX3_answerTables_153 rfl (lv_at hl 1 rfl) ?_
      refine lv_if_ne (tgt := 171) hx hb dX3_answerTables_154 (by decide) (fun cc154 => ?_) (fun cc154 => ?_)
      · have h := ie cc154 h
        exact hret _ _ _ _ _ w (Option.some.inj h) dX3_answerTables_171
      · have h := it cc154 h
        refine lv_iload hx hb dX3_answerTables_157 (lv_at hl 2 rfl) ?_
        refine lv_iconst (v := 1) hx hb dX3_answerTables_159 (by decide) ?_
        refine lv_icmp_le (tgt := 171) hx hb dX3_answerTables_160 (by decide) (fun cc160 => ?_) (fun cc160 => ?_)
        · have h := it cc160 h
          exact hret _ _ _ _ _ w (Option.some.inj h) dX3_answerTables_171
        · have h := ie cc160 h
          refine lv_aload_n hx hb dX3_answerTables_163 rfl (lv_at hl 0 rfl) ?_
          refine lv_iload hx hb dX3_answerTables_164 (lv_at hl 3 rfl) ?_
          refine lv_iload hx hb dX3_answerTables_166 (lv_at hl 2 rfl) ?_
          obtain ⟨_, ho, h⟩ := bs h
          obtain ⟨S90, hc, h⟩ := bs h
          refine o_backv w hLA (o_runV (As := [.int y88, .int u83]) (rest := []) C w (c_X3_cutAnswers l D G L S89 u79 y88 u83 S90 hc) ml_X3_46 mv_X3_cutAnswers hR_X3_cutAnswers ho rfl hl.1 rfl (Nat.le_of_ble_eq_true rfl) dX3_answerTables_168 hcs) (fun H locs w => ?_)
          exact hret _ _ _ _ _ w (Option.some.inj h) dX3_answerTables_171
    refine lpo_W (P := fun x : Int32 × Int32 × PH => ∀ (H : Heap) (locs : List Loc) (ls : Array Slot), Wd D G L A H0 x.2.2 H locs → lv_has ls 13 [(0, .ref u79), (1, .ref u80), (2, .int u81), (3, .int u82), (4, .int u83), (5, .int x.1), (6, .int x.2.1)] → W p l e R s m args below meth c H locs cells slots Q (F0 m 27 ls [])) ?_ FU _ hL27 H locs ls w (lv_sub hl [2, 3, 4, 5, 6, 1, 0] rfl)
    intro x y27 h hnext27 hend27
    obtain ⟨t93, t94, S95⟩ := x
    have h : f_X3_answerTables_L27 S95 u79 u80 u81 u82 u83 t93 t94 = some y27 := h
    unfold f_X3_answerTables_L27 at h
    intro H locs ls w hl
    have hl : lv_has ls 13 [(0, .ref u79), (1, .ref u80), (2, .int u81), (3, .int u82), (4, .int u83), (5, .int t93), (6, .int t94)] := hl
    have w : Wd D G L A H0 S95 H locs := w
    refine lv_iload hx hb dX3_answerTables_27 (lv_at hl 6 rfl) ?_
    refine lv_aload_n hx hb dX3_answerTables_29 rfl (lv_at hl 1 rfl) ?_
    obtain ⟨x96, hx96, h⟩ := bs h
    refine o_gI C w hx96 fl_X3_22 dX3_answerTables_30 ?_
    refine lv_icmp_ge (tgt := 153) hx hb dX3_answerTables_33 (by decide) (fun cc33 => ?_) (fun cc33 => ?_)
    · have h := it cc33 h
      exact hE27 _ _ (hend27 _ (Option.some.inj h).symm).symm H locs ls w (lv_sub hl [0, 2, 4, 5] rfl)
    · have h := ie cc33 h
      refine lv_aload_n hx hb dX3_answerTables_36 rfl (lv_at hl 1 rfl) ?_
      refine lv_iload hx hb dX3_answerTables_37 (lv_at hl 6 rfl) ?_
      obtain ⟨_, ho, h⟩ := bs h
      obtain ⟨x97, hc, h⟩ := bs h
      refine o_backi w hLA (o_runV (As := [.int t94]) (rest := []) C w (c_X2_valueCount l D G L S95 u80 t94 x97 hc) ml_X3_28 mv_X2_valueCount hR_X2_valueCount ho rfl hl.1 rfl (Nat.le_of_ble_eq_true rfl) dX3_answerTables_39 hcs) (fun H locs w => ?_)
      refine lv_istore (lv' := [(7, .int x97), (0, .ref u79), (1, .ref u80), (2, .int u81), (3, .int u82), (4, .int u83), (5, .int t93), (6, .int t94)]) hx hb dX3_answerTables_42 hl (by decide) rfl (fun ls hl => ?_)
      refine lv_aload_n hx hb dX3_answerTables_44 rfl (lv_at hl 2 rfl) ?_
      refine lv_iload hx hb dX3_answerTables_45 (lv_at hl 7 rfl) ?_
      refine lv_iload_n hx hb dX3_answerTables_47 rfl (lv_at hl 4 rfl) ?_
      obtain ⟨_, ho, h⟩ := bs h
      obtain ⟨x98, hc, h⟩ := bs h
      refine o_backi w hLA (o_runV (As := [.int t94, .int u82]) (rest := []) C w (c_X2_isAskedOf l D G L S95 u80 t94 u82 x98 hc) ml_X3_35 mv_X2_isAskedOf hR_X2_isAskedOf ho rfl hl.1 rfl (Nat.le_of_ble_eq_true rfl) dX3_answerTables_48 hcs) (fun H locs w => ?_)
      refine lv_istore (lv' := [(8, .int x98), (7, .int x97), (0, .ref u79), (1, .ref u80), (2, .int u81), (3, .int u82), (4, .int u83), (5, .int t93), (6, .int t94)]) hx hb dX3_answerTables_51 hl (by decide) rfl (fun ls hl => ?_)
      refine lv_iload hx hb dX3_answerTables_53 (lv_at hl 1 rfl) ?_
      refine lv_iconst (v := 1) hx hb dX3_answerTables_55 (by decide) ?_
      refine lv_isub hx hb dX3_answerTables_56 ?_
      refine lv_istore (lv' := [(9, .int (x97 - (1 : Int32))), (8, .int x98), (7, .int x97), (0, .ref u79), (1, .ref u80), (2, .int u81), (3, .int u82), (4, .int u83), (5, .int t93), (6, .int t94)]) hx hb dX3_answerTables_57 hl (by decide) rfl (fun ls hl => ?_)
      obtain ⟨S99, hL59, h⟩ := bs h
      have hE59 : ∀ (q100 : PH), S99 = q100 → ∀ (H : Heap) (locs : List Loc) (ls : Array Slot), Wd D G L A H0 q100 H locs → lv_has ls 13 [(0, .ref u79), (1, .ref u80), (2, .int u81), (3, .int u82), (4, .int u83), (5, .int t93), (6, .int t94), (7, .int x97)] → W p l e R s m args below meth c H locs cells slots Q (F0 m 140 ls []) := by
        intro q100 he
        cases he
        intro H locs ls w hl
        refine lv_iload hx hb dX3_answerTables_140 (lv_at hl 5 rfl) ?_
        refine lv_iload hx hb dX3_answerTables_142 (lv_at hl 7 rfl) ?_
        refine lv_imul hx hb dX3_answerTables_144 ?_
        refine lv_istore (lv' := [(5, .int (t93 * x97)), (0, .ref u79), (1, .ref u80), (2, .int u81), (3, .int u82), (4, .int u83), (6, .int t94), (7, .int x97)]) hx hb dX3_answerTables_145 hl (by decide) rfl (fun ls hl => ?_)
        refine lv_iinc (v := (t94 + 1)) (lv' := [(6, .int (t94 + 1)), (5, .int (t93 * x97)), (0, .ref u79), (1, .ref u80), (2, .int u81), (3, .int u82), (4, .int u83), (7, .int x97)]) hx hb dX3_answerTables_147 hl (k := 6) rfl rfl (by decide) rfl (fun ls hl => ?_)
        refine lv_goto (tgt := 27) hx hb dX3_answerTables_150 (by decide) ?_
        exact hnext27 _ (Option.some.inj h).symm H locs ls w (lv_sub hl [2, 3, 4, 5, 6, 1, 0] rfl)
      refine lpo_W (P := fun x : Int32 × PH => ∀ (H : Heap) (locs : List Loc) (ls : Array Slot), Wd D G L A H0 x.2 H locs → lv_has ls 13 [(0, .ref u79), (1, .ref u80), (2, .int u81), (3, .int u82), (4, .int u83), (5, .int t93), (6, .int t94), (7, .int x97), (8, .int x98), (9, .int x.1)] → W p l e R s m args below meth c H locs cells slots Q (F0 m 59 ls [])) ?_ FU _ hL59 H locs ls w (lv_sub hl [3, 4, 5, 6, 7, 8, 9, 2, 1, 0] rfl)
      intro x y59 h hnext59 hend59
      obtain ⟨t101, S102⟩ := x
      have h : f_X3_answerTables_L59 S102 u79 u80 u81 u83 t93 t94 x98 t101 = some y59 := h
      unfold f_X3_answerTables_L59 at h
      intro H locs ls w hl
      have hl : lv_has ls 13 [(0, .ref u79), (1, .ref u80), (2, .int u81), (3, .int u82), (4, .int u83), (5, .int t93), (6, .int t94), (7, .int x97), (8, .int x98), (9, .int t101)] := hl
      have w : Wd D G L A H0 S102 H locs := w
      refine lv_iload hx hb dX3_answerTables_59 (lv_at hl 9 rfl) ?_
      refine lv_if_lt (tgt := 140) hx hb dX3_answerTables_61 (by decide) (fun cc61 => ?_) (fun cc61 => ?_)
      · have h := it cc61 h
        exact hE59 _ (hend59 _ (Option.some.inj h).symm).symm H locs ls w (lv_sub hl [0, 1, 2, 3, 4, 5, 6, 7] rfl)
      · have h := ie cc61 h
        refine lv_aload_n hx hb dX3_answerTables_64 rfl (lv_at hl 1 rfl) ?_
        obtain ⟨x103, hx103, h⟩ := bs h
        refine o_gR C w hx103 fl_X3_39 dX3_answerTables_65 ?_
        refine lv_iload hx hb dX3_answerTables_68 (lv_at hl 6 rfl) ?_
        obtain ⟨x104, hx104, h⟩ := bs h
        refine o_ldI C w hx104 dX3_answerTables_70 ?_
        refine lv_iload hx hb dX3_answerTables_71 (lv_at hl 9 rfl) ?_
        refine lv_iadd hx hb dX3_answerTables_73 ?_
        refine lv_istore (lv' := [(10, .int (x104 + t101)), (0, .ref u79), (1, .ref u80), (2, .int u81), (3, .int u82), (4, .int u83), (5, .int t93), (6, .int t94), (7, .int x97), (8, .int x98), (9, .int t101)]) hx hb dX3_answerTables_74 hl (by decide) rfl (fun ls hl => ?_)
        refine lv_iconst (v := 0) hx hb dX3_answerTables_76 (by decide) ?_
        refine lv_istore (lv' := [(11, .int (0 : Int32)), (10, .int (x104 + t101)), (0, .ref u79), (1, .ref u80), (2, .int u81), (3, .int u82), (4, .int u83), (5, .int t93), (6, .int t94), (7, .int x97), (8, .int x98), (9, .int t101)]) hx hb dX3_answerTables_77 hl (by decide) rfl (fun ls hl => ?_)
        obtain ⟨S105, hL79, h⟩ := bs h
        have hE79 : ∀ (q106 : PH), S105 = q106 → ∀ (H : Heap) (locs : List Loc) (ls : Array Slot), Wd D G L A H0 q106 H locs → lv_has ls 13 [(0, .ref u79), (1, .ref u80), (2, .int u81), (3, .int u82), (4, .int u83), (5, .int t93), (6, .int t94), (7, .int x97), (8, .int x98), (9, .int t101)] → W p l e R s m args below meth c H locs cells slots Q (F0 m 134 ls []) := by
          intro q106 he
          cases he
          intro H locs ls w hl
          refine lv_iinc (v := (t101 + (-1))) (lv' := [(9, .int (t101 + (-1))), (0, .ref u79), (1, .ref u80), (2, .int u81), (3, .int u82), (4, .int u83), (5, .int t93), (6, .int t94), (7, .int x97), (8, .int x98)]) hx hb dX3_answerTables_134 hl (k := 9) rfl rfl (by decide) rfl (fun ls hl => ?_)
          refine lv_goto (tgt := 59) hx hb dX3_answerTables_137 (by decide) ?_
          exact hnext59 _ (Option.some.inj h).symm H locs ls w (lv_sub hl [1, 2, 3, 4, 5, 6, 7, 8, 9, 0] rfl)
        refine lpo_W (P := fun x : Int32 × PH => ∀ (H : Heap) (locs : List Loc) (ls : Array Slot), Wd D G L A H0 x.2 H locs → lv_has ls 13 [(0, .ref u79), (1, .ref u80), (2, .int u81), (3, .int u82), (4, .int u83), (5, .int t93), (6, .int t94), (7, .int x97), (8, .int x98), (9, .int t101), (10, .int (x104 + t101)), (11, .int x.1)] → W p l e R s m args below meth c H locs cells slots Q (F0 m 79 ls [])) ?_ FU _ hL79 H locs ls w (lv_sub hl [2, 3, 4, 5, 6, 7, 8, 9, 10, 11, 1, 0] rfl)
        intro x y79 h hnext79 hend79
        obtain ⟨t107, S108⟩ := x
        have h : f_X3_answerTables_L79 S108 u79 u81 u83 t93 x98 t101 (x104 + t101) t107 = some y79 := h
        unfold f_X3_answerTables_L79 at h
        have hb127 : ∀ (S109 : PH) (u110 : Int32) (u111 : Nat) (u112 : Int32) (u113 : Int32), f_X3_answerTables_b127 S109 u79 u81 u83 t93 x98 t101 (x104 + t101) u110 u111 u112 u113 = some y79 → ∀ (H : Heap) (locs : List Loc) (ls : Array Slot), Wd D G L A H0 S109 H locs → lv_has ls 13 [(0, .ref u79), (1, .ref u80), (2, .int u81), (3, .int u82), (4, .int u83), (5, .int t93), (6, .int t94), (7, .int x97), (8, .int x98), (9, .int t101), (10, .int (x104 + t101)), (11, .int u110)] → W p l e R s m args below meth c H locs cells slots Q (F0 m 127 ls [.int u113, .int u112, .ref u111]) := by
          intro S109 u110 u111 u112 u113 h H locs ls w hl
          unfold f_X3_answerTables_b127 at h
          obtain ⟨S114, hS114, h⟩ := bs h
          refine o_stI C w hS114 dX3_answerTables_127 (fun H locs w => ?_)
          refine lv_iinc (v := (u110 + 1)) (lv' := [(11, .int (u110 + 1)), (0, .ref u79), (1, .ref u80), (2, .int u81), (3, .int u82), (4, .int u83), (5, .int t93), (6, .int t94), (7, .int x97), (8, .int x98), (9, .int t101), (10, .int (x104 + t101))]) hx hb dX3_answerTables_128 hl (k := 11) rfl rfl (by decide) rfl (fun ls hl => ?_)
          refine lv_goto (tgt := 79) hx hb dX3_answerTables_131 (by decide) ?_
          exact hnext79 _ (Option.some.inj h).symm H locs ls w (lv_sub hl [1, 2, 3, 4, 5, 6, 7, 8, 9, 10, 11, 0] rfl)
        intro H locs ls w hl
        have hl : lv_has ls 13 [(0, .ref u79), (1, .ref u80), (2, .int u81), (3, .int u82), (4, .int u83), (5, .int t93), (6, .int t94), (7, .int x97), (8, .int x98), (9, .int t101), (10, .int (x104 + t101)), (11, .int t107)] := hl
        have w : Wd D G L A H0 S108 H locs := w
        refine lv_iload hx hb dX3_answerTables_79 (lv_at hl 11 rfl) ?_
        refine lv_iload hx hb dX3_answerTables_81 (lv_at hl 5 rfl) ?_
        refine lv_icmp_ge (tgt := 134) hx hb dX3_answerTables_83 (by decide) (fun cc83 => ?_) (fun cc83 => ?_)
        · have h := it cc83 h
          exact hE79 _ (hend79 _ (Option.some.inj h).symm).symm H locs ls w (lv_sub hl [0, 1, 2, 3, 4, 5, 6, 7, 8, 9] rfl)
        · have h := ie cc83 h
          refine lv_aload_n hx hb dX3_answerTables_86 rfl (lv_at hl 0 rfl) ?_
          obtain ⟨x115, hx115, h⟩ := bs h
          refine o_gR C w hx115 fl_X3_15 dX3_answerTables_87 ?_
          refine lv_iload hx hb dX3_answerTables_90 (lv_at hl 11 rfl) ?_
          obtain ⟨x116, hx116, h⟩ := bs h
          refine o_ldI C w hx116 dX3_answerTables_92 ?_
          refine lv_istore (lv' := [(12, .int x116), (0, .ref u79), (1, .ref u80), (2, .int u81), (3, .int u82), (4, .int u83), (5, .int t93), (6, .int t94), (7, .int x97), (8, .int x98), (9, .int t101), (10, .int (x104 + t101)), (11, .int t107)]) hx hb dX3_answerTables_93 hl (by decide) rfl (fun ls hl => ?_)
          refine lv_aload_n hx hb dX3_answerTables_95 rfl (lv_at hl 1 rfl) ?_
          obtain ⟨x117, hx117, h⟩ := bs h
          refine o_gR C w hx117 fl_X3_15 dX3_answerTables_96 ?_
          refine lv_iload hx hb dX3_answerTables_99 (lv_at hl 10 rfl) ?_
          refine lv_iload hx hb dX3_answerTables_101 (lv_at hl 6 rfl) ?_
          refine lv_imul hx hb dX3_answerTables_103 ?_
          refine lv_iload hx hb dX3_answerTables_104 (lv_at hl 12 rfl) ?_
          refine lv_iadd hx hb dX3_answerTables_106 ?_
          refine lv_iload hx hb dX3_answerTables_107 (lv_at hl 9 rfl) ?_
          refine lv_if_eq (tgt := 125) hx hb dX3_answerTables_109 (by decide) (fun cc109 => ?_) (fun cc109 => ?_)
          · have h := it cc109 h
            refine lv_iload hx hb dX3_answerTables_125 (lv_at hl 0 rfl) ?_
            exact hb127 _ _ _ _ _ h H locs ls w (lv_sub hl [1, 2, 3, 4, 5, 6, 7, 8, 9, 10, 11, 12] rfl)
          · have h := ie cc109 h
            refine lv_iload hx hb dX3_answerTables_112 (lv_at hl 0 rfl) ?_
            refine lv_iload hx hb dX3_answerTables_114 (lv_at hl 11 rfl) ?_
            refine lv_iload_n hx hb dX3_answerTables_116 rfl (lv_at hl 3 rfl) ?_
            refine lv_iload hx hb dX3_answerTables_117 (lv_at hl 5 rfl) ?_
            obtain ⟨x118, hc, h⟩ := bs h
            refine o_backi w hLA (o_runS (As := [.int x116, .int (x104 + t101), .int u81, .int u83]) (rest := [.int ((t101 * t93) + t107), .ref x117]) C w (c_X3_withValue l D G L S108 x116 (x104 + t101) u81 u83 x118 hc) ml_X3_42 st_X3_withValue hR_X3_withValue rfl hl.1 rfl (Nat.le_of_ble_eq_true rfl) dX3_answerTables_119 hcs) (fun H locs w => ?_)
            refine lv_goto (tgt := 127) hx hb dX3_answerTables_122 (by decide) ?_
            exact hb127 _ _ _ _ _ h H locs ls w (lv_sub hl [1, 2, 3, 4, 5, 6, 7, 8, 9, 10, 11, 12] rfl)
  have hb19 : ∀ (S119 : PH) (u120 : Nat) (u121 : Nat) (u122 : Int32) (u123 : Int32) (u124 : Int32) (u125 : Nat) (u126 : Int32), f_X3_answerTables_b19 S119 u120 u121 u122 u123 u124 u125 u126 = some r → ∀ (H : Heap) (locs : List Loc) (ls : Array Slot), Wd D G L A H0 S119 H locs → lv_has ls 13 [(0, .ref u120), (1, .ref u121), (2, .int u122), (3, .int u123), (4, .int u124)] → W p l e R s m args below meth c H locs cells slots Q (F0 m 19 ls [.int u126, .ref u125]) := by
    intro S119 u120 u121 u122 u123 u124 u125 u126 h H locs ls w hl
    unfold f_X3_answerTables_b19 at h
    refine lv_iconst (v := 0) hx hb dX3_answerTables_19 (by decide) ?_
    exact hb20 _ _ _ _ _ _ _ _ _ h H locs ls w (lv_sub hl [0, 1, 2, 3, 4] rfl)
  intro H locs ls w hl
  refine lv_aload_n hx hb dX3_answerTables_0 rfl (lv_at hl 0 rfl) ?_
  obtain ⟨x77, hx77, h⟩ := bs h
  refine o_gR C w hx77 fl_X3_15 dX3_answerTables_1 ?_
  refine lv_iconst (v := 0) hx hb dX3_answerTables_4 (by decide) ?_
  refine lv_iload_n hx hb dX3_answerTables_5 rfl (lv_at hl 2 rfl) ?_
  refine lv_iconst (v := 3) hx hb dX3_answerTables_6 (by decide) ?_
  refine lv_icmp_ne (tgt := 19) hx hb dX3_answerTables_7 (by decide) (fun cc7 => ?_) (fun cc7 => ?_)
  · have h := ie cc7 h
    exact hb19 _ _ _ _ _ _ _ _ h H locs ls w (lv_sub hl [0, 1, 2, 3, 4] rfl)
  · have h := it cc7 h
    refine lv_iload_n hx hb dX3_answerTables_10 rfl (lv_at hl 3 rfl) ?_
    refine lv_if_eq (tgt := 19) hx hb dX3_answerTables_11 (by decide) (fun cc11 => ?_) (fun cc11 => ?_)
    · have h := it cc11 h
      exact hb19 _ _ _ _ _ _ _ _ h H locs ls w (lv_sub hl [0, 1, 2, 3, 4] rfl)
    · have h := ie cc11 h
      refine lv_bipush (v := 21) hx hb dX3_answerTables_14 (by decide) ?_
      refine lv_goto (tgt := 20) hx hb dX3_answerTables_16 (by decide) ?_
      exact hb20 _ _ _ _ _ _ _ _ _ h H locs ls w (lv_sub hl [0, 1, 2, 3, 4] rfl)
set_option maxHeartbeats 4000000 in
set_option maxRecDepth 100000 in
theorem c_X3_answerTables (l : Launch) (D : va_G) (G : Nat → ClassId) (L : List Nat) (S : PH) (v0 : Nat) (v1 : Nat) (v2 : Int32) (v3 : Int32) (v4 : Int32) (r : PH) (h : f_X3_answerTables S v0 v1 v2 v3 v4 = some r) : Met l yX3_answerTables [Cond.code yX3_answerTables cX3_answerTables 13 none] ({ frames := 2, cells := 0, slots := 0, locals := 44 }) (va_Pc [.ref v0, .ref v1, .int v2, .int v3, .int v4] (PreU D G L S)) (Qv D G L r) 0 0 (inL L) := by
  refine Met.ofW (cc := cX3_answerTables) (maxL := 13) (ret := none) (by decide) rfl ?_
  intro p e s m args below meth c s₁ B hml hv
  obtain ⟨rfl, hpre⟩ := hv
  obtain ⟨C, w⟩ := o_ent (own := RX3) rfl B hml hpre
  have hl := lv_entry ([.ref v0, .ref v1, .int v2, .int v3, .int v4]) (n := 13) (Nat.le_of_ble_eq_true rfl)
  rw [lg_entry_eq]
  generalize (lg_sl ([.ref v0, .ref v1, .int v2, .int v3, .int v4]) ++ List.replicate (13 - (lg_sl ([.ref v0, .ref v1, .int v2, .int v3, .int v4])).length) Slot.unset).toArray = ls at hl ⊢
  exact w_X3_answerTables C (fun _ h => h) ⟨Nat.zero_le _, Nat.zero_le _⟩ ⟨rfl, rfl, Nat.le_of_ble_eq_true rfl, Nat.le_of_ble_eq_true rfl⟩ ⟨rfl, rfl, Nat.le_of_ble_eq_true rfl, Nat.le_of_ble_eq_true rfl⟩ ⟨rfl, rfl, Nat.le_of_ble_eq_true rfl, Nat.le_of_ble_eq_true rfl⟩ ⟨rfl, rfl, Nat.le_of_ble_eq_true rfl, Nat.le_of_ble_eq_true rfl⟩ S v0 v1 v2 v3 v4 r h (fun S9 H locs ls pc w hv hd => by subst hv; exact o_vret C w B.returns B.notSynchronized hd) _ _ _ w hl

def f_X3_seenIn_b30 (S : PH) (v0 : Nat) (v1 : Nat) (v2 : Int32) (v3 : Int64) (v5 : Int32) : Option ((Int64 × Int32) ⊕ (Int64)) :=
some (.inl (v3, (v5 + 1)))
def f_X3_seenIn_L5 (S : PH) (v0 : Nat) (v1 : Nat) (v2 : Int32) (v3 : Int64) (v5 : Int32) : Option ((Int64 × Int32) ⊕ (Int64)) :=
if v2 ≤ v5 then (
some (.inr v3))
else (
(f_X1_holds S v1 v5).bind fun x1 =>
if x1 = 0 then (
f_X3_seenIn_b30 S v0 v1 v2 v3 v5)
else (
(gR S v0 3 0).bind fun x2 =>
(ldJ S x2 v5).bind fun x3 =>
f_X3_seenIn_b30 S v0 v1 v2 (v3 ||| x3) v5))
def f_X3_seenIn (S : PH) (v0 : Nat) (v1 : Nat) (v2 : Int32) : Option (Int64) :=
(lpo (fun x : Int64 × Int32 => f_X3_seenIn_L5 S v0 v1 v2 x.1 x.2) FU ((0 : Int64), (0 : Int32))).bind fun y4 =>
some y4
set_option maxHeartbeats 4000000 in
set_option maxRecDepth 100000 in
theorem w_X3_seenIn {p : Program} {l : Launch} {e : Env} {R : Room} {s : State} {m : MethodId} {args : Array Value} {below : List Frame} {meth : Method} {c : Code} {cells slots : Nat} {Q : State → Prop} {D : va_G} {G : Nat → ClassId} {L : List Nat} {A : Nat → Prop} {H0 : Heap} (C : CX p s m c args D G cX3_seenIn 6 RX3) (hLA : ∀ q ∈ L, A q) (hcs : cells ≤ R.cells ∧ slots ≤ R.slots) (hR_X1_holds : RoomOk R ({ frames := 0, cells := 0, slots := 0, locals := 0 }) 2) (S : PH) (v0 : Nat) (v1 : Nat) (v2 : Int32) (r : Int64) (h : f_X3_seenIn S v0 v1 v2 = some r) (hret : ∀ (v : Int64) (H : Heap) (locs : List Loc) (ls : Array Slot) (pc : Nat), Wd D G L A H0 S H locs → v = r → decode cX3_seenIn pc = .ok (.lreturn, 1) → W p l e R s m args below meth c H locs cells slots Q (F0 m pc ls [.long v])) : ∀ (H : Heap) (locs : List Loc) (ls : Array Slot), Wd D G L A H0 S H locs → lv_has ls 6 [(0, .ref v0), (1, .ref v1), (2, .int v2)] → W p l e R s m args below meth c H locs cells slots Q (F0 m 0 ls []) := by
  have hx := C.1.1
  have hb := C.1.2.1
  unfold f_X3_seenIn at h
  intro H locs ls w hl
  refine lv_lconst (v := 0) hx hb dX3_seenIn_0 (by decide) ?_
  refine lv_lstore_n (lv' := [(3, .long (0 : Int64)), (0, .ref v0), (1, .ref v1), (2, .int v2)]) hx hb dX3_seenIn_1 rfl hl (by decide) rfl (fun ls hl => ?_)
  refine lv_iconst (v := 0) hx hb dX3_seenIn_2 (by decide) ?_
  refine lv_istore (lv' := [(5, .int (0 : Int32)), (3, .long (0 : Int64)), (0, .ref v0), (1, .ref v1), (2, .int v2)]) hx hb dX3_seenIn_3 hl (by decide) rfl (fun ls hl => ?_)
  obtain ⟨y4, hL5, h⟩ := bs h
  have hE5 : ∀ (q5 : Int64), y4 = q5 → ∀ (H : Heap) (locs : List Loc) (ls : Array Slot), Wd D G L A H0 S H locs → lv_has ls 6 [(3, .long q5)] → W p l e R s m args below meth c H locs cells slots Q (F0 m 36 ls []) := by
    intro q5 he
    cases he
    intro H locs ls w hl
    refine lv_lload_n hx hb dX3_seenIn_36 rfl (lv_at hl 0 rfl) ?_
    exact hret _ _ _ _ _ w (Option.some.inj h) dX3_seenIn_37
  refine lpo_W (P := fun x : Int64 × Int32 => ∀ (H : Heap) (locs : List Loc) (ls : Array Slot), Wd D G L A H0 S H locs → lv_has ls 6 [(0, .ref v0), (1, .ref v1), (2, .int v2), (3, .long x.1), (5, .int x.2)] → W p l e R s m args below meth c H locs cells slots Q (F0 m 5 ls [])) ?_ FU _ hL5 H locs ls w (lv_sub hl [2, 3, 4, 1, 0] rfl)
  intro x y5 h hnext5 hend5
  obtain ⟨t6, t7⟩ := x
  have h : f_X3_seenIn_L5 S v0 v1 v2 t6 t7 = some y5 := h
  unfold f_X3_seenIn_L5 at h
  have hb30 : ∀ (u8 : Int64) (u9 : Int32), f_X3_seenIn_b30 S v0 v1 v2 u8 u9 = some y5 → ∀ (H : Heap) (locs : List Loc) (ls : Array Slot), Wd D G L A H0 S H locs → lv_has ls 6 [(0, .ref v0), (1, .ref v1), (2, .int v2), (3, .long u8), (5, .int u9)] → W p l e R s m args below meth c H locs cells slots Q (F0 m 30 ls []) := by
    intro u8 u9 h H locs ls w hl
    unfold f_X3_seenIn_b30 at h
    refine lv_iinc (v := (u9 + 1)) (lv' := [(5, .int (u9 + 1)), (0, .ref v0), (1, .ref v1), (2, .int v2), (3, .long u8)]) hx hb dX3_seenIn_30 hl (k := 4) rfl rfl (by decide) rfl (fun ls hl => ?_)
    refine lv_goto (tgt := 5) hx hb dX3_seenIn_33 (by decide) ?_
    exact hnext5 _ (Option.some.inj h).symm H locs ls w (lv_sub hl [1, 2, 3, 4, 0] rfl)
  intro H locs ls w hl
  have hl : lv_has ls 6 [(0, .ref v0), (1, .ref v1), (2, .int v2), (3, .long t6), (5, .int t7)] := hl
  refine lv_iload hx hb dX3_seenIn_5 (lv_at hl 4 rfl) ?_
  refine lv_iload_n hx hb dX3_seenIn_7 rfl (lv_at hl 2 rfl) ?_
  refine lv_icmp_ge (tgt := 36) hx hb dX3_seenIn_8 (by decide) (fun cc8 => ?_) (fun cc8 => ?_)
  · have h := it cc8 h
    exact hE5 _ (hend5 _ (Option.some.inj h).symm).symm H locs ls w (lv_sub hl [3] rfl)
  · have h := ie cc8 h
    refine lv_aload_n hx hb dX3_seenIn_11 rfl (lv_at hl 1 rfl) ?_
    refine lv_iload hx hb dX3_seenIn_12 (lv_at hl 4 rfl) ?_
    obtain ⟨x10, hc, h⟩ := bs h
    refine o_backi w hLA (o_runS (As := [.ref v1, .int t7]) (rest := []) C w (c_X1_holds l D G L S v1 t7 x10 hc) ml_X3_59 st_X1_holds hR_X1_holds rfl hl.1 rfl (Nat.le_of_ble_eq_true rfl) dX3_seenIn_14 hcs) (fun H locs w => ?_)
    refine lv_if_eq (tgt := 30) hx hb dX3_seenIn_17 (by decide) (fun cc17 => ?_) (fun cc17 => ?_)
    · have h := it cc17 h
      exact hb30 _ _ h H locs ls w (lv_sub hl [0, 1, 2, 3, 4] rfl)
    · have h := ie cc17 h
      refine lv_lload_n hx hb dX3_seenIn_20 rfl (lv_at hl 3 rfl) ?_
      refine lv_aload_n hx hb dX3_seenIn_21 rfl (lv_at hl 0 rfl) ?_
      obtain ⟨x11, hx11, h⟩ := bs h
      refine o_gR C w hx11 fl_X3_9 dX3_seenIn_22 ?_
      refine lv_iload hx hb dX3_seenIn_25 (lv_at hl 4 rfl) ?_
      obtain ⟨x12, hx12, h⟩ := bs h
      refine o_ldJ C w hx12 dX3_seenIn_27 ?_
      refine lv_lor hx hb dX3_seenIn_28 ?_
      refine lv_lstore_n (lv' := [(3, .long (t6 ||| x12)), (0, .ref v0), (1, .ref v1), (2, .int v2), (5, .int t7)]) hx hb dX3_seenIn_29 rfl hl (by decide) rfl (fun ls hl => ?_)
      exact hb30 _ _ h H locs ls w (lv_sub hl [1, 2, 3, 0, 4] rfl)
set_option maxHeartbeats 4000000 in
set_option maxRecDepth 100000 in
theorem c_X3_seenIn (l : Launch) (D : va_G) (G : Nat → ClassId) (L : List Nat) (S : PH) (v0 : Nat) (v1 : Nat) (v2 : Int32) (r : Int64) (h : f_X3_seenIn S v0 v1 v2 = some r) : Met l yX3_seenIn [Cond.code yX3_seenIn cX3_seenIn 6 (some .long)] ({ frames := 1, cells := 0, slots := 0, locals := 21 }) (va_Pc [.ref v0, .ref v1, .int v2] (PreU D G L S)) (Ql D G L r S) 0 0 (inL L) := by
  refine Met.ofW (cc := cX3_seenIn) (maxL := 6) (ret := (some .long)) (by decide) rfl ?_
  intro p e s m args below meth c s₁ B hml hv
  obtain ⟨rfl, hpre⟩ := hv
  obtain ⟨C, w⟩ := o_ent (own := RX3) rfl B hml hpre
  have hl := lv_entry ([.ref v0, .ref v1, .int v2]) (n := 6) (Nat.le_of_ble_eq_true rfl)
  rw [lg_entry_eq]
  generalize (lg_sl ([.ref v0, .ref v1, .int v2]) ++ List.replicate (6 - (lg_sl ([.ref v0, .ref v1, .int v2])).length) Slot.unset).toArray = ls at hl ⊢
  exact w_X3_seenIn C (fun _ h => h) ⟨Nat.zero_le _, Nat.zero_le _⟩ ⟨rfl, rfl, Nat.le_of_ble_eq_true rfl, Nat.le_of_ble_eq_true rfl⟩ S v0 v1 v2 r h (fun v H locs ls pc w hv hd => by subst hv; exact o_lret C w B.returns B.notSynchronized hd) _ _ _ w hl

def f_J7_fill_d0a16_L6 (S : PH) (v0 : Nat) (v1 : Int64) (v4 : Int32) (v3 : Int32) : Option ((Int32 × PH) ⊕ (PH)) :=
if v4 ≤ v3 then (
some (.inr S))
else (
(stJ S v0 v3 v1).bind fun S2 =>
some (.inl ((v3 + 1), S2)))
def f_J7_fill_d0a16 (S : PH) (v0 : Nat) (v1 : Int64) : Option (PH) :=
(lnJ S v0).bind fun x1 =>
(lpo (fun x : Int32 × PH => f_J7_fill_d0a16_L6 x.2 v0 v1 x1 x.1) FU ((0 : Int32), S)).bind fun S3 =>
some S3
set_option maxHeartbeats 4000000 in
set_option maxRecDepth 100000 in
theorem w_J7_fill_d0a16 {p : Program} {l : Launch} {e : Env} {R : Room} {s : State} {m : MethodId} {args : Array Value} {below : List Frame} {meth : Method} {c : Code} {cells slots : Nat} {Q : State → Prop} {D : va_G} {G : Nat → ClassId} {L : List Nat} {A : Nat → Prop} {H0 : Heap} (C : CX p s m c args D G cJ7_fill_d0a16 5 RJ7) (hLA : ∀ q ∈ L, A q) (hcs : cells ≤ R.cells ∧ slots ≤ R.slots)  (S : PH) (v0 : Nat) (v1 : Int64) (r : PH) (h : f_J7_fill_d0a16 S v0 v1 = some r) (hret : ∀ (S9 : PH) (H : Heap) (locs : List Loc) (ls : Array Slot) (pc : Nat), Wd D G L A H0 S9 H locs → S9 = r → decode cJ7_fill_d0a16 pc = .ok (.return_, 1) → W p l e R s m args below meth c H locs cells slots Q (F0 m pc ls [])) : ∀ (H : Heap) (locs : List Loc) (ls : Array Slot), Wd D G L A H0 S H locs → lv_has ls 5 [(0, .ref v0), (1, .long v1)] → W p l e R s m args below meth c H locs cells slots Q (F0 m 0 ls []) := by
  have hx := C.1.1
  have hb := C.1.2.1
  unfold f_J7_fill_d0a16 at h
  intro H locs ls w hl
  refine lv_iconst (v := 0) hx hb dJ7_fill_d0a16_0 (by decide) ?_
  refine lv_istore_n (lv' := [(3, .int (0 : Int32)), (0, .ref v0), (1, .long v1)]) hx hb dJ7_fill_d0a16_1 rfl hl (by decide) rfl (fun ls hl => ?_)
  refine lv_aload_n hx hb dJ7_fill_d0a16_2 rfl (lv_at hl 1 rfl) ?_
  obtain ⟨x1, hx1, h⟩ := bs h
  refine o_lnJ C w hx1 dJ7_fill_d0a16_3 ?_
  refine lv_istore (lv' := [(4, .int x1), (3, .int (0 : Int32)), (0, .ref v0), (1, .long v1)]) hx hb dJ7_fill_d0a16_4 hl (by decide) rfl (fun ls hl => ?_)
  obtain ⟨S3, hL6, h⟩ := bs h
  have hE6 : ∀ (q4 : PH), S3 = q4 → ∀ (H : Heap) (locs : List Loc) (ls : Array Slot), Wd D G L A H0 q4 H locs → lv_has ls 5 [] → W p l e R s m args below meth c H locs cells slots Q (F0 m 22 ls []) := by
    intro q4 he
    cases he
    intro H locs ls w hl
    exact hret _ _ _ _ _ w (Option.some.inj h) dJ7_fill_d0a16_22
  refine lpo_W (P := fun x : Int32 × PH => ∀ (H : Heap) (locs : List Loc) (ls : Array Slot), Wd D G L A H0 x.2 H locs → lv_has ls 5 [(0, .ref v0), (1, .long v1), (3, .int x.1), (4, .int x1)] → W p l e R s m args below meth c H locs cells slots Q (F0 m 6 ls [])) ?_ FU _ hL6 H locs ls w (lv_sub hl [2, 3, 1, 0] rfl)
  intro x y6 h hnext6 hend6
  obtain ⟨t5, S6⟩ := x
  have h : f_J7_fill_d0a16_L6 S6 v0 v1 x1 t5 = some y6 := h
  unfold f_J7_fill_d0a16_L6 at h
  intro H locs ls w hl
  have hl : lv_has ls 5 [(0, .ref v0), (1, .long v1), (3, .int t5), (4, .int x1)] := hl
  have w : Wd D G L A H0 S6 H locs := w
  refine lv_iload_n hx hb dJ7_fill_d0a16_6 rfl (lv_at hl 2 rfl) ?_
  refine lv_iload hx hb dJ7_fill_d0a16_7 (lv_at hl 3 rfl) ?_
  refine lv_icmp_ge (tgt := 22) hx hb dJ7_fill_d0a16_9 (by decide) (fun cc9 => ?_) (fun cc9 => ?_)
  · have h := it cc9 h
    exact hE6 _ (hend6 _ (Option.some.inj h).symm).symm H locs ls w (lv_sub hl [] rfl)
  · have h := ie cc9 h
    refine lv_aload_n hx hb dJ7_fill_d0a16_12 rfl (lv_at hl 0 rfl) ?_
    refine lv_iload_n hx hb dJ7_fill_d0a16_13 rfl (lv_at hl 2 rfl) ?_
    refine lv_lload_n hx hb dJ7_fill_d0a16_14 rfl (lv_at hl 1 rfl) ?_
    obtain ⟨S7, hS7, h⟩ := bs h
    refine o_stJ C w hS7 dJ7_fill_d0a16_15 (fun H locs w => ?_)
    refine lv_iinc (v := (t5 + 1)) (lv' := [(3, .int (t5 + 1)), (0, .ref v0), (1, .long v1), (4, .int x1)]) hx hb dJ7_fill_d0a16_16 hl (k := 2) rfl rfl (by decide) rfl (fun ls hl => ?_)
    refine lv_goto (tgt := 6) hx hb dJ7_fill_d0a16_19 (by decide) ?_
    exact hnext6 _ (Option.some.inj h).symm H locs ls w (lv_sub hl [1, 2, 0, 3] rfl)
set_option maxHeartbeats 4000000 in
set_option maxRecDepth 100000 in
theorem c_J7_fill_d0a16 (l : Launch) (D : va_G) (G : Nat → ClassId) (L : List Nat) (S : PH) (v0 : Nat) (v1 : Int64) (r : PH) (h : f_J7_fill_d0a16 S v0 v1 = some r) : Met l yJ7_fill_d0a16 [Cond.code yJ7_fill_d0a16 cJ7_fill_d0a16 5 none] ({ frames := 0, cells := 0, slots := 0, locals := 0 }) (va_Pc [.ref v0, .long v1] (PreU D G L S)) (Qv D G L r) 0 0 (inL L) := by
  refine Met.ofW (cc := cJ7_fill_d0a16) (maxL := 5) (ret := none) (by decide) rfl ?_
  intro p e s m args below meth c s₁ B hml hv
  obtain ⟨rfl, hpre⟩ := hv
  obtain ⟨C, w⟩ := o_ent (own := RJ7) rfl B hml hpre
  have hl := lv_entry ([.ref v0, .long v1]) (n := 5) (Nat.le_of_ble_eq_true rfl)
  rw [lg_entry_eq]
  generalize (lg_sl ([.ref v0, .long v1]) ++ List.replicate (5 - (lg_sl ([.ref v0, .long v1])).length) Slot.unset).toArray = ls at hl ⊢
  exact w_J7_fill_d0a16 C (fun _ h => h) ⟨Nat.zero_le _, Nat.zero_le _⟩  S v0 v1 r h (fun S9 H locs ls pc w hv hd => by subst hv; exact o_vret C w B.returns B.notSynchronized hd) _ _ _ w hl

def f_X3_gatherCells_b43 (S : PH) (v0 : Nat) (v1 : Nat) (v2 : Int32) (v3 : Int32) : Option ((Int32 × PH) ⊕ (PH)) :=
some (.inl ((v3 + 1), S))
def f_X3_gatherCells_L10 (S : PH) (v0 : Nat) (v1 : Nat) (v2 : Int32) (v3 : Int32) : Option ((Int32 × PH) ⊕ (PH)) :=
if v2 ≤ v3 then (
some (.inr S))
else (
(f_X1_holds S v1 v3).bind fun x3 =>
if x3 = 0 then (
f_X3_gatherCells_b43 S v0 v1 v2 v3)
else (
(gR S v0 3 2).bind fun x4 =>
(gR S v0 3 1).bind fun x5 =>
(ldI S x5 v3).bind fun x6 =>
(ldJ S x4 x6).bind fun x7 =>
(gR S v0 3 0).bind fun x8 =>
(ldJ S x8 v3).bind fun x9 =>
(stJ S x4 x6 (x7 ||| x9)).bind fun S10 =>
f_X3_gatherCells_b43 S10 v0 v1 v2 v3))
def f_X3_gatherCells (S : PH) (v0 : Nat) (v1 : Nat) (v2 : Int32) : Option (PH) :=
(gR S v0 3 2).bind fun x1 =>
(f_J7_fill_d0a16 S x1 (0 : Int64)).bind fun S2 =>
(lpo (fun x : Int32 × PH => f_X3_gatherCells_L10 x.2 v0 v1 v2 x.1) FU ((0 : Int32), S2)).bind fun S11 =>
some S11
set_option maxHeartbeats 4000000 in
set_option maxRecDepth 100000 in
theorem w_X3_gatherCells {p : Program} {l : Launch} {e : Env} {R : Room} {s : State} {m : MethodId} {args : Array Value} {below : List Frame} {meth : Method} {c : Code} {cells slots : Nat} {Q : State → Prop} {D : va_G} {G : Nat → ClassId} {L : List Nat} {A : Nat → Prop} {H0 : Heap} (C : CX p s m c args D G cX3_gatherCells 4 RX3) (hLA : ∀ q ∈ L, A q) (hcs : cells ≤ R.cells ∧ slots ≤ R.slots) (hR_J7_fill_d0a16 : RoomOk R ({ frames := 0, cells := 0, slots := 0, locals := 0 }) 5) (hR_X1_holds : RoomOk R ({ frames := 0, cells := 0, slots := 0, locals := 0 }) 2) (S : PH) (v0 : Nat) (v1 : Nat) (v2 : Int32) (r : PH) (h : f_X3_gatherCells S v0 v1 v2 = some r) (hret : ∀ (S9 : PH) (H : Heap) (locs : List Loc) (ls : Array Slot) (pc : Nat), Wd D G L A H0 S9 H locs → S9 = r → decode cX3_gatherCells pc = .ok (.return_, 1) → W p l e R s m args below meth c H locs cells slots Q (F0 m pc ls [])) : ∀ (H : Heap) (locs : List Loc) (ls : Array Slot), Wd D G L A H0 S H locs → lv_has ls 4 [(0, .ref v0), (1, .ref v1), (2, .int v2)] → W p l e R s m args below meth c H locs cells slots Q (F0 m 0 ls []) := by
  have hx := C.1.1
  have hb := C.1.2.1
  unfold f_X3_gatherCells at h
  intro H locs ls w hl
  refine lv_aload_n hx hb dX3_gatherCells_0 rfl (lv_at hl 0 rfl) ?_
  obtain ⟨x1, hx1, h⟩ := bs h
  refine o_gR C w hx1 fl_X3_19 dX3_gatherCells_1 ?_
  refine lv_lconst (v := 0) hx hb dX3_gatherCells_4 (by decide) ?_
  obtain ⟨S2, hc, h⟩ := bs h
  refine o_backv w hLA (o_runS (As := [.ref x1, .long (0 : Int64)]) (rest := []) C w (c_J7_fill_d0a16 l D G L S x1 (0 : Int64) S2 hc) ml_X3_65 st_J7_fill_d0a16 hR_J7_fill_d0a16 rfl hl.1 rfl (Nat.le_of_ble_eq_true rfl) dX3_gatherCells_5 hcs) (fun H locs w => ?_)
  refine lv_iconst (v := 0) hx hb dX3_gatherCells_8 (by decide) ?_
  refine lv_istore_n (lv' := [(3, .int (0 : Int32)), (0, .ref v0), (1, .ref v1), (2, .int v2)]) hx hb dX3_gatherCells_9 rfl hl (by decide) rfl (fun ls hl => ?_)
  obtain ⟨S11, hL10, h⟩ := bs h
  have hE10 : ∀ (q12 : PH), S11 = q12 → ∀ (H : Heap) (locs : List Loc) (ls : Array Slot), Wd D G L A H0 q12 H locs → lv_has ls 4 [] → W p l e R s m args below meth c H locs cells slots Q (F0 m 49 ls []) := by
    intro q12 he
    cases he
    intro H locs ls w hl
    exact hret _ _ _ _ _ w (Option.some.inj h) dX3_gatherCells_49
  refine lpo_W (P := fun x : Int32 × PH => ∀ (H : Heap) (locs : List Loc) (ls : Array Slot), Wd D G L A H0 x.2 H locs → lv_has ls 4 [(0, .ref v0), (1, .ref v1), (2, .int v2), (3, .int x.1)] → W p l e R s m args below meth c H locs cells slots Q (F0 m 10 ls [])) ?_ FU _ hL10 H locs ls w (lv_sub hl [1, 2, 3, 0] rfl)
  intro x y10 h hnext10 hend10
  obtain ⟨t13, S14⟩ := x
  have h : f_X3_gatherCells_L10 S14 v0 v1 v2 t13 = some y10 := h
  unfold f_X3_gatherCells_L10 at h
  have hb43 : ∀ (S15 : PH) (u16 : Int32), f_X3_gatherCells_b43 S15 v0 v1 v2 u16 = some y10 → ∀ (H : Heap) (locs : List Loc) (ls : Array Slot), Wd D G L A H0 S15 H locs → lv_has ls 4 [(0, .ref v0), (1, .ref v1), (2, .int v2), (3, .int u16)] → W p l e R s m args below meth c H locs cells slots Q (F0 m 43 ls []) := by
    intro S15 u16 h H locs ls w hl
    unfold f_X3_gatherCells_b43 at h
    refine lv_iinc (v := (u16 + 1)) (lv' := [(3, .int (u16 + 1)), (0, .ref v0), (1, .ref v1), (2, .int v2)]) hx hb dX3_gatherCells_43 hl (k := 3) rfl rfl (by decide) rfl (fun ls hl => ?_)
    refine lv_goto (tgt := 10) hx hb dX3_gatherCells_46 (by decide) ?_
    exact hnext10 _ (Option.some.inj h).symm H locs ls w (lv_sub hl [1, 2, 3, 0] rfl)
  intro H locs ls w hl
  have hl : lv_has ls 4 [(0, .ref v0), (1, .ref v1), (2, .int v2), (3, .int t13)] := hl
  have w : Wd D G L A H0 S14 H locs := w
  refine lv_iload_n hx hb dX3_gatherCells_10 rfl (lv_at hl 3 rfl) ?_
  refine lv_iload_n hx hb dX3_gatherCells_11 rfl (lv_at hl 2 rfl) ?_
  refine lv_icmp_ge (tgt := 49) hx hb dX3_gatherCells_12 (by decide) (fun cc12 => ?_) (fun cc12 => ?_)
  · have h := it cc12 h
    exact hE10 _ (hend10 _ (Option.some.inj h).symm).symm H locs ls w (lv_sub hl [] rfl)
  · have h := ie cc12 h
    refine lv_aload_n hx hb dX3_gatherCells_15 rfl (lv_at hl 1 rfl) ?_
    refine lv_iload_n hx hb dX3_gatherCells_16 rfl (lv_at hl 3 rfl) ?_
    obtain ⟨x17, hc, h⟩ := bs h
    refine o_backi w hLA (o_runS (As := [.ref v1, .int t13]) (rest := []) C w (c_X1_holds l D G L S14 v1 t13 x17 hc) ml_X3_59 st_X1_holds hR_X1_holds rfl hl.1 rfl (Nat.le_of_ble_eq_true rfl) dX3_gatherCells_17 hcs) (fun H locs w => ?_)
    refine lv_if_eq (tgt := 43) hx hb dX3_gatherCells_20 (by decide) (fun cc20 => ?_) (fun cc20 => ?_)
    · have h := it cc20 h
      exact hb43 _ _ h H locs ls w (lv_sub hl [0, 1, 2, 3] rfl)
    · have h := ie cc20 h
      refine lv_aload_n hx hb dX3_gatherCells_23 rfl (lv_at hl 0 rfl) ?_
      obtain ⟨x18, hx18, h⟩ := bs h
      refine o_gR C w hx18 fl_X3_19 dX3_gatherCells_24 ?_
      refine lv_aload_n hx hb dX3_gatherCells_27 rfl (lv_at hl 0 rfl) ?_
      obtain ⟨x19, hx19, h⟩ := bs h
      refine o_gR C w hx19 fl_X3_15 dX3_gatherCells_28 ?_
      refine lv_iload_n hx hb dX3_gatherCells_31 rfl (lv_at hl 3 rfl) ?_
      obtain ⟨x20, hx20, h⟩ := bs h
      refine o_ldI C w hx20 dX3_gatherCells_32 ?_
      refine lv_dup2_11 hx hb dX3_gatherCells_33 rfl rfl ?_
      obtain ⟨x21, hx21, h⟩ := bs h
      refine o_ldJ C w hx21 dX3_gatherCells_34 ?_
      refine lv_aload_n hx hb dX3_gatherCells_35 rfl (lv_at hl 0 rfl) ?_
      obtain ⟨x22, hx22, h⟩ := bs h
      refine o_gR C w hx22 fl_X3_9 dX3_gatherCells_36 ?_
      refine lv_iload_n hx hb dX3_gatherCells_39 rfl (lv_at hl 3 rfl) ?_
      obtain ⟨x23, hx23, h⟩ := bs h
      refine o_ldJ C w hx23 dX3_gatherCells_40 ?_
      refine lv_lor hx hb dX3_gatherCells_41 ?_
      obtain ⟨S24, hS24, h⟩ := bs h
      refine o_stJ C w hS24 dX3_gatherCells_42 (fun H locs w => ?_)
      exact hb43 _ _ h H locs ls w (lv_sub hl [0, 1, 2, 3] rfl)
set_option maxHeartbeats 4000000 in
set_option maxRecDepth 100000 in
theorem c_X3_gatherCells (l : Launch) (D : va_G) (G : Nat → ClassId) (L : List Nat) (S : PH) (v0 : Nat) (v1 : Nat) (v2 : Int32) (r : PH) (h : f_X3_gatherCells S v0 v1 v2 = some r) : Met l yX3_gatherCells [Cond.code yX3_gatherCells cX3_gatherCells 4 none] ({ frames := 1, cells := 0, slots := 0, locals := 24 }) (va_Pc [.ref v0, .ref v1, .int v2] (PreU D G L S)) (Qv D G L r) 0 0 (inL L) := by
  refine Met.ofW (cc := cX3_gatherCells) (maxL := 4) (ret := none) (by decide) rfl ?_
  intro p e s m args below meth c s₁ B hml hv
  obtain ⟨rfl, hpre⟩ := hv
  obtain ⟨C, w⟩ := o_ent (own := RX3) rfl B hml hpre
  have hl := lv_entry ([.ref v0, .ref v1, .int v2]) (n := 4) (Nat.le_of_ble_eq_true rfl)
  rw [lg_entry_eq]
  generalize (lg_sl ([.ref v0, .ref v1, .int v2]) ++ List.replicate (4 - (lg_sl ([.ref v0, .ref v1, .int v2])).length) Slot.unset).toArray = ls at hl ⊢
  exact w_X3_gatherCells C (fun _ h => h) ⟨Nat.zero_le _, Nat.zero_le _⟩ ⟨rfl, rfl, Nat.le_of_ble_eq_true rfl, Nat.le_of_ble_eq_true rfl⟩ ⟨rfl, rfl, Nat.le_of_ble_eq_true rfl, Nat.le_of_ble_eq_true rfl⟩ S v0 v1 v2 r h (fun S9 H locs ls pc w hv hd => by subst hv; exact o_vret C w B.returns B.notSynchronized hd) _ _ _ w hl

def f_X3_cellsUsed_b24 (S : PH) (v0 : Nat) (v1 : Int32) (v2 : Int32) : Option ((Int32 × Int32) ⊕ (Int32)) :=
some (.inl (v1, (v2 + 1)))
def f_X3_cellsUsed_L4 (S : PH) (v0 : Nat) (v1 : Int32) (v2 : Int32) : Option ((Int32 × Int32) ⊕ (Int32)) :=
if (64 : Int32) ≤ v2 then (
some (.inr v1))
else (
(gR S v0 3 2).bind fun x1 =>
(ldJ S x1 v2).bind fun x2 =>
if (lg_cmp x2 (0 : Int64)) = 0 then (
f_X3_cellsUsed_b24 S v0 v1 v2)
else (
f_X3_cellsUsed_b24 S v0 (v1 + 1) v2))
def f_X3_cellsUsed (S : PH) (v0 : Nat) : Option (Int32) :=
(lpo (fun x : Int32 × Int32 => f_X3_cellsUsed_L4 S v0 x.1 x.2) FU ((0 : Int32), (0 : Int32))).bind fun y3 =>
some y3
set_option maxHeartbeats 4000000 in
set_option maxRecDepth 100000 in
theorem w_X3_cellsUsed {p : Program} {l : Launch} {e : Env} {R : Room} {s : State} {m : MethodId} {args : Array Value} {below : List Frame} {meth : Method} {c : Code} {cells slots : Nat} {Q : State → Prop} {D : va_G} {G : Nat → ClassId} {L : List Nat} {A : Nat → Prop} {H0 : Heap} (C : CX p s m c args D G cX3_cellsUsed 3 RX3) (hLA : ∀ q ∈ L, A q) (hcs : cells ≤ R.cells ∧ slots ≤ R.slots)  (S : PH) (v0 : Nat) (r : Int32) (h : f_X3_cellsUsed S v0 = some r) (hret : ∀ (v : Int32) (H : Heap) (locs : List Loc) (ls : Array Slot) (pc : Nat), Wd D G L A H0 S H locs → v = r → decode cX3_cellsUsed pc = .ok (.ireturn, 1) → W p l e R s m args below meth c H locs cells slots Q (F0 m pc ls [.int v])) : ∀ (H : Heap) (locs : List Loc) (ls : Array Slot), Wd D G L A H0 S H locs → lv_has ls 3 [(0, .ref v0)] → W p l e R s m args below meth c H locs cells slots Q (F0 m 0 ls []) := by
  have hx := C.1.1
  have hb := C.1.2.1
  unfold f_X3_cellsUsed at h
  intro H locs ls w hl
  refine lv_iconst (v := 0) hx hb dX3_cellsUsed_0 (by decide) ?_
  refine lv_istore_n (lv' := [(1, .int (0 : Int32)), (0, .ref v0)]) hx hb dX3_cellsUsed_1 rfl hl (by decide) rfl (fun ls hl => ?_)
  refine lv_iconst (v := 0) hx hb dX3_cellsUsed_2 (by decide) ?_
  refine lv_istore_n (lv' := [(2, .int (0 : Int32)), (1, .int (0 : Int32)), (0, .ref v0)]) hx hb dX3_cellsUsed_3 rfl hl (by decide) rfl (fun ls hl => ?_)
  obtain ⟨y3, hL4, h⟩ := bs h
  have hE4 : ∀ (q4 : Int32), y3 = q4 → ∀ (H : Heap) (locs : List Loc) (ls : Array Slot), Wd D G L A H0 S H locs → lv_has ls 3 [(1, .int q4)] → W p l e R s m args below meth c H locs cells slots Q (F0 m 30 ls []) := by
    intro q4 he
    cases he
    intro H locs ls w hl
    refine lv_iload_n hx hb dX3_cellsUsed_30 rfl (lv_at hl 0 rfl) ?_
    exact hret _ _ _ _ _ w (Option.some.inj h) dX3_cellsUsed_31
  refine lpo_W (P := fun x : Int32 × Int32 => ∀ (H : Heap) (locs : List Loc) (ls : Array Slot), Wd D G L A H0 S H locs → lv_has ls 3 [(0, .ref v0), (1, .int x.1), (2, .int x.2)] → W p l e R s m args below meth c H locs cells slots Q (F0 m 4 ls [])) ?_ FU _ hL4 H locs ls w (lv_sub hl [2, 1, 0] rfl)
  intro x y4 h hnext4 hend4
  obtain ⟨t5, t6⟩ := x
  have h : f_X3_cellsUsed_L4 S v0 t5 t6 = some y4 := h
  unfold f_X3_cellsUsed_L4 at h
  have hb24 : ∀ (u7 : Int32) (u8 : Int32), f_X3_cellsUsed_b24 S v0 u7 u8 = some y4 → ∀ (H : Heap) (locs : List Loc) (ls : Array Slot), Wd D G L A H0 S H locs → lv_has ls 3 [(0, .ref v0), (1, .int u7), (2, .int u8)] → W p l e R s m args below meth c H locs cells slots Q (F0 m 24 ls []) := by
    intro u7 u8 h H locs ls w hl
    unfold f_X3_cellsUsed_b24 at h
    refine lv_iinc (v := (u8 + 1)) (lv' := [(2, .int (u8 + 1)), (0, .ref v0), (1, .int u7)]) hx hb dX3_cellsUsed_24 hl (k := 2) rfl rfl (by decide) rfl (fun ls hl => ?_)
    refine lv_goto (tgt := 4) hx hb dX3_cellsUsed_27 (by decide) ?_
    exact hnext4 _ (Option.some.inj h).symm H locs ls w (lv_sub hl [1, 2, 0] rfl)
  intro H locs ls w hl
  have hl : lv_has ls 3 [(0, .ref v0), (1, .int t5), (2, .int t6)] := hl
  refine lv_iload_n hx hb dX3_cellsUsed_4 rfl (lv_at hl 2 rfl) ?_
  refine lv_bipush (v := 64) hx hb dX3_cellsUsed_5 (by decide) ?_
  refine lv_icmp_ge (tgt := 30) hx hb dX3_cellsUsed_7 (by decide) (fun cc7 => ?_) (fun cc7 => ?_)
  · have h := it cc7 h
    exact hE4 _ (hend4 _ (Option.some.inj h).symm).symm H locs ls w (lv_sub hl [1] rfl)
  · have h := ie cc7 h
    refine lv_aload_n hx hb dX3_cellsUsed_10 rfl (lv_at hl 0 rfl) ?_
    obtain ⟨x9, hx9, h⟩ := bs h
    refine o_gR C w hx9 fl_X3_19 dX3_cellsUsed_11 ?_
    refine lv_iload_n hx hb dX3_cellsUsed_14 rfl (lv_at hl 2 rfl) ?_
    obtain ⟨x10, hx10, h⟩ := bs h
    refine o_ldJ C w hx10 dX3_cellsUsed_15 ?_
    refine lv_lconst (v := 0) hx hb dX3_cellsUsed_16 (by decide) ?_
    refine W.lcmp hx hb dX3_cellsUsed_17 ?_
    refine lv_if_eq (tgt := 24) hx hb dX3_cellsUsed_18 (by decide) (fun cc18 => ?_) (fun cc18 => ?_)
    · have h := it cc18 h
      exact hb24 _ _ h H locs ls w (lv_sub hl [0, 1, 2] rfl)
    · have h := ie cc18 h
      refine lv_iinc (v := (t5 + 1)) (lv' := [(1, .int (t5 + 1)), (0, .ref v0), (2, .int t6)]) hx hb dX3_cellsUsed_21 hl (k := 1) rfl rfl (by decide) rfl (fun ls hl => ?_)
      exact hb24 _ _ h H locs ls w (lv_sub hl [1, 0, 2] rfl)
set_option maxHeartbeats 4000000 in
set_option maxRecDepth 100000 in
theorem c_X3_cellsUsed (l : Launch) (D : va_G) (G : Nat → ClassId) (L : List Nat) (S : PH) (v0 : Nat) (r : Int32) (h : f_X3_cellsUsed S v0 = some r) : Met l yX3_cellsUsed [Cond.code yX3_cellsUsed cX3_cellsUsed 3 (some .int)] ({ frames := 0, cells := 0, slots := 0, locals := 0 }) (va_Pc [.ref v0] (PreU D G L S)) (Qi D G L r S) 0 0 (inL L) := by
  refine Met.ofW (cc := cX3_cellsUsed) (maxL := 3) (ret := (some .int)) (by decide) rfl ?_
  intro p e s m args below meth c s₁ B hml hv
  obtain ⟨rfl, hpre⟩ := hv
  obtain ⟨C, w⟩ := o_ent (own := RX3) rfl B hml hpre
  have hl := lv_entry ([.ref v0]) (n := 3) (Nat.le_of_ble_eq_true rfl)
  rw [lg_entry_eq]
  generalize (lg_sl ([.ref v0]) ++ List.replicate (3 - (lg_sl ([.ref v0])).length) Slot.unset).toArray = ls at hl ⊢
  exact w_X3_cellsUsed C (fun _ h => h) ⟨Nat.zero_le _, Nat.zero_le _⟩  S v0 r h (fun v H locs ls pc w hv hd => by subst hv; exact o_iret C w B.returns B.notSynchronized hd) _ _ _ w hl

def f_X3_areCellsSafe_b34 (S : PH) (v0 : Nat) (v1 : Nat) (v2 : Int32) : Option ((Int32) ⊕ ((Unit) ⊕ (Int32))) :=
some (.inl (v2 + 1))
def f_X3_areCellsSafe_L2 (S : PH) (v0 : Nat) (v1 : Nat) (v2 : Int32) : Option ((Int32) ⊕ ((Unit) ⊕ (Int32))) :=
if (64 : Int32) ≤ v2 then (
some (.inr (.inl ())))
else (
(gR S v0 3 2).bind fun x1 =>
(ldJ S x1 v2).bind fun x2 =>
if (lg_cmp x2 (0 : Int64)) = 0 then (
f_X3_areCellsSafe_b34 S v0 v1 v2)
else (
(gR S v0 3 2).bind fun x3 =>
(ldJ S x3 v2).bind fun x4 =>
(ckO S v1 2).bind fun _ =>
(f_X2_areSafe S v1 x4).bind fun x5 =>
if x5 = 0 then (
some (.inr (.inr (0 : Int32))))
else (
f_X3_areCellsSafe_b34 S v0 v1 v2)))
def f_X3_areCellsSafe (S : PH) (v0 : Nat) (v1 : Nat) : Option (Int32) :=
bdS (lpo (fun x : Int32 => f_X3_areCellsSafe_L2 S v0 v1 x) FU (0 : Int32)) (fun _ =>
some (1 : Int32)) some
set_option maxHeartbeats 4000000 in
set_option maxRecDepth 100000 in
theorem w_X3_areCellsSafe {p : Program} {l : Launch} {e : Env} {R : Room} {s : State} {m : MethodId} {args : Array Value} {below : List Frame} {meth : Method} {c : Code} {cells slots : Nat} {Q : State → Prop} {D : va_G} {G : Nat → ClassId} {L : List Nat} {A : Nat → Prop} {H0 : Heap} (C : CX p s m c args D G cX3_areCellsSafe 3 RX3) (hLA : ∀ q ∈ L, A q) (hcs : cells ≤ R.cells ∧ slots ≤ R.slots) (hR_X2_areSafe : RoomOk R ({ frames := 2, cells := 0, slots := 0, locals := 44 }) 8) (S : PH) (v0 : Nat) (v1 : Nat) (r : Int32) (h : f_X3_areCellsSafe S v0 v1 = some r) (hret : ∀ (v : Int32) (H : Heap) (locs : List Loc) (ls : Array Slot) (pc : Nat), Wd D G L A H0 S H locs → narrow .boolean (.int v) = .int v → v = r → decode cX3_areCellsSafe pc = .ok (.ireturn, 1) → W p l e R s m args below meth c H locs cells slots Q (F0 m pc ls [.int v])) : ∀ (H : Heap) (locs : List Loc) (ls : Array Slot), Wd D G L A H0 S H locs → lv_has ls 3 [(0, .ref v0), (1, .ref v1)] → W p l e R s m args below meth c H locs cells slots Q (F0 m 0 ls []) := by
  have hx := C.1.1
  have hb := C.1.2.1
  unfold f_X3_areCellsSafe at h
  intro H locs ls w hl
  refine lv_iconst (v := 0) hx hb dX3_areCellsSafe_0 (by decide) ?_
  refine lv_istore_n (lv' := [(2, .int (0 : Int32)), (0, .ref v0), (1, .ref v1)]) hx hb dX3_areCellsSafe_1 rfl hl (by decide) rfl (fun ls hl => ?_)
  obtain ⟨e2, hL2, h⟩ := bs h
  have hE2 : e2 = Sum.inl () → ∀ (H : Heap) (locs : List Loc) (ls : Array Slot), Wd D G L A H0 S H locs → lv_has ls 3 [] → W p l e R s m args below meth c H locs cells slots Q (F0 m 40 ls []) := by
    intro he
    subst he
    have h : _ = some r := h
    intro H locs ls w hl
    refine lv_iconst (v := 1) hx hb dX3_areCellsSafe_40 (by decide) ?_
    exact hret _ _ _ _ _ w rfl (Option.some.inj h) dX3_areCellsSafe_41
  have hR2 : ∀ q, e2 = Sum.inr q → q = r := by
    intro q he
    subst he
    exact Option.some.inj h
  refine lpo_W (P := fun x : Int32 => ∀ (H : Heap) (locs : List Loc) (ls : Array Slot), Wd D G L A H0 S H locs → lv_has ls 3 [(0, .ref v0), (1, .ref v1), (2, .int x)] → W p l e R s m args below meth c H locs cells slots Q (F0 m 2 ls [])) ?_ FU _ hL2 H locs ls w (lv_sub hl [1, 2, 0] rfl)
  intro t6 y2 h hnext2 hend2
  have h : f_X3_areCellsSafe_L2 S v0 v1 t6 = some y2 := h
  unfold f_X3_areCellsSafe_L2 at h
  have hb34 : ∀ (u7 : Int32), f_X3_areCellsSafe_b34 S v0 v1 u7 = some y2 → ∀ (H : Heap) (locs : List Loc) (ls : Array Slot), Wd D G L A H0 S H locs → lv_has ls 3 [(0, .ref v0), (1, .ref v1), (2, .int u7)] → W p l e R s m args below meth c H locs cells slots Q (F0 m 34 ls []) := by
    intro u7 h H locs ls w hl
    unfold f_X3_areCellsSafe_b34 at h
    refine lv_iinc (v := (u7 + 1)) (lv' := [(2, .int (u7 + 1)), (0, .ref v0), (1, .ref v1)]) hx hb dX3_areCellsSafe_34 hl (k := 2) rfl rfl (by decide) rfl (fun ls hl => ?_)
    refine lv_goto (tgt := 2) hx hb dX3_areCellsSafe_37 (by decide) ?_
    exact hnext2 _ (Option.some.inj h).symm H locs ls w (lv_sub hl [1, 2, 0] rfl)
  intro H locs ls w hl
  have hl : lv_has ls 3 [(0, .ref v0), (1, .ref v1), (2, .int t6)] := hl
  refine lv_iload_n hx hb dX3_areCellsSafe_2 rfl (lv_at hl 2 rfl) ?_
  refine lv_bipush (v := 64) hx hb dX3_areCellsSafe_3 (by decide) ?_
  refine lv_icmp_ge (tgt := 40) hx hb dX3_areCellsSafe_5 (by decide) (fun cc5 => ?_) (fun cc5 => ?_)
  · have h := it cc5 h
    exact hE2  (hend2 _ (Option.some.inj h).symm).symm H locs ls w (lv_sub hl [] rfl)
  · have h := ie cc5 h
    refine lv_aload_n hx hb dX3_areCellsSafe_8 rfl (lv_at hl 0 rfl) ?_
    obtain ⟨x8, hx8, h⟩ := bs h
    refine o_gR C w hx8 fl_X3_19 dX3_areCellsSafe_9 ?_
    refine lv_iload_n hx hb dX3_areCellsSafe_12 rfl (lv_at hl 2 rfl) ?_
    obtain ⟨x9, hx9, h⟩ := bs h
    refine o_ldJ C w hx9 dX3_areCellsSafe_13 ?_
    refine lv_lconst (v := 0) hx hb dX3_areCellsSafe_14 (by decide) ?_
    refine W.lcmp hx hb dX3_areCellsSafe_15 ?_
    refine lv_if_eq (tgt := 34) hx hb dX3_areCellsSafe_16 (by decide) (fun cc16 => ?_) (fun cc16 => ?_)
    · have h := it cc16 h
      exact hb34 _ h H locs ls w (lv_sub hl [0, 1, 2] rfl)
    · have h := ie cc16 h
      refine lv_aload_n hx hb dX3_areCellsSafe_19 rfl (lv_at hl 1 rfl) ?_
      refine lv_aload_n hx hb dX3_areCellsSafe_20 rfl (lv_at hl 0 rfl) ?_
      obtain ⟨x10, hx10, h⟩ := bs h
      refine o_gR C w hx10 fl_X3_19 dX3_areCellsSafe_21 ?_
      refine lv_iload_n hx hb dX3_areCellsSafe_24 rfl (lv_at hl 2 rfl) ?_
      obtain ⟨x11, hx11, h⟩ := bs h
      refine o_ldJ C w hx11 dX3_areCellsSafe_25 ?_
      obtain ⟨_, ho, h⟩ := bs h
      obtain ⟨x12, hc, h⟩ := bs h
      refine o_backi w hLA (o_runV (As := [.long x11]) (rest := []) C w (c_X2_areSafe l D G L S v1 x11 x12 hc) ml_X3_71 mv_X2_areSafe hR_X2_areSafe ho rfl hl.1 rfl (Nat.le_of_ble_eq_true rfl) dX3_areCellsSafe_26 hcs) (fun H locs w => ?_)
      refine lv_if_ne (tgt := 34) hx hb dX3_areCellsSafe_29 (by decide) (fun cc29 => ?_) (fun cc29 => ?_)
      · have h := ie cc29 h
        exact hb34 _ h H locs ls w (lv_sub hl [0, 1, 2] rfl)
      · have h := it cc29 h
        refine lv_iconst (v := 0) hx hb dX3_areCellsSafe_32 (by decide) ?_
        exact hret _ _ _ _ _ w rfl (hR2 _ (hend2 _ (Option.some.inj h).symm).symm) dX3_areCellsSafe_33
set_option maxHeartbeats 4000000 in
set_option maxRecDepth 100000 in
theorem c_X3_areCellsSafe (l : Launch) (D : va_G) (G : Nat → ClassId) (L : List Nat) (S : PH) (v0 : Nat) (v1 : Nat) (r : Int32) (h : f_X3_areCellsSafe S v0 v1 = some r) : Met l yX3_areCellsSafe [Cond.code yX3_areCellsSafe cX3_areCellsSafe 3 (some .boolean)] ({ frames := 3, cells := 0, slots := 0, locals := 71 }) (va_Pc [.ref v0, .ref v1] (PreU D G L S)) (Qi D G L r S) 0 0 (inL L) := by
  refine Met.ofW (cc := cX3_areCellsSafe) (maxL := 3) (ret := (some .boolean)) (by decide) rfl ?_
  intro p e s m args below meth c s₁ B hml hv
  obtain ⟨rfl, hpre⟩ := hv
  obtain ⟨C, w⟩ := o_ent (own := RX3) rfl B hml hpre
  have hl := lv_entry ([.ref v0, .ref v1]) (n := 3) (Nat.le_of_ble_eq_true rfl)
  rw [lg_entry_eq]
  generalize (lg_sl ([.ref v0, .ref v1]) ++ List.replicate (3 - (lg_sl ([.ref v0, .ref v1])).length) Slot.unset).toArray = ls at hl ⊢
  exact w_X3_areCellsSafe C (fun _ h => h) ⟨Nat.zero_le _, Nat.zero_le _⟩ ⟨rfl, rfl, Nat.le_of_ble_eq_true rfl, Nat.le_of_ble_eq_true rfl⟩ S v0 v1 r h (fun v H locs ls pc w hz hv hd => by subst hv; exact o_zret C w B.returns B.notSynchronized hz hd) _ _ _ w hl
