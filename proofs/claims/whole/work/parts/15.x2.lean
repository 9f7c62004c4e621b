def f_X4_begin_b65 (S : PH) (v0 : Nat) (v1 : Nat) (v3 : Nat) (v4 : Int32) : Option ((Int32 × PH) ⊕ (PH)) :=
some (.inl ((v4 + 1), S))
def f_X4_begin_L18 (S : PH) (v0 : Nat) (v1 : Nat) (v3 : Nat) (v4 : Int32) : Option ((Int32 × PH) ⊕ (PH)) :=
(gI S v1 2 9).bind fun x4 =>
if x4 ≤ v4 then (
some (.inr S))
else (
(f_X1_holds S v3 v4).bind fun x5 =>
if x5 = 0 then (
f_X4_begin_b65 S v0 v1 v3 v4)
else (
(gR S v0 4 0).bind fun x6 =>
(stJ S x6 v4 (0 : Int64)).bind fun S7 =>
(gR S7 v0 4 1).bind fun x8 =>
(gI S7 v0 4 6).bind fun x9 =>
(stI S7 x8 x9 v4).bind fun S10 =>
(gI S10 v0 4 6).bind fun x11 =>
(pI S10 v0 4 6 (x11 + (1 : Int32))).bind fun S12 =>
f_X4_begin_b65 S12 v0 v1 v3 v4))
def f_X4_begin (S : PH) (v0 : Nat) (v1 : Nat) (v2 : Nat) (v3 : Nat) : Option (PH) :=
(pR S v0 4 4 v1).bind fun S1 =>
(pR S1 v0 4 5 v2).bind fun S2 =>
(pI S2 v0 4 6 (0 : Int32)).bind fun S3 =>
(lpo (fun x : Int32 × PH => f_X4_begin_L18 x.2 v0 v1 v3 x.1) FU ((0 : Int32), S3)).bind fun S13 =>
some S13
set_option maxHeartbeats 4000000 in
set_option maxRecDepth 100000 in
theorem w_X4_begin {p : Program} {l : Launch} {e : Env} {R : Room} {s : State} {m : MethodId} {args : Array Value} {below : List Frame} {meth : Method} {c : Code} {cells slots : Nat} {Q : State → Prop} {D : va_G} {G : Nat → ClassId} {L : List Nat} {A : Nat → Prop} {H0 : Heap} (C : CX p s m c args D G cX4_begin 5 RX4) (hLA : ∀ q ∈ L, A q) (hcs : cells ≤ R.cells ∧ slots ≤ R.slots) (hR_X1_holds : RoomOk R ({ frames := 0, cells := 0, slots := 0, locals := 0 }) 2) (S : PH) (v0 : Nat) (v1 : Nat) (v2 : Nat) (v3 : Nat) (r : PH) (h : f_X4_begin S v0 v1 v2 v3 = some r) (hret : ∀ (S9 : PH) (H : Heap) (locs : List Loc) (ls : Array Slot) (pc : Nat), Wd D G L A H0 S9 H locs → S9 = r → decode cX4_begin pc = .ok (.return_, 1) → W p l e R s m args below meth c H locs cells slots Q (F0 m pc ls [])) : ∀ (H : Heap) (locs : List Loc) (ls : Array Slot), Wd D G L A H0 S H locs → lv_has ls 5 [(0, .ref v0), (1, .ref v1), (2, .ref v2), (3, .ref v3)] → W p l e R s m args below meth c H locs cells slots Q (F0 m 0 ls []) := by
  have hx := C.1.1
  have hb := C.1.2.1
  unfold f_X4_begin at h
  intro H locs ls w hl
  refine lv_aload_n hx hb dX4_begin_0 rfl (lv_at hl 0 rfl) ?_
  refine lv_aload_n hx hb dX4_begin_1 rfl (lv_at hl 1 rfl) ?_
  obtain ⟨S1, hS1, h⟩ := bs h
  refine o_pF C w hS1 fp_X4_25 rfl rfl dX4_begin_2 (fun H locs w => ?_)
  refine lv_aload_n hx hb dX4_begin_5 rfl (lv_at hl 0 rfl) ?_
  refine lv_aload_n hx hb dX4_begin_6 rfl (lv_at hl 2 rfl) ?_
  obtain ⟨S2, hS2, h⟩ := bs h
  refine o_pF C w hS2 fp_X4_29 rfl rfl dX4_begin_7 (fun H locs w => ?_)
  refine lv_aload_n hx hb dX4_begin_10 rfl (lv_at hl 0 rfl) ?_
  refine lv_iconst (v := 0) hx hb dX4_begin_11 (by decide) ?_
  obtain ⟨S3, hS3, h⟩ := bs h
  refine o_pF C w hS3 fp_X4_32 rfl rfl dX4_begin_12 (fun H locs w => ?_)
  refine lv_iconst (v := 0) hx hb dX4_begin_15 (by decide) ?_
  refine lv_istore (lv' := [(4, .int (0 : Int32)), (0, .ref v0), (1, .ref v1), (2, .ref v2), (3, .ref v3)]) hx hb dX4_begin_16 hl (by decide) rfl (fun ls hl => ?_)
  obtain ⟨S13, hL18, h⟩ := bs h
  have hE18 : ∀ (q14 : PH), S13 = q14 → ∀ (H : Heap) (locs : List Loc) (ls : Array Slot), Wd D G L A H0 q14 H locs → lv_has ls 5 [] → W p l e R s m args below meth c H locs cells slots Q (F0 m 71 ls []) := by
    intro q14 he
    cases he
    intro H locs ls w hl
    exact hret _ _ _ _ _ w (Option.some.inj h) dX4_begin_71
  refine lpo_W (P := fun x : Int32 × PH => ∀ (H : Heap) (locs : List Loc) (ls : Array Slot), Wd D G L A H0 x.2 H locs → lv_has ls 5 [(0, .ref v0), (1, .ref v1), (3, .ref v3), (4, .int x.1)] → W p l e R s m args below meth c H locs cells slots Q (F0 m 18 ls [])) ?_ FU _ hL18 H locs ls w (lv_sub hl [1, 2, 4, 0] rfl)
  intro x y18 h hnext18 hend18
  obtain ⟨t15, S16⟩ := x
  have h : f_X4_begin_L18 S16 v0 v1 v3 t15 = some y18 := h
  unfold f_X4_begin_L18 at h
  have hb65 : ∀ (S17 : PH) (u18 : Int32), f_X4_begin_b65 S17 v0 v1 v3 u18 = some y18 → ∀ (H : Heap) (locs : List Loc) (ls : Array Slot), Wd D G L A H0 S17 H locs → lv_has ls 5 [(0, .ref v0), (1, .ref v1), (3, .ref v3), (4, .int u18)] → W p l e R s m args below meth c H locs cells slots Q (F0 m 65 ls []) := by
    intro S17 u18 h H locs ls w hl
    unfold f_X4_begin_b65 at h
    refine lv_iinc (v := (u18 + 1)) (lv' := [(4, .int (u18 + 1)), (0, .ref v0), (1, .ref v1), (3, .ref v3)]) hx hb dX4_begin_65 hl (k := 3) rfl rfl (by decide) rfl (fun ls hl => ?_)
    refine lv_goto (tgt := 18) hx hb dX4_begin_68 (by decide) ?_
    exact hnext18 _ (Option.some.inj h).symm H locs ls w (lv_sub hl [1, 2, 3, 0] rfl)
  intro H locs ls w hl
  have hl : lv_has ls 5 [(0, .ref v0), (1, .ref v1), (3, .ref v3), (4, .int t15)] := hl
  have w : Wd D G L A H0 S16 H locs := w
  refine lv_iload hx hb dX4_begin_18 (lv_at hl 3 rfl) ?_
  refine lv_aload_n hx hb dX4_begin_20 rfl (lv_at hl 1 rfl) ?_
  obtain ⟨x19, hx19, h⟩ := bs h
  refine o_gI C w hx19 fl_X4_36 dX4_begin_21 ?_
  refine lv_icmp_ge (tgt := 71) hx hb dX4_begin_24 (by decide) (fun cc24 => ?_) (fun cc24 => ?_)
  · have h := it cc24 h
    exact hE18 _ (hend18 _ (Option.some.inj h).symm).symm H locs ls w (lv_sub hl [] rfl)
  · have h := ie cc24 h
    refine lv_aload_n hx hb dX4_begin_27 rfl (lv_at hl 2 rfl) ?_
    refine lv_iload hx hb dX4_begin_28 (lv_at hl 3 rfl) ?_
    obtain ⟨x20, hc, h⟩ := bs h
    refine o_backi w hLA (o_runS (As := [.ref v3, .int t15]) (rest := []) C w (c_X1_holds l D G L S16 v3 t15 x20 hc) ml_X4_41 st_X1_holds hR_X1_holds rfl hl.1 rfl (Nat.le_of_ble_eq_true rfl) dX4_begin_30 hcs) (fun H locs w => ?_)
    refine lv_if_eq (tgt := 65) hx hb dX4_begin_33 (by decide) (fun cc33 => ?_) (fun cc33 => ?_)
    · have h := it cc33 h
      exact hb65 _ _ h H locs ls w (lv_sub hl [0, 1, 2, 3] rfl)
    · have h := ie cc33 h
      refine lv_aload_n hx hb dX4_begin_36 rfl (lv_at hl 0 rfl) ?_
      obtain ⟨x21, hx21, h⟩ := bs h
      refine o_gR C w hx21 fl_X4_9 dX4_begin_37 ?_
      refine lv_iload hx hb dX4_begin_40 (lv_at hl 3 rfl) ?_
      refine lv_lconst (v := 0) hx hb dX4_begin_42 (by decide) ?_
      obtain ⟨S22, hS22, h⟩ := bs h
      refine o_stJ C w hS22 dX4_begin_43 (fun H locs w => ?_)
      refine lv_aload_n hx hb dX4_begin_44 rfl (lv_at hl 0 rfl) ?_
      obtain ⟨x23, hx23, h⟩ := bs h
      refine o_gR C w hx23 fl_X4_15 dX4_begin_45 ?_
      refine lv_aload_n hx hb dX4_begin_48 rfl (lv_at hl 0 rfl) ?_
      obtain ⟨x24, hx24, h⟩ := bs h
      refine o_gI C w hx24 fl_X4_32 dX4_begin_49 ?_
      refine lv_iload hx hb dX4_begin_52 (lv_at hl 3 rfl) ?_
      obtain ⟨S25, hS25, h⟩ := bs h
      refine o_stI C w hS25 dX4_begin_54 (fun H locs w => ?_)
      refine lv_aload_n hx hb dX4_begin_55 rfl (lv_at hl 0 rfl) ?_
      refine lv_dup hx hb dX4_begin_56 rfl ?_
      obtain ⟨x26, hx26, h⟩ := bs h
      refine o_gI C w hx26 fl_X4_32 dX4_begin_57 ?_
      refine lv_iconst (v := 1) hx hb dX4_begin_60 (by decide) ?_
      refine lv_iadd hx hb dX4_begin_61 ?_
      obtain ⟨S27, hS27, h⟩ := bs h
      refine o_pF C w hS27 fp_X4_32 rfl rfl dX4_begin_62 (fun H locs w => ?_)
      exact hb65 _ _ h H locs ls w (lv_sub hl [0, 1, 2, 3] rfl)
set_option maxHeartbeats 4000000 in
set_option maxRecDepth 100000 in
theorem c_X4_begin (l : Launch) (D : va_G) (G : Nat → ClassId) (L : List Nat) (S : PH) (v0 : Nat) (v1 : Nat) (v2 : Nat) (v3 : Nat) (r : PH) (h : f_X4_begin S v0 v1 v2 v3 = some r) : Met l yX4_begin [Cond.code yX4_begin cX4_begin 5 none] ({ frames := 1, cells := 0, slots := 0, locals := 21 }) (va_Pc [.ref v0, .ref v1, .ref v2, .ref v3] (PreU D G L S)) (Qv D G L r) 0 0 (inL L) := by
  refine Met.ofW (cc := cX4_begin) (maxL := 5) (ret := none) (by decide) rfl ?_
  intro p e s m args below meth c s₁ B hml hv
  obtain ⟨rfl, hpre⟩ := hv
  obtain ⟨C, w⟩ := o_ent (own := RX4) rfl B hml hpre
  have hl := lv_entry ([.ref v0, .ref v1, .ref v2, .ref v3]) (n := 5) (Nat.le_of_ble_eq_true rfl)
  rw [lg_entry_eq]
  generalize (lg_sl ([.ref v0, .ref v1, .ref v2, .ref v3]) ++ List.replicate (5 - (lg_sl ([.ref v0, .ref v1, .ref v2, .ref v3])).length) Slot.unset).toArray = ls at hl ⊢
  exact w_X4_begin C (fun _ h => h) ⟨Nat.zero_le _, Nat.zero_le _⟩ ⟨rfl, rfl, Nat.le_of_ble_eq_true rfl, Nat.le_of_ble_eq_true rfl⟩ S v0 v1 v2 v3 r h (fun S9 H locs ls pc w hv hd => by subst hv; exact o_vret C w B.returns B.notSynchronized hd) _ _ _ w hl

def f_X4_addAnswers_L2 (S : PH) (v0 : Nat) (v1 : Int32) (v2 : Nat) (v3 : Int32) : Option ((Int32 × PH) ⊕ (PH)) :=
(gI S v0 4 6).bind fun x1 =>
if x1 ≤ v3 then (
some (.inr S))
else (
(gR S v0 4 1).bind fun x2 =>
(ldI S x2 v3).bind fun x3 =>
(gR S v0 4 0).bind fun x4 =>
(ldJ S x4 x3).bind fun x5 =>
(ldI S v2 x3).bind fun x6 =>
(stJ S x4 x3 (x5 ||| (x6.toInt64 <<< ((v1 * (6 : Int32)).toInt64 &&& 63)))).bind fun S7 =>
some (.inl ((v3 + 1), S7)))
def f_X4_addAnswers (S : PH) (v0 : Nat) (v1 : Int32) (v2 : Nat) : Option (PH) :=
(lpo (fun x : Int32 × PH => f_X4_addAnswers_L2 x.2 v0 v1 v2 x.1) FU ((0 : Int32), S)).bind fun S8 =>
some S8
set_option maxHeartbeats 4000000 in
set_option maxRecDepth 100000 in
theorem w_X4_addAnswers {p : Program} {l : Launch} {e : Env} {R : Room} {s : State} {m : MethodId} {args : Array Value} {below : List Frame} {meth : Method} {c : Code} {cells slots : Nat} {Q : State → Prop} {D : va_G} {G : Nat → ClassId} {L : List Nat} {A : Nat → Prop} {H0 : Heap} (C : CX p s m c args D G cX4_addAnswers 5 RX4) (hLA : ∀ q ∈ L, A q) (hcs : cells ≤ R.cells ∧ slots ≤ R.slots)  (S : PH) (v0 : Nat) (v1 : Int32) (v2 : Nat) (r : PH) (h : f_X4_addAnswers S v0 v1 v2 = some r) (hret : ∀ (S9 : PH) (H : Heap) (locs : List Loc) (ls : Array Slot) (pc : Nat), Wd D G L A H0 S9 H locs → S9 = r → decode cX4_addAnswers pc = .ok (.return_, 1) → W p l e R s m args below meth c H locs cells slots Q (F0 m pc ls [])) : ∀ (H : Heap) (locs : List Loc) (ls : Array Slot), Wd D G L A H0 S H locs → lv_has ls 5 [(0, .ref v0), (1, .int v1), (2, .ref v2)] → W p l e R s m args below meth c H locs cells slots Q (F0 m 0 ls []) := by
  have hx := C.1.1
  have hb := C.1.2.1
  unfold f_X4_addAnswers at h
  intro H locs ls w hl
  refine lv_iconst (v := 0) hx hb dX4_addAnswers_0 (by decide) ?_
  refine lv_istore_n (lv' := [(3, .int (0 : Int32)), (0, .ref v0), (1, .int v1), (2, .ref v2)]) hx hb dX4_addAnswers_1 rfl hl (by decide) rfl (fun ls hl => ?_)
  obtain ⟨S8, hL2, h⟩ := bs h
  have hE2 : ∀ (q9 : PH), S8 = q9 → ∀ (H : Heap) (locs : List Loc) (ls : Array Slot), Wd D G L A H0 q9 H locs → lv_has ls 5 [] → W p l e R s m args below meth c H locs cells slots Q (F0 m 44 ls []) := by
    intro q9 he
    cases he
    intro H locs ls w hl
    exact hret _ _ _ _ _ w (Option.some.inj h) dX4_addAnswers_44
  refine lpo_W (P := fun x : Int32 × PH => ∀ (H : Heap) (locs : List Loc) (ls : Array Slot), Wd D G L A H0 x.2 H locs → lv_has ls 5 [(0, .ref v0), (1, .int v1), (2, .ref v2), (3, .int x.1)] → W p l e R s m args below meth c H locs cells slots Q (F0 m 2 ls [])) ?_ FU _ hL2 H locs ls w (lv_sub hl [1, 2, 3, 0] rfl)
  intro x y2 h hnext2 hend2
  obtain ⟨t10, S11⟩ := x
  have h : f_X4_addAnswers_L2 S11 v0 v1 v2 t10 = some y2 := h
  unfold f_X4_addAnswers_L2 at h
  intro H locs ls w hl
  have hl : lv_has ls 5 [(0, .ref v0), (1, .int v1), (2, .ref v2), (3, .int t10)] := hl
  have w : Wd D G L A H0 S11 H locs := w
  refine lv_iload_n hx hb dX4_addAnswers_2 rfl (lv_at hl 3 rfl) ?_
  refine lv_aload_n hx hb dX4_addAnswers_3 rfl (lv_at hl 0 rfl) ?_
  obtain ⟨x12, hx12, h⟩ := bs h
  refine o_gI C w hx12 fl_X4_32 dX4_addAnswers_4 ?_
  refine lv_icmp_ge (tgt := 44) hx hb dX4_addAnswers_7 (by decide) (fun cc7 => ?_) (fun cc7 => ?_)
  · have h := it cc7 h
    exact hE2 _ (hend2 _ (Option.some.inj h).symm).symm H locs ls w (lv_sub hl [] rfl)
  · have h := ie cc7 h
    refine lv_aload_n hx hb dX4_addAnswers_10 rfl (lv_at hl 0 rfl) ?_
    obtain ⟨x13, hx13, h⟩ := bs h
    refine o_gR C w hx13 fl_X4_15 dX4_addAnswers_11 ?_
    refine lv_iload_n hx hb dX4_addAnswers_14 rfl (lv_at hl 3 rfl) ?_
    obtain ⟨x14, hx14, h⟩ := bs h
    refine o_ldI C w hx14 dX4_addAnswers_15 ?_
    refine lv_istore (lv' := [(4, .int x14), (0, .ref v0), (1, .int v1), (2, .ref v2), (3, .int t10)]) hx hb dX4_addAnswers_16 hl (by decide) rfl (fun ls hl => ?_)
    refine lv_aload_n hx hb dX4_addAnswers_18 rfl (lv_at hl 1 rfl) ?_
    obtain ⟨x15, hx15, h⟩ := bs h
    refine o_gR C w hx15 fl_X4_9 dX4_addAnswers_19 ?_
    refine lv_iload hx hb dX4_addAnswers_22 (lv_at hl 0 rfl) ?_
    refine lv_dup2_11 hx hb dX4_addAnswers_24 rfl rfl ?_
    obtain ⟨x16, hx16, h⟩ := bs h
    refine o_ldJ C w hx16 dX4_addAnswers_25 ?_
    refine lv_aload_n hx hb dX4_addAnswers_26 rfl (lv_at hl 3 rfl) ?_
    refine lv_iload hx hb dX4_addAnswers_27 (lv_at hl 0 rfl) ?_
    obtain ⟨x17, hx17, h⟩ := bs h
    refine o_ldI C w hx17 dX4_addAnswers_29 ?_
    refine lv_i2l hx hb dX4_addAnswers_30 rfl ?_
    refine lv_iload_n hx hb dX4_addAnswers_31 rfl (lv_at hl 2 rfl) ?_
    refine lv_bipush (v := 6) hx hb dX4_addAnswers_32 (by decide) ?_
    refine lv_imul hx hb dX4_addAnswers_34 ?_
    refine lv_lshl hx hb dX4_addAnswers_35 rfl ?_
    refine lv_lor hx hb dX4_addAnswers_36 ?_
    obtain ⟨S18, hS18, h⟩ := bs h
    refine o_stJ C w hS18 dX4_addAnswers_37 (fun H locs w => ?_)
    refine lv_iinc (v := (t10 + 1)) (lv' := [(3, .int (t10 + 1)), (4, .int x14), (0, .ref v0), (1, .int v1), (2, .ref v2)]) hx hb dX4_addAnswers_38 hl (k := 4) rfl rfl (by decide) rfl (fun ls hl => ?_)
    refine lv_goto (tgt := 2) hx hb dX4_addAnswers_41 (by decide) ?_
    exact hnext2 _ (Option.some.inj h).symm H locs ls w (lv_sub hl [2, 3, 4, 0] rfl)
set_option maxHeartbeats 4000000 in
set_option maxRecDepth 100000 in
theorem c_X4_addAnswers (l : Launch) (D : va_G) (G : Nat → ClassId) (L : List Nat) (S : PH) (v0 : Nat) (v1 : Int32) (v2 : Nat) (r : PH) (h : f_X4_addAnswers S v0 v1 v2 = some r) : Met l yX4_addAnswers [Cond.code yX4_addAnswers cX4_addAnswers 5 none] ({ frames := 0, cells := 0, slots := 0, locals := 0 }) (va_Pc [.ref v0, .int v1, .ref v2] (PreU D G L S)) (Qv D G L r) 0 0 (inL L) := by
  refine Met.ofW (cc := cX4_addAnswers) (maxL := 5) (ret := none) (by decide) rfl ?_
  intro p e s m args below meth c s₁ B hml hv
  obtain ⟨rfl, hpre⟩ := hv
  obtain ⟨C, w⟩ := o_ent (own := RX4) rfl B hml hpre
  have hl := lv_entry ([.ref v0, .int v1, .ref v2]) (n := 5) (Nat.le_of_ble_eq_true rfl)
  rw [lg_entry_eq]
  generalize (lg_sl ([.ref v0, .int v1, .ref v2]) ++ List.replicate (5 - (lg_sl ([.ref v0, .int v1, .ref v2])).length) Slot.unset).toArray = ls at hl ⊢
  exact w_X4_addAnswers C (fun _ h => h) ⟨Nat.zero_le _, Nat.zero_le _⟩  S v0 v1 v2 r h (fun S9 H locs ls pc w hv hd => by subst hv; exact o_vret C w B.returns B.notSynchronized hd) _ _ _ w hl

def f_X4_answerTo (S : PH) (v0 : Nat) (v1 : Int32) (v2 : Int32) : Option (Int32) :=
(gR S v0 4 0).bind fun x1 =>
(ldJ S x1 v2).bind fun x2 =>
some ((x2.toUInt64 >>> ((v1 * (6 : Int32)).toInt64.toUInt64 &&& Int64.toUInt64 63)).toInt64.toInt32 &&& (63 : Int32))
set_option maxHeartbeats 4000000 in
set_option maxRecDepth 100000 in
theorem w_X4_answerTo {p : Program} {l : Launch} {e : Env} {R : Room} {s : State} {m : MethodId} {args : Array Value} {below : List Frame} {meth : Method} {c : Code} {cells slots : Nat} {Q : State → Prop} {D : va_G} {G : Nat → ClassId} {L : List Nat} {A : Nat → Prop} {H0 : Heap} (C : CX p s m c args D G cX4_answerTo 3 RX4) (hLA : ∀ q ∈ L, A q) (hcs : cells ≤ R.cells ∧ slots ≤ R.slots)  (S : PH) (v0 : Nat) (v1 : Int32) (v2 : Int32) (r : Int32) (h : f_X4_answerTo S v0 v1 v2 = some r) (hret : ∀ (v : Int32) (H : Heap) (locs : List Loc) (ls : Array Slot) (pc : Nat), Wd D G L A H0 S H locs → v = r → decode cX4_answerTo pc = .ok (.ireturn, 1) → W p l e R s m args below meth c H locs cells slots Q (F0 m pc ls [.int v])) : ∀ (H : Heap) (locs : List Loc) (ls : Array Slot), Wd D G L A H0 S H locs → lv_has ls 3 [(0, .ref v0), (1, .int v1), (2, .int v2)] → W p l e R s m args below meth c H locs cells slots Q (F0 m 0 ls []) := by
  have hx := C.1.1
  have hb := C.1.2.1
  unfold f_X4_answerTo at h
  intro H locs ls w hl
  refine lv_aload_n hx hb dX4_answerTo_0 rfl (lv_at hl 0 rfl) ?_
  obtain ⟨x1, hx1, h⟩ := bs h
  refine o_gR C w hx1 fl_X4_9 dX4_answerTo_1 ?_
  refine lv_iload_n hx hb dX4_answerTo_4 rfl (lv_at hl 2 rfl) ?_
  obtain ⟨x2, hx2, h⟩ := bs h
  refine o_ldJ C w hx2 dX4_answerTo_5 ?_
  refine lv_iload_n hx hb dX4_answerTo_6 rfl (lv_at hl 1 rfl) ?_
  refine lv_bipush (v := 6) hx hb dX4_answerTo_7 (by decide) ?_
  refine lv_imul hx hb dX4_answerTo_9 ?_
  refine lv_lushr hx hb dX4_answerTo_10 rfl ?_
  refine lv_l2i hx hb dX4_answerTo_11 rfl ?_
  refine lv_bipush (v := 63) hx hb dX4_answerTo_12 (by decide) ?_
  refine lv_iand hx hb dX4_answerTo_14 ?_
  exact hret _ _ _ _ _ w (Option.some.inj h) dX4_answerTo_15
set_option maxHeartbeats 4000000 in
set_option maxRecDepth 100000 in
theorem c_X4_answerTo (l : Launch) (D : va_G) (G : Nat → ClassId) (L : List Nat) (S : PH) (v0 : Nat) (v1 : Int32) (v2 : Int32) (r : Int32) (h : f_X4_answerTo S v0 v1 v2 = some r) : Met l yX4_answerTo [Cond.code yX4_answerTo cX4_answerTo 3 (some .int)] ({ frames := 0, cells := 0, slots := 0, locals := 0 }) (va_Pc [.ref v0, .int v1, .int v2] (PreU D G L S)) (Qi D G L r S) 0 0 (inL L) := by
  refine Met.ofW (cc := cX4_answerTo) (maxL := 3) (ret := (some .int)) (by decide) rfl ?_
  intro p e s m args below meth c s₁ B hml hv
  obtain ⟨rfl, hpre⟩ := hv
  obtain ⟨C, w⟩ := o_ent (own := RX4) rfl B hml hpre
  have hl := lv_entry ([.ref v0, .int v1, .int v2]) (n := 3) (Nat.le_of_ble_eq_true rfl)
  rw [lg_entry_eq]
  generalize (lg_sl ([.ref v0, .int v1, .int v2]) ++ List.replicate (3 - (lg_sl ([.ref v0, .int v1, .int v2])).length) Slot.unset).toArray = ls at hl ⊢
  exact w_X4_answerTo C (fun _ h => h) ⟨Nat.zero_le _, Nat.zero_le _⟩  S v0 v1 v2 r h (fun v H locs ls pc w hv hd => by subst hv; exact o_iret C w B.returns B.notSynchronized hd) _ _ _ w hl

def f_J7_fill_53178_L5 (S : PH) (v0 : Nat) (v1 : Int32) (v3 : Int32) (v2 : Int32) : Option ((Int32 × PH) ⊕ (PH)) :=
if v3 ≤ v2 then (
some (.inr S))
else (
(stI S v0 v2 v1).bind fun S2 =>
some (.inl ((v2 + 1), S2)))
def f_J7_fill_53178 (S : PH) (v0 : Nat) (v1 : Int32) : Option (PH) :=
(lnI S v0).bind fun x1 =>
(lpo (fun x : Int32 × PH => f_J7_fill_53178_L5 x.2 v0 v1 x1 x.1) FU ((0 : Int32), S)).bind fun S3 =>
some S3
set_option maxHeartbeats 4000000 in
set_option maxRecDepth 100000 in
theorem w_J7_fill_53178 {p : Program} {l : Launch} {e : Env} {R : Room} {s : State} {m : MethodId} {args : Array Value} {below : List Frame} {meth : Method} {c : Code} {cells slots : Nat} {Q : State → Prop} {D : va_G} {G : Nat → ClassId} {L : List Nat} {A : Nat → Prop} {H0 : Heap} (C : CX p s m c args D G cJ7_fill_53178 4 RJ7) (hLA : ∀ q ∈ L, A q) (hcs : cells ≤ R.cells ∧ slots ≤ R.slots)  (S : PH) (v0 : Nat) (v1 : Int32) (r : PH) (h : f_J7_fill_53178 S v0 v1 = some r) (hret : ∀ (S9 : PH) (H : Heap) (locs : List Loc) (ls : Array Slot) (pc : Nat), Wd D G L A H0 S9 H locs → S9 = r → decode cJ7_fill_53178 pc = .ok (.return_, 1) → W p l e R s m args below meth c H locs cells slots Q (F0 m pc ls [])) : ∀ (H : Heap) (locs : List Loc) (ls : Array Slot), Wd D G L A H0 S H locs → lv_has ls 4 [(0, .ref v0), (1, .int v1)] → W p l e R s m args below meth c H locs cells slots Q (F0 m 0 ls []) := by
  have hx := C.1.1
  have hb := C.1.2.1
  unfold f_J7_fill_53178 at h
  intro H locs ls w hl
  refine lv_iconst (v := 0) hx hb dJ7_fill_53178_0 (by decide) ?_
  refine lv_istore_n (lv' := [(2, .int (0 : Int32)), (0, .ref v0), (1, .int v1)]) hx hb dJ7_fill_53178_1 rfl hl (by decide) rfl (fun ls hl => ?_)
  refine lv_aload_n hx hb dJ7_fill_53178_2 rfl (lv_at hl 1 rfl) ?_
  obtain ⟨x1, hx1, h⟩ := bs h
  refine o_lnI C w hx1 dJ7_fill_53178_3 ?_
  refine lv_istore_n (lv' := [(3, .int x1), (2, .int (0 : Int32)), (0, .ref v0), (1, .int v1)]) hx hb dJ7_fill_53178_4 rfl hl (by decide) rfl (fun ls hl => ?_)
  obtain ⟨S3, hL5, h⟩ := bs h
  have hE5 : ∀ (q4 : PH), S3 = q4 → ∀ (H : Heap) (locs : List Loc) (ls : Array Slot), Wd D G L A H0 q4 H locs → lv_has ls 4 [] → W p l e R s m args below meth c H locs cells slots Q (F0 m 20 ls []) := by
    intro q4 he
    cases he
    intro H locs ls w hl
    exact hret _ _ _ _ _ w (Option.some.inj h) dJ7_fill_53178_20
  refine lpo_W (P := fun x : Int32 × PH => ∀ (H : Heap) (locs : List Loc) (ls : Array Slot), Wd D G L A H0 x.2 H locs → lv_has ls 4 [(0, .ref v0), (1, .int v1), (2, .int x.1), (3, .int x1)] → W p l e R s m args below meth c H locs cells slots Q (F0 m 5 ls [])) ?_ FU _ hL5 H locs ls w (lv_sub hl [2, 3, 1, 0] rfl)
  intro x y5 h hnext5 hend5
  obtain ⟨t5, S6⟩ := x
  have h : f_J7_fill_53178_L5 S6 v0 v1 x1 t5 = some y5 := h
  unfold f_J7_fill_53178_L5 at h
  intro H locs ls w hl
  have hl : lv_has ls 4 [(0, .ref v0), (1, .int v1), (2, .int t5), (3, .int x1)] := hl
  have w : Wd D G L A H0 S6 H locs := w
  refine lv_iload_n hx hb dJ7_fill_53178_5 rfl (lv_at hl 2 rfl) ?_
  refine lv_iload_n hx hb dJ7_fill_53178_6 rfl (lv_at hl 3 rfl) ?_
  refine lv_icmp_ge (tgt := 20) hx hb dJ7_fill_53178_7 (by decide) (fun cc7 => ?_) (fun cc7 => ?_)
  · have h := it cc7 h
    exact hE5 _ (hend5 _ (Option.some.inj h).symm).symm H locs ls w (lv_sub hl [] rfl)
  · have h := ie cc7 h
    refine lv_aload_n hx hb dJ7_fill_53178_10 rfl (lv_at hl 0 rfl) ?_
    refine lv_iload_n hx hb dJ7_fill_53178_11 rfl (lv_at hl 2 rfl) ?_
    refine lv_iload_n hx hb dJ7_fill_53178_12 rfl (lv_at hl 1 rfl) ?_
    obtain ⟨S7, hS7, h⟩ := bs h
    refine o_stI C w hS7 dJ7_fill_53178_13 (fun H locs w => ?_)
    refine lv_iinc (v := (t5 + 1)) (lv' := [(2, .int (t5 + 1)), (0, .ref v0), (1, .int v1), (3, .int x1)]) hx hb dJ7_fill_53178_14 hl (k := 2) rfl rfl (by decide) rfl (fun ls hl => ?_)
    refine lv_goto (tgt := 5) hx hb dJ7_fill_53178_17 (by decide) ?_
    exact hnext5 _ (Option.some.inj h).symm H locs ls w (lv_sub hl [1, 2, 0, 3] rfl)
set_option maxHeartbeats 4000000 in
set_option maxRecDepth 100000 in
theorem c_J7_fill_53178 (l : Launch) (D : va_G) (G : Nat → ClassId) (L : List Nat) (S : PH) (v0 : Nat) (v1 : Int32) (r : PH) (h : f_J7_fill_53178 S v0 v1 = some r) : Met l yJ7_fill_53178 [Cond.code yJ7_fill_53178 cJ7_fill_53178 4 none] ({ frames := 0, cells := 0, slots := 0, locals := 0 }) (va_Pc [.ref v0, .int v1] (PreU D G L S)) (Qv D G L r) 0 0 (inL L) := by
  refine Met.ofW (cc := cJ7_fill_53178) (maxL := 4) (ret := none) (by decide) rfl ?_
  intro p e s m args below meth c s₁ B hml hv
  obtain ⟨rfl, hpre⟩ := hv
  obtain ⟨C, w⟩ := o_ent (own := RJ7) rfl B hml hpre
  have hl := lv_entry ([.ref v0, .int v1]) (n := 4) (Nat.le_of_ble_eq_true rfl)
  rw [lg_entry_eq]
  generalize (lg_sl ([.ref v0, .int v1]) ++ List.replicate (4 - (lg_sl ([.ref v0, .int v1])).length) Slot.unset).toArray = ls at hl ⊢
  exact w_J7_fill_53178 C (fun _ h => h) ⟨Nat.zero_le _, Nat.zero_le _⟩  S v0 v1 r h (fun S9 H locs ls pc w hv hd => by subst hv; exact o_vret C w B.returns B.notSynchronized hd) _ _ _ w hl

def f_X4_sortBy_L10 (S : PH) (v0 : Nat) (v1 : Int32) (v2 : Int32) : Option ((Int32 × PH) ⊕ (PH)) :=
(gI S v0 4 6).bind fun x3 =>
if x3 ≤ v2 then (
some (.inr S))
else (
(gR S v0 4 3).bind fun x4 =>
(gR S v0 4 1).bind fun x5 =>
(ldI S x5 v2).bind fun x6 =>
(ckO S v0 4).bind fun _ =>
(f_X4_answerTo S v0 v1 x6).bind fun x7 =>
(ldI S x4 (x7 + (1 : Int32))).bind fun x8 =>
(stI S x4 (x7 + (1 : Int32)) (x8 + (1 : Int32))).bind fun S9 =>
some (.inl ((v2 + 1), S9)))
def f_X4_sortBy_L48 (S : PH) (v0 : Nat) (v2 : Int32) : Option ((Int32 × PH) ⊕ (PH)) :=
if (64 : Int32) < v2 then (
some (.inr S))
else (
(gR S v0 4 3).bind fun x11 =>
(ldI S x11 v2).bind fun x12 =>
(gR S v0 4 3).bind fun x13 =>
(ldI S x13 (v2 - (1 : Int32))).bind fun x14 =>
(stI S x11 v2 (x12 + x14)).bind fun S15 =>
some (.inl ((v2 + 1), S15)))
def f_X4_sortBy_L79 (S : PH) (v0 : Nat) (v1 : Int32) (v2 : Int32) : Option ((Int32 × PH) ⊕ (PH)) :=
(gI S v0 4 6).bind fun x17 =>
if x17 ≤ v2 then (
some (.inr S))
else (
(gR S v0 4 1).bind fun x18 =>
(ldI S x18 v2).bind fun x19 =>
(ckO S v0 4).bind fun _ =>
(f_X4_answerTo S v0 v1 x19).bind fun x20 =>
(gR S v0 4 2).bind fun x21 =>
(gR S v0 4 3).bind fun x22 =>
(ldI S x22 x20).bind fun x23 =>
(gR S v0 4 1).bind fun x24 =>
(ldI S x24 v2).bind fun x25 =>
(stI S x21 x23 x25).bind fun S26 =>
(gR S26 v0 4 3).bind fun x27 =>
(ldI S26 x27 x20).bind fun x28 =>
(stI S26 x27 x20 (x28 + (1 : Int32))).bind fun S29 =>
some (.inl ((v2 + 1), S29)))
def f_X4_sortBy (S : PH) (v0 : Nat) (v1 : Int32) : Option (PH) :=
(gR S v0 4 3).bind fun x1 =>
(f_J7_fill_53178 S x1 (0 : Int32)).bind fun S2 =>
(lpo (fun x : Int32 × PH => f_X4_sortBy_L10 x.2 v0 v1 x.1) FU ((0 : Int32), S2)).bind fun S10 =>
(lpo (fun x : Int32 × PH => f_X4_sortBy_L48 x.2 v0 x.1) FU ((1 : Int32), S10)).bind fun S16 =>
(lpo (fun x : Int32 × PH => f_X4_sortBy_L79 x.2 v0 v1 x.1) FU ((0 : Int32), S16)).bind fun S30 =>
(gR S30 v0 4 2).bind fun x31 =>
(gR S30 v0 4 1).bind fun x32 =>
(pR S30 v0 4 2 x32).bind fun S33 =>
(pR S33 v0 4 1 x31).bind fun S34 =>
some S34
set_option maxHeartbeats 4000000 in
set_option maxRecDepth 100000 in
theorem w_X4_sortBy {p : Program} {l : Launch} {e : Env} {R : Room} {s : State} {m : MethodId} {args : Array Value} {below : List Frame} {meth : Method} {c : Code} {cells slots : Nat} {Q : State → Prop} {D : va_G} {G : Nat → ClassId} {L : List Nat} {A : Nat → Prop} {H0 : Heap} (C : CX p s m c args D G cX4_sortBy 4 RX4) (hLA : ∀ q ∈ L, A q) (hcs : cells ≤ R.cells ∧ slots ≤ R.slots) (hR_J7_fill_53178 : RoomOk R ({ frames := 0, cells := 0, slots := 0, locals := 0 }) 4) (hR_X4_answerTo : RoomOk R ({ frames := 0, cells := 0, slots := 0, locals := 0 }) 3) (S : PH) (v0 : Nat) (v1 : Int32) (r : PH) (h : f_X4_sortBy S v0 v1 = some r) (hret : ∀ (S9 : PH) (H : Heap) (locs : List Loc) (ls : Array Slot) (pc : Nat), Wd D G L A H0 S9 H locs → S9 = r → decode cX4_sortBy pc = .ok (.return_, 1) → W p l e R s m args below meth c H locs cells slots Q (F0 m pc ls [])) : ∀ (H : Heap) (locs : List Loc) (ls : Array Slot), Wd D G L A H0 S H locs → lv_has ls 4 [(0, .ref v0), (1, .int v1)] → W p l e R s m args below meth c H locs cells slots Q (F0 m 0 ls []) := by
  have hx := C.1.1
  have hb := C.1.2.1
  unfold f_X4_sortBy at h
  intro H locs ls w hl
  refine lv_aload_n hx hb dX4_sortBy_0 rfl (lv_at hl 0 rfl) ?_
  obtain ⟨x1, hx1, h⟩ := bs h
  refine o_gR C w hx1 fl_X4_22 dX4_sortBy_1 ?_
  refine lv_iconst (v := 0) hx hb dX4_sortBy_4 (by decide) ?_
  obtain ⟨S2, hc, h⟩ := bs h
  refine o_backv w hLA (o_runS (As := [.ref x1, .int (0 : Int32)]) (rest := []) C w (c_J7_fill_53178 l D G L S x1 (0 : Int32) S2 hc) ml_X4_63 st_J7_fill_53178 hR_J7_fill_53178 rfl hl.1 rfl (Nat.le_of_ble_eq_true rfl) dX4_sortBy_5 hcs) (fun H locs w => ?_)
  refine lv_iconst (v := 0) hx hb dX4_sortBy_8 (by decide) ?_
  refine lv_istore_n (lv' := [(2, .int (0 : Int32)), (0, .ref v0), (1, .int v1)]) hx hb dX4_sortBy_9 rfl hl (by decide) rfl (fun ls hl => ?_)
  obtain ⟨S10, hL10, h⟩ := bs h
  have hE10 : ∀ (q59 : PH), S10 = q59 → ∀ (H : Heap) (locs : List Loc) (ls : Array Slot), Wd D G L A H0 q59 H locs → lv_has ls 4 [(0, .ref v0), (1, .int v1)] → W p l e R s m args below meth c H locs cells slots Q (F0 m 46 ls []) := by
    intro q59 he
    cases he
    intro H locs ls w hl
    refine lv_iconst (v := 1) hx hb dX4_sortBy_46 (by decide) ?_
    refine lv_istore_n (lv' := [(2, .int (1 : Int32)), (0, .ref v0), (1, .int v1)]) hx hb dX4_sortBy_47 rfl hl (by decide) rfl (fun ls hl => ?_)
    obtain ⟨S16, hL48, h⟩ := bs h
    have hE48 : ∀ (q51 : PH), S16 = q51 → ∀ (H : Heap) (locs : List Loc) (ls : Array Slot), Wd D G L A H0 q51 H locs → lv_has ls 4 [(0, .ref v0), (1, .int v1)] → W p l e R s m args below meth c H locs cells slots Q (F0 m 77 ls []) := by
      intro q51 he
      cases he
      intro H locs ls w hl
      refine lv_iconst (v := 0) hx hb dX4_sortBy_77 (by decide) ?_
      refine lv_istore_n (lv' := [(2, .int (0 : Int32)), (0, .ref v0), (1, .int v1)]) hx hb dX4_sortBy_78 rfl hl (by decide) rfl (fun ls hl => ?_)
      obtain ⟨S30, hL79, h⟩ := bs h
      have hE79 : ∀ (q35 : PH), S30 = q35 → ∀ (H : Heap) (locs : List Loc) (ls : Array Slot), Wd D G L A H0 q35 H locs → lv_has ls 4 [(0, .ref v0)] → W p l e R s m args below meth c H locs cells slots Q (F0 m 132 ls []) := by
        intro q35 he
        cases he
        intro H locs ls w hl
        refine lv_aload_n hx hb dX4_sortBy_132 rfl (lv_at hl 0 rfl) ?_
        obtain ⟨x31, hx31, h⟩ := bs h
        refine o_gR C w hx31 fl_X4_19 dX4_sortBy_133 ?_
        refine lv_astore_n (lv' := [(2, .ref x31), (0, .ref v0)]) hx hb dX4_sortBy_136 rfl hl (by decide) rfl (fun ls hl => ?_)
        refine lv_aload_n hx hb dX4_sortBy_137 rfl (lv_at hl 1 rfl) ?_
        refine lv_aload_n hx hb dX4_sortBy_138 rfl (lv_at hl 1 rfl) ?_
        obtain ⟨x32, hx32, h⟩ := bs h
        refine o_gR C w hx32 fl_X4_15 dX4_sortBy_139 ?_
        obtain ⟨S33, hS33, h⟩ := bs h
        refine o_pF C w hS33 fp_X4_19 rfl rfl dX4_sortBy_142 (fun H locs w => ?_)
        refine lv_aload_n hx hb dX4_sortBy_145 rfl (lv_at hl 1 rfl) ?_
        refine lv_aload_n hx hb dX4_sortBy_146 rfl (lv_at hl 0 rfl) ?_
        obtain ⟨S34, hS34, h⟩ := bs h
        refine o_pF C w hS34 fp_X4_15 rfl rfl dX4_sortBy_147 (fun H locs w => ?_)
        exact hret _ _ _ _ _ w (Option.some.inj h) dX4_sortBy_150
      refine lpo_W (P := fun x : Int32 × PH => ∀ (H : Heap) (locs : List Loc) (ls : Array Slot), Wd D G L A H0 x.2 H locs → lv_has ls 4 [(0, .ref v0), (1, .int v1), (2, .int x.1)] → W p l e R s m args below meth c H locs cells slots Q (F0 m 79 ls [])) ?_ FU _ hL79 H locs ls w (lv_sub hl [1, 2, 0] rfl)
      intro x y79 h hnext79 hend79
      obtain ⟨t36, S37⟩ := x
      have h : f_X4_sortBy_L79 S37 v0 v1 t36 = some y79 := h
      unfold f_X4_sortBy_L79 at h
      intro H locs ls w hl
      have hl : lv_has ls 4 [(0, .ref v0), (1, .int v1), (2, .int t36)] := hl
      have w : Wd D G L A H0 S37 H locs := w
      refine lv_iload_n hx hb dX4_sortBy_79 rfl (lv_at hl 2 rfl) ?_
      refine lv_aload_n hx hb dX4_sortBy_80 rfl (lv_at hl 0 rfl) ?_
      obtain ⟨x38, hx38, h⟩ := bs h
      refine o_gI C w hx38 fl_X4_32 dX4_sortBy_81 ?_
      refine lv_icmp_ge (tgt := 132) hx hb dX4_sortBy_84 (by decide) (fun cc84 => ?_) (fun cc84 => ?_)
      · have h := it cc84 h
        exact hE79 _ (hend79 _ (Option.some.inj h).symm).symm H locs ls w (lv_sub hl [0] rfl)
      · have h := ie cc84 h
        refine lv_aload_n hx hb dX4_sortBy_87 rfl (lv_at hl 0 rfl) ?_
        refine lv_iload_n hx hb dX4_sortBy_88 rfl (lv_at hl 1 rfl) ?_
        refine lv_aload_n hx hb dX4_sortBy_89 rfl (lv_at hl 0 rfl) ?_
        obtain ⟨x39, hx39, h⟩ := bs h
        refine o_gR C w hx39 fl_X4_15 dX4_sortBy_90 ?_
        refine lv_iload_n hx hb dX4_sortBy_93 rfl (lv_at hl 2 rfl) ?_
        obtain ⟨x40, hx40, h⟩ := bs h
        refine o_ldI C w hx40 dX4_sortBy_94 ?_
        obtain ⟨_, ho, h⟩ := bs h
        obtain ⟨x41, hc, h⟩ := bs h
        refine o_backi w hLA (o_runV (As := [.int v1, .int x40]) (rest := []) C w (c_X4_answerTo l D G L S37 v0 v1 x40 x41 hc) ml_X4_69 mv_X4_answerTo hR_X4_answerTo ho rfl hl.1 rfl (Nat.le_of_ble_eq_true rfl) dX4_sortBy_95 hcs) (fun H locs w => ?_)
        refine lv_istore_n (lv' := [(3, .int x41), (0, .ref v0), (1, .int v1), (2, .int t36)]) hx hb dX4_sortBy_98 rfl hl (by decide) rfl (fun ls hl => ?_)
        refine lv_aload_n hx hb dX4_sortBy_99 rfl (lv_at hl 1 rfl) ?_
        obtain ⟨x42, hx42, h⟩ := bs h
        refine o_gR C w hx42 fl_X4_19 dX4_sortBy_100 ?_
        refine lv_aload_n hx hb dX4_sortBy_103 rfl (lv_at hl 1 rfl) ?_
        obtain ⟨x43, hx43, h⟩ := bs h
        refine o_gR C w hx43 fl_X4_22 dX4_sortBy_104 ?_
        refine lv_iload_n hx hb dX4_sortBy_107 rfl (lv_at hl 0 rfl) ?_
        obtain ⟨x44, hx44, h⟩ := bs h
        refine o_ldI C w hx44 dX4_sortBy_108 ?_
        refine lv_aload_n hx hb dX4_sortBy_109 rfl (lv_at hl 1 rfl) ?_
        obtain ⟨x45, hx45, h⟩ := bs h
        refine o_gR C w hx45 fl_X4_15 dX4_sortBy_110 ?_
        refine lv_iload_n hx hb dX4_sortBy_113 rfl (lv_at hl 3 rfl) ?_
        obtain ⟨x46, hx46, h⟩ := bs h
        refine o_ldI C w hx46 dX4_sortBy_114 ?_
        obtain ⟨S47, hS47, h⟩ := bs h
        refine o_stI C w hS47 dX4_sortBy_115 (fun H locs w => ?_)
        refine lv_aload_n hx hb dX4_sortBy_116 rfl (lv_at hl 1 rfl) ?_
        obtain ⟨x48, hx48, h⟩ := bs h
        refine o_gR C w hx48 fl_X4_22 dX4_sortBy_117 ?_
        refine lv_iload_n hx hb dX4_sortBy_120 rfl (lv_at hl 0 rfl) ?_
        refine lv_dup2_11 hx hb dX4_sortBy_121 rfl rfl ?_
        obtain ⟨x49, hx49, h⟩ := bs h
        refine o_ldI C w hx49 dX4_sortBy_122 ?_
        refine lv_iconst (v := 1) hx hb dX4_sortBy_123 (by decide) ?_
        refine lv_iadd hx hb dX4_sortBy_124 ?_
        obtain ⟨S50, hS50, h⟩ := bs h
        refine o_stI C w hS50 dX4_sortBy_125 (fun H locs w => ?_)
        refine lv_iinc (v := (t36 + 1)) (lv' := [(2, .int (t36 + 1)), (3, .int x41), (0, .ref v0), (1, .int v1)]) hx hb dX4_sortBy_126 hl (k := 3) rfl rfl (by decide) rfl (fun ls hl => ?_)
        refine lv_goto (tgt := 79) hx hb dX4_sortBy_129 (by decide) ?_
        exact hnext79 _ (Option.some.inj h).symm H locs ls w (lv_sub hl [2, 3, 0] rfl)
    refine lpo_W (P := fun x : Int32 × PH => ∀ (H : Heap) (locs : List Loc) (ls : Array Slot), Wd D G L A H0 x.2 H locs → lv_has ls 4 [(0, .ref v0), (1, .int v1), (2, .int x.1)] → W p l e R s m args below meth c H locs cells slots Q (F0 m 48 ls [])) ?_ FU _ hL48 H locs ls w (lv_sub hl [1, 2, 0] rfl)
    intro x y48 h hnext48 hend48
    obtain ⟨t52, S53⟩ := x
    have h : f_X4_sortBy_L48 S53 v0 t52 = some y48 := h
    unfold f_X4_sortBy_L48 at h
    intro H locs ls w hl
    have hl : lv_has ls 4 [(0, .ref v0), (1, .int v1), (2, .int t52)] := hl
    have w : Wd D G L A H0 S53 H locs := w
    refine lv_iload_n hx hb dX4_sortBy_48 rfl (lv_at hl 2 rfl) ?_
    refine lv_bipush (v := 64) hx hb dX4_sortBy_49 (by decide) ?_
    refine lv_icmp_gt (tgt := 77) hx hb dX4_sortBy_51 (by decide) (fun cc51 => ?_) (fun cc51 => ?_)
    · have h := it cc51 h
      exact hE48 _ (hend48 _ (Option.some.inj h).symm).symm H locs ls w (lv_sub hl [0, 1] rfl)
    · have h := ie cc51 h
      refine lv_aload_n hx hb dX4_sortBy_54 rfl (lv_at hl 0 rfl) ?_
      obtain ⟨x54, hx54, h⟩ := bs h
      refine o_gR C w hx54 fl_X4_22 dX4_sortBy_55 ?_
      refine lv_iload_n hx hb dX4_sortBy_58 rfl (lv_at hl 2 rfl) ?_
      refine lv_dup2_11 hx hb dX4_sortBy_59 rfl rfl ?_
      obtain ⟨x55, hx55, h⟩ := bs h
      refine o_ldI C w hx55 dX4_sortBy_60 ?_
      refine lv_aload_n hx hb dX4_sortBy_61 rfl (lv_at hl 0 rfl) ?_
      obtain ⟨x56, hx56, h⟩ := bs h
      refine o_gR C w hx56 fl_X4_22 dX4_sortBy_62 ?_
      refine lv_iload_n hx hb dX4_sortBy_65 rfl (lv_at hl 2 rfl) ?_
      refine lv_iconst (v := 1) hx hb dX4_sortBy_66 (by decide) ?_
      refine lv_isub hx hb dX4_sortBy_67 ?_
      obtain ⟨x57, hx57, h⟩ := bs h
      refine o_ldI C w hx57 dX4_sortBy_68 ?_
      refine lv_iadd hx hb dX4_sortBy_69 ?_
      obtain ⟨S58, hS58, h⟩ := bs h
      refine o_stI C w hS58 dX4_sortBy_70 (fun H locs w => ?_)
      refine lv_iinc (v := (t52 + 1)) (lv' := [(2, .int (t52 + 1)), (0, .ref v0), (1, .int v1)]) hx hb dX4_sortBy_71 hl (k := 2) rfl rfl (by decide) rfl (fun ls hl => ?_)
      refine lv_goto (tgt := 48) hx hb dX4_sortBy_74 (by decide) ?_
      exact hnext48 _ (Option.some.inj h).symm H locs ls w (lv_sub hl [1, 2, 0] rfl)
  refine lpo_W (P := fun x : Int32 × PH => ∀ (H : Heap) (locs : List Loc) (ls : Array Slot), Wd D G L A H0 x.2 H locs → lv_has ls 4 [(0, .ref v0), (1, .int v1), (2, .int x.1)] → W p l e R s m args below meth c H locs cells slots Q (F0 m 10 ls [])) ?_ FU _ hL10 H locs ls w (lv_sub hl [1, 2, 0] rfl)
  intro x y10 h hnext10 hend10
  obtain ⟨t60, S61⟩ := x
  have h : f_X4_sortBy_L10 S61 v0 v1 t60 = some y10 := h
  unfold f_X4_sortBy_L10 at h
  intro H locs ls w hl
  have hl : lv_has ls 4 [(0, .ref v0), (1, .int v1), (2, .int t60)] := hl
  have w : Wd D G L A H0 S61 H locs := w
  refine lv_iload_n hx hb dX4_sortBy_10 rfl (lv_at hl 2 rfl) ?_
  refine lv_aload_n hx hb dX4_sortBy_11 rfl (lv_at hl 0 rfl) ?_
  obtain ⟨x62, hx62, h⟩ := bs h
  refine o_gI C w hx62 fl_X4_32 dX4_sortBy_12 ?_
  refine lv_icmp_ge (tgt := 46) hx hb dX4_sortBy_15 (by decide) (fun cc15 => ?_) (fun cc15 => ?_)
  · have h := it cc15 h
    exact hE10 _ (hend10 _ (Option.some.inj h).symm).symm H locs ls w (lv_sub hl [0, 1] rfl)
  · have h := ie cc15 h
    refine lv_aload_n hx hb dX4_sortBy_18 rfl (lv_at hl 0 rfl) ?_
    obtain ⟨x63, hx63, h⟩ := bs h
    refine o_gR C w hx63 fl_X4_22 dX4_sortBy_19 ?_
    refine lv_aload_n hx hb dX4_sortBy_22 rfl (lv_at hl 0 rfl) ?_
    refine lv_iload_n hx hb dX4_sortBy_23 rfl (lv_at hl 1 rfl) ?_
    refine lv_aload_n hx hb dX4_sortBy_24 rfl (lv_at hl 0 rfl) ?_
    obtain ⟨x64, hx64, h⟩ := bs h
    refine o_gR C w hx64 fl_X4_15 dX4_sortBy_25 ?_
    refine lv_iload_n hx hb dX4_sortBy_28 rfl (lv_at hl 2 rfl) ?_
    obtain ⟨x65, hx65, h⟩ := bs h
    refine o_ldI C w hx65 dX4_sortBy_29 ?_
    obtain ⟨_, ho, h⟩ := bs h
    obtain ⟨x66, hc, h⟩ := bs h
    refine o_backi w hLA (o_runV (As := [.int v1, .int x65]) (rest := [.ref x63]) C w (c_X4_answerTo l D G L S61 v0 v1 x65 x66 hc) ml_X4_69 mv_X4_answerTo hR_X4_answerTo ho rfl hl.1 rfl (Nat.le_of_ble_eq_true rfl) dX4_sortBy_30 hcs) (fun H locs w => ?_)
    refine lv_iconst (v := 1) hx hb dX4_sortBy_33 (by decide) ?_
    refine lv_iadd hx hb dX4_sortBy_34 ?_
    refine lv_dup2_11 hx hb dX4_sortBy_35 rfl rfl ?_
    obtain ⟨x67, hx67, h⟩ := bs h
    refine o_ldI C w hx67 dX4_sortBy_36 ?_
    refine lv_iconst (v := 1) hx hb dX4_sortBy_37 (by decide) ?_
    refine lv_iadd hx hb dX4_sortBy_38 ?_
    obtain ⟨S68, hS68, h⟩ := bs h
    refine o_stI C w hS68 dX4_sortBy_39 (fun H locs w => ?_)
    refine lv_iinc (v := (t60 + 1)) (lv' := [(2, .int (t60 + 1)), (0, .ref v0), (1, .int v1)]) hx hb dX4_sortBy_40 hl (k := 2) rfl rfl (by decide) rfl (fun ls hl => ?_)
    refine lv_goto (tgt := 10) hx hb dX4_sortBy_43 (by decide) ?_
    exact hnext10 _ (Option.some.inj h).symm H locs ls w (lv_sub hl [1, 2, 0] rfl)
set_option maxHeartbeats 4000000 in
set_option maxRecDepth 100000 in
theorem c_X4_sortBy (l : Launch) (D : va_G) (G : Nat → ClassId) (L : List Nat) (S : PH) (v0 : Nat) (v1 : Int32) (r : PH) (h : f_X4_sortBy S v0 v1 = some r) : Met l yX4_sortBy [Cond.code yX4_sortBy cX4_sortBy 4 none] ({ frames := 1, cells := 0, slots := 0, locals := 23 }) (va_Pc [.ref v0, .int v1] (PreU D G L S)) (Qv D G L r) 0 0 (inL L) := by
  refine Met.ofW (cc := cX4_sortBy) (maxL := 4) (ret := none) (by decide) rfl ?_
  intro p e s m args below meth c s₁ B hml hv
  obtain ⟨rfl, hpre⟩ := hv
  obtain ⟨C, w⟩ := o_ent (own := RX4) rfl B hml hpre
  have hl := lv_entry ([.ref v0, .int v1]) (n := 4) (Nat.le_of_ble_eq_true rfl)
  rw [lg_entry_eq]
  generalize (lg_sl ([.ref v0, .int v1]) ++ List.replicate (4 - (lg_sl ([.ref v0, .int v1])).length) Slot.unset).toArray = ls at hl ⊢
  exact w_X4_sortBy C (fun _ h => h) ⟨Nat.zero_le _, Nat.zero_le _⟩ ⟨rfl, rfl, Nat.le_of_ble_eq_true rfl, Nat.le_of_ble_eq_true rfl⟩ ⟨rfl, rfl, Nat.le_of_ble_eq_true rfl, Nat.le_of_ble_eq_true rfl⟩ S v0 v1 r h (fun S9 H locs ls pc w hv hd => by subst hv; exact o_vret C w B.returns B.notSynchronized hd) _ _ _ w hl

def f_X4_answerBitsOf_b29 (v0 : Int32) (v1 : Int64) (v3 : Int32) : Option ((Int64 × Int32) ⊕ (Int64)) :=
some (.inl (v1, (v3 + 1)))
def f_X4_answerBitsOf_L4 (v0 : Int32) (v1 : Int64) (v3 : Int32) : Option ((Int64 × Int32) ⊕ (Int64)) :=
if (8 : Int32) ≤ v3 then (
some (.inr v1))
else (
(f_X7_holdsBit v0 v3).bind fun x1 =>
if x1 = 0 then (
f_X4_answerBitsOf_b29 v0 v1 v3)
else (
f_X4_answerBitsOf_b29 v0 (v1 ||| ((63 : Int64) <<< ((v3 * (6 : Int32)).toInt64 &&& 63))) v3))
def f_X4_answerBitsOf (v0 : Int32) : Option (Int64) :=
(lpo (fun x : Int64 × Int32 => f_X4_answerBitsOf_L4 v0 x.1 x.2) FU ((0 : Int64), (0 : Int32))).bind fun y2 =>
some y2
set_option maxHeartbeats 4000000 in
set_option maxRecDepth 100000 in
theorem w_X4_answerBitsOf {p : Program} {l : Launch} {e : Env} {R : Room} {s : State} {m : MethodId} {args : Array Value} {below : List Frame} {meth : Method} {c : Code} {cells slots : Nat} {Q : State → Prop} {D : va_G} {G : Nat → ClassId} {L : List Nat} {A : Nat → Prop} {H0 : Heap} (C : CX p s m c args D G cX4_answerBitsOf 4 RX4) (hLA : ∀ q ∈ L, A q) (hcs : cells ≤ R.cells ∧ slots ≤ R.slots) (hR_X7_holdsBit : RoomOk R ({ frames := 0, cells := 0, slots := 0, locals := 0 }) 2) (S : PH) (v0 : Int32) (r : Int64) (h : f_X4_answerBitsOf v0 = some r) (hret : ∀ (v : Int64) (H : Heap) (locs : List Loc) (ls : Array Slot) (pc : Nat), Wd D G L A H0 S H locs → v = r → decode cX4_answerBitsOf pc = .ok (.lreturn, 1) → W p l e R s m args below meth c H locs cells slots Q (F0 m pc ls [.long v])) : ∀ (H : Heap) (locs : List Loc) (ls : Array Slot), Wd D G L A H0 S H locs → lv_has ls 4 [(0, .int v0)] → W p l e R s m args below meth c H locs cells slots Q (F0 m 0 ls []) := by
  have hx := C.1.1
  have hb := C.1.2.1
  unfold f_X4_answerBitsOf at h
  intro H locs ls w hl
  refine lv_lconst (v := 0) hx hb dX4_answerBitsOf_0 (by decide) ?_
  refine lv_lstore_n (lv' := [(1, .long (0 : Int64)), (0, .int v0)]) hx hb dX4_answerBitsOf_1 rfl hl (by decide) rfl (fun ls hl => ?_)
  refine lv_iconst (v := 0) hx hb dX4_answerBitsOf_2 (by decide) ?_
  refine lv_istore_n (lv' := [(3, .int (0 : Int32)), (1, .long (0 : Int64)), (0, .int v0)]) hx hb dX4_answerBitsOf_3 rfl hl (by decide) rfl (fun ls hl => ?_)
  obtain ⟨y2, hL4, h⟩ := bs h
  have hE4 : ∀ (q3 : Int64), y2 = q3 → ∀ (H : Heap) (locs : List Loc) (ls : Array Slot), Wd D G L A H0 S H locs → lv_has ls 4 [(1, .long q3)] → W p l e R s m args below meth c H locs cells slots Q (F0 m 35 ls []) := by
    intro q3 he
    cases he
    intro H locs ls w hl
    refine lv_lload_n hx hb dX4_answerBitsOf_35 rfl (lv_at hl 0 rfl) ?_
    exact hret _ _ _ _ _ w (Option.some.inj h) dX4_answerBitsOf_36
  refine lpo_W (P := fun x : Int64 × Int32 => ∀ (H : Heap) (locs : List Loc) (ls : Array Slot), Wd D G L A H0 S H locs → lv_has ls 4 [(0, .int v0), (1, .long x.1), (3, .int x.2)] → W p l e R s m args below meth c H locs cells slots Q (F0 m 4 ls [])) ?_ FU _ hL4 H locs ls w (lv_sub hl [2, 1, 0] rfl)
  intro x y4 h hnext4 hend4
  obtain ⟨t4, t5⟩ := x
  have h : f_X4_answerBitsOf_L4 v0 t4 t5 = some y4 := h
  unfold f_X4_answerBitsOf_L4 at h
  have hb29 : ∀ (u6 : Int64) (u7 : Int32), f_X4_answerBitsOf_b29 v0 u6 u7 = some y4 → ∀ (H : Heap) (locs : List Loc) (ls : Array Slot), Wd D G L A H0 S H locs → lv_has ls 4 [(0, .int v0), (1, .long u6), (3, .int u7)] → W p l e R s m args below meth c H locs cells slots Q (F0 m 29 ls []) := by
    intro u6 u7 h H locs ls w hl
    unfold f_X4_answerBitsOf_b29 at h
    refine lv_iinc (v := (u7 + 1)) (lv' := [(3, .int (u7 + 1)), (0, .int v0), (1, .long u6)]) hx hb dX4_answerBitsOf_29 hl (k := 2) rfl rfl (by decide) rfl (fun ls hl => ?_)
    refine lv_goto (tgt := 4) hx hb dX4_answerBitsOf_32 (by decide) ?_
    exact hnext4 _ (Option.some.inj h).symm H locs ls w (lv_sub hl [1, 2, 0] rfl)
  intro H locs ls w hl
  have hl : lv_has ls 4 [(0, .int v0), (1, .long t4), (3, .int t5)] := hl
  refine lv_iload_n hx hb dX4_answerBitsOf_4 rfl (lv_at hl 2 rfl) ?_
  refine lv_bipush (v := 8) hx hb dX4_answerBitsOf_5 (by decide) ?_
  refine lv_icmp_ge (tgt := 35) hx hb dX4_answerBitsOf_7 (by decide) (fun cc7 => ?_) (fun cc7 => ?_)
  · have h := it cc7 h
    exact hE4 _ (hend4 _ (Option.some.inj h).symm).symm H locs ls w (lv_sub hl [1] rfl)
  · have h := ie cc7 h
    refine lv_iload_n hx hb dX4_answerBitsOf_10 rfl (lv_at hl 0 rfl) ?_
    refine lv_iload_n hx hb dX4_answerBitsOf_11 rfl (lv_at hl 2 rfl) ?_
    obtain ⟨x8, hc, h⟩ := bs h
    refine o_backi w hLA (o_runS (As := [.int v0, .int t5]) (rest := []) C w (c_X7_holdsBit l D G L S v0 t5 x8 hc) ml_X4_47 st_X7_holdsBit hR_X7_holdsBit rfl hl.1 rfl (Nat.le_of_ble_eq_true rfl) dX4_answerBitsOf_12 hcs) (fun H locs w => ?_)
    refine lv_if_eq (tgt := 29) hx hb dX4_answerBitsOf_15 (by decide) (fun cc15 => ?_) (fun cc15 => ?_)
    · have h := it cc15 h
      exact hb29 _ _ h H locs ls w (lv_sub hl [0, 1, 2] rfl)
    · have h := ie cc15 h
      refine lv_lload_n hx hb dX4_answerBitsOf_18 rfl (lv_at hl 1 rfl) ?_
      refine lv_ldc2 (v := 63) hx hb C.1.2.2.2.1 (C.1.2.2.2.2 _ kc_X4_76) dX4_answerBitsOf_19 ?_
      refine lv_iload_n hx hb dX4_answerBitsOf_22 rfl (lv_at hl 2 rfl) ?_
      refine lv_bipush (v := 6) hx hb dX4_answerBitsOf_23 (by decide) ?_
      refine lv_imul hx hb dX4_answerBitsOf_25 ?_
      refine lv_lshl hx hb dX4_answerBitsOf_26 rfl ?_
      refine lv_lor hx hb dX4_answerBitsOf_27 ?_
      refine lv_lstore_n (lv' := [(1, .long (t4 ||| ((63 : Int64) <<< ((t5 * (6 : Int32)).toInt64 &&& 63)))), (0, .int v0), (3, .int t5)]) hx hb dX4_answerBitsOf_28 rfl hl (by decide) rfl (fun ls hl => ?_)
      exact hb29 _ _ h H locs ls w (lv_sub hl [1, 0, 2] rfl)
set_option maxHeartbeats 4000000 in
set_option maxRecDepth 100000 in
theorem c_X4_answerBitsOf (l : Launch) (D : va_G) (G : Nat → ClassId) (L : List Nat) (S : PH) (v0 : Int32) (r : Int64) (h : f_X4_answerBitsOf v0 = some r) : Met l yX4_answerBitsOf [Cond.code yX4_answerBitsOf cX4_answerBitsOf 4 (some .long)] ({ frames := 1, cells := 0, slots := 0, locals := 21 }) (va_Pc [.int v0] (PreU D G L S)) (Ql D G L r S) 0 0 (inL L) := by
  refine Met.ofW (cc := cX4_answerBitsOf) (maxL := 4) (ret := (some .long)) (by decide) rfl ?_
  intro p e s m args below meth c s₁ B hml hv
  obtain ⟨rfl, hpre⟩ := hv
  obtain ⟨C, w⟩ := o_ent (own := RX4) rfl B hml hpre
  have hl := lv_entry ([.int v0]) (n := 4) (Nat.le_of_ble_eq_true rfl)
  rw [lg_entry_eq]
  generalize (lg_sl ([.int v0]) ++ List.replicate (4 - (lg_sl ([.int v0])).length) Slot.unset).toArray = ls at hl ⊢
  exact w_X4_answerBitsOf C (fun _ h => h) ⟨Nat.zero_le _, Nat.zero_le _⟩ ⟨rfl, rfl, Nat.le_of_ble_eq_true rfl, Nat.le_of_ble_eq_true rfl⟩ S v0 r h (fun v H locs ls pc w hv hd => by subst hv; exact o_lret C w B.returns B.notSynchronized hd) _ _ _ w hl

def f_X4_areCellsSafe_b121 (S : PH) (v0 : Nat) (v1 : Int64) (v3 : Int64) (v5 : Int32) : Option ((Int64 × Int32) ⊕ ((Unit) ⊕ (Int32))) :=
some (.inl (v3, (v5 + 1)))
def f_X4_areCellsSafe_b114 (S : PH) (v0 : Nat) (v1 : Int64) (v3 : Int64) (v5 : Int32) (v7 : Int32) : Option ((Int64 × Int32) ⊕ ((Unit) ⊕ (Int32))) :=
if v7 = 0 then (
f_X4_areCellsSafe_b121 S v0 v1 v3 v5)
else (
f_X4_areCellsSafe_b121 S v0 v1 (0 : Int64) v5)
def f_X4_areCellsSafe_b94 (S : PH) (v0 : Nat) (v1 : Int64) (v3 : Int64) (v5 : Int32) (s0 : Int32) : Option ((Int64 × Int32) ⊕ ((Unit) ⊕ (Int32))) :=
if s0 = 0 then (
f_X4_areCellsSafe_b114 S v0 v1 v3 v5 s0)
else (
(gR S v0 4 4).bind fun x3 =>
(ckO S x3 2).bind fun _ =>
(f_X2_areSafe S x3 v3).bind fun x4 =>
if x4 = 0 then (
some (.inr (.inr (0 : Int32))))
else (
f_X4_areCellsSafe_b114 S v0 v1 v3 v5 s0))
def f_X4_areCellsSafe_b89 (S : PH) (v0 : Nat) (v1 : Int64) (v3 : Int64) (v5 : Int32) : Option ((Int64 × Int32) ⊕ ((Unit) ⊕ (Int32))) :=
f_X4_areCellsSafe_b94 S v0 v1 v3 v5 (1 : Int32)
def f_X4_areCellsSafe_L21 (S : PH) (v0 : Nat) (v1 : Int64) (v3 : Int64) (v5 : Int32) : Option ((Int64 × Int32) ⊕ ((Unit) ⊕ (Int32))) :=
(gI S v0 4 6).bind fun x5 =>
if x5 ≤ v5 then (
some (.inr (.inl ())))
else (
(gR S v0 4 1).bind fun x6 =>
(ldI S x6 v5).bind fun x7 =>
(gR S v0 4 5).bind fun x8 =>
(ldJ S x8 x7).bind fun x9 =>
(gI S v0 4 6).bind fun x10 =>
if (v5 + (1 : Int32)) = x10 then (
f_X4_areCellsSafe_b89 S v0 v1 (v3 ||| x9) v5)
else (
(gR S v0 4 0).bind fun x11 =>
(ldJ S x11 x7).bind fun x12 =>
(gR S v0 4 0).bind fun x13 =>
(gR S v0 4 1).bind fun x14 =>
(ldI S x14 (v5 + (1 : Int32))).bind fun x15 =>
(ldJ S x13 x15).bind fun x16 =>
if (lg_cmp ((x12 ^^^ x16) &&& v1) (0 : Int64)) = 0 then (
f_X4_areCellsSafe_b94 S v0 v1 (v3 ||| x9) v5 (0 : Int32))
else (
f_X4_areCellsSafe_b89 S v0 v1 (v3 ||| x9) v5)))
def f_X4_areCellsSafe (S : PH) (v0 : Nat) (v1 : Int64) : Option (Int32) :=
(gR S v0 4 4).bind fun x1 =>
(gR S v0 4 5).bind fun x2 =>
bdS (lpo (fun x : Int64 × Int32 => f_X4_areCellsSafe_L21 S v0 v1 x.1 x.2) FU ((0 : Int64), (0 : Int32))) (fun _ =>
some (1 : Int32)) some
set_option maxHeartbeats 4000000 in
set_option maxRecDepth 100000 in
theorem w_X4_areCellsSafe {p : Program} {l : Launch} {e : Env} {R : Room} {s : State} {m : MethodId} {args : Array Value} {below : List Frame} {meth : Method} {c : Code} {cells slots : Nat} {Q : State → Prop} {D : va_G} {G : Nat → ClassId} {L : List Nat} {A : Nat → Prop} {H0 : Heap} (C : CX p s m c args D G cX4_areCellsSafe 8 RX4) (hLA : ∀ q ∈ L, A q) (hcs : cells ≤ R.cells ∧ slots ≤ R.slots) (hR_X2_areSafe : RoomOk R ({ frames := 2, cells := 0, slots := 0, locals := 44 }) 8) (S : PH) (v0 : Nat) (v1 : Int64) (r : Int32) (h : f_X4_areCellsSafe S v0 v1 = some r) (hret : ∀ (v : Int32) (H : Heap) (locs : List Loc) (ls : Array Slot) (pc : Nat), Wd D G L A H0 S H locs → narrow .boolean (.int v) = .int v → v = r → decode cX4_areCellsSafe pc = .ok (.ireturn, 1) → W p l e R s m args below meth c H locs cells slots Q (F0 m pc ls [.int v])) : ∀ (H : Heap) (locs : List Loc) (ls : Array Slot), Wd D G L A H0 S H locs → lv_has ls 8 [(0, .ref v0), (1, .long v1)] → W p l e R s m args below meth c H locs cells slots Q (F0 m 0 ls []) := by
  have hx := C.1.1
  have hb := C.1.2.1
  unfold f_X4_areCellsSafe at h
  intro H locs ls w hl
  refine lv_aload_n hx hb dX4_areCellsSafe_0 rfl (lv_at hl 0 rfl) ?_
  obtain ⟨x1, hx1, h⟩ := bs h
  refine o_gR C w hx1 fl_X4_25 dX4_areCellsSafe_1 ?_
  refine lv_ifnull hx hb dX4_areCellsSafe_4 ?_
  refine lv_aload_n hx hb dX4_areCellsSafe_7 rfl (lv_at hl 0 rfl) ?_
  obtain ⟨x2, hx2, h⟩ := bs h
  refine o_gR C w hx2 fl_X4_29 dX4_areCellsSafe_8 ?_
  refine lv_ifnonnull (tgt := 16) hx hb dX4_areCellsSafe_11 (by decide) ?_
  refine lv_lconst (v := 0) hx hb dX4_areCellsSafe_16 (by decide) ?_
  refine lv_lstore_n (lv' := [(3, .long (0 : Int64)), (0, .ref v0), (1, .long v1)]) hx hb dX4_areCellsSafe_17 rfl hl (by decide) rfl (fun ls hl => ?_)
  refine lv_iconst (v := 0) hx hb dX4_areCellsSafe_18 (by decide) ?_
  refine lv_istore (lv' := [(5, .int (0 : Int32)), (3, .long (0 : Int64)), (0, .ref v0), (1, .long v1)]) hx hb dX4_areCellsSafe_19 hl (by decide) rfl (fun ls hl => ?_)
  obtain ⟨e21, hL21, h⟩ := bs h
  have hE21 : e21 = Sum.inl () → ∀ (H : Heap) (locs : List Loc) (ls : Array Slot), Wd D G L A H0 S H locs → lv_has ls 8 [] → W p l e R s m args below meth c H locs cells slots Q (F0 m 127 ls []) := by
    intro he
    subst he
    have h : _ = some r := h
    intro H locs ls w hl
    refine lv_iconst (v := 1) hx hb dX4_areCellsSafe_127 (by decide) ?_
    exact hret _ _ _ _ _ w rfl (Option.some.inj h) dX4_areCellsSafe_128
  have hR21 : ∀ q, e21 = Sum.inr q → q = r := by
    intro q he
    subst he
    exact Option.some.inj h
  refine lpo_W (P := fun x : Int64 × Int32 => ∀ (H : Heap) (locs : List Loc) (ls : Array Slot), Wd D G L A H0 S H locs → lv_has ls 8 [(0, .ref v0), (1, .long v1), (3, .long x.1), (5, .int x.2)] → W p l e R s m args below meth c H locs cells slots Q (F0 m 21 ls [])) ?_ FU _ hL21 H locs ls w (lv_sub hl [2, 3, 1, 0] rfl)
  intro x y21 h hnext21 hend21
  obtain ⟨t17, t18⟩ := x
  have h : f_X4_areCellsSafe_L21 S v0 v1 t17 t18 = some y21 := h
  unfold f_X4_areCellsSafe_L21 at h
  have hb121 : ∀ (u19 : Int64) (u20 : Int32), f_X4_areCellsSafe_b121 S v0 v1 u19 u20 = some y21 → ∀ (H : Heap) (locs : List Loc) (ls : Array Slot), Wd D G L A H0 S H locs → lv_has ls 8 [(0, .ref v0), (1, .long v1), (3, .long u19), (5, .int u20)] → W p l e R s m args below meth c H locs cells slots Q (F0 m 121 ls []) := by
    intro u19 u20 h H locs ls w hl
    unfold f_X4_areCellsSafe_b121 at h
    refine lv_iinc (v := (u20 + 1)) (lv' := [(5, .int (u20 + 1)), (0, .ref v0), (1, .long v1), (3, .long u19)]) hx hb dX4_areCellsSafe_121 hl (k := 3) rfl rfl (by decide) rfl (fun ls hl => ?_)
    refine lv_goto (tgt := 21) hx hb dX4_areCellsSafe_124 (by decide) ?_
    exact hnext21 _ (Option.some.inj h).symm H locs ls w (lv_sub hl [1, 2, 3, 0] rfl)
  have hb114 : ∀ (u21 : Int64) (u22 : Int32) (u23 : Int32), f_X4_areCellsSafe_b114 S v0 v1 u21 u22 u23 = some y21 → ∀ (H : Heap) (locs : List Loc) (ls : Array Slot), Wd D G L A H0 S H locs → lv_has ls 8 [(0, .ref v0), (1, .long v1), (3, .long u21), (5, .int u22), (7, .int u23)] → W p l e R s m args below meth c H locs cells slots Q (F0 m 114 ls []) := by
    intro u21 u22 u23 h H locs ls w hl
    unfold f_X4_areCellsSafe_b114 at h
    refine lv_iload hx hb dX4_areCellsSafe_114 (lv_at hl 4 rfl) ?_
    refine lv_if_eq (tgt := 121) hx hb dX4_areCellsSafe_116 (by decide) (fun cc116 => ?_) (fun cc116 => ?_)
    · have h := it cc116 h
      exact hb121 _ _ h H locs ls w (lv_sub hl [0, 1, 2, 3] rfl)
    · have h := ie cc116 h
      refine lv_lconst (v := 0) hx hb dX4_areCellsSafe_119 (by decide) ?_
      refine lv_lstore_n (lv' := [(3, .long (0 : Int64)), (0, .ref v0), (1, .long v1), (5, .int u22), (7, .int u23)]) hx hb dX4_areCellsSafe_120 rfl hl (by decide) rfl (fun ls hl => ?_)
      exact hb121 _ _ h H locs ls w (lv_sub hl [1, 2, 0, 3] rfl)
  have hb94 : ∀ (u24 : Int64) (u25 : Int32) (u26 : Int32), f_X4_areCellsSafe_b94 S v0 v1 u24 u25 u26 = some y21 → ∀ (H : Heap) (locs : List Loc) (ls : Array Slot), Wd D G L A H0 S H locs → lv_has ls 8 [(0, .ref v0), (1, .long v1), (3, .long u24), (5, .int u25)] → W p l e R s m args below meth c H locs cells slots Q (F0 m 94 ls [.int u26]) := by
    intro u24 u25 u26 h H locs ls w hl
    unfold f_X4_areCellsSafe_b94 at h
    refine lv_istore (lv' := [(7, .int u26), (0, .ref v0), (1, .long v1), (3, .long u24), (5, .int u25)]) hx hb dX4_areCellsSafe_94 hl (by decide) rfl (fun ls hl => ?_)
    refine lv_iload hx hb dX4_areCellsSafe_96 (lv_at hl 0 rfl) ?_
    refine lv_if_eq (tgt := 114) hx hb dX4_areCellsSafe_98 (by decide) (fun cc98 => ?_) (fun cc98 => ?_)
    · have h := it cc98 h
      exact hb114 _ _ _ h H locs ls w (lv_sub hl [1, 2, 3, 4, 0] rfl)
    · have h := ie cc98 h
      refine lv_aload_n hx hb dX4_areCellsSafe_101 rfl (lv_at hl 1 rfl) ?_
      obtain ⟨x27, hx27, h⟩ := bs h
      refine o_gR C w hx27 fl_X4_25 dX4_areCellsSafe_102 ?_
      refine lv_lload_n hx hb dX4_areCellsSafe_105 rfl (lv_at hl 3 rfl) ?_
      obtain ⟨_, ho, h⟩ := bs h
      obtain ⟨x28, hc, h⟩ := bs h
      refine o_backi w hLA (o_runV (As := [.long u24]) (rest := []) C w (c_X2_areSafe l D G L S x27 u24 x28 hc) ml_X4_73 mv_X2_areSafe hR_X2_areSafe ho rfl hl.1 rfl (Nat.le_of_ble_eq_true rfl) dX4_areCellsSafe_106 hcs) (fun H locs w => ?_)
      refine lv_if_ne (tgt := 114) hx hb dX4_areCellsSafe_109 (by decide) (fun cc109 => ?_) (fun cc109 => ?_)
      · have h := ie cc109 h
        exact hb114 _ _ _ h H locs ls w (lv_sub hl [1, 2, 3, 4, 0] rfl)
      · have h := it cc109 h
        refine lv_iconst (v := 0) hx hb dX4_areCellsSafe_112 (by decide) ?_
        exact hret _ _ _ _ _ w rfl (hR21 _ (hend21 _ (Option.some.inj h).symm).symm) dX4_areCellsSafe_113
  have hb89 : ∀ (u29 : Int64) (u30 : Int32), f_X4_areCellsSafe_b89 S v0 v1 u29 u30 = some y21 → ∀ (H : Heap) (locs : List Loc) (ls : Array Slot), Wd D G L A H0 S H locs → lv_has ls 8 [(0, .ref v0), (1, .long v1), (3, .long u29), (5, .int u30)] → W p l e R s m args below meth c H locs cells slots Q (F0 m 89 ls []) := by
    intro u29 u30 h H locs ls w hl
    unfold f_X4_areCellsSafe_b89 at h
    refine lv_iconst (v := 1) hx hb dX4_areCellsSafe_89 (by decide) ?_
    refine lv_goto (tgt := 94) hx hb dX4_areCellsSafe_90 (by decide) ?_
    exact hb94 _ _ _ h H locs ls w (lv_sub hl [0, 1, 2, 3] rfl)
  intro H locs ls w hl
  have hl : lv_has ls 8 [(0, .ref v0), (1, .long v1), (3, .long t17), (5, .int t18)] := hl
  refine lv_iload hx hb dX4_areCellsSafe_21 (lv_at hl 3 rfl) ?_
  refine lv_aload_n hx hb dX4_areCellsSafe_23 rfl (lv_at hl 0 rfl) ?_
  obtain ⟨x31, hx31, h⟩ := bs h
  refine o_gI C w hx31 fl_X4_32 dX4_areCellsSafe_24 ?_
  refine lv_icmp_ge (tgt := 127) hx hb dX4_areCellsSafe_27 (by decide) (fun cc27 => ?_) (fun cc27 => ?_)
  · have h := it cc27 h
    exact hE21  (hend21 _ (Option.some.inj h).symm).symm H locs ls w (lv_sub hl [] rfl)
  · have h := ie cc27 h
    refine lv_aload_n hx hb dX4_areCellsSafe_30 rfl (lv_at hl 0 rfl) ?_
    obtain ⟨x32, hx32, h⟩ := bs h
    refine o_gR C w hx32 fl_X4_15 dX4_areCellsSafe_31 ?_
    refine lv_iload hx hb dX4_areCellsSafe_34 (lv_at hl 3 rfl) ?_
    obtain ⟨x33, hx33, h⟩ := bs h
    refine o_ldI C w hx33 dX4_areCellsSafe_36 ?_
    refine lv_istore (lv' := [(6, .int x33), (0, .ref v0), (1, .long v1), (3, .long t17), (5, .int t18)]) hx hb dX4_areCellsSafe_37 hl (by decide) rfl (fun ls hl => ?_)
    refine lv_lload_n hx hb dX4_areCellsSafe_39 rfl (lv_at hl 3 rfl) ?_
    refine lv_aload_n hx hb dX4_areCellsSafe_40 rfl (lv_at hl 1 rfl) ?_
    obtain ⟨x34, hx34, h⟩ := bs h
    refine o_gR C w hx34 fl_X4_29 dX4_areCellsSafe_41 ?_
    refine lv_iload hx hb dX4_areCellsSafe_44 (lv_at hl 0 rfl) ?_
    obtain ⟨x35, hx35, h⟩ := bs h
    refine o_ldJ C w hx35 dX4_areCellsSafe_46 ?_
    refine lv_lor hx hb dX4_areCellsSafe_47 ?_
    refine lv_lstore_n (lv' := [(3, .long (t17 ||| x35)), (6, .int x33), (0, .ref v0), (1, .long v1), (5, .int t18)]) hx hb dX4_areCellsSafe_48 rfl hl (by decide) rfl (fun ls hl => ?_)
    refine lv_iload hx hb dX4_areCellsSafe_49 (lv_at hl 4 rfl) ?_
    refine lv_iconst (v := 1) hx hb dX4_areCellsSafe_51 (by decide) ?_
    refine lv_iadd hx hb dX4_areCellsSafe_52 ?_
    refine lv_aload_n hx hb dX4_areCellsSafe_53 rfl (lv_at hl 2 rfl) ?_
    obtain ⟨x36, hx36, h⟩ := bs h
    refine o_gI C w hx36 fl_X4_32 dX4_areCellsSafe_54 ?_
    refine lv_icmp_eq (tgt := 89) hx hb dX4_areCellsSafe_57 (by decide) (fun cc57 => ?_) (fun cc57 => ?_)
    · have h := it cc57 h
      exact hb89 _ _ h H locs ls w (lv_sub hl [2, 3, 0, 4] rfl)
    · have h := ie cc57 h
      refine lv_aload_n hx hb dX4_areCellsSafe_60 rfl (lv_at hl 2 rfl) ?_
      obtain ⟨x37, hx37, h⟩ := bs h
      refine o_gR C w hx37 fl_X4_9 dX4_areCellsSafe_61 ?_
      refine lv_iload hx hb dX4_areCellsSafe_64 (lv_at hl 1 rfl) ?_
      obtain ⟨x38, hx38, h⟩ := bs h
      refine o_ldJ C w hx38 dX4_areCellsSafe_66 ?_
      refine lv_aload_n hx hb dX4_areCellsSafe_67 rfl (lv_at hl 2 rfl) ?_
      obtain ⟨x39, hx39, h⟩ := bs h
      refine o_gR C w hx39 fl_X4_9 dX4_areCellsSafe_68 ?_
      refine lv_aload_n hx hb dX4_areCellsSafe_71 rfl (lv_at hl 2 rfl) ?_
      obtain ⟨x40, hx40, h⟩ := bs h
      refine o_gR C w hx40 fl_X4_15 dX4_areCellsSafe_72 ?_
      refine lv_iload hx hb dX4_areCellsSafe_75 (lv_at hl 4 rfl) ?_
      refine lv_iconst (v := 1) hx hb dX4_areCellsSafe_77 (by decide) ?_
      refine lv_iadd hx hb dX4_areCellsSafe_78 ?_
      obtain ⟨x41, hx41, h⟩ := bs h
      refine o_ldI C w hx41 dX4_areCellsSafe_79 ?_
      obtain ⟨x42, hx42, h⟩ := bs h
      refine o_ldJ C w hx42 dX4_areCellsSafe_80 ?_
      refine lv_lxor hx hb dX4_areCellsSafe_81 ?_
      refine lv_lload_n hx hb dX4_areCellsSafe_82 rfl (lv_at hl 3 rfl) ?_
      refine lv_land hx hb dX4_areCellsSafe_83 ?_
      refine lv_lconst (v := 0) hx hb dX4_areCellsSafe_84 (by decide) ?_
      refine W.lcmp hx hb dX4_areCellsSafe_85 ?_
      refine lv_if_eq (tgt := 93) hx hb dX4_areCellsSafe_86 (by decide) (fun cc86 => ?_) (fun cc86 => ?_)
      · have h := it cc86 h
        refine lv_iconst (v := 0) hx hb dX4_areCellsSafe_93 (by decide) ?_
        exact hb94 _ _ _ h H locs ls w (lv_sub hl [2, 3, 0, 4] rfl)
      · have h := ie cc86 h
        exact hb89 _ _ h H locs ls w (lv_sub hl [2, 3, 0, 4] rfl)
set_option maxHeartbeats 4000000 in
set_option maxRecDepth 100000 in
theorem c_X4_areCellsSafe (l : Launch) (D : va_G) (G : Nat → ClassId) (L : List Nat) (S : PH) (v0 : Nat) (v1 : Int64) (r : Int32) (h : f_X4_areCellsSafe S v0 v1 = some r) : Met l yX4_areCellsSafe [Cond.code yX4_areCellsSafe cX4_areCellsSafe 8 (some .boolean)] ({ frames := 3, cells := 0, slots := 0, locals := 71 }) (va_Pc [.ref v0, .long v1] (PreU D G L S)) (Qi D G L r S) 0 0 (inL L) := by
  refine Met.ofW (cc := cX4_areCellsSafe) (maxL := 8) (ret := (some .boolean)) (by decide) rfl ?_
  intro p e s m args below meth c s₁ B hml hv
  obtain ⟨rfl, hpre⟩ := hv
  obtain ⟨C, w⟩ := o_ent (own := RX4) rfl B hml hpre
  have hl := lv_entry ([.ref v0, .long v1]) (n := 8) (Nat.le_of_ble_eq_true rfl)
  rw [lg_entry_eq]
  generalize (lg_sl ([.ref v0, .long v1]) ++ List.replicate (8 - (lg_sl ([.ref v0, .long v1])).length) Slot.unset).toArray = ls at hl ⊢
  exact w_X4_areCellsSafe C (fun _ h => h) ⟨Nat.zero_le _, Nat.zero_le _⟩ ⟨rfl, rfl, Nat.le_of_ble_eq_true rfl, Nat.le_of_ble_eq_true rfl⟩ S v0 v1 r h (fun v H locs ls pc w hz hv hd => by subst hv; exact o_zret C w B.returns B.notSynchronized hz hd) _ _ _ w hl

def f_X4_isGranted_b21 (S : PH) (v0 : Nat) (v1 : Int32) (v2 : Int32) : Option ((Int32 × PH) ⊕ (PH)) :=
some (.inl ((v2 + 1), S))
def f_X4_isGranted_L2 (S : PH) (v0 : Nat) (v1 : Int32) (v2 : Int32) : Option ((Int32 × PH) ⊕ (PH)) :=
if (8 : Int32) ≤ v2 then (
some (.inr S))
else (
(f_X7_holdsBit v1 v2).bind fun x1 =>
if x1 = 0 then (
f_X4_isGranted_b21 S v0 v1 v2)
else (
(ckO S v0 4).bind fun _ =>
(f_X4_sortBy S v0 v2).bind fun S2 =>
f_X4_isGranted_b21 S2 v0 v1 v2))
def f_X4_isGranted (S : PH) (v0 : Nat) (v1 : Int32) : Option (Int32 × PH) :=
(lpo (fun x : Int32 × PH => f_X4_isGranted_L2 x.2 v0 v1 x.1) FU ((0 : Int32), S)).bind fun S3 =>
(f_X4_answerBitsOf v1).bind fun x4 =>
(ckO S3 v0 4).bind fun _ =>
(f_X4_areCellsSafe S3 v0 x4).bind fun x5 =>
(ckZ x5).bind fun _ =>
some (x5, S3)
set_option maxHeartbeats 4000000 in
set_option maxRecDepth 100000 in
theorem w_X4_isGranted {p : Program} {l : Launch} {e : Env} {R : Room} {s : State} {m : MethodId} {args : Array Value} {below : List Frame} {meth : Method} {c : Code} {cells slots : Nat} {Q : State → Prop} {D : va_G} {G : Nat → ClassId} {L : List Nat} {A : Nat → Prop} {H0 : Heap} (C : CX p s m c args D G cX4_isGranted 3 RX4) (hLA : ∀ q ∈ L, A q) (hcs : cells ≤ R.cells ∧ slots ≤ R.slots) (hR_X7_holdsBit : RoomOk R ({ frames := 0, cells := 0, slots := 0, locals := 0 }) 2) (hR_X4_sortBy : RoomOk R ({ frames := 1, cells := 0, slots := 0, locals := 23 }) 4) (hR_X4_answerBitsOf : RoomOk R ({ frames := 1, cells := 0, slots := 0, locals := 21 }) 4) (hR_X4_areCellsSafe : RoomOk R ({ frames := 3, cells := 0, slots := 0, locals := 71 }) 8) (S : PH) (v0 : Nat) (v1 : Int32) (r : Int32 × PH) (h : f_X4_isGranted S v0 v1 = some r) (hret : ∀ (v : Int32) (S9 : PH) (H : Heap) (locs : List Loc) (ls : Array Slot) (pc : Nat), Wd D G L A H0 S9 H locs → narrow .boolean (.int v) = .int v → (v, S9) = r → decode cX4_isGranted pc = .ok (.ireturn, 1) → W p l e R s m args below meth c H locs cells slots Q (F0 m pc ls [.int v])) : ∀ (H : Heap) (locs : List Loc) (ls : Array Slot), Wd D G L A H0 S H locs → lv_has ls 3 [(0, .ref v0), (1, .int v1)] → W p l e R s m args below meth c H locs cells slots Q (F0 m 0 ls []) := by
  have hx := C.1.1
  have hb := C.1.2.1
  unfold f_X4_isGranted at h
  intro H locs ls w hl
  refine lv_iconst (v := 0) hx hb dX4_isGranted_0 (by decide) ?_
  refine lv_istore_n (lv' := [(2, .int (0 : Int32)), (0, .ref v0), (1, .int v1)]) hx hb dX4_isGranted_1 rfl hl (by decide) rfl (fun ls hl => ?_)
  obtain ⟨S3, hL2, h⟩ := bs h
  have hE2 : ∀ (q6 : PH), S3 = q6 → ∀ (H : Heap) (locs : List Loc) (ls : Array Slot), Wd D G L A H0 q6 H locs → lv_has ls 3 [(0, .ref v0), (1, .int v1)] → W p l e R s m args below meth c H locs cells slots Q (F0 m 27 ls []) := by
    intro q6 he
    cases he
    intro H locs ls w hl
    refine lv_aload_n hx hb dX4_isGranted_27 rfl (lv_at hl 0 rfl) ?_
    refine lv_iload_n hx hb dX4_isGranted_28 rfl (lv_at hl 1 rfl) ?_
    obtain ⟨x4, hc, h⟩ := bs h
    refine o_backl w hLA (o_runS (As := [.int v1]) (rest := [.ref v0]) C w (c_X4_answerBitsOf l D G L S3 v1 x4 hc) ml_X4_55 st_X4_answerBitsOf hR_X4_answerBitsOf rfl hl.1 rfl (Nat.le_of_ble_eq_true rfl) dX4_isGranted_29 hcs) (fun H locs w => ?_)
    obtain ⟨_, ho, h⟩ := bs h
    obtain ⟨x5, hc, h⟩ := bs h
    refine o_backi w hLA (o_runV (As := [.long x4]) (rest := []) C w (c_X4_areCellsSafe l D G L S3 v0 x4 x5 hc) ml_X4_59 mv_X4_areCellsSafe hR_X4_areCellsSafe ho rfl hl.1 rfl (Nat.le_of_ble_eq_true rfl) dX4_isGranted_32 hcs) (fun H locs w => ?_)
    obtain ⟨_, hz, h⟩ := bs h
    exact hret _ _ _ _ _ _ w (ckZ_some hz) (Option.some.inj h) dX4_isGranted_35
  refine lpo_W (P := fun x : Int32 × PH => ∀ (H : Heap) (locs : List Loc) (ls : Array Slot), Wd D G L A H0 x.2 H locs → lv_has ls 3 [(0, .ref v0), (1, .int v1), (2, .int x.1)] → W p l e R s m args below meth c H locs cells slots Q (F0 m 2 ls [])) ?_ FU _ hL2 H locs ls w (lv_sub hl [1, 2, 0] rfl)
  intro x y2 h hnext2 hend2
  obtain ⟨t7, S8⟩ := x
  have h : f_X4_isGranted_L2 S8 v0 v1 t7 = some y2 := h
  unfold f_X4_isGranted_L2 at h
  have hb21 : ∀ (S9 : PH) (u10 : Int32), f_X4_isGranted_b21 S9 v0 v1 u10 = some y2 → ∀ (H : Heap) (locs : List Loc) (ls : Array Slot), Wd D G L A H0 S9 H locs → lv_has ls 3 [(0, .ref v0), (1, .int v1), (2, .int u10)] → W p l e R s m args below meth c H locs cells slots Q (F0 m 21 ls []) := by
    intro S9 u10 h H locs ls w hl
    unfold f_X4_isGranted_b21 at h
    refine lv_iinc (v := (u10 + 1)) (lv' := [(2, .int (u10 + 1)), (0, .ref v0), (1, .int v1)]) hx hb dX4_isGranted_21 hl (k := 2) rfl rfl (by decide) rfl (fun ls hl => ?_)
    refine lv_goto (tgt := 2) hx hb dX4_isGranted_24 (by decide) ?_
    exact hnext2 _ (Option.some.inj h).symm H locs ls w (lv_sub hl [1, 2, 0] rfl)
  intro H locs ls w hl
  have hl : lv_has ls 3 [(0, .ref v0), (1, .int v1), (2, .int t7)] := hl
  have w : Wd D G L A H0 S8 H locs := w
  refine lv_iload_n hx hb dX4_isGranted_2 rfl (lv_at hl 2 rfl) ?_
  refine lv_bipush (v := 8) hx hb dX4_isGranted_3 (by decide) ?_
  refine lv_icmp_ge (tgt := 27) hx hb dX4_isGranted_5 (by decide) (fun cc5 => ?_) (fun cc5 => ?_)
  · have h := it cc5 h
    exact hE2 _ (hend2 _ (Option.some.inj h).symm).symm H locs ls w (lv_sub hl [0, 1] rfl)
  · have h := ie cc5 h
    refine lv_iload_n hx hb dX4_isGranted_8 rfl (lv_at hl 1 rfl) ?_
    refine lv_iload_n hx hb dX4_isGranted_9 rfl (lv_at hl 2 rfl) ?_
    obtain ⟨x11, hc, h⟩ := bs h
    refine o_backi w hLA (o_runS (As := [.int v1, .int t7]) (rest := []) C w (c_X7_holdsBit l D G L S8 v1 t7 x11 hc) ml_X4_47 st_X7_holdsBit hR_X7_holdsBit rfl hl.1 rfl (Nat.le_of_ble_eq_true rfl) dX4_isGranted_10 hcs) (fun H locs w => ?_)
    refine lv_if_eq (tgt := 21) hx hb dX4_isGranted_13 (by decide) (fun cc13 => ?_) (fun cc13 => ?_)
    · have h := it cc13 h
      exact hb21 _ _ h H locs ls w (lv_sub hl [0, 1, 2] rfl)
    · have h := ie cc13 h
      refine lv_aload_n hx hb dX4_isGranted_16 rfl (lv_at hl 0 rfl) ?_
      refine lv_iload_n hx hb dX4_isGranted_17 rfl (lv_at hl 2 rfl) ?_
      obtain ⟨_, ho, h⟩ := bs h
      obtain ⟨S12, hc, h⟩ := bs h
      refine o_backv w hLA (o_runV (As := [.int t7]) (rest := []) C w (c_X4_sortBy l D G L S8 v0 t7 S12 hc) ml_X4_51 mv_X4_sortBy hR_X4_sortBy ho rfl hl.1 rfl (Nat.le_of_ble_eq_true rfl) dX4_isGranted_18 hcs) (fun H locs w => ?_)
      exact hb21 _ _ h H locs ls w (lv_sub hl [0, 1, 2] rfl)
set_option maxHeartbeats 4000000 in
set_option maxRecDepth 100000 in
theorem c_X4_isGranted (l : Launch) (D : va_G) (G : Nat → ClassId) (L : List Nat) (S : PH) (v0 : Nat) (v1 : Int32) (r : Int32 × PH) (h : f_X4_isGranted S v0 v1 = some r) : Met l yX4_isGranted [Cond.code yX4_isGranted cX4_isGranted 3 (some .boolean)] ({ frames := 4, cells := 0, slots := 0, locals := 98 }) (va_Pc [.ref v0, .int v1] (PreU D G L S)) (Qi D G L r.1 r.2) 0 0 (inL L) := by
  refine Met.ofW (cc := cX4_isGranted) (maxL := 3) (ret := (some .boolean)) (by decide) rfl ?_
  intro p e s m args below meth c s₁ B hml hv
  obtain ⟨rfl, hpre⟩ := hv
  obtain ⟨C, w⟩ := o_ent (own := RX4) rfl B hml hpre
  have hl := lv_entry ([.ref v0, .int v1]) (n := 3) (Nat.le_of_ble_eq_true rfl)
  rw [lg_entry_eq]
  generalize (lg_sl ([.ref v0, .int v1]) ++ List.replicate (3 - (lg_sl ([.ref v0, .int v1])).length) Slot.unset).toArray = ls at hl ⊢
  exact w_X4_isGranted C (fun _ h => h) ⟨Nat.zero_le _, Nat.zero_le _⟩ ⟨rfl, rfl, Nat.le_of_ble_eq_true rfl, Nat.le_of_ble_eq_true rfl⟩ ⟨rfl, rfl, Nat.le_of_ble_eq_true rfl, Nat.le_of_ble_eq_true rfl⟩ ⟨rfl, rfl, Nat.le_of_ble_eq_true rfl, Nat.le_of_ble_eq_true rfl⟩ ⟨rfl, rfl, Nat.le_of_ble_eq_true rfl, Nat.le_of_ble_eq_true rfl⟩ S v0 v1 r h (fun v S9 H locs ls pc w hz hv hd => by subst hv; exact o_zret C w B.returns B.notSynchronized hz hd) _ _ _ w hl

def f_X5_addNumber (S : PH) (v0 : Nat) (v1 : Int32) (v2 : Int32) (v3 : Int32) (v4 : Int32) (v5 : Int32) : Option (PH) :=
(gR S v0 5 1).bind fun x1 =>
(gR S v0 5 0).bind fun x2 =>
(gI S x2 2 9).bind fun x3 =>
(ckO S x1 1).bind fun _ =>
(f_X1_widen S x1 x3 ((v4 - v3) + (1 : Int32))).bind fun S4 =>
(gR S4 v0 5 0).bind fun x5 =>
(ckO S4 x5 2).bind fun _ =>
(f_X2_add S4 x5 v1 v2 v3 v4 v5).bind fun S6 =>
some S6
set_option maxHeartbeats 4000000 in
set_option maxRecDepth 100000 in
theorem w_X5_addNumber {p : Program} {l : Launch} {e : Env} {R : Room} {s : State} {m : MethodId} {args : Array Value} {below : List Frame} {meth : Method} {c : Code} {cells slots : Nat} {Q : State → Prop} {D : va_G} {G : Nat → ClassId} {L : List Nat} {A : Nat → Prop} {H0 : Heap} (C : CX p s m c args D G cX5_addNumber 6 RX5) (hLA : ∀ q ∈ L, A q) (hcs : cells ≤ R.cells ∧ slots ≤ R.slots) (hR_X1_widen : RoomOk R ({ frames := 2, cells := 0, slots := 0, locals := 46 }) 4) (hR_X2_add : RoomOk R ({ frames := 1, cells := 0, slots := 0, locals := 21 }) 6) (S : PH) (v0 : Nat) (v1 : Int32) (v2 : Int32) (v3 : Int32) (v4 : Int32) (v5 : Int32) (r : PH) (h : f_X5_addNumber S v0 v1 v2 v3 v4 v5 = some r) (hret : ∀ (S9 : PH) (H : Heap) (locs : List Loc) (ls : Array Slot) (pc : Nat), Wd D G L A H0 S9 H locs → S9 = r → decode cX5_addNumber pc = .ok (.return_, 1) → W p l e R s m args below meth c H locs cells slots Q (F0 m pc ls [])) : ∀ (H : Heap) (locs : List Loc) (ls : Array Slot), Wd D G L A H0 S H locs → lv_has ls 6 [(0, .ref v0), (1, .int v1), (2, .int v2), (3, .int v3), (4, .int v4), (5, .int v5)] → W p l e R s m args below meth c H locs cells slots Q (F0 m 0 ls []) := by
  have hx := C.1.1
  have hb := C.1.2.1
  unfold f_X5_addNumber at h
  intro H locs ls w hl
  refine lv_aload_n hx hb dX5_addNumber_0 rfl (lv_at hl 0 rfl) ?_
  obtain ⟨x1, hx1, h⟩ := bs h
  refine o_gR C w hx1 fl_X5_19 dX5_addNumber_1 ?_
  refine lv_aload_n hx hb dX5_addNumber_4 rfl (lv_at hl 0 rfl) ?_
  obtain ⟨x2, hx2, h⟩ := bs h
  refine o_gR C w hx2 fl_X5_10 dX5_addNumber_5 ?_
  obtain ⟨x3, hx3, h⟩ := bs h
  refine o_gI C w hx3 fl_X5_37 dX5_addNumber_8 ?_
  refine lv_iload hx hb dX5_addNumber_11 (lv_at hl 4 rfl) ?_
  refine lv_iload_n hx hb dX5_addNumber_13 rfl (lv_at hl 3 rfl) ?_
  refine lv_isub hx hb dX5_addNumber_14 ?_
  refine lv_iconst (v := 1) hx hb dX5_addNumber_15 (by decide) ?_
  refine lv_iadd hx hb dX5_addNumber_16 ?_
  obtain ⟨_, ho, h⟩ := bs h
  obtain ⟨S4, hc, h⟩ := bs h
  refine o_backv w hLA (o_runV (As := [.int x3, .int ((v4 - v3) + (1 : Int32))]) (rest := []) C w (c_X1_widen l D G L S x1 x3 ((v4 - v3) + (1 : Int32)) S4 hc) ml_X5_41 mv_X1_widen hR_X1_widen ho rfl hl.1 rfl (Nat.le_of_ble_eq_true rfl) dX5_addNumber_17 hcs) (fun H locs w => ?_)
  refine lv_aload_n hx hb dX5_addNumber_20 rfl (lv_at hl 0 rfl) ?_
  obtain ⟨x5, hx5, h⟩ := bs h
  refine o_gR C w hx5 fl_X5_10 dX5_addNumber_21 ?_
  refine lv_iload_n hx hb dX5_addNumber_24 rfl (lv_at hl 1 rfl) ?_
  refine lv_iload_n hx hb dX5_addNumber_25 rfl (lv_at hl 2 rfl) ?_
  refine lv_iload_n hx hb dX5_addNumber_26 rfl (lv_at hl 3 rfl) ?_
  refine lv_iload hx hb dX5_addNumber_27 (lv_at hl 4 rfl) ?_
  refine lv_iload hx hb dX5_addNumber_29 (lv_at hl 5 rfl) ?_
  obtain ⟨_, ho, h⟩ := bs h
  obtain ⟨S6, hc, h⟩ := bs h
  refine o_backv w hLA (o_runV (As := [.int v1, .int v2, .int v3, .int v4, .int v5]) (rest := []) C w (c_X2_add l D G L S4 x5 v1 v2 v3 v4 v5 S6 hc) ml_X5_45 mv_X2_add hR_X2_add ho rfl hl.1 rfl (Nat.le_of_ble_eq_true rfl) dX5_addNumber_31 hcs) (fun H locs w => ?_)
  exact hret _ _ _ _ _ w (Option.some.inj h) dX5_addNumber_34
set_option maxHeartbeats 4000000 in
set_option maxRecDepth 100000 in
theorem c_X5_addNumber (l : Launch) (D : va_G) (G : Nat → ClassId) (L : List Nat) (S : PH) (v0 : Nat) (v1 : Int32) (v2 : Int32) (v3 : Int32) (v4 : Int32) (v5 : Int32) (r : PH) (h : f_X5_addNumber S v0 v1 v2 v3 v4 v5 = some r) : Met l yX5_addNumber [Cond.code yX5_addNumber cX5_addNumber 6 none] ({ frames := 3, cells := 0, slots := 0, locals := 69 }) (va_Pc [.ref v0, .int v1, .int v2, .int v3, .int v4, .int v5] (PreU D G L S)) (Qv D G L r) 0 0 (inL L) := by
  refine Met.ofW (cc := cX5_addNumber) (maxL := 6) (ret := none) (by decide) rfl ?_
  intro p e s m args below meth c s₁ B hml hv
  obtain ⟨rfl, hpre⟩ := hv
  obtain ⟨C, w⟩ := o_ent (own := RX5) rfl B hml hpre
  have hl := lv_entry ([.ref v0, .int v1, .int v2, .int v3, .int v4, .int v5]) (n := 6) (Nat.le_of_ble_eq_true rfl)
  rw [lg_entry_eq]
  generalize (lg_sl ([.ref v0, .int v1, .int v2, .int v3, .int v4, .int v5]) ++ List.replicate (6 - (lg_sl ([.ref v0, .int v1, .int v2, .int v3, .int v4, .int v5])).length) Slot.unset).toArray = ls at hl ⊢
  exact w_X5_addNumber C (fun _ h => h) ⟨Nat.zero_le _, Nat.zero_le _⟩ ⟨rfl, rfl, Nat.le_of_ble_eq_true rfl, Nat.le_of_ble_eq_true rfl⟩ ⟨rfl, rfl, Nat.le_of_ble_eq_true rfl, Nat.le_of_ble_eq_true rfl⟩ S v0 v1 v2 v3 v4 v5 r h (fun S9 H locs ls pc w hv hd => by subst hv; exact o_vret C w B.returns B.notSynchronized hd) _ _ _ w hl

def f_X6_copyFrom (S : PH) (v0 : Nat) (v1 : Nat) : Option (PH) :=
(gR S v1 6 0).bind fun x1 =>
(gR S v0 6 0).bind fun x2 =>
(cpI S x1 (0 : Int32) x2 (0 : Int32) (8 : Int32)).bind fun S3 =>
(gR S3 v1 6 1).bind fun x4 =>
(gR S3 v0 6 1).bind fun x5 =>
(cpI S3 x4 (0 : Int32) x5 (0 : Int32) (8 : Int32)).bind fun S6 =>
(gR S6 v1 6 2).bind fun x7 =>
(gR S6 v0 6 2).bind fun x8 =>
(cpI S6 x7 (0 : Int32) x8 (0 : Int32) (8 : Int32)).bind fun S9 =>
(gI S9 v1 6 3).bind fun x10 =>
(pI S9 v0 6 3 x10).bind fun S11 =>
some S11
set_option maxHeartbeats 4000000 in
set_option maxRecDepth 100000 in
theorem w_X6_copyFrom {p : Program} {l : Launch} {e : Env} {R : Room} {s : State} {m : MethodId} {args : Array Value} {below : List Frame} {meth : Method} {c : Code} {cells slots : Nat} {Q : State → Prop} {D : va_G} {G : Nat → ClassId} {L : List Nat} {A : Nat → Prop} {H0 : Heap} (C : CX p s m c args D G cX6_copyFrom 2 RX6) (hLA : ∀ q ∈ L, A q) (hcs : cells ≤ R.cells ∧ slots ≤ R.slots) (hRm : 1 ≤ R.frames ∧ 40 ≤ R.locals)  (S : PH) (v0 : Nat) (v1 : Nat) (r : PH) (h : f_X6_copyFrom S v0 v1 = some r) (hret : ∀ (S9 : PH) (H : Heap) (locs : List Loc) (ls : Array Slot) (pc : Nat), Wd D G L A H0 S9 H locs → S9 = r → decode cX6_copyFrom pc = .ok (.return_, 1) → W p l e R s m args below meth c H locs cells slots Q (F0 m pc ls [])) : ∀ (H : Heap) (locs : List Loc) (ls : Array Slot), Wd D G L A H0 S H locs → lv_has ls 2 [(0, .ref v0), (1, .ref v1)] → W p l e R s m args below meth c H locs cells slots Q (F0 m 0 ls []) := by
  have hx := C.1.1
  have hb := C.1.2.1
  unfold f_X6_copyFrom at h
  intro H locs ls w hl
  refine lv_aload_n hx hb dX6_copyFrom_0 rfl (lv_at hl 1 rfl) ?_
  obtain ⟨x1, hx1, h⟩ := bs h
  refine o_gR C w hx1 fl_X6_9 dX6_copyFrom_1 ?_
  refine lv_iconst (v := 0) hx hb dX6_copyFrom_4 (by decide) ?_
  refine lv_aload_n hx hb dX6_copyFrom_5 rfl (lv_at hl 0 rfl) ?_
  obtain ⟨x2, hx2, h⟩ := bs h
  refine o_gR C w hx2 fl_X6_9 dX6_copyFrom_6 ?_
  refine lv_iconst (v := 0) hx hb dX6_copyFrom_9 (by decide) ?_
  refine lv_bipush (v := 8) hx hb dX6_copyFrom_10 (by decide) ?_
  obtain ⟨S3, hS3, h⟩ := bs h
  refine o_cpI C w hl.1 hS3 kac_X6_25 kac_n kac_s kac_i hRm.1 (Nat.le_trans (Nat.le_of_ble_eq_true rfl) hRm.2) dX6_copyFrom_12 (fun H locs w => ?_)
  refine lv_aload_n hx hb dX6_copyFrom_15 rfl (lv_at hl 1 rfl) ?_
  obtain ⟨x4, hx4, h⟩ := bs h
  refine o_gR C w hx4 fl_X6_15 dX6_copyFrom_16 ?_
  refine lv_iconst (v := 0) hx hb dX6_copyFrom_19 (by decide) ?_
  refine lv_aload_n hx hb dX6_copyFrom_20 rfl (lv_at hl 0 rfl) ?_
  obtain ⟨x5, hx5, h⟩ := bs h
  refine o_gR C w hx5 fl_X6_15 dX6_copyFrom_21 ?_
  refine lv_iconst (v := 0) hx hb dX6_copyFrom_24 (by decide) ?_
  refine lv_bipush (v := 8) hx hb dX6_copyFrom_25 (by decide) ?_
  obtain ⟨S6, hS6, h⟩ := bs h
  refine o_cpI C w hl.1 hS6 kac_X6_25 kac_n kac_s kac_i hRm.1 (Nat.le_trans (Nat.le_of_ble_eq_true rfl) hRm.2) dX6_copyFrom_27 (fun H locs w => ?_)
  refine lv_aload_n hx hb dX6_copyFrom_30 rfl (lv_at hl 1 rfl) ?_
  obtain ⟨x7, hx7, h⟩ := bs h
  refine o_gR C w hx7 fl_X6_18 dX6_copyFrom_31 ?_
  refine lv_iconst (v := 0) hx hb dX6_copyFrom_34 (by decide) ?_
  refine lv_aload_n hx hb dX6_copyFrom_35 rfl (lv_at hl 0 rfl) ?_
  obtain ⟨x8, hx8, h⟩ := bs h
  refine o_gR C w hx8 fl_X6_18 dX6_copyFrom_36 ?_
  refine lv_iconst (v := 0) hx hb dX6_copyFrom_39 (by decide) ?_
  refine lv_bipush (v := 8) hx hb dX6_copyFrom_40 (by decide) ?_
  obtain ⟨S9, hS9, h⟩ := bs h
  refine o_cpI C w hl.1 hS9 kac_X6_25 kac_n kac_s kac_i hRm.1 (Nat.le_trans (Nat.le_of_ble_eq_true rfl) hRm.2) dX6_copyFrom_42 (fun H locs w => ?_)
  refine lv_aload_n hx hb dX6_copyFrom_45 rfl (lv_at hl 0 rfl) ?_
  refine lv_aload_n hx hb dX6_copyFrom_46 rfl (lv_at hl 1 rfl) ?_
  obtain ⟨x10, hx10, h⟩ := bs h
  refine o_gI C w hx10 fl_X6_21 dX6_copyFrom_47 ?_
  obtain ⟨S11, hS11, h⟩ := bs h
  refine o_pF C w hS11 fp_X6_21 rfl rfl dX6_copyFrom_50 (fun H locs w => ?_)
  exact hret _ _ _ _ _ w (Option.some.inj h) dX6_copyFrom_53
set_option maxHeartbeats 4000000 in
set_option maxRecDepth 100000 in
theorem c_X6_copyFrom (l : Launch) (D : va_G) (G : Nat → ClassId) (L : List Nat) (S : PH) (v0 : Nat) (v1 : Nat) (r : PH) (h : f_X6_copyFrom S v0 v1 = some r) : Met l yX6_copyFrom [Cond.code yX6_copyFrom cX6_copyFrom 2 none] ({ frames := 1, cells := 0, slots := 0, locals := 40 }) (va_Pc [.ref v0, .ref v1] (PreU D G L S)) (Qv D G L r) 0 0 (inL L) := by
  refine Met.ofW (cc := cX6_copyFrom) (maxL := 2) (ret := none) (by decide) rfl ?_
  intro p e s m args below meth c s₁ B hml hv
  obtain ⟨rfl, hpre⟩ := hv
  obtain ⟨C, w⟩ := o_ent (own := RX6) rfl B hml hpre
  have hl := lv_entry ([.ref v0, .ref v1]) (n := 2) (Nat.le_of_ble_eq_true rfl)
  rw [lg_entry_eq]
  generalize (lg_sl ([.ref v0, .ref v1]) ++ List.replicate (2 - (lg_sl ([.ref v0, .ref v1])).length) Slot.unset).toArray = ls at hl ⊢
  exact w_X6_copyFrom C (fun _ h => h) ⟨Nat.zero_le _, Nat.zero_le _⟩ ⟨Nat.le_of_ble_eq_true rfl, Nat.le_of_ble_eq_true rfl⟩  S v0 v1 r h (fun S9 H locs ls pc w hv hd => by subst hv; exact o_vret C w B.returns B.notSynchronized hd) _ _ _ w hl

def f_X5_copyFrom (S : PH) (v0 : Nat) (v1 : Nat) : Option (PH) :=
(gR S v0 5 0).bind fun x1 =>
(gR S v1 5 0).bind fun x2 =>
(ckO S x1 2).bind fun _ =>
(f_X2_copyFrom S x1 x2).bind fun S3 =>
(gR S3 v0 5 1).bind fun x4 =>
(gR S3 v1 5 1).bind fun x5 =>
(ckO S3 x4 1).bind fun _ =>
(f_X1_copyFrom S3 x4 x5).bind fun S6 =>
(gR S6 v0 5 2).bind fun x7 =>
(gR S6 v1 5 2).bind fun x8 =>
(ckO S6 x7 0).bind fun _ =>
(f_X0_copyFrom S6 x7 x8).bind fun S9 =>
(gR S9 v0 5 3).bind fun x10 =>
(gR S9 v1 5 3).bind fun x11 =>
(ckO S9 x10 6).bind fun _ =>
(f_X6_copyFrom S9 x10 x11).bind fun S12 =>
some S12
set_option maxHeartbeats 4000000 in
set_option maxRecDepth 100000 in
theorem w_X5_copyFrom {p : Program} {l : Launch} {e : Env} {R : Room} {s : State} {m : MethodId} {args : Array Value} {below : List Frame} {meth : Method} {c : Code} {cells slots : Nat} {Q : State → Prop} {D : va_G} {G : Nat → ClassId} {L : List Nat} {A : Nat → Prop} {H0 : Heap} (C : CX p s m c args D G cX5_copyFrom 2 RX5) (hLA : ∀ q ∈ L, A q) (hcs : cells ≤ R.cells ∧ slots ≤ R.slots) (hR_X2_copyFrom : RoomOk R ({ frames := 1, cells := 0, slots := 0, locals := 40 }) 2) (hR_X1_copyFrom : RoomOk R ({ frames := 1, cells := 0, slots := 0, locals := 40 }) 3) (hR_X0_copyFrom : RoomOk R ({ frames := 1, cells := 0, slots := 0, locals := 40 }) 3) (hR_X6_copyFrom : RoomOk R ({ frames := 1, cells := 0, slots := 0, locals := 40 }) 2) (S : PH) (v0 : Nat) (v1 : Nat) (r : PH) (h : f_X5_copyFrom S v0 v1 = some r) (hret : ∀ (S9 : PH) (H : Heap) (locs : List Loc) (ls : Array Slot) (pc : Nat), Wd D G L A H0 S9 H locs → S9 = r → decode cX5_copyFrom pc = .ok (.return_, 1) → W p l e R s m args below meth c H locs cells slots Q (F0 m pc ls [])) : ∀ (H : Heap) (locs : List Loc) (ls : Array Slot), Wd D G L A H0 S H locs → lv_has ls 2 [(0, .ref v0), (1, .ref v1)] → W p l e R s m args below meth c H locs cells slots Q (F0 m 0 ls []) := by
  have hx := C.1.1
  have hb := C.1.2.1
  unfold f_X5_copyFrom at h
  intro H locs ls w hl
  refine lv_aload_n hx hb dX5_copyFrom_0 rfl (lv_at hl 0 rfl) ?_
  obtain ⟨x1, hx1, h⟩ := bs h
  refine o_gR C w hx1 fl_X5_10 dX5_copyFrom_1 ?_
  refine lv_aload_n hx hb dX5_copyFrom_4 rfl (lv_at hl 1 rfl) ?_
  obtain ⟨x2, hx2, h⟩ := bs h
  refine o_gR C w hx2 fl_X5_10 dX5_copyFrom_5 ?_
  obtain ⟨_, ho, h⟩ := bs h
  obtain ⟨S3, hc, h⟩ := bs h
  refine o_backv w hLA (o_runV (As := [.ref x2]) (rest := []) C w (c_X2_copyFrom l D G L S x1 x2 S3 hc) ml_X5_49 mv_X2_copyFrom hR_X2_copyFrom ho rfl hl.1 rfl (Nat.le_of_ble_eq_true rfl) dX5_copyFrom_8 hcs) (fun H locs w => ?_)
  refine lv_aload_n hx hb dX5_copyFrom_11 rfl (lv_at hl 0 rfl) ?_
  obtain ⟨x4, hx4, h⟩ := bs h
  refine o_gR C w hx4 fl_X5_19 dX5_copyFrom_12 ?_
  refine lv_aload_n hx hb dX5_copyFrom_15 rfl (lv_at hl 1 rfl) ?_
  obtain ⟨x5, hx5, h⟩ := bs h
  refine o_gR C w hx5 fl_X5_19 dX5_copyFrom_16 ?_
  obtain ⟨_, ho, h⟩ := bs h
  obtain ⟨S6, hc, h⟩ := bs h
  refine o_backv w hLA (o_runV (As := [.ref x5]) (rest := []) C w (c_X1_copyFrom l D G L S3 x4 x5 S6 hc) ml_X5_53 mv_X1_copyFrom hR_X1_copyFrom ho rfl hl.1 rfl (Nat.le_of_ble_eq_true rfl) dX5_copyFrom_19 hcs) (fun H locs w => ?_)
  refine lv_aload_n hx hb dX5_copyFrom_22 rfl (lv_at hl 0 rfl) ?_
  obtain ⟨x7, hx7, h⟩ := bs h
  refine o_gR C w hx7 fl_X5_26 dX5_copyFrom_23 ?_
  refine lv_aload_n hx hb dX5_copyFrom_26 rfl (lv_at hl 1 rfl) ?_
  obtain ⟨x8, hx8, h⟩ := bs h
  refine o_gR C w hx8 fl_X5_26 dX5_copyFrom_27 ?_
  obtain ⟨_, ho, h⟩ := bs h
  obtain ⟨S9, hc, h⟩ := bs h
  refine o_backv w hLA (o_runV (As := [.ref x8]) (rest := []) C w (c_X0_copyFrom l D G L S6 x7 x8 S9 hc) ml_X5_56 mv_X0_copyFrom hR_X0_copyFrom ho rfl hl.1 rfl (Nat.le_of_ble_eq_true rfl) dX5_copyFrom_30 hcs) (fun H locs w => ?_)
  refine lv_aload_n hx hb dX5_copyFrom_33 rfl (lv_at hl 0 rfl) ?_
  obtain ⟨x10, hx10, h⟩ := bs h
  refine o_gR C w hx10 fl_X5_33 dX5_copyFrom_34 ?_
  refine lv_aload_n hx hb dX5_copyFrom_37 rfl (lv_at hl 1 rfl) ?_
  obtain ⟨x11, hx11, h⟩ := bs h
  refine o_gR C w hx11 fl_X5_33 dX5_copyFrom_38 ?_
  obtain ⟨_, ho, h⟩ := bs h
  obtain ⟨S12, hc, h⟩ := bs h
  refine o_backv w hLA (o_runV (As := [.ref x11]) (rest := []) C w (c_X6_copyFrom l D G L S9 x10 x11 S12 hc) ml_X5_59 mv_X6_copyFrom hR_X6_copyFrom ho rfl hl.1 rfl (Nat.le_of_ble_eq_true rfl) dX5_copyFrom_41 hcs) (fun H locs w => ?_)
  exact hret _ _ _ _ _ w (Option.some.inj h) dX5_copyFrom_44
set_option maxHeartbeats 4000000 in
set_option maxRecDepth 100000 in
theorem c_X5_copyFrom (l : Launch) (D : va_G) (G : Nat → ClassId) (L : List Nat) (S : PH) (v0 : Nat) (v1 : Nat) (r : PH) (h : f_X5_copyFrom S v0 v1 = some r) : Met l yX5_copyFrom [Cond.code yX5_copyFrom cX5_copyFrom 2 none] ({ frames := 2, cells := 0, slots := 0, locals := 62 }) (va_Pc [.ref v0, .ref v1] (PreU D G L S)) (Qv D G L r) 0 0 (inL L) := by
  refine Met.ofW (cc := cX5_copyFrom) (maxL := 2) (ret := none) (by decide) rfl ?_
  intro p e s m args below meth c s₁ B hml hv
  obtain ⟨rfl, hpre⟩ := hv
  obtain ⟨C, w⟩ := o_ent (own := RX5) rfl B hml hpre
  have hl := lv_entry ([.ref v0, .ref v1]) (n := 2) (Nat.le_of_ble_eq_true rfl)
  rw [lg_entry_eq]
  generalize (lg_sl ([.ref v0, .ref v1]) ++ List.replicate (2 - (lg_sl ([.ref v0, .ref v1])).length) Slot.unset).toArray = ls at hl ⊢
  exact w_X5_copyFrom C (fun _ h => h) ⟨Nat.zero_le _, Nat.zero_le _⟩ ⟨rfl, rfl, Nat.le_of_ble_eq_true rfl, Nat.le_of_ble_eq_true rfl⟩ ⟨rfl, rfl, Nat.le_of_ble_eq_true rfl, Nat.le_of_ble_eq_true rfl⟩ ⟨rfl, rfl, Nat.le_of_ble_eq_true rfl, Nat.le_of_ble_eq_true rfl⟩ ⟨rfl, rfl, Nat.le_of_ble_eq_true rfl, Nat.le_of_ble_eq_true rfl⟩ S v0 v1 r h (fun S9 H locs ls pc w hv hd => by subst hv; exact o_vret C w B.returns B.notSynchronized hd) _ _ _ w hl

def f_X6_add (S : PH) (v0 : Nat) (v1 : Int32) (v2 : Int32) (v3 : Int32) : Option (Int32 × PH) :=
(gR S v0 6 0).bind fun x1 =>
(gI S v0 6 3).bind fun x2 =>
(stI S x1 x2 v1).bind fun S3 =>
(gR S3 v0 6 1).bind fun x4 =>
(gI S3 v0 6 3).bind fun x5 =>
(stI S3 x4 x5 v2).bind fun S6 =>
(gR S6 v0 6 2).bind fun x7 =>
(gI S6 v0 6 3).bind fun x8 =>
(stI S6 x7 x8 v3).bind fun S9 =>
(gI S9 v0 6 3).bind fun x10 =>
(pI S9 v0 6 3 (x10 + (1 : Int32))).bind fun S11 =>
(gI S11 v0 6 3).bind fun x12 =>
some ((x12 - (1 : Int32)), S11)
set_option maxHeartbeats 4000000 in
set_option maxRecDepth 100000 in
theorem w_X6_add {p : Program} {l : Launch} {e : Env} {R : Room} {s : State} {m : MethodId} {args : Array Value} {below : List Frame} {meth : Method} {c : Code} {cells slots : Nat} {Q : State → Prop} {D : va_G} {G : Nat → ClassId} {L : List Nat} {A : Nat → Prop} {H0 : Heap} (C : CX p s m c args D G cX6_add 4 RX6) (hLA : ∀ q ∈ L, A q) (hcs : cells ≤ R.cells ∧ slots ≤ R.slots)  (S : PH) (v0 : Nat) (v1 : Int32) (v2 : Int32) (v3 : Int32) (r : Int32 × PH) (h : f_X6_add S v0 v1 v2 v3 = some r) (hret : ∀ (v : Int32) (S9 : PH) (H : Heap) (locs : List Loc) (ls : Array Slot) (pc : Nat), Wd D G L A H0 S9 H locs → (v, S9) = r → decode cX6_add pc = .ok (.ireturn, 1) → W p l e R s m args below meth c H locs cells slots Q (F0 m pc ls [.int v])) : ∀ (H : Heap) (locs : List Loc) (ls : Array Slot), Wd D G L A H0 S H locs → lv_has ls 4 [(0, .ref v0), (1, .int v1), (2, .int v2), (3, .int v3)] → W p l e R s m args below meth c H locs cells slots Q (F0 m 0 ls []) := by
  have hx := C.1.1
  have hb := C.1.2.1
  unfold f_X6_add at h
  intro H locs ls w hl
  refine lv_aload_n hx hb dX6_add_0 rfl (lv_at hl 0 rfl) ?_
  obtain ⟨x1, hx1, h⟩ := bs h
  refine o_gR C w hx1 fl_X6_9 dX6_add_1 ?_
  refine lv_aload_n hx hb dX6_add_4 rfl (lv_at hl 0 rfl) ?_
  obtain ⟨x2, hx2, h⟩ := bs h
  refine o_gI C w hx2 fl_X6_21 dX6_add_5 ?_
  refine lv_iload_n hx hb dX6_add_8 rfl (lv_at hl 1 rfl) ?_
  obtain ⟨S3, hS3, h⟩ := bs h
  refine o_stI C w hS3 dX6_add_9 (fun H locs w => ?_)
  refine lv_aload_n hx hb dX6_add_10 rfl (lv_at hl 0 rfl) ?_
  obtain ⟨x4, hx4, h⟩ := bs h
  refine o_gR C w hx4 fl_X6_15 dX6_add_11 ?_
  refine lv_aload_n hx hb dX6_add_14 rfl (lv_at hl 0 rfl) ?_
  obtain ⟨x5, hx5, h⟩ := bs h
  refine o_gI C w hx5 fl_X6_21 dX6_add_15 ?_
  refine lv_iload_n hx hb dX6_add_18 rfl (lv_at hl 2 rfl) ?_
  obtain ⟨S6, hS6, h⟩ := bs h
  refine o_stI C w hS6 dX6_add_19 (fun H locs w => ?_)
  refine lv_aload_n hx hb dX6_add_20 rfl (lv_at hl 0 rfl) ?_
  obtain ⟨x7, hx7, h⟩ := bs h
  refine o_gR C w hx7 fl_X6_18 dX6_add_21 ?_
  refine lv_aload_n hx hb dX6_add_24 rfl (lv_at hl 0 rfl) ?_
  obtain ⟨x8, hx8, h⟩ := bs h
  refine o_gI C w hx8 fl_X6_21 dX6_add_25 ?_
  refine lv_iload_n hx hb dX6_add_28 rfl (lv_at hl 3 rfl) ?_
  obtain ⟨S9, hS9, h⟩ := bs h
  refine o_stI C w hS9 dX6_add_29 (fun H locs w => ?_)
  refine lv_aload_n hx hb dX6_add_30 rfl (lv_at hl 0 rfl) ?_
  refine lv_dup hx hb dX6_add_31 rfl ?_
  obtain ⟨x10, hx10, h⟩ := bs h
  refine o_gI C w hx10 fl_X6_21 dX6_add_32 ?_
  refine lv_iconst (v := 1) hx hb dX6_add_35 (by decide) ?_
  refine lv_iadd hx hb dX6_add_36 ?_
  obtain ⟨S11, hS11, h⟩ := bs h
  refine o_pF C w hS11 fp_X6_21 rfl rfl dX6_add_37 (fun H locs w => ?_)
  refine lv_aload_n hx hb dX6_add_40 rfl (lv_at hl 0 rfl) ?_
  obtain ⟨x12, hx12, h⟩ := bs h
  refine o_gI C w hx12 fl_X6_21 dX6_add_41 ?_
  refine lv_iconst (v := 1) hx hb dX6_add_44 (by decide) ?_
  refine lv_isub hx hb dX6_add_45 ?_
  exact hret _ _ _ _ _ _ w (Option.some.inj h) dX6_add_46
set_option maxHeartbeats 4000000 in
set_option maxRecDepth 100000 in
theorem c_X6_add (l : Launch) (D : va_G) (G : Nat → ClassId) (L : List Nat) (S : PH) (v0 : Nat) (v1 : Int32) (v2 : Int32) (v3 : Int32) (r : Int32 × PH) (h : f_X6_add S v0 v1 v2 v3 = some r) : Met l yX6_add [Cond.code yX6_add cX6_add 4 (some .int)] ({ frames := 0, cells := 0, slots := 0, locals := 0 }) (va_Pc [.ref v0, .int v1, .int v2, .int v3] (PreU D G L S)) (Qi D G L r.1 r.2) 0 0 (inL L) := by
  refine Met.ofW (cc := cX6_add) (maxL := 4) (ret := (some .int)) (by decide) rfl ?_
  intro p e s m args below meth c s₁ B hml hv
  obtain ⟨rfl, hpre⟩ := hv
  obtain ⟨C, w⟩ := o_ent (own := RX6) rfl B hml hpre
  have hl := lv_entry ([.ref v0, .int v1, .int v2, .int v3]) (n := 4) (Nat.le_of_ble_eq_true rfl)
  rw [lg_entry_eq]
  generalize (lg_sl ([.ref v0, .int v1, .int v2, .int v3]) ++ List.replicate (4 - (lg_sl ([.ref v0, .int v1, .int v2, .int v3])).length) Slot.unset).toArray = ls at hl ⊢
  exact w_X6_add C (fun _ h => h) ⟨Nat.zero_le _, Nat.zero_le _⟩  S v0 v1 v2 v3 r h (fun v S9 H locs ls pc w hv hd => by subst hv; exact o_iret C w B.returns B.notSynchronized hd) _ _ _ w hl

def f_X7_person (S : PH) (v0 : Nat) (v1 : Int32) (v2 : Int32) (v3 : Int32) (v4 : Int32) : Option (Int32 × PH) :=
(gR S v0 7 0).bind fun x1 =>
(gR S x1 5 0).bind fun x2 =>
(gI S x2 2 7).bind fun x3 =>
if (8 : Int32) ≤ x3 then (
some ((-1 : Int32), S))
else (
if v2 < 0 then (
some ((-1 : Int32), S))
else (
if v3 < v2 then (
some ((-1 : Int32), S))
else (
if v3 ≤ (20 : Int32) then (
if v4 < (1 : Int32) then (
some ((-1 : Int32), S))
else (
if ((v3 - v2) + (1 : Int32)) < v4 then (
some ((-1 : Int32), S))
else (
(ckO S x2 2).bind fun _ =>
(f_X2_hasRoomFor S x2 v1 v2 v3).bind fun x4 =>
if x4 = 0 then (
some ((-1 : Int32), S))
else (
(gI S x2 2 7).bind fun x5 =>
(gI S x2 2 7).bind fun x6 =>
(pI S x2 2 7 (x6 + (1 : Int32))).bind fun S7 =>
(gR S7 v0 7 0).bind fun x8 =>
(ckO S7 x8 5).bind fun _ =>
(f_X5_addNumber S7 x8 x5 v1 v2 v3 v4).bind fun S9 =>
some (x5, S9)))))
else (
some ((-1 : Int32), S)))))
set_option maxHeartbeats 4000000 in
set_option maxRecDepth 100000 in
theorem w_X7_person {p : Program} {l : Launch} {e : Env} {R : Room} {s : State} {m : MethodId} {args : Array Value} {below : List Frame} {meth : Method} {c : Code} {cells slots : Nat} {Q : State → Prop} {D : va_G} {G : Nat → ClassId} {L : List Nat} {A : Nat → Prop} {H0 : Heap} (C : CX p s m c args D G cX7_person 7 RX7) (hLA : ∀ q ∈ L, A q) (hcs : cells ≤ R.cells ∧ slots ≤ R.slots) (hR_X2_hasRoomFor : RoomOk R ({ frames := 0, cells := 0, slots := 0, locals := 0 }) 4) (hR_X5_addNumber : RoomOk R ({ frames := 3, cells := 0, slots := 0, locals := 69 }) 6) (S : PH) (v0 : Nat) (v1 : Int32) (v2 : Int32) (v3 : Int32) (v4 : Int32) (r : Int32 × PH) (h : f_X7_person S v0 v1 v2 v3 v4 = some r) (hret : ∀ (v : Int32) (S9 : PH) (H : Heap) (locs : List Loc) (ls : Array Slot) (pc : Nat), Wd D G L A H0 S9 H locs → (v, S9) = r → decode cX7_person pc = .ok (.ireturn, 1) → W p l e R s m args below meth c H locs cells slots Q (F0 m pc ls [.int v])) : ∀ (H : Heap) (locs : List Loc) (ls : Array Slot), Wd D G L A H0 S H locs → lv_has ls 7 [(0, .ref v0), (1, .int v1), (2, .int v2), (3, .int v3), (4, .int v4)] → W p l e R s m args below meth c H locs cells slots Q (F0 m 0 ls []) := by
  have hx := C.1.1
  have hb := C.1.2.1
  unfold f_X7_person at h
  intro H locs ls w hl
  refine lv_aload_n hx hb dX7_person_0 rfl (lv_at hl 0 rfl) ?_
  obtain ⟨x1, hx1, h⟩ := bs h
  refine o_gR C w hx1 fl_X7_12 dX7_person_1 ?_
  obtain ⟨x2, hx2, h⟩ := bs h
  refine o_gR C w hx2 fl_X7_38 dX7_person_4 ?_
  refine lv_astore (lv' := [(5, .ref x2), (0, .ref v0), (1, .int v1), (2, .int v2), (3, .int v3), (4, .int v4)]) hx hb dX7_person_7 hl (by decide) rfl (fun ls hl => ?_)
  refine lv_aload hx hb dX7_person_9 (lv_at hl 0 rfl) ?_
  obtain ⟨x3, hx3, h⟩ := bs h
  refine o_gI C w hx3 fl_X7_42 dX7_person_11 ?_
  refine lv_bipush (v := 8) hx hb dX7_person_14 (by decide) ?_
  refine lv_icmp_ge (tgt := 34) hx hb dX7_person_16 (by decide) (fun cc16 => ?_) (fun cc16 => ?_)
  · have h := it cc16 h
    refine lv_iconst (v := -1) hx hb dX7_person_34 (by decide) ?_
    exact hret _ _ _ _ _ _ w (Option.some.inj h) dX7_person_35
  · have h := ie cc16 h
    refine lv_iload_n hx hb dX7_person_19 rfl (lv_at hl 3 rfl) ?_
    refine lv_if_lt (tgt := 34) hx hb dX7_person_20 (by decide) (fun cc20 => ?_) (fun cc20 => ?_)
    · have h := it cc20 h
      refine lv_iconst (v := -1) hx hb dX7_person_34 (by decide) ?_
      exact hret _ _ _ _ _ _ w (Option.some.inj h) dX7_person_35
    · have h := ie cc20 h
      refine lv_iload_n hx hb dX7_person_23 rfl (lv_at hl 3 rfl) ?_
      refine lv_iload_n hx hb dX7_person_24 rfl (lv_at hl 4 rfl) ?_
      refine lv_icmp_gt (tgt := 34) hx hb dX7_person_25 (by decide) (fun cc25 => ?_) (fun cc25 => ?_)
      · have h := it cc25 h
        refine lv_iconst (v := -1) hx hb dX7_person_34 (by decide) ?_
        exact hret _ _ _ _ _ _ w (Option.some.inj h) dX7_person_35
      · have h := ie cc25 h
        refine lv_iload_n hx hb dX7_person_28 rfl (lv_at hl 4 rfl) ?_
        refine lv_bipush (v := 20) hx hb dX7_person_29 (by decide) ?_
        refine lv_icmp_le (tgt := 36) hx hb dX7_person_31 (by decide) (fun cc31 => ?_) (fun cc31 => ?_)
        · have h := it cc31 h
          refine lv_iload hx hb dX7_person_36 (lv_at hl 5 rfl) ?_
          refine lv_iconst (v := 1) hx hb dX7_person_38 (by decide) ?_
          refine lv_icmp_lt (tgt := 63) hx hb dX7_person_39 (by decide) (fun cc39 => ?_) (fun cc39 => ?_)
          · have h := it cc39 h
            refine lv_iconst (v := -1) hx hb dX7_person_63 (by decide) ?_
            exact hret _ _ _ _ _ _ w (Option.some.inj h) dX7_person_64
          · have h := ie cc39 h
            refine lv_iload hx hb dX7_person_42 (lv_at hl 5 rfl) ?_
            refine lv_iload_n hx hb dX7_person_44 rfl (lv_at hl 4 rfl) ?_
            refine lv_iload_n hx hb dX7_person_45 rfl (lv_at hl 3 rfl) ?_
            refine lv_isub hx hb dX7_person_46 ?_
            refine lv_iconst (v := 1) hx hb dX7_person_47 (by decide) ?_
            refine lv_iadd hx hb dX7_person_48 ?_
            refine lv_icmp_gt (tgt := 63) hx hb dX7_person_49 (by decide) (fun cc49 => ?_) (fun cc49 => ?_)
            · have h := it cc49 h
              refine lv_iconst (v := -1) hx hb dX7_person_63 (by decide) ?_
              exact hret _ _ _ _ _ _ w (Option.some.inj h) dX7_person_64
            · have h := ie cc49 h
              refine lv_aload hx hb dX7_person_52 (lv_at hl 0 rfl) ?_
              refine lv_iload_n hx hb dX7_person_54 rfl (lv_at hl 2 rfl) ?_
              refine lv_iload_n hx hb dX7_person_55 rfl (lv_at hl 3 rfl) ?_
              refine lv_iload_n hx hb dX7_person_56 rfl (lv_at hl 4 rfl) ?_
              obtain ⟨_, ho, h⟩ := bs h
              obtain ⟨x4, hc, h⟩ := bs h
              refine o_backi w hLA (o_runV (As := [.int v1, .int v2, .int v3]) (rest := []) C w (c_X2_hasRoomFor l D G L S x2 v1 v2 v3 x4 hc) ml_X7_48 mv_X2_hasRoomFor hR_X2_hasRoomFor ho rfl hl.1 rfl (Nat.le_of_ble_eq_true rfl) dX7_person_57 hcs) (fun H locs w => ?_)
              refine lv_if_ne (tgt := 65) hx hb dX7_person_60 (by decide) (fun cc60 => ?_) (fun cc60 => ?_)
              · have h := ie cc60 h
                refine lv_aload hx hb dX7_person_65 (lv_at hl 0 rfl) ?_
                obtain ⟨x5, hx5, h⟩ := bs h
                refine o_gI C w hx5 fl_X7_42 dX7_person_67 ?_
                refine lv_istore (lv' := [(6, .int x5), (5, .ref x2), (0, .ref v0), (1, .int v1), (2, .int v2), (3, .int v3), (4, .int v4)]) hx hb dX7_person_70 hl (by decide) rfl (fun ls hl => ?_)
                refine lv_aload hx hb dX7_person_72 (lv_at hl 1 rfl) ?_
                refine lv_dup hx hb dX7_person_74 rfl ?_
                obtain ⟨x6, hx6, h⟩ := bs h
                refine o_gI C w hx6 fl_X7_42 dX7_person_75 ?_
                refine lv_iconst (v := 1) hx hb dX7_person_78 (by decide) ?_
                refine lv_iadd hx hb dX7_person_79 ?_
                obtain ⟨S7, hS7, h⟩ := bs h
                refine o_pF C w hS7 fp_X7_42 rfl rfl dX7_person_80 (fun H locs w => ?_)
                refine lv_aload_n hx hb dX7_person_83 rfl (lv_at hl 2 rfl) ?_
                obtain ⟨x8, hx8, h⟩ := bs h
                refine o_gR C w hx8 fl_X7_12 dX7_person_84 ?_
                refine lv_iload hx hb dX7_person_87 (lv_at hl 0 rfl) ?_
                refine lv_iload_n hx hb dX7_person_89 rfl (lv_at hl 3 rfl) ?_
                refine lv_iload_n hx hb dX7_person_90 rfl (lv_at hl 4 rfl) ?_
                refine lv_iload_n hx hb dX7_person_91 rfl (lv_at hl 5 rfl) ?_
                refine lv_iload hx hb dX7_person_92 (lv_at hl 6 rfl) ?_
                obtain ⟨_, ho, h⟩ := bs h
                obtain ⟨S9, hc, h⟩ := bs h
                refine o_backv w hLA (o_runV (As := [.int x5, .int v1, .int v2, .int v3, .int v4]) (rest := []) C w (c_X5_addNumber l D G L S7 x8 x5 v1 v2 v3 v4 S9 hc) ml_X7_52 mv_X5_addNumber hR_X5_addNumber ho rfl hl.1 rfl (Nat.le_of_ble_eq_true rfl) dX7_person_94 hcs) (fun H locs w => ?_)
                refine lv_iload hx hb dX7_person_97 (lv_at hl 0 rfl) ?_
                exact hret _ _ _ _ _ _ w (Option.some.inj h) dX7_person_99
              · have h := it cc60 h
                refine lv_iconst (v := -1) hx hb dX7_person_63 (by decide) ?_
                exact hret _ _ _ _ _ _ w (Option.some.inj h) dX7_person_64
        · have h := ie cc31 h
          refine lv_iconst (v := -1) hx hb dX7_person_34 (by decide) ?_
          exact hret _ _ _ _ _ _ w (Option.some.inj h) dX7_person_35
set_option maxHeartbeats 4000000 in
set_option maxRecDepth 100000 in
theorem c_X7_person (l : Launch) (D : va_G) (G : Nat → ClassId) (L : List Nat) (S : PH) (v0 : Nat) (v1 : Int32) (v2 : Int32) (v3 : Int32) (v4 : Int32) (r : Int32 × PH) (h : f_X7_person S v0 v1 v2 v3 v4 = some r) : Met l yX7_person [Cond.code yX7_person cX7_person 7 (some .int)] ({ frames := 4, cells := 0, slots := 0, locals := 94 }) (va_Pc [.ref v0, .int v1, .int v2, .int v3, .int v4] (PreU D G L S)) (Qi D G L r.1 r.2) 0 0 (inL L) := by
  refine Met.ofW (cc := cX7_person) (maxL := 7) (ret := (some .int)) (by decide) rfl ?_
  intro p e s m args below meth c s₁ B hml hv
  obtain ⟨rfl, hpre⟩ := hv
  obtain ⟨C, w⟩ := o_ent (own := RX7) rfl B hml hpre
  have hl := lv_entry ([.ref v0, .int v1, .int v2, .int v3, .int v4]) (n := 7) (Nat.le_of_ble_eq_true rfl)
  rw [lg_entry_eq]
  generalize (lg_sl ([.ref v0, .int v1, .int v2, .int v3, .int v4]) ++ List.replicate (7 - (lg_sl ([.ref v0, .int v1, .int v2, .int v3, .int v4])).length) Slot.unset).toArray = ls at hl ⊢
  exact w_X7_person C (fun _ h => h) ⟨Nat.zero_le _, Nat.zero_le _⟩ ⟨rfl, rfl, Nat.le_of_ble_eq_true rfl, Nat.le_of_ble_eq_true rfl⟩ ⟨rfl, rfl, Nat.le_of_ble_eq_true rfl, Nat.le_of_ble_eq_true rfl⟩ S v0 v1 v2 v3 v4 r h (fun v S9 H locs ls pc w hv hd => by subst hv; exact o_iret C w B.returns B.notSynchronized hd) _ _ _ w hl

def f_X7_change (S : PH) (v0 : Nat) (v1 : Int32) (v2 : Int32) : Option (Int32 × PH) :=
(gR S v0 7 0).bind fun x1 =>
(gR S x1 5 0).bind fun x2 =>
if v1 < 0 then (
some ((-1 : Int32), S))
else (
(gI S x2 2 7).bind fun x3 =>
if v1 < x3 then (
(gR S x2 2 0).bind fun x4 =>
(ldI S x4 v1).bind fun x5 =>
(gR S x2 2 2).bind fun x6 =>
(ldI S x6 x5).bind fun x7 =>
(gR S x2 2 3).bind fun x8 =>
(ldI S x8 x5).bind fun x9 =>
(ckO S x2 2).bind fun _ =>
(f_X2_hasRoomFor S x2 v2 x7 x9).bind fun x10 =>
if x10 = 0 then (
some ((-1 : Int32), S))
else (
(gR S v0 7 0).bind fun x11 =>
(gR S x2 2 4).bind fun x12 =>
(ldI S x12 x5).bind fun x13 =>
(ckO S x11 5).bind fun _ =>
(f_X5_addNumber S x11 v1 v2 x7 x9 x13).bind fun S14 =>
(gR S14 x2 2 0).bind fun x15 =>
(ldI S14 x15 v1).bind fun x16 =>
some (x16, S14)))
else (
some ((-1 : Int32), S)))
set_option maxHeartbeats 4000000 in
set_option maxRecDepth 100000 in
theorem w_X7_change {p : Program} {l : Launch} {e : Env} {R : Room} {s : State} {m : MethodId} {args : Array Value} {below : List Frame} {meth : Method} {c : Code} {cells slots : Nat} {Q : State → Prop} {D : va_G} {G : Nat → ClassId} {L : List Nat} {A : Nat → Prop} {H0 : Heap} (C : CX p s m c args D G cX7_change 7 RX7) (hLA : ∀ q ∈ L, A q) (hcs : cells ≤ R.cells ∧ slots ≤ R.slots) (hR_X2_hasRoomFor : RoomOk R ({ frames := 0, cells := 0, slots := 0, locals := 0 }) 4) (hR_X5_addNumber : RoomOk R ({ frames := 3, cells := 0, slots := 0, locals := 69 }) 6) (S : PH) (v0 : Nat) (v1 : Int32) (v2 : Int32) (r : Int32 × PH) (h : f_X7_change S v0 v1 v2 = some r) (hret : ∀ (v : Int32) (S9 : PH) (H : Heap) (locs : List Loc) (ls : Array Slot) (pc : Nat), Wd D G L A H0 S9 H locs → (v, S9) = r → decode cX7_change pc = .ok (.ireturn, 1) → W p l e R s m args below meth c H locs cells slots Q (F0 m pc ls [.int v])) : ∀ (H : Heap) (locs : List Loc) (ls : Array Slot), Wd D G L A H0 S H locs → lv_has ls 7 [(0, .ref v0), (1, .int v1), (2, .int v2)] → W p l e R s m args below meth c H locs cells slots Q (F0 m 0 ls []) := by
  have hx := C.1.1
  have hb := C.1.2.1
  unfold f_X7_change at h
  intro H locs ls w hl
  refine lv_aload_n hx hb dX7_change_0 rfl (lv_at hl 0 rfl) ?_
  obtain ⟨x1, hx1, h⟩ := bs h
  refine o_gR C w hx1 fl_X7_12 dX7_change_1 ?_
  obtain ⟨x2, hx2, h⟩ := bs h
  refine o_gR C w hx2 fl_X7_38 dX7_change_4 ?_
  refine lv_astore_n (lv' := [(3, .ref x2), (0, .ref v0), (1, .int v1), (2, .int v2)]) hx hb dX7_change_7 rfl hl (by decide) rfl (fun ls hl => ?_)
  refine lv_iload_n hx hb dX7_change_8 rfl (lv_at hl 2 rfl) ?_
  refine lv_if_lt (tgt := 20) hx hb dX7_change_9 (by decide) (fun cc9 => ?_) (fun cc9 => ?_)
  · have h := it cc9 h
    refine lv_iconst (v := -1) hx hb dX7_change_20 (by decide) ?_
    exact hret _ _ _ _ _ _ w (Option.some.inj h) dX7_change_21
  · have h := ie cc9 h
    refine lv_iload_n hx hb dX7_change_12 rfl (lv_at hl 2 rfl) ?_
    refine lv_aload_n hx hb dX7_change_13 rfl (lv_at hl 0 rfl) ?_
    obtain ⟨x3, hx3, h⟩ := bs h
    refine o_gI C w hx3 fl_X7_42 dX7_change_14 ?_
    refine lv_icmp_lt (tgt := 22) hx hb dX7_change_17 (by decide) (fun cc17 => ?_) (fun cc17 => ?_)
    · have h := it cc17 h
      refine lv_aload_n hx hb dX7_change_22 rfl (lv_at hl 0 rfl) ?_
      obtain ⟨x4, hx4, h⟩ := bs h
      refine o_gR C w hx4 fl_X7_56 dX7_change_23 ?_
      refine lv_iload_n hx hb dX7_change_26 rfl (lv_at hl 2 rfl) ?_
      obtain ⟨x5, hx5, h⟩ := bs h
      refine o_ldI C w hx5 dX7_change_27 ?_
      refine lv_istore (lv' := [(4, .int x5), (3, .ref x2), (0, .ref v0), (1, .int v1), (2, .int v2)]) hx hb dX7_change_28 hl (by decide) rfl (fun ls hl => ?_)
      refine lv_aload_n hx hb dX7_change_30 rfl (lv_at hl 1 rfl) ?_
      obtain ⟨x6, hx6, h⟩ := bs h
      refine o_gR C w hx6 fl_X7_60 dX7_change_31 ?_
      refine lv_iload hx hb dX7_change_34 (lv_at hl 0 rfl) ?_
      obtain ⟨x7, hx7, h⟩ := bs h
      refine o_ldI C w hx7 dX7_change_36 ?_
      refine lv_istore (lv' := [(5, .int x7), (4, .int x5), (3, .ref x2), (0, .ref v0), (1, .int v1), (2, .int v2)]) hx hb dX7_change_37 hl (by decide) rfl (fun ls hl => ?_)
      refine lv_aload_n hx hb dX7_change_39 rfl (lv_at hl 2 rfl) ?_
      obtain ⟨x8, hx8, h⟩ := bs h
      refine o_gR C w hx8 fl_X7_63 dX7_change_40 ?_
      refine lv_iload hx hb dX7_change_43 (lv_at hl 1 rfl) ?_
      obtain ⟨x9, hx9, h⟩ := bs h
      refine o_ldI C w hx9 dX7_change_45 ?_
      refine lv_istore (lv' := [(6, .int x9), (5, .int x7), (4, .int x5), (3, .ref x2), (0, .ref v0), (1, .int v1), (2, .int v2)]) hx hb dX7_change_46 hl (by decide) rfl (fun ls hl => ?_)
      refine lv_aload_n hx hb dX7_change_48 rfl (lv_at hl 3 rfl) ?_
      refine lv_iload_n hx hb dX7_change_49 rfl (lv_at hl 6 rfl) ?_
      refine lv_iload hx hb dX7_change_50 (lv_at hl 1 rfl) ?_
      refine lv_iload hx hb dX7_change_52 (lv_at hl 0 rfl) ?_
      obtain ⟨_, ho, h⟩ := bs h
      obtain ⟨x10, hc, h⟩ := bs h
      refine o_backi w hLA (o_runV (As := [.int v2, .int x7, .int x9]) (rest := []) C w (c_X2_hasRoomFor l D G L S x2 v2 x7 x9 x10 hc) ml_X7_48 mv_X2_hasRoomFor hR_X2_hasRoomFor ho rfl hl.1 rfl (Nat.le_of_ble_eq_true rfl) dX7_change_54 hcs) (fun H locs w => ?_)
      refine lv_if_ne (tgt := 62) hx hb dX7_change_57 (by decide) (fun cc57 => ?_) (fun cc57 => ?_)
      · have h := ie cc57 h
        refine lv_aload_n hx hb dX7_change_62 rfl (lv_at hl 4 rfl) ?_
        obtain ⟨x11, hx11, h⟩ := bs h
        refine o_gR C w hx11 fl_X7_12 dX7_change_63 ?_
        refine lv_iload_n hx hb dX7_change_66 rfl (lv_at hl 5 rfl) ?_
        refine lv_iload_n hx hb dX7_change_67 rfl (lv_at hl 6 rfl) ?_
        refine lv_iload hx hb dX7_change_68 (lv_at hl 1 rfl) ?_
        refine lv_iload hx hb dX7_change_70 (lv_at hl 0 rfl) ?_
        refine lv_aload_n hx hb dX7_change_72 rfl (lv_at hl 3 rfl) ?_
        obtain ⟨x12, hx12, h⟩ := bs h
        refine o_gR C w hx12 fl_X7_66 dX7_change_73 ?_
        refine lv_iload hx hb dX7_change_76 (lv_at hl 2 rfl) ?_
        obtain ⟨x13, hx13, h⟩ := bs h
        refine o_ldI C w hx13 dX7_change_78 ?_
        obtain ⟨_, ho, h⟩ := bs h
        obtain ⟨S14, hc, h⟩ := bs h
        refine o_backv w hLA (o_runV (As := [.int v1, .int v2, .int x7, .int x9, .int x13]) (rest := []) C w (c_X5_addNumber l D G L S x11 v1 v2 x7 x9 x13 S14 hc) ml_X7_52 mv_X5_addNumber hR_X5_addNumber ho rfl hl.1 rfl (Nat.le_of_ble_eq_true rfl) dX7_change_79 hcs) (fun H locs w => ?_)
        refine lv_aload_n hx hb dX7_change_82 rfl (lv_at hl 3 rfl) ?_
        obtain ⟨x15, hx15, h⟩ := bs h
        refine o_gR C w hx15 fl_X7_56 dX7_change_83 ?_
        refine lv_iload_n hx hb dX7_change_86 rfl (lv_at hl 5 rfl) ?_
        obtain ⟨x16, hx16, h⟩ := bs h
        refine o_ldI C w hx16 dX7_change_87 ?_
        exact hret _ _ _ _ _ _ w (Option.some.inj h) dX7_change_88
      · have h := it cc57 h
        refine lv_iconst (v := -1) hx hb dX7_change_60 (by decide) ?_
        exact hret _ _ _ _ _ _ w (Option.some.inj h) dX7_change_61
    · have h := ie cc17 h
      refine lv_iconst (v := -1) hx hb dX7_change_20 (by decide) ?_
      exact hret _ _ _ _ _ _ w (Option.some.inj h) dX7_change_21
set_option maxHeartbeats 4000000 in
set_option maxRecDepth 100000 in
theorem c_X7_change (l : Launch) (D : va_G) (G : Nat → ClassId) (L : List Nat) (S : PH) (v0 : Nat) (v1 : Int32) (v2 : Int32) (r : Int32 × PH) (h : f_X7_change S v0 v1 v2 = some r) : Met l yX7_change [Cond.code yX7_change cX7_change 7 (some .int)] ({ frames := 4, cells := 0, slots := 0, locals := 94 }) (va_Pc [.ref v0, .int v1, .int v2] (PreU D G L S)) (Qi D G L r.1 r.2) 0 0 (inL L) := by
  refine Met.ofW (cc := cX7_change) (maxL := 7) (ret := (some .int)) (by decide) rfl ?_
  intro p e s m args below meth c s₁ B hml hv
  obtain ⟨rfl, hpre⟩ := hv
  obtain ⟨C, w⟩ := o_ent (own := RX7) rfl B hml hpre
  have hl := lv_entry ([.ref v0, .int v1, .int v2]) (n := 7) (Nat.le_of_ble_eq_true rfl)
  rw [lg_entry_eq]
  generalize (lg_sl ([.ref v0, .int v1, .int v2]) ++ List.replicate (7 - (lg_sl ([.ref v0, .int v1, .int v2])).length) Slot.unset).toArray = ls at hl ⊢
  exact w_X7_change C (fun _ h => h) ⟨Nat.zero_le _, Nat.zero_le _⟩ ⟨rfl, rfl, Nat.le_of_ble_eq_true rfl, Nat.le_of_ble_eq_true rfl⟩ ⟨rfl, rfl, Nat.le_of_ble_eq_true rfl, Nat.le_of_ble_eq_true rfl⟩ S v0 v1 v2 r h (fun v S9 H locs ls pc w hv hd => by subst hv; exact o_iret C w B.returns B.notSynchronized hd) _ _ _ w hl

def f_X7_isAsker (v0 : Int32) : Option (Int32) :=
if v0 < 0 then (
some (0 : Int32))
else (
if (4 : Int32) ≤ v0 then (
some (0 : Int32))
else (
some (1 : Int32)))
set_option maxHeartbeats 4000000 in
set_option maxRecDepth 100000 in
theorem w_X7_isAsker {p : Program} {l : Launch} {e : Env} {R : Room} {s : State} {m : MethodId} {args : Array Value} {below : List Frame} {meth : Method} {c : Code} {cells slots : Nat} {Q : State → Prop} {D : va_G} {G : Nat → ClassId} {L : List Nat} {A : Nat → Prop} {H0 : Heap} (C : CX p s m c args D G cX7_isAsker 1 RX7) (hLA : ∀ q ∈ L, A q) (hcs : cells ≤ R.cells ∧ slots ≤ R.slots)  (S : PH) (v0 : Int32) (r : Int32) (h : f_X7_isAsker v0 = some r) (hret : ∀ (v : Int32) (H : Heap) (locs : List Loc) (ls : Array Slot) (pc : Nat), Wd D G L A H0 S H locs → narrow .boolean (.int v) = .int v → v = r → decode cX7_isAsker pc = .ok (.ireturn, 1) → W p l e R s m args below meth c H locs cells slots Q (F0 m pc ls [.int v])) : ∀ (H : Heap) (locs : List Loc) (ls : Array Slot), Wd D G L A H0 S H locs → lv_has ls 1 [(0, .int v0)] → W p l e R s m args below meth c H locs cells slots Q (F0 m 0 ls []) := by
  have hx := C.1.1
  have hb := C.1.2.1
  unfold f_X7_isAsker at h
  intro H locs ls w hl
  refine lv_iload_n hx hb dX7_isAsker_0 rfl (lv_at hl 0 rfl) ?_
  refine lv_if_lt (tgt := 13) hx hb dX7_isAsker_1 (by decide) (fun cc1 => ?_) (fun cc1 => ?_)
  · have h := it cc1 h
    refine lv_iconst (v := 0) hx hb dX7_isAsker_13 (by decide) ?_
    exact hret _ _ _ _ _ w rfl (Option.some.inj h) dX7_isAsker_14
  · have h := ie cc1 h
    refine lv_iload_n hx hb dX7_isAsker_4 rfl (lv_at hl 0 rfl) ?_
    refine lv_iconst (v := 4) hx hb dX7_isAsker_5 (by decide) ?_
    refine lv_icmp_ge (tgt := 13) hx hb dX7_isAsker_6 (by decide) (fun cc6 => ?_) (fun cc6 => ?_)
    · have h := it cc6 h
      refine lv_iconst (v := 0) hx hb dX7_isAsker_13 (by decide) ?_
      exact hret _ _ _ _ _ w rfl (Option.some.inj h) dX7_isAsker_14
    · have h := ie cc6 h
      refine lv_iconst (v := 1) hx hb dX7_isAsker_9 (by decide) ?_
      refine lv_goto (tgt := 14) hx hb dX7_isAsker_10 (by decide) ?_
      exact hret _ _ _ _ _ w rfl (Option.some.inj h) dX7_isAsker_14
set_option maxHeartbeats 4000000 in
set_option maxRecDepth 100000 in
theorem c_X7_isAsker (l : Launch) (D : va_G) (G : Nat → ClassId) (L : List Nat) (S : PH) (v0 : Int32) (r : Int32) (h : f_X7_isAsker v0 = some r) : Met l yX7_isAsker [Cond.code yX7_isAsker cX7_isAsker 1 (some .boolean)] ({ frames := 0, cells := 0, slots := 0, locals := 0 }) (va_Pc [.int v0] (PreU D G L S)) (Qi D G L r S) 0 0 (inL L) := by
  refine Met.ofW (cc := cX7_isAsker) (maxL := 1) (ret := (some .boolean)) (by decide) rfl ?_
  intro p e s m args below meth c s₁ B hml hv
  obtain ⟨rfl, hpre⟩ := hv
  obtain ⟨C, w⟩ := o_ent (own := RX7) rfl B hml hpre
  have hl := lv_entry ([.int v0]) (n := 1) (Nat.le_of_ble_eq_true rfl)
  rw [lg_entry_eq]
  generalize (lg_sl ([.int v0]) ++ List.replicate (1 - (lg_sl ([.int v0])).length) Slot.unset).toArray = ls at hl ⊢
  exact w_X7_isAsker C (fun _ h => h) ⟨Nat.zero_le _, Nat.zero_le _⟩  S v0 r h (fun v H locs ls pc w hz hv hd => by subst hv; exact o_zret C w B.returns B.notSynchronized hz hd) _ _ _ w hl

def f_X7_isQuestion (v0 : Int32) (v1 : Int32) : Option (Int32) :=
if v0 = 0 then (
if v1 < (1 : Int32) then (
some (0 : Int32))
else (
if (20 : Int32) < v1 then (
some (0 : Int32))
else (
some (1 : Int32))))
else if v0 = 1 then (
if v1 < 0 then (
some (0 : Int32))
else (
if (20 : Int32) < v1 then (
some (0 : Int32))
else (
some (1 : Int32))))
else if v0 = 2 then (
some (1 : Int32))
else if v0 = 3 then (
some (1 : Int32))
else (
some (0 : Int32))
set_option maxHeartbeats 4000000 in
set_option maxRecDepth 100000 in
theorem w_X7_isQuestion {p : Program} {l : Launch} {e : Env} {R : Room} {s : State} {m : MethodId} {args : Array Value} {below : List Frame} {meth : Method} {c : Code} {cells slots : Nat} {Q : State → Prop} {D : va_G} {G : Nat → ClassId} {L : List Nat} {A : Nat → Prop} {H0 : Heap} (C : CX p s m c args D G cX7_isQuestion 2 RX7) (hLA : ∀ q ∈ L, A q) (hcs : cells ≤ R.cells ∧ slots ≤ R.slots)  (S : PH) (v0 : Int32) (v1 : Int32) (r : Int32) (h : f_X7_isQuestion v0 v1 = some r) (hret : ∀ (v : Int32) (H : Heap) (locs : List Loc) (ls : Array Slot) (pc : Nat), Wd D G L A H0 S H locs → narrow .boolean (.int v) = .int v → v = r → decode cX7_isQuestion pc = .ok (.ireturn, 1) → W p l e R s m args below meth c H locs cells slots Q (F0 m pc ls [.int v])) : ∀ (H : Heap) (locs : List Loc) (ls : Array Slot), Wd D G L A H0 S H locs → lv_has ls 2 [(0, .int v0), (1, .int v1)] → W p l e R s m args below meth c H locs cells slots Q (F0 m 0 ls []) := by
  have hx := C.1.1
  have hb := C.1.2.1
  unfold f_X7_isQuestion at h
  intro H locs ls w hl
  refine lv_iload_n hx hb dX7_isQuestion_0 rfl (lv_at hl 0 rfl) ?_
  by_cases cw1_0 : v0 = 0
  · have h := it cw1_0 h
    refine o_sw0 C 0 cw1_0 dX7_isQuestion_1 (by decide) (by decide) rfl (tgt := 32) (by decide) ?_
    refine lv_iload_n hx hb dX7_isQuestion_32 rfl (lv_at hl 1 rfl) ?_
    refine lv_iconst (v := 1) hx hb dX7_isQuestion_33 (by decide) ?_
    refine lv_icmp_lt (tgt := 47) hx hb dX7_isQuestion_34 (by decide) (fun cc34 => ?_) (fun cc34 => ?_)
    · have h := it cc34 h
      refine lv_iconst (v := 0) hx hb dX7_isQuestion_47 (by decide) ?_
      exact hret _ _ _ _ _ w rfl (Option.some.inj h) dX7_isQuestion_48
    · have h := ie cc34 h
      refine lv_iload_n hx hb dX7_isQuestion_37 rfl (lv_at hl 1 rfl) ?_
      refine lv_bipush (v := 20) hx hb dX7_isQuestion_38 (by decide) ?_
      refine lv_icmp_gt (tgt := 47) hx hb dX7_isQuestion_40 (by decide) (fun cc40 => ?_) (fun cc40 => ?_)
      · have h := it cc40 h
        refine lv_iconst (v := 0) hx hb dX7_isQuestion_47 (by decide) ?_
        exact hret _ _ _ _ _ w rfl (Option.some.inj h) dX7_isQuestion_48
      · have h := ie cc40 h
        refine lv_iconst (v := 1) hx hb dX7_isQuestion_43 (by decide) ?_
        refine lv_goto (tgt := 48) hx hb dX7_isQuestion_44 (by decide) ?_
        exact hret _ _ _ _ _ w rfl (Option.some.inj h) dX7_isQuestion_48
  have h := ie cw1_0 h
  by_cases cw1_1 : v0 = 1
  · have h := it cw1_1 h
    refine o_sw0 C 1 cw1_1 dX7_isQuestion_1 (by decide) (by decide) rfl (tgt := 49) (by decide) ?_
    refine lv_iload_n hx hb dX7_isQuestion_49 rfl (lv_at hl 1 rfl) ?_
    refine lv_if_lt (tgt := 63) hx hb dX7_isQuestion_50 (by decide) (fun cc50 => ?_) (fun cc50 => ?_)
    · have h := it cc50 h
      refine lv_iconst (v := 0) hx hb dX7_isQuestion_63 (by decide) ?_
      exact hret _ _ _ _ _ w rfl (Option.some.inj h) dX7_isQuestion_64
    · have h := ie cc50 h
      refine lv_iload_n hx hb dX7_isQuestion_53 rfl (lv_at hl 1 rfl) ?_
      refine lv_bipush (v := 20) hx hb dX7_isQuestion_54 (by decide) ?_
      refine lv_icmp_gt (tgt := 63) hx hb dX7_isQuestion_56 (by decide) (fun cc56 => ?_) (fun cc56 => ?_)
      · have h := it cc56 h
        refine lv_iconst (v := 0) hx hb dX7_isQuestion_63 (by decide) ?_
        exact hret _ _ _ _ _ w rfl (Option.some.inj h) dX7_isQuestion_64
      · have h := ie cc56 h
        refine lv_iconst (v := 1) hx hb dX7_isQuestion_59 (by decide) ?_
        refine lv_goto (tgt := 64) hx hb dX7_isQuestion_60 (by decide) ?_
        exact hret _ _ _ _ _ w rfl (Option.some.inj h) dX7_isQuestion_64
  have h := ie cw1_1 h
  by_cases cw1_2 : v0 = 2
  · have h := it cw1_2 h
    refine o_sw0 C 2 cw1_2 dX7_isQuestion_1 (by decide) (by decide) rfl (tgt := 65) (by decide) ?_
    refine lv_iconst (v := 1) hx hb dX7_isQuestion_65 (by decide) ?_
    exact hret _ _ _ _ _ w rfl (Option.some.inj h) dX7_isQuestion_66
  have h := ie cw1_2 h
  by_cases cw1_3 : v0 = 3
  · have h := it cw1_3 h
    refine o_sw0 C 3 cw1_3 dX7_isQuestion_1 (by decide) (by decide) rfl (tgt := 65) (by decide) ?_
    refine lv_iconst (v := 1) hx hb dX7_isQuestion_65 (by decide) ?_
    exact hret _ _ _ _ _ w rfl (Option.some.inj h) dX7_isQuestion_66
  have h := ie cw1_3 h
  have cx0 := lv_neT (k := 0) (a := 0) cw1_0 (by decide)
  have cx1 := lv_neT (k := 1) (a := 1) cw1_1 (by decide)
  have cx2 := lv_neT (k := 2) (a := 2) cw1_2 (by decide)
  have cx3 := lv_neT (k := 3) (a := 3) cw1_3 (by decide)
  refine lv_tableOut (tgt := 67) hx hb dX7_isQuestion_1 (by omega) (by decide) ?_
  refine lv_iconst (v := 0) hx hb dX7_isQuestion_67 (by decide) ?_
  exact hret _ _ _ _ _ w rfl (Option.some.inj h) dX7_isQuestion_68
set_option maxHeartbeats 4000000 in
set_option maxRecDepth 100000 in
theorem c_X7_isQuestion (l : Launch) (D : va_G) (G : Nat → ClassId) (L : List Nat) (S : PH) (v0 : Int32) (v1 : Int32) (r : Int32) (h : f_X7_isQuestion v0 v1 = some r) : Met l yX7_isQuestion [Cond.code yX7_isQuestion cX7_isQuestion 2 (some .boolean)] ({ frames := 0, cells := 0, slots := 0, locals := 0 }) (va_Pc [.int v0, .int v1] (PreU D G L S)) (Qi D G L r S) 0 0 (inL L) := by
  refine Met.ofW (cc := cX7_isQuestion) (maxL := 2) (ret := (some .boolean)) (by decide) rfl ?_
  intro p e s m args below meth c s₁ B hml hv
  obtain ⟨rfl, hpre⟩ := hv
  obtain ⟨C, w⟩ := o_ent (own := RX7) rfl B hml hpre
  have hl := lv_entry ([.int v0, .int v1]) (n := 2) (Nat.le_of_ble_eq_true rfl)
  rw [lg_entry_eq]
  generalize (lg_sl ([.int v0, .int v1]) ++ List.replicate (2 - (lg_sl ([.int v0, .int v1])).length) Slot.unset).toArray = ls at hl ⊢
  exact w_X7_isQuestion C (fun _ h => h) ⟨Nat.zero_le _, Nat.zero_le _⟩  S v0 v1 r h (fun v H locs ls pc w hz hv hd => by subst hv; exact o_zret C w B.returns B.notSynchronized hz hd) _ _ _ w hl

def f_X7_judge (S : PH) (v0 : Nat) (v1 : Int32) (v2 : Int32) (v3 : Int32) (v4 : Int32) : Option (Int32 × PH) :=
(gR S v0 7 3).bind fun x1 =>
(gR S v0 7 0).bind fun x2 =>
(gR S x2 5 0).bind fun x3 =>
(ckO S x1 3).bind fun _ =>
(f_X3_markTables S x1 x3).bind fun S4 =>
(gR S4 v0 7 3).bind fun x5 =>
(gR S4 v0 7 0).bind fun x6 =>
(gR S4 x6 5 0).bind fun x7 =>
(ckO S4 x5 3).bind fun _ =>
(f_X3_answerTables S4 x5 x7 v2 v3 v4).bind fun S8 =>
(gR S8 v0 7 3).bind fun x9 =>
(gR S8 v0 7 0).bind fun x10 =>
(gR S8 x10 5 1).bind fun x11 =>
(ckO S8 x11 1).bind fun _ =>
(f_X1_leftOf S8 x11 v1).bind fun x12 =>
(gR S8 v0 7 0).bind fun x13 =>
(gR S8 x13 5 0).bind fun x14 =>
(gI S8 x14 2 9).bind fun x15 =>
(ckO S8 x9 3).bind fun _ =>
(f_X3_gatherCells S8 x9 x12 x15).bind fun S16 =>
(gR S16 v0 7 3).bind fun x17 =>
(ckO S16 x17 3).bind fun _ =>
(f_X3_cellsUsed S16 x17).bind fun x18 =>
if x18 = (1 : Int32) then (
some ((2 : Int32), S16))
else (
(gR S16 v0 7 3).bind fun x19 =>
(gR S16 v0 7 0).bind fun x20 =>
(gR S16 x20 5 0).bind fun x21 =>
(ckO S16 x19 3).bind fun _ =>
(f_X3_areCellsSafe S16 x19 x21).bind fun x22 =>
if x22 = 0 then (
some ((0 : Int32), S16))
else (
some ((1 : Int32), S16)))
set_option maxHeartbeats 4000000 in
set_option maxRecDepth 100000 in
theorem w_X7_judge {p : Program} {l : Launch} {e : Env} {R : Room} {s : State} {m : MethodId} {args : Array Value} {below : List Frame} {meth : Method} {c : Code} {cells slots : Nat} {Q : State → Prop} {D : va_G} {G : Nat → ClassId} {L : List Nat} {A : Nat → Prop} {H0 : Heap} (C : CX p s m c args D G cX7_judge 5 RX7) (hLA : ∀ q ∈ L, A q) (hcs : cells ≤ R.cells ∧ slots ≤ R.slots) (hR_X3_markTables : RoomOk R ({ frames := 1, cells := 0, slots := 0, locals := 21 }) 9) (hR_X3_answerTables : RoomOk R ({ frames := 2, cells := 0, slots := 0, locals := 44 }) 13) (hR_X1_leftOf : RoomOk R ({ frames := 0, cells := 0, slots := 0, locals := 0 }) 2) (hR_X3_gatherCells : RoomOk R ({ frames := 1, cells := 0, slots := 0, locals := 24 }) 4) (hR_X3_cellsUsed : RoomOk R ({ frames := 0, cells := 0, slots := 0, locals := 0 }) 3) (hR_X3_areCellsSafe : RoomOk R ({ frames := 3, cells := 0, slots := 0, locals := 71 }) 3) (S : PH) (v0 : Nat) (v1 : Int32) (v2 : Int32) (v3 : Int32) (v4 : Int32) (r : Int32 × PH) (h : f_X7_judge S v0 v1 v2 v3 v4 = some r) (hret : ∀ (v : Int32) (S9 : PH) (H : Heap) (locs : List Loc) (ls : Array Slot) (pc : Nat), Wd D G L A H0 S9 H locs → (v, S9) = r → decode cX7_judge pc = .ok (.ireturn, 1) → W p l e R s m args below meth c H locs cells slots Q (F0 m pc ls [.int v])) : ∀ (H : Heap) (locs : List Loc) (ls : Array Slot), Wd D G L A H0 S H locs → lv_has ls 5 [(0, .ref v0), (1, .int v1), (2, .int v2), (3, .int v3), (4, .int v4)] → W p l e R s m args below meth c H locs cells slots Q (F0 m 0 ls []) := by
  have hx := C.1.1
  have hb := C.1.2.1
  unfold f_X7_judge at h
  intro H locs ls w hl
  refine lv_aload_n hx hb dX7_judge_0 rfl (lv_at hl 0 rfl) ?_
  obtain ⟨x1, hx1, h⟩ := bs h
  refine o_gR C w hx1 fl_X7_27 dX7_judge_1 ?_
  refine lv_aload_n hx hb dX7_judge_4 rfl (lv_at hl 0 rfl) ?_
  obtain ⟨x2, hx2, h⟩ := bs h
  refine o_gR C w hx2 fl_X7_12 dX7_judge_5 ?_
  obtain ⟨x3, hx3, h⟩ := bs h
  refine o_gR C w hx3 fl_X7_38 dX7_judge_8 ?_
  obtain ⟨_, ho, h⟩ := bs h
  obtain ⟨S4, hc, h⟩ := bs h
  refine o_backv w hLA (o_runV (As := [.ref x3]) (rest := []) C w (c_X3_markTables l D G L S x1 x3 S4 hc) ml_X7_194 mv_X3_markTables hR_X3_markTables ho rfl hl.1 rfl (Nat.le_of_ble_eq_true rfl) dX7_judge_11 hcs) (fun H locs w => ?_)
  refine lv_aload_n hx hb dX7_judge_14 rfl (lv_at hl 0 rfl) ?_
  obtain ⟨x5, hx5, h⟩ := bs h
  refine o_gR C w hx5 fl_X7_27 dX7_judge_15 ?_
  refine lv_aload_n hx hb dX7_judge_18 rfl (lv_at hl 0 rfl) ?_
  obtain ⟨x6, hx6, h⟩ := bs h
  refine o_gR C w hx6 fl_X7_12 dX7_judge_19 ?_
  obtain ⟨x7, hx7, h⟩ := bs h
  refine o_gR C w hx7 fl_X7_38 dX7_judge_22 ?_
  refine lv_iload_n hx hb dX7_judge_25 rfl (lv_at hl 2 rfl) ?_
  refine lv_iload_n hx hb dX7_judge_26 rfl (lv_at hl 3 rfl) ?_
  refine lv_iload hx hb dX7_judge_27 (lv_at hl 4 rfl) ?_
  obtain ⟨_, ho, h⟩ := bs h
  obtain ⟨S8, hc, h⟩ := bs h
  refine o_backv w hLA (o_runV (As := [.ref x7, .int v2, .int v3, .int v4]) (rest := []) C w (c_X3_answerTables l D G L S4 x5 x7 v2 v3 v4 S8 hc) ml_X7_198 mv_X3_answerTables hR_X3_answerTables ho rfl hl.1 rfl (Nat.le_of_ble_eq_true rfl) dX7_judge_29 hcs) (fun H locs w => ?_)
  refine lv_aload_n hx hb dX7_judge_32 rfl (lv_at hl 0 rfl) ?_
  obtain ⟨x9, hx9, h⟩ := bs h
  refine o_gR C w hx9 fl_X7_27 dX7_judge_33 ?_
  refine lv_aload_n hx hb dX7_judge_36 rfl (lv_at hl 0 rfl) ?_
  obtain ⟨x10, hx10, h⟩ := bs h
  refine o_gR C w hx10 fl_X7_12 dX7_judge_37 ?_
  obtain ⟨x11, hx11, h⟩ := bs h
  refine o_gR C w hx11 fl_X7_101 dX7_judge_40 ?_
  refine lv_iload_n hx hb dX7_judge_43 rfl (lv_at hl 1 rfl) ?_
  obtain ⟨_, ho, h⟩ := bs h
  obtain ⟨x12, hc, h⟩ := bs h
  refine o_backr w hLA (o_runV (As := [.int v1]) (rest := [.ref x9]) C w (c_X1_leftOf l D G L S8 x11 v1 x12 hc) ml_X7_202 mv_X1_leftOf hR_X1_leftOf ho rfl hl.1 rfl (Nat.le_of_ble_eq_true rfl) dX7_judge_44 hcs) (fun H locs w => ?_)
  refine lv_aload_n hx hb dX7_judge_47 rfl (lv_at hl 0 rfl) ?_
  obtain ⟨x13, hx13, h⟩ := bs h
  refine o_gR C w hx13 fl_X7_12 dX7_judge_48 ?_
  obtain ⟨x14, hx14, h⟩ := bs h
  refine o_gR C w hx14 fl_X7_38 dX7_judge_51 ?_
  obtain ⟨x15, hx15, h⟩ := bs h
  refine o_gI C w hx15 fl_X7_105 dX7_judge_54 ?_
  obtain ⟨_, ho, h⟩ := bs h
  obtain ⟨S16, hc, h⟩ := bs h
  refine o_backv w hLA (o_runV (As := [.ref x12, .int x15]) (rest := []) C w (c_X3_gatherCells l D G L S8 x9 x12 x15 S16 hc) ml_X7_206 mv_X3_gatherCells hR_X3_gatherCells ho rfl hl.1 rfl (Nat.le_of_ble_eq_true rfl) dX7_judge_57 hcs) (fun H locs w => ?_)
  refine lv_aload_n hx hb dX7_judge_60 rfl (lv_at hl 0 rfl) ?_
  obtain ⟨x17, hx17, h⟩ := bs h
  refine o_gR C w hx17 fl_X7_27 dX7_judge_61 ?_
  obtain ⟨_, ho, h⟩ := bs h
  obtain ⟨x18, hc, h⟩ := bs h
  refine o_backi w hLA (o_runV (As := []) (rest := []) C w (c_X3_cellsUsed l D G L S16 x17 x18 hc) ml_X7_210 mv_X3_cellsUsed hR_X3_cellsUsed ho rfl hl.1 rfl (Nat.le_of_ble_eq_true rfl) dX7_judge_64 hcs) (fun H locs w => ?_)
  refine lv_iconst (v := 1) hx hb dX7_judge_67 (by decide) ?_
  refine lv_icmp_ne (tgt := 73) hx hb dX7_judge_68 (by decide) (fun cc68 => ?_) (fun cc68 => ?_)
  · have h := ie cc68 h
    refine lv_aload_n hx hb dX7_judge_73 rfl (lv_at hl 0 rfl) ?_
    obtain ⟨x19, hx19, h⟩ := bs h
    refine o_gR C w hx19 fl_X7_27 dX7_judge_74 ?_
    refine lv_aload_n hx hb dX7_judge_77 rfl (lv_at hl 0 rfl) ?_
    obtain ⟨x20, hx20, h⟩ := bs h
    refine o_gR C w hx20 fl_X7_12 dX7_judge_78 ?_
    obtain ⟨x21, hx21, h⟩ := bs h
    refine o_gR C w hx21 fl_X7_38 dX7_judge_81 ?_
    obtain ⟨_, ho, h⟩ := bs h
    obtain ⟨x22, hc, h⟩ := bs h
    refine o_backi w hLA (o_runV (As := [.ref x21]) (rest := []) C w (c_X3_areCellsSafe l D G L S16 x19 x21 x22 hc) ml_X7_213 mv_X3_areCellsSafe hR_X3_areCellsSafe ho rfl hl.1 rfl (Nat.le_of_ble_eq_true rfl) dX7_judge_84 hcs) (fun H locs w => ?_)
    refine lv_if_eq (tgt := 94) hx hb dX7_judge_87 (by decide) (fun cc87 => ?_) (fun cc87 => ?_)
    · have h := it cc87 h
      refine lv_iconst (v := 0) hx hb dX7_judge_94 (by decide) ?_
      exact hret _ _ _ _ _ _ w (Option.some.inj h) dX7_judge_95
    · have h := ie cc87 h
      refine lv_iconst (v := 1) hx hb dX7_judge_90 (by decide) ?_
      refine lv_goto (tgt := 95) hx hb dX7_judge_91 (by decide) ?_
      exact hret _ _ _ _ _ _ w (Option.some.inj h) dX7_judge_95
  · have h := it cc68 h
    refine lv_iconst (v := 2) hx hb dX7_judge_71 (by decide) ?_
    exact hret _ _ _ _ _ _ w (Option.some.inj h) dX7_judge_72
set_option maxHeartbeats 4000000 in
set_option maxRecDepth 100000 in
theorem c_X7_judge (l : Launch) (D : va_G) (G : Nat → ClassId) (L : List Nat) (S : PH) (v0 : Nat) (v1 : Int32) (v2 : Int32) (v3 : Int32) (v4 : Int32) (r : Int32 × PH) (h : f_X7_judge S v0 v1 v2 v3 v4 = some r) : Met l yX7_judge [Cond.code yX7_judge cX7_judge 5 (some .int)] ({ frames := 4, cells := 0, slots := 0, locals := 93 }) (va_Pc [.ref v0, .int v1, .int v2, .int v3, .int v4] (PreU D G L S)) (Qi D G L r.1 r.2) 0 0 (inL L) := by
  refine Met.ofW (cc := cX7_judge) (maxL := 5) (ret := (some .int)) (by decide) rfl ?_
  intro p e s m args below meth c s₁ B hml hv
  obtain ⟨rfl, hpre⟩ := hv
  obtain ⟨C, w⟩ := o_ent (own := RX7) rfl B hml hpre
  have hl := lv_entry ([.ref v0, .int v1, .int v2, .int v3, .int v4]) (n := 5) (Nat.le_of_ble_eq_true rfl)
  rw [lg_entry_eq]
  generalize (lg_sl ([.ref v0, .int v1, .int v2, .int v3, .int v4]) ++ List.replicate (5 - (lg_sl ([.ref v0, .int v1, .int v2, .int v3, .int v4])).length) Slot.unset).toArray = ls at hl ⊢
  exact w_X7_judge C (fun _ h => h) ⟨Nat.zero_le _, Nat.zero_le _⟩ ⟨rfl, rfl, Nat.le_of_ble_eq_true rfl, Nat.le_of_ble_eq_true rfl⟩ ⟨rfl, rfl, Nat.le_of_ble_eq_true rfl, Nat.le_of_ble_eq_true rfl⟩ ⟨rfl, rfl, Nat.le_of_ble_eq_true rfl, Nat.le_of_ble_eq_true rfl⟩ ⟨rfl, rfl, Nat.le_of_ble_eq_true rfl, Nat.le_of_ble_eq_true rfl⟩ ⟨rfl, rfl, Nat.le_of_ble_eq_true rfl, Nat.le_of_ble_eq_true rfl⟩ ⟨rfl, rfl, Nat.le_of_ble_eq_true rfl, Nat.le_of_ble_eq_true rfl⟩ S v0 v1 v2 v3 v4 r h (fun v S9 H locs ls pc w hv hd => by subst hv; exact o_iret C w B.returns B.notSynchronized hd) _ _ _ w hl

def f_X7_ask_b114 (S : PH) (v0 : Nat) (v1 : Int32) (v2 : Int32) (v4 : Int32) (v5 : Int32) (v6 : Int32) : Option (Int32 × PH) :=
(gR S v0 7 0).bind fun x1 =>
(gR S x1 5 2).bind fun x2 =>
(ckO S x2 0).bind fun _ =>
(f_X0_add S x2 v1 v2 v5 v4 v6).bind fun S3 =>
some (v6, S3)
def f_X7_ask (S : PH) (v0 : Nat) (v1 : Int32) (v2 : Int32) (v3 : Int32) (v4 : Int32) : Option (Int32 × PH) :=
(f_X7_isAsker v1).bind fun x4 =>
if x4 = 0 then (
some ((-1 : Int32), S))
else (
(f_X7_isQuestion v2 v4).bind fun x5 =>
if x5 = 0 then (
some ((-1 : Int32), S))
else (
(gR S v0 7 0).bind fun x6 =>
(gR S x6 5 2).bind fun x7 =>
(gI S x7 0 1).bind fun x8 =>
if x8 < (200 : Int32) then (
(gR S v0 7 0).bind fun x9 =>
(gR S x9 5 0).bind fun x10 =>
(ckO S x10 2).bind fun _ =>
(f_X2_onlyPeople S x10 v3).bind fun x11 =>
(ckO S v0 7).bind fun _ =>
bd2 (f_X7_judge S v0 v1 v2 x11 v4) fun x12 S13 =>
if x12 = 0 then (
f_X7_ask_b114 S13 v0 v1 v2 v4 x11 (-2 : Int32))
else (
(gR S13 v0 7 3).bind fun x14 =>
(gR S13 x14 3 1).bind fun x15 =>
(gR S13 v0 7 0).bind fun x16 =>
(gR S13 x16 5 0).bind fun x17 =>
(ckO S13 x17 2).bind fun _ =>
(f_X2_hiddenTable S13 x17).bind fun x18 =>
(ldI S13 x15 x18).bind fun x19 =>
(gR S13 v0 7 0).bind fun x20 =>
(gR S13 x20 5 1).bind fun x21 =>
(gR S13 v0 7 0).bind fun x22 =>
(gR S13 x22 5 0).bind fun x23 =>
(gI S13 x23 2 9).bind fun x24 =>
(gR S13 v0 7 3).bind fun x25 =>
(gR S13 x25 3 1).bind fun x26 =>
(ckO S13 x21 1).bind fun _ =>
(f_X1_keepOnly S13 x21 v1 x24 x26 x19).bind fun S27 =>
f_X7_ask_b114 S27 v0 v1 v2 v4 x11 x19))
else (
some ((-1 : Int32), S))))
set_option maxHeartbeats 4000000 in
set_option maxRecDepth 100000 in
theorem w_X7_ask {p : Program} {l : Launch} {e : Env} {R : Room} {s : State} {m : MethodId} {args : Array Value} {below : List Frame} {meth : Method} {c : Code} {cells slots : Nat} {Q : State → Prop} {D : va_G} {G : Nat → ClassId} {L : List Nat} {A : Nat → Prop} {H0 : Heap} (C : CX p s m c args D G cX7_ask 7 RX7) (hLA : ∀ q ∈ L, A q) (hcs : cells ≤ R.cells ∧ slots ≤ R.slots) (hR_X7_isAsker : RoomOk R ({ frames := 0, cells := 0, slots := 0, locals := 0 }) 1) (hR_X7_isQuestion : RoomOk R ({ frames := 0, cells := 0, slots := 0, locals := 0 }) 2) (hR_X2_onlyPeople : RoomOk R ({ frames := 0, cells := 0, slots := 0, locals := 0 }) 2) (hR_X7_judge : RoomOk R ({ frames := 4, cells := 0, slots := 0, locals := 93 }) 5) (hR_X2_hiddenTable : RoomOk R ({ frames := 1, cells := 0, slots := 0, locals := 21 }) 4) (hR_X1_keepOnly : RoomOk R ({ frames := 1, cells := 0, slots := 0, locals := 21 }) 7) (hR_X0_add : RoomOk R ({ frames := 0, cells := 0, slots := 0, locals := 0 }) 6) (S : PH) (v0 : Nat) (v1 : Int32) (v2 : Int32) (v3 : Int32) (v4 : Int32) (r : Int32 × PH) (h : f_X7_ask S v0 v1 v2 v3 v4 = some r) (hret : ∀ (v : Int32) (S9 : PH) (H : Heap) (locs : List Loc) (ls : Array Slot) (pc : Nat), Wd D G L A H0 S9 H locs → (v, S9) = r → decode cX7_ask pc = .ok (.ireturn, 1) → W p l e R s m args below meth c H locs cells slots Q (F0 m pc ls [.int v])) : ∀ (H : Heap) (locs : List Loc) (ls : Array Slot), Wd D G L A H0 S H locs → lv_has ls 7 [(0, .ref v0), (1, .int v1), (2, .int v2), (3, .int v3), (4, .int v4)] → W p l e R s m args below meth c H locs cells slots Q (F0 m 0 ls []) := by
  have hx := C.1.1
  have hb := C.1.2.1
  unfold f_X7_ask at h
  have hb114 : ∀ (S28 : PH) (u29 : Nat) (u30 : Int32) (u31 : Int32) (u32 : Int32) (u33 : Int32) (u34 : Int32), f_X7_ask_b114 S28 u29 u30 u31 u32 u33 u34 = some r → ∀ (H : Heap) (locs : List Loc) (ls : Array Slot), Wd D G L A H0 S28 H locs → lv_has ls 7 [(0, .ref u29), (1, .int u30), (2, .int u31), (4, .int u32), (5, .int u33), (6, .int u34)] → W p l e R s m args below meth c H locs cells slots Q (F0 m 114 ls []) := by
    intro S28 u29 u30 u31 u32 u33 u34 h H locs ls w hl
    unfold f_X7_ask_b114 at h
    refine lv_aload_n hx hb dX7_ask_114 rfl (lv_at hl 0 rfl) ?_
    obtain ⟨x35, hx35, h⟩ := bs h
    refine o_gR C w hx35 fl_X7_12 dX7_ask_115 ?_
    obtain ⟨x36, hx36, h⟩ := bs h
    refine o_gR C w hx36 fl_X7_77 dX7_ask_118 ?_
    refine lv_iload_n hx hb dX7_ask_121 rfl (lv_at hl 1 rfl) ?_
    refine lv_iload_n hx hb dX7_ask_122 rfl (lv_at hl 2 rfl) ?_
    refine lv_iload hx hb dX7_ask_123 (lv_at hl 4 rfl) ?_
    refine lv_iload hx hb dX7_ask_125 (lv_at hl 3 rfl) ?_
    refine lv_iload hx hb dX7_ask_127 (lv_at hl 5 rfl) ?_
    obtain ⟨_, ho, h⟩ := bs h
    obtain ⟨S37, hc, h⟩ := bs h
    refine o_backv w hLA (o_runV (As := [.int u30, .int u31, .int u33, .int u32, .int u34]) (rest := []) C w (c_X0_add l D G L S28 x36 u30 u31 u33 u32 u34 S37 hc) ml_X7_114 mv_X0_add hR_X0_add ho rfl hl.1 rfl (Nat.le_of_ble_eq_true rfl) dX7_ask_129 hcs) (fun H locs w => ?_)
    refine lv_iload hx hb dX7_ask_132 (lv_at hl 5 rfl) ?_
    exact hret _ _ _ _ _ _ w (Option.some.inj h) dX7_ask_134
  intro H locs ls w hl
  refine lv_iload_n hx hb dX7_ask_0 rfl (lv_at hl 1 rfl) ?_
  obtain ⟨x4, hc, h⟩ := bs h
  refine o_backi w hLA (o_runS (As := [.int v1]) (rest := []) C w (c_X7_isAsker l D G L S v1 x4 hc) ml_X7_69 st_X7_isAsker hR_X7_isAsker rfl hl.1 rfl (Nat.le_of_ble_eq_true rfl) dX7_ask_1 hcs) (fun H locs w => ?_)
  refine lv_if_eq (tgt := 32) hx hb dX7_ask_4 (by decide) (fun cc4 => ?_) (fun cc4 => ?_)
  · have h := it cc4 h
    refine lv_iconst (v := -1) hx hb dX7_ask_32 (by decide) ?_
    exact hret _ _ _ _ _ _ w (Option.some.inj h) dX7_ask_33
  · have h := ie cc4 h
    refine lv_iload_n hx hb dX7_ask_7 rfl (lv_at hl 2 rfl) ?_
    refine lv_iload hx hb dX7_ask_8 (lv_at hl 4 rfl) ?_
    obtain ⟨x5, hc, h⟩ := bs h
    refine o_backi w hLA (o_runS (As := [.int v2, .int v4]) (rest := []) C w (c_X7_isQuestion l D G L S v2 v4 x5 hc) ml_X7_73 st_X7_isQuestion hR_X7_isQuestion rfl hl.1 rfl (Nat.le_of_ble_eq_true rfl) dX7_ask_10 hcs) (fun H locs w => ?_)
    refine lv_if_eq (tgt := 32) hx hb dX7_ask_13 (by decide) (fun cc13 => ?_) (fun cc13 => ?_)
    · have h := it cc13 h
      refine lv_iconst (v := -1) hx hb dX7_ask_32 (by decide) ?_
      exact hret _ _ _ _ _ _ w (Option.some.inj h) dX7_ask_33
    · have h := ie cc13 h
      refine lv_aload_n hx hb dX7_ask_16 rfl (lv_at hl 0 rfl) ?_
      obtain ⟨x6, hx6, h⟩ := bs h
      refine o_gR C w hx6 fl_X7_12 dX7_ask_17 ?_
      obtain ⟨x7, hx7, h⟩ := bs h
      refine o_gR C w hx7 fl_X7_77 dX7_ask_20 ?_
      obtain ⟨x8, hx8, h⟩ := bs h
      refine o_gI C w hx8 fl_X7_81 dX7_ask_23 ?_
      refine lv_sipush (v := 200) hx hb dX7_ask_26 (by decide) ?_
      refine lv_icmp_lt (tgt := 34) hx hb dX7_ask_29 (by decide) (fun cc29 => ?_) (fun cc29 => ?_)
      · have h := it cc29 h
        refine lv_aload_n hx hb dX7_ask_34 rfl (lv_at hl 0 rfl) ?_
        obtain ⟨x9, hx9, h⟩ := bs h
        refine o_gR C w hx9 fl_X7_12 dX7_ask_35 ?_
        obtain ⟨x10, hx10, h⟩ := bs h
        refine o_gR C w hx10 fl_X7_38 dX7_ask_38 ?_
        refine lv_iload_n hx hb dX7_ask_41 rfl (lv_at hl 3 rfl) ?_
        obtain ⟨_, ho, h⟩ := bs h
        obtain ⟨x11, hc, h⟩ := bs h
        refine o_backi w hLA (o_runV (As := [.int v3]) (rest := []) C w (c_X2_onlyPeople l D G L S x10 v3 x11 hc) ml_X7_86 mv_X2_onlyPeople hR_X2_onlyPeople ho rfl hl.1 rfl (Nat.le_of_ble_eq_true rfl) dX7_ask_42 hcs) (fun H locs w => ?_)
        refine lv_istore (lv' := [(5, .int x11), (0, .ref v0), (1, .int v1), (2, .int v2), (3, .int v3), (4, .int v4)]) hx hb dX7_ask_45 hl (by decide) rfl (fun ls hl => ?_)
        refine lv_bipush (v := -2) hx hb dX7_ask_47 (by decide) ?_
        refine lv_istore (lv' := [(6, .int (-2 : Int32)), (5, .int x11), (0, .ref v0), (1, .int v1), (2, .int v2), (3, .int v3), (4, .int v4)]) hx hb dX7_ask_49 hl (by decide) rfl (fun ls hl => ?_)
        refine lv_aload_n hx hb dX7_ask_51 rfl (lv_at hl 2 rfl) ?_
        refine lv_iload_n hx hb dX7_ask_52 rfl (lv_at hl 3 rfl) ?_
        refine lv_iload_n hx hb dX7_ask_53 rfl (lv_at hl 4 rfl) ?_
        refine lv_iload hx hb dX7_ask_54 (lv_at hl 1 rfl) ?_
        refine lv_iload hx hb dX7_ask_56 (lv_at hl 6 rfl) ?_
        obtain ⟨_, ho, h⟩ := bs h
        obtain ⟨x12, S13, hc, h⟩ := bs2 h
        refine o_backi w hLA (o_runV (As := [.int v1, .int v2, .int x11, .int v4]) (rest := []) C w (c_X7_judge l D G L S v0 v1 v2 x11 v4 (x12, S13) hc) ml_X7_90 mv_X7_judge hR_X7_judge ho rfl hl.1 rfl (Nat.le_of_ble_eq_true rfl) dX7_ask_58 hcs) (fun H locs w => ?_)
        refine lv_if_eq (tgt := 114) hx hb dX7_ask_61 (by decide) (fun cc61 => ?_) (fun cc61 => ?_)
        · have h := it cc61 h
          exact hb114 _ _ _ _ _ _ _ h H locs ls w (lv_sub hl [2, 3, 4, 6, 1, 0] rfl)
        · have h := ie cc61 h
          refine lv_aload_n hx hb dX7_ask_64 rfl (lv_at hl 2 rfl) ?_
          obtain ⟨x14, hx14, h⟩ := bs h
          refine o_gR C w hx14 fl_X7_27 dX7_ask_65 ?_
          obtain ⟨x15, hx15, h⟩ := bs h
          refine o_gR C w hx15 fl_X7_94 dX7_ask_68 ?_
          refine lv_aload_n hx hb dX7_ask_71 rfl (lv_at hl 2 rfl) ?_
          obtain ⟨x16, hx16, h⟩ := bs h
          refine o_gR C w hx16 fl_X7_12 dX7_ask_72 ?_
          obtain ⟨x17, hx17, h⟩ := bs h
          refine o_gR C w hx17 fl_X7_38 dX7_ask_75 ?_
          obtain ⟨_, ho, h⟩ := bs h
          obtain ⟨x18, hc, h⟩ := bs h
          refine o_backi w hLA (o_runV (As := []) (rest := [.ref x15]) C w (c_X2_hiddenTable l D G L S13 x17 x18 hc) ml_X7_97 mv_X2_hiddenTable hR_X2_hiddenTable ho rfl hl.1 rfl (Nat.le_of_ble_eq_true rfl) dX7_ask_78 hcs) (fun H locs w => ?_)
          obtain ⟨x19, hx19, h⟩ := bs h
          refine o_ldI C w hx19 dX7_ask_81 ?_
          refine lv_istore (lv' := [(6, .int x19), (5, .int x11), (0, .ref v0), (1, .int v1), (2, .int v2), (3, .int v3), (4, .int v4)]) hx hb dX7_ask_82 hl (by decide) rfl (fun ls hl => ?_)
          refine lv_aload_n hx hb dX7_ask_84 rfl (lv_at hl 2 rfl) ?_
          obtain ⟨x20, hx20, h⟩ := bs h
          refine o_gR C w hx20 fl_X7_12 dX7_ask_85 ?_
          obtain ⟨x21, hx21, h⟩ := bs h
          refine o_gR C w hx21 fl_X7_101 dX7_ask_88 ?_
          refine lv_iload_n hx hb dX7_ask_91 rfl (lv_at hl 3 rfl) ?_
          refine lv_aload_n hx hb dX7_ask_92 rfl (lv_at hl 2 rfl) ?_
          obtain ⟨x22, hx22, h⟩ := bs h
          refine o_gR C w hx22 fl_X7_12 dX7_ask_93 ?_
          obtain ⟨x23, hx23, h⟩ := bs h
          refine o_gR C w hx23 fl_X7_38 dX7_ask_96 ?_
          obtain ⟨x24, hx24, h⟩ := bs h
          refine o_gI C w hx24 fl_X7_105 dX7_ask_99 ?_
          refine lv_aload_n hx hb dX7_ask_102 rfl (lv_at hl 2 rfl) ?_
          obtain ⟨x25, hx25, h⟩ := bs h
          refine o_gR C w hx25 fl_X7_27 dX7_ask_103 ?_
          obtain ⟨x26, hx26, h⟩ := bs h
          refine o_gR C w hx26 fl_X7_94 dX7_ask_106 ?_
          refine lv_iload hx hb dX7_ask_109 (lv_at hl 0 rfl) ?_
          obtain ⟨_, ho, h⟩ := bs h
          obtain ⟨S27, hc, h⟩ := bs h
          refine o_backv w hLA (o_runV (As := [.int v1, .int x24, .ref x26, .int x19]) (rest := []) C w (c_X1_keepOnly l D G L S13 x21 v1 x24 x26 x19 S27 hc) ml_X7_108 mv_X1_keepOnly hR_X1_keepOnly ho rfl hl.1 rfl (Nat.le_of_ble_eq_true rfl) dX7_ask_111 hcs) (fun H locs w => ?_)
          exact hb114 _ _ _ _ _ _ _ h H locs ls w (lv_sub hl [2, 3, 4, 6, 1, 0] rfl)
      · have h := ie cc29 h
        refine lv_iconst (v := -1) hx hb dX7_ask_32 (by decide) ?_
        exact hret _ _ _ _ _ _ w (Option.some.inj h) dX7_ask_33
set_option maxHeartbeats 4000000 in
set_option maxRecDepth 100000 in
theorem c_X7_ask (l : Launch) (D : va_G) (G : Nat → ClassId) (L : List Nat) (S : PH) (v0 : Nat) (v1 : Int32) (v2 : Int32) (v3 : Int32) (v4 : Int32) (r : Int32 × PH) (h : f_X7_ask S v0 v1 v2 v3 v4 = some r) : Met l yX7_ask [Cond.code yX7_ask cX7_ask 7 (some .int)] ({ frames := 5, cells := 0, slots := 0, locals := 117 }) (va_Pc [.ref v0, .int v1, .int v2, .int v3, .int v4] (PreU D G L S)) (Qi D G L r.1 r.2) 0 0 (inL L) := by
  refine Met.ofW (cc := cX7_ask) (maxL := 7) (ret := (some .int)) (by decide) rfl ?_
  intro p e s m args below meth c s₁ B hml hv
  obtain ⟨rfl, hpre⟩ := hv
  obtain ⟨C, w⟩ := o_ent (own := RX7) rfl B hml hpre
  have hl := lv_entry ([.ref v0, .int v1, .int v2, .int v3, .int v4]) (n := 7) (Nat.le_of_ble_eq_true rfl)
  rw [lg_entry_eq]
  generalize (lg_sl ([.ref v0, .int v1, .int v2, .int v3, .int v4]) ++ List.replicate (7 - (lg_sl ([.ref v0, .int v1, .int v2, .int v3, .int v4])).length) Slot.unset).toArray = ls at hl ⊢
  exact w_X7_ask C (fun _ h => h) ⟨Nat.zero_le _, Nat.zero_le _⟩ ⟨rfl, rfl, Nat.le_of_ble_eq_true rfl, Nat.le_of_ble_eq_true rfl⟩ ⟨rfl, rfl, Nat.le_of_ble_eq_true rfl, Nat.le_of_ble_eq_true rfl⟩ ⟨rfl, rfl, Nat.le_of_ble_eq_true rfl, Nat.le_of_ble_eq_true rfl⟩ ⟨rfl, rfl, Nat.le_of_ble_eq_true rfl, Nat.le_of_ble_eq_true rfl⟩ ⟨rfl, rfl, Nat.le_of_ble_eq_true rfl, Nat.le_of_ble_eq_true rfl⟩ ⟨rfl, rfl, Nat.le_of_ble_eq_true rfl, Nat.le_of_ble_eq_true rfl⟩ ⟨rfl, rfl, Nat.le_of_ble_eq_true rfl, Nat.le_of_ble_eq_true rfl⟩ S v0 v1 v2 v3 v4 r h (fun v S9 H locs ls pc w hv hd => by subst hv; exact o_iret C w B.returns B.notSynchronized hd) _ _ _ w hl

def f_X7_would (S : PH) (v0 : Nat) (v1 : Int32) (v2 : Int32) (v3 : Int32) (v4 : Int32) : Option (Int32 × PH) :=
(f_X7_isAsker v1).bind fun x1 =>
if x1 = 0 then (
some ((-1 : Int32), S))
else (
(f_X7_isQuestion v2 v4).bind fun x2 =>
if x2 = 0 then (
some ((-1 : Int32), S))
else (
(gR S v0 7 0).bind fun x3 =>
(gR S x3 5 0).bind fun x4 =>
(ckO S x4 2).bind fun _ =>
(f_X2_onlyPeople S x4 v3).bind fun x5 =>
(ckO S v0 7).bind fun _ =>
bd2 (f_X7_judge S v0 v1 v2 x5 v4) fun x6 S7 =>
some (x6, S7)))
set_option maxHeartbeats 4000000 in
set_option maxRecDepth 100000 in
theorem w_X7_would {p : Program} {l : Launch} {e : Env} {R : Room} {s : State} {m : MethodId} {args : Array Value} {below : List Frame} {meth : Method} {c : Code} {cells slots : Nat} {Q : State → Prop} {D : va_G} {G : Nat → ClassId} {L : List Nat} {A : Nat → Prop} {H0 : Heap} (C : CX p s m c args D G cX7_would 5 RX7) (hLA : ∀ q ∈ L, A q) (hcs : cells ≤ R.cells ∧ slots ≤ R.slots) (hR_X7_isAsker : RoomOk R ({ frames := 0, cells := 0, slots := 0, locals := 0 }) 1) (hR_X7_isQuestion : RoomOk R ({ frames := 0, cells := 0, slots := 0, locals := 0 }) 2) (hR_X2_onlyPeople : RoomOk R ({ frames := 0, cells := 0, slots := 0, locals := 0 }) 2) (hR_X7_judge : RoomOk R ({ frames := 4, cells := 0, slots := 0, locals := 93 }) 5) (S : PH) (v0 : Nat) (v1 : Int32) (v2 : Int32) (v3 : Int32) (v4 : Int32) (r : Int32 × PH) (h : f_X7_would S v0 v1 v2 v3 v4 = some r) (hret : ∀ (v : Int32) (S9 : PH) (H : Heap) (locs : List Loc) (ls : Array Slot) (pc : Nat), Wd D G L A H0 S9 H locs → (v, S9) = r → decode cX7_would pc = .ok (.ireturn, 1) → W p l e R s m args below meth c H locs cells slots Q (F0 m pc ls [.int v])) : ∀ (H : Heap) (locs : List Loc) (ls : Array Slot), Wd D G L A H0 S H locs → lv_has ls 5 [(0, .ref v0), (1, .int v1), (2, .int v2), (3, .int v3), (4, .int v4)] → W p l e R s m args below meth c H locs cells slots Q (F0 m 0 ls []) := by
  have hx := C.1.1
  have hb := C.1.2.1
  unfold f_X7_would at h
  intro H locs ls w hl
  refine lv_iload_n hx hb dX7_would_0 rfl (lv_at hl 1 rfl) ?_
  obtain ⟨x1, hc, h⟩ := bs h
  refine o_backi w hLA (o_runS (As := [.int v1]) (rest := []) C w (c_X7_isAsker l D G L S v1 x1 hc) ml_X7_69 st_X7_isAsker hR_X7_isAsker rfl hl.1 rfl (Nat.le_of_ble_eq_true rfl) dX7_would_1 hcs) (fun H locs w => ?_)
  refine lv_if_eq (tgt := 16) hx hb dX7_would_4 (by decide) (fun cc4 => ?_) (fun cc4 => ?_)
  · have h := it cc4 h
    refine lv_iconst (v := -1) hx hb dX7_would_16 (by decide) ?_
    exact hret _ _ _ _ _ _ w (Option.some.inj h) dX7_would_17
  · have h := ie cc4 h
    refine lv_iload_n hx hb dX7_would_7 rfl (lv_at hl 2 rfl) ?_
    refine lv_iload hx hb dX7_would_8 (lv_at hl 4 rfl) ?_
    obtain ⟨x2, hc, h⟩ := bs h
    refine o_backi w hLA (o_runS (As := [.int v2, .int v4]) (rest := []) C w (c_X7_isQuestion l D G L S v2 v4 x2 hc) ml_X7_73 st_X7_isQuestion hR_X7_isQuestion rfl hl.1 rfl (Nat.le_of_ble_eq_true rfl) dX7_would_10 hcs) (fun H locs w => ?_)
    refine lv_if_ne (tgt := 18) hx hb dX7_would_13 (by decide) (fun cc13 => ?_) (fun cc13 => ?_)
    · have h := ie cc13 h
      refine lv_aload_n hx hb dX7_would_18 rfl (lv_at hl 0 rfl) ?_
      refine lv_iload_n hx hb dX7_would_19 rfl (lv_at hl 1 rfl) ?_
      refine lv_iload_n hx hb dX7_would_20 rfl (lv_at hl 2 rfl) ?_
      refine lv_aload_n hx hb dX7_would_21 rfl (lv_at hl 0 rfl) ?_
      obtain ⟨x3, hx3, h⟩ := bs h
      refine o_gR C w hx3 fl_X7_12 dX7_would_22 ?_
      obtain ⟨x4, hx4, h⟩ := bs h
      refine o_gR C w hx4 fl_X7_38 dX7_would_25 ?_
      refine lv_iload_n hx hb dX7_would_28 rfl (lv_at hl 3 rfl) ?_
      obtain ⟨_, ho, h⟩ := bs h
      obtain ⟨x5, hc, h⟩ := bs h
      refine o_backi w hLA (o_runV (As := [.int v3]) (rest := [.int v2, .int v1, .ref v0]) C w (c_X2_onlyPeople l D G L S x4 v3 x5 hc) ml_X7_86 mv_X2_onlyPeople hR_X2_onlyPeople ho rfl hl.1 rfl (Nat.le_of_ble_eq_true rfl) dX7_would_29 hcs) (fun H locs w => ?_)
      refine lv_iload hx hb dX7_would_32 (lv_at hl 4 rfl) ?_
      obtain ⟨_, ho, h⟩ := bs h
      obtain ⟨x6, S7, hc, h⟩ := bs2 h
      refine o_backi w hLA (o_runV (As := [.int v1, .int v2, .int x5, .int v4]) (rest := []) C w (c_X7_judge l D G L S v0 v1 v2 x5 v4 (x6, S7) hc) ml_X7_90 mv_X7_judge hR_X7_judge ho rfl hl.1 rfl (Nat.le_of_ble_eq_true rfl) dX7_would_34 hcs) (fun H locs w => ?_)
      exact hret _ _ _ _ _ _ w (Option.some.inj h) dX7_would_37
    · have h := it cc13 h
      refine lv_iconst (v := -1) hx hb dX7_would_16 (by decide) ?_
      exact hret _ _ _ _ _ _ w (Option.some.inj h) dX7_would_17
set_option maxHeartbeats 4000000 in
set_option maxRecDepth 100000 in
theorem c_X7_would (l : Launch) (D : va_G) (G : Nat → ClassId) (L : List Nat) (S : PH) (v0 : Nat) (v1 : Int32) (v2 : Int32) (v3 : Int32) (v4 : Int32) (r : Int32 × PH) (h : f_X7_would S v0 v1 v2 v3 v4 = some r) : Met l yX7_would [Cond.code yX7_would cX7_would 5 (some .int)] ({ frames := 5, cells := 0, slots := 0, locals := 117 }) (va_Pc [.ref v0, .int v1, .int v2, .int v3, .int v4] (PreU D G L S)) (Qi D G L r.1 r.2) 0 0 (inL L) := by
  refine Met.ofW (cc := cX7_would) (maxL := 5) (ret := (some .int)) (by decide) rfl ?_
  intro p e s m args below meth c s₁ B hml hv
  obtain ⟨rfl, hpre⟩ := hv
  obtain ⟨C, w⟩ := o_ent (own := RX7) rfl B hml hpre
  have hl := lv_entry ([.ref v0, .int v1, .int v2, .int v3, .int v4]) (n := 5) (Nat.le_of_ble_eq_true rfl)
  rw [lg_entry_eq]
  generalize (lg_sl ([.ref v0, .int v1, .int v2, .int v3, .int v4]) ++ List.replicate (5 - (lg_sl ([.ref v0, .int v1, .int v2, .int v3, .int v4])).length) Slot.unset).toArray = ls at hl ⊢
  exact w_X7_would C (fun _ h => h) ⟨Nat.zero_le _, Nat.zero_le _⟩ ⟨rfl, rfl, Nat.le_of_ble_eq_true rfl, Nat.le_of_ble_eq_true rfl⟩ ⟨rfl, rfl, Nat.le_of_ble_eq_true rfl, Nat.le_of_ble_eq_true rfl⟩ ⟨rfl, rfl, Nat.le_of_ble_eq_true rfl, Nat.le_of_ble_eq_true rfl⟩ ⟨rfl, rfl, Nat.le_of_ble_eq_true rfl, Nat.le_of_ble_eq_true rfl⟩ S v0 v1 v2 v3 v4 r h (fun v S9 H locs ls pc w hv hd => by subst hv; exact o_iret C w B.returns B.notSynchronized hd) _ _ _ w hl

def f_X7_join (S : PH) (v0 : Nat) (v1 : Int32) (v2 : Int32) : Option (Int32 × PH) :=
(f_X7_isAsker v1).bind fun x1 =>
if x1 = 0 then (
some ((0 : Int32), S))
else (
(f_X7_isAsker v2).bind fun x2 =>
if x2 = 0 then (
some ((0 : Int32), S))
else (
(gR S v0 7 0).bind fun x3 =>
(gR S x3 5 1).bind fun x4 =>
(ckO S x4 1).bind fun _ =>
bd2 (f_X1_unite S x4 v1 v2) fun x5 S6 =>
(ckZ x5).bind fun _ =>
some (x5, S6)))
set_option maxHeartbeats 4000000 in
set_option maxRecDepth 100000 in
theorem w_X7_join {p : Program} {l : Launch} {e : Env} {R : Room} {s : State} {m : MethodId} {args : Array Value} {below : List Frame} {meth : Method} {c : Code} {cells slots : Nat} {Q : State → Prop} {D : va_G} {G : Nat → ClassId} {L : List Nat} {A : Nat → Prop} {H0 : Heap} (C : CX p s m c args D G cX7_join 3 RX7) (hLA : ∀ q ∈ L, A q) (hcs : cells ≤ R.cells ∧ slots ≤ R.slots) (hR_X7_isAsker : RoomOk R ({ frames := 0, cells := 0, slots := 0, locals := 0 }) 1) (hR_X1_unite : RoomOk R ({ frames := 0, cells := 0, slots := 0, locals := 0 }) 6) (S : PH) (v0 : Nat) (v1 : Int32) (v2 : Int32) (r : Int32 × PH) (h : f_X7_join S v0 v1 v2 = some r) (hret : ∀ (v : Int32) (S9 : PH) (H : Heap) (locs : List Loc) (ls : Array Slot) (pc : Nat), Wd D G L A H0 S9 H locs → narrow .boolean (.int v) = .int v → (v, S9) = r → decode cX7_join pc = .ok (.ireturn, 1) → W p l e R s m args below meth c H locs cells slots Q (F0 m pc ls [.int v])) : ∀ (H : Heap) (locs : List Loc) (ls : Array Slot), Wd D G L A H0 S H locs → lv_has ls 3 [(0, .ref v0), (1, .int v1), (2, .int v2)] → W p l e R s m args below meth c H locs cells slots Q (F0 m 0 ls []) := by
  have hx := C.1.1
  have hb := C.1.2.1
  unfold f_X7_join at h
  intro H locs ls w hl
  refine lv_iload_n hx hb dX7_join_0 rfl (lv_at hl 1 rfl) ?_
  obtain ⟨x1, hc, h⟩ := bs h
  refine o_backi w hLA (o_runS (As := [.int v1]) (rest := []) C w (c_X7_isAsker l D G L S v1 x1 hc) ml_X7_69 st_X7_isAsker hR_X7_isAsker rfl hl.1 rfl (Nat.le_of_ble_eq_true rfl) dX7_join_1 hcs) (fun H locs w => ?_)
  refine lv_if_eq (tgt := 14) hx hb dX7_join_4 (by decide) (fun cc4 => ?_) (fun cc4 => ?_)
  · have h := it cc4 h
    refine lv_iconst (v := 0) hx hb dX7_join_14 (by decide) ?_
    exact hret _ _ _ _ _ _ w rfl (Option.some.inj h) dX7_join_15
  · have h := ie cc4 h
    refine lv_iload_n hx hb dX7_join_7 rfl (lv_at hl 2 rfl) ?_
    obtain ⟨x2, hc, h⟩ := bs h
    refine o_backi w hLA (o_runS (As := [.int v2]) (rest := []) C w (c_X7_isAsker l D G L S v2 x2 hc) ml_X7_69 st_X7_isAsker hR_X7_isAsker rfl hl.1 rfl (Nat.le_of_ble_eq_true rfl) dX7_join_8 hcs) (fun H locs w => ?_)
    refine lv_if_ne (tgt := 16) hx hb dX7_join_11 (by decide) (fun cc11 => ?_) (fun cc11 => ?_)
    · have h := ie cc11 h
      refine lv_aload_n hx hb dX7_join_16 rfl (lv_at hl 0 rfl) ?_
      obtain ⟨x3, hx3, h⟩ := bs h
      refine o_gR C w hx3 fl_X7_12 dX7_join_17 ?_
      obtain ⟨x4, hx4, h⟩ := bs h
      refine o_gR C w hx4 fl_X7_101 dX7_join_20 ?_
      refine lv_iload_n hx hb dX7_join_23 rfl (lv_at hl 1 rfl) ?_
      refine lv_iload_n hx hb dX7_join_24 rfl (lv_at hl 2 rfl) ?_
      obtain ⟨_, ho, h⟩ := bs h
      obtain ⟨x5, S6, hc, h⟩ := bs2 h
      refine o_backi w hLA (o_runV (As := [.int v1, .int v2]) (rest := []) C w (c_X1_unite l D G L S x4 v1 v2 (x5, S6) hc) ml_X7_117 mv_X1_unite hR_X1_unite ho rfl hl.1 rfl (Nat.le_of_ble_eq_true rfl) dX7_join_25 hcs) (fun H locs w => ?_)
      obtain ⟨_, hz, h⟩ := bs h
      exact hret _ _ _ _ _ _ w (ckZ_some hz) (Option.some.inj h) dX7_join_28
    · have h := it cc11 h
      refine lv_iconst (v := 0) hx hb dX7_join_14 (by decide) ?_
      exact hret _ _ _ _ _ _ w rfl (Option.some.inj h) dX7_join_15
set_option maxHeartbeats 4000000 in
set_option maxRecDepth 100000 in
theorem c_X7_join (l : Launch) (D : va_G) (G : Nat → ClassId) (L : List Nat) (S : PH) (v0 : Nat) (v1 : Int32) (v2 : Int32) (r : Int32 × PH) (h : f_X7_join S v0 v1 v2 = some r) : Met l yX7_join [Cond.code yX7_join cX7_join 3 (some .boolean)] ({ frames := 1, cells := 0, slots := 0, locals := 25 }) (va_Pc [.ref v0, .int v1, .int v2] (PreU D G L S)) (Qi D G L r.1 r.2) 0 0 (inL L) := by
  refine Met.ofW (cc := cX7_join) (maxL := 3) (ret := (some .boolean)) (by decide) rfl ?_
  intro p e s m args below meth c s₁ B hml hv
  obtain ⟨rfl, hpre⟩ := hv
  obtain ⟨C, w⟩ := o_ent (own := RX7) rfl B hml hpre
  have hl := lv_entry ([.ref v0, .int v1, .int v2]) (n := 3) (Nat.le_of_ble_eq_true rfl)
  rw [lg_entry_eq]
  generalize (lg_sl ([.ref v0, .int v1, .int v2]) ++ List.replicate (3 - (lg_sl ([.ref v0, .int v1, .int v2])).length) Slot.unset).toArray = ls at hl ⊢
  exact w_X7_join C (fun _ h => h) ⟨Nat.zero_le _, Nat.zero_le _⟩ ⟨rfl, rfl, Nat.le_of_ble_eq_true rfl, Nat.le_of_ble_eq_true rfl⟩ ⟨rfl, rfl, Nat.le_of_ble_eq_true rfl, Nat.le_of_ble_eq_true rfl⟩ S v0 v1 v2 r h (fun v S9 H locs ls pc w hz hv hd => by subst hv; exact o_zret C w B.returns B.notSynchronized hz hd) _ _ _ w hl

def f_X7_seenBy (S : PH) (v0 : Nat) (v1 : Int32) : Option (Int64 × PH) :=
(gR S v0 7 3).bind fun x1 =>
(gR S v0 7 0).bind fun x2 =>
(gR S x2 5 0).bind fun x3 =>
(ckO S x1 3).bind fun _ =>
(f_X3_markTables S x1 x3).bind fun S4 =>
(gR S4 v0 7 3).bind fun x5 =>
(gR S4 v0 7 0).bind fun x6 =>
(gR S4 x6 5 1).bind fun x7 =>
(ckO S4 x7 1).bind fun _ =>
(f_X1_leftOf S4 x7 v1).bind fun x8 =>
(gR S4 v0 7 0).bind fun x9 =>
(gR S4 x9 5 0).bind fun x10 =>
(gI S4 x10 2 9).bind fun x11 =>
(ckO S4 x5 3).bind fun _ =>
(f_X3_seenIn S4 x5 x8 x11).bind fun x12 =>
some (x12, S4)
set_option maxHeartbeats 4000000 in
set_option maxRecDepth 100000 in
theorem w_X7_seenBy {p : Program} {l : Launch} {e : Env} {R : Room} {s : State} {m : MethodId} {args : Array Value} {below : List Frame} {meth : Method} {c : Code} {cells slots : Nat} {Q : State → Prop} {D : va_G} {G : Nat → ClassId} {L : List Nat} {A : Nat → Prop} {H0 : Heap} (C : CX p s m c args D G cX7_seenBy 2 RX7) (hLA : ∀ q ∈ L, A q) (hcs : cells ≤ R.cells ∧ slots ≤ R.slots) (hR_X3_markTables : RoomOk R ({ frames := 1, cells := 0, slots := 0, locals := 21 }) 9) (hR_X1_leftOf : RoomOk R ({ frames := 0, cells := 0, slots := 0, locals := 0 }) 2) (hR_X3_seenIn : RoomOk R ({ frames := 1, cells := 0, slots := 0, locals := 21 }) 6) (S : PH) (v0 : Nat) (v1 : Int32) (r : Int64 × PH) (h : f_X7_seenBy S v0 v1 = some r) (hret : ∀ (v : Int64) (S9 : PH) (H : Heap) (locs : List Loc) (ls : Array Slot) (pc : Nat), Wd D G L A H0 S9 H locs → (v, S9) = r → decode cX7_seenBy pc = .ok (.lreturn, 1) → W p l e R s m args below meth c H locs cells slots Q (F0 m pc ls [.long v])) : ∀ (H : Heap) (locs : List Loc) (ls : Array Slot), Wd D G L A H0 S H locs → lv_has ls 2 [(0, .ref v0), (1, .int v1)] → W p l e R s m args below meth c H locs cells slots Q (F0 m 0 ls []) := by
  have hx := C.1.1
  have hb := C.1.2.1
  unfold f_X7_seenBy at h
  intro H locs ls w hl
  refine lv_aload_n hx hb dX7_seenBy_0 rfl (lv_at hl 0 rfl) ?_
  obtain ⟨x1, hx1, h⟩ := bs h
  refine o_gR C w hx1 fl_X7_27 dX7_seenBy_1 ?_
  refine lv_aload_n hx hb dX7_seenBy_4 rfl (lv_at hl 0 rfl) ?_
  obtain ⟨x2, hx2, h⟩ := bs h
  refine o_gR C w hx2 fl_X7_12 dX7_seenBy_5 ?_
  obtain ⟨x3, hx3, h⟩ := bs h
  refine o_gR C w hx3 fl_X7_38 dX7_seenBy_8 ?_
  obtain ⟨_, ho, h⟩ := bs h
  obtain ⟨S4, hc, h⟩ := bs h
  refine o_backv w hLA (o_runV (As := [.ref x3]) (rest := []) C w (c_X3_markTables l D G L S x1 x3 S4 hc) ml_X7_194 mv_X3_markTables hR_X3_markTables ho rfl hl.1 rfl (Nat.le_of_ble_eq_true rfl) dX7_seenBy_11 hcs) (fun H locs w => ?_)
  refine lv_aload_n hx hb dX7_seenBy_14 rfl (lv_at hl 0 rfl) ?_
  obtain ⟨x5, hx5, h⟩ := bs h
  refine o_gR C w hx5 fl_X7_27 dX7_seenBy_15 ?_
  refine lv_aload_n hx hb dX7_seenBy_18 rfl (lv_at hl 0 rfl) ?_
  obtain ⟨x6, hx6, h⟩ := bs h
  refine o_gR C w hx6 fl_X7_12 dX7_seenBy_19 ?_
  obtain ⟨x7, hx7, h⟩ := bs h
  refine o_gR C w hx7 fl_X7_101 dX7_seenBy_22 ?_
  refine lv_iload_n hx hb dX7_seenBy_25 rfl (lv_at hl 1 rfl) ?_
  obtain ⟨_, ho, h⟩ := bs h
  obtain ⟨x8, hc, h⟩ := bs h
  refine o_backr w hLA (o_runV (As := [.int v1]) (rest := [.ref x5]) C w (c_X1_leftOf l D G L S4 x7 v1 x8 hc) ml_X7_202 mv_X1_leftOf hR_X1_leftOf ho rfl hl.1 rfl (Nat.le_of_ble_eq_true rfl) dX7_seenBy_26 hcs) (fun H locs w => ?_)
  refine lv_aload_n hx hb dX7_seenBy_29 rfl (lv_at hl 0 rfl) ?_
  obtain ⟨x9, hx9, h⟩ := bs h
  refine o_gR C w hx9 fl_X7_12 dX7_seenBy_30 ?_
  obtain ⟨x10, hx10, h⟩ := bs h
  refine o_gR C w hx10 fl_X7_38 dX7_seenBy_33 ?_
  obtain ⟨x11, hx11, h⟩ := bs h
  refine o_gI C w hx11 fl_X7_105 dX7_seenBy_36 ?_
  obtain ⟨_, ho, h⟩ := bs h
  obtain ⟨x12, hc, h⟩ := bs h
  refine o_backl w hLA (o_runV (As := [.ref x8, .int x11]) (rest := []) C w (c_X3_seenIn l D G L S4 x5 x8 x11 x12 hc) ml_X7_217 mv_X3_seenIn hR_X3_seenIn ho rfl hl.1 rfl (Nat.le_of_ble_eq_true rfl) dX7_seenBy_39 hcs) (fun H locs w => ?_)
  exact hret _ _ _ _ _ _ w (Option.some.inj h) dX7_seenBy_42
set_option maxHeartbeats 4000000 in
set_option maxRecDepth 100000 in
theorem c_X7_seenBy (l : Launch) (D : va_G) (G : Nat → ClassId) (L : List Nat) (S : PH) (v0 : Nat) (v1 : Int32) (r : Int64 × PH) (h : f_X7_seenBy S v0 v1 = some r) : Met l yX7_seenBy [Cond.code yX7_seenBy cX7_seenBy 2 (some .long)] ({ frames := 2, cells := 0, slots := 0, locals := 49 }) (va_Pc [.ref v0, .int v1] (PreU D G L S)) (Ql D G L r.1 r.2) 0 0 (inL L) := by
  refine Met.ofW (cc := cX7_seenBy) (maxL := 2) (ret := (some .long)) (by decide) rfl ?_
  intro p e s m args below meth c s₁ B hml hv
  obtain ⟨rfl, hpre⟩ := hv
  obtain ⟨C, w⟩ := o_ent (own := RX7) rfl B hml hpre
  have hl := lv_entry ([.ref v0, .int v1]) (n := 2) (Nat.le_of_ble_eq_true rfl)
  rw [lg_entry_eq]
  generalize (lg_sl ([.ref v0, .int v1]) ++ List.replicate (2 - (lg_sl ([.ref v0, .int v1])).length) Slot.unset).toArray = ls at hl ⊢
  exact w_X7_seenBy C (fun _ h => h) ⟨Nat.zero_le _, Nat.zero_le _⟩ ⟨rfl, rfl, Nat.le_of_ble_eq_true rfl, Nat.le_of_ble_eq_true rfl⟩ ⟨rfl, rfl, Nat.le_of_ble_eq_true rfl, Nat.le_of_ble_eq_true rfl⟩ ⟨rfl, rfl, Nat.le_of_ble_eq_true rfl, Nat.le_of_ble_eq_true rfl⟩ S v0 v1 r h (fun v S9 H locs ls pc w hv hd => by subst hv; exact o_lret C w B.returns B.notSynchronized hd) _ _ _ w hl

def f_X7_lowestBit_L2 (v0 : Int32) (v1 : Int32) : Option ((Int32) ⊕ (Int32)) :=
if (20 : Int32) ≤ v1 then (
some (.inr v1))
else (
(f_X7_holdsBit v0 v1).bind fun x1 =>
if x1 = 0 then (
some (.inl (v1 + 1)))
else (
some (.inr v1)))
def f_X7_lowestBit (v0 : Int32) : Option (Int32) :=
(lpo (fun x : Int32 => f_X7_lowestBit_L2 v0 x) FU (0 : Int32)).bind fun y2 =>
some y2
set_option maxHeartbeats 4000000 in
set_option maxRecDepth 100000 in
theorem w_X7_lowestBit {p : Program} {l : Launch} {e : Env} {R : Room} {s : State} {m : MethodId} {args : Array Value} {below : List Frame} {meth : Method} {c : Code} {cells slots : Nat} {Q : State → Prop} {D : va_G} {G : Nat → ClassId} {L : List Nat} {A : Nat → Prop} {H0 : Heap} (C : CX p s m c args D G cX7_lowestBit 2 RX7) (hLA : ∀ q ∈ L, A q) (hcs : cells ≤ R.cells ∧ slots ≤ R.slots) (hR_X7_holdsBit : RoomOk R ({ frames := 0, cells := 0, slots := 0, locals := 0 }) 2) (S : PH) (v0 : Int32) (r : Int32) (h : f_X7_lowestBit v0 = some r) (hret : ∀ (v : Int32) (H : Heap) (locs : List Loc) (ls : Array Slot) (pc : Nat), Wd D G L A H0 S H locs → v = r → decode cX7_lowestBit pc = .ok (.ireturn, 1) → W p l e R s m args below meth c H locs cells slots Q (F0 m pc ls [.int v])) : ∀ (H : Heap) (locs : List Loc) (ls : Array Slot), Wd D G L A H0 S H locs → lv_has ls 2 [(0, .int v0)] → W p l e R s m args below meth c H locs cells slots Q (F0 m 0 ls []) := by
  have hx := C.1.1
  have hb := C.1.2.1
  unfold f_X7_lowestBit at h
  intro H locs ls w hl
  refine lv_iconst (v := 0) hx hb dX7_lowestBit_0 (by decide) ?_
  refine lv_istore_n (lv' := [(1, .int (0 : Int32)), (0, .int v0)]) hx hb dX7_lowestBit_1 rfl hl (by decide) rfl (fun ls hl => ?_)
  obtain ⟨y2, hL2, h⟩ := bs h
  have hE2 : ∀ (q3 : Int32), y2 = q3 → ∀ (H : Heap) (locs : List Loc) (ls : Array Slot), Wd D G L A H0 S H locs → lv_has ls 2 [(1, .int q3)] → W p l e R s m args below meth c H locs cells slots Q (F0 m 22 ls []) := by
    intro q3 he
    cases he
    intro H locs ls w hl
    refine lv_iload_n hx hb dX7_lowestBit_22 rfl (lv_at hl 0 rfl) ?_
    exact hret _ _ _ _ _ w (Option.some.inj h) dX7_lowestBit_23
  refine lpo_W (P := fun x : Int32 => ∀ (H : Heap) (locs : List Loc) (ls : Array Slot), Wd D G L A H0 S H locs → lv_has ls 2 [(0, .int v0), (1, .int x)] → W p l e R s m args below meth c H locs cells slots Q (F0 m 2 ls [])) ?_ FU _ hL2 H locs ls w (lv_sub hl [1, 0] rfl)
  intro t4 y2 h hnext2 hend2
  have h : f_X7_lowestBit_L2 v0 t4 = some y2 := h
  unfold f_X7_lowestBit_L2 at h
  intro H locs ls w hl
  have hl : lv_has ls 2 [(0, .int v0), (1, .int t4)] := hl
  refine lv_iload_n hx hb dX7_lowestBit_2 rfl (lv_at hl 1 rfl) ?_
  refine lv_bipush (v := 20) hx hb dX7_lowestBit_3 (by decide) ?_
  refine lv_icmp_ge (tgt := 22) hx hb dX7_lowestBit_5 (by decide) (fun cc5 => ?_) (fun cc5 => ?_)
  · have h := it cc5 h
    exact hE2 _ (hend2 _ (Option.some.inj h).symm).symm H locs ls w (lv_sub hl [1] rfl)
  · have h := ie cc5 h
    refine lv_iload_n hx hb dX7_lowestBit_8 rfl (lv_at hl 0 rfl) ?_
    refine lv_iload_n hx hb dX7_lowestBit_9 rfl (lv_at hl 1 rfl) ?_
    obtain ⟨x5, hc, h⟩ := bs h
    refine o_backi w hLA (o_runS (As := [.int v0, .int t4]) (rest := []) C w (c_X7_holdsBit l D G L S v0 t4 x5 hc) ml_X7_191 st_X7_holdsBit hR_X7_holdsBit rfl hl.1 rfl (Nat.le_of_ble_eq_true rfl) dX7_lowestBit_10 hcs) (fun H locs w => ?_)
    refine lv_if_ne (tgt := 22) hx hb dX7_lowestBit_13 (by decide) (fun cc13 => ?_) (fun cc13 => ?_)
    · have h := ie cc13 h
      exact hE2 _ (hend2 _ (Option.some.inj h).symm).symm H locs ls w (lv_sub hl [1] rfl)
    · have h := it cc13 h
      refine lv_iinc (v := (t4 + 1)) (lv' := [(1, .int (t4 + 1)), (0, .int v0)]) hx hb dX7_lowestBit_16 hl (k := 1) rfl rfl (by decide) rfl (fun ls hl => ?_)
      refine lv_goto (tgt := 2) hx hb dX7_lowestBit_19 (by decide) ?_
      exact hnext2 _ (Option.some.inj h).symm H locs ls w (lv_sub hl [1, 0] rfl)
set_option maxHeartbeats 4000000 in
set_option maxRecDepth 100000 in
theorem c_X7_lowestBit (l : Launch) (D : va_G) (G : Nat → ClassId) (L : List Nat) (S : PH) (v0 : Int32) (r : Int32) (h : f_X7_lowestBit v0 = some r) : Met l yX7_lowestBit [Cond.code yX7_lowestBit cX7_lowestBit 2 (some .int)] ({ frames := 1, cells := 0, slots := 0, locals := 21 }) (va_Pc [.int v0] (PreU D G L S)) (Qi D G L r S) 0 0 (inL L) := by
  refine Met.ofW (cc := cX7_lowestBit) (maxL := 2) (ret := (some .int)) (by decide) rfl ?_
  intro p e s m args below meth c s₁ B hml hv
  obtain ⟨rfl, hpre⟩ := hv
  obtain ⟨C, w⟩ := o_ent (own := RX7) rfl B hml hpre
  have hl := lv_entry ([.int v0]) (n := 2) (Nat.le_of_ble_eq_true rfl)
  rw [lg_entry_eq]
  generalize (lg_sl ([.int v0]) ++ List.replicate (2 - (lg_sl ([.int v0])).length) Slot.unset).toArray = ls at hl ⊢
  exact w_X7_lowestBit C (fun _ h => h) ⟨Nat.zero_le _, Nat.zero_le _⟩ ⟨rfl, rfl, Nat.le_of_ble_eq_true rfl, Nat.le_of_ble_eq_true rfl⟩ S v0 r h (fun v H locs ls pc w hv hd => by subst hv; exact o_iret C w B.returns B.notSynchronized hd) _ _ _ w hl

def f_X7_highestBit_L3 (v0 : Int32) (v1 : Int32) : Option ((Int32) ⊕ (Int32)) :=
if v1 ≤ 0 then (
some (.inr v1))
else (
(f_X7_holdsBit v0 v1).bind fun x1 =>
if x1 = 0 then (
some (.inl (v1 + (-1))))
else (
some (.inr v1)))
def f_X7_highestBit (v0 : Int32) : Option (Int32) :=
(lpo (fun x : Int32 => f_X7_highestBit_L3 v0 x) FU (20 : Int32)).bind fun y2 =>
some y2
set_option maxHeartbeats 4000000 in
set_option maxRecDepth 100000 in
theorem w_X7_highestBit {p : Program} {l : Launch} {e : Env} {R : Room} {s : State} {m : MethodId} {args : Array Value} {below : List Frame} {meth : Method} {c : Code} {cells slots : Nat} {Q : State → Prop} {D : va_G} {G : Nat → ClassId} {L : List Nat} {A : Nat → Prop} {H0 : Heap} (C : CX p s m c args D G cX7_highestBit 2 RX7) (hLA : ∀ q ∈ L, A q) (hcs : cells ≤ R.cells ∧ slots ≤ R.slots) (hR_X7_holdsBit : RoomOk R ({ frames := 0, cells := 0, slots := 0, locals := 0 }) 2) (S : PH) (v0 : Int32) (r : Int32) (h : f_X7_highestBit v0 = some r) (hret : ∀ (v : Int32) (H : Heap) (locs : List Loc) (ls : Array Slot) (pc : Nat), Wd D G L A H0 S H locs → v = r → decode cX7_highestBit pc = .ok (.ireturn, 1) → W p l e R s m args below meth c H locs cells slots Q (F0 m pc ls [.int v])) : ∀ (H : Heap) (locs : List Loc) (ls : Array Slot), Wd D G L A H0 S H locs → lv_has ls 2 [(0, .int v0)] → W p l e R s m args below meth c H locs cells slots Q (F0 m 0 ls []) := by
  have hx := C.1.1
  have hb := C.1.2.1
  unfold f_X7_highestBit at h
  intro H locs ls w hl
  refine lv_bipush (v := 20) hx hb dX7_highestBit_0 (by decide) ?_
  refine lv_istore_n (lv' := [(1, .int (20 : Int32)), (0, .int v0)]) hx hb dX7_highestBit_2 rfl hl (by decide) rfl (fun ls hl => ?_)
  obtain ⟨y2, hL3, h⟩ := bs h
  have hE3 : ∀ (q3 : Int32), y2 = q3 → ∀ (H : Heap) (locs : List Loc) (ls : Array Slot), Wd D G L A H0 S H locs → lv_has ls 2 [(1, .int q3)] → W p l e R s m args below meth c H locs cells slots Q (F0 m 21 ls []) := by
    intro q3 he
    cases he
    intro H locs ls w hl
    refine lv_iload_n hx hb dX7_highestBit_21 rfl (lv_at hl 0 rfl) ?_
    exact hret _ _ _ _ _ w (Option.some.inj h) dX7_highestBit_22
  refine lpo_W (P := fun x : Int32 => ∀ (H : Heap) (locs : List Loc) (ls : Array Slot), Wd D G L A H0 S H locs → lv_has ls 2 [(0, .int v0), (1, .int x)] → W p l e R s m args below meth c H locs cells slots Q (F0 m 3 ls [])) ?_ FU _ hL3 H locs ls w (lv_sub hl [1, 0] rfl)
  intro t4 y3 h hnext3 hend3
  have h : f_X7_highestBit_L3 v0 t4 = some y3 := h
  unfold f_X7_highestBit_L3 at h
  intro H locs ls w hl
  have hl : lv_has ls 2 [(0, .int v0), (1, .int t4)] := hl
  refine lv_iload_n hx hb dX7_highestBit_3 rfl (lv_at hl 1 rfl) ?_
  refine lv_if_le (tgt := 21) hx hb dX7_highestBit_4 (by decide) (fun cc4 => ?_) (fun cc4 => ?_)
  · have h := it cc4 h
    exact hE3 _ (hend3 _ (Option.some.inj h).symm).symm H locs ls w (lv_sub hl [1] rfl)
  · have h := ie cc4 h
    refine lv_iload_n hx hb dX7_highestBit_7 rfl (lv_at hl 0 rfl) ?_
    refine lv_iload_n hx hb dX7_highestBit_8 rfl (lv_at hl 1 rfl) ?_
    obtain ⟨x5, hc, h⟩ := bs h
    refine o_backi w hLA (o_runS (As := [.int v0, .int t4]) (rest := []) C w (c_X7_holdsBit l D G L S v0 t4 x5 hc) ml_X7_191 st_X7_holdsBit hR_X7_holdsBit rfl hl.1 rfl (Nat.le_of_ble_eq_true rfl) dX7_highestBit_9 hcs) (fun H locs w => ?_)
    refine lv_if_ne (tgt := 21) hx hb dX7_highestBit_12 (by decide) (fun cc12 => ?_) (fun cc12 => ?_)
    · have h := ie cc12 h
      exact hE3 _ (hend3 _ (Option.some.inj h).symm).symm H locs ls w (lv_sub hl [1] rfl)
    · have h := it cc12 h
      refine lv_iinc (v := (t4 + (-1))) (lv' := [(1, .int (t4 + (-1))), (0, .int v0)]) hx hb dX7_highestBit_15 hl (k := 1) rfl rfl (by decide) rfl (fun ls hl => ?_)
      refine lv_goto (tgt := 3) hx hb dX7_highestBit_18 (by decide) ?_
      exact hnext3 _ (Option.some.inj h).symm H locs ls w (lv_sub hl [1, 0] rfl)
set_option maxHeartbeats 4000000 in
set_option maxRecDepth 100000 in
theorem c_X7_highestBit (l : Launch) (D : va_G) (G : Nat → ClassId) (L : List Nat) (S : PH) (v0 : Int32) (r : Int32) (h : f_X7_highestBit v0 = some r) : Met l yX7_highestBit [Cond.code yX7_highestBit cX7_highestBit 2 (some .int)] ({ frames := 1, cells := 0, slots := 0, locals := 21 }) (va_Pc [.int v0] (PreU D G L S)) (Qi D G L r S) 0 0 (inL L) := by
  refine Met.ofW (cc := cX7_highestBit) (maxL := 2) (ret := (some .int)) (by decide) rfl ?_
  intro p e s m args below meth c s₁ B hml hv
  obtain ⟨rfl, hpre⟩ := hv
  obtain ⟨C, w⟩ := o_ent (own := RX7) rfl B hml hpre
  have hl := lv_entry ([.int v0]) (n := 2) (Nat.le_of_ble_eq_true rfl)
  rw [lg_entry_eq]
  generalize (lg_sl ([.int v0]) ++ List.replicate (2 - (lg_sl ([.int v0])).length) Slot.unset).toArray = ls at hl ⊢
  exact w_X7_highestBit C (fun _ h => h) ⟨Nat.zero_le _, Nat.zero_le _⟩ ⟨rfl, rfl, Nat.le_of_ble_eq_true rfl, Nat.le_of_ble_eq_true rfl⟩ S v0 r h (fun v H locs ls pc w hv hd => by subst hv; exact o_iret C w B.returns B.notSynchronized hd) _ _ _ w hl

def f_J6_bitCount_0f7a4 (v0 : Int32) : Option (Int32) :=
nm (v0 - ((v0.toUInt32 >>> ((1 : Int32).toUInt32 &&& Int32.toUInt32 31)).toInt32 &&& (1431655765 : Int32))) fun z1 =>
nm ((z1 &&& (858993459 : Int32)) + ((z1.toUInt32 >>> ((2 : Int32).toUInt32 &&& Int32.toUInt32 31)).toInt32 &&& (858993459 : Int32))) fun z2 =>
nm ((z2 + (z2.toUInt32 >>> ((4 : Int32).toUInt32 &&& Int32.toUInt32 31)).toInt32) &&& (252645135 : Int32)) fun z3 =>
nm (z3 + (z3.toUInt32 >>> ((8 : Int32).toUInt32 &&& Int32.toUInt32 31)).toInt32) fun z4 =>
nm (z4 + (z4.toUInt32 >>> ((16 : Int32).toUInt32 &&& Int32.toUInt32 31)).toInt32) fun z5 =>
some (z5 &&& (63 : Int32))
set_option maxHeartbeats 4000000 in
set_option maxRecDepth 100000 in
theorem w_J6_bitCount_0f7a4 {p : Program} {l : Launch} {e : Env} {R : Room} {s : State} {m : MethodId} {args : Array Value} {below : List Frame} {meth : Method} {c : Code} {cells slots : Nat} {Q : State → Prop} {D : va_G} {G : Nat → ClassId} {L : List Nat} {A : Nat → Prop} {H0 : Heap} (C : CX p s m c args D G cJ6_bitCount_0f7a4 1 RJ6) (hLA : ∀ q ∈ L, A q) (hcs : cells ≤ R.cells ∧ slots ≤ R.slots)  (S : PH) (v0 : Int32) (r : Int32) (h : f_J6_bitCount_0f7a4 v0 = some r) (hret : ∀ (v : Int32) (H : Heap) (locs : List Loc) (ls : Array Slot) (pc : Nat), Wd D G L A H0 S H locs → v = r → decode cJ6_bitCount_0f7a4 pc = .ok (.ireturn, 1) → W p l e R s m args below meth c H locs cells slots Q (F0 m pc ls [.int v])) : ∀ (H : Heap) (locs : List Loc) (ls : Array Slot), Wd D G L A H0 S H locs → lv_has ls 1 [(0, .int v0)] → W p l e R s m args below meth c H locs cells slots Q (F0 m 0 ls []) := by
  have hx := C.1.1
  have hb := C.1.2.1
  unfold f_J6_bitCount_0f7a4 at h
  intro H locs ls w hl
  refine lv_iload_n hx hb dJ6_bitCount_0f7a4_0 rfl (lv_at hl 0 rfl) ?_
  refine lv_iload_n hx hb dJ6_bitCount_0f7a4_1 rfl (lv_at hl 0 rfl) ?_
  refine lv_iconst (v := 1) hx hb dJ6_bitCount_0f7a4_2 (by decide) ?_
  refine lv_iushr hx hb dJ6_bitCount_0f7a4_3 rfl ?_
  refine lv_ldcw (v := 1431655765) hx hb C.1.2.2.2.1 (C.1.2.2.2.2 _ kc_J6_265) dJ6_bitCount_0f7a4_4 ?_
  refine lv_iand hx hb dJ6_bitCount_0f7a4_7 ?_
  refine lv_isub hx hb dJ6_bitCount_0f7a4_8 ?_
  obtain ⟨z1, ez1, h⟩ := nm_ex h
  refine o_topi ez1 ?_
  refine lv_istore_n (lv' := [(0, .int z1)]) hx hb dJ6_bitCount_0f7a4_9 rfl hl (by decide) rfl (fun ls hl => ?_)
  refine lv_iload_n hx hb dJ6_bitCount_0f7a4_10 rfl (lv_at hl 0 rfl) ?_
  refine lv_ldcw (v := 858993459) hx hb C.1.2.2.2.1 (C.1.2.2.2.2 _ kc_J6_266) dJ6_bitCount_0f7a4_11 ?_
  refine lv_iand hx hb dJ6_bitCount_0f7a4_14 ?_
  refine lv_iload_n hx hb dJ6_bitCount_0f7a4_15 rfl (lv_at hl 0 rfl) ?_
  refine lv_iconst (v := 2) hx hb dJ6_bitCount_0f7a4_16 (by decide) ?_
  refine lv_iushr hx hb dJ6_bitCount_0f7a4_17 rfl ?_
  refine lv_ldcw (v := 858993459) hx hb C.1.2.2.2.1 (C.1.2.2.2.2 _ kc_J6_266) dJ6_bitCount_0f7a4_18 ?_
  refine lv_iand hx hb dJ6_bitCount_0f7a4_21 ?_
  refine lv_iadd hx hb dJ6_bitCount_0f7a4_22 ?_
  obtain ⟨z2, ez2, h⟩ := nm_ex h
  refine o_topi ez2 ?_
  refine lv_istore_n (lv' := [(0, .int z2)]) hx hb dJ6_bitCount_0f7a4_23 rfl hl (by decide) rfl (fun ls hl => ?_)
  refine lv_iload_n hx hb dJ6_bitCount_0f7a4_24 rfl (lv_at hl 0 rfl) ?_
  refine lv_iload_n hx hb dJ6_bitCount_0f7a4_25 rfl (lv_at hl 0 rfl) ?_
  refine lv_iconst (v := 4) hx hb dJ6_bitCount_0f7a4_26 (by decide) ?_
  refine lv_iushr hx hb dJ6_bitCount_0f7a4_27 rfl ?_
  refine lv_iadd hx hb dJ6_bitCount_0f7a4_28 ?_
  refine lv_ldcw (v := 252645135) hx hb C.1.2.2.2.1 (C.1.2.2.2.2 _ kc_J6_267) dJ6_bitCount_0f7a4_29 ?_
  refine lv_iand hx hb dJ6_bitCount_0f7a4_32 ?_
  obtain ⟨z3, ez3, h⟩ := nm_ex h
  refine o_topi ez3 ?_
  refine lv_istore_n (lv' := [(0, .int z3)]) hx hb dJ6_bitCount_0f7a4_33 rfl hl (by decide) rfl (fun ls hl => ?_)
  refine lv_iload_n hx hb dJ6_bitCount_0f7a4_34 rfl (lv_at hl 0 rfl) ?_
  refine lv_iload_n hx hb dJ6_bitCount_0f7a4_35 rfl (lv_at hl 0 rfl) ?_
  refine lv_bipush (v := 8) hx hb dJ6_bitCount_0f7a4_36 (by decide) ?_
  refine lv_iushr hx hb dJ6_bitCount_0f7a4_38 rfl ?_
  refine lv_iadd hx hb dJ6_bitCount_0f7a4_39 ?_
  obtain ⟨z4, ez4, h⟩ := nm_ex h
  refine o_topi ez4 ?_
  refine lv_istore_n (lv' := [(0, .int z4)]) hx hb dJ6_bitCount_0f7a4_40 rfl hl (by decide) rfl (fun ls hl => ?_)
  refine lv_iload_n hx hb dJ6_bitCount_0f7a4_41 rfl (lv_at hl 0 rfl) ?_
  refine lv_iload_n hx hb dJ6_bitCount_0f7a4_42 rfl (lv_at hl 0 rfl) ?_
  refine lv_bipush (v := 16) hx hb dJ6_bitCount_0f7a4_43 (by decide) ?_
  refine lv_iushr hx hb dJ6_bitCount_0f7a4_45 rfl ?_
  refine lv_iadd hx hb dJ6_bitCount_0f7a4_46 ?_
  obtain ⟨z5, ez5, h⟩ := nm_ex h
  refine o_topi ez5 ?_
  refine lv_istore_n (lv' := [(0, .int z5)]) hx hb dJ6_bitCount_0f7a4_47 rfl hl (by decide) rfl (fun ls hl => ?_)
  refine lv_iload_n hx hb dJ6_bitCount_0f7a4_48 rfl (lv_at hl 0 rfl) ?_
  refine lv_bipush (v := 63) hx hb dJ6_bitCount_0f7a4_49 (by decide) ?_
  refine lv_iand hx hb dJ6_bitCount_0f7a4_51 ?_
  exact hret _ _ _ _ _ w (Option.some.inj h) dJ6_bitCount_0f7a4_52
set_option maxHeartbeats 4000000 in
set_option maxRecDepth 100000 in
theorem c_J6_bitCount_0f7a4 (l : Launch) (D : va_G) (G : Nat → ClassId) (L : List Nat) (S : PH) (v0 : Int32) (r : Int32) (h : f_J6_bitCount_0f7a4 v0 = some r) : Met l yJ6_bitCount_0f7a4 [Cond.code yJ6_bitCount_0f7a4 cJ6_bitCount_0f7a4 1 (some .int)] ({ frames := 0, cells := 0, slots := 0, locals := 0 }) (va_Pc [.int v0] (PreU D G L S)) (Qi D G L r S) 0 0 (inL L) := by
  refine Met.ofW (cc := cJ6_bitCount_0f7a4) (maxL := 1) (ret := (some .int)) (by decide) rfl ?_
  intro p e s m args below meth c s₁ B hml hv
  obtain ⟨rfl, hpre⟩ := hv
  obtain ⟨C, w⟩ := o_ent (own := RJ6) rfl B hml hpre
  have hl := lv_entry ([.int v0]) (n := 1) (Nat.le_of_ble_eq_true rfl)
  rw [lg_entry_eq]
  generalize (lg_sl ([.int v0]) ++ List.replicate (1 - (lg_sl ([.int v0])).length) Slot.unset).toArray = ls at hl ⊢
  exact w_J6_bitCount_0f7a4 C (fun _ h => h) ⟨Nat.zero_le _, Nat.zero_le _⟩  S v0 r h (fun v H locs ls pc w hv hd => by subst hv; exact o_iret C w B.returns B.notSynchronized hd) _ _ _ w hl

def f_X7_knows (S : PH) (v0 : Nat) (v1 : Int32) (v2 : Int32) (v3 : Int32) : Option (Int32 × PH) :=
(f_X7_isAsker v1).bind fun x1 =>
if x1 = 0 then (
some ((-1 : Int32), S))
else (
if v2 < 0 then (
some ((-1 : Int32), S))
else (
(gR S v0 7 0).bind fun x2 =>
(gR S x2 5 0).bind fun x3 =>
(gI S x3 2 8).bind fun x4 =>
if v2 < x4 then (
(gR S v0 7 0).bind fun x5 =>
(gR S x5 5 0).bind fun x6 =>
(ckO S v0 7).bind fun _ =>
bd2 (f_X7_seenBy S v0 v1) fun x7 S8 =>
(ckO S8 x6 2).bind fun _ =>
(f_X2_valuesIn S8 x6 v2 x7).bind fun x9 =>
(gR S8 v0 7 0).bind fun x10 =>
(gR S8 x10 5 0).bind fun x11 =>
(gR S8 x11 2 2).bind fun x12 =>
(ldI S8 x12 v2).bind fun x13 =>
if v3 = 0 then (
(f_X7_lowestBit x9).bind fun x14 =>
some ((x13 + x14), S8))
else if v3 = 1 then (
(f_X7_highestBit x9).bind fun x15 =>
some ((x13 + x15), S8))
else if v3 = 2 then (
(f_J6_bitCount_0f7a4 x9).bind fun x16 =>
some (x16, S8))
else if v3 = 3 then (
(f_X7_highestBit x9).bind fun x17 =>
(f_X7_lowestBit x9).bind fun x18 =>
some (((x17 - x18) + (1 : Int32)), S8))
else (
some ((-1 : Int32), S8)))
else (
some ((-1 : Int32), S))))
set_option maxHeartbeats 4000000 in
set_option maxRecDepth 100000 in
theorem w_X7_knows {p : Program} {l : Launch} {e : Env} {R : Room} {s : State} {m : MethodId} {args : Array Value} {below : List Frame} {meth : Method} {c : Code} {cells slots : Nat} {Q : State → Prop} {D : va_G} {G : Nat → ClassId} {L : List Nat} {A : Nat → Prop} {H0 : Heap} (C : CX p s m c args D G cX7_knows 6 RX7) (hLA : ∀ q ∈ L, A q) (hcs : cells ≤ R.cells ∧ slots ≤ R.slots) (hR_X7_isAsker : RoomOk R ({ frames := 0, cells := 0, slots := 0, locals := 0 }) 1) (hR_X7_seenBy : RoomOk R ({ frames := 2, cells := 0, slots := 0, locals := 49 }) 2) (hR_X2_valuesIn : RoomOk R ({ frames := 1, cells := 0, slots := 0, locals := 21 }) 4) (hR_X7_lowestBit : RoomOk R ({ frames := 1, cells := 0, slots := 0, locals := 21 }) 2) (hR_X7_highestBit : RoomOk R ({ frames := 1, cells := 0, slots := 0, locals := 21 }) 2) (hR_J6_bitCount_0f7a4 : RoomOk R ({ frames := 0, cells := 0, slots := 0, locals := 0 }) 1) (S : PH) (v0 : Nat) (v1 : Int32) (v2 : Int32) (v3 : Int32) (r : Int32 × PH) (h : f_X7_knows S v0 v1 v2 v3 = some r) (hret : ∀ (v : Int32) (S9 : PH) (H : Heap) (locs : List Loc) (ls : Array Slot) (pc : Nat), Wd D G L A H0 S9 H locs → (v, S9) = r → decode cX7_knows pc = .ok (.ireturn, 1) → W p l e R s m args below meth c H locs cells slots Q (F0 m pc ls [.int v])) : ∀ (H : Heap) (locs : List Loc) (ls : Array Slot), Wd D G L A H0 S H locs → lv_has ls 6 [(0, .ref v0), (1, .int v1), (2, .int v2), (3, .int v3)] → W p l e R s m args below meth c H locs cells slots Q (F0 m 0 ls []) := by
  have hx := C.1.1
  have hb := C.1.2.1
  unfold f_X7_knows at h
  intro H locs ls w hl
  refine lv_iload_n hx hb dX7_knows_0 rfl (lv_at hl 1 rfl) ?_
  obtain ⟨x1, hc, h⟩ := bs h
  refine o_backi w hLA (o_runS (As := [.int v1]) (rest := []) C w (c_X7_isAsker l D G L S v1 x1 hc) ml_X7_69 st_X7_isAsker hR_X7_isAsker rfl hl.1 rfl (Nat.le_of_ble_eq_true rfl) dX7_knows_1 hcs) (fun H locs w => ?_)
  refine lv_if_eq (tgt := 25) hx hb dX7_knows_4 (by decide) (fun cc4 => ?_) (fun cc4 => ?_)
  · have h := it cc4 h
    refine lv_iconst (v := -1) hx hb dX7_knows_25 (by decide) ?_
    exact hret _ _ _ _ _ _ w (Option.some.inj h) dX7_knows_26
  · have h := ie cc4 h
    refine lv_iload_n hx hb dX7_knows_7 rfl (lv_at hl 2 rfl) ?_
    refine lv_if_lt (tgt := 25) hx hb dX7_knows_8 (by decide) (fun cc8 => ?_) (fun cc8 => ?_)
    · have h := it cc8 h
      refine lv_iconst (v := -1) hx hb dX7_knows_25 (by decide) ?_
      exact hret _ _ _ _ _ _ w (Option.some.inj h) dX7_knows_26
    · have h := ie cc8 h
      refine lv_iload_n hx hb dX7_knows_11 rfl (lv_at hl 2 rfl) ?_
      refine lv_aload_n hx hb dX7_knows_12 rfl (lv_at hl 0 rfl) ?_
      obtain ⟨x2, hx2, h⟩ := bs h
      refine o_gR C w hx2 fl_X7_12 dX7_knows_13 ?_
      obtain ⟨x3, hx3, h⟩ := bs h
      refine o_gR C w hx3 fl_X7_38 dX7_knows_16 ?_
      obtain ⟨x4, hx4, h⟩ := bs h
      refine o_gI C w hx4 fl_X7_120 dX7_knows_19 ?_
      refine lv_icmp_lt (tgt := 27) hx hb dX7_knows_22 (by decide) (fun cc22 => ?_) (fun cc22 => ?_)
      · have h := it cc22 h
        refine lv_aload_n hx hb dX7_knows_27 rfl (lv_at hl 0 rfl) ?_
        obtain ⟨x5, hx5, h⟩ := bs h
        refine o_gR C w hx5 fl_X7_12 dX7_knows_28 ?_
        obtain ⟨x6, hx6, h⟩ := bs h
        refine o_gR C w hx6 fl_X7_38 dX7_knows_31 ?_
        refine lv_iload_n hx hb dX7_knows_34 rfl (lv_at hl 2 rfl) ?_
        refine lv_aload_n hx hb dX7_knows_35 rfl (lv_at hl 0 rfl) ?_
        refine lv_iload_n hx hb dX7_knows_36 rfl (lv_at hl 1 rfl) ?_
        obtain ⟨_, ho, h⟩ := bs h
        obtain ⟨x7, S8, hc, h⟩ := bs2 h
        refine o_backl w hLA (o_runV (As := [.int v1]) (rest := [.int v2, .ref x6]) C w (c_X7_seenBy l D G L S v0 v1 (x7, S8) hc) ml_X7_121 mv_X7_seenBy hR_X7_seenBy ho rfl hl.1 rfl (Nat.le_of_ble_eq_true rfl) dX7_knows_37 hcs) (fun H locs w => ?_)
        obtain ⟨_, ho, h⟩ := bs h
        obtain ⟨x9, hc, h⟩ := bs h
        refine o_backi w hLA (o_runV (As := [.int v2, .long x7]) (rest := []) C w (c_X2_valuesIn l D G L S8 x6 v2 x7 x9 hc) ml_X7_125 mv_X2_valuesIn hR_X2_valuesIn ho rfl hl.1 rfl (Nat.le_of_ble_eq_true rfl) dX7_knows_40 hcs) (fun H locs w => ?_)
        refine lv_istore (lv' := [(4, .int x9), (0, .ref v0), (1, .int v1), (2, .int v2), (3, .int v3)]) hx hb dX7_knows_43 hl (by decide) rfl (fun ls hl => ?_)
        refine lv_aload_n hx hb dX7_knows_45 rfl (lv_at hl 1 rfl) ?_
        obtain ⟨x10, hx10, h⟩ := bs h
        refine o_gR C w hx10 fl_X7_12 dX7_knows_46 ?_
        obtain ⟨x11, hx11, h⟩ := bs h
        refine o_gR C w hx11 fl_X7_38 dX7_knows_49 ?_
        obtain ⟨x12, hx12, h⟩ := bs h
        refine o_gR C w hx12 fl_X7_60 dX7_knows_52 ?_
        refine lv_iload_n hx hb dX7_knows_55 rfl (lv_at hl 3 rfl) ?_
        obtain ⟨x13, hx13, h⟩ := bs h
        refine o_ldI C w hx13 dX7_knows_56 ?_
        refine lv_istore (lv' := [(5, .int x13), (4, .int x9), (0, .ref v0), (1, .int v1), (2, .int v2), (3, .int v3)]) hx hb dX7_knows_57 hl (by decide) rfl (fun ls hl => ?_)
        refine lv_iload_n hx hb dX7_knows_59 rfl (lv_at hl 5 rfl) ?_
        by_cases cw60_0 : v3 = 0
        · have h := it cw60_0 h
          refine o_sw0 C 0 cw60_0 dX7_knows_60 (by decide) (by decide) rfl (tgt := 92) (by decide) ?_
          refine lv_iload hx hb dX7_knows_92 (lv_at hl 0 rfl) ?_
          refine lv_iload hx hb dX7_knows_94 (lv_at hl 1 rfl) ?_
          obtain ⟨x14, hc, h⟩ := bs h
          refine o_backi w hLA (o_runS (As := [.int x9]) (rest := [.int x13]) C w (c_X7_lowestBit l D G L S8 x9 x14 hc) ml_X7_129 st_X7_lowestBit hR_X7_lowestBit rfl hl.1 rfl (Nat.le_of_ble_eq_true rfl) dX7_knows_96 hcs) (fun H locs w => ?_)
          refine lv_iadd hx hb dX7_knows_99 ?_
          exact hret _ _ _ _ _ _ w (Option.some.inj h) dX7_knows_100
        have h := ie cw60_0 h
        by_cases cw60_1 : v3 = 1
        · have h := it cw60_1 h
          refine o_sw0 C 1 cw60_1 dX7_knows_60 (by decide) (by decide) rfl (tgt := 101) (by decide) ?_
          refine lv_iload hx hb dX7_knows_101 (lv_at hl 0 rfl) ?_
          refine lv_iload hx hb dX7_knows_103 (lv_at hl 1 rfl) ?_
          obtain ⟨x15, hc, h⟩ := bs h
          refine o_backi w hLA (o_runS (As := [.int x9]) (rest := [.int x13]) C w (c_X7_highestBit l D G L S8 x9 x15 hc) ml_X7_132 st_X7_highestBit hR_X7_highestBit rfl hl.1 rfl (Nat.le_of_ble_eq_true rfl) dX7_knows_105 hcs) (fun H locs w => ?_)
          refine lv_iadd hx hb dX7_knows_108 ?_
          exact hret _ _ _ _ _ _ w (Option.some.inj h) dX7_knows_109
        have h := ie cw60_1 h
        by_cases cw60_2 : v3 = 2
        · have h := it cw60_2 h
          refine o_sw0 C 2 cw60_2 dX7_knows_60 (by decide) (by decide) rfl (tgt := 110) (by decide) ?_
          refine lv_iload hx hb dX7_knows_110 (lv_at hl 1 rfl) ?_
          obtain ⟨x16, hc, h⟩ := bs h
          refine o_backi w hLA (o_runS (As := [.int x9]) (rest := []) C w (c_J6_bitCount_0f7a4 l D G L S8 x9 x16 hc) ml_X7_135 st_J6_bitCount_0f7a4 hR_J6_bitCount_0f7a4 rfl hl.1 rfl (Nat.le_of_ble_eq_true rfl) dX7_knows_112 hcs) (fun H locs w => ?_)
          exact hret _ _ _ _ _ _ w (Option.some.inj h) dX7_knows_115
        have h := ie cw60_2 h
        by_cases cw60_3 : v3 = 3
        · have h := it cw60_3 h
          refine o_sw0 C 3 cw60_3 dX7_knows_60 (by decide) (by decide) rfl (tgt := 116) (by decide) ?_
          refine lv_iload hx hb dX7_knows_116 (lv_at hl 1 rfl) ?_
          obtain ⟨x17, hc, h⟩ := bs h
          refine o_backi w hLA (o_runS (As := [.int x9]) (rest := []) C w (c_X7_highestBit l D G L S8 x9 x17 hc) ml_X7_132 st_X7_highestBit hR_X7_highestBit rfl hl.1 rfl (Nat.le_of_ble_eq_true rfl) dX7_knows_118 hcs) (fun H locs w => ?_)
          refine lv_iload hx hb dX7_knows_121 (lv_at hl 1 rfl) ?_
          obtain ⟨x18, hc, h⟩ := bs h
          refine o_backi w hLA (o_runS (As := [.int x9]) (rest := [.int x17]) C w (c_X7_lowestBit l D G L S8 x9 x18 hc) ml_X7_129 st_X7_lowestBit hR_X7_lowestBit rfl hl.1 rfl (Nat.le_of_ble_eq_true rfl) dX7_knows_123 hcs) (fun H locs w => ?_)
          refine lv_isub hx hb dX7_knows_126 ?_
          refine lv_iconst (v := 1) hx hb dX7_knows_127 (by decide) ?_
          refine lv_iadd hx hb dX7_knows_128 ?_
          exact hret _ _ _ _ _ _ w (Option.some.inj h) dX7_knows_129
        have h := ie cw60_3 h
        have cx0 := lv_neT (k := 0) (a := 0) cw60_0 (by decide)
        have cx1 := lv_neT (k := 1) (a := 1) cw60_1 (by decide)
        have cx2 := lv_neT (k := 2) (a := 2) cw60_2 (by decide)
        have cx3 := lv_neT (k := 3) (a := 3) cw60_3 (by decide)
        refine lv_tableOut (tgt := 130) hx hb dX7_knows_60 (by omega) (by decide) ?_
        refine lv_iconst (v := -1) hx hb dX7_knows_130 (by decide) ?_
        exact hret _ _ _ _ _ _ w (Option.some.inj h) dX7_knows_131
      · have h := ie cc22 h
        refine lv_iconst (v := -1) hx hb dX7_knows_25 (by decide) ?_
        exact hret _ _ _ _ _ _ w (Option.some.inj h) dX7_knows_26
set_option maxHeartbeats 4000000 in
set_option maxRecDepth 100000 in
theorem c_X7_knows (l : Launch) (D : va_G) (G : Nat → ClassId) (L : List Nat) (S : PH) (v0 : Nat) (v1 : Int32) (v2 : Int32) (v3 : Int32) (r : Int32 × PH) (h : f_X7_knows S v0 v1 v2 v3 = some r) : Met l yX7_knows [Cond.code yX7_knows cX7_knows 6 (some .int)] ({ frames := 3, cells := 0, slots := 0, locals := 70 }) (va_Pc [.ref v0, .int v1, .int v2, .int v3] (PreU D G L S)) (Qi D G L r.1 r.2) 0 0 (inL L) := by
  refine Met.ofW (cc := cX7_knows) (maxL := 6) (ret := (some .int)) (by decide) rfl ?_
  intro p e s m args below meth c s₁ B hml hv
  obtain ⟨rfl, hpre⟩ := hv
  obtain ⟨C, w⟩ := o_ent (own := RX7) rfl B hml hpre
  have hl := lv_entry ([.ref v0, .int v1, .int v2, .int v3]) (n := 6) (Nat.le_of_ble_eq_true rfl)
  rw [lg_entry_eq]
  generalize (lg_sl ([.ref v0, .int v1, .int v2, .int v3]) ++ List.replicate (6 - (lg_sl ([.ref v0, .int v1, .int v2, .int v3])).length) Slot.unset).toArray = ls at hl ⊢
  exact w_X7_knows C (fun _ h => h) ⟨Nat.zero_le _, Nat.zero_le _⟩ ⟨rfl, rfl, Nat.le_of_ble_eq_true rfl, Nat.le_of_ble_eq_true rfl⟩ ⟨rfl, rfl, Nat.le_of_ble_eq_true rfl, Nat.le_of_ble_eq_true rfl⟩ ⟨rfl, rfl, Nat.le_of_ble_eq_true rfl, Nat.le_of_ble_eq_true rfl⟩ ⟨rfl, rfl, Nat.le_of_ble_eq_true rfl, Nat.le_of_ble_eq_true rfl⟩ ⟨rfl, rfl, Nat.le_of_ble_eq_true rfl, Nat.le_of_ble_eq_true rfl⟩ ⟨rfl, rfl, Nat.le_of_ble_eq_true rfl, Nat.le_of_ble_eq_true rfl⟩ S v0 v1 v2 v3 r h (fun v S9 H locs ls pc w hv hd => by subst hv; exact o_iret C w B.returns B.notSynchronized hd) _ _ _ w hl

def f_X7_tables (S : PH) (v0 : Nat) (v1 : Int32) : Option (Int32) :=
(f_X7_isAsker v1).bind fun x1 =>
if x1 = 0 then (
some (-1 : Int32))
else (
(gR S v0 7 0).bind fun x2 =>
(gR S x2 5 1).bind fun x3 =>
(ckO S x3 1).bind fun _ =>
(f_X1_tablesLeft S x3 v1).bind fun x4 =>
some x4)
set_option maxHeartbeats 4000000 in
set_option maxRecDepth 100000 in
theorem w_X7_tables {p : Program} {l : Launch} {e : Env} {R : Room} {s : State} {m : MethodId} {args : Array Value} {below : List Frame} {meth : Method} {c : Code} {cells slots : Nat} {Q : State → Prop} {D : va_G} {G : Nat → ClassId} {L : List Nat} {A : Nat → Prop} {H0 : Heap} (C : CX p s m c args D G cX7_tables 2 RX7) (hLA : ∀ q ∈ L, A q) (hcs : cells ≤ R.cells ∧ slots ≤ R.slots) (hR_X7_isAsker : RoomOk R ({ frames := 0, cells := 0, slots := 0, locals := 0 }) 1) (hR_X1_tablesLeft : RoomOk R ({ frames := 1, cells := 0, slots := 0, locals := 21 }) 5) (S : PH) (v0 : Nat) (v1 : Int32) (r : Int32) (h : f_X7_tables S v0 v1 = some r) (hret : ∀ (v : Int32) (H : Heap) (locs : List Loc) (ls : Array Slot) (pc : Nat), Wd D G L A H0 S H locs → v = r → decode cX7_tables pc = .ok (.ireturn, 1) → W p l e R s m args below meth c H locs cells slots Q (F0 m pc ls [.int v])) : ∀ (H : Heap) (locs : List Loc) (ls : Array Slot), Wd D G L A H0 S H locs → lv_has ls 2 [(0, .ref v0), (1, .int v1)] → W p l e R s m args below meth c H locs cells slots Q (F0 m 0 ls []) := by
  have hx := C.1.1
  have hb := C.1.2.1
  unfold f_X7_tables at h
  intro H locs ls w hl
  refine lv_iload_n hx hb dX7_tables_0 rfl (lv_at hl 1 rfl) ?_
  obtain ⟨x1, hc, h⟩ := bs h
  refine o_backi w hLA (o_runS (As := [.int v1]) (rest := []) C w (c_X7_isAsker l D G L S v1 x1 hc) ml_X7_69 st_X7_isAsker hR_X7_isAsker rfl hl.1 rfl (Nat.le_of_ble_eq_true rfl) dX7_tables_1 hcs) (fun H locs w => ?_)
  refine lv_if_eq (tgt := 21) hx hb dX7_tables_4 (by decide) (fun cc4 => ?_) (fun cc4 => ?_)
  · have h := it cc4 h
    refine lv_iconst (v := -1) hx hb dX7_tables_21 (by decide) ?_
    exact hret _ _ _ _ _ w (Option.some.inj h) dX7_tables_22
  · have h := ie cc4 h
    refine lv_aload_n hx hb dX7_tables_7 rfl (lv_at hl 0 rfl) ?_
    obtain ⟨x2, hx2, h⟩ := bs h
    refine o_gR C w hx2 fl_X7_12 dX7_tables_8 ?_
    obtain ⟨x3, hx3, h⟩ := bs h
    refine o_gR C w hx3 fl_X7_101 dX7_tables_11 ?_
    refine lv_iload_n hx hb dX7_tables_14 rfl (lv_at hl 1 rfl) ?_
    obtain ⟨_, ho, h⟩ := bs h
    obtain ⟨x4, hc, h⟩ := bs h
    refine o_backi w hLA (o_runV (As := [.int v1]) (rest := []) C w (c_X1_tablesLeft l D G L S x3 v1 x4 hc) ml_X7_140 mv_X1_tablesLeft hR_X1_tablesLeft ho rfl hl.1 rfl (Nat.le_of_ble_eq_true rfl) dX7_tables_15 hcs) (fun H locs w => ?_)
    refine lv_goto (tgt := 22) hx hb dX7_tables_18 (by decide) ?_
    exact hret _ _ _ _ _ w (Option.some.inj h) dX7_tables_22
set_option maxHeartbeats 4000000 in
set_option maxRecDepth 100000 in
theorem c_X7_tables (l : Launch) (D : va_G) (G : Nat → ClassId) (L : List Nat) (S : PH) (v0 : Nat) (v1 : Int32) (r : Int32) (h : f_X7_tables S v0 v1 = some r) : Met l yX7_tables [Cond.code yX7_tables cX7_tables 2 (some .int)] ({ frames := 2, cells := 0, slots := 0, locals := 45 }) (va_Pc [.ref v0, .int v1] (PreU D G L S)) (Qi D G L r S) 0 0 (inL L) := by
  refine Met.ofW (cc := cX7_tables) (maxL := 2) (ret := (some .int)) (by decide) rfl ?_
  intro p e s m args below meth c s₁ B hml hv
  obtain ⟨rfl, hpre⟩ := hv
  obtain ⟨C, w⟩ := o_ent (own := RX7) rfl B hml hpre
  have hl := lv_entry ([.ref v0, .int v1]) (n := 2) (Nat.le_of_ble_eq_true rfl)
  rw [lg_entry_eq]
  generalize (lg_sl ([.ref v0, .int v1]) ++ List.replicate (2 - (lg_sl ([.ref v0, .int v1])).length) Slot.unset).toArray = ls at hl ⊢
  exact w_X7_tables C (fun _ h => h) ⟨Nat.zero_le _, Nat.zero_le _⟩ ⟨rfl, rfl, Nat.le_of_ble_eq_true rfl, Nat.le_of_ble_eq_true rfl⟩ ⟨rfl, rfl, Nat.le_of_ble_eq_true rfl, Nat.le_of_ble_eq_true rfl⟩ S v0 v1 r h (fun v H locs ls pc w hv hd => by subst hv; exact o_iret C w B.returns B.notSynchronized hd) _ _ _ w hl

def f_X7_broken (S : PH) (v0 : Nat) (v1 : Int32) : Option (Int32 × PH) :=
(f_X7_isAsker v1).bind fun x1 =>
if x1 = 0 then (
some ((0 : Int32), S))
else (
(gR S v0 7 0).bind fun x2 =>
(gR S x2 5 0).bind fun x3 =>
(ckO S v0 7).bind fun _ =>
bd2 (f_X7_seenBy S v0 v1) fun x4 S5 =>
(ckO S5 x3 2).bind fun _ =>
(f_X2_areSafe S5 x3 x4).bind fun x6 =>
if x6 = 0 then (
some ((1 : Int32), S5))
else (
some ((0 : Int32), S5)))
set_option maxHeartbeats 4000000 in
set_option maxRecDepth 100000 in
theorem w_X7_broken {p : Program} {l : Launch} {e : Env} {R : Room} {s : State} {m : MethodId} {args : Array Value} {below : List Frame} {meth : Method} {c : Code} {cells slots : Nat} {Q : State → Prop} {D : va_G} {G : Nat → ClassId} {L : List Nat} {A : Nat → Prop} {H0 : Heap} (C : CX p s m c args D G cX7_broken 2 RX7) (hLA : ∀ q ∈ L, A q) (hcs : cells ≤ R.cells ∧ slots ≤ R.slots) (hR_X7_isAsker : RoomOk R ({ frames := 0, cells := 0, slots := 0, locals := 0 }) 1) (hR_X7_seenBy : RoomOk R ({ frames := 2, cells := 0, slots := 0, locals := 49 }) 2) (hR_X2_areSafe : RoomOk R ({ frames := 2, cells := 0, slots := 0, locals := 44 }) 8) (S : PH) (v0 : Nat) (v1 : Int32) (r : Int32 × PH) (h : f_X7_broken S v0 v1 = some r) (hret : ∀ (v : Int32) (S9 : PH) (H : Heap) (locs : List Loc) (ls : Array Slot) (pc : Nat), Wd D G L A H0 S9 H locs → narrow .boolean (.int v) = .int v → (v, S9) = r → decode cX7_broken pc = .ok (.ireturn, 1) → W p l e R s m args below meth c H locs cells slots Q (F0 m pc ls [.int v])) : ∀ (H : Heap) (locs : List Loc) (ls : Array Slot), Wd D G L A H0 S H locs → lv_has ls 2 [(0, .ref v0), (1, .int v1)] → W p l e R s m args below meth c H locs cells slots Q (F0 m 0 ls []) := by
  have hx := C.1.1
  have hb := C.1.2.1
  unfold f_X7_broken at h
  intro H locs ls w hl
  refine lv_iload_n hx hb dX7_broken_0 rfl (lv_at hl 1 rfl) ?_
  obtain ⟨x1, hc, h⟩ := bs h
  refine o_backi w hLA (o_runS (As := [.int v1]) (rest := []) C w (c_X7_isAsker l D G L S v1 x1 hc) ml_X7_69 st_X7_isAsker hR_X7_isAsker rfl hl.1 rfl (Nat.le_of_ble_eq_true rfl) dX7_broken_1 hcs) (fun H locs w => ?_)
  refine lv_if_eq (tgt := 29) hx hb dX7_broken_4 (by decide) (fun cc4 => ?_) (fun cc4 => ?_)
  · have h := it cc4 h
    refine lv_iconst (v := 0) hx hb dX7_broken_29 (by decide) ?_
    exact hret _ _ _ _ _ _ w rfl (Option.some.inj h) dX7_broken_30
  · have h := ie cc4 h
    refine lv_aload_n hx hb dX7_broken_7 rfl (lv_at hl 0 rfl) ?_
    obtain ⟨x2, hx2, h⟩ := bs h
    refine o_gR C w hx2 fl_X7_12 dX7_broken_8 ?_
    obtain ⟨x3, hx3, h⟩ := bs h
    refine o_gR C w hx3 fl_X7_38 dX7_broken_11 ?_
    refine lv_aload_n hx hb dX7_broken_14 rfl (lv_at hl 0 rfl) ?_
    refine lv_iload_n hx hb dX7_broken_15 rfl (lv_at hl 1 rfl) ?_
    obtain ⟨_, ho, h⟩ := bs h
    obtain ⟨x4, S5, hc, h⟩ := bs2 h
    refine o_backl w hLA (o_runV (As := [.int v1]) (rest := [.ref x3]) C w (c_X7_seenBy l D G L S v0 v1 (x4, S5) hc) ml_X7_121 mv_X7_seenBy hR_X7_seenBy ho rfl hl.1 rfl (Nat.le_of_ble_eq_true rfl) dX7_broken_16 hcs) (fun H locs w => ?_)
    obtain ⟨_, ho, h⟩ := bs h
    obtain ⟨x6, hc, h⟩ := bs h
    refine o_backi w hLA (o_runV (As := [.long x4]) (rest := []) C w (c_X2_areSafe l D G L S5 x3 x4 x6 hc) ml_X7_143 mv_X2_areSafe hR_X2_areSafe ho rfl hl.1 rfl (Nat.le_of_ble_eq_true rfl) dX7_broken_19 hcs) (fun H locs w => ?_)
    refine lv_if_ne (tgt := 29) hx hb dX7_broken_22 (by decide) (fun cc22 => ?_) (fun cc22 => ?_)
    · have h := ie cc22 h
      refine lv_iconst (v := 0) hx hb dX7_broken_29 (by decide) ?_
      exact hret _ _ _ _ _ _ w rfl (Option.some.inj h) dX7_broken_30
    · have h := it cc22 h
      refine lv_iconst (v := 1) hx hb dX7_broken_25 (by decide) ?_
      refine lv_goto (tgt := 30) hx hb dX7_broken_26 (by decide) ?_
      exact hret _ _ _ _ _ _ w rfl (Option.some.inj h) dX7_broken_30
set_option maxHeartbeats 4000000 in
set_option maxRecDepth 100000 in
theorem c_X7_broken (l : Launch) (D : va_G) (G : Nat → ClassId) (L : List Nat) (S : PH) (v0 : Nat) (v1 : Int32) (r : Int32 × PH) (h : f_X7_broken S v0 v1 = some r) : Met l yX7_broken [Cond.code yX7_broken cX7_broken 2 (some .boolean)] ({ frames := 3, cells := 0, slots := 0, locals := 71 }) (va_Pc [.ref v0, .int v1] (PreU D G L S)) (Qi D G L r.1 r.2) 0 0 (inL L) := by
  refine Met.ofW (cc := cX7_broken) (maxL := 2) (ret := (some .boolean)) (by decide) rfl ?_
  intro p e s m args below meth c s₁ B hml hv
  obtain ⟨rfl, hpre⟩ := hv
  obtain ⟨C, w⟩ := o_ent (own := RX7) rfl B hml hpre
  have hl := lv_entry ([.ref v0, .int v1]) (n := 2) (Nat.le_of_ble_eq_true rfl)
  rw [lg_entry_eq]
  generalize (lg_sl ([.ref v0, .int v1]) ++ List.replicate (2 - (lg_sl ([.ref v0, .int v1])).length) Slot.unset).toArray = ls at hl ⊢
  exact w_X7_broken C (fun _ h => h) ⟨Nat.zero_le _, Nat.zero_le _⟩ ⟨rfl, rfl, Nat.le_of_ble_eq_true rfl, Nat.le_of_ble_eq_true rfl⟩ ⟨rfl, rfl, Nat.le_of_ble_eq_true rfl, Nat.le_of_ble_eq_true rfl⟩ ⟨rfl, rfl, Nat.le_of_ble_eq_true rfl, Nat.le_of_ble_eq_true rfl⟩ S v0 v1 r h (fun v S9 H locs ls pc w hz hv hd => by subst hv; exact o_zret C w B.returns B.notSynchronized hz hd) _ _ _ w hl

def f_X7_tell_b23 (S : PH) (v1 : Int32) (v2 : Int32) (v3 : Nat) (s0 : Int32) : Option (Int32) :=
if v1 < 0 then (
some (-1 : Int32))
else (
if v1 < s0 then (
if v2 = 0 then (
(gR S v3 2 0).bind fun x1 =>
(ldI S x1 v1).bind fun x2 =>
some x2)
else if v2 = 1 then (
(gR S v3 2 1).bind fun x3 =>
(ldI S x3 v1).bind fun x4 =>
some x4)
else if v2 = 2 then (
(gR S v3 2 2).bind fun x5 =>
(ldI S x5 v1).bind fun x6 =>
some x6)
else if v2 = 3 then (
(gR S v3 2 3).bind fun x7 =>
(ldI S x7 v1).bind fun x8 =>
some x8)
else if v2 = 4 then (
(gR S v3 2 4).bind fun x9 =>
(ldI S x9 v1).bind fun x10 =>
some x10)
else if v2 = 5 then (
(ckO S v3 2).bind fun _ =>
(f_X2_isCurrent S v3 v1).bind fun x11 =>
if x11 = 0 then (
some (0 : Int32))
else (
some (1 : Int32)))
else if v2 = 6 then (
(gR S v3 2 5).bind fun x12 =>
(ldI S x12 v1).bind fun x13 =>
some x13)
else (
some (-1 : Int32)))
else (
some (-1 : Int32)))
def f_X7_tell (S : PH) (v0 : Nat) (v1 : Int32) (v2 : Int32) : Option (Int32) :=
(gR S v0 7 0).bind fun x14 =>
(gR S x14 5 0).bind fun x15 =>
if v2 = 0 then (
(gI S x15 2 7).bind fun x17 =>
f_X7_tell_b23 S v1 v2 x15 x17)
else (
(gI S x15 2 8).bind fun x16 =>
f_X7_tell_b23 S v1 v2 x15 x16)
set_option maxHeartbeats 4000000 in
set_option maxRecDepth 100000 in
theorem w_X7_tell {p : Program} {l : Launch} {e : Env} {R : Room} {s : State} {m : MethodId} {args : Array Value} {below : List Frame} {meth : Method} {c : Code} {cells slots : Nat} {Q : State → Prop} {D : va_G} {G : Nat → ClassId} {L : List Nat} {A : Nat → Prop} {H0 : Heap} (C : CX p s m c args D G cX7_tell 5 RX7) (hLA : ∀ q ∈ L, A q) (hcs : cells ≤ R.cells ∧ slots ≤ R.slots) (hR_X2_isCurrent : RoomOk R ({ frames := 0, cells := 0, slots := 0, locals := 0 }) 2) (S : PH) (v0 : Nat) (v1 : Int32) (v2 : Int32) (r : Int32) (h : f_X7_tell S v0 v1 v2 = some r) (hret : ∀ (v : Int32) (H : Heap) (locs : List Loc) (ls : Array Slot) (pc : Nat), Wd D G L A H0 S H locs → v = r → decode cX7_tell pc = .ok (.ireturn, 1) → W p l e R s m args below meth c H locs cells slots Q (F0 m pc ls [.int v])) : ∀ (H : Heap) (locs : List Loc) (ls : Array Slot), Wd D G L A H0 S H locs → lv_has ls 5 [(0, .ref v0), (1, .int v1), (2, .int v2)] → W p l e R s m args below meth c H locs cells slots Q (F0 m 0 ls []) := by
  have hx := C.1.1
  have hb := C.1.2.1
  unfold f_X7_tell at h
  have hb23 : ∀ (u18 : Int32) (u19 : Int32) (u20 : Nat) (u21 : Int32), f_X7_tell_b23 S u18 u19 u20 u21 = some r → ∀ (H : Heap) (locs : List Loc) (ls : Array Slot), Wd D G L A H0 S H locs → lv_has ls 5 [(1, .int u18), (2, .int u19), (3, .ref u20)] → W p l e R s m args below meth c H locs cells slots Q (F0 m 23 ls [.int u21]) := by
    intro u18 u19 u20 u21 h H locs ls w hl
    unfold f_X7_tell_b23 at h
    refine lv_istore (lv' := [(4, .int u21), (1, .int u18), (2, .int u19), (3, .ref u20)]) hx hb dX7_tell_23 hl (by decide) rfl (fun ls hl => ?_)
    refine lv_iload_n hx hb dX7_tell_25 rfl (lv_at hl 1 rfl) ?_
    refine lv_if_lt (tgt := 35) hx hb dX7_tell_26 (by decide) (fun cc26 => ?_) (fun cc26 => ?_)
    · have h := it cc26 h
      refine lv_iconst (v := -1) hx hb dX7_tell_35 (by decide) ?_
      exact hret _ _ _ _ _ w (Option.some.inj h) dX7_tell_36
    · have h := ie cc26 h
      refine lv_iload_n hx hb dX7_tell_29 rfl (lv_at hl 1 rfl) ?_
      refine lv_iload hx hb dX7_tell_30 (lv_at hl 0 rfl) ?_
      refine lv_icmp_lt (tgt := 37) hx hb dX7_tell_32 (by decide) (fun cc32 => ?_) (fun cc32 => ?_)
      · have h := it cc32 h
        refine lv_iload_n hx hb dX7_tell_37 rfl (lv_at hl 2 rfl) ?_
        by_cases cw38_0 : u19 = 0
        · have h := it cw38_0 h
          refine o_sw0 C 0 cw38_0 dX7_tell_38 (by decide) (by decide) rfl (tgt := 80) (by decide) ?_
          refine lv_aload_n hx hb dX7_tell_80 rfl (lv_at hl 3 rfl) ?_
          obtain ⟨x22, hx22, h⟩ := bs h
          refine o_gR C w hx22 fl_X7_56 dX7_tell_81 ?_
          refine lv_iload_n hx hb dX7_tell_84 rfl (lv_at hl 1 rfl) ?_
          obtain ⟨x23, hx23, h⟩ := bs h
          refine o_ldI C w hx23 dX7_tell_85 ?_
          exact hret _ _ _ _ _ w (Option.some.inj h) dX7_tell_86
        have h := ie cw38_0 h
        by_cases cw38_1 : u19 = 1
        · have h := it cw38_1 h
          refine o_sw0 C 1 cw38_1 dX7_tell_38 (by decide) (by decide) rfl (tgt := 87) (by decide) ?_
          refine lv_aload_n hx hb dX7_tell_87 rfl (lv_at hl 3 rfl) ?_
          obtain ⟨x24, hx24, h⟩ := bs h
          refine o_gR C w hx24 fl_X7_147 dX7_tell_88 ?_
          refine lv_iload_n hx hb dX7_tell_91 rfl (lv_at hl 1 rfl) ?_
          obtain ⟨x25, hx25, h⟩ := bs h
          refine o_ldI C w hx25 dX7_tell_92 ?_
          exact hret _ _ _ _ _ w (Option.some.inj h) dX7_tell_93
        have h := ie cw38_1 h
        by_cases cw38_2 : u19 = 2
        · have h := it cw38_2 h
          refine o_sw0 C 2 cw38_2 dX7_tell_38 (by decide) (by decide) rfl (tgt := 94) (by decide) ?_
          refine lv_aload_n hx hb dX7_tell_94 rfl (lv_at hl 3 rfl) ?_
          obtain ⟨x26, hx26, h⟩ := bs h
          refine o_gR C w hx26 fl_X7_60 dX7_tell_95 ?_
          refine lv_iload_n hx hb dX7_tell_98 rfl (lv_at hl 1 rfl) ?_
          obtain ⟨x27, hx27, h⟩ := bs h
          refine o_ldI C w hx27 dX7_tell_99 ?_
          exact hret _ _ _ _ _ w (Option.some.inj h) dX7_tell_100
        have h := ie cw38_2 h
        by_cases cw38_3 : u19 = 3
        · have h := it cw38_3 h
          refine o_sw0 C 3 cw38_3 dX7_tell_38 (by decide) (by decide) rfl (tgt := 101) (by decide) ?_
          refine lv_aload_n hx hb dX7_tell_101 rfl (lv_at hl 3 rfl) ?_
          obtain ⟨x28, hx28, h⟩ := bs h
          refine o_gR C w hx28 fl_X7_63 dX7_tell_102 ?_
          refine lv_iload_n hx hb dX7_tell_105 rfl (lv_at hl 1 rfl) ?_
          obtain ⟨x29, hx29, h⟩ := bs h
          refine o_ldI C w hx29 dX7_tell_106 ?_
          exact hret _ _ _ _ _ w (Option.some.inj h) dX7_tell_107
        have h := ie cw38_3 h
        by_cases cw38_4 : u19 = 4
        · have h := it cw38_4 h
          refine o_sw0 C 4 cw38_4 dX7_tell_38 (by decide) (by decide) rfl (tgt := 108) (by decide) ?_
          refine lv_aload_n hx hb dX7_tell_108 rfl (lv_at hl 3 rfl) ?_
          obtain ⟨x30, hx30, h⟩ := bs h
          refine o_gR C w hx30 fl_X7_66 dX7_tell_109 ?_
          refine lv_iload_n hx hb dX7_tell_112 rfl (lv_at hl 1 rfl) ?_
          obtain ⟨x31, hx31, h⟩ := bs h
          refine o_ldI C w hx31 dX7_tell_113 ?_
          exact hret _ _ _ _ _ w (Option.some.inj h) dX7_tell_114
        have h := ie cw38_4 h
        by_cases cw38_5 : u19 = 5
        · have h := it cw38_5 h
          refine o_sw0 C 5 cw38_5 dX7_tell_38 (by decide) (by decide) rfl (tgt := 115) (by decide) ?_
          refine lv_aload_n hx hb dX7_tell_115 rfl (lv_at hl 3 rfl) ?_
          refine lv_iload_n hx hb dX7_tell_116 rfl (lv_at hl 1 rfl) ?_
          obtain ⟨_, ho, h⟩ := bs h
          obtain ⟨x32, hc, h⟩ := bs h
          refine o_backi w hLA (o_runV (As := [.int u18]) (rest := []) C w (c_X2_isCurrent l D G L S u20 u18 x32 hc) ml_X7_150 mv_X2_isCurrent hR_X2_isCurrent ho rfl hl.1 rfl (Nat.le_of_ble_eq_true rfl) dX7_tell_117 hcs) (fun H locs w => ?_)
          refine lv_if_eq (tgt := 127) hx hb dX7_tell_120 (by decide) (fun cc120 => ?_) (fun cc120 => ?_)
          · have h := it cc120 h
            refine lv_iconst (v := 0) hx hb dX7_tell_127 (by decide) ?_
            exact hret _ _ _ _ _ w (Option.some.inj h) dX7_tell_128
          · have h := ie cc120 h
            refine lv_iconst (v := 1) hx hb dX7_tell_123 (by decide) ?_
            refine lv_goto (tgt := 128) hx hb dX7_tell_124 (by decide) ?_
            exact hret _ _ _ _ _ w (Option.some.inj h) dX7_tell_128
        have h := ie cw38_5 h
        by_cases cw38_6 : u19 = 6
        · have h := it cw38_6 h
          refine o_sw0 C 6 cw38_6 dX7_tell_38 (by decide) (by decide) rfl (tgt := 129) (by decide) ?_
          refine lv_aload_n hx hb dX7_tell_129 rfl (lv_at hl 3 rfl) ?_
          obtain ⟨x33, hx33, h⟩ := bs h
          refine o_gR C w hx33 fl_X7_153 dX7_tell_130 ?_
          refine lv_iload_n hx hb dX7_tell_133 rfl (lv_at hl 1 rfl) ?_
          obtain ⟨x34, hx34, h⟩ := bs h
          refine o_ldI C w hx34 dX7_tell_134 ?_
          exact hret _ _ _ _ _ w (Option.some.inj h) dX7_tell_135
        have h := ie cw38_6 h
        have cx0 := lv_neT (k := 0) (a := 0) cw38_0 (by decide)
        have cx1 := lv_neT (k := 1) (a := 1) cw38_1 (by decide)
        have cx2 := lv_neT (k := 2) (a := 2) cw38_2 (by decide)
        have cx3 := lv_neT (k := 3) (a := 3) cw38_3 (by decide)
        have cx4 := lv_neT (k := 4) (a := 4) cw38_4 (by decide)
        have cx5 := lv_neT (k := 5) (a := 5) cw38_5 (by decide)
        have cx6 := lv_neT (k := 6) (a := 6) cw38_6 (by decide)
        refine lv_tableOut (tgt := 136) hx hb dX7_tell_38 (by omega) (by decide) ?_
        refine lv_iconst (v := -1) hx hb dX7_tell_136 (by decide) ?_
        exact hret _ _ _ _ _ w (Option.some.inj h) dX7_tell_137
      · have h := ie cc32 h
        refine lv_iconst (v := -1) hx hb dX7_tell_35 (by decide) ?_
        exact hret _ _ _ _ _ w (Option.some.inj h) dX7_tell_36
  intro H locs ls w hl
  refine lv_aload_n hx hb dX7_tell_0 rfl (lv_at hl 0 rfl) ?_
  obtain ⟨x14, hx14, h⟩ := bs h
  refine o_gR C w hx14 fl_X7_12 dX7_tell_1 ?_
  obtain ⟨x15, hx15, h⟩ := bs h
  refine o_gR C w hx15 fl_X7_38 dX7_tell_4 ?_
  refine lv_astore_n (lv' := [(3, .ref x15), (0, .ref v0), (1, .int v1), (2, .int v2)]) hx hb dX7_tell_7 rfl hl (by decide) rfl (fun ls hl => ?_)
  refine lv_iload_n hx hb dX7_tell_8 rfl (lv_at hl 3 rfl) ?_
  refine lv_if_ne (tgt := 19) hx hb dX7_tell_9 (by decide) (fun cc9 => ?_) (fun cc9 => ?_)
  · have h := ie cc9 h
    refine lv_aload_n hx hb dX7_tell_19 rfl (lv_at hl 0 rfl) ?_
    obtain ⟨x16, hx16, h⟩ := bs h
    refine o_gI C w hx16 fl_X7_120 dX7_tell_20 ?_
    exact hb23 _ _ _ _ h H locs ls w (lv_sub hl [2, 3, 0] rfl)
  · have h := it cc9 h
    refine lv_aload_n hx hb dX7_tell_12 rfl (lv_at hl 0 rfl) ?_
    obtain ⟨x17, hx17, h⟩ := bs h
    refine o_gI C w hx17 fl_X7_42 dX7_tell_13 ?_
    refine lv_goto (tgt := 23) hx hb dX7_tell_16 (by decide) ?_
    exact hb23 _ _ _ _ h H locs ls w (lv_sub hl [2, 3, 0] rfl)
set_option maxHeartbeats 4000000 in
set_option maxRecDepth 100000 in
theorem c_X7_tell (l : Launch) (D : va_G) (G : Nat → ClassId) (L : List Nat) (S : PH) (v0 : Nat) (v1 : Int32) (v2 : Int32) (r : Int32) (h : f_X7_tell S v0 v1 v2 = some r) : Met l yX7_tell [Cond.code yX7_tell cX7_tell 5 (some .int)] ({ frames := 1, cells := 0, slots := 0, locals := 21 }) (va_Pc [.ref v0, .int v1, .int v2] (PreU D G L S)) (Qi D G L r S) 0 0 (inL L) := by
  refine Met.ofW (cc := cX7_tell) (maxL := 5) (ret := (some .int)) (by decide) rfl ?_
  intro p e s m args below meth c s₁ B hml hv
  obtain ⟨rfl, hpre⟩ := hv
  obtain ⟨C, w⟩ := o_ent (own := RX7) rfl B hml hpre
  have hl := lv_entry ([.ref v0, .int v1, .int v2]) (n := 5) (Nat.le_of_ble_eq_true rfl)
  rw [lg_entry_eq]
  generalize (lg_sl ([.ref v0, .int v1, .int v2]) ++ List.replicate (5 - (lg_sl ([.ref v0, .int v1, .int v2])).length) Slot.unset).toArray = ls at hl ⊢
  exact w_X7_tell C (fun _ h => h) ⟨Nat.zero_le _, Nat.zero_le _⟩ ⟨rfl, rfl, Nat.le_of_ble_eq_true rfl, Nat.le_of_ble_eq_true rfl⟩ S v0 v1 v2 r h (fun v H locs ls pc w hv hd => by subst hv; exact o_iret C w B.returns B.notSynchronized hd) _ _ _ w hl

def f_X7_asked (S : PH) (v0 : Nat) (v1 : Int32) (v2 : Int32) : Option (Int32) :=
if v1 < 0 then (
some (-1 : Int32))
else (
(gR S v0 7 0).bind fun x1 =>
(gR S x1 5 2).bind fun x2 =>
(gI S x2 0 1).bind fun x3 =>
if x3 ≤ v1 then (
some (-1 : Int32))
else (
if v2 < 0 then (
some (-1 : Int32))
else (
if v2 < (5 : Int32) then (
(gR S v0 7 0).bind fun x4 =>
(gR S x4 5 2).bind fun x5 =>
(gR S x5 0 0).bind fun x6 =>
(ldR 1 S x6 v2).bind fun x7 =>
(ldI S x7 v1).bind fun x8 =>
some x8)
else (
some (-1 : Int32)))))
set_option maxHeartbeats 4000000 in
set_option maxRecDepth 100000 in
theorem w_X7_asked {p : Program} {l : Launch} {e : Env} {R : Room} {s : State} {m : MethodId} {args : Array Value} {below : List Frame} {meth : Method} {c : Code} {cells slots : Nat} {Q : State → Prop} {D : va_G} {G : Nat → ClassId} {L : List Nat} {A : Nat → Prop} {H0 : Heap} (C : CX p s m c args D G cX7_asked 3 RX7) (hLA : ∀ q ∈ L, A q) (hcs : cells ≤ R.cells ∧ slots ≤ R.slots)  (S : PH) (v0 : Nat) (v1 : Int32) (v2 : Int32) (r : Int32) (h : f_X7_asked S v0 v1 v2 = some r) (hret : ∀ (v : Int32) (H : Heap) (locs : List Loc) (ls : Array Slot) (pc : Nat), Wd D G L A H0 S H locs → v = r → decode cX7_asked pc = .ok (.ireturn, 1) → W p l e R s m args below meth c H locs cells slots Q (F0 m pc ls [.int v])) : ∀ (H : Heap) (locs : List Loc) (ls : Array Slot), Wd D G L A H0 S H locs → lv_has ls 3 [(0, .ref v0), (1, .int v1), (2, .int v2)] → W p l e R s m args below meth c H locs cells slots Q (F0 m 0 ls []) := by
  have hx := C.1.1
  have hb := C.1.2.1
  unfold f_X7_asked at h
  intro H locs ls w hl
  refine lv_iload_n hx hb dX7_asked_0 rfl (lv_at hl 1 rfl) ?_
  refine lv_if_lt (tgt := 27) hx hb dX7_asked_1 (by decide) (fun cc1 => ?_) (fun cc1 => ?_)
  · have h := it cc1 h
    refine lv_iconst (v := -1) hx hb dX7_asked_27 (by decide) ?_
    exact hret _ _ _ _ _ w (Option.some.inj h) dX7_asked_28
  · have h := ie cc1 h
    refine lv_iload_n hx hb dX7_asked_4 rfl (lv_at hl 1 rfl) ?_
    refine lv_aload_n hx hb dX7_asked_5 rfl (lv_at hl 0 rfl) ?_
    obtain ⟨x1, hx1, h⟩ := bs h
    refine o_gR C w hx1 fl_X7_12 dX7_asked_6 ?_
    obtain ⟨x2, hx2, h⟩ := bs h
    refine o_gR C w hx2 fl_X7_77 dX7_asked_9 ?_
    obtain ⟨x3, hx3, h⟩ := bs h
    refine o_gI C w hx3 fl_X7_81 dX7_asked_12 ?_
    refine lv_icmp_ge (tgt := 27) hx hb dX7_asked_15 (by decide) (fun cc15 => ?_) (fun cc15 => ?_)
    · have h := it cc15 h
      refine lv_iconst (v := -1) hx hb dX7_asked_27 (by decide) ?_
      exact hret _ _ _ _ _ w (Option.some.inj h) dX7_asked_28
    · have h := ie cc15 h
      refine lv_iload_n hx hb dX7_asked_18 rfl (lv_at hl 2 rfl) ?_
      refine lv_if_lt (tgt := 27) hx hb dX7_asked_19 (by decide) (fun cc19 => ?_) (fun cc19 => ?_)
      · have h := it cc19 h
        refine lv_iconst (v := -1) hx hb dX7_asked_27 (by decide) ?_
        exact hret _ _ _ _ _ w (Option.some.inj h) dX7_asked_28
      · have h := ie cc19 h
        refine lv_iload_n hx hb dX7_asked_22 rfl (lv_at hl 2 rfl) ?_
        refine lv_iconst (v := 5) hx hb dX7_asked_23 (by decide) ?_
        refine lv_icmp_lt (tgt := 29) hx hb dX7_asked_24 (by decide) (fun cc24 => ?_) (fun cc24 => ?_)
        · have h := it cc24 h
          refine lv_aload_n hx hb dX7_asked_29 rfl (lv_at hl 0 rfl) ?_
          obtain ⟨x4, hx4, h⟩ := bs h
          refine o_gR C w hx4 fl_X7_12 dX7_asked_30 ?_
          obtain ⟨x5, hx5, h⟩ := bs h
          refine o_gR C w hx5 fl_X7_77 dX7_asked_33 ?_
          obtain ⟨x6, hx6, h⟩ := bs h
          refine o_gR C w hx6 fl_X7_156 dX7_asked_36 ?_
          refine lv_iload_n hx hb dX7_asked_39 rfl (lv_at hl 2 rfl) ?_
          obtain ⟨x7, hx7, h⟩ := bs h
          refine o_ldR1 C w hx7 dX7_asked_40 ?_
          refine lv_iload_n hx hb dX7_asked_41 rfl (lv_at hl 1 rfl) ?_
          obtain ⟨x8, hx8, h⟩ := bs h
          refine o_ldI C w hx8 dX7_asked_42 ?_
          exact hret _ _ _ _ _ w (Option.some.inj h) dX7_asked_43
        · have h := ie cc24 h
          refine lv_iconst (v := -1) hx hb dX7_asked_27 (by decide) ?_
          exact hret _ _ _ _ _ w (Option.some.inj h) dX7_asked_28
set_option maxHeartbeats 4000000 in
set_option maxRecDepth 100000 in
theorem c_X7_asked (l : Launch) (D : va_G) (G : Nat → ClassId) (L : List Nat) (S : PH) (v0 : Nat) (v1 : Int32) (v2 : Int32) (r : Int32) (h : f_X7_asked S v0 v1 v2 = some r) : Met l yX7_asked [Cond.code yX7_asked cX7_asked 3 (some .int)] ({ frames := 0, cells := 0, slots := 0, locals := 0 }) (va_Pc [.ref v0, .int v1, .int v2] (PreU D G L S)) (Qi D G L r S) 0 0 (inL L) := by
  refine Met.ofW (cc := cX7_asked) (maxL := 3) (ret := (some .int)) (by decide) rfl ?_
  intro p e s m args below meth c s₁ B hml hv
  obtain ⟨rfl, hpre⟩ := hv
  obtain ⟨C, w⟩ := o_ent (own := RX7) rfl B hml hpre
  have hl := lv_entry ([.ref v0, .int v1, .int v2]) (n := 3) (Nat.le_of_ble_eq_true rfl)
  rw [lg_entry_eq]
  generalize (lg_sl ([.ref v0, .int v1, .int v2]) ++ List.replicate (3 - (lg_sl ([.ref v0, .int v1, .int v2])).length) Slot.unset).toArray = ls at hl ⊢
  exact w_X7_asked C (fun _ h => h) ⟨Nat.zero_le _, Nat.zero_le _⟩  S v0 v1 v2 r h (fun v H locs ls pc w hv hd => by subst hv; exact o_iret C w B.returns B.notSynchronized hd) _ _ _ w hl

def f_X7_wish (S : PH) (v0 : Nat) (v1 : Int32) (v2 : Int32) (v3 : Int32) : Option (Int32 × PH) :=
(f_X7_isQuestion v1 v3).bind fun x1 =>
if x1 = 0 then (
some ((-1 : Int32), S))
else (
(gR S v0 7 0).bind fun x2 =>
(gR S x2 5 3).bind fun x3 =>
(gI S x3 6 3).bind fun x4 =>
if x4 < (8 : Int32) then (
(gR S v0 7 0).bind fun x5 =>
(gR S x5 5 3).bind fun x6 =>
(gR S v0 7 0).bind fun x7 =>
(gR S x7 5 0).bind fun x8 =>
(ckO S x8 2).bind fun _ =>
(f_X2_onlyPeople S x8 v2).bind fun x9 =>
(ckO S x6 6).bind fun _ =>
bd2 (f_X6_add S x6 v1 x9 v3) fun x10 S11 =>
some (x10, S11))
else (
some ((-1 : Int32), S)))
set_option maxHeartbeats 4000000 in
set_option maxRecDepth 100000 in
theorem w_X7_wish {p : Program} {l : Launch} {e : Env} {R : Room} {s : State} {m : MethodId} {args : Array Value} {below : List Frame} {meth : Method} {c : Code} {cells slots : Nat} {Q : State → Prop} {D : va_G} {G : Nat → ClassId} {L : List Nat} {A : Nat → Prop} {H0 : Heap} (C : CX p s m c args D G cX7_wish 4 RX7) (hLA : ∀ q ∈ L, A q) (hcs : cells ≤ R.cells ∧ slots ≤ R.slots) (hR_X7_isQuestion : RoomOk R ({ frames := 0, cells := 0, slots := 0, locals := 0 }) 2) (hR_X2_onlyPeople : RoomOk R ({ frames := 0, cells := 0, slots := 0, locals := 0 }) 2) (hR_X6_add : RoomOk R ({ frames := 0, cells := 0, slots := 0, locals := 0 }) 4) (S : PH) (v0 : Nat) (v1 : Int32) (v2 : Int32) (v3 : Int32) (r : Int32 × PH) (h : f_X7_wish S v0 v1 v2 v3 = some r) (hret : ∀ (v : Int32) (S9 : PH) (H : Heap) (locs : List Loc) (ls : Array Slot) (pc : Nat), Wd D G L A H0 S9 H locs → (v, S9) = r → decode cX7_wish pc = .ok (.ireturn, 1) → W p l e R s m args below meth c H locs cells slots Q (F0 m pc ls [.int v])) : ∀ (H : Heap) (locs : List Loc) (ls : Array Slot), Wd D G L A H0 S H locs → lv_has ls 4 [(0, .ref v0), (1, .int v1), (2, .int v2), (3, .int v3)] → W p l e R s m args below meth c H locs cells slots Q (F0 m 0 ls []) := by
  have hx := C.1.1
  have hb := C.1.2.1
  unfold f_X7_wish at h
  intro H locs ls w hl
  refine lv_iload_n hx hb dX7_wish_0 rfl (lv_at hl 1 rfl) ?_
  refine lv_iload_n hx hb dX7_wish_1 rfl (lv_at hl 3 rfl) ?_
  obtain ⟨x1, hc, h⟩ := bs h
  refine o_backi w hLA (o_runS (As := [.int v1, .int v3]) (rest := []) C w (c_X7_isQuestion l D G L S v1 v3 x1 hc) ml_X7_73 st_X7_isQuestion hR_X7_isQuestion rfl hl.1 rfl (Nat.le_of_ble_eq_true rfl) dX7_wish_2 hcs) (fun H locs w => ?_)
  refine lv_if_eq (tgt := 23) hx hb dX7_wish_5 (by decide) (fun cc5 => ?_) (fun cc5 => ?_)
  · have h := it cc5 h
    refine lv_iconst (v := -1) hx hb dX7_wish_23 (by decide) ?_
    exact hret _ _ _ _ _ _ w (Option.some.inj h) dX7_wish_24
  · have h := ie cc5 h
    refine lv_aload_n hx hb dX7_wish_8 rfl (lv_at hl 0 rfl) ?_
    obtain ⟨x2, hx2, h⟩ := bs h
    refine o_gR C w hx2 fl_X7_12 dX7_wish_9 ?_
    obtain ⟨x3, hx3, h⟩ := bs h
    refine o_gR C w hx3 fl_X7_160 dX7_wish_12 ?_
    obtain ⟨x4, hx4, h⟩ := bs h
    refine o_gI C w hx4 fl_X7_164 dX7_wish_15 ?_
    refine lv_bipush (v := 8) hx hb dX7_wish_18 (by decide) ?_
    refine lv_icmp_lt (tgt := 25) hx hb dX7_wish_20 (by decide) (fun cc20 => ?_) (fun cc20 => ?_)
    · have h := it cc20 h
      refine lv_aload_n hx hb dX7_wish_25 rfl (lv_at hl 0 rfl) ?_
      obtain ⟨x5, hx5, h⟩ := bs h
      refine o_gR C w hx5 fl_X7_12 dX7_wish_26 ?_
      obtain ⟨x6, hx6, h⟩ := bs h
      refine o_gR C w hx6 fl_X7_160 dX7_wish_29 ?_
      refine lv_iload_n hx hb dX7_wish_32 rfl (lv_at hl 1 rfl) ?_
      refine lv_aload_n hx hb dX7_wish_33 rfl (lv_at hl 0 rfl) ?_
      obtain ⟨x7, hx7, h⟩ := bs h
      refine o_gR C w hx7 fl_X7_12 dX7_wish_34 ?_
      obtain ⟨x8, hx8, h⟩ := bs h
      refine o_gR C w hx8 fl_X7_38 dX7_wish_37 ?_
      refine lv_iload_n hx hb dX7_wish_40 rfl (lv_at hl 2 rfl) ?_
      obtain ⟨_, ho, h⟩ := bs h
      obtain ⟨x9, hc, h⟩ := bs h
      refine o_backi w hLA (o_runV (As := [.int v2]) (rest := [.int v1, .ref x6]) C w (c_X2_onlyPeople l D G L S x8 v2 x9 hc) ml_X7_86 mv_X2_onlyPeople hR_X2_onlyPeople ho rfl hl.1 rfl (Nat.le_of_ble_eq_true rfl) dX7_wish_41 hcs) (fun H locs w => ?_)
      refine lv_iload_n hx hb dX7_wish_44 rfl (lv_at hl 3 rfl) ?_
      obtain ⟨_, ho, h⟩ := bs h
      obtain ⟨x10, S11, hc, h⟩ := bs2 h
      refine o_backi w hLA (o_runV (As := [.int v1, .int x9, .int v3]) (rest := []) C w (c_X6_add l D G L S x6 v1 x9 v3 (x10, S11) hc) ml_X7_167 mv_X6_add hR_X6_add ho rfl hl.1 rfl (Nat.le_of_ble_eq_true rfl) dX7_wish_45 hcs) (fun H locs w => ?_)
      exact hret _ _ _ _ _ _ w (Option.some.inj h) dX7_wish_48
    · have h := ie cc20 h
      refine lv_iconst (v := -1) hx hb dX7_wish_23 (by decide) ?_
      exact hret _ _ _ _ _ _ w (Option.some.inj h) dX7_wish_24
set_option maxHeartbeats 4000000 in
set_option maxRecDepth 100000 in
theorem c_X7_wish (l : Launch) (D : va_G) (G : Nat → ClassId) (L : List Nat) (S : PH) (v0 : Nat) (v1 : Int32) (v2 : Int32) (v3 : Int32) (r : Int32 × PH) (h : f_X7_wish S v0 v1 v2 v3 = some r) : Met l yX7_wish [Cond.code yX7_wish cX7_wish 4 (some .int)] ({ frames := 1, cells := 0, slots := 0, locals := 23 }) (va_Pc [.ref v0, .int v1, .int v2, .int v3] (PreU D G L S)) (Qi D G L r.1 r.2) 0 0 (inL L) := by
  refine Met.ofW (cc := cX7_wish) (maxL := 4) (ret := (some .int)) (by decide) rfl ?_
  intro p e s m args below meth c s₁ B hml hv
  obtain ⟨rfl, hpre⟩ := hv
  obtain ⟨C, w⟩ := o_ent (own := RX7) rfl B hml hpre
  have hl := lv_entry ([.ref v0, .int v1, .int v2, .int v3]) (n := 4) (Nat.le_of_ble_eq_true rfl)
  rw [lg_entry_eq]
  generalize (lg_sl ([.ref v0, .int v1, .int v2, .int v3]) ++ List.replicate (4 - (lg_sl ([.ref v0, .int v1, .int v2, .int v3])).length) Slot.unset).toArray = ls at hl ⊢
  exact w_X7_wish C (fun _ h => h) ⟨Nat.zero_le _, Nat.zero_le _⟩ ⟨rfl, rfl, Nat.le_of_ble_eq_true rfl, Nat.le_of_ble_eq_true rfl⟩ ⟨rfl, rfl, Nat.le_of_ble_eq_true rfl, Nat.le_of_ble_eq_true rfl⟩ ⟨rfl, rfl, Nat.le_of_ble_eq_true rfl, Nat.le_of_ble_eq_true rfl⟩ S v0 v1 v2 v3 r h (fun v S9 H locs ls pc w hv hd => by subst hv; exact o_iret C w B.returns B.notSynchronized hd) _ _ _ w hl

def f_X7_clear (S : PH) (v0 : Nat) : Option (PH) :=
(gR S v0 7 0).bind fun x1 =>
(gR S x1 5 3).bind fun x2 =>
(pI S x2 6 3 (0 : Int32)).bind fun S3 =>
some S3
set_option maxHeartbeats 4000000 in
set_option maxRecDepth 100000 in
theorem w_X7_clear {p : Program} {l : Launch} {e : Env} {R : Room} {s : State} {m : MethodId} {args : Array Value} {below : List Frame} {meth : Method} {c : Code} {cells slots : Nat} {Q : State → Prop} {D : va_G} {G : Nat → ClassId} {L : List Nat} {A : Nat → Prop} {H0 : Heap} (C : CX p s m c args D G cX7_clear 1 RX7) (hLA : ∀ q ∈ L, A q) (hcs : cells ≤ R.cells ∧ slots ≤ R.slots)  (S : PH) (v0 : Nat) (r : PH) (h : f_X7_clear S v0 = some r) (hret : ∀ (S9 : PH) (H : Heap) (locs : List Loc) (ls : Array Slot) (pc : Nat), Wd D G L A H0 S9 H locs → S9 = r → decode cX7_clear pc = .ok (.return_, 1) → W p l e R s m args below meth c H locs cells slots Q (F0 m pc ls [])) : ∀ (H : Heap) (locs : List Loc) (ls : Array Slot), Wd D G L A H0 S H locs → lv_has ls 1 [(0, .ref v0)] → W p l e R s m args below meth c H locs cells slots Q (F0 m 0 ls []) := by
  have hx := C.1.1
  have hb := C.1.2.1
  unfold f_X7_clear at h
  intro H locs ls w hl
  refine lv_aload_n hx hb dX7_clear_0 rfl (lv_at hl 0 rfl) ?_
  obtain ⟨x1, hx1, h⟩ := bs h
  refine o_gR C w hx1 fl_X7_12 dX7_clear_1 ?_
  obtain ⟨x2, hx2, h⟩ := bs h
  refine o_gR C w hx2 fl_X7_160 dX7_clear_4 ?_
  refine lv_iconst (v := 0) hx hb dX7_clear_7 (by decide) ?_
  obtain ⟨S3, hS3, h⟩ := bs h
  refine o_pF C w hS3 fp_X7_164 rfl rfl dX7_clear_8 (fun H locs w => ?_)
  exact hret _ _ _ _ _ w (Option.some.inj h) dX7_clear_11
set_option maxHeartbeats 4000000 in
set_option maxRecDepth 100000 in
theorem c_X7_clear (l : Launch) (D : va_G) (G : Nat → ClassId) (L : List Nat) (S : PH) (v0 : Nat) (r : PH) (h : f_X7_clear S v0 = some r) : Met l yX7_clear [Cond.code yX7_clear cX7_clear 1 none] ({ frames := 0, cells := 0, slots := 0, locals := 0 }) (va_Pc [.ref v0] (PreU D G L S)) (Qv D G L r) 0 0 (inL L) := by
  refine Met.ofW (cc := cX7_clear) (maxL := 1) (ret := none) (by decide) rfl ?_
  intro p e s m args below meth c s₁ B hml hv
  obtain ⟨rfl, hpre⟩ := hv
  obtain ⟨C, w⟩ := o_ent (own := RX7) rfl B hml hpre
  have hl := lv_entry ([.ref v0]) (n := 1) (Nat.le_of_ble_eq_true rfl)
  rw [lg_entry_eq]
  generalize (lg_sl ([.ref v0]) ++ List.replicate (1 - (lg_sl ([.ref v0])).length) Slot.unset).toArray = ls at hl ⊢
  exact w_X7_clear C (fun _ h => h) ⟨Nat.zero_le _, Nat.zero_le _⟩  S v0 r h (fun S9 H locs ls pc w hv hd => by subst hv; exact o_vret C w B.returns B.notSynchronized hd) _ _ _ w hl

def f_X7_answerWishes_L56 (S : PH) (v0 : Nat) (v2 : Nat) (v3 : Int32) : Option ((Int32 × PH) ⊕ (PH)) :=
(gI S v2 6 3).bind fun x16 =>
if x16 ≤ v3 then (
some (.inr S))
else (
(gR S v0 7 3).bind fun x17 =>
(gR S v0 7 0).bind fun x18 =>
(gR S x18 5 0).bind fun x19 =>
(gR S v2 6 0).bind fun x20 =>
(ldI S x20 v3).bind fun x21 =>
(gR S v2 6 1).bind fun x22 =>
(ldI S x22 v3).bind fun x23 =>
(gR S v2 6 2).bind fun x24 =>
(ldI S x24 v3).bind fun x25 =>
(ckO S x17 3).bind fun _ =>
(f_X3_answerTables S x17 x19 x21 x23 x25).bind fun S26 =>
(gR S26 v0 7 4).bind fun x27 =>
(gR S26 v0 7 3).bind fun x28 =>
(gR S26 x28 3 1).bind fun x29 =>
(ckO S26 x27 4).bind fun _ =>
(f_X4_addAnswers S26 x27 v3 x29).bind fun S30 =>
some (.inl ((v3 + 1), S30)))
def f_X7_answerWishes (S : PH) (v0 : Nat) (v1 : Int32) : Option (PH) :=
(gR S v0 7 0).bind fun x1 =>
(gR S x1 5 3).bind fun x2 =>
(gR S v0 7 3).bind fun x3 =>
(gR S v0 7 0).bind fun x4 =>
(gR S x4 5 0).bind fun x5 =>
(ckO S x3 3).bind fun _ =>
(f_X3_markTables S x3 x5).bind fun S6 =>
(gR S6 v0 7 4).bind fun x7 =>
(gR S6 v0 7 0).bind fun x8 =>
(gR S6 x8 5 0).bind fun x9 =>
(gR S6 v0 7 3).bind fun x10 =>
(gR S6 x10 3 0).bind fun x11 =>
(gR S6 v0 7 0).bind fun x12 =>
(gR S6 x12 5 1).bind fun x13 =>
(ckO S6 x13 1).bind fun _ =>
(f_X1_leftOf S6 x13 v1).bind fun x14 =>
(ckO S6 x7 4).bind fun _ =>
(f_X4_begin S6 x7 x9 x11 x14).bind fun S15 =>
(lpo (fun x : Int32 × PH => f_X7_answerWishes_L56 x.2 v0 x2 x.1) FU ((0 : Int32), S15)).bind fun S31 =>
some S31
set_option maxHeartbeats 4000000 in
set_option maxRecDepth 100000 in
theorem w_X7_answerWishes {p : Program} {l : Launch} {e : Env} {R : Room} {s : State} {m : MethodId} {args : Array Value} {below : List Frame} {meth : Method} {c : Code} {cells slots : Nat} {Q : State → Prop} {D : va_G} {G : Nat → ClassId} {L : List Nat} {A : Nat → Prop} {H0 : Heap} (C : CX p s m c args D G cX7_answerWishes 4 RX7) (hLA : ∀ q ∈ L, A q) (hcs : cells ≤ R.cells ∧ slots ≤ R.slots) (hR_X3_markTables : RoomOk R ({ frames := 1, cells := 0, slots := 0, locals := 21 }) 9) (hR_X1_leftOf : RoomOk R ({ frames := 0, cells := 0, slots := 0, locals := 0 }) 2) (hR_X4_begin : RoomOk R ({ frames := 1, cells := 0, slots := 0, locals := 21 }) 5) (hR_X3_answerTables : RoomOk R ({ frames := 2, cells := 0, slots := 0, locals := 44 }) 13) (hR_X4_addAnswers : RoomOk R ({ frames := 0, cells := 0, slots := 0, locals := 0 }) 5) (S : PH) (v0 : Nat) (v1 : Int32) (r : PH) (h : f_X7_answerWishes S v0 v1 = some r) (hret : ∀ (S9 : PH) (H : Heap) (locs : List Loc) (ls : Array Slot) (pc : Nat), Wd D G L A H0 S9 H locs → S9 = r → decode cX7_answerWishes pc = .ok (.return_, 1) → W p l e R s m args below meth c H locs cells slots Q (F0 m pc ls [])) : ∀ (H : Heap) (locs : List Loc) (ls : Array Slot), Wd D G L A H0 S H locs → lv_has ls 4 [(0, .ref v0), (1, .int v1)] → W p l e R s m args below meth c H locs cells slots Q (F0 m 0 ls []) := by
  have hx := C.1.1
  have hb := C.1.2.1
  unfold f_X7_answerWishes at h
  intro H locs ls w hl
  refine lv_aload_n hx hb dX7_answerWishes_0 rfl (lv_at hl 0 rfl) ?_
  obtain ⟨x1, hx1, h⟩ := bs h
  refine o_gR C w hx1 fl_X7_12 dX7_answerWishes_1 ?_
  obtain ⟨x2, hx2, h⟩ := bs h
  refine o_gR C w hx2 fl_X7_160 dX7_answerWishes_4 ?_
  refine lv_astore_n (lv' := [(2, .ref x2), (0, .ref v0), (1, .int v1)]) hx hb dX7_answerWishes_7 rfl hl (by decide) rfl (fun ls hl => ?_)
  refine lv_aload_n hx hb dX7_answerWishes_8 rfl (lv_at hl 1 rfl) ?_
  obtain ⟨x3, hx3, h⟩ := bs h
  refine o_gR C w hx3 fl_X7_27 dX7_answerWishes_9 ?_
  refine lv_aload_n hx hb dX7_answerWishes_12 rfl (lv_at hl 1 rfl) ?_
  obtain ⟨x4, hx4, h⟩ := bs h
  refine o_gR C w hx4 fl_X7_12 dX7_answerWishes_13 ?_
  obtain ⟨x5, hx5, h⟩ := bs h
  refine o_gR C w hx5 fl_X7_38 dX7_answerWishes_16 ?_
  obtain ⟨_, ho, h⟩ := bs h
  obtain ⟨S6, hc, h⟩ := bs h
  refine o_backv w hLA (o_runV (As := [.ref x5]) (rest := []) C w (c_X3_markTables l D G L S x3 x5 S6 hc) ml_X7_194 mv_X3_markTables hR_X3_markTables ho rfl hl.1 rfl (Nat.le_of_ble_eq_true rfl) dX7_answerWishes_19 hcs) (fun H locs w => ?_)
  refine lv_aload_n hx hb dX7_answerWishes_22 rfl (lv_at hl 1 rfl) ?_
  obtain ⟨x7, hx7, h⟩ := bs h
  refine o_gR C w hx7 fl_X7_34 dX7_answerWishes_23 ?_
  refine lv_aload_n hx hb dX7_answerWishes_26 rfl (lv_at hl 1 rfl) ?_
  obtain ⟨x8, hx8, h⟩ := bs h
  refine o_gR C w hx8 fl_X7_12 dX7_answerWishes_27 ?_
  obtain ⟨x9, hx9, h⟩ := bs h
  refine o_gR C w hx9 fl_X7_38 dX7_answerWishes_30 ?_
  refine lv_aload_n hx hb dX7_answerWishes_33 rfl (lv_at hl 1 rfl) ?_
  obtain ⟨x10, hx10, h⟩ := bs h
  refine o_gR C w hx10 fl_X7_27 dX7_answerWishes_34 ?_
  obtain ⟨x11, hx11, h⟩ := bs h
  refine o_gR C w hx11 fl_X7_221 dX7_answerWishes_37 ?_
  refine lv_aload_n hx hb dX7_answerWishes_40 rfl (lv_at hl 1 rfl) ?_
  obtain ⟨x12, hx12, h⟩ := bs h
  refine o_gR C w hx12 fl_X7_12 dX7_answerWishes_41 ?_
  obtain ⟨x13, hx13, h⟩ := bs h
  refine o_gR C w hx13 fl_X7_101 dX7_answerWishes_44 ?_
  refine lv_iload_n hx hb dX7_answerWishes_47 rfl (lv_at hl 2 rfl) ?_
  obtain ⟨_, ho, h⟩ := bs h
  obtain ⟨x14, hc, h⟩ := bs h
  refine o_backr w hLA (o_runV (As := [.int v1]) (rest := [.ref x11, .ref x9, .ref x7]) C w (c_X1_leftOf l D G L S6 x13 v1 x14 hc) ml_X7_202 mv_X1_leftOf hR_X1_leftOf ho rfl hl.1 rfl (Nat.le_of_ble_eq_true rfl) dX7_answerWishes_48 hcs) (fun H locs w => ?_)
  obtain ⟨_, ho, h⟩ := bs h
  obtain ⟨S15, hc, h⟩ := bs h
  refine o_backv w hLA (o_runV (As := [.ref x9, .ref x11, .ref x14]) (rest := []) C w (c_X4_begin l D G L S6 x7 x9 x11 x14 S15 hc) ml_X7_225 mv_X4_begin hR_X4_begin ho rfl hl.1 rfl (Nat.le_of_ble_eq_true rfl) dX7_answerWishes_51 hcs) (fun H locs w => ?_)
  refine lv_iconst (v := 0) hx hb dX7_answerWishes_54 (by decide) ?_
  refine lv_istore_n (lv' := [(3, .int (0 : Int32)), (2, .ref x2), (0, .ref v0), (1, .int v1)]) hx hb dX7_answerWishes_55 rfl hl (by decide) rfl (fun ls hl => ?_)
  obtain ⟨S31, hL56, h⟩ := bs h
  have hE56 : ∀ (q32 : PH), S31 = q32 → ∀ (H : Heap) (locs : List Loc) (ls : Array Slot), Wd D G L A H0 q32 H locs → lv_has ls 4 [] → W p l e R s m args below meth c H locs cells slots Q (F0 m 117 ls []) := by
    intro q32 he
    cases he
    intro H locs ls w hl
    exact hret _ _ _ _ _ w (Option.some.inj h) dX7_answerWishes_117
  refine lpo_W (P := fun x : Int32 × PH => ∀ (H : Heap) (locs : List Loc) (ls : Array Slot), Wd D G L A H0 x.2 H locs → lv_has ls 4 [(0, .ref v0), (2, .ref x2), (3, .int x.1)] → W p l e R s m args below meth c H locs cells slots Q (F0 m 56 ls [])) ?_ FU _ hL56 H locs ls w (lv_sub hl [2, 1, 0] rfl)
  intro x y56 h hnext56 hend56
  obtain ⟨t33, S34⟩ := x
  have h : f_X7_answerWishes_L56 S34 v0 x2 t33 = some y56 := h
  unfold f_X7_answerWishes_L56 at h
  intro H locs ls w hl
  have hl : lv_has ls 4 [(0, .ref v0), (2, .ref x2), (3, .int t33)] := hl
  have w : Wd D G L A H0 S34 H locs := w
  refine lv_iload_n hx hb dX7_answerWishes_56 rfl (lv_at hl 2 rfl) ?_
  refine lv_aload_n hx hb dX7_answerWishes_57 rfl (lv_at hl 1 rfl) ?_
  obtain ⟨x35, hx35, h⟩ := bs h
  refine o_gI C w hx35 fl_X7_164 dX7_answerWishes_58 ?_
  refine lv_icmp_ge (tgt := 117) hx hb dX7_answerWishes_61 (by decide) (fun cc61 => ?_) (fun cc61 => ?_)
  · have h := it cc61 h
    exact hE56 _ (hend56 _ (Option.some.inj h).symm).symm H locs ls w (lv_sub hl [] rfl)
  · have h := ie cc61 h
    refine lv_aload_n hx hb dX7_answerWishes_64 rfl (lv_at hl 0 rfl) ?_
    obtain ⟨x36, hx36, h⟩ := bs h
    refine o_gR C w hx36 fl_X7_27 dX7_answerWishes_65 ?_
    refine lv_aload_n hx hb dX7_answerWishes_68 rfl (lv_at hl 0 rfl) ?_
    obtain ⟨x37, hx37, h⟩ := bs h
    refine o_gR C w hx37 fl_X7_12 dX7_answerWishes_69 ?_
    obtain ⟨x38, hx38, h⟩ := bs h
    refine o_gR C w hx38 fl_X7_38 dX7_answerWishes_72 ?_
    refine lv_aload_n hx hb dX7_answerWishes_75 rfl (lv_at hl 1 rfl) ?_
    obtain ⟨x39, hx39, h⟩ := bs h
    refine o_gR C w hx39 fl_X7_229 dX7_answerWishes_76 ?_
    refine lv_iload_n hx hb dX7_answerWishes_79 rfl (lv_at hl 2 rfl) ?_
    obtain ⟨x40, hx40, h⟩ := bs h
    refine o_ldI C w hx40 dX7_answerWishes_80 ?_
    refine lv_aload_n hx hb dX7_answerWishes_81 rfl (lv_at hl 1 rfl) ?_
    obtain ⟨x41, hx41, h⟩ := bs h
    refine o_gR C w hx41 fl_X7_232 dX7_answerWishes_82 ?_
    refine lv_iload_n hx hb dX7_answerWishes_85 rfl (lv_at hl 2 rfl) ?_
    obtain ⟨x42, hx42, h⟩ := bs h
    refine o_ldI C w hx42 dX7_answerWishes_86 ?_
    refine lv_aload_n hx hb dX7_answerWishes_87 rfl (lv_at hl 1 rfl) ?_
    obtain ⟨x43, hx43, h⟩ := bs h
    refine o_gR C w hx43 fl_X7_235 dX7_answerWishes_88 ?_
    refine lv_iload_n hx hb dX7_answerWishes_91 rfl (lv_at hl 2 rfl) ?_
    obtain ⟨x44, hx44, h⟩ := bs h
    refine o_ldI C w hx44 dX7_answerWishes_92 ?_
    obtain ⟨_, ho, h⟩ := bs h
    obtain ⟨S45, hc, h⟩ := bs h
    refine o_backv w hLA (o_runV (As := [.ref x38, .int x40, .int x42, .int x44]) (rest := []) C w (c_X3_answerTables l D G L S34 x36 x38 x40 x42 x44 S45 hc) ml_X7_198 mv_X3_answerTables hR_X3_answerTables ho rfl hl.1 rfl (Nat.le_of_ble_eq_true rfl) dX7_answerWishes_93 hcs) (fun H locs w => ?_)
    refine lv_aload_n hx hb dX7_answerWishes_96 rfl (lv_at hl 0 rfl) ?_
    obtain ⟨x46, hx46, h⟩ := bs h
    refine o_gR C w hx46 fl_X7_34 dX7_answerWishes_97 ?_
    refine lv_iload_n hx hb dX7_answerWishes_100 rfl (lv_at hl 2 rfl) ?_
    refine lv_aload_n hx hb dX7_answerWishes_101 rfl (lv_at hl 0 rfl) ?_
    obtain ⟨x47, hx47, h⟩ := bs h
    refine o_gR C w hx47 fl_X7_27 dX7_answerWishes_102 ?_
    obtain ⟨x48, hx48, h⟩ := bs h
    refine o_gR C w hx48 fl_X7_94 dX7_answerWishes_105 ?_
    obtain ⟨_, ho, h⟩ := bs h
    obtain ⟨S49, hc, h⟩ := bs h
    refine o_backv w hLA (o_runV (As := [.int t33, .ref x48]) (rest := []) C w (c_X4_addAnswers l D G L S45 x46 t33 x48 S49 hc) ml_X7_238 mv_X4_addAnswers hR_X4_addAnswers ho rfl hl.1 rfl (Nat.le_of_ble_eq_true rfl) dX7_answerWishes_108 hcs) (fun H locs w => ?_)
    refine lv_iinc (v := (t33 + 1)) (lv' := [(3, .int (t33 + 1)), (0, .ref v0), (2, .ref x2)]) hx hb dX7_answerWishes_111 hl (k := 2) rfl rfl (by decide) rfl (fun ls hl => ?_)
    refine lv_goto (tgt := 56) hx hb dX7_answerWishes_114 (by decide) ?_
    exact hnext56 _ (Option.some.inj h).symm H locs ls w (lv_sub hl [1, 2, 0] rfl)
set_option maxHeartbeats 4000000 in
set_option maxRecDepth 100000 in
theorem c_X7_answerWishes (l : Launch) (D : va_G) (G : Nat → ClassId) (L : List Nat) (S : PH) (v0 : Nat) (v1 : Int32) (r : PH) (h : f_X7_answerWishes S v0 v1 = some r) : Met l yX7_answerWishes [Cond.code yX7_answerWishes cX7_answerWishes 4 none] ({ frames := 3, cells := 0, slots := 0, locals := 76 }) (va_Pc [.ref v0, .int v1] (PreU D G L S)) (Qv D G L r) 0 0 (inL L) := by
  refine Met.ofW (cc := cX7_answerWishes) (maxL := 4) (ret := none) (by decide) rfl ?_
  intro p e s m args below meth c s₁ B hml hv
  obtain ⟨rfl, hpre⟩ := hv
  obtain ⟨C, w⟩ := o_ent (own := RX7) rfl B hml hpre
  have hl := lv_entry ([.ref v0, .int v1]) (n := 4) (Nat.le_of_ble_eq_true rfl)
  rw [lg_entry_eq]
  generalize (lg_sl ([.ref v0, .int v1]) ++ List.replicate (4 - (lg_sl ([.ref v0, .int v1])).length) Slot.unset).toArray = ls at hl ⊢
  exact w_X7_answerWishes C (fun _ h => h) ⟨Nat.zero_le _, Nat.zero_le _⟩ ⟨rfl, rfl, Nat.le_of_ble_eq_true rfl, Nat.le_of_ble_eq_true rfl⟩ ⟨rfl, rfl, Nat.le_of_ble_eq_true rfl, Nat.le_of_ble_eq_true rfl⟩ ⟨rfl, rfl, Nat.le_of_ble_eq_true rfl, Nat.le_of_ble_eq_true rfl⟩ ⟨rfl, rfl, Nat.le_of_ble_eq_true rfl, Nat.le_of_ble_eq_true rfl⟩ ⟨rfl, rfl, Nat.le_of_ble_eq_true rfl, Nat.le_of_ble_eq_true rfl⟩ S v0 v1 r h (fun S9 H locs ls pc w hv hd => by subst hv; exact o_vret C w B.returns B.notSynchronized hd) _ _ _ w hl

def f_X7_betterOf (v0 : Int32) (v1 : Int32) : Option (Int32) :=
(f_J6_bitCount_0f7a4 v1).bind fun x1 =>
(f_J6_bitCount_0f7a4 v0).bind fun x2 =>
if (x1 - x2) = 0 then (
some (if v1 < v0 then v1 else v0))
else (
if (x1 - x2) ≤ 0 then (
some v0)
else (
some v1))
set_option maxHeartbeats 4000000 in
set_option maxRecDepth 100000 in
theorem w_X7_betterOf {p : Program} {l : Launch} {e : Env} {R : Room} {s : State} {m : MethodId} {args : Array Value} {below : List Frame} {meth : Method} {c : Code} {cells slots : Nat} {Q : State → Prop} {D : va_G} {G : Nat → ClassId} {L : List Nat} {A : Nat → Prop} {H0 : Heap} (C : CX p s m c args D G cX7_betterOf 3 RX7) (hLA : ∀ q ∈ L, A q) (hcs : cells ≤ R.cells ∧ slots ≤ R.slots) (hRm : 1 ≤ R.frames ∧ 21 ≤ R.locals) (hR_J6_bitCount_0f7a4 : RoomOk R ({ frames := 0, cells := 0, slots := 0, locals := 0 }) 1) (S : PH) (v0 : Int32) (v1 : Int32) (r : Int32) (h : f_X7_betterOf v0 v1 = some r) (hret : ∀ (v : Int32) (H : Heap) (locs : List Loc) (ls : Array Slot) (pc : Nat), Wd D G L A H0 S H locs → v = r → decode cX7_betterOf pc = .ok (.ireturn, 1) → W p l e R s m args below meth c H locs cells slots Q (F0 m pc ls [.int v])) : ∀ (H : Heap) (locs : List Loc) (ls : Array Slot), Wd D G L A H0 S H locs → lv_has ls 3 [(0, .int v0), (1, .int v1)] → W p l e R s m args below meth c H locs cells slots Q (F0 m 0 ls []) := by
  have hx := C.1.1
  have hb := C.1.2.1
  unfold f_X7_betterOf at h
  intro H locs ls w hl
  refine lv_iload_n hx hb dX7_betterOf_0 rfl (lv_at hl 1 rfl) ?_
  obtain ⟨x1, hc, h⟩ := bs h
  refine o_backi w hLA (o_runS (As := [.int v1]) (rest := []) C w (c_J6_bitCount_0f7a4 l D G L S v1 x1 hc) ml_X7_135 st_J6_bitCount_0f7a4 hR_J6_bitCount_0f7a4 rfl hl.1 rfl (Nat.le_of_ble_eq_true rfl) dX7_betterOf_1 hcs) (fun H locs w => ?_)
  refine lv_iload_n hx hb dX7_betterOf_4 rfl (lv_at hl 0 rfl) ?_
  obtain ⟨x2, hc, h⟩ := bs h
  refine o_backi w hLA (o_runS (As := [.int v0]) (rest := [.int x1]) C w (c_J6_bitCount_0f7a4 l D G L S v0 x2 hc) ml_X7_135 st_J6_bitCount_0f7a4 hR_J6_bitCount_0f7a4 rfl hl.1 rfl (Nat.le_of_ble_eq_true rfl) dX7_betterOf_5 hcs) (fun H locs w => ?_)
  refine lv_isub hx hb dX7_betterOf_8 ?_
  refine lv_istore_n (lv' := [(2, .int (x1 - x2)), (0, .int v0), (1, .int v1)]) hx hb dX7_betterOf_9 rfl hl (by decide) rfl (fun ls hl => ?_)
  refine lv_iload_n hx hb dX7_betterOf_10 rfl (lv_at hl 0 rfl) ?_
  refine lv_if_ne (tgt := 20) hx hb dX7_betterOf_11 (by decide) (fun cc11 => ?_) (fun cc11 => ?_)
  · have h := ie cc11 h
    refine lv_iload_n hx hb dX7_betterOf_20 rfl (lv_at hl 0 rfl) ?_
    refine lv_if_le (tgt := 28) hx hb dX7_betterOf_21 (by decide) (fun cc21 => ?_) (fun cc21 => ?_)
    · have h := it cc21 h
      refine lv_iload_n hx hb dX7_betterOf_28 rfl (lv_at hl 1 rfl) ?_
      exact hret _ _ _ _ _ w (Option.some.inj h) dX7_betterOf_29
    · have h := ie cc21 h
      refine lv_iload_n hx hb dX7_betterOf_24 rfl (lv_at hl 2 rfl) ?_
      refine lv_goto (tgt := 29) hx hb dX7_betterOf_25 (by decide) ?_
      exact hret _ _ _ _ _ w (Option.some.inj h) dX7_betterOf_29
  · have h := it cc11 h
    refine lv_iload_n hx hb dX7_betterOf_14 rfl (lv_at hl 1 rfl) ?_
    refine lv_iload_n hx hb dX7_betterOf_15 rfl (lv_at hl 2 rfl) ?_
    refine va_mmin hx hb (C.1.2.2.1.trans hl.1.symm) C.1.2.2.2.1 (C.1.2.2.2.2 _ kmm_X7_246) (C.1.2.2.2.2 _ kmm_min_s) (C.1.2.2.2.2 _ kmm_i) (C.1.2.2.2.2 _ kmm_min_c) hRm.1 (Nat.le_trans (Nat.le_of_ble_eq_true rfl) hRm.2) hcs.1 hcs.2 dX7_betterOf_16 ?_
    exact hret _ _ _ _ _ w (Option.some.inj h) dX7_betterOf_19
set_option maxHeartbeats 4000000 in
set_option maxRecDepth 100000 in
theorem c_X7_betterOf (l : Launch) (D : va_G) (G : Nat → ClassId) (L : List Nat) (S : PH) (v0 : Int32) (v1 : Int32) (r : Int32) (h : f_X7_betterOf v0 v1 = some r) : Met l yX7_betterOf [Cond.code yX7_betterOf cX7_betterOf 3 (some .int)] ({ frames := 1, cells := 0, slots := 0, locals := 21 }) (va_Pc [.int v0, .int v1] (PreU D G L S)) (Qi D G L r S) 0 0 (inL L) := by
  refine Met.ofW (cc := cX7_betterOf) (maxL := 3) (ret := (some .int)) (by decide) rfl ?_
  intro p e s m args below meth c s₁ B hml hv
  obtain ⟨rfl, hpre⟩ := hv
  obtain ⟨C, w⟩ := o_ent (own := RX7) rfl B hml hpre
  have hl := lv_entry ([.int v0, .int v1]) (n := 3) (Nat.le_of_ble_eq_true rfl)
  rw [lg_entry_eq]
  generalize (lg_sl ([.int v0, .int v1]) ++ List.replicate (3 - (lg_sl ([.int v0, .int v1])).length) Slot.unset).toArray = ls at hl ⊢
  exact w_X7_betterOf C (fun _ h => h) ⟨Nat.zero_le _, Nat.zero_le _⟩ ⟨Nat.le_of_ble_eq_true rfl, Nat.le_of_ble_eq_true rfl⟩ ⟨rfl, rfl, Nat.le_of_ble_eq_true rfl, Nat.le_of_ble_eq_true rfl⟩ S v0 v1 r h (fun v H locs ls pc w hv hd => by subst hv; exact o_iret C w B.returns B.notSynchronized hd) _ _ _ w hl

def f_X7_together (S : PH) (v0 : Nat) (v1 : Int32) (v2 : Int32) : Option (Int32 × PH) :=
(f_X7_isAsker v1).bind fun x1 =>
if x1 = 0 then (
some ((0 : Int32), S))
else (
if v2 < 0 then (
some ((0 : Int32), S))
else (
(gR S v0 7 0).bind fun x2 =>
(gR S x2 5 3).bind fun x3 =>
(gI S x3 6 3).bind fun x4 =>
if v2 < ((1 : Int32) <<< (x4 &&& 31)) then (
if v2 = 0 then (
some ((1 : Int32), S))
else (
(ckO S v0 7).bind fun _ =>
(f_X7_answerWishes S v0 v1).bind fun S5 =>
(gR S5 v0 7 4).bind fun x6 =>
(ckO S5 x6 4).bind fun _ =>
bd2 (f_X4_isGranted S5 x6 v2) fun x7 S8 =>
(ckZ x7).bind fun _ =>
some (x7, S8)))
else (
some ((0 : Int32), S))))
set_option maxHeartbeats 4000000 in
set_option maxRecDepth 100000 in
theorem w_X7_together {p : Program} {l : Launch} {e : Env} {R : Room} {s : State} {m : MethodId} {args : Array Value} {below : List Frame} {meth : Method} {c : Code} {cells slots : Nat} {Q : State → Prop} {D : va_G} {G : Nat → ClassId} {L : List Nat} {A : Nat → Prop} {H0 : Heap} (C : CX p s m c args D G cX7_together 3 RX7) (hLA : ∀ q ∈ L, A q) (hcs : cells ≤ R.cells ∧ slots ≤ R.slots) (hR_X7_isAsker : RoomOk R ({ frames := 0, cells := 0, slots := 0, locals := 0 }) 1) (hR_X7_answerWishes : RoomOk R ({ frames := 3, cells := 0, slots := 0, locals := 76 }) 4) (hR_X4_isGranted : RoomOk R ({ frames := 4, cells := 0, slots := 0, locals := 98 }) 3) (S : PH) (v0 : Nat) (v1 : Int32) (v2 : Int32) (r : Int32 × PH) (h : f_X7_together S v0 v1 v2 = some r) (hret : ∀ (v : Int32) (S9 : PH) (H : Heap) (locs : List Loc) (ls : Array Slot) (pc : Nat), Wd D G L A H0 S9 H locs → narrow .boolean (.int v) = .int v → (v, S9) = r → decode cX7_together pc = .ok (.ireturn, 1) → W p l e R s m args below meth c H locs cells slots Q (F0 m pc ls [.int v])) : ∀ (H : Heap) (locs : List Loc) (ls : Array Slot), Wd D G L A H0 S H locs → lv_has ls 3 [(0, .ref v0), (1, .int v1), (2, .int v2)] → W p l e R s m args below meth c H locs cells slots Q (F0 m 0 ls []) := by
  have hx := C.1.1
  have hb := C.1.2.1
  unfold f_X7_together at h
  intro H locs ls w hl
  refine lv_iload_n hx hb dX7_together_0 rfl (lv_at hl 1 rfl) ?_
  obtain ⟨x1, hc, h⟩ := bs h
  refine o_backi w hLA (o_runS (As := [.int v1]) (rest := []) C w (c_X7_isAsker l D G L S v1 x1 hc) ml_X7_69 st_X7_isAsker hR_X7_isAsker rfl hl.1 rfl (Nat.le_of_ble_eq_true rfl) dX7_together_1 hcs) (fun H locs w => ?_)
  refine lv_if_eq (tgt := 27) hx hb dX7_together_4 (by decide) (fun cc4 => ?_) (fun cc4 => ?_)
  · have h := it cc4 h
    refine lv_iconst (v := 0) hx hb dX7_together_27 (by decide) ?_
    exact hret _ _ _ _ _ _ w rfl (Option.some.inj h) dX7_together_28
  · have h := ie cc4 h
    refine lv_iload_n hx hb dX7_together_7 rfl (lv_at hl 2 rfl) ?_
    refine lv_if_lt (tgt := 27) hx hb dX7_together_8 (by decide) (fun cc8 => ?_) (fun cc8 => ?_)
    · have h := it cc8 h
      refine lv_iconst (v := 0) hx hb dX7_together_27 (by decide) ?_
      exact hret _ _ _ _ _ _ w rfl (Option.some.inj h) dX7_together_28
    · have h := ie cc8 h
      refine lv_iload_n hx hb dX7_together_11 rfl (lv_at hl 2 rfl) ?_
      refine lv_iconst (v := 1) hx hb dX7_together_12 (by decide) ?_
      refine lv_aload_n hx hb dX7_together_13 rfl (lv_at hl 0 rfl) ?_
      obtain ⟨x2, hx2, h⟩ := bs h
      refine o_gR C w hx2 fl_X7_12 dX7_together_14 ?_
      obtain ⟨x3, hx3, h⟩ := bs h
      refine o_gR C w hx3 fl_X7_160 dX7_together_17 ?_
      obtain ⟨x4, hx4, h⟩ := bs h
      refine o_gI C w hx4 fl_X7_164 dX7_together_20 ?_
      refine lv_ishl hx hb dX7_together_23 ?_
      refine lv_icmp_lt (tgt := 29) hx hb dX7_together_24 (by decide) (fun cc24 => ?_) (fun cc24 => ?_)
      · have h := it cc24 h
        refine lv_iload_n hx hb dX7_together_29 rfl (lv_at hl 2 rfl) ?_
        refine lv_if_ne (tgt := 35) hx hb dX7_together_30 (by decide) (fun cc30 => ?_) (fun cc30 => ?_)
        · have h := ie cc30 h
          refine lv_aload_n hx hb dX7_together_35 rfl (lv_at hl 0 rfl) ?_
          refine lv_iload_n hx hb dX7_together_36 rfl (lv_at hl 1 rfl) ?_
          obtain ⟨_, ho, h⟩ := bs h
          obtain ⟨S5, hc, h⟩ := bs h
          refine o_backv w hLA (o_runV (As := [.int v1]) (rest := []) C w (c_X7_answerWishes l D G L S v0 v1 S5 hc) ml_X7_170 mv_X7_answerWishes hR_X7_answerWishes ho rfl hl.1 rfl (Nat.le_of_ble_eq_true rfl) dX7_together_37 hcs) (fun H locs w => ?_)
          refine lv_aload_n hx hb dX7_together_40 rfl (lv_at hl 0 rfl) ?_
          obtain ⟨x6, hx6, h⟩ := bs h
          refine o_gR C w hx6 fl_X7_34 dX7_together_41 ?_
          refine lv_iload_n hx hb dX7_together_44 rfl (lv_at hl 2 rfl) ?_
          obtain ⟨_, ho, h⟩ := bs h
          obtain ⟨x7, S8, hc, h⟩ := bs2 h
          refine o_backi w hLA (o_runV (As := [.int v2]) (rest := []) C w (c_X4_isGranted l D G L S5 x6 v2 (x7, S8) hc) ml_X7_178 mv_X4_isGranted hR_X4_isGranted ho rfl hl.1 rfl (Nat.le_of_ble_eq_true rfl) dX7_together_45 hcs) (fun H locs w => ?_)
          obtain ⟨_, hz, h⟩ := bs h
          exact hret _ _ _ _ _ _ w (ckZ_some hz) (Option.some.inj h) dX7_together_48
        · have h := it cc30 h
          refine lv_iconst (v := 1) hx hb dX7_together_33 (by decide) ?_
          exact hret _ _ _ _ _ _ w rfl (Option.some.inj h) dX7_together_34
      · have h := ie cc24 h
        refine lv_iconst (v := 0) hx hb dX7_together_27 (by decide) ?_
        exact hret _ _ _ _ _ _ w rfl (Option.some.inj h) dX7_together_28
set_option maxHeartbeats 4000000 in
set_option maxRecDepth 100000 in
theorem c_X7_together (l : Launch) (D : va_G) (G : Nat → ClassId) (L : List Nat) (S : PH) (v0 : Nat) (v1 : Int32) (v2 : Int32) (r : Int32 × PH) (h : f_X7_together S v0 v1 v2 = some r) : Met l yX7_together [Cond.code yX7_together cX7_together 3 (some .boolean)] ({ frames := 5, cells := 0, slots := 0, locals := 120 }) (va_Pc [.ref v0, .int v1, .int v2] (PreU D G L S)) (Qi D G L r.1 r.2) 0 0 (inL L) := by
  refine Met.ofW (cc := cX7_together) (maxL := 3) (ret := (some .boolean)) (by decide) rfl ?_
  intro p e s m args below meth c s₁ B hml hv
  obtain ⟨rfl, hpre⟩ := hv
  obtain ⟨C, w⟩ := o_ent (own := RX7) rfl B hml hpre
  have hl := lv_entry ([.ref v0, .int v1, .int v2]) (n := 3) (Nat.le_of_ble_eq_true rfl)
  rw [lg_entry_eq]
  generalize (lg_sl ([.ref v0, .int v1, .int v2]) ++ List.replicate (3 - (lg_sl ([.ref v0, .int v1, .int v2])).length) Slot.unset).toArray = ls at hl ⊢
  exact w_X7_together C (fun _ h => h) ⟨Nat.zero_le _, Nat.zero_le _⟩ ⟨rfl, rfl, Nat.le_of_ble_eq_true rfl, Nat.le_of_ble_eq_true rfl⟩ ⟨rfl, rfl, Nat.le_of_ble_eq_true rfl, Nat.le_of_ble_eq_true rfl⟩ ⟨rfl, rfl, Nat.le_of_ble_eq_true rfl, Nat.le_of_ble_eq_true rfl⟩ S v0 v1 v2 r h (fun v S9 H locs ls pc w hz hv hd => by subst hv; exact o_zret C w B.returns B.notSynchronized hz hd) _ _ _ w hl

def f_X7_count (S : PH) (v0 : Nat) (v1 : Int32) : Option (Int32) :=
if v1 = 0 then (
(gR S v0 7 0).bind fun x1 =>
(gR S x1 5 0).bind fun x2 =>
(gI S x2 2 7).bind fun x3 =>
some x3)
else if v1 = 1 then (
(gR S v0 7 0).bind fun x4 =>
(gR S x4 5 0).bind fun x5 =>
(gI S x5 2 8).bind fun x6 =>
some x6)
else if v1 = 2 then (
(gR S v0 7 0).bind fun x7 =>
(gR S x7 5 0).bind fun x8 =>
(gI S x8 2 9).bind fun x9 =>
some x9)
else if v1 = 3 then (
(gR S v0 7 0).bind fun x10 =>
(gR S x10 5 2).bind fun x11 =>
(gI S x11 0 1).bind fun x12 =>
some x12)
else if v1 = 4 then (
(gR S v0 7 0).bind fun x13 =>
(gR S x13 5 2).bind fun x14 =>
(gI S x14 0 2).bind fun x15 =>
some x15)
else if v1 = 5 then (
(gR S v0 7 0).bind fun x16 =>
(gR S x16 5 3).bind fun x17 =>
(gI S x17 6 3).bind fun x18 =>
some x18)
else if v1 = 6 then (
(gR S v0 7 0).bind fun x19 =>
(gR S x19 5 1).bind fun x20 =>
(ckO S x20 1).bind fun _ =>
(f_X1_circles S x20).bind fun x21 =>
some x21)
else (
some (-1 : Int32))
set_option maxHeartbeats 4000000 in
set_option maxRecDepth 100000 in
theorem w_X7_count {p : Program} {l : Launch} {e : Env} {R : Room} {s : State} {m : MethodId} {args : Array Value} {below : List Frame} {meth : Method} {c : Code} {cells slots : Nat} {Q : State → Prop} {D : va_G} {G : Nat → ClassId} {L : List Nat} {A : Nat → Prop} {H0 : Heap} (C : CX p s m c args D G cX7_count 2 RX7) (hLA : ∀ q ∈ L, A q) (hcs : cells ≤ R.cells ∧ slots ≤ R.slots) (hR_X1_circles : RoomOk R ({ frames := 0, cells := 0, slots := 0, locals := 0 }) 3) (S : PH) (v0 : Nat) (v1 : Int32) (r : Int32) (h : f_X7_count S v0 v1 = some r) (hret : ∀ (v : Int32) (H : Heap) (locs : List Loc) (ls : Array Slot) (pc : Nat), Wd D G L A H0 S H locs → v = r → decode cX7_count pc = .ok (.ireturn, 1) → W p l e R s m args below meth c H locs cells slots Q (F0 m pc ls [.int v])) : ∀ (H : Heap) (locs : List Loc) (ls : Array Slot), Wd D G L A H0 S H locs → lv_has ls 2 [(0, .ref v0), (1, .int v1)] → W p l e R s m args below meth c H locs cells slots Q (F0 m 0 ls []) := by
  have hx := C.1.1
  have hb := C.1.2.1
  unfold f_X7_count at h
  intro H locs ls w hl
  refine lv_iload_n hx hb dX7_count_0 rfl (lv_at hl 1 rfl) ?_
  by_cases cw1_0 : v1 = 0
  · have h := it cw1_0 h
    refine o_sw0 C 0 cw1_0 dX7_count_1 (by decide) (by decide) rfl (tgt := 44) (by decide) ?_
    refine lv_aload_n hx hb dX7_count_44 rfl (lv_at hl 0 rfl) ?_
    obtain ⟨x1, hx1, h⟩ := bs h
    refine o_gR C w hx1 fl_X7_12 dX7_count_45 ?_
    obtain ⟨x2, hx2, h⟩ := bs h
    refine o_gR C w hx2 fl_X7_38 dX7_count_48 ?_
    obtain ⟨x3, hx3, h⟩ := bs h
    refine o_gI C w hx3 fl_X7_42 dX7_count_51 ?_
    exact hret _ _ _ _ _ w (Option.some.inj h) dX7_count_54
  have h := ie cw1_0 h
  by_cases cw1_1 : v1 = 1
  · have h := it cw1_1 h
    refine o_sw0 C 1 cw1_1 dX7_count_1 (by decide) (by decide) rfl (tgt := 55) (by decide) ?_
    refine lv_aload_n hx hb dX7_count_55 rfl (lv_at hl 0 rfl) ?_
    obtain ⟨x4, hx4, h⟩ := bs h
    refine o_gR C w hx4 fl_X7_12 dX7_count_56 ?_
    obtain ⟨x5, hx5, h⟩ := bs h
    refine o_gR C w hx5 fl_X7_38 dX7_count_59 ?_
    obtain ⟨x6, hx6, h⟩ := bs h
    refine o_gI C w hx6 fl_X7_120 dX7_count_62 ?_
    exact hret _ _ _ _ _ w (Option.some.inj h) dX7_count_65
  have h := ie cw1_1 h
  by_cases cw1_2 : v1 = 2
  · have h := it cw1_2 h
    refine o_sw0 C 2 cw1_2 dX7_count_1 (by decide) (by decide) rfl (tgt := 66) (by decide) ?_
    refine lv_aload_n hx hb dX7_count_66 rfl (lv_at hl 0 rfl) ?_
    obtain ⟨x7, hx7, h⟩ := bs h
    refine o_gR C w hx7 fl_X7_12 dX7_count_67 ?_
    obtain ⟨x8, hx8, h⟩ := bs h
    refine o_gR C w hx8 fl_X7_38 dX7_count_70 ?_
    obtain ⟨x9, hx9, h⟩ := bs h
    refine o_gI C w hx9 fl_X7_105 dX7_count_73 ?_
    exact hret _ _ _ _ _ w (Option.some.inj h) dX7_count_76
  have h := ie cw1_2 h
  by_cases cw1_3 : v1 = 3
  · have h := it cw1_3 h
    refine o_sw0 C 3 cw1_3 dX7_count_1 (by decide) (by decide) rfl (tgt := 77) (by decide) ?_
    refine lv_aload_n hx hb dX7_count_77 rfl (lv_at hl 0 rfl) ?_
    obtain ⟨x10, hx10, h⟩ := bs h
    refine o_gR C w hx10 fl_X7_12 dX7_count_78 ?_
    obtain ⟨x11, hx11, h⟩ := bs h
    refine o_gR C w hx11 fl_X7_77 dX7_count_81 ?_
    obtain ⟨x12, hx12, h⟩ := bs h
    refine o_gI C w hx12 fl_X7_81 dX7_count_84 ?_
    exact hret _ _ _ _ _ w (Option.some.inj h) dX7_count_87
  have h := ie cw1_3 h
  by_cases cw1_4 : v1 = 4
  · have h := it cw1_4 h
    refine o_sw0 C 4 cw1_4 dX7_count_1 (by decide) (by decide) rfl (tgt := 88) (by decide) ?_
    refine lv_aload_n hx hb dX7_count_88 rfl (lv_at hl 0 rfl) ?_
    obtain ⟨x13, hx13, h⟩ := bs h
    refine o_gR C w hx13 fl_X7_12 dX7_count_89 ?_
    obtain ⟨x14, hx14, h⟩ := bs h
    refine o_gR C w hx14 fl_X7_77 dX7_count_92 ?_
    obtain ⟨x15, hx15, h⟩ := bs h
    refine o_gI C w hx15 fl_X7_181 dX7_count_95 ?_
    exact hret _ _ _ _ _ w (Option.some.inj h) dX7_count_98
  have h := ie cw1_4 h
  by_cases cw1_5 : v1 = 5
  · have h := it cw1_5 h
    refine o_sw0 C 5 cw1_5 dX7_count_1 (by decide) (by decide) rfl (tgt := 99) (by decide) ?_
    refine lv_aload_n hx hb dX7_count_99 rfl (lv_at hl 0 rfl) ?_
    obtain ⟨x16, hx16, h⟩ := bs h
    refine o_gR C w hx16 fl_X7_12 dX7_count_100 ?_
    obtain ⟨x17, hx17, h⟩ := bs h
    refine o_gR C w hx17 fl_X7_160 dX7_count_103 ?_
    obtain ⟨x18, hx18, h⟩ := bs h
    refine o_gI C w hx18 fl_X7_164 dX7_count_106 ?_
    exact hret _ _ _ _ _ w (Option.some.inj h) dX7_count_109
  have h := ie cw1_5 h
  by_cases cw1_6 : v1 = 6
  · have h := it cw1_6 h
    refine o_sw0 C 6 cw1_6 dX7_count_1 (by decide) (by decide) rfl (tgt := 110) (by decide) ?_
    refine lv_aload_n hx hb dX7_count_110 rfl (lv_at hl 0 rfl) ?_
    obtain ⟨x19, hx19, h⟩ := bs h
    refine o_gR C w hx19 fl_X7_12 dX7_count_111 ?_
    obtain ⟨x20, hx20, h⟩ := bs h
    refine o_gR C w hx20 fl_X7_101 dX7_count_114 ?_
    obtain ⟨_, ho, h⟩ := bs h
    obtain ⟨x21, hc, h⟩ := bs h
    refine o_backi w hLA (o_runV (As := []) (rest := []) C w (c_X1_circles l D G L S x20 x21 hc) ml_X7_184 mv_X1_circles hR_X1_circles ho rfl hl.1 rfl (Nat.le_of_ble_eq_true rfl) dX7_count_117 hcs) (fun H locs w => ?_)
    exact hret _ _ _ _ _ w (Option.some.inj h) dX7_count_120
  have h := ie cw1_6 h
  have cx0 := lv_neT (k := 0) (a := 0) cw1_0 (by decide)
  have cx1 := lv_neT (k := 1) (a := 1) cw1_1 (by decide)
  have cx2 := lv_neT (k := 2) (a := 2) cw1_2 (by decide)
  have cx3 := lv_neT (k := 3) (a := 3) cw1_3 (by decide)
  have cx4 := lv_neT (k := 4) (a := 4) cw1_4 (by decide)
  have cx5 := lv_neT (k := 5) (a := 5) cw1_5 (by decide)
  have cx6 := lv_neT (k := 6) (a := 6) cw1_6 (by decide)
  refine lv_tableOut (tgt := 121) hx hb dX7_count_1 (by omega) (by decide) ?_
  refine lv_iconst (v := -1) hx hb dX7_count_121 (by decide) ?_
  exact hret _ _ _ _ _ w (Option.some.inj h) dX7_count_122
set_option maxHeartbeats 4000000 in
set_option maxRecDepth 100000 in
theorem c_X7_count (l : Launch) (D : va_G) (G : Nat → ClassId) (L : List Nat) (S : PH) (v0 : Nat) (v1 : Int32) (r : Int32) (h : f_X7_count S v0 v1 = some r) : Met l yX7_count [Cond.code yX7_count cX7_count 2 (some .int)] ({ frames := 1, cells := 0, slots := 0, locals := 22 }) (va_Pc [.ref v0, .int v1] (PreU D G L S)) (Qi D G L r S) 0 0 (inL L) := by
  refine Met.ofW (cc := cX7_count) (maxL := 2) (ret := (some .int)) (by decide) rfl ?_
  intro p e s m args below meth c s₁ B hml hv
  obtain ⟨rfl, hpre⟩ := hv
  obtain ⟨C, w⟩ := o_ent (own := RX7) rfl B hml hpre
  have hl := lv_entry ([.ref v0, .int v1]) (n := 2) (Nat.le_of_ble_eq_true rfl)
  rw [lg_entry_eq]
  generalize (lg_sl ([.ref v0, .int v1]) ++ List.replicate (2 - (lg_sl ([.ref v0, .int v1])).length) Slot.unset).toArray = ls at hl ⊢
  exact w_X7_count C (fun _ h => h) ⟨Nat.zero_le _, Nat.zero_le _⟩ ⟨rfl, rfl, Nat.le_of_ble_eq_true rfl, Nat.le_of_ble_eq_true rfl⟩ S v0 v1 r h (fun v H locs ls pc w hv hd => by subst hv; exact o_iret C w B.returns B.notSynchronized hd) _ _ _ w hl

def f_X7_image (S : PH) (v0 : Nat) (v1 : Int32) : Option (Int32 × PH) :=
if v1 < 0 then (
some ((0 : Int32), S))
else (
if v1 < (3 : Int32) then (
(gR S v0 7 1).bind fun x1 =>
(ldR 0 S x1 v1).bind fun x2 =>
(gR S v0 7 0).bind fun x3 =>
(ckO S x2 5).bind fun _ =>
(f_X5_copyFrom S x2 x3).bind fun S4 =>
(gR S4 v0 7 2).bind fun x5 =>
(stZ S4 x5 v1 (1 : Int32)).bind fun S6 =>
some ((1 : Int32), S6))
else (
some ((0 : Int32), S)))
set_option maxHeartbeats 4000000 in
set_option maxRecDepth 100000 in
theorem w_X7_image {p : Program} {l : Launch} {e : Env} {R : Room} {s : State} {m : MethodId} {args : Array Value} {below : List Frame} {meth : Method} {c : Code} {cells slots : Nat} {Q : State → Prop} {D : va_G} {G : Nat → ClassId} {L : List Nat} {A : Nat → Prop} {H0 : Heap} (C : CX p s m c args D G cX7_image 2 RX7) (hLA : ∀ q ∈ L, A q) (hcs : cells ≤ R.cells ∧ slots ≤ R.slots) (hR_X5_copyFrom : RoomOk R ({ frames := 2, cells := 0, slots := 0, locals := 62 }) 2) (S : PH) (v0 : Nat) (v1 : Int32) (r : Int32 × PH) (h : f_X7_image S v0 v1 = some r) (hret : ∀ (v : Int32) (S9 : PH) (H : Heap) (locs : List Loc) (ls : Array Slot) (pc : Nat), Wd D G L A H0 S9 H locs → narrow .boolean (.int v) = .int v → (v, S9) = r → decode cX7_image pc = .ok (.ireturn, 1) → W p l e R s m args below meth c H locs cells slots Q (F0 m pc ls [.int v])) : ∀ (H : Heap) (locs : List Loc) (ls : Array Slot), Wd D G L A H0 S H locs → lv_has ls 2 [(0, .ref v0), (1, .int v1)] → W p l e R s m args below meth c H locs cells slots Q (F0 m 0 ls []) := by
  have hx := C.1.1
  have hb := C.1.2.1
  unfold f_X7_image at h
  intro H locs ls w hl
  refine lv_iload_n hx hb dX7_image_0 rfl (lv_at hl 1 rfl) ?_
  refine lv_if_lt (tgt := 9) hx hb dX7_image_1 (by decide) (fun cc1 => ?_) (fun cc1 => ?_)
  · have h := it cc1 h
    refine lv_iconst (v := 0) hx hb dX7_image_9 (by decide) ?_
    exact hret _ _ _ _ _ _ w rfl (Option.some.inj h) dX7_image_10
  · have h := ie cc1 h
    refine lv_iload_n hx hb dX7_image_4 rfl (lv_at hl 1 rfl) ?_
    refine lv_iconst (v := 3) hx hb dX7_image_5 (by decide) ?_
    refine lv_icmp_lt (tgt := 11) hx hb dX7_image_6 (by decide) (fun cc6 => ?_) (fun cc6 => ?_)
    · have h := it cc6 h
      refine lv_aload_n hx hb dX7_image_11 rfl (lv_at hl 0 rfl) ?_
      obtain ⟨x1, hx1, h⟩ := bs h
      refine o_gR C w hx1 fl_X7_16 dX7_image_12 ?_
      refine lv_iload_n hx hb dX7_image_15 rfl (lv_at hl 1 rfl) ?_
      obtain ⟨x2, hx2, h⟩ := bs h
      refine o_ldR0 C w hx2 dX7_image_16 ?_
      refine lv_aload_n hx hb dX7_image_17 rfl (lv_at hl 0 rfl) ?_
      obtain ⟨x3, hx3, h⟩ := bs h
      refine o_gR C w hx3 fl_X7_12 dX7_image_18 ?_
      obtain ⟨_, ho, h⟩ := bs h
      obtain ⟨S4, hc, h⟩ := bs h
      refine o_backv w hLA (o_runV (As := [.ref x3]) (rest := []) C w (c_X5_copyFrom l D G L S x2 x3 S4 hc) ml_X7_187 mv_X5_copyFrom hR_X5_copyFrom ho rfl hl.1 rfl (Nat.le_of_ble_eq_true rfl) dX7_image_21 hcs) (fun H locs w => ?_)
      refine lv_aload_n hx hb dX7_image_24 rfl (lv_at hl 0 rfl) ?_
      obtain ⟨x5, hx5, h⟩ := bs h
      refine o_gR C w hx5 fl_X7_20 dX7_image_25 ?_
      refine lv_iload_n hx hb dX7_image_28 rfl (lv_at hl 1 rfl) ?_
      refine lv_iconst (v := 1) hx hb dX7_image_29 (by decide) ?_
      obtain ⟨S6, hS6, h⟩ := bs h
      refine o_stZ C w hS6 dX7_image_30 (fun H locs w => ?_)
      refine lv_iconst (v := 1) hx hb dX7_image_31 (by decide) ?_
      exact hret _ _ _ _ _ _ w rfl (Option.some.inj h) dX7_image_32
    · have h := ie cc6 h
      refine lv_iconst (v := 0) hx hb dX7_image_9 (by decide) ?_
      exact hret _ _ _ _ _ _ w rfl (Option.some.inj h) dX7_image_10
set_option maxHeartbeats 4000000 in
set_option maxRecDepth 100000 in
theorem c_X7_image (l : Launch) (D : va_G) (G : Nat → ClassId) (L : List Nat) (S : PH) (v0 : Nat) (v1 : Int32) (r : Int32 × PH) (h : f_X7_image S v0 v1 = some r) : Met l yX7_image [Cond.code yX7_image cX7_image 2 (some .boolean)] ({ frames := 3, cells := 0, slots := 0, locals := 83 }) (va_Pc [.ref v0, .int v1] (PreU D G L S)) (Qi D G L r.1 r.2) 0 0 (inL L) := by
  refine Met.ofW (cc := cX7_image) (maxL := 2) (ret := (some .boolean)) (by decide) rfl ?_
  intro p e s m args below meth c s₁ B hml hv
  obtain ⟨rfl, hpre⟩ := hv
  obtain ⟨C, w⟩ := o_ent (own := RX7) rfl B hml hpre
  have hl := lv_entry ([.ref v0, .int v1]) (n := 2) (Nat.le_of_ble_eq_true rfl)
  rw [lg_entry_eq]
  generalize (lg_sl ([.ref v0, .int v1]) ++ List.replicate (2 - (lg_sl ([.ref v0, .int v1])).length) Slot.unset).toArray = ls at hl ⊢
  exact w_X7_image C (fun _ h => h) ⟨Nat.zero_le _, Nat.zero_le _⟩ ⟨rfl, rfl, Nat.le_of_ble_eq_true rfl, Nat.le_of_ble_eq_true rfl⟩ S v0 v1 r h (fun v S9 H locs ls pc w hz hv hd => by subst hv; exact o_zret C w B.returns B.notSynchronized hz hd) _ _ _ w hl

def f_X7_again (S : PH) (v0 : Nat) (v1 : Int32) : Option (Int32 × PH) :=
if v1 < 0 then (
some ((0 : Int32), S))
else (
if (3 : Int32) ≤ v1 then (
some ((0 : Int32), S))
else (
(gR S v0 7 2).bind fun x1 =>
(ldZ S x1 v1).bind fun x2 =>
if x2 = 0 then (
some ((0 : Int32), S))
else (
(gR S v0 7 0).bind fun x3 =>
(gR S v0 7 1).bind fun x4 =>
(ldR 0 S x4 v1).bind fun x5 =>
(ckO S x3 5).bind fun _ =>
(f_X5_copyFrom S x3 x5).bind fun S6 =>
some ((1 : Int32), S6))))
set_option maxHeartbeats 4000000 in
set_option maxRecDepth 100000 in
theorem w_X7_again {p : Program} {l : Launch} {e : Env} {R : Room} {s : State} {m : MethodId} {args : Array Value} {below : List Frame} {meth : Method} {c : Code} {cells slots : Nat} {Q : State → Prop} {D : va_G} {G : Nat → ClassId} {L : List Nat} {A : Nat → Prop} {H0 : Heap} (C : CX p s m c args D G cX7_again 2 RX7) (hLA : ∀ q ∈ L, A q) (hcs : cells ≤ R.cells ∧ slots ≤ R.slots) (hR_X5_copyFrom : RoomOk R ({ frames := 2, cells := 0, slots := 0, locals := 62 }) 2) (S : PH) (v0 : Nat) (v1 : Int32) (r : Int32 × PH) (h : f_X7_again S v0 v1 = some r) (hret : ∀ (v : Int32) (S9 : PH) (H : Heap) (locs : List Loc) (ls : Array Slot) (pc : Nat), Wd D G L A H0 S9 H locs → narrow .boolean (.int v) = .int v → (v, S9) = r → decode cX7_again pc = .ok (.ireturn, 1) → W p l e R s m args below meth c H locs cells slots Q (F0 m pc ls [.int v])) : ∀ (H : Heap) (locs : List Loc) (ls : Array Slot), Wd D G L A H0 S H locs → lv_has ls 2 [(0, .ref v0), (1, .int v1)] → W p l e R s m args below meth c H locs cells slots Q (F0 m 0 ls []) := by
  have hx := C.1.1
  have hb := C.1.2.1
  unfold f_X7_again at h
  intro H locs ls w hl
  refine lv_iload_n hx hb dX7_again_0 rfl (lv_at hl 1 rfl) ?_
  refine lv_if_lt (tgt := 18) hx hb dX7_again_1 (by decide) (fun cc1 => ?_) (fun cc1 => ?_)
  · have h := it cc1 h
    refine lv_iconst (v := 0) hx hb dX7_again_18 (by decide) ?_
    exact hret _ _ _ _ _ _ w rfl (Option.some.inj h) dX7_again_19
  · have h := ie cc1 h
    refine lv_iload_n hx hb dX7_again_4 rfl (lv_at hl 1 rfl) ?_
    refine lv_iconst (v := 3) hx hb dX7_again_5 (by decide) ?_
    refine lv_icmp_ge (tgt := 18) hx hb dX7_again_6 (by decide) (fun cc6 => ?_) (fun cc6 => ?_)
    · have h := it cc6 h
      refine lv_iconst (v := 0) hx hb dX7_again_18 (by decide) ?_
      exact hret _ _ _ _ _ _ w rfl (Option.some.inj h) dX7_again_19
    · have h := ie cc6 h
      refine lv_aload_n hx hb dX7_again_9 rfl (lv_at hl 0 rfl) ?_
      obtain ⟨x1, hx1, h⟩ := bs h
      refine o_gR C w hx1 fl_X7_20 dX7_again_10 ?_
      refine lv_iload_n hx hb dX7_again_13 rfl (lv_at hl 1 rfl) ?_
      obtain ⟨x2, hx2, h⟩ := bs h
      refine o_ldZ C w hx2 dX7_again_14 ?_
      refine lv_if_ne (tgt := 20) hx hb dX7_again_15 (by decide) (fun cc15 => ?_) (fun cc15 => ?_)
      · have h := ie cc15 h
        refine lv_aload_n hx hb dX7_again_20 rfl (lv_at hl 0 rfl) ?_
        obtain ⟨x3, hx3, h⟩ := bs h
        refine o_gR C w hx3 fl_X7_12 dX7_again_21 ?_
        refine lv_aload_n hx hb dX7_again_24 rfl (lv_at hl 0 rfl) ?_
        obtain ⟨x4, hx4, h⟩ := bs h
        refine o_gR C w hx4 fl_X7_16 dX7_again_25 ?_
        refine lv_iload_n hx hb dX7_again_28 rfl (lv_at hl 1 rfl) ?_
        obtain ⟨x5, hx5, h⟩ := bs h
        refine o_ldR0 C w hx5 dX7_again_29 ?_
        obtain ⟨_, ho, h⟩ := bs h
        obtain ⟨S6, hc, h⟩ := bs h
        refine o_backv w hLA (o_runV (As := [.ref x5]) (rest := []) C w (c_X5_copyFrom l D G L S x3 x5 S6 hc) ml_X7_187 mv_X5_copyFrom hR_X5_copyFrom ho rfl hl.1 rfl (Nat.le_of_ble_eq_true rfl) dX7_again_30 hcs) (fun H locs w => ?_)
        refine lv_iconst (v := 1) hx hb dX7_again_33 (by decide) ?_
        exact hret _ _ _ _ _ _ w rfl (Option.some.inj h) dX7_again_34
      · have h := it cc15 h
        refine lv_iconst (v := 0) hx hb dX7_again_18 (by decide) ?_
        exact hret _ _ _ _ _ _ w rfl (Option.some.inj h) dX7_again_19
set_option maxHeartbeats 4000000 in
set_option maxRecDepth 100000 in
theorem c_X7_again (l : Launch) (D : va_G) (G : Nat → ClassId) (L : List Nat) (S : PH) (v0 : Nat) (v1 : Int32) (r : Int32 × PH) (h : f_X7_again S v0 v1 = some r) : Met l yX7_again [Cond.code yX7_again cX7_again 2 (some .boolean)] ({ frames := 3, cells := 0, slots := 0, locals := 83 }) (va_Pc [.ref v0, .int v1] (PreU D G L S)) (Qi D G L r.1 r.2) 0 0 (inL L) := by
  refine Met.ofW (cc := cX7_again) (maxL := 2) (ret := (some .boolean)) (by decide) rfl ?_
  intro p e s m args below meth c s₁ B hml hv
  obtain ⟨rfl, hpre⟩ := hv
  obtain ⟨C, w⟩ := o_ent (own := RX7) rfl B hml hpre
  have hl := lv_entry ([.ref v0, .int v1]) (n := 2) (Nat.le_of_ble_eq_true rfl)
  rw [lg_entry_eq]
  generalize (lg_sl ([.ref v0, .int v1]) ++ List.replicate (2 - (lg_sl ([.ref v0, .int v1])).length) Slot.unset).toArray = ls at hl ⊢
  exact w_X7_again C (fun _ h => h) ⟨Nat.zero_le _, Nat.zero_le _⟩ ⟨rfl, rfl, Nat.le_of_ble_eq_true rfl, Nat.le_of_ble_eq_true rfl⟩ S v0 v1 r h (fun v S9 H locs ls pc w hz hv hd => by subst hv; exact o_zret C w B.returns B.notSynchronized hz hd) _ _ _ w hl
