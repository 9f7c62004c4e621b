def f_X8_comes_L125 (S : PH) (v0 : Nat) (v8 : Int32) (v9 : Int32) (v10 : Int32) : Option ((Int32 × PH) ⊕ (PH)) :=
(gR S v0 8 0).bind fun x22 =>
(ldI S x22 (2 : Int32)).bind fun x23 =>
if x23 ≤ v10 then (
some (.inr S))
else (
(gR S v0 8 0).bind fun x24 =>
(gR S v0 8 0).bind fun x25 =>
(ldI S x25 ((((1130 : Int32) + ((4096 : Int32) * v9)) + v10) - v8)).bind fun x26 =>
(stI S x24 (((1130 : Int32) + ((4096 : Int32) * v9)) + v10) x26).bind fun S27 =>
some (.inl ((v10 + 1), S27)))
def f_X8_comes_L115 (S : PH) (v0 : Nat) (v8 : Int32) (v9 : Int32) : Option ((Int32 × PH) ⊕ (PH)) :=
if (4 : Int32) ≤ v9 then (
some (.inr S))
else (
(lpo (fun x : Int32 × PH => f_X8_comes_L125 x.2 v0 v8 v9 x.1) FU (v8, S)).bind fun S28 =>
some (.inl ((v9 + 1), S28)))
def f_X8_comes (S : PH) (v0 : Nat) (v1 : Int32) (v2 : Int32) (v3 : Int32) (v4 : Int32) (v5 : Int32) : Option (Int32 × PH) :=
(gR S v0 8 0).bind fun x1 =>
(ldI S x1 (1 : Int32)).bind fun x2 =>
(gR S v0 8 0).bind fun x3 =>
(ldI S x3 (2 : Int32)).bind fun x4 =>
(gR S v0 8 0).bind fun x5 =>
(stI S x5 ((20 : Int32) + ((8 : Int32) * x2)) v1).bind fun S6 =>
(gR S6 v0 8 0).bind fun x7 =>
(stI S6 x7 (((20 : Int32) + ((8 : Int32) * x2)) + (1 : Int32)) v3).bind fun S8 =>
(gR S8 v0 8 0).bind fun x9 =>
(stI S8 x9 (((20 : Int32) + ((8 : Int32) * x2)) + (2 : Int32)) v4).bind fun S10 =>
(gR S10 v0 8 0).bind fun x11 =>
(stI S10 x11 (((20 : Int32) + ((8 : Int32) * x2)) + (3 : Int32)) v5).bind fun S12 =>
(gR S12 v0 8 0).bind fun x13 =>
(stI S12 x13 (((20 : Int32) + ((8 : Int32) * x2)) + (4 : Int32)) v2).bind fun S14 =>
(gR S14 v0 8 0).bind fun x15 =>
(stI S14 x15 (((20 : Int32) + ((8 : Int32) * x2)) + (5 : Int32)) x4).bind fun S16 =>
(gR S16 v0 8 0).bind fun x17 =>
(ldI S16 x17 (1 : Int32)).bind fun x18 =>
(stI S16 x17 (1 : Int32) (x18 + (1 : Int32))).bind fun S19 =>
(gR S19 v0 8 0).bind fun x20 =>
(stI S19 x20 (2 : Int32) (x4 * ((v4 - v3) + (1 : Int32)))).bind fun S21 =>
(lpo (fun x : Int32 × PH => f_X8_comes_L115 x.2 v0 x4 x.1) FU ((0 : Int32), S21)).bind fun S38 =>
(gR S38 v0 8 0).bind fun x39 =>
(stI S38 x39 ((10 : Int32) + v1) x2).bind fun S40 =>
some (x2, S40)
set_option maxHeartbeats 4000000 in
set_option maxRecDepth 100000 in
theorem w_X8_comes {p : Program} {l : Launch} {e : Env} {R : Room} {s : State} {m : MethodId} {args : Array Value} {below : List Frame} {meth : Method} {c : Code} {cells slots : Nat} {Q : State → Prop} {D : va_G} {G : Nat → ClassId} {L : List Nat} {A : Nat → Prop} {H0 : Heap} (C : CX p s m c args D G cX8_comes 11 RX8) (hLA : ∀ q ∈ L, A q) (hcs : cells ≤ R.cells ∧ slots ≤ R.slots)  (S : PH) (v0 : Nat) (v1 : Int32) (v2 : Int32) (v3 : Int32) (v4 : Int32) (v5 : Int32) (r : Int32 × PH) (h : f_X8_comes S v0 v1 v2 v3 v4 v5 = some r) (hret : ∀ (v : Int32) (S9 : PH) (H : Heap) (locs : List Loc) (ls : Array Slot) (pc : Nat), Wd D G L A H0 S9 H locs → (v, S9) = r → decode cX8_comes pc = .ok (.ireturn, 1) → W p l e R s m args below meth c H locs cells slots Q (F0 m pc ls [.int v])) : ∀ (H : Heap) (locs : List Loc) (ls : Array Slot), Wd D G L A H0 S H locs → lv_has ls 11 [(0, .ref v0), (1, .int v1), (2, .int v2), (3, .int v3), (4, .int v4), (5, .int v5)] → W p l e R s m args below meth c H locs cells slots Q (F0 m 0 ls []) := by
  have hx := C.1.1
  have hb := C.1.2.1
  unfold f_X8_comes at h
  intro H locs ls w hl
  refine lv_aload_n hx hb dX8_comes_0 rfl (lv_at hl 0 rfl) ?_
  obtain ⟨x1, hx1, h⟩ := bs h
  refine o_gR C w hx1 fl_X8_8 dX8_comes_1 ?_
  refine lv_iconst (v := 1) hx hb dX8_comes_4 (by decide) ?_
  obtain ⟨x2, hx2, h⟩ := bs h
  refine o_ldI C w hx2 dX8_comes_5 ?_
  refine lv_istore (lv' := [(6, .int x2), (0, .ref v0), (1, .int v1), (2, .int v2), (3, .int v3), (4, .int v4), (5, .int v5)]) hx hb dX8_comes_6 hl (by decide) rfl (fun ls hl => ?_)
  refine lv_bipush (v := 20) hx hb dX8_comes_8 (by decide) ?_
  refine lv_bipush (v := 8) hx hb dX8_comes_10 (by decide) ?_
  refine lv_iload hx hb dX8_comes_12 (lv_at hl 0 rfl) ?_
  refine lv_imul hx hb dX8_comes_14 ?_
  refine lv_iadd hx hb dX8_comes_15 ?_
  refine lv_istore (lv' := [(7, .int ((20 : Int32) + ((8 : Int32) * x2))), (6, .int x2), (0, .ref v0), (1, .int v1), (2, .int v2), (3, .int v3), (4, .int v4), (5, .int v5)]) hx hb dX8_comes_16 hl (by decide) rfl (fun ls hl => ?_)
  refine lv_aload_n hx hb dX8_comes_18 rfl (lv_at hl 2 rfl) ?_
  obtain ⟨x3, hx3, h⟩ := bs h
  refine o_gR C w hx3 fl_X8_8 dX8_comes_19 ?_
  refine lv_iconst (v := 2) hx hb dX8_comes_22 (by decide) ?_
  obtain ⟨x4, hx4, h⟩ := bs h
  refine o_ldI C w hx4 dX8_comes_23 ?_
  refine lv_istore (lv' := [(8, .int x4), (7, .int ((20 : Int32) + ((8 : Int32) * x2))), (6, .int x2), (0, .ref v0), (1, .int v1), (2, .int v2), (3, .int v3), (4, .int v4), (5, .int v5)]) hx hb dX8_comes_24 hl (by decide) rfl (fun ls hl => ?_)
  refine lv_aload_n hx hb dX8_comes_26 rfl (lv_at hl 3 rfl) ?_
  obtain ⟨x5, hx5, h⟩ := bs h
  refine o_gR C w hx5 fl_X8_8 dX8_comes_27 ?_
  refine lv_iload hx hb dX8_comes_30 (lv_at hl 1 rfl) ?_
  refine lv_iload_n hx hb dX8_comes_32 rfl (lv_at hl 4 rfl) ?_
  obtain ⟨S6, hS6, h⟩ := bs h
  refine o_stI C w hS6 dX8_comes_33 (fun H locs w => ?_)
  refine lv_aload_n hx hb dX8_comes_34 rfl (lv_at hl 3 rfl) ?_
  obtain ⟨x7, hx7, h⟩ := bs h
  refine o_gR C w hx7 fl_X8_8 dX8_comes_35 ?_
  refine lv_iload hx hb dX8_comes_38 (lv_at hl 1 rfl) ?_
  refine lv_iconst (v := 1) hx hb dX8_comes_40 (by decide) ?_
  refine lv_iadd hx hb dX8_comes_41 ?_
  refine lv_iload_n hx hb dX8_comes_42 rfl (lv_at hl 6 rfl) ?_
  obtain ⟨S8, hS8, h⟩ := bs h
  refine o_stI C w hS8 dX8_comes_43 (fun H locs w => ?_)
  refine lv_aload_n hx hb dX8_comes_44 rfl (lv_at hl 3 rfl) ?_
  obtain ⟨x9, hx9, h⟩ := bs h
  refine o_gR C w hx9 fl_X8_8 dX8_comes_45 ?_
  refine lv_iload hx hb dX8_comes_48 (lv_at hl 1 rfl) ?_
  refine lv_iconst (v := 2) hx hb dX8_comes_50 (by decide) ?_
  refine lv_iadd hx hb dX8_comes_51 ?_
  refine lv_iload hx hb dX8_comes_52 (lv_at hl 7 rfl) ?_
  obtain ⟨S10, hS10, h⟩ := bs h
  refine o_stI C w hS10 dX8_comes_54 (fun H locs w => ?_)
  refine lv_aload_n hx hb dX8_comes_55 rfl (lv_at hl 3 rfl) ?_
  obtain ⟨x11, hx11, h⟩ := bs h
  refine o_gR C w hx11 fl_X8_8 dX8_comes_56 ?_
  refine lv_iload hx hb dX8_comes_59 (lv_at hl 1 rfl) ?_
  refine lv_iconst (v := 3) hx hb dX8_comes_61 (by decide) ?_
  refine lv_iadd hx hb dX8_comes_62 ?_
  refine lv_iload hx hb dX8_comes_63 (lv_at hl 8 rfl) ?_
  obtain ⟨S12, hS12, h⟩ := bs h
  refine o_stI C w hS12 dX8_comes_65 (fun H locs w => ?_)
  refine lv_aload_n hx hb dX8_comes_66 rfl (lv_at hl 3 rfl) ?_
  obtain ⟨x13, hx13, h⟩ := bs h
  refine o_gR C w hx13 fl_X8_8 dX8_comes_67 ?_
  refine lv_iload hx hb dX8_comes_70 (lv_at hl 1 rfl) ?_
  refine lv_iconst (v := 4) hx hb dX8_comes_72 (by decide) ?_
  refine lv_iadd hx hb dX8_comes_73 ?_
  refine lv_iload_n hx hb dX8_comes_74 rfl (lv_at hl 5 rfl) ?_
  obtain ⟨S14, hS14, h⟩ := bs h
  refine o_stI C w hS14 dX8_comes_75 (fun H locs w => ?_)
  refine lv_aload_n hx hb dX8_comes_76 rfl (lv_at hl 3 rfl) ?_
  obtain ⟨x15, hx15, h⟩ := bs h
  refine o_gR C w hx15 fl_X8_8 dX8_comes_77 ?_
  refine lv_iload hx hb dX8_comes_80 (lv_at hl 1 rfl) ?_
  refine lv_iconst (v := 5) hx hb dX8_comes_82 (by decide) ?_
  refine lv_iadd hx hb dX8_comes_83 ?_
  refine lv_iload hx hb dX8_comes_84 (lv_at hl 0 rfl) ?_
  obtain ⟨S16, hS16, h⟩ := bs h
  refine o_stI C w hS16 dX8_comes_86 (fun H locs w => ?_)
  refine lv_aload_n hx hb dX8_comes_87 rfl (lv_at hl 3 rfl) ?_
  obtain ⟨x17, hx17, h⟩ := bs h
  refine o_gR C w hx17 fl_X8_8 dX8_comes_88 ?_
  refine lv_iconst (v := 1) hx hb dX8_comes_91 (by decide) ?_
  refine lv_dup2_11 hx hb dX8_comes_92 rfl rfl ?_
  obtain ⟨x18, hx18, h⟩ := bs h
  refine o_ldI C w hx18 dX8_comes_93 ?_
  refine lv_iconst (v := 1) hx hb dX8_comes_94 (by decide) ?_
  refine lv_iadd hx hb dX8_comes_95 ?_
  obtain ⟨S19, hS19, h⟩ := bs h
  refine o_stI C w hS19 dX8_comes_96 (fun H locs w => ?_)
  refine lv_aload_n hx hb dX8_comes_97 rfl (lv_at hl 3 rfl) ?_
  obtain ⟨x20, hx20, h⟩ := bs h
  refine o_gR C w hx20 fl_X8_8 dX8_comes_98 ?_
  refine lv_iconst (v := 2) hx hb dX8_comes_101 (by decide) ?_
  refine lv_iload hx hb dX8_comes_102 (lv_at hl 0 rfl) ?_
  refine lv_iload hx hb dX8_comes_104 (lv_at hl 7 rfl) ?_
  refine lv_iload_n hx hb dX8_comes_106 rfl (lv_at hl 6 rfl) ?_
  refine lv_isub hx hb dX8_comes_107 ?_
  refine lv_iconst (v := 1) hx hb dX8_comes_108 (by decide) ?_
  refine lv_iadd hx hb dX8_comes_109 ?_
  refine lv_imul hx hb dX8_comes_110 ?_
  obtain ⟨S21, hS21, h⟩ := bs h
  refine o_stI C w hS21 dX8_comes_111 (fun H locs w => ?_)
  refine lv_iconst (v := 0) hx hb dX8_comes_112 (by decide) ?_
  refine lv_istore (lv' := [(9, .int (0 : Int32)), (8, .int x4), (7, .int ((20 : Int32) + ((8 : Int32) * x2))), (6, .int x2), (0, .ref v0), (1, .int v1), (2, .int v2), (3, .int v3), (4, .int v4), (5, .int v5)]) hx hb dX8_comes_113 hl (by decide) rfl (fun ls hl => ?_)
  obtain ⟨S38, hL115, h⟩ := bs h
  have hE115 : ∀ (q41 : PH), S38 = q41 → ∀ (H : Heap) (locs : List Loc) (ls : Array Slot), Wd D G L A H0 q41 H locs → lv_has ls 11 [(0, .ref v0), (1, .int v1), (6, .int x2)] → W p l e R s m args below meth c H locs cells slots Q (F0 m 187 ls []) := by
    intro q41 he
    cases he
    intro H locs ls w hl
    refine lv_aload_n hx hb dX8_comes_187 rfl (lv_at hl 0 rfl) ?_
    obtain ⟨x39, hx39, h⟩ := bs h
    refine o_gR C w hx39 fl_X8_8 dX8_comes_188 ?_
    refine lv_bipush (v := 10) hx hb dX8_comes_191 (by decide) ?_
    refine lv_iload_n hx hb dX8_comes_193 rfl (lv_at hl 1 rfl) ?_
    refine lv_iadd hx hb dX8_comes_194 ?_
    refine lv_iload hx hb dX8_comes_195 (lv_at hl 2 rfl) ?_
    obtain ⟨S40, hS40, h⟩ := bs h
    refine o_stI C w hS40 dX8_comes_197 (fun H locs w => ?_)
    refine lv_iload hx hb dX8_comes_198 (lv_at hl 2 rfl) ?_
    exact hret _ _ _ _ _ _ w (Option.some.inj h) dX8_comes_200
  refine lpo_W (P := fun x : Int32 × PH => ∀ (H : Heap) (locs : List Loc) (ls : Array Slot), Wd D G L A H0 x.2 H locs → lv_has ls 11 [(0, .ref v0), (1, .int v1), (6, .int x2), (8, .int x4), (9, .int x.1)] → W p l e R s m args below meth c H locs cells slots Q (F0 m 115 ls [])) ?_ FU _ hL115 H locs ls w (lv_sub hl [4, 5, 3, 1, 0] rfl)
  intro x y115 h hnext115 hend115
  obtain ⟨t42, S43⟩ := x
  have h : f_X8_comes_L115 S43 v0 x4 t42 = some y115 := h
  unfold f_X8_comes_L115 at h
  intro H locs ls w hl
  have hl : lv_has ls 11 [(0, .ref v0), (1, .int v1), (6, .int x2), (8, .int x4), (9, .int t42)] := hl
  have w : Wd D G L A H0 S43 H locs := w
  refine lv_iload hx hb dX8_comes_115 (lv_at hl 4 rfl) ?_
  refine lv_iconst (v := 4) hx hb dX8_comes_117 (by decide) ?_
  refine lv_icmp_ge (tgt := 187) hx hb dX8_comes_118 (by decide) (fun cc118 => ?_) (fun cc118 => ?_)
  · have h := it cc118 h
    exact hE115 _ (hend115 _ (Option.some.inj h).symm).symm H locs ls w (lv_sub hl [0, 1, 2] rfl)
  · have h := ie cc118 h
    refine lv_iload hx hb dX8_comes_121 (lv_at hl 3 rfl) ?_
    refine lv_istore (lv' := [(10, .int x4), (0, .ref v0), (1, .int v1), (6, .int x2), (8, .int x4), (9, .int t42)]) hx hb dX8_comes_123 hl (by decide) rfl (fun ls hl => ?_)
    obtain ⟨S44, hL125, h⟩ := bs h
    have hE125 : ∀ (q45 : PH), S44 = q45 → ∀ (H : Heap) (locs : List Loc) (ls : Array Slot), Wd D G L A H0 q45 H locs → lv_has ls 11 [(0, .ref v0), (1, .int v1), (6, .int x2), (8, .int x4), (9, .int t42)] → W p l e R s m args below meth c H locs cells slots Q (F0 m 181 ls []) := by
      intro q45 he
      cases he
      intro H locs ls w hl
      refine lv_iinc (v := (t42 + 1)) (lv' := [(9, .int (t42 + 1)), (0, .ref v0), (1, .int v1), (6, .int x2), (8, .int x4)]) hx hb dX8_comes_181 hl (k := 4) rfl rfl (by decide) rfl (fun ls hl => ?_)
      refine lv_goto (tgt := 115) hx hb dX8_comes_184 (by decide) ?_
      exact hnext115 _ (Option.some.inj h).symm H locs ls w (lv_sub hl [1, 2, 3, 4, 0] rfl)
    refine lpo_W (P := fun x : Int32 × PH => ∀ (H : Heap) (locs : List Loc) (ls : Array Slot), Wd D G L A H0 x.2 H locs → lv_has ls 11 [(0, .ref v0), (1, .int v1), (6, .int x2), (8, .int x4), (9, .int t42), (10, .int x.1)] → W p l e R s m args below meth c H locs cells slots Q (F0 m 125 ls [])) ?_ FU _ hL125 H locs ls w (lv_sub hl [1, 2, 3, 4, 5, 0] rfl)
    intro x y125 h hnext125 hend125
    obtain ⟨t46, S47⟩ := x
    have h : f_X8_comes_L125 S47 v0 x4 t42 t46 = some y125 := h
    unfold f_X8_comes_L125 at h
    intro H locs ls w hl
    have hl : lv_has ls 11 [(0, .ref v0), (1, .int v1), (6, .int x2), (8, .int x4), (9, .int t42), (10, .int t46)] := hl
    have w : Wd D G L A H0 S47 H locs := w
    refine lv_iload hx hb dX8_comes_125 (lv_at hl 5 rfl) ?_
    refine lv_aload_n hx hb dX8_comes_127 rfl (lv_at hl 0 rfl) ?_
    obtain ⟨x48, hx48, h⟩ := bs h
    refine o_gR C w hx48 fl_X8_8 dX8_comes_128 ?_
    refine lv_iconst (v := 2) hx hb dX8_comes_131 (by decide) ?_
    obtain ⟨x49, hx49, h⟩ := bs h
    refine o_ldI C w hx49 dX8_comes_132 ?_
    refine lv_icmp_ge (tgt := 181) hx hb dX8_comes_133 (by decide) (fun cc133 => ?_) (fun cc133 => ?_)
    · have h := it cc133 h
      exact hE125 _ (hend125 _ (Option.some.inj h).symm).symm H locs ls w (lv_sub hl [0, 1, 2, 3, 4] rfl)
    · have h := ie cc133 h
      refine lv_aload_n hx hb dX8_comes_136 rfl (lv_at hl 0 rfl) ?_
      obtain ⟨x50, hx50, h⟩ := bs h
      refine o_gR C w hx50 fl_X8_8 dX8_comes_137 ?_
      refine lv_sipush (v := 1130) hx hb dX8_comes_140 (by decide) ?_
      refine lv_sipush (v := 4096) hx hb dX8_comes_143 (by decide) ?_
      refine lv_iload hx hb dX8_comes_146 (lv_at hl 4 rfl) ?_
      refine lv_imul hx hb dX8_comes_148 ?_
      refine lv_iadd hx hb dX8_comes_149 ?_
      refine lv_iload hx hb dX8_comes_150 (lv_at hl 5 rfl) ?_
      refine lv_iadd hx hb dX8_comes_152 ?_
      refine lv_aload_n hx hb dX8_comes_153 rfl (lv_at hl 0 rfl) ?_
      obtain ⟨x51, hx51, h⟩ := bs h
      refine o_gR C w hx51 fl_X8_8 dX8_comes_154 ?_
      refine lv_sipush (v := 1130) hx hb dX8_comes_157 (by decide) ?_
      refine lv_sipush (v := 4096) hx hb dX8_comes_160 (by decide) ?_
      refine lv_iload hx hb dX8_comes_163 (lv_at hl 4 rfl) ?_
      refine lv_imul hx hb dX8_comes_165 ?_
      refine lv_iadd hx hb dX8_comes_166 ?_
      refine lv_iload hx hb dX8_comes_167 (lv_at hl 5 rfl) ?_
      refine lv_iadd hx hb dX8_comes_169 ?_
      refine lv_iload hx hb dX8_comes_170 (lv_at hl 3 rfl) ?_
      refine lv_isub hx hb dX8_comes_172 ?_
      obtain ⟨x52, hx52, h⟩ := bs h
      refine o_ldI C w hx52 dX8_comes_173 ?_
      obtain ⟨S53, hS53, h⟩ := bs h
      refine o_stI C w hS53 dX8_comes_174 (fun H locs w => ?_)
      refine lv_iinc (v := (t46 + 1)) (lv' := [(10, .int (t46 + 1)), (0, .ref v0), (1, .int v1), (6, .int x2), (8, .int x4), (9, .int t42)]) hx hb dX8_comes_175 hl (k := 5) rfl rfl (by decide) rfl (fun ls hl => ?_)
      refine lv_goto (tgt := 125) hx hb dX8_comes_178 (by decide) ?_
      exact hnext125 _ (Option.some.inj h).symm H locs ls w (lv_sub hl [1, 2, 3, 4, 5, 0] rfl)
set_option maxHeartbeats 4000000 in
set_option maxRecDepth 100000 in
theorem c_X8_comes (l : Launch) (D : va_G) (G : Nat → ClassId) (L : List Nat) (S : PH) (v0 : Nat) (v1 : Int32) (v2 : Int32) (v3 : Int32) (v4 : Int32) (v5 : Int32) (r : Int32 × PH) (h : f_X8_comes S v0 v1 v2 v3 v4 v5 = some r) : Met l yX8_comes [Cond.code yX8_comes cX8_comes 11 (some .int)] ({ frames := 0, cells := 0, slots := 0, locals := 0 }) (va_Pc [.ref v0, .int v1, .int v2, .int v3, .int v4, .int v5] (PreU D G L S)) (Qi D G L r.1 r.2) 0 0 (inL L) := by
  refine Met.ofW (cc := cX8_comes) (maxL := 11) (ret := (some .int)) (by decide) rfl ?_
  intro p e s m args below meth c s₁ B hml hv
  obtain ⟨rfl, hpre⟩ := hv
  obtain ⟨C, w⟩ := o_ent (own := RX8) rfl B hml hpre
  have hl := lv_entry ([.ref v0, .int v1, .int v2, .int v3, .int v4, .int v5]) (n := 11) (Nat.le_of_ble_eq_true rfl)
  rw [lg_entry_eq]
  generalize (lg_sl ([.ref v0, .int v1, .int v2, .int v3, .int v4, .int v5]) ++ List.replicate (11 - (lg_sl ([.ref v0, .int v1, .int v2, .int v3, .int v4, .int v5])).length) Slot.unset).toArray = ls at hl ⊢
  exact w_X8_comes C (fun _ h => h) ⟨Nat.zero_le _, Nat.zero_le _⟩  S v0 v1 v2 v3 v4 v5 r h (fun v S9 H locs ls pc w hv hd => by subst hv; exact o_iret C w B.returns B.notSynchronized hd) _ _ _ w hl

def f_X8_person (S : PH) (v0 : Nat) (v1 : Int32) (v2 : Int32) (v3 : Int32) (v4 : Int32) : Option (Int32 × PH) :=
(gR S v0 8 0).bind fun x1 =>
(ldI S x1 (0 : Int32)).bind fun x2 =>
if x2 = (8 : Int32) then (
some ((-1 : Int32), S))
else (
(f_X8_isIn v2 (0 : Int32) (20 : Int32)).bind fun x3 =>
if x3 = 0 then (
some ((-1 : Int32), S))
else (
(f_X8_isIn v3 v2 (20 : Int32)).bind fun x4 =>
if x4 = 0 then (
some ((-1 : Int32), S))
else (
(f_X8_isIn v1 v2 v3).bind fun x5 =>
if x5 = 0 then (
some ((-1 : Int32), S))
else (
(f_X8_isIn v4 (1 : Int32) ((v3 - v2) + (1 : Int32))).bind fun x6 =>
if x6 = 0 then (
some ((-1 : Int32), S))
else (
(ckO S v0 8).bind fun _ =>
(f_X8_mayCome S v0 v2 v3).bind fun x7 =>
if x7 = 0 then (
some ((-1 : Int32), S))
else (
(gR S v0 8 0).bind fun x8 =>
(ldI S x8 (0 : Int32)).bind fun x9 =>
(gR S v0 8 0).bind fun x10 =>
(ldI S x10 (0 : Int32)).bind fun x11 =>
(stI S x10 (0 : Int32) (x11 + (1 : Int32))).bind fun S12 =>
(ckO S12 v0 8).bind fun _ =>
bd2 (f_X8_comes S12 v0 x9 v1 v2 v3 v4) fun x13 S14 =>
some (x9, S14)))))))
set_option maxHeartbeats 4000000 in
set_option maxRecDepth 100000 in
theorem w_X8_person {p : Program} {l : Launch} {e : Env} {R : Room} {s : State} {m : MethodId} {args : Array Value} {below : List Frame} {meth : Method} {c : Code} {cells slots : Nat} {Q : State → Prop} {D : va_G} {G : Nat → ClassId} {L : List Nat} {A : Nat → Prop} {H0 : Heap} (C : CX p s m c args D G cX8_person 7 RX8) (hLA : ∀ q ∈ L, A q) (hcs : cells ≤ R.cells ∧ slots ≤ R.slots) (hR_X8_isIn : RoomOk R ({ frames := 0, cells := 0, slots := 0, locals := 0 }) 3) (hR_X8_mayCome : RoomOk R ({ frames := 1, cells := 0, slots := 0, locals := 22 }) 5) (hR_X8_comes : RoomOk R ({ frames := 0, cells := 0, slots := 0, locals := 0 }) 11) (S : PH) (v0 : Nat) (v1 : Int32) (v2 : Int32) (v3 : Int32) (v4 : Int32) (r : Int32 × PH) (h : f_X8_person S v0 v1 v2 v3 v4 = some r) (hret : ∀ (v : Int32) (S9 : PH) (H : Heap) (locs : List Loc) (ls : Array Slot) (pc : Nat), Wd D G L A H0 S9 H locs → (v, S9) = r → decode cX8_person pc = .ok (.ireturn, 1) → W p l e R s m args below meth c H locs cells slots Q (F0 m pc ls [.int v])) : ∀ (H : Heap) (locs : List Loc) (ls : Array Slot), Wd D G L A H0 S H locs → lv_has ls 7 [(0, .ref v0), (1, .int v1), (2, .int v2), (3, .int v3), (4, .int v4)] → W p l e R s m args below meth c H locs cells slots Q (F0 m 0 ls []) := by
  have hx := C.1.1
  have hb := C.1.2.1
  unfold f_X8_person at h
  intro H locs ls w hl
  refine lv_aload_n hx hb dX8_person_0 rfl (lv_at hl 0 rfl) ?_
  obtain ⟨x1, hx1, h⟩ := bs h
  refine o_gR C w hx1 fl_X8_8 dX8_person_1 ?_
  refine lv_iconst (v := 0) hx hb dX8_person_4 (by decide) ?_
  obtain ⟨x2, hx2, h⟩ := bs h
  refine o_ldI C w hx2 dX8_person_5 ?_
  refine lv_bipush (v := 8) hx hb dX8_person_6 (by decide) ?_
  refine lv_icmp_eq (tgt := 63) hx hb dX8_person_8 (by decide) (fun cc8 => ?_) (fun cc8 => ?_)
  · have h := it cc8 h
    refine lv_iconst (v := -1) hx hb dX8_person_63 (by decide) ?_
    exact hret _ _ _ _ _ _ w (Option.some.inj h) dX8_person_64
  · have h := ie cc8 h
    refine lv_iload_n hx hb dX8_person_11 rfl (lv_at hl 2 rfl) ?_
    refine lv_iconst (v := 0) hx hb dX8_person_12 (by decide) ?_
    refine lv_bipush (v := 20) hx hb dX8_person_13 (by decide) ?_
    obtain ⟨x3, hc, h⟩ := bs h
    refine o_backi w hLA (o_runS (As := [.int v2, .int (0 : Int32), .int (20 : Int32)]) (rest := []) C w (c_X8_isIn l D G L S v2 (0 : Int32) (20 : Int32) x3 hc) ml_X8_40 st_X8_isIn hR_X8_isIn rfl hl.1 rfl (Nat.le_of_ble_eq_true rfl) dX8_person_15 hcs) (fun H locs w => ?_)
    refine lv_if_eq (tgt := 63) hx hb dX8_person_18 (by decide) (fun cc18 => ?_) (fun cc18 => ?_)
    · have h := it cc18 h
      refine lv_iconst (v := -1) hx hb dX8_person_63 (by decide) ?_
      exact hret _ _ _ _ _ _ w (Option.some.inj h) dX8_person_64
    · have h := ie cc18 h
      refine lv_iload_n hx hb dX8_person_21 rfl (lv_at hl 3 rfl) ?_
      refine lv_iload_n hx hb dX8_person_22 rfl (lv_at hl 2 rfl) ?_
      refine lv_bipush (v := 20) hx hb dX8_person_23 (by decide) ?_
      obtain ⟨x4, hc, h⟩ := bs h
      refine o_backi w hLA (o_runS (As := [.int v3, .int v2, .int (20 : Int32)]) (rest := []) C w (c_X8_isIn l D G L S v3 v2 (20 : Int32) x4 hc) ml_X8_40 st_X8_isIn hR_X8_isIn rfl hl.1 rfl (Nat.le_of_ble_eq_true rfl) dX8_person_25 hcs) (fun H locs w => ?_)
      refine lv_if_eq (tgt := 63) hx hb dX8_person_28 (by decide) (fun cc28 => ?_) (fun cc28 => ?_)
      · have h := it cc28 h
        refine lv_iconst (v := -1) hx hb dX8_person_63 (by decide) ?_
        exact hret _ _ _ _ _ _ w (Option.some.inj h) dX8_person_64
      · have h := ie cc28 h
        refine lv_iload_n hx hb dX8_person_31 rfl (lv_at hl 1 rfl) ?_
        refine lv_iload_n hx hb dX8_person_32 rfl (lv_at hl 2 rfl) ?_
        refine lv_iload_n hx hb dX8_person_33 rfl (lv_at hl 3 rfl) ?_
        obtain ⟨x5, hc, h⟩ := bs h
        refine o_backi w hLA (o_runS (As := [.int v1, .int v2, .int v3]) (rest := []) C w (c_X8_isIn l D G L S v1 v2 v3 x5 hc) ml_X8_40 st_X8_isIn hR_X8_isIn rfl hl.1 rfl (Nat.le_of_ble_eq_true rfl) dX8_person_34 hcs) (fun H locs w => ?_)
        refine lv_if_eq (tgt := 63) hx hb dX8_person_37 (by decide) (fun cc37 => ?_) (fun cc37 => ?_)
        · have h := it cc37 h
          refine lv_iconst (v := -1) hx hb dX8_person_63 (by decide) ?_
          exact hret _ _ _ _ _ _ w (Option.some.inj h) dX8_person_64
        · have h := ie cc37 h
          refine lv_iload hx hb dX8_person_40 (lv_at hl 4 rfl) ?_
          refine lv_iconst (v := 1) hx hb dX8_person_42 (by decide) ?_
          refine lv_iload_n hx hb dX8_person_43 rfl (lv_at hl 3 rfl) ?_
          refine lv_iload_n hx hb dX8_person_44 rfl (lv_at hl 2 rfl) ?_
          refine lv_isub hx hb dX8_person_45 ?_
          refine lv_iconst (v := 1) hx hb dX8_person_46 (by decide) ?_
          refine lv_iadd hx hb dX8_person_47 ?_
          obtain ⟨x6, hc, h⟩ := bs h
          refine o_backi w hLA (o_runS (As := [.int v4, .int (1 : Int32), .int ((v3 - v2) + (1 : Int32))]) (rest := []) C w (c_X8_isIn l D G L S v4 (1 : Int32) ((v3 - v2) + (1 : Int32)) x6 hc) ml_X8_40 st_X8_isIn hR_X8_isIn rfl hl.1 rfl (Nat.le_of_ble_eq_true rfl) dX8_person_48 hcs) (fun H locs w => ?_)
          refine lv_if_eq (tgt := 63) hx hb dX8_person_51 (by decide) (fun cc51 => ?_) (fun cc51 => ?_)
          · have h := it cc51 h
            refine lv_iconst (v := -1) hx hb dX8_person_63 (by decide) ?_
            exact hret _ _ _ _ _ _ w (Option.some.inj h) dX8_person_64
          · have h := ie cc51 h
            refine lv_aload_n hx hb dX8_person_54 rfl (lv_at hl 0 rfl) ?_
            refine lv_iload_n hx hb dX8_person_55 rfl (lv_at hl 2 rfl) ?_
            refine lv_iload_n hx hb dX8_person_56 rfl (lv_at hl 3 rfl) ?_
            obtain ⟨_, ho, h⟩ := bs h
            obtain ⟨x7, hc, h⟩ := bs h
            refine o_backi w hLA (o_runV (As := [.int v2, .int v3]) (rest := []) C w (c_X8_mayCome l D G L S v0 v2 v3 x7 hc) ml_X8_52 mv_X8_mayCome hR_X8_mayCome ho rfl hl.1 rfl (Nat.le_of_ble_eq_true rfl) dX8_person_57 hcs) (fun H locs w => ?_)
            refine lv_if_ne (tgt := 65) hx hb dX8_person_60 (by decide) (fun cc60 => ?_) (fun cc60 => ?_)
            · have h := ie cc60 h
              refine lv_aload_n hx hb dX8_person_65 rfl (lv_at hl 0 rfl) ?_
              obtain ⟨x8, hx8, h⟩ := bs h
              refine o_gR C w hx8 fl_X8_8 dX8_person_66 ?_
              refine lv_iconst (v := 0) hx hb dX8_person_69 (by decide) ?_
              obtain ⟨x9, hx9, h⟩ := bs h
              refine o_ldI C w hx9 dX8_person_70 ?_
              refine lv_istore (lv' := [(5, .int x9), (0, .ref v0), (1, .int v1), (2, .int v2), (3, .int v3), (4, .int v4)]) hx hb dX8_person_71 hl (by decide) rfl (fun ls hl => ?_)
              refine lv_aload_n hx hb dX8_person_73 rfl (lv_at hl 1 rfl) ?_
              obtain ⟨x10, hx10, h⟩ := bs h
              refine o_gR C w hx10 fl_X8_8 dX8_person_74 ?_
              refine lv_iconst (v := 0) hx hb dX8_person_77 (by decide) ?_
              refine lv_dup2_11 hx hb dX8_person_78 rfl rfl ?_
              obtain ⟨x11, hx11, h⟩ := bs h
              refine o_ldI C w hx11 dX8_person_79 ?_
              refine lv_iconst (v := 1) hx hb dX8_person_80 (by decide) ?_
              refine lv_iadd hx hb dX8_person_81 ?_
              obtain ⟨S12, hS12, h⟩ := bs h
              refine o_stI C w hS12 dX8_person_82 (fun H locs w => ?_)
              refine lv_aload_n hx hb dX8_person_83 rfl (lv_at hl 1 rfl) ?_
              refine lv_iload hx hb dX8_person_84 (lv_at hl 0 rfl) ?_
              refine lv_iload_n hx hb dX8_person_86 rfl (lv_at hl 2 rfl) ?_
              refine lv_iload_n hx hb dX8_person_87 rfl (lv_at hl 3 rfl) ?_
              refine lv_iload_n hx hb dX8_person_88 rfl (lv_at hl 4 rfl) ?_
              refine lv_iload hx hb dX8_person_89 (lv_at hl 5 rfl) ?_
              obtain ⟨_, ho, h⟩ := bs h
              obtain ⟨x13, S14, hc, h⟩ := bs2 h
              refine o_backi w hLA (o_runV (As := [.int x9, .int v1, .int v2, .int v3, .int v4]) (rest := []) C w (c_X8_comes l D G L S12 v0 x9 v1 v2 v3 v4 (x13, S14) hc) ml_X8_56 mv_X8_comes hR_X8_comes ho rfl hl.1 rfl (Nat.le_of_ble_eq_true rfl) dX8_person_91 hcs) (fun H locs w => ?_)
              refine lv_istore (lv' := [(6, .int x13), (5, .int x9), (0, .ref v0), (1, .int v1), (2, .int v2), (3, .int v3), (4, .int v4)]) hx hb dX8_person_94 hl (by decide) rfl (fun ls hl => ?_)
              refine lv_iload hx hb dX8_person_96 (lv_at hl 1 rfl) ?_
              exact hret _ _ _ _ _ _ w (Option.some.inj h) dX8_person_98
            · have h := it cc60 h
              refine lv_iconst (v := -1) hx hb dX8_person_63 (by decide) ?_
              exact hret _ _ _ _ _ _ w (Option.some.inj h) dX8_person_64
set_option maxHeartbeats 4000000 in
set_option maxRecDepth 100000 in
theorem c_X8_person (l : Launch) (D : va_G) (G : Nat → ClassId) (L : List Nat) (S : PH) (v0 : Nat) (v1 : Int32) (v2 : Int32) (v3 : Int32) (v4 : Int32) (r : Int32 × PH) (h : f_X8_person S v0 v1 v2 v3 v4 = some r) : Met l yX8_person [Cond.code yX8_person cX8_person 7 (some .int)] ({ frames := 2, cells := 0, slots := 0, locals := 46 }) (va_Pc [.ref v0, .int v1, .int v2, .int v3, .int v4] (PreU D G L S)) (Qi D G L r.1 r.2) 0 0 (inL L) := by
  refine Met.ofW (cc := cX8_person) (maxL := 7) (ret := (some .int)) (by decide) rfl ?_
  intro p e s m args below meth c s₁ B hml hv
  obtain ⟨rfl, hpre⟩ := hv
  obtain ⟨C, w⟩ := o_ent (own := RX8) rfl B hml hpre
  have hl := lv_entry ([.ref v0, .int v1, .int v2, .int v3, .int v4]) (n := 7) (Nat.le_of_ble_eq_true rfl)
  rw [lg_entry_eq]
  generalize (lg_sl ([.ref v0, .int v1, .int v2, .int v3, .int v4]) ++ List.replicate (7 - (lg_sl ([.ref v0, .int v1, .int v2, .int v3, .int v4])).length) Slot.unset).toArray = ls at hl ⊢
  exact w_X8_person C (fun _ h => h) ⟨Nat.zero_le _, Nat.zero_le _⟩ ⟨rfl, rfl, Nat.le_of_ble_eq_true rfl, Nat.le_of_ble_eq_true rfl⟩ ⟨rfl, rfl, Nat.le_of_ble_eq_true rfl, Nat.le_of_ble_eq_true rfl⟩ ⟨rfl, rfl, Nat.le_of_ble_eq_true rfl, Nat.le_of_ble_eq_true rfl⟩ S v0 v1 v2 v3 v4 r h (fun v S9 H locs ls pc w hv hd => by subst hv; exact o_iret C w B.returns B.notSynchronized hd) _ _ _ w hl

def f_X8_change_b58 (S : PH)  : Option (Int32 × PH) :=
some ((-1 : Int32), S)
def f_X8_change (S : PH) (v0 : Nat) (v1 : Int32) (v2 : Int32) : Option (Int32 × PH) :=
(ckO S v0 8).bind fun _ =>
(f_X8_isPerson S v0 v1).bind fun x1 =>
if x1 = 0 then (
some ((-1 : Int32), S))
else (
(gR S v0 8 0).bind fun x2 =>
(ldI S x2 ((10 : Int32) + v1)).bind fun x3 =>
(ckO S v0 8).bind fun _ =>
(f_X8_of S v0 x3 (1 : Int32)).bind fun x4 =>
(ckO S v0 8).bind fun _ =>
(f_X8_of S v0 x3 (2 : Int32)).bind fun x5 =>
(f_X8_isIn v2 x4 x5).bind fun x6 =>
if x6 = 0 then (
f_X8_change_b58 S )
else (
(ckO S v0 8).bind fun _ =>
(f_X8_of S v0 x3 (1 : Int32)).bind fun x7 =>
(ckO S v0 8).bind fun _ =>
(f_X8_of S v0 x3 (2 : Int32)).bind fun x8 =>
(ckO S v0 8).bind fun _ =>
(f_X8_mayCome S v0 x7 x8).bind fun x9 =>
if x9 = 0 then (
f_X8_change_b58 S )
else (
(ckO S v0 8).bind fun _ =>
(f_X8_of S v0 x3 (1 : Int32)).bind fun x10 =>
(ckO S v0 8).bind fun _ =>
(f_X8_of S v0 x3 (2 : Int32)).bind fun x11 =>
(ckO S v0 8).bind fun _ =>
(f_X8_of S v0 x3 (3 : Int32)).bind fun x12 =>
(ckO S v0 8).bind fun _ =>
bd2 (f_X8_comes S v0 v1 v2 x10 x11 x12) fun x13 S14 =>
some (x13, S14))))
set_option maxHeartbeats 4000000 in
set_option maxRecDepth 100000 in
theorem w_X8_change {p : Program} {l : Launch} {e : Env} {R : Room} {s : State} {m : MethodId} {args : Array Value} {below : List Frame} {meth : Method} {c : Code} {cells slots : Nat} {Q : State → Prop} {D : va_G} {G : Nat → ClassId} {L : List Nat} {A : Nat → Prop} {H0 : Heap} (C : CX p s m c args D G cX8_change 4 RX8) (hLA : ∀ q ∈ L, A q) (hcs : cells ≤ R.cells ∧ slots ≤ R.slots) (hR_X8_isPerson : RoomOk R ({ frames := 1, cells := 0, slots := 0, locals := 22 }) 2) (hR_X8_of : RoomOk R ({ frames := 0, cells := 0, slots := 0, locals := 0 }) 3) (hR_X8_isIn : RoomOk R ({ frames := 0, cells := 0, slots := 0, locals := 0 }) 3) (hR_X8_mayCome : RoomOk R ({ frames := 1, cells := 0, slots := 0, locals := 22 }) 5) (hR_X8_comes : RoomOk R ({ frames := 0, cells := 0, slots := 0, locals := 0 }) 11) (S : PH) (v0 : Nat) (v1 : Int32) (v2 : Int32) (r : Int32 × PH) (h : f_X8_change S v0 v1 v2 = some r) (hret : ∀ (v : Int32) (S9 : PH) (H : Heap) (locs : List Loc) (ls : Array Slot) (pc : Nat), Wd D G L A H0 S9 H locs → (v, S9) = r → decode cX8_change pc = .ok (.ireturn, 1) → W p l e R s m args below meth c H locs cells slots Q (F0 m pc ls [.int v])) : ∀ (H : Heap) (locs : List Loc) (ls : Array Slot), Wd D G L A H0 S H locs → lv_has ls 4 [(0, .ref v0), (1, .int v1), (2, .int v2)] → W p l e R s m args below meth c H locs cells slots Q (F0 m 0 ls []) := by
  have hx := C.1.1
  have hb := C.1.2.1
  unfold f_X8_change at h
  have hb58 : ∀ (S15 : PH) , f_X8_change_b58 S15  = some r → ∀ (H : Heap) (locs : List Loc) (ls : Array Slot), Wd D G L A H0 S15 H locs → lv_has ls 4 [] → W p l e R s m args below meth c H locs cells slots Q (F0 m 58 ls []) := by
    intro S15  h H locs ls w hl
    unfold f_X8_change_b58 at h
    refine lv_iconst (v := -1) hx hb dX8_change_58 (by decide) ?_
    refine lv_goto (tgt := 86) hx hb dX8_change_59 (by decide) ?_
    exact hret _ _ _ _ _ _ w (Option.some.inj h) dX8_change_86
  intro H locs ls w hl
  refine lv_aload_n hx hb dX8_change_0 rfl (lv_at hl 0 rfl) ?_
  refine lv_iload_n hx hb dX8_change_1 rfl (lv_at hl 1 rfl) ?_
  obtain ⟨_, ho, h⟩ := bs h
  obtain ⟨x1, hc, h⟩ := bs h
  refine o_backi w hLA (o_runV (As := [.int v1]) (rest := []) C w (c_X8_isPerson l D G L S v0 v1 x1 hc) ml_X8_60 mv_X8_isPerson hR_X8_isPerson ho rfl hl.1 rfl (Nat.le_of_ble_eq_true rfl) dX8_change_2 hcs) (fun H locs w => ?_)
  refine lv_if_ne (tgt := 10) hx hb dX8_change_5 (by decide) (fun cc5 => ?_) (fun cc5 => ?_)
  · have h := ie cc5 h
    refine lv_aload_n hx hb dX8_change_10 rfl (lv_at hl 0 rfl) ?_
    obtain ⟨x2, hx2, h⟩ := bs h
    refine o_gR C w hx2 fl_X8_8 dX8_change_11 ?_
    refine lv_bipush (v := 10) hx hb dX8_change_14 (by decide) ?_
    refine lv_iload_n hx hb dX8_change_16 rfl (lv_at hl 1 rfl) ?_
    refine lv_iadd hx hb dX8_change_17 ?_
    obtain ⟨x3, hx3, h⟩ := bs h
    refine o_ldI C w hx3 dX8_change_18 ?_
    refine lv_istore_n (lv' := [(3, .int x3), (0, .ref v0), (1, .int v1), (2, .int v2)]) hx hb dX8_change_19 rfl hl (by decide) rfl (fun ls hl => ?_)
    refine lv_iload_n hx hb dX8_change_20 rfl (lv_at hl 3 rfl) ?_
    refine lv_aload_n hx hb dX8_change_21 rfl (lv_at hl 1 rfl) ?_
    refine lv_iload_n hx hb dX8_change_22 rfl (lv_at hl 0 rfl) ?_
    refine lv_iconst (v := 1) hx hb dX8_change_23 (by decide) ?_
    obtain ⟨_, ho, h⟩ := bs h
    obtain ⟨x4, hc, h⟩ := bs h
    refine o_backi w hLA (o_runV (As := [.int x3, .int (1 : Int32)]) (rest := [.int v2]) C w (c_X8_of l D G L S v0 x3 (1 : Int32) x4 hc) ml_X8_44 mv_X8_of hR_X8_of ho rfl hl.1 rfl (Nat.le_of_ble_eq_true rfl) dX8_change_24 hcs) (fun H locs w => ?_)
    refine lv_aload_n hx hb dX8_change_27 rfl (lv_at hl 1 rfl) ?_
    refine lv_iload_n hx hb dX8_change_28 rfl (lv_at hl 0 rfl) ?_
    refine lv_iconst (v := 2) hx hb dX8_change_29 (by decide) ?_
    obtain ⟨_, ho, h⟩ := bs h
    obtain ⟨x5, hc, h⟩ := bs h
    refine o_backi w hLA (o_runV (As := [.int x3, .int (2 : Int32)]) (rest := [.int x4, .int v2]) C w (c_X8_of l D G L S v0 x3 (2 : Int32) x5 hc) ml_X8_44 mv_X8_of hR_X8_of ho rfl hl.1 rfl (Nat.le_of_ble_eq_true rfl) dX8_change_30 hcs) (fun H locs w => ?_)
    obtain ⟨x6, hc, h⟩ := bs h
    refine o_backi w hLA (o_runS (As := [.int v2, .int x4, .int x5]) (rest := []) C w (c_X8_isIn l D G L S v2 x4 x5 x6 hc) ml_X8_40 st_X8_isIn hR_X8_isIn rfl hl.1 rfl (Nat.le_of_ble_eq_true rfl) dX8_change_33 hcs) (fun H locs w => ?_)
    refine lv_if_eq (tgt := 58) hx hb dX8_change_36 (by decide) (fun cc36 => ?_) (fun cc36 => ?_)
    · have h := it cc36 h
      exact hb58 _ h H locs ls w (lv_sub hl [] rfl)
    · have h := ie cc36 h
      refine lv_aload_n hx hb dX8_change_39 rfl (lv_at hl 1 rfl) ?_
      refine lv_aload_n hx hb dX8_change_40 rfl (lv_at hl 1 rfl) ?_
      refine lv_iload_n hx hb dX8_change_41 rfl (lv_at hl 0 rfl) ?_
      refine lv_iconst (v := 1) hx hb dX8_change_42 (by decide) ?_
      obtain ⟨_, ho, h⟩ := bs h
      obtain ⟨x7, hc, h⟩ := bs h
      refine o_backi w hLA (o_runV (As := [.int x3, .int (1 : Int32)]) (rest := [.ref v0]) C w (c_X8_of l D G L S v0 x3 (1 : Int32) x7 hc) ml_X8_44 mv_X8_of hR_X8_of ho rfl hl.1 rfl (Nat.le_of_ble_eq_true rfl) dX8_change_43 hcs) (fun H locs w => ?_)
      refine lv_aload_n hx hb dX8_change_46 rfl (lv_at hl 1 rfl) ?_
      refine lv_iload_n hx hb dX8_change_47 rfl (lv_at hl 0 rfl) ?_
      refine lv_iconst (v := 2) hx hb dX8_change_48 (by decide) ?_
      obtain ⟨_, ho, h⟩ := bs h
      obtain ⟨x8, hc, h⟩ := bs h
      refine o_backi w hLA (o_runV (As := [.int x3, .int (2 : Int32)]) (rest := [.int x7, .ref v0]) C w (c_X8_of l D G L S v0 x3 (2 : Int32) x8 hc) ml_X8_44 mv_X8_of hR_X8_of ho rfl hl.1 rfl (Nat.le_of_ble_eq_true rfl) dX8_change_49 hcs) (fun H locs w => ?_)
      obtain ⟨_, ho, h⟩ := bs h
      obtain ⟨x9, hc, h⟩ := bs h
      refine o_backi w hLA (o_runV (As := [.int x7, .int x8]) (rest := []) C w (c_X8_mayCome l D G L S v0 x7 x8 x9 hc) ml_X8_52 mv_X8_mayCome hR_X8_mayCome ho rfl hl.1 rfl (Nat.le_of_ble_eq_true rfl) dX8_change_52 hcs) (fun H locs w => ?_)
      refine lv_if_ne (tgt := 62) hx hb dX8_change_55 (by decide) (fun cc55 => ?_) (fun cc55 => ?_)
      · have h := ie cc55 h
        refine lv_aload_n hx hb dX8_change_62 rfl (lv_at hl 1 rfl) ?_
        refine lv_iload_n hx hb dX8_change_63 rfl (lv_at hl 2 rfl) ?_
        refine lv_iload_n hx hb dX8_change_64 rfl (lv_at hl 3 rfl) ?_
        refine lv_aload_n hx hb dX8_change_65 rfl (lv_at hl 1 rfl) ?_
        refine lv_iload_n hx hb dX8_change_66 rfl (lv_at hl 0 rfl) ?_
        refine lv_iconst (v := 1) hx hb dX8_change_67 (by decide) ?_
        obtain ⟨_, ho, h⟩ := bs h
        obtain ⟨x10, hc, h⟩ := bs h
        refine o_backi w hLA (o_runV (As := [.int x3, .int (1 : Int32)]) (rest := [.int v2, .int v1, .ref v0]) C w (c_X8_of l D G L S v0 x3 (1 : Int32) x10 hc) ml_X8_44 mv_X8_of hR_X8_of ho rfl hl.1 rfl (Nat.le_of_ble_eq_true rfl) dX8_change_68 hcs) (fun H locs w => ?_)
        refine lv_aload_n hx hb dX8_change_71 rfl (lv_at hl 1 rfl) ?_
        refine lv_iload_n hx hb dX8_change_72 rfl (lv_at hl 0 rfl) ?_
        refine lv_iconst (v := 2) hx hb dX8_change_73 (by decide) ?_
        obtain ⟨_, ho, h⟩ := bs h
        obtain ⟨x11, hc, h⟩ := bs h
        refine o_backi w hLA (o_runV (As := [.int x3, .int (2 : Int32)]) (rest := [.int x10, .int v2, .int v1, .ref v0]) C w (c_X8_of l D G L S v0 x3 (2 : Int32) x11 hc) ml_X8_44 mv_X8_of hR_X8_of ho rfl hl.1 rfl (Nat.le_of_ble_eq_true rfl) dX8_change_74 hcs) (fun H locs w => ?_)
        refine lv_aload_n hx hb dX8_change_77 rfl (lv_at hl 1 rfl) ?_
        refine lv_iload_n hx hb dX8_change_78 rfl (lv_at hl 0 rfl) ?_
        refine lv_iconst (v := 3) hx hb dX8_change_79 (by decide) ?_
        obtain ⟨_, ho, h⟩ := bs h
        obtain ⟨x12, hc, h⟩ := bs h
        refine o_backi w hLA (o_runV (As := [.int x3, .int (3 : Int32)]) (rest := [.int x11, .int x10, .int v2, .int v1, .ref v0]) C w (c_X8_of l D G L S v0 x3 (3 : Int32) x12 hc) ml_X8_44 mv_X8_of hR_X8_of ho rfl hl.1 rfl (Nat.le_of_ble_eq_true rfl) dX8_change_80 hcs) (fun H locs w => ?_)
        obtain ⟨_, ho, h⟩ := bs h
        obtain ⟨x13, S14, hc, h⟩ := bs2 h
        refine o_backi w hLA (o_runV (As := [.int v1, .int v2, .int x10, .int x11, .int x12]) (rest := []) C w (c_X8_comes l D G L S v0 v1 v2 x10 x11 x12 (x13, S14) hc) ml_X8_56 mv_X8_comes hR_X8_comes ho rfl hl.1 rfl (Nat.le_of_ble_eq_true rfl) dX8_change_83 hcs) (fun H locs w => ?_)
        exact hret _ _ _ _ _ _ w (Option.some.inj h) dX8_change_86
      · have h := it cc55 h
        exact hb58 _ h H locs ls w (lv_sub hl [] rfl)
  · have h := it cc5 h
    refine lv_iconst (v := -1) hx hb dX8_change_8 (by decide) ?_
    exact hret _ _ _ _ _ _ w (Option.some.inj h) dX8_change_9
set_option maxHeartbeats 4000000 in
set_option maxRecDepth 100000 in
theorem c_X8_change (l : Launch) (D : va_G) (G : Nat → ClassId) (L : List Nat) (S : PH) (v0 : Nat) (v1 : Int32) (v2 : Int32) (r : Int32 × PH) (h : f_X8_change S v0 v1 v2 = some r) : Met l yX8_change [Cond.code yX8_change cX8_change 4 (some .int)] ({ frames := 2, cells := 0, slots := 0, locals := 46 }) (va_Pc [.ref v0, .int v1, .int v2] (PreU D G L S)) (Qi D G L r.1 r.2) 0 0 (inL L) := by
  refine Met.ofW (cc := cX8_change) (maxL := 4) (ret := (some .int)) (by decide) rfl ?_
  intro p e s m args below meth c s₁ B hml hv
  obtain ⟨rfl, hpre⟩ := hv
  obtain ⟨C, w⟩ := o_ent (own := RX8) rfl B hml hpre
  have hl := lv_entry ([.ref v0, .int v1, .int v2]) (n := 4) (Nat.le_of_ble_eq_true rfl)
  rw [lg_entry_eq]
  generalize (lg_sl ([.ref v0, .int v1, .int v2]) ++ List.replicate (4 - (lg_sl ([.ref v0, .int v1, .int v2])).length) Slot.unset).toArray = ls at hl ⊢
  exact w_X8_change C (fun _ h => h) ⟨Nat.zero_le _, Nat.zero_le _⟩ ⟨rfl, rfl, Nat.le_of_ble_eq_true rfl, Nat.le_of_ble_eq_true rfl⟩ ⟨rfl, rfl, Nat.le_of_ble_eq_true rfl, Nat.le_of_ble_eq_true rfl⟩ ⟨rfl, rfl, Nat.le_of_ble_eq_true rfl, Nat.le_of_ble_eq_true rfl⟩ ⟨rfl, rfl, Nat.le_of_ble_eq_true rfl, Nat.le_of_ble_eq_true rfl⟩ ⟨rfl, rfl, Nat.le_of_ble_eq_true rfl, Nat.le_of_ble_eq_true rfl⟩ S v0 v1 v2 r h (fun v S9 H locs ls pc w hv hd => by subst hv; exact o_iret C w B.returns B.notSynchronized hd) _ _ _ w hl

def f_X8_numbersOf_b37 (S : PH) (v0 : Nat) (v1 : Int32) (v2 : Int32) (v3 : Int32) : Option ((Int32 × Int32) ⊕ (Int32)) :=
some (.inl (v2, (v3 + 1)))
def f_X8_numbersOf_L4 (S : PH) (v0 : Nat) (v1 : Int32) (v2 : Int32) (v3 : Int32) : Option ((Int32 × Int32) ⊕ (Int32)) :=
(gR S v0 8 0).bind fun x1 =>
(ldI S x1 (0 : Int32)).bind fun x2 =>
if x2 ≤ v3 then (
some (.inr v2))
else (
if ((v1 >>> (v3 &&& 31)) &&& (1 : Int32)) = (1 : Int32) then (
(gR S v0 8 0).bind fun x3 =>
(ldI S x3 ((10 : Int32) + v3)).bind fun x4 =>
f_X8_numbersOf_b37 S v0 v1 (v2 ||| ((1 : Int32) <<< (x4 &&& 31))) v3)
else (
f_X8_numbersOf_b37 S v0 v1 v2 v3))
def f_X8_numbersOf (S : PH) (v0 : Nat) (v1 : Int32) : Option (Int32) :=
(lpo (fun x : Int32 × Int32 => f_X8_numbersOf_L4 S v0 v1 x.1 x.2) FU ((0 : Int32), (0 : Int32))).bind fun y5 =>
some y5
set_option maxHeartbeats 4000000 in
set_option maxRecDepth 100000 in
theorem w_X8_numbersOf {p : Program} {l : Launch} {e : Env} {R : Room} {s : State} {m : MethodId} {args : Array Value} {below : List Frame} {meth : Method} {c : Code} {cells slots : Nat} {Q : State → Prop} {D : va_G} {G : Nat → ClassId} {L : List Nat} {A : Nat → Prop} {H0 : Heap} (C : CX p s m c args D G cX8_numbersOf 4 RX8) (hLA : ∀ q ∈ L, A q) (hcs : cells ≤ R.cells ∧ slots ≤ R.slots)  (S : PH) (v0 : Nat) (v1 : Int32) (r : Int32) (h : f_X8_numbersOf S v0 v1 = some r) (hret : ∀ (v : Int32) (H : Heap) (locs : List Loc) (ls : Array Slot) (pc : Nat), Wd D G L A H0 S H locs → v = r → decode cX8_numbersOf pc = .ok (.ireturn, 1) → W p l e R s m args below meth c H locs cells slots Q (F0 m pc ls [.int v])) : ∀ (H : Heap) (locs : List Loc) (ls : Array Slot), Wd D G L A H0 S H locs → lv_has ls 4 [(0, .ref v0), (1, .int v1)] → W p l e R s m args below meth c H locs cells slots Q (F0 m 0 ls []) := by
  have hx := C.1.1
  have hb := C.1.2.1
  unfold f_X8_numbersOf at h
  intro H locs ls w hl
  refine lv_iconst (v := 0) hx hb dX8_numbersOf_0 (by decide) ?_
  refine lv_istore_n (lv' := [(2, .int (0 : Int32)), (0, .ref v0), (1, .int v1)]) hx hb dX8_numbersOf_1 rfl hl (by decide) rfl (fun ls hl => ?_)
  refine lv_iconst (v := 0) hx hb dX8_numbersOf_2 (by decide) ?_
  refine lv_istore_n (lv' := [(3, .int (0 : Int32)), (2, .int (0 : Int32)), (0, .ref v0), (1, .int v1)]) hx hb dX8_numbersOf_3 rfl hl (by decide) rfl (fun ls hl => ?_)
  obtain ⟨y5, hL4, h⟩ := bs h
  have hE4 : ∀ (q6 : Int32), y5 = q6 → ∀ (H : Heap) (locs : List Loc) (ls : Array Slot), Wd D G L A H0 S H locs → lv_has ls 4 [(2, .int q6)] → W p l e R s m args below meth c H locs cells slots Q (F0 m 43 ls []) := by
    intro q6 he
    cases he
    intro H locs ls w hl
    refine lv_iload_n hx hb dX8_numbersOf_43 rfl (lv_at hl 0 rfl) ?_
    exact hret _ _ _ _ _ w (Option.some.inj h) dX8_numbersOf_44
  refine lpo_W (P := fun x : Int32 × Int32 => ∀ (H : Heap) (locs : List Loc) (ls : Array Slot), Wd D G L A H0 S H locs → lv_has ls 4 [(0, .ref v0), (1, .int v1), (2, .int x.1), (3, .int x.2)] → W p l e R s m args below meth c H locs cells slots Q (F0 m 4 ls [])) ?_ FU _ hL4 H locs ls w (lv_sub hl [2, 3, 1, 0] rfl)
  intro x y4 h hnext4 hend4
  obtain ⟨t7, t8⟩ := x
  have h : f_X8_numbersOf_L4 S v0 v1 t7 t8 = some y4 := h
  unfold f_X8_numbersOf_L4 at h
  have hb37 : ∀ (u9 : Int32) (u10 : Int32), f_X8_numbersOf_b37 S v0 v1 u9 u10 = some y4 → ∀ (H : Heap) (locs : List Loc) (ls : Array Slot), Wd D G L A H0 S H locs → lv_has ls 4 [(0, .ref v0), (1, .int v1), (2, .int u9), (3, .int u10)] → W p l e R s m args below meth c H locs cells slots Q (F0 m 37 ls []) := by
    intro u9 u10 h H locs ls w hl
    unfold f_X8_numbersOf_b37 at h
    refine lv_iinc (v := (u10 + 1)) (lv' := [(3, .int (u10 + 1)), (0, .ref v0), (1, .int v1), (2, .int u9)]) hx hb dX8_numbersOf_37 hl (k := 3) rfl rfl (by decide) rfl (fun ls hl => ?_)
    refine lv_goto (tgt := 4) hx hb dX8_numbersOf_40 (by decide) ?_
    exact hnext4 _ (Option.some.inj h).symm H locs ls w (lv_sub hl [1, 2, 3, 0] rfl)
  intro H locs ls w hl
  have hl : lv_has ls 4 [(0, .ref v0), (1, .int v1), (2, .int t7), (3, .int t8)] := hl
  refine lv_iload_n hx hb dX8_numbersOf_4 rfl (lv_at hl 3 rfl) ?_
  refine lv_aload_n hx hb dX8_numbersOf_5 rfl (lv_at hl 0 rfl) ?_
  obtain ⟨x11, hx11, h⟩ := bs h
  refine o_gR C w hx11 fl_X8_8 dX8_numbersOf_6 ?_
  refine lv_iconst (v := 0) hx hb dX8_numbersOf_9 (by decide) ?_
  obtain ⟨x12, hx12, h⟩ := bs h
  refine o_ldI C w hx12 dX8_numbersOf_10 ?_
  refine lv_icmp_ge (tgt := 43) hx hb dX8_numbersOf_11 (by decide) (fun cc11 => ?_) (fun cc11 => ?_)
  · have h := it cc11 h
    exact hE4 _ (hend4 _ (Option.some.inj h).symm).symm H locs ls w (lv_sub hl [2] rfl)
  · have h := ie cc11 h
    refine lv_iload_n hx hb dX8_numbersOf_14 rfl (lv_at hl 1 rfl) ?_
    refine lv_iload_n hx hb dX8_numbersOf_15 rfl (lv_at hl 3 rfl) ?_
    refine lv_ishr hx hb dX8_numbersOf_16 ?_
    refine lv_iconst (v := 1) hx hb dX8_numbersOf_17 (by decide) ?_
    refine lv_iand hx hb dX8_numbersOf_18 ?_
    refine lv_iconst (v := 1) hx hb dX8_numbersOf_19 (by decide) ?_
    refine lv_icmp_ne (tgt := 37) hx hb dX8_numbersOf_20 (by decide) (fun cc20 => ?_) (fun cc20 => ?_)
    · have h := ie cc20 h
      exact hb37 _ _ h H locs ls w (lv_sub hl [0, 1, 2, 3] rfl)
    · have h := it cc20 h
      refine lv_iload_n hx hb dX8_numbersOf_23 rfl (lv_at hl 2 rfl) ?_
      refine lv_iconst (v := 1) hx hb dX8_numbersOf_24 (by decide) ?_
      refine lv_aload_n hx hb dX8_numbersOf_25 rfl (lv_at hl 0 rfl) ?_
      obtain ⟨x13, hx13, h⟩ := bs h
      refine o_gR C w hx13 fl_X8_8 dX8_numbersOf_26 ?_
      refine lv_bipush (v := 10) hx hb dX8_numbersOf_29 (by decide) ?_
      refine lv_iload_n hx hb dX8_numbersOf_31 rfl (lv_at hl 3 rfl) ?_
      refine lv_iadd hx hb dX8_numbersOf_32 ?_
      obtain ⟨x14, hx14, h⟩ := bs h
      refine o_ldI C w hx14 dX8_numbersOf_33 ?_
      refine lv_ishl hx hb dX8_numbersOf_34 ?_
      refine lv_ior hx hb dX8_numbersOf_35 ?_
      refine lv_istore_n (lv' := [(2, .int (t7 ||| ((1 : Int32) <<< (x14 &&& 31)))), (0, .ref v0), (1, .int v1), (3, .int t8)]) hx hb dX8_numbersOf_36 rfl hl (by decide) rfl (fun ls hl => ?_)
      exact hb37 _ _ h H locs ls w (lv_sub hl [1, 2, 0, 3] rfl)
set_option maxHeartbeats 4000000 in
set_option maxRecDepth 100000 in
theorem c_X8_numbersOf (l : Launch) (D : va_G) (G : Nat → ClassId) (L : List Nat) (S : PH) (v0 : Nat) (v1 : Int32) (r : Int32) (h : f_X8_numbersOf S v0 v1 = some r) : Met l yX8_numbersOf [Cond.code yX8_numbersOf cX8_numbersOf 4 (some .int)] ({ frames := 0, cells := 0, slots := 0, locals := 0 }) (va_Pc [.ref v0, .int v1] (PreU D G L S)) (Qi D G L r S) 0 0 (inL L) := by
  refine Met.ofW (cc := cX8_numbersOf) (maxL := 4) (ret := (some .int)) (by decide) rfl ?_
  intro p e s m args below meth c s₁ B hml hv
  obtain ⟨rfl, hpre⟩ := hv
  obtain ⟨C, w⟩ := o_ent (own := RX8) rfl B hml hpre
  have hl := lv_entry ([.ref v0, .int v1]) (n := 4) (Nat.le_of_ble_eq_true rfl)
  rw [lg_entry_eq]
  generalize (lg_sl ([.ref v0, .int v1]) ++ List.replicate (4 - (lg_sl ([.ref v0, .int v1])).length) Slot.unset).toArray = ls at hl ⊢
  exact w_X8_numbersOf C (fun _ h => h) ⟨Nat.zero_le _, Nat.zero_le _⟩  S v0 v1 r h (fun v H locs ls pc w hv hd => by subst hv; exact o_iret C w B.returns B.notSynchronized hd) _ _ _ w hl

def f_X8_begins (S : PH) (v0 : Nat) : Option (PH) :=
(pI S v0 8 2 (0 : Int32)).bind fun S1 =>
(pI S1 v0 8 3 (0 : Int32)).bind fun S2 =>
(pI S2 v0 8 4 (-1 : Int32)).bind fun S3 =>
(pI S3 v0 8 5 (-1 : Int32)).bind fun S4 =>
some S4
set_option maxHeartbeats 4000000 in
set_option maxRecDepth 100000 in
theorem w_X8_begins {p : Program} {l : Launch} {e : Env} {R : Room} {s : State} {m : MethodId} {args : Array Value} {below : List Frame} {meth : Method} {c : Code} {cells slots : Nat} {Q : State → Prop} {D : va_G} {G : Nat → ClassId} {L : List Nat} {A : Nat → Prop} {H0 : Heap} (C : CX p s m c args D G cX8_begins 1 RX8) (hLA : ∀ q ∈ L, A q) (hcs : cells ≤ R.cells ∧ slots ≤ R.slots)  (S : PH) (v0 : Nat) (r : PH) (h : f_X8_begins S v0 = some r) (hret : ∀ (S9 : PH) (H : Heap) (locs : List Loc) (ls : Array Slot) (pc : Nat), Wd D G L A H0 S9 H locs → S9 = r → decode cX8_begins pc = .ok (.return_, 1) → W p l e R s m args below meth c H locs cells slots Q (F0 m pc ls [])) : ∀ (H : Heap) (locs : List Loc) (ls : Array Slot), Wd D G L A H0 S H locs → lv_has ls 1 [(0, .ref v0)] → W p l e R s m args below meth c H locs cells slots Q (F0 m 0 ls []) := by
  have hx := C.1.1
  have hb := C.1.2.1
  unfold f_X8_begins at h
  intro H locs ls w hl
  refine lv_aload_n hx hb dX8_begins_0 rfl (lv_at hl 0 rfl) ?_
  refine lv_iconst (v := 0) hx hb dX8_begins_1 (by decide) ?_
  obtain ⟨S1, hS1, h⟩ := bs h
  refine o_pF C w hS1 fp_X8_64 rfl rfl dX8_begins_2 (fun H locs w => ?_)
  refine lv_aload_n hx hb dX8_begins_5 rfl (lv_at hl 0 rfl) ?_
  refine lv_iconst (v := 0) hx hb dX8_begins_6 (by decide) ?_
  obtain ⟨S2, hS2, h⟩ := bs h
  refine o_pF C w hS2 fp_X8_68 rfl rfl dX8_begins_7 (fun H locs w => ?_)
  refine lv_aload_n hx hb dX8_begins_10 rfl (lv_at hl 0 rfl) ?_
  refine lv_iconst (v := -1) hx hb dX8_begins_11 (by decide) ?_
  obtain ⟨S3, hS3, h⟩ := bs h
  refine o_pF C w hS3 fp_X8_71 rfl rfl dX8_begins_12 (fun H locs w => ?_)
  refine lv_aload_n hx hb dX8_begins_15 rfl (lv_at hl 0 rfl) ?_
  refine lv_iconst (v := -1) hx hb dX8_begins_16 (by decide) ?_
  obtain ⟨S4, hS4, h⟩ := bs h
  refine o_pF C w hS4 fp_X8_74 rfl rfl dX8_begins_17 (fun H locs w => ?_)
  exact hret _ _ _ _ _ w (Option.some.inj h) dX8_begins_20
set_option maxHeartbeats 4000000 in
set_option maxRecDepth 100000 in
theorem c_X8_begins (l : Launch) (D : va_G) (G : Nat → ClassId) (L : List Nat) (S : PH) (v0 : Nat) (r : PH) (h : f_X8_begins S v0 = some r) : Met l yX8_begins [Cond.code yX8_begins cX8_begins 1 none] ({ frames := 0, cells := 0, slots := 0, locals := 0 }) (va_Pc [.ref v0] (PreU D G L S)) (Qv D G L r) 0 0 (inL L) := by
  refine Met.ofW (cc := cX8_begins) (maxL := 1) (ret := none) (by decide) rfl ?_
  intro p e s m args below meth c s₁ B hml hv
  obtain ⟨rfl, hpre⟩ := hv
  obtain ⟨C, w⟩ := o_ent (own := RX8) rfl B hml hpre
  have hl := lv_entry ([.ref v0]) (n := 1) (Nat.le_of_ble_eq_true rfl)
  rw [lg_entry_eq]
  generalize (lg_sl ([.ref v0]) ++ List.replicate (1 - (lg_sl ([.ref v0])).length) Slot.unset).toArray = ls at hl ⊢
  exact w_X8_begins C (fun _ h => h) ⟨Nat.zero_le _, Nat.zero_le _⟩  S v0 r h (fun S9 H locs ls pc w hv hd => by subst hv; exact o_vret C w B.returns B.notSynchronized hd) _ _ _ w hl

def f_X8_takes_b73 (S : PH) (s0 : Nat) (s1 : Int32) : Option (PH) :=
(pI S s0 8 5 s1).bind fun S1 =>
some S1
def f_X8_takes_b65 (S : PH) (v1 : Int32) (s0 : Nat) : Option (PH) :=
f_X8_takes_b73 S s0 v1
def f_X8_takes_b46 (S : PH) (v0 : Nat) (v1 : Int32) (s0 : Nat) (s1 : Int32) : Option (PH) :=
(pI S s0 8 4 s1).bind fun S2 =>
(gI S2 v0 8 5).bind fun x3 =>
if x3 < 0 then (
f_X8_takes_b65 S2 v1 v0)
else (
(gI S2 v0 8 5).bind fun x4 =>
if x4 ≤ v1 then (
(gI S2 v0 8 5).bind fun x5 =>
f_X8_takes_b73 S2 v0 x5)
else (
f_X8_takes_b65 S2 v1 v0))
def f_X8_takes_b25 (S : PH) (v0 : Nat) (v1 : Int32) (s0 : Nat) (s1 : Int32) (s2 : Int32) : Option (PH) :=
(pI S s0 8 3 (s1 + s2)).bind fun S6 =>
(gI S6 v0 8 4).bind fun x7 =>
if v1 ≤ x7 then (
(gI S6 v0 8 4).bind fun x8 =>
f_X8_takes_b46 S6 v0 v1 v0 x8)
else (
f_X8_takes_b46 S6 v0 v1 v0 v1)
def f_X8_takes (S : PH) (v0 : Nat) (v1 : Int32) (v2 : Int32) : Option (PH) :=
(gI S v0 8 2).bind fun x9 =>
(pI S v0 8 2 (x9 + v1)).bind fun S10 =>
(gI S10 v0 8 3).bind fun x11 =>
if v1 < v2 then (
f_X8_takes_b25 S10 v0 v1 v0 x11 (0 : Int32))
else (
f_X8_takes_b25 S10 v0 v1 v0 x11 (1 : Int32))
set_option maxHeartbeats 4000000 in
set_option maxRecDepth 100000 in
theorem w_X8_takes {p : Program} {l : Launch} {e : Env} {R : Room} {s : State} {m : MethodId} {args : Array Value} {below : List Frame} {meth : Method} {c : Code} {cells slots : Nat} {Q : State → Prop} {D : va_G} {G : Nat → ClassId} {L : List Nat} {A : Nat → Prop} {H0 : Heap} (C : CX p s m c args D G cX8_takes 3 RX8) (hLA : ∀ q ∈ L, A q) (hcs : cells ≤ R.cells ∧ slots ≤ R.slots)  (S : PH) (v0 : Nat) (v1 : Int32) (v2 : Int32) (r : PH) (h : f_X8_takes S v0 v1 v2 = some r) (hret : ∀ (S9 : PH) (H : Heap) (locs : List Loc) (ls : Array Slot) (pc : Nat), Wd D G L A H0 S9 H locs → S9 = r → decode cX8_takes pc = .ok (.return_, 1) → W p l e R s m args below meth c H locs cells slots Q (F0 m pc ls [])) : ∀ (H : Heap) (locs : List Loc) (ls : Array Slot), Wd D G L A H0 S H locs → lv_has ls 3 [(0, .ref v0), (1, .int v1), (2, .int v2)] → W p l e R s m args below meth c H locs cells slots Q (F0 m 0 ls []) := by
  have hx := C.1.1
  have hb := C.1.2.1
  unfold f_X8_takes at h
  have hb73 : ∀ (S12 : PH) (u13 : Nat) (u14 : Int32), f_X8_takes_b73 S12 u13 u14 = some r → ∀ (H : Heap) (locs : List Loc) (ls : Array Slot), Wd D G L A H0 S12 H locs → lv_has ls 3 [] → W p l e R s m args below meth c H locs cells slots Q (F0 m 73 ls [.int u14, .ref u13]) := by
    intro S12 u13 u14 h H locs ls w hl
    unfold f_X8_takes_b73 at h
    obtain ⟨S15, hS15, h⟩ := bs h
    refine o_pF C w hS15 fp_X8_74 rfl rfl dX8_takes_73 (fun H locs w => ?_)
    exact hret _ _ _ _ _ w (Option.some.inj h) dX8_takes_76
  have hb65 : ∀ (S16 : PH) (u17 : Int32) (u18 : Nat), f_X8_takes_b65 S16 u17 u18 = some r → ∀ (H : Heap) (locs : List Loc) (ls : Array Slot), Wd D G L A H0 S16 H locs → lv_has ls 3 [(1, .int u17)] → W p l e R s m args below meth c H locs cells slots Q (F0 m 65 ls [.ref u18]) := by
    intro S16 u17 u18 h H locs ls w hl
    unfold f_X8_takes_b65 at h
    refine lv_iload_n hx hb dX8_takes_65 rfl (lv_at hl 0 rfl) ?_
    refine lv_goto (tgt := 73) hx hb dX8_takes_66 (by decide) ?_
    exact hb73 _ _ _ h H locs ls w (lv_sub hl [] rfl)
  have hb46 : ∀ (S19 : PH) (u20 : Nat) (u21 : Int32) (u22 : Nat) (u23 : Int32), f_X8_takes_b46 S19 u20 u21 u22 u23 = some r → ∀ (H : Heap) (locs : List Loc) (ls : Array Slot), Wd D G L A H0 S19 H locs → lv_has ls 3 [(0, .ref u20), (1, .int u21)] → W p l e R s m args below meth c H locs cells slots Q (F0 m 46 ls [.int u23, .ref u22]) := by
    intro S19 u20 u21 u22 u23 h H locs ls w hl
    unfold f_X8_takes_b46 at h
    obtain ⟨S24, hS24, h⟩ := bs h
    refine o_pF C w hS24 fp_X8_71 rfl rfl dX8_takes_46 (fun H locs w => ?_)
    refine lv_aload_n hx hb dX8_takes_49 rfl (lv_at hl 0 rfl) ?_
    refine lv_aload_n hx hb dX8_takes_50 rfl (lv_at hl 0 rfl) ?_
    obtain ⟨x25, hx25, h⟩ := bs h
    refine o_gI C w hx25 fl_X8_74 dX8_takes_51 ?_
    refine lv_if_lt (tgt := 65) hx hb dX8_takes_54 (by decide) (fun cc54 => ?_) (fun cc54 => ?_)
    · have h := it cc54 h
      exact hb65 _ _ _ h H locs ls w (lv_sub hl [1] rfl)
    · have h := ie cc54 h
      refine lv_iload_n hx hb dX8_takes_57 rfl (lv_at hl 1 rfl) ?_
      refine lv_aload_n hx hb dX8_takes_58 rfl (lv_at hl 0 rfl) ?_
      obtain ⟨x26, hx26, h⟩ := bs h
      refine o_gI C w hx26 fl_X8_74 dX8_takes_59 ?_
      refine lv_icmp_ge (tgt := 69) hx hb dX8_takes_62 (by decide) (fun cc62 => ?_) (fun cc62 => ?_)
      · have h := it cc62 h
        refine lv_aload_n hx hb dX8_takes_69 rfl (lv_at hl 0 rfl) ?_
        obtain ⟨x27, hx27, h⟩ := bs h
        refine o_gI C w hx27 fl_X8_74 dX8_takes_70 ?_
        exact hb73 _ _ _ h H locs ls w (lv_sub hl [] rfl)
      · have h := ie cc62 h
        exact hb65 _ _ _ h H locs ls w (lv_sub hl [1] rfl)
  have hb25 : ∀ (S28 : PH) (u29 : Nat) (u30 : Int32) (u31 : Nat) (u32 : Int32) (u33 : Int32), f_X8_takes_b25 S28 u29 u30 u31 u32 u33 = some r → ∀ (H : Heap) (locs : List Loc) (ls : Array Slot), Wd D G L A H0 S28 H locs → lv_has ls 3 [(0, .ref u29), (1, .int u30)] → W p l e R s m args below meth c H locs cells slots Q (F0 m 25 ls [.int u33, .int u32, .ref u31]) := by
    intro S28 u29 u30 u31 u32 u33 h H locs ls w hl
    unfold f_X8_takes_b25 at h
    refine lv_iadd hx hb dX8_takes_25 ?_
    obtain ⟨S34, hS34, h⟩ := bs h
    refine o_pF C w hS34 fp_X8_68 rfl rfl dX8_takes_26 (fun H locs w => ?_)
    refine lv_aload_n hx hb dX8_takes_29 rfl (lv_at hl 0 rfl) ?_
    refine lv_iload_n hx hb dX8_takes_30 rfl (lv_at hl 1 rfl) ?_
    refine lv_aload_n hx hb dX8_takes_31 rfl (lv_at hl 0 rfl) ?_
    obtain ⟨x35, hx35, h⟩ := bs h
    refine o_gI C w hx35 fl_X8_71 dX8_takes_32 ?_
    refine lv_icmp_le (tgt := 42) hx hb dX8_takes_35 (by decide) (fun cc35 => ?_) (fun cc35 => ?_)
    · have h := it cc35 h
      refine lv_aload_n hx hb dX8_takes_42 rfl (lv_at hl 0 rfl) ?_
      obtain ⟨x36, hx36, h⟩ := bs h
      refine o_gI C w hx36 fl_X8_71 dX8_takes_43 ?_
      exact hb46 _ _ _ _ _ h H locs ls w (lv_sub hl [0, 1] rfl)
    · have h := ie cc35 h
      refine lv_iload_n hx hb dX8_takes_38 rfl (lv_at hl 1 rfl) ?_
      refine lv_goto (tgt := 46) hx hb dX8_takes_39 (by decide) ?_
      exact hb46 _ _ _ _ _ h H locs ls w (lv_sub hl [0, 1] rfl)
  intro H locs ls w hl
  refine lv_aload_n hx hb dX8_takes_0 rfl (lv_at hl 0 rfl) ?_
  refine lv_dup hx hb dX8_takes_1 rfl ?_
  obtain ⟨x9, hx9, h⟩ := bs h
  refine o_gI C w hx9 fl_X8_64 dX8_takes_2 ?_
  refine lv_iload_n hx hb dX8_takes_5 rfl (lv_at hl 1 rfl) ?_
  refine lv_iadd hx hb dX8_takes_6 ?_
  obtain ⟨S10, hS10, h⟩ := bs h
  refine o_pF C w hS10 fp_X8_64 rfl rfl dX8_takes_7 (fun H locs w => ?_)
  refine lv_aload_n hx hb dX8_takes_10 rfl (lv_at hl 0 rfl) ?_
  refine lv_dup hx hb dX8_takes_11 rfl ?_
  obtain ⟨x11, hx11, h⟩ := bs h
  refine o_gI C w hx11 fl_X8_68 dX8_takes_12 ?_
  refine lv_iload_n hx hb dX8_takes_15 rfl (lv_at hl 1 rfl) ?_
  refine lv_iload_n hx hb dX8_takes_16 rfl (lv_at hl 2 rfl) ?_
  refine lv_icmp_lt (tgt := 24) hx hb dX8_takes_17 (by decide) (fun cc17 => ?_) (fun cc17 => ?_)
  · have h := it cc17 h
    refine lv_iconst (v := 0) hx hb dX8_takes_24 (by decide) ?_
    exact hb25 _ _ _ _ _ _ h H locs ls w (lv_sub hl [0, 1] rfl)
  · have h := ie cc17 h
    refine lv_iconst (v := 1) hx hb dX8_takes_20 (by decide) ?_
    refine lv_goto (tgt := 25) hx hb dX8_takes_21 (by decide) ?_
    exact hb25 _ _ _ _ _ _ h H locs ls w (lv_sub hl [0, 1] rfl)
set_option maxHeartbeats 4000000 in
set_option maxRecDepth 100000 in
theorem c_X8_takes (l : Launch) (D : va_G) (G : Nat → ClassId) (L : List Nat) (S : PH) (v0 : Nat) (v1 : Int32) (v2 : Int32) (r : PH) (h : f_X8_takes S v0 v1 v2 = some r) : Met l yX8_takes [Cond.code yX8_takes cX8_takes 3 none] ({ frames := 0, cells := 0, slots := 0, locals := 0 }) (va_Pc [.ref v0, .int v1, .int v2] (PreU D G L S)) (Qv D G L r) 0 0 (inL L) := by
  refine Met.ofW (cc := cX8_takes) (maxL := 3) (ret := none) (by decide) rfl ?_
  intro p e s m args below meth c s₁ B hml hv
  obtain ⟨rfl, hpre⟩ := hv
  obtain ⟨C, w⟩ := o_ent (own := RX8) rfl B hml hpre
  have hl := lv_entry ([.ref v0, .int v1, .int v2]) (n := 3) (Nat.le_of_ble_eq_true rfl)
  rw [lg_entry_eq]
  generalize (lg_sl ([.ref v0, .int v1, .int v2]) ++ List.replicate (3 - (lg_sl ([.ref v0, .int v1, .int v2])).length) Slot.unset).toArray = ls at hl ⊢
  exact w_X8_takes C (fun _ h => h) ⟨Nat.zero_le _, Nat.zero_le _⟩  S v0 v1 v2 r h (fun S9 H locs ls pc w hv hd => by subst hv; exact o_vret C w B.returns B.notSynchronized hd) _ _ _ w hl

def f_X8_answer (S : PH) (v0 : Nat) (v1 : Int32) (v2 : Int32) : Option (Int32) :=
if v1 = 0 then (
(gI S v0 8 2).bind fun x1 =>
(dvI x1 v2).bind fun x2 =>
some (x2 * v2))
else if v1 = 1 then (
(gI S v0 8 3).bind fun x3 =>
some x3)
else if v1 = 2 then (
(gI S v0 8 4).bind fun x4 =>
if 0 ≤ x4 then (
(gI S v0 8 4).bind fun x5 =>
some x5)
else (
some (0 : Int32)))
else (
(gI S v0 8 5).bind fun x6 =>
if 0 ≤ x6 then (
(gI S v0 8 5).bind fun x7 =>
some x7)
else (
some (0 : Int32)))
set_option maxHeartbeats 4000000 in
set_option maxRecDepth 100000 in
theorem w_X8_answer {p : Program} {l : Launch} {e : Env} {R : Room} {s : State} {m : MethodId} {args : Array Value} {below : List Frame} {meth : Method} {c : Code} {cells slots : Nat} {Q : State → Prop} {D : va_G} {G : Nat → ClassId} {L : List Nat} {A : Nat → Prop} {H0 : Heap} (C : CX p s m c args D G cX8_answer 3 RX8) (hLA : ∀ q ∈ L, A q) (hcs : cells ≤ R.cells ∧ slots ≤ R.slots)  (S : PH) (v0 : Nat) (v1 : Int32) (v2 : Int32) (r : Int32) (h : f_X8_answer S v0 v1 v2 = some r) (hret : ∀ (v : Int32) (H : Heap) (locs : List Loc) (ls : Array Slot) (pc : Nat), Wd D G L A H0 S H locs → v = r → decode cX8_answer pc = .ok (.ireturn, 1) → W p l e R s m args below meth c H locs cells slots Q (F0 m pc ls [.int v])) : ∀ (H : Heap) (locs : List Loc) (ls : Array Slot), Wd D G L A H0 S H locs → lv_has ls 3 [(0, .ref v0), (1, .int v1), (2, .int v2)] → W p l e R s m args below meth c H locs cells slots Q (F0 m 0 ls []) := by
  have hx := C.1.1
  have hb := C.1.2.1
  unfold f_X8_answer at h
  intro H locs ls w hl
  refine lv_iload_n hx hb dX8_answer_0 rfl (lv_at hl 1 rfl) ?_
  by_cases cw1_0 : v1 = 0
  · have h := it cw1_0 h
    refine o_sw0 C 0 cw1_0 dX8_answer_1 (by decide) (by decide) rfl (tgt := 28) (by decide) ?_
    refine lv_aload_n hx hb dX8_answer_28 rfl (lv_at hl 0 rfl) ?_
    obtain ⟨x1, hx1, h⟩ := bs h
    refine o_gI C w hx1 fl_X8_64 dX8_answer_29 ?_
    refine lv_iload_n hx hb dX8_answer_32 rfl (lv_at hl 2 rfl) ?_
    obtain ⟨x2, hx2, h⟩ := bs h
    refine o_dv C hx2 dX8_answer_33 ?_
    refine lv_iload_n hx hb dX8_answer_34 rfl (lv_at hl 2 rfl) ?_
    refine lv_imul hx hb dX8_answer_35 ?_
    exact hret _ _ _ _ _ w (Option.some.inj h) dX8_answer_36
  have h := ie cw1_0 h
  by_cases cw1_1 : v1 = 1
  · have h := it cw1_1 h
    refine o_sw0 C 1 cw1_1 dX8_answer_1 (by decide) (by decide) rfl (tgt := 37) (by decide) ?_
    refine lv_aload_n hx hb dX8_answer_37 rfl (lv_at hl 0 rfl) ?_
    obtain ⟨x3, hx3, h⟩ := bs h
    refine o_gI C w hx3 fl_X8_68 dX8_answer_38 ?_
    exact hret _ _ _ _ _ w (Option.some.inj h) dX8_answer_41
  have h := ie cw1_1 h
  by_cases cw1_2 : v1 = 2
  · have h := it cw1_2 h
    refine o_sw0 C 2 cw1_2 dX8_answer_1 (by decide) (by decide) rfl (tgt := 42) (by decide) ?_
    refine lv_aload_n hx hb dX8_answer_42 rfl (lv_at hl 0 rfl) ?_
    obtain ⟨x4, hx4, h⟩ := bs h
    refine o_gI C w hx4 fl_X8_71 dX8_answer_43 ?_
    refine lv_if_ge (tgt := 53) hx hb dX8_answer_46 (by decide) (fun cc46 => ?_) (fun cc46 => ?_)
    · have h := it cc46 h
      refine lv_aload_n hx hb dX8_answer_53 rfl (lv_at hl 0 rfl) ?_
      obtain ⟨x5, hx5, h⟩ := bs h
      refine o_gI C w hx5 fl_X8_71 dX8_answer_54 ?_
      exact hret _ _ _ _ _ w (Option.some.inj h) dX8_answer_57
    · have h := ie cc46 h
      refine lv_iconst (v := 0) hx hb dX8_answer_49 (by decide) ?_
      refine lv_goto (tgt := 57) hx hb dX8_answer_50 (by decide) ?_
      exact hret _ _ _ _ _ w (Option.some.inj h) dX8_answer_57
  have h := ie cw1_2 h
  have cx0 := lv_neT (k := 0) (a := 0) cw1_0 (by decide)
  have cx1 := lv_neT (k := 1) (a := 1) cw1_1 (by decide)
  have cx2 := lv_neT (k := 2) (a := 2) cw1_2 (by decide)
  refine lv_tableOut (tgt := 58) hx hb dX8_answer_1 (by omega) (by decide) ?_
  refine lv_aload_n hx hb dX8_answer_58 rfl (lv_at hl 0 rfl) ?_
  obtain ⟨x6, hx6, h⟩ := bs h
  refine o_gI C w hx6 fl_X8_74 dX8_answer_59 ?_
  refine lv_if_ge (tgt := 69) hx hb dX8_answer_62 (by decide) (fun cc62 => ?_) (fun cc62 => ?_)
  · have h := it cc62 h
    refine lv_aload_n hx hb dX8_answer_69 rfl (lv_at hl 0 rfl) ?_
    obtain ⟨x7, hx7, h⟩ := bs h
    refine o_gI C w hx7 fl_X8_74 dX8_answer_70 ?_
    exact hret _ _ _ _ _ w (Option.some.inj h) dX8_answer_73
  · have h := ie cc62 h
    refine lv_iconst (v := 0) hx hb dX8_answer_65 (by decide) ?_
    refine lv_goto (tgt := 73) hx hb dX8_answer_66 (by decide) ?_
    exact hret _ _ _ _ _ w (Option.some.inj h) dX8_answer_73
set_option maxHeartbeats 4000000 in
set_option maxRecDepth 100000 in
theorem c_X8_answer (l : Launch) (D : va_G) (G : Nat → ClassId) (L : List Nat) (S : PH) (v0 : Nat) (v1 : Int32) (v2 : Int32) (r : Int32) (h : f_X8_answer S v0 v1 v2 = some r) : Met l yX8_answer [Cond.code yX8_answer cX8_answer 3 (some .int)] ({ frames := 0, cells := 0, slots := 0, locals := 0 }) (va_Pc [.ref v0, .int v1, .int v2] (PreU D G L S)) (Qi D G L r S) 0 0 (inL L) := by
  refine Met.ofW (cc := cX8_answer) (maxL := 3) (ret := (some .int)) (by decide) rfl ?_
  intro p e s m args below meth c s₁ B hml hv
  obtain ⟨rfl, hpre⟩ := hv
  obtain ⟨C, w⟩ := o_ent (own := RX8) rfl B hml hpre
  have hl := lv_entry ([.ref v0, .int v1, .int v2]) (n := 3) (Nat.le_of_ble_eq_true rfl)
  rw [lg_entry_eq]
  generalize (lg_sl ([.ref v0, .int v1, .int v2]) ++ List.replicate (3 - (lg_sl ([.ref v0, .int v1, .int v2])).length) Slot.unset).toArray = ls at hl ⊢
  exact w_X8_answer C (fun _ h => h) ⟨Nat.zero_le _, Nat.zero_le _⟩  S v0 v1 v2 r h (fun v H locs ls pc w hv hd => by subst hv; exact o_iret C w B.returns B.notSynchronized hd) _ _ _ w hl

def f_X8_answerIn_b41 (S : PH) (v0 : Nat) (v1 : Int32) (v3 : Int32) (v4 : Int32) (v5 : Int32) : Option ((Int32 × PH) ⊕ (PH)) :=
some (.inl ((v5 + 1), S))
def f_X8_answerIn_L7 (S : PH) (v0 : Nat) (v1 : Int32) (v3 : Int32) (v4 : Int32) (v5 : Int32) : Option ((Int32 × PH) ⊕ (PH)) :=
(gR S v0 8 0).bind fun x2 =>
(ldI S x2 (1 : Int32)).bind fun x3 =>
if x3 ≤ v5 then (
some (.inr S))
else (
if ((v3 >>> (v5 &&& 31)) &&& (1 : Int32)) = (1 : Int32) then (
(ckO S v0 8).bind fun _ =>
(f_X8_valueIn S v0 v1 v5).bind fun x4 =>
(ckO S v0 8).bind fun _ =>
(f_X8_takes S v0 x4 v4).bind fun S5 =>
f_X8_answerIn_b41 S5 v0 v1 v3 v4 v5)
else (
f_X8_answerIn_b41 S v0 v1 v3 v4 v5))
def f_X8_answerIn (S : PH) (v0 : Nat) (v1 : Int32) (v2 : Int32) (v3 : Int32) (v4 : Int32) : Option (Int32 × PH) :=
(ckO S v0 8).bind fun _ =>
(f_X8_begins S v0).bind fun S1 =>
(lpo (fun x : Int32 × PH => f_X8_answerIn_L7 x.2 v0 v1 v3 v4 x.1) FU ((0 : Int32), S1)).bind fun S6 =>
(ckO S6 v0 8).bind fun _ =>
(f_X8_answer S6 v0 v2 v4).bind fun x7 =>
some (x7, S6)
set_option maxHeartbeats 4000000 in
set_option maxRecDepth 100000 in
theorem w_X8_answerIn {p : Program} {l : Launch} {e : Env} {R : Room} {s : State} {m : MethodId} {args : Array Value} {below : List Frame} {meth : Method} {c : Code} {cells slots : Nat} {Q : State → Prop} {D : va_G} {G : Nat → ClassId} {L : List Nat} {A : Nat → Prop} {H0 : Heap} (C : CX p s m c args D G cX8_answerIn 6 RX8) (hLA : ∀ q ∈ L, A q) (hcs : cells ≤ R.cells ∧ slots ≤ R.slots) (hR_X8_begins : RoomOk R ({ frames := 0, cells := 0, slots := 0, locals := 0 }) 1) (hR_X8_valueIn : RoomOk R ({ frames := 2, cells := 0, slots := 0, locals := 43 }) 3) (hR_X8_takes : RoomOk R ({ frames := 0, cells := 0, slots := 0, locals := 0 }) 3) (hR_X8_answer : RoomOk R ({ frames := 0, cells := 0, slots := 0, locals := 0 }) 3) (S : PH) (v0 : Nat) (v1 : Int32) (v2 : Int32) (v3 : Int32) (v4 : Int32) (r : Int32 × PH) (h : f_X8_answerIn S v0 v1 v2 v3 v4 = some r) (hret : ∀ (v : Int32) (S9 : PH) (H : Heap) (locs : List Loc) (ls : Array Slot) (pc : Nat), Wd D G L A H0 S9 H locs → (v, S9) = r → decode cX8_answerIn pc = .ok (.ireturn, 1) → W p l e R s m args below meth c H locs cells slots Q (F0 m pc ls [.int v])) : ∀ (H : Heap) (locs : List Loc) (ls : Array Slot), Wd D G L A H0 S H locs → lv_has ls 6 [(0, .ref v0), (1, .int v1), (2, .int v2), (3, .int v3), (4, .int v4)] → W p l e R s m args below meth c H locs cells slots Q (F0 m 0 ls []) := by
  have hx := C.1.1
  have hb := C.1.2.1
  unfold f_X8_answerIn at h
  intro H locs ls w hl
  refine lv_aload_n hx hb dX8_answerIn_0 rfl (lv_at hl 0 rfl) ?_
  obtain ⟨_, ho, h⟩ := bs h
  obtain ⟨S1, hc, h⟩ := bs h
  refine o_backv w hLA (o_runV (As := []) (rest := []) C w (c_X8_begins l D G L S v0 S1 hc) ml_X8_77 mv_X8_begins hR_X8_begins ho rfl hl.1 rfl (Nat.le_of_ble_eq_true rfl) dX8_answerIn_1 hcs) (fun H locs w => ?_)
  refine lv_iconst (v := 0) hx hb dX8_answerIn_4 (by decide) ?_
  refine lv_istore (lv' := [(5, .int (0 : Int32)), (0, .ref v0), (1, .int v1), (2, .int v2), (3, .int v3), (4, .int v4)]) hx hb dX8_answerIn_5 hl (by decide) rfl (fun ls hl => ?_)
  obtain ⟨S6, hL7, h⟩ := bs h
  have hE7 : ∀ (q8 : PH), S6 = q8 → ∀ (H : Heap) (locs : List Loc) (ls : Array Slot), Wd D G L A H0 q8 H locs → lv_has ls 6 [(0, .ref v0), (2, .int v2), (4, .int v4)] → W p l e R s m args below meth c H locs cells slots Q (F0 m 47 ls []) := by
    intro q8 he
    cases he
    intro H locs ls w hl
    refine lv_aload_n hx hb dX8_answerIn_47 rfl (lv_at hl 0 rfl) ?_
    refine lv_iload_n hx hb dX8_answerIn_48 rfl (lv_at hl 1 rfl) ?_
    refine lv_iload hx hb dX8_answerIn_49 (lv_at hl 2 rfl) ?_
    obtain ⟨_, ho, h⟩ := bs h
    obtain ⟨x7, hc, h⟩ := bs h
    refine o_backi w hLA (o_runV (As := [.int v2, .int v4]) (rest := []) C w (c_X8_answer l D G L S6 v0 v2 v4 x7 hc) ml_X8_87 mv_X8_answer hR_X8_answer ho rfl hl.1 rfl (Nat.le_of_ble_eq_true rfl) dX8_answerIn_51 hcs) (fun H locs w => ?_)
    exact hret _ _ _ _ _ _ w (Option.some.inj h) dX8_answerIn_54
  refine lpo_W (P := fun x : Int32 × PH => ∀ (H : Heap) (locs : List Loc) (ls : Array Slot), Wd D G L A H0 x.2 H locs → lv_has ls 6 [(0, .ref v0), (1, .int v1), (2, .int v2), (3, .int v3), (4, .int v4), (5, .int x.1)] → W p l e R s m args below meth c H locs cells slots Q (F0 m 7 ls [])) ?_ FU _ hL7 H locs ls w (lv_sub hl [1, 2, 3, 4, 5, 0] rfl)
  intro x y7 h hnext7 hend7
  obtain ⟨t9, S10⟩ := x
  have h : f_X8_answerIn_L7 S10 v0 v1 v3 v4 t9 = some y7 := h
  unfold f_X8_answerIn_L7 at h
  have hb41 : ∀ (S11 : PH) (u12 : Int32), f_X8_answerIn_b41 S11 v0 v1 v3 v4 u12 = some y7 → ∀ (H : Heap) (locs : List Loc) (ls : Array Slot), Wd D G L A H0 S11 H locs → lv_has ls 6 [(0, .ref v0), (1, .int v1), (2, .int v2), (3, .int v3), (4, .int v4), (5, .int u12)] → W p l e R s m args below meth c H locs cells slots Q (F0 m 41 ls []) := by
    intro S11 u12 h H locs ls w hl
    unfold f_X8_answerIn_b41 at h
    refine lv_iinc (v := (u12 + 1)) (lv' := [(5, .int (u12 + 1)), (0, .ref v0), (1, .int v1), (2, .int v2), (3, .int v3), (4, .int v4)]) hx hb dX8_answerIn_41 hl (k := 5) rfl rfl (by decide) rfl (fun ls hl => ?_)
    refine lv_goto (tgt := 7) hx hb dX8_answerIn_44 (by decide) ?_
    exact hnext7 _ (Option.some.inj h).symm H locs ls w (lv_sub hl [1, 2, 3, 4, 5, 0] rfl)
  intro H locs ls w hl
  have hl : lv_has ls 6 [(0, .ref v0), (1, .int v1), (2, .int v2), (3, .int v3), (4, .int v4), (5, .int t9)] := hl
  have w : Wd D G L A H0 S10 H locs := w
  refine lv_iload hx hb dX8_answerIn_7 (lv_at hl 5 rfl) ?_
  refine lv_aload_n hx hb dX8_answerIn_9 rfl (lv_at hl 0 rfl) ?_
  obtain ⟨x13, hx13, h⟩ := bs h
  refine o_gR C w hx13 fl_X8_8 dX8_answerIn_10 ?_
  refine lv_iconst (v := 1) hx hb dX8_answerIn_13 (by decide) ?_
  obtain ⟨x14, hx14, h⟩ := bs h
  refine o_ldI C w hx14 dX8_answerIn_14 ?_
  refine lv_icmp_ge (tgt := 47) hx hb dX8_answerIn_15 (by decide) (fun cc15 => ?_) (fun cc15 => ?_)
  · have h := it cc15 h
    exact hE7 _ (hend7 _ (Option.some.inj h).symm).symm H locs ls w (lv_sub hl [0, 2, 4] rfl)
  · have h := ie cc15 h
    refine lv_iload_n hx hb dX8_answerIn_18 rfl (lv_at hl 3 rfl) ?_
    refine lv_iload hx hb dX8_answerIn_19 (lv_at hl 5 rfl) ?_
    refine lv_ishr hx hb dX8_answerIn_21 ?_
    refine lv_iconst (v := 1) hx hb dX8_answerIn_22 (by decide) ?_
    refine lv_iand hx hb dX8_answerIn_23 ?_
    refine lv_iconst (v := 1) hx hb dX8_answerIn_24 (by decide) ?_
    refine lv_icmp_ne (tgt := 41) hx hb dX8_answerIn_25 (by decide) (fun cc25 => ?_) (fun cc25 => ?_)
    · have h := ie cc25 h
      exact hb41 _ _ h H locs ls w (lv_sub hl [0, 1, 2, 3, 4, 5] rfl)
    · have h := it cc25 h
      refine lv_aload_n hx hb dX8_answerIn_28 rfl (lv_at hl 0 rfl) ?_
      refine lv_aload_n hx hb dX8_answerIn_29 rfl (lv_at hl 0 rfl) ?_
      refine lv_iload_n hx hb dX8_answerIn_30 rfl (lv_at hl 1 rfl) ?_
      refine lv_iload hx hb dX8_answerIn_31 (lv_at hl 5 rfl) ?_
      obtain ⟨_, ho, h⟩ := bs h
      obtain ⟨x15, hc, h⟩ := bs h
      refine o_backi w hLA (o_runV (As := [.int v1, .int t9]) (rest := [.ref v0]) C w (c_X8_valueIn l D G L S10 v0 v1 t9 x15 hc) ml_X8_80 mv_X8_valueIn hR_X8_valueIn ho rfl hl.1 rfl (Nat.le_of_ble_eq_true rfl) dX8_answerIn_33 hcs) (fun H locs w => ?_)
      refine lv_iload hx hb dX8_answerIn_36 (lv_at hl 4 rfl) ?_
      obtain ⟨_, ho, h⟩ := bs h
      obtain ⟨S16, hc, h⟩ := bs h
      refine o_backv w hLA (o_runV (As := [.int x15, .int v4]) (rest := []) C w (c_X8_takes l D G L S10 v0 x15 v4 S16 hc) ml_X8_83 mv_X8_takes hR_X8_takes ho rfl hl.1 rfl (Nat.le_of_ble_eq_true rfl) dX8_answerIn_38 hcs) (fun H locs w => ?_)
      exact hb41 _ _ h H locs ls w (lv_sub hl [0, 1, 2, 3, 4, 5] rfl)
set_option maxHeartbeats 4000000 in
set_option maxRecDepth 100000 in
theorem c_X8_answerIn (l : Launch) (D : va_G) (G : Nat → ClassId) (L : List Nat) (S : PH) (v0 : Nat) (v1 : Int32) (v2 : Int32) (v3 : Int32) (v4 : Int32) (r : Int32 × PH) (h : f_X8_answerIn S v0 v1 v2 v3 v4 = some r) : Met l yX8_answerIn [Cond.code yX8_answerIn cX8_answerIn 6 (some .int)] ({ frames := 3, cells := 0, slots := 0, locals := 65 }) (va_Pc [.ref v0, .int v1, .int v2, .int v3, .int v4] (PreU D G L S)) (Qi D G L r.1 r.2) 0 0 (inL L) := by
  refine Met.ofW (cc := cX8_answerIn) (maxL := 6) (ret := (some .int)) (by decide) rfl ?_
  intro p e s m args below meth c s₁ B hml hv
  obtain ⟨rfl, hpre⟩ := hv
  obtain ⟨C, w⟩ := o_ent (own := RX8) rfl B hml hpre
  have hl := lv_entry ([.ref v0, .int v1, .int v2, .int v3, .int v4]) (n := 6) (Nat.le_of_ble_eq_true rfl)
  rw [lg_entry_eq]
  generalize (lg_sl ([.ref v0, .int v1, .int v2, .int v3, .int v4]) ++ List.replicate (6 - (lg_sl ([.ref v0, .int v1, .int v2, .int v3, .int v4])).length) Slot.unset).toArray = ls at hl ⊢
  exact w_X8_answerIn C (fun _ h => h) ⟨Nat.zero_le _, Nat.zero_le _⟩ ⟨rfl, rfl, Nat.le_of_ble_eq_true rfl, Nat.le_of_ble_eq_true rfl⟩ ⟨rfl, rfl, Nat.le_of_ble_eq_true rfl, Nat.le_of_ble_eq_true rfl⟩ ⟨rfl, rfl, Nat.le_of_ble_eq_true rfl, Nat.le_of_ble_eq_true rfl⟩ ⟨rfl, rfl, Nat.le_of_ble_eq_true rfl, Nat.le_of_ble_eq_true rfl⟩ S v0 v1 v2 v3 v4 r h (fun v S9 H locs ls pc w hv hd => by subst hv; exact o_iret C w B.returns B.notSynchronized hd) _ _ _ w hl

def f_X8_hiddenAnswer_b40 (S : PH) (v0 : Nat) (v2 : Int32) (v3 : Int32) (v4 : Int32) : Option ((Int32 × PH) ⊕ (PH)) :=
some (.inl ((v4 + 1), S))
def f_X8_hiddenAnswer_L7 (S : PH) (v0 : Nat) (v2 : Int32) (v3 : Int32) (v4 : Int32) : Option ((Int32 × PH) ⊕ (PH)) :=
(gR S v0 8 0).bind fun x2 =>
(ldI S x2 (1 : Int32)).bind fun x3 =>
if x3 ≤ v4 then (
some (.inr S))
else (
if ((v2 >>> (v4 &&& 31)) &&& (1 : Int32)) = (1 : Int32) then (
(ckO S v0 8).bind fun _ =>
(f_X8_of S v0 v4 (4 : Int32)).bind fun x4 =>
(ckO S v0 8).bind fun _ =>
(f_X8_takes S v0 x4 v3).bind fun S5 =>
f_X8_hiddenAnswer_b40 S5 v0 v2 v3 v4)
else (
f_X8_hiddenAnswer_b40 S v0 v2 v3 v4))
def f_X8_hiddenAnswer (S : PH) (v0 : Nat) (v1 : Int32) (v2 : Int32) (v3 : Int32) : Option (Int32 × PH) :=
(ckO S v0 8).bind fun _ =>
(f_X8_begins S v0).bind fun S1 =>
(lpo (fun x : Int32 × PH => f_X8_hiddenAnswer_L7 x.2 v0 v2 v3 x.1) FU ((0 : Int32), S1)).bind fun S6 =>
(ckO S6 v0 8).bind fun _ =>
(f_X8_answer S6 v0 v1 v3).bind fun x7 =>
some (x7, S6)
set_option maxHeartbeats 4000000 in
set_option maxRecDepth 100000 in
theorem w_X8_hiddenAnswer {p : Program} {l : Launch} {e : Env} {R : Room} {s : State} {m : MethodId} {args : Array Value} {below : List Frame} {meth : Method} {c : Code} {cells slots : Nat} {Q : State → Prop} {D : va_G} {G : Nat → ClassId} {L : List Nat} {A : Nat → Prop} {H0 : Heap} (C : CX p s m c args D G cX8_hiddenAnswer 5 RX8) (hLA : ∀ q ∈ L, A q) (hcs : cells ≤ R.cells ∧ slots ≤ R.slots) (hR_X8_begins : RoomOk R ({ frames := 0, cells := 0, slots := 0, locals := 0 }) 1) (hR_X8_of : RoomOk R ({ frames := 0, cells := 0, slots := 0, locals := 0 }) 3) (hR_X8_takes : RoomOk R ({ frames := 0, cells := 0, slots := 0, locals := 0 }) 3) (hR_X8_answer : RoomOk R ({ frames := 0, cells := 0, slots := 0, locals := 0 }) 3) (S : PH) (v0 : Nat) (v1 : Int32) (v2 : Int32) (v3 : Int32) (r : Int32 × PH) (h : f_X8_hiddenAnswer S v0 v1 v2 v3 = some r) (hret : ∀ (v : Int32) (S9 : PH) (H : Heap) (locs : List Loc) (ls : Array Slot) (pc : Nat), Wd D G L A H0 S9 H locs → (v, S9) = r → decode cX8_hiddenAnswer pc = .ok (.ireturn, 1) → W p l e R s m args below meth c H locs cells slots Q (F0 m pc ls [.int v])) : ∀ (H : Heap) (locs : List Loc) (ls : Array Slot), Wd D G L A H0 S H locs → lv_has ls 5 [(0, .ref v0), (1, .int v1), (2, .int v2), (3, .int v3)] → W p l e R s m args below meth c H locs cells slots Q (F0 m 0 ls []) := by
  have hx := C.1.1
  have hb := C.1.2.1
  unfold f_X8_hiddenAnswer at h
  intro H locs ls w hl
  refine lv_aload_n hx hb dX8_hiddenAnswer_0 rfl (lv_at hl 0 rfl) ?_
  obtain ⟨_, ho, h⟩ := bs h
  obtain ⟨S1, hc, h⟩ := bs h
  refine o_backv w hLA (o_runV (As := []) (rest := []) C w (c_X8_begins l D G L S v0 S1 hc) ml_X8_77 mv_X8_begins hR_X8_begins ho rfl hl.1 rfl (Nat.le_of_ble_eq_true rfl) dX8_hiddenAnswer_1 hcs) (fun H locs w => ?_)
  refine lv_iconst (v := 0) hx hb dX8_hiddenAnswer_4 (by decide) ?_
  refine lv_istore (lv' := [(4, .int (0 : Int32)), (0, .ref v0), (1, .int v1), (2, .int v2), (3, .int v3)]) hx hb dX8_hiddenAnswer_5 hl (by decide) rfl (fun ls hl => ?_)
  obtain ⟨S6, hL7, h⟩ := bs h
  have hE7 : ∀ (q8 : PH), S6 = q8 → ∀ (H : Heap) (locs : List Loc) (ls : Array Slot), Wd D G L A H0 q8 H locs → lv_has ls 5 [(0, .ref v0), (1, .int v1), (3, .int v3)] → W p l e R s m args below meth c H locs cells slots Q (F0 m 46 ls []) := by
    intro q8 he
    cases he
    intro H locs ls w hl
    refine lv_aload_n hx hb dX8_hiddenAnswer_46 rfl (lv_at hl 0 rfl) ?_
    refine lv_iload_n hx hb dX8_hiddenAnswer_47 rfl (lv_at hl 1 rfl) ?_
    refine lv_iload_n hx hb dX8_hiddenAnswer_48 rfl (lv_at hl 2 rfl) ?_
    obtain ⟨_, ho, h⟩ := bs h
    obtain ⟨x7, hc, h⟩ := bs h
    refine o_backi w hLA (o_runV (As := [.int v1, .int v3]) (rest := []) C w (c_X8_answer l D G L S6 v0 v1 v3 x7 hc) ml_X8_87 mv_X8_answer hR_X8_answer ho rfl hl.1 rfl (Nat.le_of_ble_eq_true rfl) dX8_hiddenAnswer_49 hcs) (fun H locs w => ?_)
    exact hret _ _ _ _ _ _ w (Option.some.inj h) dX8_hiddenAnswer_52
  refine lpo_W (P := fun x : Int32 × PH => ∀ (H : Heap) (locs : List Loc) (ls : Array Slot), Wd D G L A H0 x.2 H locs → lv_has ls 5 [(0, .ref v0), (1, .int v1), (2, .int v2), (3, .int v3), (4, .int x.1)] → W p l e R s m args below meth c H locs cells slots Q (F0 m 7 ls [])) ?_ FU _ hL7 H locs ls w (lv_sub hl [1, 2, 3, 4, 0] rfl)
  intro x y7 h hnext7 hend7
  obtain ⟨t9, S10⟩ := x
  have h : f_X8_hiddenAnswer_L7 S10 v0 v2 v3 t9 = some y7 := h
  unfold f_X8_hiddenAnswer_L7 at h
  have hb40 : ∀ (S11 : PH) (u12 : Int32), f_X8_hiddenAnswer_b40 S11 v0 v2 v3 u12 = some y7 → ∀ (H : Heap) (locs : List Loc) (ls : Array Slot), Wd D G L A H0 S11 H locs → lv_has ls 5 [(0, .ref v0), (1, .int v1), (2, .int v2), (3, .int v3), (4, .int u12)] → W p l e R s m args below meth c H locs cells slots Q (F0 m 40 ls []) := by
    intro S11 u12 h H locs ls w hl
    unfold f_X8_hiddenAnswer_b40 at h
    refine lv_iinc (v := (u12 + 1)) (lv' := [(4, .int (u12 + 1)), (0, .ref v0), (1, .int v1), (2, .int v2), (3, .int v3)]) hx hb dX8_hiddenAnswer_40 hl (k := 4) rfl rfl (by decide) rfl (fun ls hl => ?_)
    refine lv_goto (tgt := 7) hx hb dX8_hiddenAnswer_43 (by decide) ?_
    exact hnext7 _ (Option.some.inj h).symm H locs ls w (lv_sub hl [1, 2, 3, 4, 0] rfl)
  intro H locs ls w hl
  have hl : lv_has ls 5 [(0, .ref v0), (1, .int v1), (2, .int v2), (3, .int v3), (4, .int t9)] := hl
  have w : Wd D G L A H0 S10 H locs := w
  refine lv_iload hx hb dX8_hiddenAnswer_7 (lv_at hl 4 rfl) ?_
  refine lv_aload_n hx hb dX8_hiddenAnswer_9 rfl (lv_at hl 0 rfl) ?_
  obtain ⟨x13, hx13, h⟩ := bs h
  refine o_gR C w hx13 fl_X8_8 dX8_hiddenAnswer_10 ?_
  refine lv_iconst (v := 1) hx hb dX8_hiddenAnswer_13 (by decide) ?_
  obtain ⟨x14, hx14, h⟩ := bs h
  refine o_ldI C w hx14 dX8_hiddenAnswer_14 ?_
  refine lv_icmp_ge (tgt := 46) hx hb dX8_hiddenAnswer_15 (by decide) (fun cc15 => ?_) (fun cc15 => ?_)
  · have h := it cc15 h
    exact hE7 _ (hend7 _ (Option.some.inj h).symm).symm H locs ls w (lv_sub hl [0, 1, 3] rfl)
  · have h := ie cc15 h
    refine lv_iload_n hx hb dX8_hiddenAnswer_18 rfl (lv_at hl 2 rfl) ?_
    refine lv_iload hx hb dX8_hiddenAnswer_19 (lv_at hl 4 rfl) ?_
    refine lv_ishr hx hb dX8_hiddenAnswer_21 ?_
    refine lv_iconst (v := 1) hx hb dX8_hiddenAnswer_22 (by decide) ?_
    refine lv_iand hx hb dX8_hiddenAnswer_23 ?_
    refine lv_iconst (v := 1) hx hb dX8_hiddenAnswer_24 (by decide) ?_
    refine lv_icmp_ne (tgt := 40) hx hb dX8_hiddenAnswer_25 (by decide) (fun cc25 => ?_) (fun cc25 => ?_)
    · have h := ie cc25 h
      exact hb40 _ _ h H locs ls w (lv_sub hl [0, 1, 2, 3, 4] rfl)
    · have h := it cc25 h
      refine lv_aload_n hx hb dX8_hiddenAnswer_28 rfl (lv_at hl 0 rfl) ?_
      refine lv_aload_n hx hb dX8_hiddenAnswer_29 rfl (lv_at hl 0 rfl) ?_
      refine lv_iload hx hb dX8_hiddenAnswer_30 (lv_at hl 4 rfl) ?_
      refine lv_iconst (v := 4) hx hb dX8_hiddenAnswer_32 (by decide) ?_
      obtain ⟨_, ho, h⟩ := bs h
      obtain ⟨x15, hc, h⟩ := bs h
      refine o_backi w hLA (o_runV (As := [.int t9, .int (4 : Int32)]) (rest := [.ref v0]) C w (c_X8_of l D G L S10 v0 t9 (4 : Int32) x15 hc) ml_X8_44 mv_X8_of hR_X8_of ho rfl hl.1 rfl (Nat.le_of_ble_eq_true rfl) dX8_hiddenAnswer_33 hcs) (fun H locs w => ?_)
      refine lv_iload_n hx hb dX8_hiddenAnswer_36 rfl (lv_at hl 3 rfl) ?_
      obtain ⟨_, ho, h⟩ := bs h
      obtain ⟨S16, hc, h⟩ := bs h
      refine o_backv w hLA (o_runV (As := [.int x15, .int v3]) (rest := []) C w (c_X8_takes l D G L S10 v0 x15 v3 S16 hc) ml_X8_83 mv_X8_takes hR_X8_takes ho rfl hl.1 rfl (Nat.le_of_ble_eq_true rfl) dX8_hiddenAnswer_37 hcs) (fun H locs w => ?_)
      exact hb40 _ _ h H locs ls w (lv_sub hl [0, 1, 2, 3, 4] rfl)
set_option maxHeartbeats 4000000 in
set_option maxRecDepth 100000 in
theorem c_X8_hiddenAnswer (l : Launch) (D : va_G) (G : Nat → ClassId) (L : List Nat) (S : PH) (v0 : Nat) (v1 : Int32) (v2 : Int32) (v3 : Int32) (r : Int32 × PH) (h : f_X8_hiddenAnswer S v0 v1 v2 v3 = some r) : Met l yX8_hiddenAnswer [Cond.code yX8_hiddenAnswer cX8_hiddenAnswer 5 (some .int)] ({ frames := 1, cells := 0, slots := 0, locals := 22 }) (va_Pc [.ref v0, .int v1, .int v2, .int v3] (PreU D G L S)) (Qi D G L r.1 r.2) 0 0 (inL L) := by
  refine Met.ofW (cc := cX8_hiddenAnswer) (maxL := 5) (ret := (some .int)) (by decide) rfl ?_
  intro p e s m args below meth c s₁ B hml hv
  obtain ⟨rfl, hpre⟩ := hv
  obtain ⟨C, w⟩ := o_ent (own := RX8) rfl B hml hpre
  have hl := lv_entry ([.ref v0, .int v1, .int v2, .int v3]) (n := 5) (Nat.le_of_ble_eq_true rfl)
  rw [lg_entry_eq]
  generalize (lg_sl ([.ref v0, .int v1, .int v2, .int v3]) ++ List.replicate (5 - (lg_sl ([.ref v0, .int v1, .int v2, .int v3])).length) Slot.unset).toArray = ls at hl ⊢
  exact w_X8_hiddenAnswer C (fun _ h => h) ⟨Nat.zero_le _, Nat.zero_le _⟩ ⟨rfl, rfl, Nat.le_of_ble_eq_true rfl, Nat.le_of_ble_eq_true rfl⟩ ⟨rfl, rfl, Nat.le_of_ble_eq_true rfl, Nat.le_of_ble_eq_true rfl⟩ ⟨rfl, rfl, Nat.le_of_ble_eq_true rfl, Nat.le_of_ble_eq_true rfl⟩ ⟨rfl, rfl, Nat.le_of_ble_eq_true rfl, Nat.le_of_ble_eq_true rfl⟩ S v0 v1 v2 v3 r h (fun v S9 H locs ls pc w hv hd => by subst hv; exact o_iret C w B.returns B.notSynchronized hd) _ _ _ w hl

def f_X8_isAsk_b39  : Option (Int32) :=
some (1 : Int32)
def f_X8_isAsk (v0 : Int32) (v1 : Int32) : Option (Int32) :=
if v0 = 0 then (
(f_X8_isIn v1 (1 : Int32) (20 : Int32)).bind fun x2 =>
(ckZ x2).bind fun _ =>
some x2)
else (
if v0 = (1 : Int32) then (
(f_X8_isIn v1 (0 : Int32) (20 : Int32)).bind fun x1 =>
(ckZ x1).bind fun _ =>
some x1)
else (
if v0 = (2 : Int32) then (
f_X8_isAsk_b39 )
else (
if v0 = (3 : Int32) then (
f_X8_isAsk_b39 )
else (
some (0 : Int32)))))
set_option maxHeartbeats 4000000 in
set_option maxRecDepth 100000 in
theorem w_X8_isAsk {p : Program} {l : Launch} {e : Env} {R : Room} {s : State} {m : MethodId} {args : Array Value} {below : List Frame} {meth : Method} {c : Code} {cells slots : Nat} {Q : State → Prop} {D : va_G} {G : Nat → ClassId} {L : List Nat} {A : Nat → Prop} {H0 : Heap} (C : CX p s m c args D G cX8_isAsk 2 RX8) (hLA : ∀ q ∈ L, A q) (hcs : cells ≤ R.cells ∧ slots ≤ R.slots) (hR_X8_isIn : RoomOk R ({ frames := 0, cells := 0, slots := 0, locals := 0 }) 3) (S : PH) (v0 : Int32) (v1 : Int32) (r : Int32) (h : f_X8_isAsk v0 v1 = some r) (hret : ∀ (v : Int32) (H : Heap) (locs : List Loc) (ls : Array Slot) (pc : Nat), Wd D G L A H0 S H locs → narrow .boolean (.int v) = .int v → v = r → decode cX8_isAsk pc = .ok (.ireturn, 1) → W p l e R s m args below meth c H locs cells slots Q (F0 m pc ls [.int v])) : ∀ (H : Heap) (locs : List Loc) (ls : Array Slot), Wd D G L A H0 S H locs → lv_has ls 2 [(0, .int v0), (1, .int v1)] → W p l e R s m args below meth c H locs cells slots Q (F0 m 0 ls []) := by
  have hx := C.1.1
  have hb := C.1.2.1
  unfold f_X8_isAsk at h
  have hb39 : f_X8_isAsk_b39  = some r → ∀ (H : Heap) (locs : List Loc) (ls : Array Slot), Wd D G L A H0 S H locs → lv_has ls 2 [] → W p l e R s m args below meth c H locs cells slots Q (F0 m 39 ls []) := by
    intro  h H locs ls w hl
    unfold f_X8_isAsk_b39 at h
    refine lv_iconst (v := 1) hx hb dX8_isAsk_39 (by decide) ?_
    refine lv_goto (tgt := 44) hx hb dX8_isAsk_40 (by decide) ?_
    exact hret _ _ _ _ _ w rfl (Option.some.inj h) dX8_isAsk_44
  intro H locs ls w hl
  refine lv_iload_n hx hb dX8_isAsk_0 rfl (lv_at hl 0 rfl) ?_
  refine lv_if_ne (tgt := 14) hx hb dX8_isAsk_1 (by decide) (fun cc1 => ?_) (fun cc1 => ?_)
  · have h := ie cc1 h
    refine lv_iload_n hx hb dX8_isAsk_14 rfl (lv_at hl 0 rfl) ?_
    refine lv_iconst (v := 1) hx hb dX8_isAsk_15 (by decide) ?_
    refine lv_icmp_ne (tgt := 29) hx hb dX8_isAsk_16 (by decide) (fun cc16 => ?_) (fun cc16 => ?_)
    · have h := ie cc16 h
      refine lv_iload_n hx hb dX8_isAsk_29 rfl (lv_at hl 0 rfl) ?_
      refine lv_iconst (v := 2) hx hb dX8_isAsk_30 (by decide) ?_
      refine lv_icmp_eq (tgt := 39) hx hb dX8_isAsk_31 (by decide) (fun cc31 => ?_) (fun cc31 => ?_)
      · have h := it cc31 h
        exact hb39  h H locs ls w (lv_sub hl [] rfl)
      · have h := ie cc31 h
        refine lv_iload_n hx hb dX8_isAsk_34 rfl (lv_at hl 0 rfl) ?_
        refine lv_iconst (v := 3) hx hb dX8_isAsk_35 (by decide) ?_
        refine lv_icmp_ne (tgt := 43) hx hb dX8_isAsk_36 (by decide) (fun cc36 => ?_) (fun cc36 => ?_)
        · have h := ie cc36 h
          refine lv_iconst (v := 0) hx hb dX8_isAsk_43 (by decide) ?_
          exact hret _ _ _ _ _ w rfl (Option.some.inj h) dX8_isAsk_44
        · have h := it cc36 h
          exact hb39  h H locs ls w (lv_sub hl [] rfl)
    · have h := it cc16 h
      refine lv_iload_n hx hb dX8_isAsk_19 rfl (lv_at hl 1 rfl) ?_
      refine lv_iconst (v := 0) hx hb dX8_isAsk_20 (by decide) ?_
      refine lv_bipush (v := 20) hx hb dX8_isAsk_21 (by decide) ?_
      obtain ⟨x1, hc, h⟩ := bs h
      refine o_backi w hLA (o_runS (As := [.int v1, .int (0 : Int32), .int (20 : Int32)]) (rest := []) C w (c_X8_isIn l D G L S v1 (0 : Int32) (20 : Int32) x1 hc) ml_X8_40 st_X8_isIn hR_X8_isIn rfl hl.1 rfl (Nat.le_of_ble_eq_true rfl) dX8_isAsk_23 hcs) (fun H locs w => ?_)
      refine lv_goto (tgt := 44) hx hb dX8_isAsk_26 (by decide) ?_
      obtain ⟨_, hz, h⟩ := bs h
      exact hret _ _ _ _ _ w (ckZ_some hz) (Option.some.inj h) dX8_isAsk_44
  · have h := it cc1 h
    refine lv_iload_n hx hb dX8_isAsk_4 rfl (lv_at hl 1 rfl) ?_
    refine lv_iconst (v := 1) hx hb dX8_isAsk_5 (by decide) ?_
    refine lv_bipush (v := 20) hx hb dX8_isAsk_6 (by decide) ?_
    obtain ⟨x2, hc, h⟩ := bs h
    refine o_backi w hLA (o_runS (As := [.int v1, .int (1 : Int32), .int (20 : Int32)]) (rest := []) C w (c_X8_isIn l D G L S v1 (1 : Int32) (20 : Int32) x2 hc) ml_X8_40 st_X8_isIn hR_X8_isIn rfl hl.1 rfl (Nat.le_of_ble_eq_true rfl) dX8_isAsk_8 hcs) (fun H locs w => ?_)
    refine lv_goto (tgt := 44) hx hb dX8_isAsk_11 (by decide) ?_
    obtain ⟨_, hz, h⟩ := bs h
    exact hret _ _ _ _ _ w (ckZ_some hz) (Option.some.inj h) dX8_isAsk_44
set_option maxHeartbeats 4000000 in
set_option maxRecDepth 100000 in
theorem c_X8_isAsk (l : Launch) (D : va_G) (G : Nat → ClassId) (L : List Nat) (S : PH) (v0 : Int32) (v1 : Int32) (r : Int32) (h : f_X8_isAsk v0 v1 = some r) : Met l yX8_isAsk [Cond.code yX8_isAsk cX8_isAsk 2 (some .boolean)] ({ frames := 1, cells := 0, slots := 0, locals := 22 }) (va_Pc [.int v0, .int v1] (PreU D G L S)) (Qi D G L r S) 0 0 (inL L) := by
  refine Met.ofW (cc := cX8_isAsk) (maxL := 2) (ret := (some .boolean)) (by decide) rfl ?_
  intro p e s m args below meth c s₁ B hml hv
  obtain ⟨rfl, hpre⟩ := hv
  obtain ⟨C, w⟩ := o_ent (own := RX8) rfl B hml hpre
  have hl := lv_entry ([.int v0, .int v1]) (n := 2) (Nat.le_of_ble_eq_true rfl)
  rw [lg_entry_eq]
  generalize (lg_sl ([.int v0, .int v1]) ++ List.replicate (2 - (lg_sl ([.int v0, .int v1])).length) Slot.unset).toArray = ls at hl ⊢
  exact w_X8_isAsk C (fun _ h => h) ⟨Nat.zero_le _, Nat.zero_le _⟩ ⟨rfl, rfl, Nat.le_of_ble_eq_true rfl, Nat.le_of_ble_eq_true rfl⟩ S v0 v1 r h (fun v H locs ls pc w hz hv hd => by subst hv; exact o_zret C w B.returns B.notSynchronized hz hd) _ _ _ w hl

def f_X8_isLeft (S : PH) (v0 : Nat) (v1 : Int32) (v2 : Int32) : Option (Int32) :=
(gR S v0 8 0).bind fun x1 =>
(ldI S x1 (((1130 : Int32) + ((4096 : Int32) * v1)) + v2)).bind fun x2 =>
if x2 = (1 : Int32) then (
some (1 : Int32))
else (
some (0 : Int32))
set_option maxHeartbeats 4000000 in
set_option maxRecDepth 100000 in
theorem w_X8_isLeft {p : Program} {l : Launch} {e : Env} {R : Room} {s : State} {m : MethodId} {args : Array Value} {below : List Frame} {meth : Method} {c : Code} {cells slots : Nat} {Q : State → Prop} {D : va_G} {G : Nat → ClassId} {L : List Nat} {A : Nat → Prop} {H0 : Heap} (C : CX p s m c args D G cX8_isLeft 3 RX8) (hLA : ∀ q ∈ L, A q) (hcs : cells ≤ R.cells ∧ slots ≤ R.slots)  (S : PH) (v0 : Nat) (v1 : Int32) (v2 : Int32) (r : Int32) (h : f_X8_isLeft S v0 v1 v2 = some r) (hret : ∀ (v : Int32) (H : Heap) (locs : List Loc) (ls : Array Slot) (pc : Nat), Wd D G L A H0 S H locs → narrow .boolean (.int v) = .int v → v = r → decode cX8_isLeft pc = .ok (.ireturn, 1) → W p l e R s m args below meth c H locs cells slots Q (F0 m pc ls [.int v])) : ∀ (H : Heap) (locs : List Loc) (ls : Array Slot), Wd D G L A H0 S H locs → lv_has ls 3 [(0, .ref v0), (1, .int v1), (2, .int v2)] → W p l e R s m args below meth c H locs cells slots Q (F0 m 0 ls []) := by
  have hx := C.1.1
  have hb := C.1.2.1
  unfold f_X8_isLeft at h
  intro H locs ls w hl
  refine lv_aload_n hx hb dX8_isLeft_0 rfl (lv_at hl 0 rfl) ?_
  obtain ⟨x1, hx1, h⟩ := bs h
  refine o_gR C w hx1 fl_X8_8 dX8_isLeft_1 ?_
  refine lv_sipush (v := 1130) hx hb dX8_isLeft_4 (by decide) ?_
  refine lv_sipush (v := 4096) hx hb dX8_isLeft_7 (by decide) ?_
  refine lv_iload_n hx hb dX8_isLeft_10 rfl (lv_at hl 1 rfl) ?_
  refine lv_imul hx hb dX8_isLeft_11 ?_
  refine lv_iadd hx hb dX8_isLeft_12 ?_
  refine lv_iload_n hx hb dX8_isLeft_13 rfl (lv_at hl 2 rfl) ?_
  refine lv_iadd hx hb dX8_isLeft_14 ?_
  obtain ⟨x2, hx2, h⟩ := bs h
  refine o_ldI C w hx2 dX8_isLeft_15 ?_
  refine lv_iconst (v := 1) hx hb dX8_isLeft_16 (by decide) ?_
  refine lv_icmp_ne (tgt := 24) hx hb dX8_isLeft_17 (by decide) (fun cc17 => ?_) (fun cc17 => ?_)
  · have h := ie cc17 h
    refine lv_iconst (v := 0) hx hb dX8_isLeft_24 (by decide) ?_
    exact hret _ _ _ _ _ w rfl (Option.some.inj h) dX8_isLeft_25
  · have h := it cc17 h
    refine lv_iconst (v := 1) hx hb dX8_isLeft_20 (by decide) ?_
    refine lv_goto (tgt := 25) hx hb dX8_isLeft_21 (by decide) ?_
    exact hret _ _ _ _ _ w rfl (Option.some.inj h) dX8_isLeft_25
set_option maxHeartbeats 4000000 in
set_option maxRecDepth 100000 in
theorem c_X8_isLeft (l : Launch) (D : va_G) (G : Nat → ClassId) (L : List Nat) (S : PH) (v0 : Nat) (v1 : Int32) (v2 : Int32) (r : Int32) (h : f_X8_isLeft S v0 v1 v2 = some r) : Met l yX8_isLeft [Cond.code yX8_isLeft cX8_isLeft 3 (some .boolean)] ({ frames := 0, cells := 0, slots := 0, locals := 0 }) (va_Pc [.ref v0, .int v1, .int v2] (PreU D G L S)) (Qi D G L r S) 0 0 (inL L) := by
  refine Met.ofW (cc := cX8_isLeft) (maxL := 3) (ret := (some .boolean)) (by decide) rfl ?_
  intro p e s m args below meth c s₁ B hml hv
  obtain ⟨rfl, hpre⟩ := hv
  obtain ⟨C, w⟩ := o_ent (own := RX8) rfl B hml hpre
  have hl := lv_entry ([.ref v0, .int v1, .int v2]) (n := 3) (Nat.le_of_ble_eq_true rfl)
  rw [lg_entry_eq]
  generalize (lg_sl ([.ref v0, .int v1, .int v2]) ++ List.replicate (3 - (lg_sl ([.ref v0, .int v1, .int v2])).length) Slot.unset).toArray = ls at hl ⊢
  exact w_X8_isLeft C (fun _ h => h) ⟨Nat.zero_le _, Nat.zero_le _⟩  S v0 v1 v2 r h (fun v H locs ls pc w hz hv hd => by subst hv; exact o_zret C w B.returns B.notSynchronized hz hd) _ _ _ w hl

def f_X8_meets_b107 (S : PH) (v0 : Nat) (v1 : Int32) (v2 : Int32) (v3 : Int32) (s0 : Nat) (s1 : Int32) (s2 : Int32) : Option ((Int32 × PH) ⊕ (PH)) :=
(stI S s0 s1 s2).bind fun S1 =>
some (.inl ((v3 + 1), S1))
def f_X8_meets_b95 (S : PH) (v0 : Nat) (v1 : Int32) (v2 : Int32) (v3 : Int32) (v4 : Int32) (s0 : Nat) (s1 : Int32) : Option ((Int32 × PH) ⊕ (PH)) :=
f_X8_meets_b107 S v0 v1 v2 v3 s0 s1 v4
def f_X8_meets_b67 (S : PH) (v0 : Nat) (v1 : Int32) (v2 : Int32) (v3 : Int32) (v4 : Int32) (v5 : Int32) (s0 : Nat) (s1 : Int32) (s2 : Int32) : Option ((Int32 × PH) ⊕ (PH)) :=
(stI S s0 s1 s2).bind fun S2 =>
(gR S2 v0 8 7).bind fun x3 =>
(gR S2 v0 8 8).bind fun x4 =>
(ldZ S2 x4 v1).bind fun x5 =>
if x5 = 0 then (
f_X8_meets_b95 S2 v0 v1 v2 v3 v4 x3 v5)
else (
(gR S2 v0 8 7).bind fun x6 =>
(ldI S2 x6 v5).bind fun x7 =>
if v4 ≤ x7 then (
(gR S2 v0 8 7).bind fun x8 =>
(ldI S2 x8 v5).bind fun x9 =>
f_X8_meets_b107 S2 v0 v1 v2 v3 x3 v5 x9)
else (
f_X8_meets_b95 S2 v0 v1 v2 v3 v4 x3 v5))
def f_X8_meets_b55 (S : PH) (v0 : Nat) (v1 : Int32) (v2 : Int32) (v3 : Int32) (v4 : Int32) (v5 : Int32) (s0 : Nat) (s1 : Int32) : Option ((Int32 × PH) ⊕ (PH)) :=
f_X8_meets_b67 S v0 v1 v2 v3 v4 v5 s0 s1 v4
def f_X8_meets_L2 (S : PH) (v0 : Nat) (v1 : Int32) (v2 : Int32) (v3 : Int32) : Option ((Int32 × PH) ⊕ (PH)) :=
(gR S v0 8 0).bind fun x10 =>
(ldI S x10 (1 : Int32)).bind fun x11 =>
if x11 ≤ v3 then (
some (.inr S))
else (
(ckO S v0 8).bind fun _ =>
(f_X8_valueIn S v0 v2 v3).bind fun x12 =>
(gR S v0 8 6).bind fun x13 =>
(gR S v0 8 8).bind fun x14 =>
(ldZ S x14 v1).bind fun x15 =>
if x15 = 0 then (
f_X8_meets_b55 S v0 v1 v2 v3 x12 (((10 : Int32) * v1) + v3) x13 (((10 : Int32) * v1) + v3))
else (
(gR S v0 8 6).bind fun x16 =>
(ldI S x16 (((10 : Int32) * v1) + v3)).bind fun x17 =>
if x17 ≤ x12 then (
(gR S v0 8 6).bind fun x18 =>
(ldI S x18 (((10 : Int32) * v1) + v3)).bind fun x19 =>
f_X8_meets_b67 S v0 v1 v2 v3 x12 (((10 : Int32) * v1) + v3) x13 (((10 : Int32) * v1) + v3) x19)
else (
f_X8_meets_b55 S v0 v1 v2 v3 x12 (((10 : Int32) * v1) + v3) x13 (((10 : Int32) * v1) + v3))))
def f_X8_meets (S : PH) (v0 : Nat) (v1 : Int32) (v2 : Int32) : Option (PH) :=
(lpo (fun x : Int32 × PH => f_X8_meets_L2 x.2 v0 v1 v2 x.1) FU ((0 : Int32), S)).bind fun S20 =>
(gR S20 v0 8 8).bind fun x21 =>
(stZ S20 x21 v1 (1 : Int32)).bind fun S22 =>
some S22
set_option maxHeartbeats 4000000 in
set_option maxRecDepth 100000 in
theorem w_X8_meets {p : Program} {l : Launch} {e : Env} {R : Room} {s : State} {m : MethodId} {args : Array Value} {below : List Frame} {meth : Method} {c : Code} {cells slots : Nat} {Q : State → Prop} {D : va_G} {G : Nat → ClassId} {L : List Nat} {A : Nat → Prop} {H0 : Heap} (C : CX p s m c args D G cX8_meets 6 RX8) (hLA : ∀ q ∈ L, A q) (hcs : cells ≤ R.cells ∧ slots ≤ R.slots) (hR_X8_valueIn : RoomOk R ({ frames := 2, cells := 0, slots := 0, locals := 43 }) 3) (S : PH) (v0 : Nat) (v1 : Int32) (v2 : Int32) (r : PH) (h : f_X8_meets S v0 v1 v2 = some r) (hret : ∀ (S9 : PH) (H : Heap) (locs : List Loc) (ls : Array Slot) (pc : Nat), Wd D G L A H0 S9 H locs → S9 = r → decode cX8_meets pc = .ok (.return_, 1) → W p l e R s m args below meth c H locs cells slots Q (F0 m pc ls [])) : ∀ (H : Heap) (locs : List Loc) (ls : Array Slot), Wd D G L A H0 S H locs → lv_has ls 6 [(0, .ref v0), (1, .int v1), (2, .int v2)] → W p l e R s m args below meth c H locs cells slots Q (F0 m 0 ls []) := by
  have hx := C.1.1
  have hb := C.1.2.1
  unfold f_X8_meets at h
  intro H locs ls w hl
  refine lv_iconst (v := 0) hx hb dX8_meets_0 (by decide) ?_
  refine lv_istore_n (lv' := [(3, .int (0 : Int32)), (0, .ref v0), (1, .int v1), (2, .int v2)]) hx hb dX8_meets_1 rfl hl (by decide) rfl (fun ls hl => ?_)
  obtain ⟨S20, hL2, h⟩ := bs h
  have hE2 : ∀ (q23 : PH), S20 = q23 → ∀ (H : Heap) (locs : List Loc) (ls : Array Slot), Wd D G L A H0 q23 H locs → lv_has ls 6 [(0, .ref v0), (1, .int v1)] → W p l e R s m args below meth c H locs cells slots Q (F0 m 114 ls []) := by
    intro q23 he
    cases he
    intro H locs ls w hl
    refine lv_aload_n hx hb dX8_meets_114 rfl (lv_at hl 0 rfl) ?_
    obtain ⟨x21, hx21, h⟩ := bs h
    refine o_gR C w hx21 fl_X8_24 dX8_meets_115 ?_
    refine lv_iload_n hx hb dX8_meets_118 rfl (lv_at hl 1 rfl) ?_
    refine lv_iconst (v := 1) hx hb dX8_meets_119 (by decide) ?_
    obtain ⟨S22, hS22, h⟩ := bs h
    refine o_stZ C w hS22 dX8_meets_120 (fun H locs w => ?_)
    exact hret _ _ _ _ _ w (Option.some.inj h) dX8_meets_121
  refine lpo_W (P := fun x : Int32 × PH => ∀ (H : Heap) (locs : List Loc) (ls : Array Slot), Wd D G L A H0 x.2 H locs → lv_has ls 6 [(0, .ref v0), (1, .int v1), (2, .int v2), (3, .int x.1)] → W p l e R s m args below meth c H locs cells slots Q (F0 m 2 ls [])) ?_ FU _ hL2 H locs ls w (lv_sub hl [1, 2, 3, 0] rfl)
  intro x y2 h hnext2 hend2
  obtain ⟨t24, S25⟩ := x
  have h : f_X8_meets_L2 S25 v0 v1 v2 t24 = some y2 := h
  unfold f_X8_meets_L2 at h
  have hb107 : ∀ (S26 : PH) (u27 : Int32) (u28 : Nat) (u29 : Int32) (u30 : Int32), f_X8_meets_b107 S26 v0 v1 v2 u27 u28 u29 u30 = some y2 → ∀ (H : Heap) (locs : List Loc) (ls : Array Slot), Wd D G L A H0 S26 H locs → lv_has ls 6 [(0, .ref v0), (1, .int v1), (2, .int v2), (3, .int u27)] → W p l e R s m args below meth c H locs cells slots Q (F0 m 107 ls [.int u30, .int u29, .ref u28]) := by
    intro S26 u27 u28 u29 u30 h H locs ls w hl
    unfold f_X8_meets_b107 at h
    obtain ⟨S31, hS31, h⟩ := bs h
    refine o_stI C w hS31 dX8_meets_107 (fun H locs w => ?_)
    refine lv_iinc (v := (u27 + 1)) (lv' := [(3, .int (u27 + 1)), (0, .ref v0), (1, .int v1), (2, .int v2)]) hx hb dX8_meets_108 hl (k := 3) rfl rfl (by decide) rfl (fun ls hl => ?_)
    refine lv_goto (tgt := 2) hx hb dX8_meets_111 (by decide) ?_
    exact hnext2 _ (Option.some.inj h).symm H locs ls w (lv_sub hl [1, 2, 3, 0] rfl)
  have hb95 : ∀ (S32 : PH) (u33 : Int32) (u34 : Int32) (u35 : Nat) (u36 : Int32), f_X8_meets_b95 S32 v0 v1 v2 u33 u34 u35 u36 = some y2 → ∀ (H : Heap) (locs : List Loc) (ls : Array Slot), Wd D G L A H0 S32 H locs → lv_has ls 6 [(0, .ref v0), (1, .int v1), (2, .int v2), (3, .int u33), (4, .int u34)] → W p l e R s m args below meth c H locs cells slots Q (F0 m 95 ls [.int u36, .ref u35]) := by
    intro S32 u33 u34 u35 u36 h H locs ls w hl
    unfold f_X8_meets_b95 at h
    refine lv_iload hx hb dX8_meets_95 (lv_at hl 4 rfl) ?_
    refine lv_goto (tgt := 107) hx hb dX8_meets_97 (by decide) ?_
    exact hb107 _ _ _ _ _ h H locs ls w (lv_sub hl [0, 1, 2, 3] rfl)
  have hb67 : ∀ (S37 : PH) (u38 : Int32) (u39 : Int32) (u40 : Int32) (u41 : Nat) (u42 : Int32) (u43 : Int32), f_X8_meets_b67 S37 v0 v1 v2 u38 u39 u40 u41 u42 u43 = some y2 → ∀ (H : Heap) (locs : List Loc) (ls : Array Slot), Wd D G L A H0 S37 H locs → lv_has ls 6 [(0, .ref v0), (1, .int v1), (2, .int v2), (3, .int u38), (4, .int u39), (5, .int u40)] → W p l e R s m args below meth c H locs cells slots Q (F0 m 67 ls [.int u43, .int u42, .ref u41]) := by
    intro S37 u38 u39 u40 u41 u42 u43 h H locs ls w hl
    unfold f_X8_meets_b67 at h
    obtain ⟨S44, hS44, h⟩ := bs h
    refine o_stI C w hS44 dX8_meets_67 (fun H locs w => ?_)
    refine lv_aload_n hx hb dX8_meets_68 rfl (lv_at hl 0 rfl) ?_
    obtain ⟨x45, hx45, h⟩ := bs h
    refine o_gR C w hx45 fl_X8_21 dX8_meets_69 ?_
    refine lv_iload hx hb dX8_meets_72 (lv_at hl 5 rfl) ?_
    refine lv_aload_n hx hb dX8_meets_74 rfl (lv_at hl 0 rfl) ?_
    obtain ⟨x46, hx46, h⟩ := bs h
    refine o_gR C w hx46 fl_X8_24 dX8_meets_75 ?_
    refine lv_iload_n hx hb dX8_meets_78 rfl (lv_at hl 1 rfl) ?_
    obtain ⟨x47, hx47, h⟩ := bs h
    refine o_ldZ C w hx47 dX8_meets_79 ?_
    refine lv_if_eq (tgt := 95) hx hb dX8_meets_80 (by decide) (fun cc80 => ?_) (fun cc80 => ?_)
    · have h := it cc80 h
      exact hb95 _ _ _ _ _ h H locs ls w (lv_sub hl [0, 1, 2, 3, 4] rfl)
    · have h := ie cc80 h
      refine lv_iload hx hb dX8_meets_83 (lv_at hl 4 rfl) ?_
      refine lv_aload_n hx hb dX8_meets_85 rfl (lv_at hl 0 rfl) ?_
      obtain ⟨x48, hx48, h⟩ := bs h
      refine o_gR C w hx48 fl_X8_21 dX8_meets_86 ?_
      refine lv_iload hx hb dX8_meets_89 (lv_at hl 5 rfl) ?_
      obtain ⟨x49, hx49, h⟩ := bs h
      refine o_ldI C w hx49 dX8_meets_91 ?_
      refine lv_icmp_le (tgt := 100) hx hb dX8_meets_92 (by decide) (fun cc92 => ?_) (fun cc92 => ?_)
      · have h := it cc92 h
        refine lv_aload_n hx hb dX8_meets_100 rfl (lv_at hl 0 rfl) ?_
        obtain ⟨x50, hx50, h⟩ := bs h
        refine o_gR C w hx50 fl_X8_21 dX8_meets_101 ?_
        refine lv_iload hx hb dX8_meets_104 (lv_at hl 5 rfl) ?_
        obtain ⟨x51, hx51, h⟩ := bs h
        refine o_ldI C w hx51 dX8_meets_106 ?_
        exact hb107 _ _ _ _ _ h H locs ls w (lv_sub hl [0, 1, 2, 3] rfl)
      · have h := ie cc92 h
        exact hb95 _ _ _ _ _ h H locs ls w (lv_sub hl [0, 1, 2, 3, 4] rfl)
  have hb55 : ∀ (S52 : PH) (u53 : Int32) (u54 : Int32) (u55 : Int32) (u56 : Nat) (u57 : Int32), f_X8_meets_b55 S52 v0 v1 v2 u53 u54 u55 u56 u57 = some y2 → ∀ (H : Heap) (locs : List Loc) (ls : Array Slot), Wd D G L A H0 S52 H locs → lv_has ls 6 [(0, .ref v0), (1, .int v1), (2, .int v2), (3, .int u53), (4, .int u54), (5, .int u55)] → W p l e R s m args below meth c H locs cells slots Q (F0 m 55 ls [.int u57, .ref u56]) := by
    intro S52 u53 u54 u55 u56 u57 h H locs ls w hl
    unfold f_X8_meets_b55 at h
    refine lv_iload hx hb dX8_meets_55 (lv_at hl 4 rfl) ?_
    refine lv_goto (tgt := 67) hx hb dX8_meets_57 (by decide) ?_
    exact hb67 _ _ _ _ _ _ _ h H locs ls w (lv_sub hl [0, 1, 2, 3, 4, 5] rfl)
  intro H locs ls w hl
  have hl : lv_has ls 6 [(0, .ref v0), (1, .int v1), (2, .int v2), (3, .int t24)] := hl
  have w : Wd D G L A H0 S25 H locs := w
  refine lv_iload_n hx hb dX8_meets_2 rfl (lv_at hl 3 rfl) ?_
  refine lv_aload_n hx hb dX8_meets_3 rfl (lv_at hl 0 rfl) ?_
  obtain ⟨x58, hx58, h⟩ := bs h
  refine o_gR C w hx58 fl_X8_8 dX8_meets_4 ?_
  refine lv_iconst (v := 1) hx hb dX8_meets_7 (by decide) ?_
  obtain ⟨x59, hx59, h⟩ := bs h
  refine o_ldI C w hx59 dX8_meets_8 ?_
  refine lv_icmp_ge (tgt := 114) hx hb dX8_meets_9 (by decide) (fun cc9 => ?_) (fun cc9 => ?_)
  · have h := it cc9 h
    exact hE2 _ (hend2 _ (Option.some.inj h).symm).symm H locs ls w (lv_sub hl [0, 1] rfl)
  · have h := ie cc9 h
    refine lv_aload_n hx hb dX8_meets_12 rfl (lv_at hl 0 rfl) ?_
    refine lv_iload_n hx hb dX8_meets_13 rfl (lv_at hl 2 rfl) ?_
    refine lv_iload_n hx hb dX8_meets_14 rfl (lv_at hl 3 rfl) ?_
    obtain ⟨_, ho, h⟩ := bs h
    obtain ⟨x60, hc, h⟩ := bs h
    refine o_backi w hLA (o_runV (As := [.int v2, .int t24]) (rest := []) C w (c_X8_valueIn l D G L S25 v0 v2 t24 x60 hc) ml_X8_80 mv_X8_valueIn hR_X8_valueIn ho rfl hl.1 rfl (Nat.le_of_ble_eq_true rfl) dX8_meets_15 hcs) (fun H locs w => ?_)
    refine lv_istore (lv' := [(4, .int x60), (0, .ref v0), (1, .int v1), (2, .int v2), (3, .int t24)]) hx hb dX8_meets_18 hl (by decide) rfl (fun ls hl => ?_)
    refine lv_bipush (v := 10) hx hb dX8_meets_20 (by decide) ?_
    refine lv_iload_n hx hb dX8_meets_22 rfl (lv_at hl 2 rfl) ?_
    refine lv_imul hx hb dX8_meets_23 ?_
    refine lv_iload_n hx hb dX8_meets_24 rfl (lv_at hl 4 rfl) ?_
    refine lv_iadd hx hb dX8_meets_25 ?_
    refine lv_istore (lv' := [(5, .int (((10 : Int32) * v1) + t24)), (4, .int x60), (0, .ref v0), (1, .int v1), (2, .int v2), (3, .int t24)]) hx hb dX8_meets_26 hl (by decide) rfl (fun ls hl => ?_)
    refine lv_aload_n hx hb dX8_meets_28 rfl (lv_at hl 2 rfl) ?_
    obtain ⟨x61, hx61, h⟩ := bs h
    refine o_gR C w hx61 fl_X8_18 dX8_meets_29 ?_
    refine lv_iload hx hb dX8_meets_32 (lv_at hl 0 rfl) ?_
    refine lv_aload_n hx hb dX8_meets_34 rfl (lv_at hl 2 rfl) ?_
    obtain ⟨x62, hx62, h⟩ := bs h
    refine o_gR C w hx62 fl_X8_24 dX8_meets_35 ?_
    refine lv_iload_n hx hb dX8_meets_38 rfl (lv_at hl 3 rfl) ?_
    obtain ⟨x63, hx63, h⟩ := bs h
    refine o_ldZ C w hx63 dX8_meets_39 ?_
    refine lv_if_eq (tgt := 55) hx hb dX8_meets_40 (by decide) (fun cc40 => ?_) (fun cc40 => ?_)
    · have h := it cc40 h
      exact hb55 _ _ _ _ _ _ h H locs ls w (lv_sub hl [2, 3, 4, 5, 1, 0] rfl)
    · have h := ie cc40 h
      refine lv_iload hx hb dX8_meets_43 (lv_at hl 1 rfl) ?_
      refine lv_aload_n hx hb dX8_meets_45 rfl (lv_at hl 2 rfl) ?_
      obtain ⟨x64, hx64, h⟩ := bs h
      refine o_gR C w hx64 fl_X8_18 dX8_meets_46 ?_
      refine lv_iload hx hb dX8_meets_49 (lv_at hl 0 rfl) ?_
      obtain ⟨x65, hx65, h⟩ := bs h
      refine o_ldI C w hx65 dX8_meets_51 ?_
      refine lv_icmp_ge (tgt := 60) hx hb dX8_meets_52 (by decide) (fun cc52 => ?_) (fun cc52 => ?_)
      · have h := it cc52 h
        refine lv_aload_n hx hb dX8_meets_60 rfl (lv_at hl 2 rfl) ?_
        obtain ⟨x66, hx66, h⟩ := bs h
        refine o_gR C w hx66 fl_X8_18 dX8_meets_61 ?_
        refine lv_iload hx hb dX8_meets_64 (lv_at hl 0 rfl) ?_
        obtain ⟨x67, hx67, h⟩ := bs h
        refine o_ldI C w hx67 dX8_meets_66 ?_
        exact hb67 _ _ _ _ _ _ _ h H locs ls w (lv_sub hl [2, 3, 4, 5, 1, 0] rfl)
      · have h := ie cc52 h
        exact hb55 _ _ _ _ _ _ h H locs ls w (lv_sub hl [2, 3, 4, 5, 1, 0] rfl)
set_option maxHeartbeats 4000000 in
set_option maxRecDepth 100000 in
theorem c_X8_meets (l : Launch) (D : va_G) (G : Nat → ClassId) (L : List Nat) (S : PH) (v0 : Nat) (v1 : Int32) (v2 : Int32) (r : PH) (h : f_X8_meets S v0 v1 v2 = some r) : Met l yX8_meets [Cond.code yX8_meets cX8_meets 6 none] ({ frames := 3, cells := 0, slots := 0, locals := 65 }) (va_Pc [.ref v0, .int v1, .int v2] (PreU D G L S)) (Qv D G L r) 0 0 (inL L) := by
  refine Met.ofW (cc := cX8_meets) (maxL := 6) (ret := none) (by decide) rfl ?_
  intro p e s m args below meth c s₁ B hml hv
  obtain ⟨rfl, hpre⟩ := hv
  obtain ⟨C, w⟩ := o_ent (own := RX8) rfl B hml hpre
  have hl := lv_entry ([.ref v0, .int v1, .int v2]) (n := 6) (Nat.le_of_ble_eq_true rfl)
  rw [lg_entry_eq]
  generalize (lg_sl ([.ref v0, .int v1, .int v2]) ++ List.replicate (6 - (lg_sl ([.ref v0, .int v1, .int v2])).length) Slot.unset).toArray = ls at hl ⊢
  exact w_X8_meets C (fun _ h => h) ⟨Nat.zero_le _, Nat.zero_le _⟩ ⟨rfl, rfl, Nat.le_of_ble_eq_true rfl, Nat.le_of_ble_eq_true rfl⟩ S v0 v1 v2 r h (fun S9 H locs ls pc w hv hd => by subst hv; exact o_vret C w B.returns B.notSynchronized hd) _ _ _ w hl

def f_X8_isClose_b57 (S : PH) (v0 : Nat) (v1 : Int32) (v3 : Int32) (s0 : Int32) : Option ((Int32 × Int32) ⊕ (Int32)) :=
some (.inl (s0, (v3 + 1)))
def f_X8_isClose_b52 (S : PH) (v0 : Nat) (v1 : Int32) (v3 : Int32) : Option ((Int32 × Int32) ⊕ (Int32)) :=
f_X8_isClose_b57 S v0 v1 v3 (1 : Int32)
def f_X8_isClose_L4 (S : PH) (v0 : Nat) (v1 : Int32) (v2 : Int32) (v3 : Int32) : Option ((Int32 × Int32) ⊕ (Int32)) :=
(gR S v0 8 0).bind fun x1 =>
(ldI S x1 (1 : Int32)).bind fun x2 =>
if x2 ≤ v3 then (
some (.inr v2))
else (
if v2 = 0 then (
(gR S v0 8 7).bind fun x3 =>
(ldI S x3 (((10 : Int32) * v1) + v3)).bind fun x4 =>
(gR S v0 8 6).bind fun x5 =>
(ldI S x5 (((10 : Int32) * v1) + v3)).bind fun x6 =>
(ckO S v0 8).bind fun _ =>
(f_X8_of S v0 v3 (3 : Int32)).bind fun x7 =>
if x7 ≤ ((x4 - x6) + (1 : Int32)) then (
f_X8_isClose_b57 S v0 v1 v3 (0 : Int32))
else (
f_X8_isClose_b52 S v0 v1 v3))
else (
f_X8_isClose_b52 S v0 v1 v3))
def f_X8_isClose (S : PH) (v0 : Nat) (v1 : Int32) : Option (Int32) :=
(lpo (fun x : Int32 × Int32 => f_X8_isClose_L4 S v0 v1 x.1 x.2) FU ((0 : Int32), (0 : Int32))).bind fun y8 =>
(ckZ y8).bind fun _ =>
some y8
set_option maxHeartbeats 4000000 in
set_option maxRecDepth 100000 in
theorem w_X8_isClose {p : Program} {l : Launch} {e : Env} {R : Room} {s : State} {m : MethodId} {args : Array Value} {below : List Frame} {meth : Method} {c : Code} {cells slots : Nat} {Q : State → Prop} {D : va_G} {G : Nat → ClassId} {L : List Nat} {A : Nat → Prop} {H0 : Heap} (C : CX p s m c args D G cX8_isClose 4 RX8) (hLA : ∀ q ∈ L, A q) (hcs : cells ≤ R.cells ∧ slots ≤ R.slots) (hR_X8_of : RoomOk R ({ frames := 0, cells := 0, slots := 0, locals := 0 }) 3) (S : PH) (v0 : Nat) (v1 : Int32) (r : Int32) (h : f_X8_isClose S v0 v1 = some r) (hret : ∀ (v : Int32) (H : Heap) (locs : List Loc) (ls : Array Slot) (pc : Nat), Wd D G L A H0 S H locs → narrow .boolean (.int v) = .int v → v = r → decode cX8_isClose pc = .ok (.ireturn, 1) → W p l e R s m args below meth c H locs cells slots Q (F0 m pc ls [.int v])) : ∀ (H : Heap) (locs : List Loc) (ls : Array Slot), Wd D G L A H0 S H locs → lv_has ls 4 [(0, .ref v0), (1, .int v1)] → W p l e R s m args below meth c H locs cells slots Q (F0 m 0 ls []) := by
  have hx := C.1.1
  have hb := C.1.2.1
  unfold f_X8_isClose at h
  intro H locs ls w hl
  refine lv_iconst (v := 0) hx hb dX8_isClose_0 (by decide) ?_
  refine lv_istore_n (lv' := [(2, .int (0 : Int32)), (0, .ref v0), (1, .int v1)]) hx hb dX8_isClose_1 rfl hl (by decide) rfl (fun ls hl => ?_)
  refine lv_iconst (v := 0) hx hb dX8_isClose_2 (by decide) ?_
  refine lv_istore_n (lv' := [(3, .int (0 : Int32)), (2, .int (0 : Int32)), (0, .ref v0), (1, .int v1)]) hx hb dX8_isClose_3 rfl hl (by decide) rfl (fun ls hl => ?_)
  obtain ⟨y8, hL4, h⟩ := bs h
  have hE4 : ∀ (q9 : Int32), y8 = q9 → ∀ (H : Heap) (locs : List Loc) (ls : Array Slot), Wd D G L A H0 S H locs → lv_has ls 4 [(2, .int q9)] → W p l e R s m args below meth c H locs cells slots Q (F0 m 64 ls []) := by
    intro q9 he
    cases he
    intro H locs ls w hl
    refine lv_iload_n hx hb dX8_isClose_64 rfl (lv_at hl 0 rfl) ?_
    obtain ⟨_, hz, h⟩ := bs h
    exact hret _ _ _ _ _ w (ckZ_some hz) (Option.some.inj h) dX8_isClose_65
  refine lpo_W (P := fun x : Int32 × Int32 => ∀ (H : Heap) (locs : List Loc) (ls : Array Slot), Wd D G L A H0 S H locs → lv_has ls 4 [(0, .ref v0), (1, .int v1), (2, .int x.1), (3, .int x.2)] → W p l e R s m args below meth c H locs cells slots Q (F0 m 4 ls [])) ?_ FU _ hL4 H locs ls w (lv_sub hl [2, 3, 1, 0] rfl)
  intro x y4 h hnext4 hend4
  obtain ⟨t10, t11⟩ := x
  have h : f_X8_isClose_L4 S v0 v1 t10 t11 = some y4 := h
  unfold f_X8_isClose_L4 at h
  have hb57 : ∀ (u12 : Int32) (u13 : Int32), f_X8_isClose_b57 S v0 v1 u12 u13 = some y4 → ∀ (H : Heap) (locs : List Loc) (ls : Array Slot), Wd D G L A H0 S H locs → lv_has ls 4 [(0, .ref v0), (1, .int v1), (3, .int u12)] → W p l e R s m args below meth c H locs cells slots Q (F0 m 57 ls [.int u13]) := by
    intro u12 u13 h H locs ls w hl
    unfold f_X8_isClose_b57 at h
    refine lv_istore_n (lv' := [(2, .int u13), (0, .ref v0), (1, .int v1), (3, .int u12)]) hx hb dX8_isClose_57 rfl hl (by decide) rfl (fun ls hl => ?_)
    refine lv_iinc (v := (u12 + 1)) (lv' := [(3, .int (u12 + 1)), (2, .int u13), (0, .ref v0), (1, .int v1)]) hx hb dX8_isClose_58 hl (k := 3) rfl rfl (by decide) rfl (fun ls hl => ?_)
    refine lv_goto (tgt := 4) hx hb dX8_isClose_61 (by decide) ?_
    exact hnext4 _ (Option.some.inj h).symm H locs ls w (lv_sub hl [2, 3, 1, 0] rfl)
  have hb52 : ∀ (u14 : Int32), f_X8_isClose_b52 S v0 v1 u14 = some y4 → ∀ (H : Heap) (locs : List Loc) (ls : Array Slot), Wd D G L A H0 S H locs → lv_has ls 4 [(0, .ref v0), (1, .int v1), (3, .int u14)] → W p l e R s m args below meth c H locs cells slots Q (F0 m 52 ls []) := by
    intro u14 h H locs ls w hl
    unfold f_X8_isClose_b52 at h
    refine lv_iconst (v := 1) hx hb dX8_isClose_52 (by decide) ?_
    refine lv_goto (tgt := 57) hx hb dX8_isClose_53 (by decide) ?_
    exact hb57 _ _ h H locs ls w (lv_sub hl [0, 1, 2] rfl)
  intro H locs ls w hl
  have hl : lv_has ls 4 [(0, .ref v0), (1, .int v1), (2, .int t10), (3, .int t11)] := hl
  refine lv_iload_n hx hb dX8_isClose_4 rfl (lv_at hl 3 rfl) ?_
  refine lv_aload_n hx hb dX8_isClose_5 rfl (lv_at hl 0 rfl) ?_
  obtain ⟨x15, hx15, h⟩ := bs h
  refine o_gR C w hx15 fl_X8_8 dX8_isClose_6 ?_
  refine lv_iconst (v := 1) hx hb dX8_isClose_9 (by decide) ?_
  obtain ⟨x16, hx16, h⟩ := bs h
  refine o_ldI C w hx16 dX8_isClose_10 ?_
  refine lv_icmp_ge (tgt := 64) hx hb dX8_isClose_11 (by decide) (fun cc11 => ?_) (fun cc11 => ?_)
  · have h := it cc11 h
    exact hE4 _ (hend4 _ (Option.some.inj h).symm).symm H locs ls w (lv_sub hl [2] rfl)
  · have h := ie cc11 h
    refine lv_iload_n hx hb dX8_isClose_14 rfl (lv_at hl 2 rfl) ?_
    refine lv_if_ne (tgt := 52) hx hb dX8_isClose_15 (by decide) (fun cc15 => ?_) (fun cc15 => ?_)
    · have h := ie cc15 h
      exact hb52 _ h H locs ls w (lv_sub hl [0, 1, 3] rfl)
    · have h := it cc15 h
      refine lv_aload_n hx hb dX8_isClose_18 rfl (lv_at hl 0 rfl) ?_
      obtain ⟨x17, hx17, h⟩ := bs h
      refine o_gR C w hx17 fl_X8_21 dX8_isClose_19 ?_
      refine lv_bipush (v := 10) hx hb dX8_isClose_22 (by decide) ?_
      refine lv_iload_n hx hb dX8_isClose_24 rfl (lv_at hl 1 rfl) ?_
      refine lv_imul hx hb dX8_isClose_25 ?_
      refine lv_iload_n hx hb dX8_isClose_26 rfl (lv_at hl 3 rfl) ?_
      refine lv_iadd hx hb dX8_isClose_27 ?_
      obtain ⟨x18, hx18, h⟩ := bs h
      refine o_ldI C w hx18 dX8_isClose_28 ?_
      refine lv_aload_n hx hb dX8_isClose_29 rfl (lv_at hl 0 rfl) ?_
      obtain ⟨x19, hx19, h⟩ := bs h
      refine o_gR C w hx19 fl_X8_18 dX8_isClose_30 ?_
      refine lv_bipush (v := 10) hx hb dX8_isClose_33 (by decide) ?_
      refine lv_iload_n hx hb dX8_isClose_35 rfl (lv_at hl 1 rfl) ?_
      refine lv_imul hx hb dX8_isClose_36 ?_
      refine lv_iload_n hx hb dX8_isClose_37 rfl (lv_at hl 3 rfl) ?_
      refine lv_iadd hx hb dX8_isClose_38 ?_
      obtain ⟨x20, hx20, h⟩ := bs h
      refine o_ldI C w hx20 dX8_isClose_39 ?_
      refine lv_isub hx hb dX8_isClose_40 ?_
      refine lv_iconst (v := 1) hx hb dX8_isClose_41 (by decide) ?_
      refine lv_iadd hx hb dX8_isClose_42 ?_
      refine lv_aload_n hx hb dX8_isClose_43 rfl (lv_at hl 0 rfl) ?_
      refine lv_iload_n hx hb dX8_isClose_44 rfl (lv_at hl 3 rfl) ?_
      refine lv_iconst (v := 3) hx hb dX8_isClose_45 (by decide) ?_
      obtain ⟨_, ho, h⟩ := bs h
      obtain ⟨x21, hc, h⟩ := bs h
      refine o_backi w hLA (o_runV (As := [.int t11, .int (3 : Int32)]) (rest := [.int ((x18 - x20) + (1 : Int32))]) C w (c_X8_of l D G L S v0 t11 (3 : Int32) x21 hc) ml_X8_44 mv_X8_of hR_X8_of ho rfl hl.1 rfl (Nat.le_of_ble_eq_true rfl) dX8_isClose_46 hcs) (fun H locs w => ?_)
      refine lv_icmp_ge (tgt := 56) hx hb dX8_isClose_49 (by decide) (fun cc49 => ?_) (fun cc49 => ?_)
      · have h := it cc49 h
        refine lv_iconst (v := 0) hx hb dX8_isClose_56 (by decide) ?_
        exact hb57 _ _ h H locs ls w (lv_sub hl [0, 1, 3] rfl)
      · have h := ie cc49 h
        exact hb52 _ h H locs ls w (lv_sub hl [0, 1, 3] rfl)
set_option maxHeartbeats 4000000 in
set_option maxRecDepth 100000 in
theorem c_X8_isClose (l : Launch) (D : va_G) (G : Nat → ClassId) (L : List Nat) (S : PH) (v0 : Nat) (v1 : Int32) (r : Int32) (h : f_X8_isClose S v0 v1 = some r) : Met l yX8_isClose [Cond.code yX8_isClose cX8_isClose 4 (some .boolean)] ({ frames := 1, cells := 0, slots := 0, locals := 22 }) (va_Pc [.ref v0, .int v1] (PreU D G L S)) (Qi D G L r S) 0 0 (inL L) := by
  refine Met.ofW (cc := cX8_isClose) (maxL := 4) (ret := (some .boolean)) (by decide) rfl ?_
  intro p e s m args below meth c s₁ B hml hv
  obtain ⟨rfl, hpre⟩ := hv
  obtain ⟨C, w⟩ := o_ent (own := RX8) rfl B hml hpre
  have hl := lv_entry ([.ref v0, .int v1]) (n := 4) (Nat.le_of_ble_eq_true rfl)
  rw [lg_entry_eq]
  generalize (lg_sl ([.ref v0, .int v1]) ++ List.replicate (4 - (lg_sl ([.ref v0, .int v1])).length) Slot.unset).toArray = ls at hl ⊢
  exact w_X8_isClose C (fun _ h => h) ⟨Nat.zero_le _, Nat.zero_le _⟩ ⟨rfl, rfl, Nat.le_of_ble_eq_true rfl, Nat.le_of_ble_eq_true rfl⟩ S v0 v1 r h (fun v H locs ls pc w hz hv hd => by subst hv; exact o_zret C w B.returns B.notSynchronized hz hd) _ _ _ w hl

def f_X8_clears_L2 (S : PH) (v0 : Nat) (v1 : Int32) : Option ((Int32 × PH) ⊕ (PH)) :=
if (61 : Int32) ≤ v1 then (
some (.inr S))
else (
(gR S v0 8 8).bind fun x1 =>
(stZ S x1 v1 (0 : Int32)).bind fun S2 =>
some (.inl ((v1 + 1), S2)))
def f_X8_clears (S : PH) (v0 : Nat) : Option (PH) :=
(lpo (fun x : Int32 × PH => f_X8_clears_L2 x.2 v0 x.1) FU ((0 : Int32), S)).bind fun S3 =>
some S3
set_option maxHeartbeats 4000000 in
set_option maxRecDepth 100000 in
theorem w_X8_clears {p : Program} {l : Launch} {e : Env} {R : Room} {s : State} {m : MethodId} {args : Array Value} {below : List Frame} {meth : Method} {c : Code} {cells slots : Nat} {Q : State → Prop} {D : va_G} {G : Nat → ClassId} {L : List Nat} {A : Nat → Prop} {H0 : Heap} (C : CX p s m c args D G cX8_clears 2 RX8) (hLA : ∀ q ∈ L, A q) (hcs : cells ≤ R.cells ∧ slots ≤ R.slots)  (S : PH) (v0 : Nat) (r : PH) (h : f_X8_clears S v0 = some r) (hret : ∀ (S9 : PH) (H : Heap) (locs : List Loc) (ls : Array Slot) (pc : Nat), Wd D G L A H0 S9 H locs → S9 = r → decode cX8_clears pc = .ok (.return_, 1) → W p l e R s m args below meth c H locs cells slots Q (F0 m pc ls [])) : ∀ (H : Heap) (locs : List Loc) (ls : Array Slot), Wd D G L A H0 S H locs → lv_has ls 2 [(0, .ref v0)] → W p l e R s m args below meth c H locs cells slots Q (F0 m 0 ls []) := by
  have hx := C.1.1
  have hb := C.1.2.1
  unfold f_X8_clears at h
  intro H locs ls w hl
  refine lv_iconst (v := 0) hx hb dX8_clears_0 (by decide) ?_
  refine lv_istore_n (lv' := [(1, .int (0 : Int32)), (0, .ref v0)]) hx hb dX8_clears_1 rfl hl (by decide) rfl (fun ls hl => ?_)
  obtain ⟨S3, hL2, h⟩ := bs h
  have hE2 : ∀ (q4 : PH), S3 = q4 → ∀ (H : Heap) (locs : List Loc) (ls : Array Slot), Wd D G L A H0 q4 H locs → lv_has ls 2 [] → W p l e R s m args below meth c H locs cells slots Q (F0 m 21 ls []) := by
    intro q4 he
    cases he
    intro H locs ls w hl
    exact hret _ _ _ _ _ w (Option.some.inj h) dX8_clears_21
  refine lpo_W (P := fun x : Int32 × PH => ∀ (H : Heap) (locs : List Loc) (ls : Array Slot), Wd D G L A H0 x.2 H locs → lv_has ls 2 [(0, .ref v0), (1, .int x.1)] → W p l e R s m args below meth c H locs cells slots Q (F0 m 2 ls [])) ?_ FU _ hL2 H locs ls w (lv_sub hl [1, 0] rfl)
  intro x y2 h hnext2 hend2
  obtain ⟨t5, S6⟩ := x
  have h : f_X8_clears_L2 S6 v0 t5 = some y2 := h
  unfold f_X8_clears_L2 at h
  intro H locs ls w hl
  have hl : lv_has ls 2 [(0, .ref v0), (1, .int t5)] := hl
  have w : Wd D G L A H0 S6 H locs := w
  refine lv_iload_n hx hb dX8_clears_2 rfl (lv_at hl 1 rfl) ?_
  refine lv_bipush (v := 61) hx hb dX8_clears_3 (by decide) ?_
  refine lv_icmp_ge (tgt := 21) hx hb dX8_clears_5 (by decide) (fun cc5 => ?_) (fun cc5 => ?_)
  · have h := it cc5 h
    exact hE2 _ (hend2 _ (Option.some.inj h).symm).symm H locs ls w (lv_sub hl [] rfl)
  · have h := ie cc5 h
    refine lv_aload_n hx hb dX8_clears_8 rfl (lv_at hl 0 rfl) ?_
    obtain ⟨x7, hx7, h⟩ := bs h
    refine o_gR C w hx7 fl_X8_24 dX8_clears_9 ?_
    refine lv_iload_n hx hb dX8_clears_12 rfl (lv_at hl 1 rfl) ?_
    refine lv_iconst (v := 0) hx hb dX8_clears_13 (by decide) ?_
    obtain ⟨S8, hS8, h⟩ := bs h
    refine o_stZ C w hS8 dX8_clears_14 (fun H locs w => ?_)
    refine lv_iinc (v := (t5 + 1)) (lv' := [(1, .int (t5 + 1)), (0, .ref v0)]) hx hb dX8_clears_15 hl (k := 1) rfl rfl (by decide) rfl (fun ls hl => ?_)
    refine lv_goto (tgt := 2) hx hb dX8_clears_18 (by decide) ?_
    exact hnext2 _ (Option.some.inj h).symm H locs ls w (lv_sub hl [1, 0] rfl)
set_option maxHeartbeats 4000000 in
set_option maxRecDepth 100000 in
theorem c_X8_clears (l : Launch) (D : va_G) (G : Nat → ClassId) (L : List Nat) (S : PH) (v0 : Nat) (r : PH) (h : f_X8_clears S v0 = some r) : Met l yX8_clears [Cond.code yX8_clears cX8_clears 2 none] ({ frames := 0, cells := 0, slots := 0, locals := 0 }) (va_Pc [.ref v0] (PreU D G L S)) (Qv D G L r) 0 0 (inL L) := by
  refine Met.ofW (cc := cX8_clears) (maxL := 2) (ret := none) (by decide) rfl ?_
  intro p e s m args below meth c s₁ B hml hv
  obtain ⟨rfl, hpre⟩ := hv
  obtain ⟨C, w⟩ := o_ent (own := RX8) rfl B hml hpre
  have hl := lv_entry ([.ref v0]) (n := 2) (Nat.le_of_ble_eq_true rfl)
  rw [lg_entry_eq]
  generalize (lg_sl ([.ref v0]) ++ List.replicate (2 - (lg_sl ([.ref v0])).length) Slot.unset).toArray = ls at hl ⊢
  exact w_X8_clears C (fun _ h => h) ⟨Nat.zero_le _, Nat.zero_le _⟩  S v0 r h (fun S9 H locs ls pc w hv hd => by subst hv; exact o_vret C w B.returns B.notSynchronized hd) _ _ _ w hl

def f_X8_judged_b74 (S : PH) (v0 : Nat) (v1 : Int32) (v2 : Int32) (v3 : Int32) (v4 : Int32) (v5 : Int32) (v6 : Int32) : Option ((Int32 × Int32 × PH) ⊕ (Int32 × PH)) :=
some (.inl (v5, (v6 + 1), S))
def f_X8_judged_b63 (S : PH) (v0 : Nat) (v1 : Int32) (v2 : Int32) (v3 : Int32) (v4 : Int32) (v6 : Int32) (v7 : Int32) (s0 : Int32) (s1 : Int32) : Option ((Int32 × Int32 × PH) ⊕ (Int32 × PH)) :=
(ckO S v0 8).bind fun _ =>
(f_X8_meets S v0 v7 v6).bind fun S2 =>
f_X8_judged_b74 S2 v0 v1 v2 v3 v4 (s0 + s1) v6
def f_X8_judged_L10 (S : PH) (v0 : Nat) (v1 : Int32) (v2 : Int32) (v3 : Int32) (v4 : Int32) (v5 : Int32) (v6 : Int32) : Option ((Int32 × Int32 × PH) ⊕ (Int32 × PH)) :=
(gR S v0 8 0).bind fun x3 =>
(ldI S x3 (2 : Int32)).bind fun x4 =>
if x4 ≤ v6 then (
some (.inr (v5, S)))
else (
(ckO S v0 8).bind fun _ =>
(f_X8_isLeft S v0 v1 v6).bind fun x5 =>
if x5 = 0 then (
f_X8_judged_b74 S v0 v1 v2 v3 v4 v5 v6)
else (
(ckO S v0 8).bind fun _ =>
bd2 (f_X8_answerIn S v0 v6 v2 v3 v4) fun x6 S7 =>
(gR S7 v0 8 8).bind fun x8 =>
(ldZ S7 x8 x6).bind fun x9 =>
if x9 = 0 then (
f_X8_judged_b63 S7 v0 v1 v2 v3 v4 v6 x6 v5 (1 : Int32))
else (
f_X8_judged_b63 S7 v0 v1 v2 v3 v4 v6 x6 v5 (0 : Int32))))
def f_X8_judged_b119 (S : PH) (v0 : Nat) (v6 : Int32) : Option ((Int32) ⊕ ((Unit) ⊕ (Int32 × PH))) :=
some (.inl (v6 + 1))
def f_X8_judged_L91 (S : PH) (v0 : Nat) (v6 : Int32) : Option ((Int32) ⊕ ((Unit) ⊕ (Int32 × PH))) :=
if (61 : Int32) ≤ v6 then (
some (.inr (.inl ())))
else (
(gR S v0 8 8).bind fun x12 =>
(ldZ S x12 v6).bind fun x13 =>
if x13 = 0 then (
f_X8_judged_b119 S v0 v6)
else (
(ckO S v0 8).bind fun _ =>
(f_X8_isClose S v0 v6).bind fun x14 =>
if x14 = 0 then (
f_X8_judged_b119 S v0 v6)
else (
some (.inr (.inr ((0 : Int32), S))))))
def f_X8_judged (S : PH) (v0 : Nat) (v1 : Int32) (v2 : Int32) (v3 : Int32) (v4 : Int32) : Option (Int32 × PH) :=
(ckO S v0 8).bind fun _ =>
(f_X8_clears S v0).bind fun S1 =>
bd2 (lpo (fun x : Int32 × Int32 × PH => f_X8_judged_L10 x.2.2 v0 v1 v2 v3 v4 x.1 x.2.1) FU ((0 : Int32), (0 : Int32), S1)) fun y10 S11 =>
if y10 = (1 : Int32) then (
some ((2 : Int32), S11))
else (
bdS (lpo (fun x : Int32 => f_X8_judged_L91 S11 v0 x) FU (0 : Int32)) (fun _ =>
some ((1 : Int32), S11)) some)
set_option maxHeartbeats 4000000 in
set_option maxRecDepth 100000 in
theorem w_X8_judged {p : Program} {l : Launch} {e : Env} {R : Room} {s : State} {m : MethodId} {args : Array Value} {below : List Frame} {meth : Method} {c : Code} {cells slots : Nat} {Q : State → Prop} {D : va_G} {G : Nat → ClassId} {L : List Nat} {A : Nat → Prop} {H0 : Heap} (C : CX p s m c args D G cX8_judged 8 RX8) (hLA : ∀ q ∈ L, A q) (hcs : cells ≤ R.cells ∧ slots ≤ R.slots) (hR_X8_clears : RoomOk R ({ frames := 0, cells := 0, slots := 0, locals := 0 }) 2) (hR_X8_isLeft : RoomOk R ({ frames := 0, cells := 0, slots := 0, locals := 0 }) 3) (hR_X8_answerIn : RoomOk R ({ frames := 3, cells := 0, slots := 0, locals := 65 }) 6) (hR_X8_meets : RoomOk R ({ frames := 3, cells := 0, slots := 0, locals := 65 }) 6) (hR_X8_isClose : RoomOk R ({ frames := 1, cells := 0, slots := 0, locals := 22 }) 4) (S : PH) (v0 : Nat) (v1 : Int32) (v2 : Int32) (v3 : Int32) (v4 : Int32) (r : Int32 × PH) (h : f_X8_judged S v0 v1 v2 v3 v4 = some r) (hret : ∀ (v : Int32) (S9 : PH) (H : Heap) (locs : List Loc) (ls : Array Slot) (pc : Nat), Wd D G L A H0 S9 H locs → (v, S9) = r → decode cX8_judged pc = .ok (.ireturn, 1) → W p l e R s m args below meth c H locs cells slots Q (F0 m pc ls [.int v])) : ∀ (H : Heap) (locs : List Loc) (ls : Array Slot), Wd D G L A H0 S H locs → lv_has ls 8 [(0, .ref v0), (1, .int v1), (2, .int v2), (3, .int v3), (4, .int v4)] → W p l e R s m args below meth c H locs cells slots Q (F0 m 0 ls []) := by
  have hx := C.1.1
  have hb := C.1.2.1
  unfold f_X8_judged at h
  intro H locs ls w hl
  refine lv_aload_n hx hb dX8_judged_0 rfl (lv_at hl 0 rfl) ?_
  obtain ⟨_, ho, h⟩ := bs h
  obtain ⟨S1, hc, h⟩ := bs h
  refine o_backv w hLA (o_runV (As := []) (rest := []) C w (c_X8_clears l D G L S v0 S1 hc) ml_X8_90 mv_X8_clears hR_X8_clears ho rfl hl.1 rfl (Nat.le_of_ble_eq_true rfl) dX8_judged_1 hcs) (fun H locs w => ?_)
  refine lv_iconst (v := 0) hx hb dX8_judged_4 (by decide) ?_
  refine lv_istore (lv' := [(5, .int (0 : Int32)), (0, .ref v0), (1, .int v1), (2, .int v2), (3, .int v3), (4, .int v4)]) hx hb dX8_judged_5 hl (by decide) rfl (fun ls hl => ?_)
  refine lv_iconst (v := 0) hx hb dX8_judged_7 (by decide) ?_
  refine lv_istore (lv' := [(6, .int (0 : Int32)), (5, .int (0 : Int32)), (0, .ref v0), (1, .int v1), (2, .int v2), (3, .int v3), (4, .int v4)]) hx hb dX8_judged_8 hl (by decide) rfl (fun ls hl => ?_)
  obtain ⟨y10, S11, hL10, h⟩ := bs2 h
  have hE10 : ∀ (q20 : Int32) (q21 : PH), (y10, S11) = (q20, q21) → ∀ (H : Heap) (locs : List Loc) (ls : Array Slot), Wd D G L A H0 q21 H locs → lv_has ls 8 [(0, .ref v0), (5, .int q20)] → W p l e R s m args below meth c H locs cells slots Q (F0 m 80 ls []) := by
    intro q20 q21 he
    cases he
    intro H locs ls w hl
    refine lv_iload hx hb dX8_judged_80 (lv_at hl 1 rfl) ?_
    refine lv_iconst (v := 1) hx hb dX8_judged_82 (by decide) ?_
    refine lv_icmp_ne (tgt := 88) hx hb dX8_judged_83 (by decide) (fun cc83 => ?_) (fun cc83 => ?_)
    · have h := ie cc83 h
      refine lv_iconst (v := 0) hx hb dX8_judged_88 (by decide) ?_
      refine lv_istore (lv' := [(6, .int (0 : Int32)), (0, .ref v0), (5, .int y10)]) hx hb dX8_judged_89 hl (by decide) rfl (fun ls hl => ?_)
      obtain ⟨e91, hL91, h⟩ := bs h
      have hE91 : e91 = Sum.inl () → ∀ (H : Heap) (locs : List Loc) (ls : Array Slot), Wd D G L A H0 S11 H locs → lv_has ls 8 [] → W p l e R s m args below meth c H locs cells slots Q (F0 m 125 ls []) := by
        intro he
        subst he
        have h : _ = some r := h
        intro H locs ls w hl
        refine lv_iconst (v := 1) hx hb dX8_judged_125 (by decide) ?_
        exact hret _ _ _ _ _ _ w (Option.some.inj h) dX8_judged_126
      have hR91 : ∀ q, e91 = Sum.inr q → q = r := by
        intro q he
        subst he
        exact Option.some.inj h
      refine lpo_W (P := fun x : Int32 => ∀ (H : Heap) (locs : List Loc) (ls : Array Slot), Wd D G L A H0 S11 H locs → lv_has ls 8 [(0, .ref v0), (6, .int x)] → W p l e R s m args below meth c H locs cells slots Q (F0 m 91 ls [])) ?_ FU _ hL91 H locs ls w (lv_sub hl [1, 0] rfl)
      intro t15 y91 h hnext91 hend91
      have h : f_X8_judged_L91 S11 v0 t15 = some y91 := h
      unfold f_X8_judged_L91 at h
      have hb119 : ∀ (u16 : Int32), f_X8_judged_b119 S11 v0 u16 = some y91 → ∀ (H : Heap) (locs : List Loc) (ls : Array Slot), Wd D G L A H0 S11 H locs → lv_has ls 8 [(0, .ref v0), (6, .int u16)] → W p l e R s m args below meth c H locs cells slots Q (F0 m 119 ls []) := by
        intro u16 h H locs ls w hl
        unfold f_X8_judged_b119 at h
        refine lv_iinc (v := (u16 + 1)) (lv' := [(6, .int (u16 + 1)), (0, .ref v0)]) hx hb dX8_judged_119 hl (k := 1) rfl rfl (by decide) rfl (fun ls hl => ?_)
        refine lv_goto (tgt := 91) hx hb dX8_judged_122 (by decide) ?_
        exact hnext91 _ (Option.some.inj h).symm H locs ls w (lv_sub hl [1, 0] rfl)
      intro H locs ls w hl
      have hl : lv_has ls 8 [(0, .ref v0), (6, .int t15)] := hl
      refine lv_iload hx hb dX8_judged_91 (lv_at hl 1 rfl) ?_
      refine lv_bipush (v := 61) hx hb dX8_judged_93 (by decide) ?_
      refine lv_icmp_ge (tgt := 125) hx hb dX8_judged_95 (by decide) (fun cc95 => ?_) (fun cc95 => ?_)
      · have h := it cc95 h
        exact hE91  (hend91 _ (Option.some.inj h).symm).symm H locs ls w (lv_sub hl [] rfl)
      · have h := ie cc95 h
        refine lv_aload_n hx hb dX8_judged_98 rfl (lv_at hl 0 rfl) ?_
        obtain ⟨x17, hx17, h⟩ := bs h
        refine o_gR C w hx17 fl_X8_24 dX8_judged_99 ?_
        refine lv_iload hx hb dX8_judged_102 (lv_at hl 1 rfl) ?_
        obtain ⟨x18, hx18, h⟩ := bs h
        refine o_ldZ C w hx18 dX8_judged_104 ?_
        refine lv_if_eq (tgt := 119) hx hb dX8_judged_105 (by decide) (fun cc105 => ?_) (fun cc105 => ?_)
        · have h := it cc105 h
          exact hb119 _ h H locs ls w (lv_sub hl [0, 1] rfl)
        · have h := ie cc105 h
          refine lv_aload_n hx hb dX8_judged_108 rfl (lv_at hl 0 rfl) ?_
          refine lv_iload hx hb dX8_judged_109 (lv_at hl 1 rfl) ?_
          obtain ⟨_, ho, h⟩ := bs h
          obtain ⟨x19, hc, h⟩ := bs h
          refine o_backi w hLA (o_runV (As := [.int t15]) (rest := []) C w (c_X8_isClose l D G L S11 v0 t15 x19 hc) ml_X8_103 mv_X8_isClose hR_X8_isClose ho rfl hl.1 rfl (Nat.le_of_ble_eq_true rfl) dX8_judged_111 hcs) (fun H locs w => ?_)
          refine lv_if_eq (tgt := 119) hx hb dX8_judged_114 (by decide) (fun cc114 => ?_) (fun cc114 => ?_)
          · have h := it cc114 h
            exact hb119 _ h H locs ls w (lv_sub hl [0, 1] rfl)
          · have h := ie cc114 h
            refine lv_iconst (v := 0) hx hb dX8_judged_117 (by decide) ?_
            exact hret _ _ _ _ _ _ w (hR91 _ (hend91 _ (Option.some.inj h).symm).symm) dX8_judged_118
    · have h := it cc83 h
      refine lv_iconst (v := 2) hx hb dX8_judged_86 (by decide) ?_
      exact hret _ _ _ _ _ _ w (Option.some.inj h) dX8_judged_87
  refine lpo_W (P := fun x : Int32 × Int32 × PH => ∀ (H : Heap) (locs : List Loc) (ls : Array Slot), Wd D G L A H0 x.2.2 H locs → lv_has ls 8 [(0, .ref v0), (1, .int v1), (2, .int v2), (3, .int v3), (4, .int v4), (5, .int x.1), (6, .int x.2.1)] → W p l e R s m args below meth c H locs cells slots Q (F0 m 10 ls [])) ?_ FU _ hL10 H locs ls w (lv_sub hl [2, 3, 4, 5, 6, 1, 0] rfl)
  intro x y10 h hnext10 hend10
  obtain ⟨t22, t23, S24⟩ := x
  have h : f_X8_judged_L10 S24 v0 v1 v2 v3 v4 t22 t23 = some y10 := h
  unfold f_X8_judged_L10 at h
  have hb74 : ∀ (S25 : PH) (u26 : Int32) (u27 : Int32), f_X8_judged_b74 S25 v0 v1 v2 v3 v4 u26 u27 = some y10 → ∀ (H : Heap) (locs : List Loc) (ls : Array Slot), Wd D G L A H0 S25 H locs → lv_has ls 8 [(0, .ref v0), (1, .int v1), (2, .int v2), (3, .int v3), (4, .int v4), (5, .int u26), (6, .int u27)] → W p l e R s m args below meth c H locs cells slots Q (F0 m 74 ls []) := by
    intro S25 u26 u27 h H locs ls w hl
    unfold f_X8_judged_b74 at h
    refine lv_iinc (v := (u27 + 1)) (lv' := [(6, .int (u27 + 1)), (0, .ref v0), (1, .int v1), (2, .int v2), (3, .int v3), (4, .int v4), (5, .int u26)]) hx hb dX8_judged_74 hl (k := 6) rfl rfl (by decide) rfl (fun ls hl => ?_)
    refine lv_goto (tgt := 10) hx hb dX8_judged_77 (by decide) ?_
    exact hnext10 _ (Option.some.inj h).symm H locs ls w (lv_sub hl [1, 2, 3, 4, 5, 6, 0] rfl)
  have hb63 : ∀ (S28 : PH) (u29 : Int32) (u30 : Int32) (u31 : Int32) (u32 : Int32), f_X8_judged_b63 S28 v0 v1 v2 v3 v4 u29 u30 u31 u32 = some y10 → ∀ (H : Heap) (locs : List Loc) (ls : Array Slot), Wd D G L A H0 S28 H locs → lv_has ls 8 [(0, .ref v0), (1, .int v1), (2, .int v2), (3, .int v3), (4, .int v4), (6, .int u29), (7, .int u30)] → W p l e R s m args below meth c H locs cells slots Q (F0 m 63 ls [.int u32, .int u31]) := by
    intro S28 u29 u30 u31 u32 h H locs ls w hl
    unfold f_X8_judged_b63 at h
    refine lv_iadd hx hb dX8_judged_63 ?_
    refine lv_istore (lv' := [(5, .int (u31 + u32)), (0, .ref v0), (1, .int v1), (2, .int v2), (3, .int v3), (4, .int v4), (6, .int u29), (7, .int u30)]) hx hb dX8_judged_64 hl (by decide) rfl (fun ls hl => ?_)
    refine lv_aload_n hx hb dX8_judged_66 rfl (lv_at hl 1 rfl) ?_
    refine lv_iload hx hb dX8_judged_67 (lv_at hl 7 rfl) ?_
    refine lv_iload hx hb dX8_judged_69 (lv_at hl 6 rfl) ?_
    obtain ⟨_, ho, h⟩ := bs h
    obtain ⟨S33, hc, h⟩ := bs h
    refine o_backv w hLA (o_runV (As := [.int u30, .int u29]) (rest := []) C w (c_X8_meets l D G L S28 v0 u30 u29 S33 hc) ml_X8_100 mv_X8_meets hR_X8_meets ho rfl hl.1 rfl (Nat.le_of_ble_eq_true rfl) dX8_judged_71 hcs) (fun H locs w => ?_)
    exact hb74 _ _ _ h H locs ls w (lv_sub hl [1, 2, 3, 4, 5, 0, 6] rfl)
  intro H locs ls w hl
  have hl : lv_has ls 8 [(0, .ref v0), (1, .int v1), (2, .int v2), (3, .int v3), (4, .int v4), (5, .int t22), (6, .int t23)] := hl
  have w : Wd D G L A H0 S24 H locs := w
  refine lv_iload hx hb dX8_judged_10 (lv_at hl 6 rfl) ?_
  refine lv_aload_n hx hb dX8_judged_12 rfl (lv_at hl 0 rfl) ?_
  obtain ⟨x34, hx34, h⟩ := bs h
  refine o_gR C w hx34 fl_X8_8 dX8_judged_13 ?_
  refine lv_iconst (v := 2) hx hb dX8_judged_16 (by decide) ?_
  obtain ⟨x35, hx35, h⟩ := bs h
  refine o_ldI C w hx35 dX8_judged_17 ?_
  refine lv_icmp_ge (tgt := 80) hx hb dX8_judged_18 (by decide) (fun cc18 => ?_) (fun cc18 => ?_)
  · have h := it cc18 h
    exact hE10 _ _ (hend10 _ (Option.some.inj h).symm).symm H locs ls w (lv_sub hl [0, 5] rfl)
  · have h := ie cc18 h
    refine lv_aload_n hx hb dX8_judged_21 rfl (lv_at hl 0 rfl) ?_
    refine lv_iload_n hx hb dX8_judged_22 rfl (lv_at hl 1 rfl) ?_
    refine lv_iload hx hb dX8_judged_23 (lv_at hl 6 rfl) ?_
    obtain ⟨_, ho, h⟩ := bs h
    obtain ⟨x36, hc, h⟩ := bs h
    refine o_backi w hLA (o_runV (As := [.int v1, .int t23]) (rest := []) C w (c_X8_isLeft l D G L S24 v0 v1 t23 x36 hc) ml_X8_93 mv_X8_isLeft hR_X8_isLeft ho rfl hl.1 rfl (Nat.le_of_ble_eq_true rfl) dX8_judged_25 hcs) (fun H locs w => ?_)
    refine lv_if_ne (tgt := 34) hx hb dX8_judged_28 (by decide) (fun cc28 => ?_) (fun cc28 => ?_)
    · have h := ie cc28 h
      refine lv_aload_n hx hb dX8_judged_34 rfl (lv_at hl 0 rfl) ?_
      refine lv_iload hx hb dX8_judged_35 (lv_at hl 6 rfl) ?_
      refine lv_iload_n hx hb dX8_judged_37 rfl (lv_at hl 2 rfl) ?_
      refine lv_iload_n hx hb dX8_judged_38 rfl (lv_at hl 3 rfl) ?_
      refine lv_iload hx hb dX8_judged_39 (lv_at hl 4 rfl) ?_
      obtain ⟨_, ho, h⟩ := bs h
      obtain ⟨x37, S38, hc, h⟩ := bs2 h
      refine o_backi w hLA (o_runV (As := [.int t23, .int v2, .int v3, .int v4]) (rest := []) C w (c_X8_answerIn l D G L S24 v0 t23 v2 v3 v4 (x37, S38) hc) ml_X8_96 mv_X8_answerIn hR_X8_answerIn ho rfl hl.1 rfl (Nat.le_of_ble_eq_true rfl) dX8_judged_41 hcs) (fun H locs w => ?_)
      refine lv_istore (lv' := [(7, .int x37), (0, .ref v0), (1, .int v1), (2, .int v2), (3, .int v3), (4, .int v4), (5, .int t22), (6, .int t23)]) hx hb dX8_judged_44 hl (by decide) rfl (fun ls hl => ?_)
      refine lv_iload hx hb dX8_judged_46 (lv_at hl 6 rfl) ?_
      refine lv_aload_n hx hb dX8_judged_48 rfl (lv_at hl 1 rfl) ?_
      obtain ⟨x39, hx39, h⟩ := bs h
      refine o_gR C w hx39 fl_X8_24 dX8_judged_49 ?_
      refine lv_iload hx hb dX8_judged_52 (lv_at hl 0 rfl) ?_
      obtain ⟨x40, hx40, h⟩ := bs h
      refine o_ldZ C w hx40 dX8_judged_54 ?_
      refine lv_if_eq (tgt := 62) hx hb dX8_judged_55 (by decide) (fun cc55 => ?_) (fun cc55 => ?_)
      · have h := it cc55 h
        refine lv_iconst (v := 1) hx hb dX8_judged_62 (by decide) ?_
        exact hb63 _ _ _ _ _ h H locs ls w (lv_sub hl [1, 2, 3, 4, 5, 7, 0] rfl)
      · have h := ie cc55 h
        refine lv_iconst (v := 0) hx hb dX8_judged_58 (by decide) ?_
        refine lv_goto (tgt := 63) hx hb dX8_judged_59 (by decide) ?_
        exact hb63 _ _ _ _ _ h H locs ls w (lv_sub hl [1, 2, 3, 4, 5, 7, 0] rfl)
    · have h := it cc28 h
      refine lv_goto (tgt := 74) hx hb dX8_judged_31 (by decide) ?_
      exact hb74 _ _ _ h H locs ls w (lv_sub hl [0, 1, 2, 3, 4, 5, 6] rfl)
set_option maxHeartbeats 4000000 in
set_option maxRecDepth 100000 in
theorem c_X8_judged (l : Launch) (D : va_G) (G : Nat → ClassId) (L : List Nat) (S : PH) (v0 : Nat) (v1 : Int32) (v2 : Int32) (v3 : Int32) (v4 : Int32) (r : Int32 × PH) (h : f_X8_judged S v0 v1 v2 v3 v4 = some r) : Met l yX8_judged [Cond.code yX8_judged cX8_judged 8 (some .int)] ({ frames := 4, cells := 0, slots := 0, locals := 90 }) (va_Pc [.ref v0, .int v1, .int v2, .int v3, .int v4] (PreU D G L S)) (Qi D G L r.1 r.2) 0 0 (inL L) := by
  refine Met.ofW (cc := cX8_judged) (maxL := 8) (ret := (some .int)) (by decide) rfl ?_
  intro p e s m args below meth c s₁ B hml hv
  obtain ⟨rfl, hpre⟩ := hv
  obtain ⟨C, w⟩ := o_ent (own := RX8) rfl B hml hpre
  have hl := lv_entry ([.ref v0, .int v1, .int v2, .int v3, .int v4]) (n := 8) (Nat.le_of_ble_eq_true rfl)
  rw [lg_entry_eq]
  generalize (lg_sl ([.ref v0, .int v1, .int v2, .int v3, .int v4]) ++ List.replicate (8 - (lg_sl ([.ref v0, .int v1, .int v2, .int v3, .int v4])).length) Slot.unset).toArray = ls at hl ⊢
  exact w_X8_judged C (fun _ h => h) ⟨Nat.zero_le _, Nat.zero_le _⟩ ⟨rfl, rfl, Nat.le_of_ble_eq_true rfl, Nat.le_of_ble_eq_true rfl⟩ ⟨rfl, rfl, Nat.le_of_ble_eq_true rfl, Nat.le_of_ble_eq_true rfl⟩ ⟨rfl, rfl, Nat.le_of_ble_eq_true rfl, Nat.le_of_ble_eq_true rfl⟩ ⟨rfl, rfl, Nat.le_of_ble_eq_true rfl, Nat.le_of_ble_eq_true rfl⟩ ⟨rfl, rfl, Nat.le_of_ble_eq_true rfl, Nat.le_of_ble_eq_true rfl⟩ S v0 v1 v2 v3 v4 r h (fun v S9 H locs ls pc w hv hd => by subst hv; exact o_iret C w B.returns B.notSynchronized hd) _ _ _ w hl

def f_X8_would (S : PH) (v0 : Nat) (v1 : Int32) (v2 : Int32) (v3 : Int32) (v4 : Int32) : Option (Int32 × PH) :=
(f_X8_isAsker v1).bind fun x1 =>
if x1 = 0 then (
some ((-1 : Int32), S))
else (
(f_X8_isAsk v2 v4).bind fun x2 =>
if x2 = 0 then (
some ((-1 : Int32), S))
else (
(ckO S v0 8).bind fun _ =>
(f_X8_numbersOf S v0 v3).bind fun x3 =>
(ckO S v0 8).bind fun _ =>
bd2 (f_X8_judged S v0 v1 v2 x3 v4) fun x4 S5 =>
some (x4, S5)))
set_option maxHeartbeats 4000000 in
set_option maxRecDepth 100000 in
theorem w_X8_would {p : Program} {l : Launch} {e : Env} {R : Room} {s : State} {m : MethodId} {args : Array Value} {below : List Frame} {meth : Method} {c : Code} {cells slots : Nat} {Q : State → Prop} {D : va_G} {G : Nat → ClassId} {L : List Nat} {A : Nat → Prop} {H0 : Heap} (C : CX p s m c args D G cX8_would 5 RX8) (hLA : ∀ q ∈ L, A q) (hcs : cells ≤ R.cells ∧ slots ≤ R.slots) (hR_X8_isAsker : RoomOk R ({ frames := 1, cells := 0, slots := 0, locals := 22 }) 1) (hR_X8_isAsk : RoomOk R ({ frames := 1, cells := 0, slots := 0, locals := 22 }) 2) (hR_X8_numbersOf : RoomOk R ({ frames := 0, cells := 0, slots := 0, locals := 0 }) 4) (hR_X8_judged : RoomOk R ({ frames := 4, cells := 0, slots := 0, locals := 90 }) 8) (S : PH) (v0 : Nat) (v1 : Int32) (v2 : Int32) (v3 : Int32) (v4 : Int32) (r : Int32 × PH) (h : f_X8_would S v0 v1 v2 v3 v4 = some r) (hret : ∀ (v : Int32) (S9 : PH) (H : Heap) (locs : List Loc) (ls : Array Slot) (pc : Nat), Wd D G L A H0 S9 H locs → (v, S9) = r → decode cX8_would pc = .ok (.ireturn, 1) → W p l e R s m args below meth c H locs cells slots Q (F0 m pc ls [.int v])) : ∀ (H : Heap) (locs : List Loc) (ls : Array Slot), Wd D G L A H0 S H locs → lv_has ls 5 [(0, .ref v0), (1, .int v1), (2, .int v2), (3, .int v3), (4, .int v4)] → W p l e R s m args below meth c H locs cells slots Q (F0 m 0 ls []) := by
  have hx := C.1.1
  have hb := C.1.2.1
  unfold f_X8_would at h
  intro H locs ls w hl
  refine lv_iload_n hx hb dX8_would_0 rfl (lv_at hl 1 rfl) ?_
  obtain ⟨x1, hc, h⟩ := bs h
  refine o_backi w hLA (o_runS (As := [.int v1]) (rest := []) C w (c_X8_isAsker l D G L S v1 x1 hc) ml_X8_106 st_X8_isAsker hR_X8_isAsker rfl hl.1 rfl (Nat.le_of_ble_eq_true rfl) dX8_would_1 hcs) (fun H locs w => ?_)
  refine lv_if_eq (tgt := 32) hx hb dX8_would_4 (by decide) (fun cc4 => ?_) (fun cc4 => ?_)
  · have h := it cc4 h
    refine lv_iconst (v := -1) hx hb dX8_would_32 (by decide) ?_
    exact hret _ _ _ _ _ _ w (Option.some.inj h) dX8_would_33
  · have h := ie cc4 h
    refine lv_iload_n hx hb dX8_would_7 rfl (lv_at hl 2 rfl) ?_
    refine lv_iload hx hb dX8_would_8 (lv_at hl 4 rfl) ?_
    obtain ⟨x2, hc, h⟩ := bs h
    refine o_backi w hLA (o_runS (As := [.int v2, .int v4]) (rest := []) C w (c_X8_isAsk l D G L S v2 v4 x2 hc) ml_X8_109 st_X8_isAsk hR_X8_isAsk rfl hl.1 rfl (Nat.le_of_ble_eq_true rfl) dX8_would_10 hcs) (fun H locs w => ?_)
    refine lv_if_eq (tgt := 32) hx hb dX8_would_13 (by decide) (fun cc13 => ?_) (fun cc13 => ?_)
    · have h := it cc13 h
      refine lv_iconst (v := -1) hx hb dX8_would_32 (by decide) ?_
      exact hret _ _ _ _ _ _ w (Option.some.inj h) dX8_would_33
    · have h := ie cc13 h
      refine lv_aload_n hx hb dX8_would_16 rfl (lv_at hl 0 rfl) ?_
      refine lv_iload_n hx hb dX8_would_17 rfl (lv_at hl 1 rfl) ?_
      refine lv_iload_n hx hb dX8_would_18 rfl (lv_at hl 2 rfl) ?_
      refine lv_aload_n hx hb dX8_would_19 rfl (lv_at hl 0 rfl) ?_
      refine lv_iload_n hx hb dX8_would_20 rfl (lv_at hl 3 rfl) ?_
      obtain ⟨_, ho, h⟩ := bs h
      obtain ⟨x3, hc, h⟩ := bs h
      refine o_backi w hLA (o_runV (As := [.int v3]) (rest := [.int v2, .int v1, .ref v0]) C w (c_X8_numbersOf l D G L S v0 v3 x3 hc) ml_X8_112 mv_X8_numbersOf hR_X8_numbersOf ho rfl hl.1 rfl (Nat.le_of_ble_eq_true rfl) dX8_would_21 hcs) (fun H locs w => ?_)
      refine lv_iload hx hb dX8_would_24 (lv_at hl 4 rfl) ?_
      obtain ⟨_, ho, h⟩ := bs h
      obtain ⟨x4, S5, hc, h⟩ := bs2 h
      refine o_backi w hLA (o_runV (As := [.int v1, .int v2, .int x3, .int v4]) (rest := []) C w (c_X8_judged l D G L S v0 v1 v2 x3 v4 (x4, S5) hc) ml_X8_115 mv_X8_judged hR_X8_judged ho rfl hl.1 rfl (Nat.le_of_ble_eq_true rfl) dX8_would_26 hcs) (fun H locs w => ?_)
      refine lv_goto (tgt := 33) hx hb dX8_would_29 (by decide) ?_
      exact hret _ _ _ _ _ _ w (Option.some.inj h) dX8_would_33
set_option maxHeartbeats 4000000 in
set_option maxRecDepth 100000 in
theorem c_X8_would (l : Launch) (D : va_G) (G : Nat → ClassId) (L : List Nat) (S : PH) (v0 : Nat) (v1 : Int32) (v2 : Int32) (v3 : Int32) (v4 : Int32) (r : Int32 × PH) (h : f_X8_would S v0 v1 v2 v3 v4 = some r) : Met l yX8_would [Cond.code yX8_would cX8_would 5 (some .int)] ({ frames := 5, cells := 0, slots := 0, locals := 117 }) (va_Pc [.ref v0, .int v1, .int v2, .int v3, .int v4] (PreU D G L S)) (Qi D G L r.1 r.2) 0 0 (inL L) := by
  refine Met.ofW (cc := cX8_would) (maxL := 5) (ret := (some .int)) (by decide) rfl ?_
  intro p e s m args below meth c s₁ B hml hv
  obtain ⟨rfl, hpre⟩ := hv
  obtain ⟨C, w⟩ := o_ent (own := RX8) rfl B hml hpre
  have hl := lv_entry ([.ref v0, .int v1, .int v2, .int v3, .int v4]) (n := 5) (Nat.le_of_ble_eq_true rfl)
  rw [lg_entry_eq]
  generalize (lg_sl ([.ref v0, .int v1, .int v2, .int v3, .int v4]) ++ List.replicate (5 - (lg_sl ([.ref v0, .int v1, .int v2, .int v3, .int v4])).length) Slot.unset).toArray = ls at hl ⊢
  exact w_X8_would C (fun _ h => h) ⟨Nat.zero_le _, Nat.zero_le _⟩ ⟨rfl, rfl, Nat.le_of_ble_eq_true rfl, Nat.le_of_ble_eq_true rfl⟩ ⟨rfl, rfl, Nat.le_of_ble_eq_true rfl, Nat.le_of_ble_eq_true rfl⟩ ⟨rfl, rfl, Nat.le_of_ble_eq_true rfl, Nat.le_of_ble_eq_true rfl⟩ ⟨rfl, rfl, Nat.le_of_ble_eq_true rfl, Nat.le_of_ble_eq_true rfl⟩ S v0 v1 v2 v3 v4 r h (fun v S9 H locs ls pc w hv hd => by subst hv; exact o_iret C w B.returns B.notSynchronized hd) _ _ _ w hl

def f_X8_known (S : PH) (v0 : Nat) (v1 : Int32) : Option (Int32) :=
(gR S v0 8 0).bind fun x1 =>
(ldI S x1 (0 : Int32)).bind fun x2 =>
some (v1 &&& (((1 : Int32) <<< (x2 &&& 31)) - (1 : Int32)))
set_option maxHeartbeats 4000000 in
set_option maxRecDepth 100000 in
theorem w_X8_known {p : Program} {l : Launch} {e : Env} {R : Room} {s : State} {m : MethodId} {args : Array Value} {below : List Frame} {meth : Method} {c : Code} {cells slots : Nat} {Q : State → Prop} {D : va_G} {G : Nat → ClassId} {L : List Nat} {A : Nat → Prop} {H0 : Heap} (C : CX p s m c args D G cX8_known 2 RX8) (hLA : ∀ q ∈ L, A q) (hcs : cells ≤ R.cells ∧ slots ≤ R.slots)  (S : PH) (v0 : Nat) (v1 : Int32) (r : Int32) (h : f_X8_known S v0 v1 = some r) (hret : ∀ (v : Int32) (H : Heap) (locs : List Loc) (ls : Array Slot) (pc : Nat), Wd D G L A H0 S H locs → v = r → decode cX8_known pc = .ok (.ireturn, 1) → W p l e R s m args below meth c H locs cells slots Q (F0 m pc ls [.int v])) : ∀ (H : Heap) (locs : List Loc) (ls : Array Slot), Wd D G L A H0 S H locs → lv_has ls 2 [(0, .ref v0), (1, .int v1)] → W p l e R s m args below meth c H locs cells slots Q (F0 m 0 ls []) := by
  have hx := C.1.1
  have hb := C.1.2.1
  unfold f_X8_known at h
  intro H locs ls w hl
  refine lv_iload_n hx hb dX8_known_0 rfl (lv_at hl 1 rfl) ?_
  refine lv_iconst (v := 1) hx hb dX8_known_1 (by decide) ?_
  refine lv_aload_n hx hb dX8_known_2 rfl (lv_at hl 0 rfl) ?_
  obtain ⟨x1, hx1, h⟩ := bs h
  refine o_gR C w hx1 fl_X8_8 dX8_known_3 ?_
  refine lv_iconst (v := 0) hx hb dX8_known_6 (by decide) ?_
  obtain ⟨x2, hx2, h⟩ := bs h
  refine o_ldI C w hx2 dX8_known_7 ?_
  refine lv_ishl hx hb dX8_known_8 ?_
  refine lv_iconst (v := 1) hx hb dX8_known_9 (by decide) ?_
  refine lv_isub hx hb dX8_known_10 ?_
  refine lv_iand hx hb dX8_known_11 ?_
  exact hret _ _ _ _ _ w (Option.some.inj h) dX8_known_12
set_option maxHeartbeats 4000000 in
set_option maxRecDepth 100000 in
theorem c_X8_known (l : Launch) (D : va_G) (G : Nat → ClassId) (L : List Nat) (S : PH) (v0 : Nat) (v1 : Int32) (r : Int32) (h : f_X8_known S v0 v1 = some r) : Met l yX8_known [Cond.code yX8_known cX8_known 2 (some .int)] ({ frames := 0, cells := 0, slots := 0, locals := 0 }) (va_Pc [.ref v0, .int v1] (PreU D G L S)) (Qi D G L r S) 0 0 (inL L) := by
  refine Met.ofW (cc := cX8_known) (maxL := 2) (ret := (some .int)) (by decide) rfl ?_
  intro p e s m args below meth c s₁ B hml hv
  obtain ⟨rfl, hpre⟩ := hv
  obtain ⟨C, w⟩ := o_ent (own := RX8) rfl B hml hpre
  have hl := lv_entry ([.ref v0, .int v1]) (n := 2) (Nat.le_of_ble_eq_true rfl)
  rw [lg_entry_eq]
  generalize (lg_sl ([.ref v0, .int v1]) ++ List.replicate (2 - (lg_sl ([.ref v0, .int v1])).length) Slot.unset).toArray = ls at hl ⊢
  exact w_X8_known C (fun _ h => h) ⟨Nat.zero_le _, Nat.zero_le _⟩  S v0 v1 r h (fun v H locs ls pc w hv hd => by subst hv; exact o_iret C w B.returns B.notSynchronized hd) _ _ _ w hl
