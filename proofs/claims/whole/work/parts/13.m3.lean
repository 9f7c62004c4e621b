def f_X8_ask_b262 (S : PH) (v0 : Nat) (v1 : Int32) (v2 : Int32) (v4 : Int32) (v5 : Int32) (v6 : Int32) (v8 : Int32) : Option ((Int32 × PH) ⊕ (PH)) :=
some (.inl ((v8 + 1), S))
def f_X8_ask_b256 (S : PH) (v0 : Nat) (v1 : Int32) (v8 : Int32) (v9 : Int32) : Option ((Int32 × PH) ⊕ (PH)) :=
some (.inl ((v9 + 1), S))
def f_X8_ask_L209 (S : PH) (v0 : Nat) (v1 : Int32) (v8 : Int32) (v9 : Int32) : Option ((Int32 × PH) ⊕ (PH)) :=
if (4 : Int32) ≤ v9 then (
some (.inr S))
else (
(gR S v0 8 0).bind fun x22 =>
(ldI S x22 ((6 : Int32) + v9)).bind fun x23 =>
(gR S v0 8 0).bind fun x24 =>
(ldI S x24 ((6 : Int32) + v1)).bind fun x25 =>
if x23 = x25 then (
(gR S v0 8 0).bind fun x26 =>
(stI S x26 (((1130 : Int32) + ((4096 : Int32) * v9)) + v8) (0 : Int32)).bind fun S27 =>
f_X8_ask_b256 S27 v0 v1 v8 v9)
else (
f_X8_ask_b256 S v0 v1 v8 v9))
def f_X8_ask_L166 (S : PH) (v0 : Nat) (v1 : Int32) (v2 : Int32) (v4 : Int32) (v5 : Int32) (v6 : Int32) (v8 : Int32) : Option ((Int32 × PH) ⊕ (PH)) :=
(gR S v0 8 0).bind fun x17 =>
(ldI S x17 (2 : Int32)).bind fun x18 =>
if x18 ≤ v8 then (
some (.inr S))
else (
(ckO S v0 8).bind fun _ =>
(f_X8_isLeft S v0 v1 v8).bind fun x19 =>
if x19 = 0 then (
f_X8_ask_b262 S v0 v1 v2 v4 v5 v6 v8)
else (
(ckO S v0 8).bind fun _ =>
bd2 (f_X8_answerIn S v0 v8 v2 v5 v4) fun x20 S21 =>
if x20 = v6 then (
f_X8_ask_b262 S21 v0 v1 v2 v4 v5 v6 v8)
else (
(lpo (fun x : Int32 × PH => f_X8_ask_L209 x.2 v0 v1 v8 x.1) FU ((0 : Int32), S21)).bind fun S28 =>
f_X8_ask_b262 S28 v0 v1 v2 v4 v5 v6 v8)))
def f_X8_ask_b64 (S : PH) (v0 : Nat) (v1 : Int32) (v2 : Int32) (v3 : Int32) (v4 : Int32) (v5 : Int32) (s0 : Int32) : Option (Int32 × PH) :=
(gR S v0 8 0).bind fun x1 =>
(ldI S x1 (3 : Int32)).bind fun x2 =>
(gR S v0 8 0).bind fun x3 =>
(stI S x3 ((100 : Int32) + ((5 : Int32) * x2)) v1).bind fun S4 =>
(gR S4 v0 8 0).bind fun x5 =>
(stI S4 x5 (((100 : Int32) + ((5 : Int32) * x2)) + (1 : Int32)) v2).bind fun S6 =>
(gR S6 v0 8 0).bind fun x7 =>
(ckO S6 v0 8).bind fun _ =>
(f_X8_known S6 v0 v3).bind fun x8 =>
(stI S6 x7 (((100 : Int32) + ((5 : Int32) * x2)) + (2 : Int32)) x8).bind fun S9 =>
(gR S9 v0 8 0).bind fun x10 =>
(stI S9 x10 (((100 : Int32) + ((5 : Int32) * x2)) + (3 : Int32)) v4).bind fun S11 =>
(gR S11 v0 8 0).bind fun x12 =>
(stI S11 x12 (((100 : Int32) + ((5 : Int32) * x2)) + (4 : Int32)) s0).bind fun S13 =>
(gR S13 v0 8 0).bind fun x14 =>
(ldI S13 x14 (3 : Int32)).bind fun x15 =>
(stI S13 x14 (3 : Int32) (x15 + (1 : Int32))).bind fun S16 =>
if s0 = (-2 : Int32) then (
(gR S16 v0 8 0).bind fun x63 =>
(ldI S16 x63 (4 : Int32)).bind fun x64 =>
(stI S16 x63 (4 : Int32) (x64 + (1 : Int32))).bind fun S65 =>
some (s0, S65))
else (
(lpo (fun x : Int32 × PH => f_X8_ask_L166 x.2 v0 v1 v2 v4 v5 s0 x.1) FU ((0 : Int32), S16)).bind fun S40 =>
some (s0, S40))
def f_X8_ask (S : PH) (v0 : Nat) (v1 : Int32) (v2 : Int32) (v3 : Int32) (v4 : Int32) : Option (Int32 × PH) :=
(f_X8_isAsker v1).bind fun x66 =>
if x66 = 0 then (
some ((-1 : Int32), S))
else (
(f_X8_isAsk v2 v4).bind fun x67 =>
if x67 = 0 then (
some ((-1 : Int32), S))
else (
(gR S v0 8 0).bind fun x68 =>
(ldI S x68 (3 : Int32)).bind fun x69 =>
if x69 = (200 : Int32) then (
some ((-1 : Int32), S))
else (
(ckO S v0 8).bind fun _ =>
(f_X8_numbersOf S v0 v3).bind fun x70 =>
(ckO S v0 8).bind fun _ =>
bd2 (f_X8_judged S v0 v1 v2 x70 v4) fun x71 S72 =>
if x71 = 0 then (
f_X8_ask_b64 S72 v0 v1 v2 v3 v4 x70 (-2 : Int32))
else (
(ckO S72 v0 8).bind fun _ =>
bd2 (f_X8_hiddenAnswer S72 v0 v2 x70 v4) fun x73 S74 =>
f_X8_ask_b64 S74 v0 v1 v2 v3 v4 x70 x73))))
set_option maxHeartbeats 4000000 in
set_option maxRecDepth 100000 in
theorem w_X8_ask {p : Program} {l : Launch} {e : Env} {R : Room} {s : State} {m : MethodId} {args : Array Value} {below : List Frame} {meth : Method} {c : Code} {cells slots : Nat} {Q : State → Prop} {D : va_G} {G : Nat → ClassId} {L : List Nat} {A : Nat → Prop} {H0 : Heap} (C : CX p s m c args D G cX8_ask 10 RX8) (hLA : ∀ q ∈ L, A q) (hcs : cells ≤ R.cells ∧ slots ≤ R.slots) (hR_X8_isAsker : RoomOk R ({ frames := 1, cells := 0, slots := 0, locals := 22 }) 1) (hR_X8_isAsk : RoomOk R ({ frames := 1, cells := 0, slots := 0, locals := 22 }) 2) (hR_X8_numbersOf : RoomOk R ({ frames := 0, cells := 0, slots := 0, locals := 0 }) 4) (hR_X8_judged : RoomOk R ({ frames := 4, cells := 0, slots := 0, locals := 90 }) 8) (hR_X8_hiddenAnswer : RoomOk R ({ frames := 1, cells := 0, slots := 0, locals := 22 }) 5) (hR_X8_known : RoomOk R ({ frames := 0, cells := 0, slots := 0, locals := 0 }) 2) (hR_X8_isLeft : RoomOk R ({ frames := 0, cells := 0, slots := 0, locals := 0 }) 3) (hR_X8_answerIn : RoomOk R ({ frames := 3, cells := 0, slots := 0, locals := 65 }) 6) (S : PH) (v0 : Nat) (v1 : Int32) (v2 : Int32) (v3 : Int32) (v4 : Int32) (r : Int32 × PH) (h : f_X8_ask S v0 v1 v2 v3 v4 = some r) (hret : ∀ (v : Int32) (S9 : PH) (H : Heap) (locs : List Loc) (ls : Array Slot) (pc : Nat), Wd D G L A H0 S9 H locs → (v, S9) = r → decode cX8_ask pc = .ok (.ireturn, 1) → W p l e R s m args below meth c H locs cells slots Q (F0 m pc ls [.int v])) : ∀ (H : Heap) (locs : List Loc) (ls : Array Slot), Wd D G L A H0 S H locs → lv_has ls 10 [(0, .ref v0), (1, .int v1), (2, .int v2), (3, .int v3), (4, .int v4)] → W p l e R s m args below meth c H locs cells slots Q (F0 m 0 ls []) := by
  have hx := C.1.1
  have hb := C.1.2.1
  unfold f_X8_ask at h
  have hb64 : ∀ (S75 : PH) (u76 : Nat) (u77 : Int32) (u78 : Int32) (u79 : Int32) (u80 : Int32) (u81 : Int32) (u82 : Int32), f_X8_ask_b64 S75 u76 u77 u78 u79 u80 u81 u82 = some r → ∀ (H : Heap) (locs : List Loc) (ls : Array Slot), Wd D G L A H0 S75 H locs → lv_has ls 10 [(0, .ref u76), (1, .int u77), (2, .int u78), (3, .int u79), (4, .int u80), (5, .int u81)] → W p l e R s m args below meth c H locs cells slots Q (F0 m 64 ls [.int u82]) := by
    intro S75 u76 u77 u78 u79 u80 u81 u82 h H locs ls w hl
    unfold f_X8_ask_b64 at h
    refine lv_istore (lv' := [(6, .int u82), (0, .ref u76), (1, .int u77), (2, .int u78), (3, .int u79), (4, .int u80), (5, .int u81)]) hx hb dX8_ask_64 hl (by decide) rfl (fun ls hl => ?_)
    refine lv_bipush (v := 100) hx hb dX8_ask_66 (by decide) ?_
    refine lv_iconst (v := 5) hx hb dX8_ask_68 (by decide) ?_
    refine lv_aload_n hx hb dX8_ask_69 rfl (lv_at hl 1 rfl) ?_
    obtain ⟨x83, hx83, h⟩ := bs h
    refine o_gR C w hx83 fl_X8_8 dX8_ask_70 ?_
    refine lv_iconst (v := 3) hx hb dX8_ask_73 (by decide) ?_
    obtain ⟨x84, hx84, h⟩ := bs h
    refine o_ldI C w hx84 dX8_ask_74 ?_
    refine lv_imul hx hb dX8_ask_75 ?_
    refine lv_iadd hx hb dX8_ask_76 ?_
    refine lv_istore (lv' := [(7, .int ((100 : Int32) + ((5 : Int32) * x84))), (6, .int u82), (0, .ref u76), (1, .int u77), (2, .int u78), (3, .int u79), (4, .int u80), (5, .int u81)]) hx hb dX8_ask_77 hl (by decide) rfl (fun ls hl => ?_)
    refine lv_aload_n hx hb dX8_ask_79 rfl (lv_at hl 2 rfl) ?_
    obtain ⟨x85, hx85, h⟩ := bs h
    refine o_gR C w hx85 fl_X8_8 dX8_ask_80 ?_
    refine lv_iload hx hb dX8_ask_83 (lv_at hl 0 rfl) ?_
    refine lv_iload_n hx hb dX8_ask_85 rfl (lv_at hl 3 rfl) ?_
    obtain ⟨S86, hS86, h⟩ := bs h
    refine o_stI C w hS86 dX8_ask_86 (fun H locs w => ?_)
    refine lv_aload_n hx hb dX8_ask_87 rfl (lv_at hl 2 rfl) ?_
    obtain ⟨x87, hx87, h⟩ := bs h
    refine o_gR C w hx87 fl_X8_8 dX8_ask_88 ?_
    refine lv_iload hx hb dX8_ask_91 (lv_at hl 0 rfl) ?_
    refine lv_iconst (v := 1) hx hb dX8_ask_93 (by decide) ?_
    refine lv_iadd hx hb dX8_ask_94 ?_
    refine lv_iload_n hx hb dX8_ask_95 rfl (lv_at hl 4 rfl) ?_
    obtain ⟨S88, hS88, h⟩ := bs h
    refine o_stI C w hS88 dX8_ask_96 (fun H locs w => ?_)
    refine lv_aload_n hx hb dX8_ask_97 rfl (lv_at hl 2 rfl) ?_
    obtain ⟨x89, hx89, h⟩ := bs h
    refine o_gR C w hx89 fl_X8_8 dX8_ask_98 ?_
    refine lv_iload hx hb dX8_ask_101 (lv_at hl 0 rfl) ?_
    refine lv_iconst (v := 2) hx hb dX8_ask_103 (by decide) ?_
    refine lv_iadd hx hb dX8_ask_104 ?_
    refine lv_aload_n hx hb dX8_ask_105 rfl (lv_at hl 2 rfl) ?_
    refine lv_iload_n hx hb dX8_ask_106 rfl (lv_at hl 5 rfl) ?_
    obtain ⟨_, ho, h⟩ := bs h
    obtain ⟨x90, hc, h⟩ := bs h
    refine o_backi w hLA (o_runV (As := [.int u79]) (rest := [.int (((100 : Int32) + ((5 : Int32) * x84)) + (2 : Int32)), .ref x89]) C w (c_X8_known l D G L S88 u76 u79 x90 hc) ml_X8_122 mv_X8_known hR_X8_known ho rfl hl.1 rfl (Nat.le_of_ble_eq_true rfl) dX8_ask_107 hcs) (fun H locs w => ?_)
    obtain ⟨S91, hS91, h⟩ := bs h
    refine o_stI C w hS91 dX8_ask_110 (fun H locs w => ?_)
    refine lv_aload_n hx hb dX8_ask_111 rfl (lv_at hl 2 rfl) ?_
    obtain ⟨x92, hx92, h⟩ := bs h
    refine o_gR C w hx92 fl_X8_8 dX8_ask_112 ?_
    refine lv_iload hx hb dX8_ask_115 (lv_at hl 0 rfl) ?_
    refine lv_iconst (v := 3) hx hb dX8_ask_117 (by decide) ?_
    refine lv_iadd hx hb dX8_ask_118 ?_
    refine lv_iload hx hb dX8_ask_119 (lv_at hl 6 rfl) ?_
    obtain ⟨S93, hS93, h⟩ := bs h
    refine o_stI C w hS93 dX8_ask_121 (fun H locs w => ?_)
    refine lv_aload_n hx hb dX8_ask_122 rfl (lv_at hl 2 rfl) ?_
    obtain ⟨x94, hx94, h⟩ := bs h
    refine o_gR C w hx94 fl_X8_8 dX8_ask_123 ?_
    refine lv_iload hx hb dX8_ask_126 (lv_at hl 0 rfl) ?_
    refine lv_iconst (v := 4) hx hb dX8_ask_128 (by decide) ?_
    refine lv_iadd hx hb dX8_ask_129 ?_
    refine lv_iload hx hb dX8_ask_130 (lv_at hl 1 rfl) ?_
    obtain ⟨S95, hS95, h⟩ := bs h
    refine o_stI C w hS95 dX8_ask_132 (fun H locs w => ?_)
    refine lv_aload_n hx hb dX8_ask_133 rfl (lv_at hl 2 rfl) ?_
    obtain ⟨x96, hx96, h⟩ := bs h
    refine o_gR C w hx96 fl_X8_8 dX8_ask_134 ?_
    refine lv_iconst (v := 3) hx hb dX8_ask_137 (by decide) ?_
    refine lv_dup2_11 hx hb dX8_ask_138 rfl rfl ?_
    obtain ⟨x97, hx97, h⟩ := bs h
    refine o_ldI C w hx97 dX8_ask_139 ?_
    refine lv_iconst (v := 1) hx hb dX8_ask_140 (by decide) ?_
    refine lv_iadd hx hb dX8_ask_141 ?_
    obtain ⟨S98, hS98, h⟩ := bs h
    refine o_stI C w hS98 dX8_ask_142 (fun H locs w => ?_)
    refine lv_iload hx hb dX8_ask_143 (lv_at hl 1 rfl) ?_
    refine lv_bipush (v := -2) hx hb dX8_ask_145 (by decide) ?_
    refine lv_icmp_ne (tgt := 163) hx hb dX8_ask_147 (by decide) (fun cc147 => ?_) (fun cc147 => ?_)
    · have h := ie cc147 h
      refine lv_iconst (v := 0) hx hb dX8_ask_163 (by decide) ?_
      refine lv_istore (lv' := [(8, .int (0 : Int32)), (7, .int ((100 : Int32) + ((5 : Int32) * x84))), (6, .int u82), (0, .ref u76), (1, .int u77), (2, .int u78), (3, .int u79), (4, .int u80), (5, .int u81)]) hx hb dX8_ask_164 hl (by decide) rfl (fun ls hl => ?_)
      obtain ⟨S99, hL166, h⟩ := bs h
      have hE166 : ∀ (q100 : PH), S99 = q100 → ∀ (H : Heap) (locs : List Loc) (ls : Array Slot), Wd D G L A H0 q100 H locs → lv_has ls 10 [(6, .int u82)] → W p l e R s m args below meth c H locs cells slots Q (F0 m 268 ls []) := by
        intro q100 he
        cases he
        intro H locs ls w hl
        refine lv_iload hx hb dX8_ask_268 (lv_at hl 0 rfl) ?_
        exact hret _ _ _ _ _ _ w (Option.some.inj h) dX8_ask_270
      refine lpo_W (P := fun x : Int32 × PH => ∀ (H : Heap) (locs : List Loc) (ls : Array Slot), Wd D G L A H0 x.2 H locs → lv_has ls 10 [(0, .ref u76), (1, .int u77), (2, .int u78), (4, .int u80), (5, .int u81), (6, .int u82), (8, .int x.1)] → W p l e R s m args below meth c H locs cells slots Q (F0 m 166 ls [])) ?_ FU _ hL166 H locs ls w (lv_sub hl [3, 4, 5, 7, 8, 2, 0] rfl)
      intro x y166 h hnext166 hend166
      obtain ⟨t101, S102⟩ := x
      have h : f_X8_ask_L166 S102 u76 u77 u78 u80 u81 u82 t101 = some y166 := h
      unfold f_X8_ask_L166 at h
      have hb262 : ∀ (S103 : PH) (u104 : Int32), f_X8_ask_b262 S103 u76 u77 u78 u80 u81 u82 u104 = some y166 → ∀ (H : Heap) (locs : List Loc) (ls : Array Slot), Wd D G L A H0 S103 H locs → lv_has ls 10 [(0, .ref u76), (1, .int u77), (2, .int u78), (4, .int u80), (5, .int u81), (6, .int u82), (8, .int u104)] → W p l e R s m args below meth c H locs cells slots Q (F0 m 262 ls []) := by
        intro S103 u104 h H locs ls w hl
        unfold f_X8_ask_b262 at h
        refine lv_iinc (v := (u104 + 1)) (lv' := [(8, .int (u104 + 1)), (0, .ref u76), (1, .int u77), (2, .int u78), (4, .int u80), (5, .int u81), (6, .int u82)]) hx hb dX8_ask_262 hl (k := 6) rfl rfl (by decide) rfl (fun ls hl => ?_)
        refine lv_goto (tgt := 166) hx hb dX8_ask_265 (by decide) ?_
        exact hnext166 _ (Option.some.inj h).symm H locs ls w (lv_sub hl [1, 2, 3, 4, 5, 6, 0] rfl)
      intro H locs ls w hl
      have hl : lv_has ls 10 [(0, .ref u76), (1, .int u77), (2, .int u78), (4, .int u80), (5, .int u81), (6, .int u82), (8, .int t101)] := hl
      have w : Wd D G L A H0 S102 H locs := w
      refine lv_iload hx hb dX8_ask_166 (lv_at hl 6 rfl) ?_
      refine lv_aload_n hx hb dX8_ask_168 rfl (lv_at hl 0 rfl) ?_
      obtain ⟨x105, hx105, h⟩ := bs h
      refine o_gR C w hx105 fl_X8_8 dX8_ask_169 ?_
      refine lv_iconst (v := 2) hx hb dX8_ask_172 (by decide) ?_
      obtain ⟨x106, hx106, h⟩ := bs h
      refine o_ldI C w hx106 dX8_ask_173 ?_
      refine lv_icmp_ge (tgt := 268) hx hb dX8_ask_174 (by decide) (fun cc174 => ?_) (fun cc174 => ?_)
      · have h := it cc174 h
        exact hE166 _ (hend166 _ (Option.some.inj h).symm).symm H locs ls w (lv_sub hl [5] rfl)
      · have h := ie cc174 h
        refine lv_aload_n hx hb dX8_ask_177 rfl (lv_at hl 0 rfl) ?_
        refine lv_iload_n hx hb dX8_ask_178 rfl (lv_at hl 1 rfl) ?_
        refine lv_iload hx hb dX8_ask_179 (lv_at hl 6 rfl) ?_
        obtain ⟨_, ho, h⟩ := bs h
        obtain ⟨x107, hc, h⟩ := bs h
        refine o_backi w hLA (o_runV (As := [.int u77, .int t101]) (rest := []) C w (c_X8_isLeft l D G L S102 u76 u77 t101 x107 hc) ml_X8_93 mv_X8_isLeft hR_X8_isLeft ho rfl hl.1 rfl (Nat.le_of_ble_eq_true rfl) dX8_ask_181 hcs) (fun H locs w => ?_)
        refine lv_if_eq (tgt := 262) hx hb dX8_ask_184 (by decide) (fun cc184 => ?_) (fun cc184 => ?_)
        · have h := it cc184 h
          exact hb262 _ _ h H locs ls w (lv_sub hl [0, 1, 2, 3, 4, 5, 6] rfl)
        · have h := ie cc184 h
          refine lv_aload_n hx hb dX8_ask_187 rfl (lv_at hl 0 rfl) ?_
          refine lv_iload hx hb dX8_ask_188 (lv_at hl 6 rfl) ?_
          refine lv_iload_n hx hb dX8_ask_190 rfl (lv_at hl 2 rfl) ?_
          refine lv_iload hx hb dX8_ask_191 (lv_at hl 4 rfl) ?_
          refine lv_iload hx hb dX8_ask_193 (lv_at hl 3 rfl) ?_
          obtain ⟨_, ho, h⟩ := bs h
          obtain ⟨x108, S109, hc, h⟩ := bs2 h
          refine o_backi w hLA (o_runV (As := [.int t101, .int u78, .int u81, .int u80]) (rest := []) C w (c_X8_answerIn l D G L S102 u76 t101 u78 u81 u80 (x108, S109) hc) ml_X8_96 mv_X8_answerIn hR_X8_answerIn ho rfl hl.1 rfl (Nat.le_of_ble_eq_true rfl) dX8_ask_195 hcs) (fun H locs w => ?_)
          refine lv_iload hx hb dX8_ask_198 (lv_at hl 5 rfl) ?_
          refine lv_icmp_ne (tgt := 206) hx hb dX8_ask_200 (by decide) (fun cc200 => ?_) (fun cc200 => ?_)
          · have h := ie cc200 h
            refine lv_iconst (v := 0) hx hb dX8_ask_206 (by decide) ?_
            refine lv_istore (lv' := [(9, .int (0 : Int32)), (0, .ref u76), (1, .int u77), (2, .int u78), (4, .int u80), (5, .int u81), (6, .int u82), (8, .int t101)]) hx hb dX8_ask_207 hl (by decide) rfl (fun ls hl => ?_)
            obtain ⟨S110, hL209, h⟩ := bs h
            have hE209 : ∀ (q111 : PH), S110 = q111 → ∀ (H : Heap) (locs : List Loc) (ls : Array Slot), Wd D G L A H0 q111 H locs → lv_has ls 10 [(0, .ref u76), (1, .int u77), (2, .int u78), (4, .int u80), (5, .int u81), (6, .int u82), (8, .int t101)] → W p l e R s m args below meth c H locs cells slots Q (F0 m 262 ls []) := by
              intro q111 he
              cases he
              intro H locs ls w hl
              exact hb262 _ _ h H locs ls w (lv_sub hl [0, 1, 2, 3, 4, 5, 6] rfl)
            refine lpo_W (P := fun x : Int32 × PH => ∀ (H : Heap) (locs : List Loc) (ls : Array Slot), Wd D G L A H0 x.2 H locs → lv_has ls 10 [(0, .ref u76), (1, .int u77), (2, .int u78), (4, .int u80), (5, .int u81), (6, .int u82), (8, .int t101), (9, .int x.1)] → W p l e R s m args below meth c H locs cells slots Q (F0 m 209 ls [])) ?_ FU _ hL209 H locs ls w (lv_sub hl [1, 2, 3, 4, 5, 6, 7, 0] rfl)
            intro x y209 h hnext209 hend209
            obtain ⟨t112, S113⟩ := x
            have h : f_X8_ask_L209 S113 u76 u77 t101 t112 = some y209 := h
            unfold f_X8_ask_L209 at h
            have hb256 : ∀ (S114 : PH) (u115 : Int32), f_X8_ask_b256 S114 u76 u77 t101 u115 = some y209 → ∀ (H : Heap) (locs : List Loc) (ls : Array Slot), Wd D G L A H0 S114 H locs → lv_has ls 10 [(0, .ref u76), (1, .int u77), (2, .int u78), (4, .int u80), (5, .int u81), (6, .int u82), (8, .int t101), (9, .int u115)] → W p l e R s m args below meth c H locs cells slots Q (F0 m 256 ls []) := by
              intro S114 u115 h H locs ls w hl
              unfold f_X8_ask_b256 at h
              refine lv_iinc (v := (u115 + 1)) (lv' := [(9, .int (u115 + 1)), (0, .ref u76), (1, .int u77), (2, .int u78), (4, .int u80), (5, .int u81), (6, .int u82), (8, .int t101)]) hx hb dX8_ask_256 hl (k := 7) rfl rfl (by decide) rfl (fun ls hl => ?_)
              refine lv_goto (tgt := 209) hx hb dX8_ask_259 (by decide) ?_
              exact hnext209 _ (Option.some.inj h).symm H locs ls w (lv_sub hl [1, 2, 3, 4, 5, 6, 7, 0] rfl)
            intro H locs ls w hl
            have hl : lv_has ls 10 [(0, .ref u76), (1, .int u77), (2, .int u78), (4, .int u80), (5, .int u81), (6, .int u82), (8, .int t101), (9, .int t112)] := hl
            have w : Wd D G L A H0 S113 H locs := w
            refine lv_iload hx hb dX8_ask_209 (lv_at hl 7 rfl) ?_
            refine lv_iconst (v := 4) hx hb dX8_ask_211 (by decide) ?_
            refine lv_icmp_ge (tgt := 262) hx hb dX8_ask_212 (by decide) (fun cc212 => ?_) (fun cc212 => ?_)
            · have h := it cc212 h
              exact hE209 _ (hend209 _ (Option.some.inj h).symm).symm H locs ls w (lv_sub hl [0, 1, 2, 3, 4, 5, 6] rfl)
            · have h := ie cc212 h
              refine lv_aload_n hx hb dX8_ask_215 rfl (lv_at hl 0 rfl) ?_
              obtain ⟨x116, hx116, h⟩ := bs h
              refine o_gR C w hx116 fl_X8_8 dX8_ask_216 ?_
              refine lv_bipush (v := 6) hx hb dX8_ask_219 (by decide) ?_
              refine lv_iload hx hb dX8_ask_221 (lv_at hl 7 rfl) ?_
              refine lv_iadd hx hb dX8_ask_223 ?_
              obtain ⟨x117, hx117, h⟩ := bs h
              refine o_ldI C w hx117 dX8_ask_224 ?_
              refine lv_aload_n hx hb dX8_ask_225 rfl (lv_at hl 0 rfl) ?_
              obtain ⟨x118, hx118, h⟩ := bs h
              refine o_gR C w hx118 fl_X8_8 dX8_ask_226 ?_
              refine lv_bipush (v := 6) hx hb dX8_ask_229 (by decide) ?_
              refine lv_iload_n hx hb dX8_ask_231 rfl (lv_at hl 1 rfl) ?_
              refine lv_iadd hx hb dX8_ask_232 ?_
              obtain ⟨x119, hx119, h⟩ := bs h
              refine o_ldI C w hx119 dX8_ask_233 ?_
              refine lv_icmp_ne (tgt := 256) hx hb dX8_ask_234 (by decide) (fun cc234 => ?_) (fun cc234 => ?_)
              · have h := ie cc234 h
                exact hb256 _ _ h H locs ls w (lv_sub hl [0, 1, 2, 3, 4, 5, 6, 7] rfl)
              · have h := it cc234 h
                refine lv_aload_n hx hb dX8_ask_237 rfl (lv_at hl 0 rfl) ?_
                obtain ⟨x120, hx120, h⟩ := bs h
                refine o_gR C w hx120 fl_X8_8 dX8_ask_238 ?_
                refine lv_sipush (v := 1130) hx hb dX8_ask_241 (by decide) ?_
                refine lv_sipush (v := 4096) hx hb dX8_ask_244 (by decide) ?_
                refine lv_iload hx hb dX8_ask_247 (lv_at hl 7 rfl) ?_
                refine lv_imul hx hb dX8_ask_249 ?_
                refine lv_iadd hx hb dX8_ask_250 ?_
                refine lv_iload hx hb dX8_ask_251 (lv_at hl 6 rfl) ?_
                refine lv_iadd hx hb dX8_ask_253 ?_
                refine lv_iconst (v := 0) hx hb dX8_ask_254 (by decide) ?_
                obtain ⟨S121, hS121, h⟩ := bs h
                refine o_stI C w hS121 dX8_ask_255 (fun H locs w => ?_)
                exact hb256 _ _ h H locs ls w (lv_sub hl [0, 1, 2, 3, 4, 5, 6, 7] rfl)
          · have h := it cc200 h
            refine lv_goto (tgt := 262) hx hb dX8_ask_203 (by decide) ?_
            exact hb262 _ _ h H locs ls w (lv_sub hl [0, 1, 2, 3, 4, 5, 6] rfl)
    · have h := it cc147 h
      refine lv_aload_n hx hb dX8_ask_150 rfl (lv_at hl 2 rfl) ?_
      obtain ⟨x122, hx122, h⟩ := bs h
      refine o_gR C w hx122 fl_X8_8 dX8_ask_151 ?_
      refine lv_iconst (v := 4) hx hb dX8_ask_154 (by decide) ?_
      refine lv_dup2_11 hx hb dX8_ask_155 rfl rfl ?_
      obtain ⟨x123, hx123, h⟩ := bs h
      refine o_ldI C w hx123 dX8_ask_156 ?_
      refine lv_iconst (v := 1) hx hb dX8_ask_157 (by decide) ?_
      refine lv_iadd hx hb dX8_ask_158 ?_
      obtain ⟨S124, hS124, h⟩ := bs h
      refine o_stI C w hS124 dX8_ask_159 (fun H locs w => ?_)
      refine lv_iload hx hb dX8_ask_160 (lv_at hl 1 rfl) ?_
      exact hret _ _ _ _ _ _ w (Option.some.inj h) dX8_ask_162
  intro H locs ls w hl
  refine lv_iload_n hx hb dX8_ask_0 rfl (lv_at hl 1 rfl) ?_
  obtain ⟨x66, hc, h⟩ := bs h
  refine o_backi w hLA (o_runS (As := [.int v1]) (rest := []) C w (c_X8_isAsker l D G L S v1 x66 hc) ml_X8_106 st_X8_isAsker hR_X8_isAsker rfl hl.1 rfl (Nat.le_of_ble_eq_true rfl) dX8_ask_1 hcs) (fun H locs w => ?_)
  refine lv_if_eq (tgt := 28) hx hb dX8_ask_4 (by decide) (fun cc4 => ?_) (fun cc4 => ?_)
  · have h := it cc4 h
    refine lv_iconst (v := -1) hx hb dX8_ask_28 (by decide) ?_
    exact hret _ _ _ _ _ _ w (Option.some.inj h) dX8_ask_29
  · have h := ie cc4 h
    refine lv_iload_n hx hb dX8_ask_7 rfl (lv_at hl 2 rfl) ?_
    refine lv_iload hx hb dX8_ask_8 (lv_at hl 4 rfl) ?_
    obtain ⟨x67, hc, h⟩ := bs h
    refine o_backi w hLA (o_runS (As := [.int v2, .int v4]) (rest := []) C w (c_X8_isAsk l D G L S v2 v4 x67 hc) ml_X8_109 st_X8_isAsk hR_X8_isAsk rfl hl.1 rfl (Nat.le_of_ble_eq_true rfl) dX8_ask_10 hcs) (fun H locs w => ?_)
    refine lv_if_eq (tgt := 28) hx hb dX8_ask_13 (by decide) (fun cc13 => ?_) (fun cc13 => ?_)
    · have h := it cc13 h
      refine lv_iconst (v := -1) hx hb dX8_ask_28 (by decide) ?_
      exact hret _ _ _ _ _ _ w (Option.some.inj h) dX8_ask_29
    · have h := ie cc13 h
      refine lv_aload_n hx hb dX8_ask_16 rfl (lv_at hl 0 rfl) ?_
      obtain ⟨x68, hx68, h⟩ := bs h
      refine o_gR C w hx68 fl_X8_8 dX8_ask_17 ?_
      refine lv_iconst (v := 3) hx hb dX8_ask_20 (by decide) ?_
      obtain ⟨x69, hx69, h⟩ := bs h
      refine o_ldI C w hx69 dX8_ask_21 ?_
      refine lv_sipush (v := 200) hx hb dX8_ask_22 (by decide) ?_
      refine lv_icmp_ne (tgt := 30) hx hb dX8_ask_25 (by decide) (fun cc25 => ?_) (fun cc25 => ?_)
      · have h := ie cc25 h
        refine lv_aload_n hx hb dX8_ask_30 rfl (lv_at hl 0 rfl) ?_
        refine lv_iload_n hx hb dX8_ask_31 rfl (lv_at hl 3 rfl) ?_
        obtain ⟨_, ho, h⟩ := bs h
        obtain ⟨x70, hc, h⟩ := bs h
        refine o_backi w hLA (o_runV (As := [.int v3]) (rest := []) C w (c_X8_numbersOf l D G L S v0 v3 x70 hc) ml_X8_112 mv_X8_numbersOf hR_X8_numbersOf ho rfl hl.1 rfl (Nat.le_of_ble_eq_true rfl) dX8_ask_32 hcs) (fun H locs w => ?_)
        refine lv_istore (lv' := [(5, .int x70), (0, .ref v0), (1, .int v1), (2, .int v2), (3, .int v3), (4, .int v4)]) hx hb dX8_ask_35 hl (by decide) rfl (fun ls hl => ?_)
        refine lv_aload_n hx hb dX8_ask_37 rfl (lv_at hl 1 rfl) ?_
        refine lv_iload_n hx hb dX8_ask_38 rfl (lv_at hl 2 rfl) ?_
        refine lv_iload_n hx hb dX8_ask_39 rfl (lv_at hl 3 rfl) ?_
        refine lv_iload hx hb dX8_ask_40 (lv_at hl 0 rfl) ?_
        refine lv_iload hx hb dX8_ask_42 (lv_at hl 5 rfl) ?_
        obtain ⟨_, ho, h⟩ := bs h
        obtain ⟨x71, S72, hc, h⟩ := bs2 h
        refine o_backi w hLA (o_runV (As := [.int v1, .int v2, .int x70, .int v4]) (rest := []) C w (c_X8_judged l D G L S v0 v1 v2 x70 v4 (x71, S72) hc) ml_X8_115 mv_X8_judged hR_X8_judged ho rfl hl.1 rfl (Nat.le_of_ble_eq_true rfl) dX8_ask_44 hcs) (fun H locs w => ?_)
        refine lv_if_ne (tgt := 55) hx hb dX8_ask_47 (by decide) (fun cc47 => ?_) (fun cc47 => ?_)
        · have h := ie cc47 h
          refine lv_aload_n hx hb dX8_ask_55 rfl (lv_at hl 1 rfl) ?_
          refine lv_iload_n hx hb dX8_ask_56 rfl (lv_at hl 3 rfl) ?_
          refine lv_iload hx hb dX8_ask_57 (lv_at hl 0 rfl) ?_
          refine lv_iload hx hb dX8_ask_59 (lv_at hl 5 rfl) ?_
          obtain ⟨_, ho, h⟩ := bs h
          obtain ⟨x73, S74, hc, h⟩ := bs2 h
          refine o_backi w hLA (o_runV (As := [.int v2, .int x70, .int v4]) (rest := []) C w (c_X8_hiddenAnswer l D G L S72 v0 v2 x70 v4 (x73, S74) hc) ml_X8_118 mv_X8_hiddenAnswer hR_X8_hiddenAnswer ho rfl hl.1 rfl (Nat.le_of_ble_eq_true rfl) dX8_ask_61 hcs) (fun H locs w => ?_)
          exact hb64 _ _ _ _ _ _ _ _ h H locs ls w (lv_sub hl [1, 2, 3, 4, 5, 0] rfl)
        · have h := it cc47 h
          refine lv_bipush (v := -2) hx hb dX8_ask_50 (by decide) ?_
          refine lv_goto (tgt := 64) hx hb dX8_ask_52 (by decide) ?_
          exact hb64 _ _ _ _ _ _ _ _ h H locs ls w (lv_sub hl [1, 2, 3, 4, 5, 0] rfl)
      · have h := it cc25 h
        refine lv_iconst (v := -1) hx hb dX8_ask_28 (by decide) ?_
        exact hret _ _ _ _ _ _ w (Option.some.inj h) dX8_ask_29
set_option maxHeartbeats 4000000 in
set_option maxRecDepth 100000 in
theorem c_X8_ask (l : Launch) (D : va_G) (G : Nat → ClassId) (L : List Nat) (S : PH) (v0 : Nat) (v1 : Int32) (v2 : Int32) (v3 : Int32) (v4 : Int32) (r : Int32 × PH) (h : f_X8_ask S v0 v1 v2 v3 v4 = some r) : Met l yX8_ask [Cond.code yX8_ask cX8_ask 10 (some .int)] ({ frames := 5, cells := 0, slots := 0, locals := 117 }) (va_Pc [.ref v0, .int v1, .int v2, .int v3, .int v4] (PreU D G L S)) (Qi D G L r.1 r.2) 0 0 (inL L) := by
  refine Met.ofW (cc := cX8_ask) (maxL := 10) (ret := (some .int)) (by decide) rfl ?_
  intro p e s m args below meth c s₁ B hml hv
  obtain ⟨rfl, hpre⟩ := hv
  obtain ⟨C, w⟩ := o_ent (own := RX8) rfl B hml hpre
  have hl := lv_entry ([.ref v0, .int v1, .int v2, .int v3, .int v4]) (n := 10) (Nat.le_of_ble_eq_true rfl)
  rw [lg_entry_eq]
  generalize (lg_sl ([.ref v0, .int v1, .int v2, .int v3, .int v4]) ++ List.replicate (10 - (lg_sl ([.ref v0, .int v1, .int v2, .int v3, .int v4])).length) Slot.unset).toArray = ls at hl ⊢
  exact w_X8_ask C (fun _ h => h) ⟨Nat.zero_le _, Nat.zero_le _⟩ ⟨rfl, rfl, Nat.le_of_ble_eq_true rfl, Nat.le_of_ble_eq_true rfl⟩ ⟨rfl, rfl, Nat.le_of_ble_eq_true rfl, Nat.le_of_ble_eq_true rfl⟩ ⟨rfl, rfl, Nat.le_of_ble_eq_true rfl, Nat.le_of_ble_eq_true rfl⟩ ⟨rfl, rfl, Nat.le_of_ble_eq_true rfl, Nat.le_of_ble_eq_true rfl⟩ ⟨rfl, rfl, Nat.le_of_ble_eq_true rfl, Nat.le_of_ble_eq_true rfl⟩ ⟨rfl, rfl, Nat.le_of_ble_eq_true rfl, Nat.le_of_ble_eq_true rfl⟩ ⟨rfl, rfl, Nat.le_of_ble_eq_true rfl, Nat.le_of_ble_eq_true rfl⟩ ⟨rfl, rfl, Nat.le_of_ble_eq_true rfl, Nat.le_of_ble_eq_true rfl⟩ S v0 v1 v2 v3 v4 r h (fun v S9 H locs ls pc w hv hd => by subst hv; exact o_iret C w B.returns B.notSynchronized hd) _ _ _ w hl

def f_X8_join_b181 (S : PH) (v0 : Nat) (v3 : Int32) (v4 : Int32) (v6 : Int32) (v7 : Int32) (v8 : Int32) : Option ((Int32 × PH) ⊕ (PH)) :=
some (.inl ((v8 + 1), S))
def f_X8_join_b161 (S : PH) (v0 : Nat) (v3 : Int32) (v4 : Int32) (v6 : Int32) (v7 : Int32) (v8 : Int32) : Option ((Int32 × PH) ⊕ (PH)) :=
(gR S v0 8 0).bind fun x7 =>
(stI S x7 (((1130 : Int32) + ((4096 : Int32) * v8)) + v6) v7).bind fun S8 =>
f_X8_join_b181 S8 v0 v3 v4 v6 v7 v8
def f_X8_join_L126 (S : PH) (v0 : Nat) (v3 : Int32) (v4 : Int32) (v6 : Int32) (v7 : Int32) (v8 : Int32) : Option ((Int32 × PH) ⊕ (PH)) :=
if (4 : Int32) ≤ v8 then (
some (.inr S))
else (
(gR S v0 8 0).bind fun x9 =>
(ldI S x9 ((6 : Int32) + v8)).bind fun x10 =>
if x10 = v3 then (
f_X8_join_b161 S v0 v3 v4 v6 v7 v8)
else (
(gR S v0 8 0).bind fun x11 =>
(ldI S x11 ((6 : Int32) + v8)).bind fun x12 =>
if x12 = v4 then (
f_X8_join_b161 S v0 v3 v4 v6 v7 v8)
else (
f_X8_join_b181 S v0 v3 v4 v6 v7 v8)))
def f_X8_join_L75 (S : PH) (v0 : Nat) (v1 : Int32) (v2 : Int32) (v3 : Int32) (v4 : Int32) (v6 : Int32) : Option ((Int32 × PH) ⊕ (PH)) :=
(gR S v0 8 0).bind fun x1 =>
(ldI S x1 (2 : Int32)).bind fun x2 =>
if x2 ≤ v6 then (
some (.inr S))
else (
(gR S v0 8 0).bind fun x3 =>
(ldI S x3 (((1130 : Int32) + ((4096 : Int32) * v1)) + v6)).bind fun x4 =>
(gR S v0 8 0).bind fun x5 =>
(ldI S x5 (((1130 : Int32) + ((4096 : Int32) * v2)) + v6)).bind fun x6 =>
(lpo (fun x : Int32 × PH => f_X8_join_L126 x.2 v0 v3 v4 v6 (x4 * x6) x.1) FU ((0 : Int32), S)).bind fun S13 =>
some (.inl ((v6 + 1), S13)))
def f_X8_join_b243 (S : PH) (v0 : Nat) (v3 : Int32) (v4 : Int32) (v5 : Int32) (v6 : Int32) : Option ((Int32 × PH) ⊕ (PH)) :=
some (.inl ((v6 + 1), S))
def f_X8_join_b231 (S : PH) (v0 : Nat) (v3 : Int32) (v4 : Int32) (v5 : Int32) (v6 : Int32) : Option ((Int32 × PH) ⊕ (PH)) :=
(gR S v0 8 0).bind fun x28 =>
(stI S x28 ((6 : Int32) + v6) v5).bind fun S29 =>
f_X8_join_b243 S29 v0 v3 v4 v5 v6
def f_X8_join_L196 (S : PH) (v0 : Nat) (v3 : Int32) (v4 : Int32) (v5 : Int32) (v6 : Int32) : Option ((Int32 × PH) ⊕ (PH)) :=
if (4 : Int32) ≤ v6 then (
some (.inr S))
else (
(gR S v0 8 0).bind fun x30 =>
(ldI S x30 ((6 : Int32) + v6)).bind fun x31 =>
if x31 = v3 then (
f_X8_join_b231 S v0 v3 v4 v5 v6)
else (
(gR S v0 8 0).bind fun x32 =>
(ldI S x32 ((6 : Int32) + v6)).bind fun x33 =>
if x33 = v4 then (
f_X8_join_b231 S v0 v3 v4 v5 v6)
else (
f_X8_join_b243 S v0 v3 v4 v5 v6)))
def f_X8_join_b70 (S : PH) (v0 : Nat) (v1 : Int32) (v2 : Int32) (v3 : Int32) (v4 : Int32) (s0 : Int32) : Option (Int32 × PH) :=
(lpo (fun x : Int32 × PH => f_X8_join_L75 x.2 v0 v1 v2 v3 v4 x.1) FU ((0 : Int32), S)).bind fun S27 =>
(lpo (fun x : Int32 × PH => f_X8_join_L196 x.2 v0 v3 v4 s0 x.1) FU ((0 : Int32), S27)).bind fun S34 =>
some ((1 : Int32), S34)
def f_X8_join (S : PH) (v0 : Nat) (v1 : Int32) (v2 : Int32) : Option (Int32 × PH) :=
(f_X8_isAsker v1).bind fun x71 =>
if x71 = 0 then (
some ((0 : Int32), S))
else (
(f_X8_isAsker v2).bind fun x72 =>
if x72 = 0 then (
some ((0 : Int32), S))
else (
(gR S v0 8 0).bind fun x73 =>
(ldI S x73 ((6 : Int32) + v1)).bind fun x74 =>
(gR S v0 8 0).bind fun x75 =>
(ldI S x75 ((6 : Int32) + v2)).bind fun x76 =>
if x74 = x76 then (
some ((0 : Int32), S))
else (
(gR S v0 8 0).bind fun x77 =>
(ldI S x77 ((6 : Int32) + v1)).bind fun x78 =>
(gR S v0 8 0).bind fun x79 =>
(ldI S x79 ((6 : Int32) + v2)).bind fun x80 =>
if x80 ≤ x78 then (
f_X8_join_b70 S v0 v1 v2 x78 x80 x80)
else (
f_X8_join_b70 S v0 v1 v2 x78 x80 x78))))
set_option maxHeartbeats 4000000 in
set_option maxRecDepth 100000 in
theorem w_X8_join {p : Program} {l : Launch} {e : Env} {R : Room} {s : State} {m : MethodId} {args : Array Value} {below : List Frame} {meth : Method} {c : Code} {cells slots : Nat} {Q : State → Prop} {D : va_G} {G : Nat → ClassId} {L : List Nat} {A : Nat → Prop} {H0 : Heap} (C : CX p s m c args D G cX8_join 9 RX8) (hLA : ∀ q ∈ L, A q) (hcs : cells ≤ R.cells ∧ slots ≤ R.slots) (hR_X8_isAsker : RoomOk R ({ frames := 1, cells := 0, slots := 0, locals := 22 }) 1) (S : PH) (v0 : Nat) (v1 : Int32) (v2 : Int32) (r : Int32 × PH) (h : f_X8_join S v0 v1 v2 = some r) (hret : ∀ (v : Int32) (S9 : PH) (H : Heap) (locs : List Loc) (ls : Array Slot) (pc : Nat), Wd D G L A H0 S9 H locs → narrow .boolean (.int v) = .int v → (v, S9) = r → decode cX8_join pc = .ok (.ireturn, 1) → W p l e R s m args below meth c H locs cells slots Q (F0 m pc ls [.int v])) : ∀ (H : Heap) (locs : List Loc) (ls : Array Slot), Wd D G L A H0 S H locs → lv_has ls 9 [(0, .ref v0), (1, .int v1), (2, .int v2)] → W p l e R s m args below meth c H locs cells slots Q (F0 m 0 ls []) := by
  have hx := C.1.1
  have hb := C.1.2.1
  unfold f_X8_join at h
  have hb70 : ∀ (S81 : PH) (u82 : Nat) (u83 : Int32) (u84 : Int32) (u85 : Int32) (u86 : Int32) (u87 : Int32), f_X8_join_b70 S81 u82 u83 u84 u85 u86 u87 = some r → ∀ (H : Heap) (locs : List Loc) (ls : Array Slot), Wd D G L A H0 S81 H locs → lv_has ls 9 [(0, .ref u82), (1, .int u83), (2, .int u84), (3, .int u85), (4, .int u86)] → W p l e R s m args below meth c H locs cells slots Q (F0 m 70 ls [.int u87]) := by
    intro S81 u82 u83 u84 u85 u86 u87 h H locs ls w hl
    unfold f_X8_join_b70 at h
    refine lv_istore (lv' := [(5, .int u87), (0, .ref u82), (1, .int u83), (2, .int u84), (3, .int u85), (4, .int u86)]) hx hb dX8_join_70 hl (by decide) rfl (fun ls hl => ?_)
    refine lv_iconst (v := 0) hx hb dX8_join_72 (by decide) ?_
    refine lv_istore (lv' := [(6, .int (0 : Int32)), (5, .int u87), (0, .ref u82), (1, .int u83), (2, .int u84), (3, .int u85), (4, .int u86)]) hx hb dX8_join_73 hl (by decide) rfl (fun ls hl => ?_)
    obtain ⟨S88, hL75, h⟩ := bs h
    have hE75 : ∀ (q103 : PH), S88 = q103 → ∀ (H : Heap) (locs : List Loc) (ls : Array Slot), Wd D G L A H0 q103 H locs → lv_has ls 9 [(0, .ref u82), (3, .int u85), (4, .int u86), (5, .int u87)] → W p l e R s m args below meth c H locs cells slots Q (F0 m 193 ls []) := by
      intro q103 he
      cases he
      intro H locs ls w hl
      refine lv_iconst (v := 0) hx hb dX8_join_193 (by decide) ?_
      refine lv_istore (lv' := [(6, .int (0 : Int32)), (0, .ref u82), (3, .int u85), (4, .int u86), (5, .int u87)]) hx hb dX8_join_194 hl (by decide) rfl (fun ls hl => ?_)
      obtain ⟨S89, hL196, h⟩ := bs h
      have hE196 : ∀ (q90 : PH), S89 = q90 → ∀ (H : Heap) (locs : List Loc) (ls : Array Slot), Wd D G L A H0 q90 H locs → lv_has ls 9 [] → W p l e R s m args below meth c H locs cells slots Q (F0 m 249 ls []) := by
        intro q90 he
        cases he
        intro H locs ls w hl
        refine lv_iconst (v := 1) hx hb dX8_join_249 (by decide) ?_
        exact hret _ _ _ _ _ _ w rfl (Option.some.inj h) dX8_join_250
      refine lpo_W (P := fun x : Int32 × PH => ∀ (H : Heap) (locs : List Loc) (ls : Array Slot), Wd D G L A H0 x.2 H locs → lv_has ls 9 [(0, .ref u82), (3, .int u85), (4, .int u86), (5, .int u87), (6, .int x.1)] → W p l e R s m args below meth c H locs cells slots Q (F0 m 196 ls [])) ?_ FU _ hL196 H locs ls w (lv_sub hl [1, 2, 3, 4, 0] rfl)
      intro x y196 h hnext196 hend196
      obtain ⟨t91, S92⟩ := x
      have h : f_X8_join_L196 S92 u82 u85 u86 u87 t91 = some y196 := h
      unfold f_X8_join_L196 at h
      have hb243 : ∀ (S93 : PH) (u94 : Int32), f_X8_join_b243 S93 u82 u85 u86 u87 u94 = some y196 → ∀ (H : Heap) (locs : List Loc) (ls : Array Slot), Wd D G L A H0 S93 H locs → lv_has ls 9 [(0, .ref u82), (3, .int u85), (4, .int u86), (5, .int u87), (6, .int u94)] → W p l e R s m args below meth c H locs cells slots Q (F0 m 243 ls []) := by
        intro S93 u94 h H locs ls w hl
        unfold f_X8_join_b243 at h
        refine lv_iinc (v := (u94 + 1)) (lv' := [(6, .int (u94 + 1)), (0, .ref u82), (3, .int u85), (4, .int u86), (5, .int u87)]) hx hb dX8_join_243 hl (k := 4) rfl rfl (by decide) rfl (fun ls hl => ?_)
        refine lv_goto (tgt := 196) hx hb dX8_join_246 (by decide) ?_
        exact hnext196 _ (Option.some.inj h).symm H locs ls w (lv_sub hl [1, 2, 3, 4, 0] rfl)
      have hb231 : ∀ (S95 : PH) (u96 : Int32), f_X8_join_b231 S95 u82 u85 u86 u87 u96 = some y196 → ∀ (H : Heap) (locs : List Loc) (ls : Array Slot), Wd D G L A H0 S95 H locs → lv_has ls 9 [(0, .ref u82), (3, .int u85), (4, .int u86), (5, .int u87), (6, .int u96)] → W p l e R s m args below meth c H locs cells slots Q (F0 m 231 ls []) := by
        intro S95 u96 h H locs ls w hl
        unfold f_X8_join_b231 at h
        refine lv_aload_n hx hb dX8_join_231 rfl (lv_at hl 0 rfl) ?_
        obtain ⟨x97, hx97, h⟩ := bs h
        refine o_gR C w hx97 fl_X8_8 dX8_join_232 ?_
        refine lv_bipush (v := 6) hx hb dX8_join_235 (by decide) ?_
        refine lv_iload hx hb dX8_join_237 (lv_at hl 4 rfl) ?_
        refine lv_iadd hx hb dX8_join_239 ?_
        refine lv_iload hx hb dX8_join_240 (lv_at hl 3 rfl) ?_
        obtain ⟨S98, hS98, h⟩ := bs h
        refine o_stI C w hS98 dX8_join_242 (fun H locs w => ?_)
        exact hb243 _ _ h H locs ls w (lv_sub hl [0, 1, 2, 3, 4] rfl)
      intro H locs ls w hl
      have hl : lv_has ls 9 [(0, .ref u82), (3, .int u85), (4, .int u86), (5, .int u87), (6, .int t91)] := hl
      have w : Wd D G L A H0 S92 H locs := w
      refine lv_iload hx hb dX8_join_196 (lv_at hl 4 rfl) ?_
      refine lv_iconst (v := 4) hx hb dX8_join_198 (by decide) ?_
      refine lv_icmp_ge (tgt := 249) hx hb dX8_join_199 (by decide) (fun cc199 => ?_) (fun cc199 => ?_)
      · have h := it cc199 h
        exact hE196 _ (hend196 _ (Option.some.inj h).symm).symm H locs ls w (lv_sub hl [] rfl)
      · have h := ie cc199 h
        refine lv_aload_n hx hb dX8_join_202 rfl (lv_at hl 0 rfl) ?_
        obtain ⟨x99, hx99, h⟩ := bs h
        refine o_gR C w hx99 fl_X8_8 dX8_join_203 ?_
        refine lv_bipush (v := 6) hx hb dX8_join_206 (by decide) ?_
        refine lv_iload hx hb dX8_join_208 (lv_at hl 4 rfl) ?_
        refine lv_iadd hx hb dX8_join_210 ?_
        obtain ⟨x100, hx100, h⟩ := bs h
        refine o_ldI C w hx100 dX8_join_211 ?_
        refine lv_iload_n hx hb dX8_join_212 rfl (lv_at hl 1 rfl) ?_
        refine lv_icmp_eq (tgt := 231) hx hb dX8_join_213 (by decide) (fun cc213 => ?_) (fun cc213 => ?_)
        · have h := it cc213 h
          exact hb231 _ _ h H locs ls w (lv_sub hl [0, 1, 2, 3, 4] rfl)
        · have h := ie cc213 h
          refine lv_aload_n hx hb dX8_join_216 rfl (lv_at hl 0 rfl) ?_
          obtain ⟨x101, hx101, h⟩ := bs h
          refine o_gR C w hx101 fl_X8_8 dX8_join_217 ?_
          refine lv_bipush (v := 6) hx hb dX8_join_220 (by decide) ?_
          refine lv_iload hx hb dX8_join_222 (lv_at hl 4 rfl) ?_
          refine lv_iadd hx hb dX8_join_224 ?_
          obtain ⟨x102, hx102, h⟩ := bs h
          refine o_ldI C w hx102 dX8_join_225 ?_
          refine lv_iload hx hb dX8_join_226 (lv_at hl 2 rfl) ?_
          refine lv_icmp_ne (tgt := 243) hx hb dX8_join_228 (by decide) (fun cc228 => ?_) (fun cc228 => ?_)
          · have h := ie cc228 h
            exact hb243 _ _ h H locs ls w (lv_sub hl [0, 1, 2, 3, 4] rfl)
          · have h := it cc228 h
            exact hb231 _ _ h H locs ls w (lv_sub hl [0, 1, 2, 3, 4] rfl)
    refine lpo_W (P := fun x : Int32 × PH => ∀ (H : Heap) (locs : List Loc) (ls : Array Slot), Wd D G L A H0 x.2 H locs → lv_has ls 9 [(0, .ref u82), (1, .int u83), (2, .int u84), (3, .int u85), (4, .int u86), (5, .int u87), (6, .int x.1)] → W p l e R s m args below meth c H locs cells slots Q (F0 m 75 ls [])) ?_ FU _ hL75 H locs ls w (lv_sub hl [2, 3, 4, 5, 6, 1, 0] rfl)
    intro x y75 h hnext75 hend75
    obtain ⟨t104, S105⟩ := x
    have h : f_X8_join_L75 S105 u82 u83 u84 u85 u86 t104 = some y75 := h
    unfold f_X8_join_L75 at h
    intro H locs ls w hl
    have hl : lv_has ls 9 [(0, .ref u82), (1, .int u83), (2, .int u84), (3, .int u85), (4, .int u86), (5, .int u87), (6, .int t104)] := hl
    have w : Wd D G L A H0 S105 H locs := w
    refine lv_iload hx hb dX8_join_75 (lv_at hl 6 rfl) ?_
    refine lv_aload_n hx hb dX8_join_77 rfl (lv_at hl 0 rfl) ?_
    obtain ⟨x106, hx106, h⟩ := bs h
    refine o_gR C w hx106 fl_X8_8 dX8_join_78 ?_
    refine lv_iconst (v := 2) hx hb dX8_join_81 (by decide) ?_
    obtain ⟨x107, hx107, h⟩ := bs h
    refine o_ldI C w hx107 dX8_join_82 ?_
    refine lv_icmp_ge (tgt := 193) hx hb dX8_join_83 (by decide) (fun cc83 => ?_) (fun cc83 => ?_)
    · have h := it cc83 h
      exact hE75 _ (hend75 _ (Option.some.inj h).symm).symm H locs ls w (lv_sub hl [0, 3, 4, 5] rfl)
    · have h := ie cc83 h
      refine lv_aload_n hx hb dX8_join_86 rfl (lv_at hl 0 rfl) ?_
      obtain ⟨x108, hx108, h⟩ := bs h
      refine o_gR C w hx108 fl_X8_8 dX8_join_87 ?_
      refine lv_sipush (v := 1130) hx hb dX8_join_90 (by decide) ?_
      refine lv_sipush (v := 4096) hx hb dX8_join_93 (by decide) ?_
      refine lv_iload_n hx hb dX8_join_96 rfl (lv_at hl 1 rfl) ?_
      refine lv_imul hx hb dX8_join_97 ?_
      refine lv_iadd hx hb dX8_join_98 ?_
      refine lv_iload hx hb dX8_join_99 (lv_at hl 6 rfl) ?_
      refine lv_iadd hx hb dX8_join_101 ?_
      obtain ⟨x109, hx109, h⟩ := bs h
      refine o_ldI C w hx109 dX8_join_102 ?_
      refine lv_aload_n hx hb dX8_join_103 rfl (lv_at hl 0 rfl) ?_
      obtain ⟨x110, hx110, h⟩ := bs h
      refine o_gR C w hx110 fl_X8_8 dX8_join_104 ?_
      refine lv_sipush (v := 1130) hx hb dX8_join_107 (by decide) ?_
      refine lv_sipush (v := 4096) hx hb dX8_join_110 (by decide) ?_
      refine lv_iload_n hx hb dX8_join_113 rfl (lv_at hl 2 rfl) ?_
      refine lv_imul hx hb dX8_join_114 ?_
      refine lv_iadd hx hb dX8_join_115 ?_
      refine lv_iload hx hb dX8_join_116 (lv_at hl 6 rfl) ?_
      refine lv_iadd hx hb dX8_join_118 ?_
      obtain ⟨x111, hx111, h⟩ := bs h
      refine o_ldI C w hx111 dX8_join_119 ?_
      refine lv_imul hx hb dX8_join_120 ?_
      refine lv_istore (lv' := [(7, .int (x109 * x111)), (0, .ref u82), (1, .int u83), (2, .int u84), (3, .int u85), (4, .int u86), (5, .int u87), (6, .int t104)]) hx hb dX8_join_121 hl (by decide) rfl (fun ls hl => ?_)
      refine lv_iconst (v := 0) hx hb dX8_join_123 (by decide) ?_
      refine lv_istore (lv' := [(8, .int (0 : Int32)), (7, .int (x109 * x111)), (0, .ref u82), (1, .int u83), (2, .int u84), (3, .int u85), (4, .int u86), (5, .int u87), (6, .int t104)]) hx hb dX8_join_124 hl (by decide) rfl (fun ls hl => ?_)
      obtain ⟨S112, hL126, h⟩ := bs h
      have hE126 : ∀ (q113 : PH), S112 = q113 → ∀ (H : Heap) (locs : List Loc) (ls : Array Slot), Wd D G L A H0 q113 H locs → lv_has ls 9 [(0, .ref u82), (1, .int u83), (2, .int u84), (3, .int u85), (4, .int u86), (5, .int u87), (6, .int t104)] → W p l e R s m args below meth c H locs cells slots Q (F0 m 187 ls []) := by
        intro q113 he
        cases he
        intro H locs ls w hl
        refine lv_iinc (v := (t104 + 1)) (lv' := [(6, .int (t104 + 1)), (0, .ref u82), (1, .int u83), (2, .int u84), (3, .int u85), (4, .int u86), (5, .int u87)]) hx hb dX8_join_187 hl (k := 6) rfl rfl (by decide) rfl (fun ls hl => ?_)
        refine lv_goto (tgt := 75) hx hb dX8_join_190 (by decide) ?_
        exact hnext75 _ (Option.some.inj h).symm H locs ls w (lv_sub hl [1, 2, 3, 4, 5, 6, 0] rfl)
      refine lpo_W (P := fun x : Int32 × PH => ∀ (H : Heap) (locs : List Loc) (ls : Array Slot), Wd D G L A H0 x.2 H locs → lv_has ls 9 [(0, .ref u82), (1, .int u83), (2, .int u84), (3, .int u85), (4, .int u86), (5, .int u87), (6, .int t104), (7, .int (x109 * x111)), (8, .int x.1)] → W p l e R s m args below meth c H locs cells slots Q (F0 m 126 ls [])) ?_ FU _ hL126 H locs ls w (lv_sub hl [2, 3, 4, 5, 6, 7, 8, 1, 0] rfl)
      intro x y126 h hnext126 hend126
      obtain ⟨t114, S115⟩ := x
      have h : f_X8_join_L126 S115 u82 u85 u86 t104 (x109 * x111) t114 = some y126 := h
      unfold f_X8_join_L126 at h
      have hb181 : ∀ (S116 : PH) (u117 : Int32), f_X8_join_b181 S116 u82 u85 u86 t104 (x109 * x111) u117 = some y126 → ∀ (H : Heap) (locs : List Loc) (ls : Array Slot), Wd D G L A H0 S116 H locs → lv_has ls 9 [(0, .ref u82), (1, .int u83), (2, .int u84), (3, .int u85), (4, .int u86), (5, .int u87), (6, .int t104), (7, .int (x109 * x111)), (8, .int u117)] → W p l e R s m args below meth c H locs cells slots Q (F0 m 181 ls []) := by
        intro S116 u117 h H locs ls w hl
        unfold f_X8_join_b181 at h
        refine lv_iinc (v := (u117 + 1)) (lv' := [(8, .int (u117 + 1)), (0, .ref u82), (1, .int u83), (2, .int u84), (3, .int u85), (4, .int u86), (5, .int u87), (6, .int t104), (7, .int (x109 * x111))]) hx hb dX8_join_181 hl (k := 8) rfl rfl (by decide) rfl (fun ls hl => ?_)
        refine lv_goto (tgt := 126) hx hb dX8_join_184 (by decide) ?_
        exact hnext126 _ (Option.some.inj h).symm H locs ls w (lv_sub hl [1, 2, 3, 4, 5, 6, 7, 8, 0] rfl)
      have hb161 : ∀ (S118 : PH) (u119 : Int32), f_X8_join_b161 S118 u82 u85 u86 t104 (x109 * x111) u119 = some y126 → ∀ (H : Heap) (locs : List Loc) (ls : Array Slot), Wd D G L A H0 S118 H locs → lv_has ls 9 [(0, .ref u82), (1, .int u83), (2, .int u84), (3, .int u85), (4, .int u86), (5, .int u87), (6, .int t104), (7, .int (x109 * x111)), (8, .int u119)] → W p l e R s m args below meth c H locs cells slots Q (F0 m 161 ls []) := by
        intro S118 u119 h H locs ls w hl
        unfold f_X8_join_b161 at h
        refine lv_aload_n hx hb dX8_join_161 rfl (lv_at hl 0 rfl) ?_
        obtain ⟨x120, hx120, h⟩ := bs h
        refine o_gR C w hx120 fl_X8_8 dX8_join_162 ?_
        refine lv_sipush (v := 1130) hx hb dX8_join_165 (by decide) ?_
        refine lv_sipush (v := 4096) hx hb dX8_join_168 (by decide) ?_
        refine lv_iload hx hb dX8_join_171 (lv_at hl 8 rfl) ?_
        refine lv_imul hx hb dX8_join_173 ?_
        refine lv_iadd hx hb dX8_join_174 ?_
        refine lv_iload hx hb dX8_join_175 (lv_at hl 6 rfl) ?_
        refine lv_iadd hx hb dX8_join_177 ?_
        refine lv_iload hx hb dX8_join_178 (lv_at hl 7 rfl) ?_
        obtain ⟨S121, hS121, h⟩ := bs h
        refine o_stI C w hS121 dX8_join_180 (fun H locs w => ?_)
        exact hb181 _ _ h H locs ls w (lv_sub hl [0, 1, 2, 3, 4, 5, 6, 7, 8] rfl)
      intro H locs ls w hl
      have hl : lv_has ls 9 [(0, .ref u82), (1, .int u83), (2, .int u84), (3, .int u85), (4, .int u86), (5, .int u87), (6, .int t104), (7, .int (x109 * x111)), (8, .int t114)] := hl
      have w : Wd D G L A H0 S115 H locs := w
      refine lv_iload hx hb dX8_join_126 (lv_at hl 8 rfl) ?_
      refine lv_iconst (v := 4) hx hb dX8_join_128 (by decide) ?_
      refine lv_icmp_ge (tgt := 187) hx hb dX8_join_129 (by decide) (fun cc129 => ?_) (fun cc129 => ?_)
      · have h := it cc129 h
        exact hE126 _ (hend126 _ (Option.some.inj h).symm).symm H locs ls w (lv_sub hl [0, 1, 2, 3, 4, 5, 6] rfl)
      · have h := ie cc129 h
        refine lv_aload_n hx hb dX8_join_132 rfl (lv_at hl 0 rfl) ?_
        obtain ⟨x122, hx122, h⟩ := bs h
        refine o_gR C w hx122 fl_X8_8 dX8_join_133 ?_
        refine lv_bipush (v := 6) hx hb dX8_join_136 (by decide) ?_
        refine lv_iload hx hb dX8_join_138 (lv_at hl 8 rfl) ?_
        refine lv_iadd hx hb dX8_join_140 ?_
        obtain ⟨x123, hx123, h⟩ := bs h
        refine o_ldI C w hx123 dX8_join_141 ?_
        refine lv_iload_n hx hb dX8_join_142 rfl (lv_at hl 3 rfl) ?_
        refine lv_icmp_eq (tgt := 161) hx hb dX8_join_143 (by decide) (fun cc143 => ?_) (fun cc143 => ?_)
        · have h := it cc143 h
          exact hb161 _ _ h H locs ls w (lv_sub hl [0, 1, 2, 3, 4, 5, 6, 7, 8] rfl)
        · have h := ie cc143 h
          refine lv_aload_n hx hb dX8_join_146 rfl (lv_at hl 0 rfl) ?_
          obtain ⟨x124, hx124, h⟩ := bs h
          refine o_gR C w hx124 fl_X8_8 dX8_join_147 ?_
          refine lv_bipush (v := 6) hx hb dX8_join_150 (by decide) ?_
          refine lv_iload hx hb dX8_join_152 (lv_at hl 8 rfl) ?_
          refine lv_iadd hx hb dX8_join_154 ?_
          obtain ⟨x125, hx125, h⟩ := bs h
          refine o_ldI C w hx125 dX8_join_155 ?_
          refine lv_iload hx hb dX8_join_156 (lv_at hl 4 rfl) ?_
          refine lv_icmp_ne (tgt := 181) hx hb dX8_join_158 (by decide) (fun cc158 => ?_) (fun cc158 => ?_)
          · have h := ie cc158 h
            exact hb181 _ _ h H locs ls w (lv_sub hl [0, 1, 2, 3, 4, 5, 6, 7, 8] rfl)
          · have h := it cc158 h
            exact hb161 _ _ h H locs ls w (lv_sub hl [0, 1, 2, 3, 4, 5, 6, 7, 8] rfl)
  intro H locs ls w hl
  refine lv_iload_n hx hb dX8_join_0 rfl (lv_at hl 1 rfl) ?_
  obtain ⟨x71, hc, h⟩ := bs h
  refine o_backi w hLA (o_runS (As := [.int v1]) (rest := []) C w (c_X8_isAsker l D G L S v1 x71 hc) ml_X8_106 st_X8_isAsker hR_X8_isAsker rfl hl.1 rfl (Nat.le_of_ble_eq_true rfl) dX8_join_1 hcs) (fun H locs w => ?_)
  refine lv_if_eq (tgt := 35) hx hb dX8_join_4 (by decide) (fun cc4 => ?_) (fun cc4 => ?_)
  · have h := it cc4 h
    refine lv_iconst (v := 0) hx hb dX8_join_35 (by decide) ?_
    exact hret _ _ _ _ _ _ w rfl (Option.some.inj h) dX8_join_36
  · have h := ie cc4 h
    refine lv_iload_n hx hb dX8_join_7 rfl (lv_at hl 2 rfl) ?_
    obtain ⟨x72, hc, h⟩ := bs h
    refine o_backi w hLA (o_runS (As := [.int v2]) (rest := []) C w (c_X8_isAsker l D G L S v2 x72 hc) ml_X8_106 st_X8_isAsker hR_X8_isAsker rfl hl.1 rfl (Nat.le_of_ble_eq_true rfl) dX8_join_8 hcs) (fun H locs w => ?_)
    refine lv_if_eq (tgt := 35) hx hb dX8_join_11 (by decide) (fun cc11 => ?_) (fun cc11 => ?_)
    · have h := it cc11 h
      refine lv_iconst (v := 0) hx hb dX8_join_35 (by decide) ?_
      exact hret _ _ _ _ _ _ w rfl (Option.some.inj h) dX8_join_36
    · have h := ie cc11 h
      refine lv_aload_n hx hb dX8_join_14 rfl (lv_at hl 0 rfl) ?_
      obtain ⟨x73, hx73, h⟩ := bs h
      refine o_gR C w hx73 fl_X8_8 dX8_join_15 ?_
      refine lv_bipush (v := 6) hx hb dX8_join_18 (by decide) ?_
      refine lv_iload_n hx hb dX8_join_20 rfl (lv_at hl 1 rfl) ?_
      refine lv_iadd hx hb dX8_join_21 ?_
      obtain ⟨x74, hx74, h⟩ := bs h
      refine o_ldI C w hx74 dX8_join_22 ?_
      refine lv_aload_n hx hb dX8_join_23 rfl (lv_at hl 0 rfl) ?_
      obtain ⟨x75, hx75, h⟩ := bs h
      refine o_gR C w hx75 fl_X8_8 dX8_join_24 ?_
      refine lv_bipush (v := 6) hx hb dX8_join_27 (by decide) ?_
      refine lv_iload_n hx hb dX8_join_29 rfl (lv_at hl 2 rfl) ?_
      refine lv_iadd hx hb dX8_join_30 ?_
      obtain ⟨x76, hx76, h⟩ := bs h
      refine o_ldI C w hx76 dX8_join_31 ?_
      refine lv_icmp_ne (tgt := 37) hx hb dX8_join_32 (by decide) (fun cc32 => ?_) (fun cc32 => ?_)
      · have h := ie cc32 h
        refine lv_aload_n hx hb dX8_join_37 rfl (lv_at hl 0 rfl) ?_
        obtain ⟨x77, hx77, h⟩ := bs h
        refine o_gR C w hx77 fl_X8_8 dX8_join_38 ?_
        refine lv_bipush (v := 6) hx hb dX8_join_41 (by decide) ?_
        refine lv_iload_n hx hb dX8_join_43 rfl (lv_at hl 1 rfl) ?_
        refine lv_iadd hx hb dX8_join_44 ?_
        obtain ⟨x78, hx78, h⟩ := bs h
        refine o_ldI C w hx78 dX8_join_45 ?_
        refine lv_istore_n (lv' := [(3, .int x78), (0, .ref v0), (1, .int v1), (2, .int v2)]) hx hb dX8_join_46 rfl hl (by decide) rfl (fun ls hl => ?_)
        refine lv_aload_n hx hb dX8_join_47 rfl (lv_at hl 1 rfl) ?_
        obtain ⟨x79, hx79, h⟩ := bs h
        refine o_gR C w hx79 fl_X8_8 dX8_join_48 ?_
        refine lv_bipush (v := 6) hx hb dX8_join_51 (by decide) ?_
        refine lv_iload_n hx hb dX8_join_53 rfl (lv_at hl 3 rfl) ?_
        refine lv_iadd hx hb dX8_join_54 ?_
        obtain ⟨x80, hx80, h⟩ := bs h
        refine o_ldI C w hx80 dX8_join_55 ?_
        refine lv_istore (lv' := [(4, .int x80), (3, .int x78), (0, .ref v0), (1, .int v1), (2, .int v2)]) hx hb dX8_join_56 hl (by decide) rfl (fun ls hl => ?_)
        refine lv_iload_n hx hb dX8_join_58 rfl (lv_at hl 1 rfl) ?_
        refine lv_iload hx hb dX8_join_59 (lv_at hl 0 rfl) ?_
        refine lv_icmp_ge (tgt := 68) hx hb dX8_join_61 (by decide) (fun cc61 => ?_) (fun cc61 => ?_)
        · have h := it cc61 h
          refine lv_iload hx hb dX8_join_68 (lv_at hl 0 rfl) ?_
          exact hb70 _ _ _ _ _ _ _ h H locs ls w (lv_sub hl [2, 3, 4, 1, 0] rfl)
        · have h := ie cc61 h
          refine lv_iload_n hx hb dX8_join_64 rfl (lv_at hl 1 rfl) ?_
          refine lv_goto (tgt := 70) hx hb dX8_join_65 (by decide) ?_
          exact hb70 _ _ _ _ _ _ _ h H locs ls w (lv_sub hl [2, 3, 4, 1, 0] rfl)
      · have h := it cc32 h
        refine lv_iconst (v := 0) hx hb dX8_join_35 (by decide) ?_
        exact hret _ _ _ _ _ _ w rfl (Option.some.inj h) dX8_join_36
set_option maxHeartbeats 4000000 in
set_option maxRecDepth 100000 in
theorem c_X8_join (l : Launch) (D : va_G) (G : Nat → ClassId) (L : List Nat) (S : PH) (v0 : Nat) (v1 : Int32) (v2 : Int32) (r : Int32 × PH) (h : f_X8_join S v0 v1 v2 = some r) : Met l yX8_join [Cond.code yX8_join cX8_join 9 (some .boolean)] ({ frames := 2, cells := 0, slots := 0, locals := 42 }) (va_Pc [.ref v0, .int v1, .int v2] (PreU D G L S)) (Qi D G L r.1 r.2) 0 0 (inL L) := by
  refine Met.ofW (cc := cX8_join) (maxL := 9) (ret := (some .boolean)) (by decide) rfl ?_
  intro p e s m args below meth c s₁ B hml hv
  obtain ⟨rfl, hpre⟩ := hv
  obtain ⟨C, w⟩ := o_ent (own := RX8) rfl B hml hpre
  have hl := lv_entry ([.ref v0, .int v1, .int v2]) (n := 9) (Nat.le_of_ble_eq_true rfl)
  rw [lg_entry_eq]
  generalize (lg_sl ([.ref v0, .int v1, .int v2]) ++ List.replicate (9 - (lg_sl ([.ref v0, .int v1, .int v2])).length) Slot.unset).toArray = ls at hl ⊢
  exact w_X8_join C (fun _ h => h) ⟨Nat.zero_le _, Nat.zero_le _⟩ ⟨rfl, rfl, Nat.le_of_ble_eq_true rfl, Nat.le_of_ble_eq_true rfl⟩ S v0 v1 v2 r h (fun v S9 H locs ls pc w hz hv hd => by subst hv; exact o_zret C w B.returns B.notSynchronized hz hd) _ _ _ w hl

def f_X8_knows_b67 (S : PH) (v0 : Nat) (v1 : Int32) (v2 : Int32) (v4 : Int32) (v5 : Int32) : Option ((Int32 × Int32) ⊕ (Int32)) :=
some (.inl (v4, (v5 + 1)))
def f_X8_knows_L32 (S : PH) (v0 : Nat) (v1 : Int32) (v2 : Int32) (v4 : Int32) (v5 : Int32) : Option ((Int32 × Int32) ⊕ (Int32)) :=
(gR S v0 8 0).bind fun x4 =>
(ldI S x4 (2 : Int32)).bind fun x5 =>
if x5 ≤ v5 then (
some (.inr v4))
else (
(ckO S v0 8).bind fun _ =>
(f_X8_isLeft S v0 v1 v5).bind fun x6 =>
if x6 = 0 then (
f_X8_knows_b67 S v0 v1 v2 v4 v5)
else (
(ckO S v0 8).bind fun _ =>
(f_X8_valueIn S v0 v5 v2).bind fun x7 =>
f_X8_knows_b67 S v0 v1 v2 (v4 ||| ((1 : Int32) <<< (x7 &&& 31))) v5))
def f_X8_knows_b126 (S : PH) (v4 : Int32) (v5 : Int32) (v6 : Int32) (v7 : Int32) (v8 : Int32) : Option ((Int32 × Int32 × Int32 × Int32) ⊕ (Int32 × Int32 × Int32)) :=
some (.inl (v5, v6, v7, (v8 + 1)))
def f_X8_knows_b117 (S : PH) (v4 : Int32) (v7 : Int32) (v8 : Int32) (s0 : Int32) : Option ((Int32 × Int32 × Int32 × Int32) ⊕ (Int32 × Int32 × Int32)) :=
f_X8_knows_b126 S v4 s0 v8 (v7 + 1) v8
def f_X8_knows_L85 (S : PH) (v4 : Int32) (v5 : Int32) (v6 : Int32) (v7 : Int32) (v8 : Int32) : Option ((Int32 × Int32 × Int32 × Int32) ⊕ (Int32 × Int32 × Int32)) :=
if (21 : Int32) ≤ v8 then (
some (.inr (v5, v6, v7)))
else (
if ((v4 >>> (v8 &&& 31)) &&& (1 : Int32)) = 0 then (
f_X8_knows_b126 S v4 v5 v6 v7 v8)
else (
if 0 ≤ v5 then (
f_X8_knows_b117 S v4 v7 v8 v5)
else (
f_X8_knows_b117 S v4 v7 v8 v8)))
def f_X8_knows (S : PH) (v0 : Nat) (v1 : Int32) (v2 : Int32) (v3 : Int32) : Option (Int32) :=
(f_X8_isAsker v1).bind fun x1 =>
if x1 = 0 then (
some (-1 : Int32))
else (
(ckO S v0 8).bind fun _ =>
(f_X8_isNumber S v0 v2).bind fun x2 =>
if x2 = 0 then (
some (-1 : Int32))
else (
(f_X8_isIn v3 (0 : Int32) (3 : Int32)).bind fun x3 =>
if x3 = 0 then (
some (-1 : Int32))
else (
(lpo (fun x : Int32 × Int32 => f_X8_knows_L32 S v0 v1 v2 x.1 x.2) FU ((0 : Int32), (0 : Int32))).bind fun y8 =>
bd3 (lpo (fun x : Int32 × Int32 × Int32 × Int32 => f_X8_knows_L85 S y8 x.1 x.2.1 x.2.2.1 x.2.2.2) FU ((-1 : Int32), (-1 : Int32), (0 : Int32), (0 : Int32))) fun y9 y10 y11 =>
if v3 = 0 then (
some y9)
else (
if v3 = (1 : Int32) then (
some y10)
else (
if v3 = (2 : Int32) then (
some y11)
else (
some ((y10 - y9) + (1 : Int32))))))))
set_option maxHeartbeats 4000000 in
set_option maxRecDepth 100000 in
theorem w_X8_knows {p : Program} {l : Launch} {e : Env} {R : Room} {s : State} {m : MethodId} {args : Array Value} {below : List Frame} {meth : Method} {c : Code} {cells slots : Nat} {Q : State → Prop} {D : va_G} {G : Nat → ClassId} {L : List Nat} {A : Nat → Prop} {H0 : Heap} (C : CX p s m c args D G cX8_knows 9 RX8) (hLA : ∀ q ∈ L, A q) (hcs : cells ≤ R.cells ∧ slots ≤ R.slots) (hR_X8_isAsker : RoomOk R ({ frames := 1, cells := 0, slots := 0, locals := 22 }) 1) (hR_X8_isNumber : RoomOk R ({ frames := 1, cells := 0, slots := 0, locals := 22 }) 2) (hR_X8_isIn : RoomOk R ({ frames := 0, cells := 0, slots := 0, locals := 0 }) 3) (hR_X8_isLeft : RoomOk R ({ frames := 0, cells := 0, slots := 0, locals := 0 }) 3) (hR_X8_valueIn : RoomOk R ({ frames := 2, cells := 0, slots := 0, locals := 43 }) 3) (S : PH) (v0 : Nat) (v1 : Int32) (v2 : Int32) (v3 : Int32) (r : Int32) (h : f_X8_knows S v0 v1 v2 v3 = some r) (hret : ∀ (v : Int32) (H : Heap) (locs : List Loc) (ls : Array Slot) (pc : Nat), Wd D G L A H0 S H locs → v = r → decode cX8_knows pc = .ok (.ireturn, 1) → W p l e R s m args below meth c H locs cells slots Q (F0 m pc ls [.int v])) : ∀ (H : Heap) (locs : List Loc) (ls : Array Slot), Wd D G L A H0 S H locs → lv_has ls 9 [(0, .ref v0), (1, .int v1), (2, .int v2), (3, .int v3)] → W p l e R s m args below meth c H locs cells slots Q (F0 m 0 ls []) := by
  have hx := C.1.1
  have hb := C.1.2.1
  unfold f_X8_knows at h
  intro H locs ls w hl
  refine lv_iload_n hx hb dX8_knows_0 rfl (lv_at hl 1 rfl) ?_
  obtain ⟨x1, hc, h⟩ := bs h
  refine o_backi w hLA (o_runS (As := [.int v1]) (rest := []) C w (c_X8_isAsker l D G L S v1 x1 hc) ml_X8_106 st_X8_isAsker hR_X8_isAsker rfl hl.1 rfl (Nat.le_of_ble_eq_true rfl) dX8_knows_1 hcs) (fun H locs w => ?_)
  refine lv_if_eq (tgt := 24) hx hb dX8_knows_4 (by decide) (fun cc4 => ?_) (fun cc4 => ?_)
  · have h := it cc4 h
    refine lv_iconst (v := -1) hx hb dX8_knows_24 (by decide) ?_
    exact hret _ _ _ _ _ w (Option.some.inj h) dX8_knows_25
  · have h := ie cc4 h
    refine lv_aload_n hx hb dX8_knows_7 rfl (lv_at hl 0 rfl) ?_
    refine lv_iload_n hx hb dX8_knows_8 rfl (lv_at hl 2 rfl) ?_
    obtain ⟨_, ho, h⟩ := bs h
    obtain ⟨x2, hc, h⟩ := bs h
    refine o_backi w hLA (o_runV (As := [.int v2]) (rest := []) C w (c_X8_isNumber l D G L S v0 v2 x2 hc) ml_X8_125 mv_X8_isNumber hR_X8_isNumber ho rfl hl.1 rfl (Nat.le_of_ble_eq_true rfl) dX8_knows_9 hcs) (fun H locs w => ?_)
    refine lv_if_eq (tgt := 24) hx hb dX8_knows_12 (by decide) (fun cc12 => ?_) (fun cc12 => ?_)
    · have h := it cc12 h
      refine lv_iconst (v := -1) hx hb dX8_knows_24 (by decide) ?_
      exact hret _ _ _ _ _ w (Option.some.inj h) dX8_knows_25
    · have h := ie cc12 h
      refine lv_iload_n hx hb dX8_knows_15 rfl (lv_at hl 3 rfl) ?_
      refine lv_iconst (v := 0) hx hb dX8_knows_16 (by decide) ?_
      refine lv_iconst (v := 3) hx hb dX8_knows_17 (by decide) ?_
      obtain ⟨x3, hc, h⟩ := bs h
      refine o_backi w hLA (o_runS (As := [.int v3, .int (0 : Int32), .int (3 : Int32)]) (rest := []) C w (c_X8_isIn l D G L S v3 (0 : Int32) (3 : Int32) x3 hc) ml_X8_40 st_X8_isIn hR_X8_isIn rfl hl.1 rfl (Nat.le_of_ble_eq_true rfl) dX8_knows_18 hcs) (fun H locs w => ?_)
      refine lv_if_ne (tgt := 26) hx hb dX8_knows_21 (by decide) (fun cc21 => ?_) (fun cc21 => ?_)
      · have h := ie cc21 h
        refine lv_iconst (v := 0) hx hb dX8_knows_26 (by decide) ?_
        refine lv_istore (lv' := [(4, .int (0 : Int32)), (0, .ref v0), (1, .int v1), (2, .int v2), (3, .int v3)]) hx hb dX8_knows_27 hl (by decide) rfl (fun ls hl => ?_)
        refine lv_iconst (v := 0) hx hb dX8_knows_29 (by decide) ?_
        refine lv_istore (lv' := [(5, .int (0 : Int32)), (4, .int (0 : Int32)), (0, .ref v0), (1, .int v1), (2, .int v2), (3, .int v3)]) hx hb dX8_knows_30 hl (by decide) rfl (fun ls hl => ?_)
        obtain ⟨y8, hL32, h⟩ := bs h
        have hE32 : ∀ (q26 : Int32), y8 = q26 → ∀ (H : Heap) (locs : List Loc) (ls : Array Slot), Wd D G L A H0 S H locs → lv_has ls 9 [(3, .int v3), (4, .int q26)] → W p l e R s m args below meth c H locs cells slots Q (F0 m 73 ls []) := by
          intro q26 he
          cases he
          intro H locs ls w hl
          refine lv_iconst (v := -1) hx hb dX8_knows_73 (by decide) ?_
          refine lv_istore (lv' := [(5, .int (-1 : Int32)), (3, .int v3), (4, .int y8)]) hx hb dX8_knows_74 hl (by decide) rfl (fun ls hl => ?_)
          refine lv_iconst (v := -1) hx hb dX8_knows_76 (by decide) ?_
          refine lv_istore (lv' := [(6, .int (-1 : Int32)), (5, .int (-1 : Int32)), (3, .int v3), (4, .int y8)]) hx hb dX8_knows_77 hl (by decide) rfl (fun ls hl => ?_)
          refine lv_iconst (v := 0) hx hb dX8_knows_79 (by decide) ?_
          refine lv_istore (lv' := [(7, .int (0 : Int32)), (6, .int (-1 : Int32)), (5, .int (-1 : Int32)), (3, .int v3), (4, .int y8)]) hx hb dX8_knows_80 hl (by decide) rfl (fun ls hl => ?_)
          refine lv_iconst (v := 0) hx hb dX8_knows_82 (by decide) ?_
          refine lv_istore (lv' := [(8, .int (0 : Int32)), (7, .int (0 : Int32)), (6, .int (-1 : Int32)), (5, .int (-1 : Int32)), (3, .int v3), (4, .int y8)]) hx hb dX8_knows_83 hl (by decide) rfl (fun ls hl => ?_)
          obtain ⟨y9, y10, y11, hL85, h⟩ := bs3 h
          have hE85 : ∀ (q12 : Int32) (q13 : Int32) (q14 : Int32), (y9, y10, y11) = (q12, q13, q14) → ∀ (H : Heap) (locs : List Loc) (ls : Array Slot), Wd D G L A H0 S H locs → lv_has ls 9 [(3, .int v3), (5, .int q12), (6, .int q13), (7, .int q14)] → W p l e R s m args below meth c H locs cells slots Q (F0 m 132 ls []) := by
            intro q12 q13 q14 he
            cases he
            intro H locs ls w hl
            refine lv_iload_n hx hb dX8_knows_132 rfl (lv_at hl 0 rfl) ?_
            refine lv_if_ne (tgt := 141) hx hb dX8_knows_133 (by decide) (fun cc133 => ?_) (fun cc133 => ?_)
            · have h := ie cc133 h
              refine lv_iload_n hx hb dX8_knows_141 rfl (lv_at hl 0 rfl) ?_
              refine lv_iconst (v := 1) hx hb dX8_knows_142 (by decide) ?_
              refine lv_icmp_ne (tgt := 151) hx hb dX8_knows_143 (by decide) (fun cc143 => ?_) (fun cc143 => ?_)
              · have h := ie cc143 h
                refine lv_iload_n hx hb dX8_knows_151 rfl (lv_at hl 0 rfl) ?_
                refine lv_iconst (v := 2) hx hb dX8_knows_152 (by decide) ?_
                refine lv_icmp_ne (tgt := 161) hx hb dX8_knows_153 (by decide) (fun cc153 => ?_) (fun cc153 => ?_)
                · have h := ie cc153 h
                  refine lv_iload hx hb dX8_knows_161 (lv_at hl 2 rfl) ?_
                  refine lv_iload hx hb dX8_knows_163 (lv_at hl 1 rfl) ?_
                  refine lv_isub hx hb dX8_knows_165 ?_
                  refine lv_iconst (v := 1) hx hb dX8_knows_166 (by decide) ?_
                  refine lv_iadd hx hb dX8_knows_167 ?_
                  exact hret _ _ _ _ _ w (Option.some.inj h) dX8_knows_168
                · have h := it cc153 h
                  refine lv_iload hx hb dX8_knows_156 (lv_at hl 3 rfl) ?_
                  refine lv_goto (tgt := 168) hx hb dX8_knows_158 (by decide) ?_
                  exact hret _ _ _ _ _ w (Option.some.inj h) dX8_knows_168
              · have h := it cc143 h
                refine lv_iload hx hb dX8_knows_146 (lv_at hl 2 rfl) ?_
                refine lv_goto (tgt := 168) hx hb dX8_knows_148 (by decide) ?_
                exact hret _ _ _ _ _ w (Option.some.inj h) dX8_knows_168
            · have h := it cc133 h
              refine lv_iload hx hb dX8_knows_136 (lv_at hl 1 rfl) ?_
              refine lv_goto (tgt := 168) hx hb dX8_knows_138 (by decide) ?_
              exact hret _ _ _ _ _ w (Option.some.inj h) dX8_knows_168
          refine lpo_W (P := fun x : Int32 × Int32 × Int32 × Int32 => ∀ (H : Heap) (locs : List Loc) (ls : Array Slot), Wd D G L A H0 S H locs → lv_has ls 9 [(3, .int v3), (4, .int y8), (5, .int x.1), (6, .int x.2.1), (7, .int x.2.2.1), (8, .int x.2.2.2)] → W p l e R s m args below meth c H locs cells slots Q (F0 m 85 ls [])) ?_ FU _ hL85 H locs ls w (lv_sub hl [4, 5, 3, 2, 1, 0] rfl)
          intro x y85 h hnext85 hend85
          obtain ⟨t15, t16, t17, t18⟩ := x
          have h : f_X8_knows_L85 S y8 t15 t16 t17 t18 = some y85 := h
          unfold f_X8_knows_L85 at h
          have hb126 : ∀ (u19 : Int32) (u20 : Int32) (u21 : Int32) (u22 : Int32), f_X8_knows_b126 S y8 u19 u20 u21 u22 = some y85 → ∀ (H : Heap) (locs : List Loc) (ls : Array Slot), Wd D G L A H0 S H locs → lv_has ls 9 [(3, .int v3), (4, .int y8), (5, .int u19), (6, .int u20), (7, .int u21), (8, .int u22)] → W p l e R s m args below meth c H locs cells slots Q (F0 m 126 ls []) := by
            intro u19 u20 u21 u22 h H locs ls w hl
            unfold f_X8_knows_b126 at h
            refine lv_iinc (v := (u22 + 1)) (lv' := [(8, .int (u22 + 1)), (3, .int v3), (4, .int y8), (5, .int u19), (6, .int u20), (7, .int u21)]) hx hb dX8_knows_126 hl (k := 5) rfl rfl (by decide) rfl (fun ls hl => ?_)
            refine lv_goto (tgt := 85) hx hb dX8_knows_129 (by decide) ?_
            exact hnext85 _ (Option.some.inj h).symm H locs ls w (lv_sub hl [1, 2, 3, 4, 5, 0] rfl)
          have hb117 : ∀ (u23 : Int32) (u24 : Int32) (u25 : Int32), f_X8_knows_b117 S y8 u23 u24 u25 = some y85 → ∀ (H : Heap) (locs : List Loc) (ls : Array Slot), Wd D G L A H0 S H locs → lv_has ls 9 [(3, .int v3), (4, .int y8), (7, .int u23), (8, .int u24)] → W p l e R s m args below meth c H locs cells slots Q (F0 m 117 ls [.int u25]) := by
            intro u23 u24 u25 h H locs ls w hl
            unfold f_X8_knows_b117 at h
            refine lv_istore (lv' := [(5, .int u25), (3, .int v3), (4, .int y8), (7, .int u23), (8, .int u24)]) hx hb dX8_knows_117 hl (by decide) rfl (fun ls hl => ?_)
            refine lv_iload hx hb dX8_knows_119 (lv_at hl 4 rfl) ?_
            refine lv_istore (lv' := [(6, .int u24), (5, .int u25), (3, .int v3), (4, .int y8), (7, .int u23), (8, .int u24)]) hx hb dX8_knows_121 hl (by decide) rfl (fun ls hl => ?_)
            refine lv_iinc (v := (u23 + 1)) (lv' := [(7, .int (u23 + 1)), (6, .int u24), (5, .int u25), (3, .int v3), (4, .int y8), (8, .int u24)]) hx hb dX8_knows_123 hl (k := 4) rfl rfl (by decide) rfl (fun ls hl => ?_)
            exact hb126 _ _ _ _ h H locs ls w (lv_sub hl [3, 4, 2, 1, 0, 5] rfl)
          intro H locs ls w hl
          have hl : lv_has ls 9 [(3, .int v3), (4, .int y8), (5, .int t15), (6, .int t16), (7, .int t17), (8, .int t18)] := hl
          refine lv_iload hx hb dX8_knows_85 (lv_at hl 5 rfl) ?_
          refine lv_bipush (v := 21) hx hb dX8_knows_87 (by decide) ?_
          refine lv_icmp_ge (tgt := 132) hx hb dX8_knows_89 (by decide) (fun cc89 => ?_) (fun cc89 => ?_)
          · have h := it cc89 h
            exact hE85 _ _ _ (hend85 _ (Option.some.inj h).symm).symm H locs ls w (lv_sub hl [0, 2, 3, 4] rfl)
          · have h := ie cc89 h
            refine lv_iload hx hb dX8_knows_92 (lv_at hl 1 rfl) ?_
            refine lv_iload hx hb dX8_knows_94 (lv_at hl 5 rfl) ?_
            refine lv_ishr hx hb dX8_knows_96 ?_
            refine lv_iconst (v := 1) hx hb dX8_knows_97 (by decide) ?_
            refine lv_iand hx hb dX8_knows_98 ?_
            refine lv_if_ne (tgt := 105) hx hb dX8_knows_99 (by decide) (fun cc99 => ?_) (fun cc99 => ?_)
            · have h := ie cc99 h
              refine lv_iload hx hb dX8_knows_105 (lv_at hl 2 rfl) ?_
              refine lv_if_ge (tgt := 115) hx hb dX8_knows_107 (by decide) (fun cc107 => ?_) (fun cc107 => ?_)
              · have h := it cc107 h
                refine lv_iload hx hb dX8_knows_115 (lv_at hl 2 rfl) ?_
                exact hb117 _ _ _ h H locs ls w (lv_sub hl [0, 1, 4, 5] rfl)
              · have h := ie cc107 h
                refine lv_iload hx hb dX8_knows_110 (lv_at hl 5 rfl) ?_
                refine lv_goto (tgt := 117) hx hb dX8_knows_112 (by decide) ?_
                exact hb117 _ _ _ h H locs ls w (lv_sub hl [0, 1, 4, 5] rfl)
            · have h := it cc99 h
              refine lv_goto (tgt := 126) hx hb dX8_knows_102 (by decide) ?_
              exact hb126 _ _ _ _ h H locs ls w (lv_sub hl [0, 1, 2, 3, 4, 5] rfl)
        refine lpo_W (P := fun x : Int32 × Int32 => ∀ (H : Heap) (locs : List Loc) (ls : Array Slot), Wd D G L A H0 S H locs → lv_has ls 9 [(0, .ref v0), (1, .int v1), (2, .int v2), (3, .int v3), (4, .int x.1), (5, .int x.2)] → W p l e R s m args below meth c H locs cells slots Q (F0 m 32 ls [])) ?_ FU _ hL32 H locs ls w (lv_sub hl [2, 3, 4, 5, 1, 0] rfl)
        intro x y32 h hnext32 hend32
        obtain ⟨t27, t28⟩ := x
        have h : f_X8_knows_L32 S v0 v1 v2 t27 t28 = some y32 := h
        unfold f_X8_knows_L32 at h
        have hb67 : ∀ (u29 : Int32) (u30 : Int32), f_X8_knows_b67 S v0 v1 v2 u29 u30 = some y32 → ∀ (H : Heap) (locs : List Loc) (ls : Array Slot), Wd D G L A H0 S H locs → lv_has ls 9 [(0, .ref v0), (1, .int v1), (2, .int v2), (3, .int v3), (4, .int u29), (5, .int u30)] → W p l e R s m args below meth c H locs cells slots Q (F0 m 67 ls []) := by
          intro u29 u30 h H locs ls w hl
          unfold f_X8_knows_b67 at h
          refine lv_iinc (v := (u30 + 1)) (lv' := [(5, .int (u30 + 1)), (0, .ref v0), (1, .int v1), (2, .int v2), (3, .int v3), (4, .int u29)]) hx hb dX8_knows_67 hl (k := 5) rfl rfl (by decide) rfl (fun ls hl => ?_)
          refine lv_goto (tgt := 32) hx hb dX8_knows_70 (by decide) ?_
          exact hnext32 _ (Option.some.inj h).symm H locs ls w (lv_sub hl [1, 2, 3, 4, 5, 0] rfl)
        intro H locs ls w hl
        have hl : lv_has ls 9 [(0, .ref v0), (1, .int v1), (2, .int v2), (3, .int v3), (4, .int t27), (5, .int t28)] := hl
        refine lv_iload hx hb dX8_knows_32 (lv_at hl 5 rfl) ?_
        refine lv_aload_n hx hb dX8_knows_34 rfl (lv_at hl 0 rfl) ?_
        obtain ⟨x31, hx31, h⟩ := bs h
        refine o_gR C w hx31 fl_X8_8 dX8_knows_35 ?_
        refine lv_iconst (v := 2) hx hb dX8_knows_38 (by decide) ?_
        obtain ⟨x32, hx32, h⟩ := bs h
        refine o_ldI C w hx32 dX8_knows_39 ?_
        refine lv_icmp_ge (tgt := 73) hx hb dX8_knows_40 (by decide) (fun cc40 => ?_) (fun cc40 => ?_)
        · have h := it cc40 h
          exact hE32 _ (hend32 _ (Option.some.inj h).symm).symm H locs ls w (lv_sub hl [3, 4] rfl)
        · have h := ie cc40 h
          refine lv_aload_n hx hb dX8_knows_43 rfl (lv_at hl 0 rfl) ?_
          refine lv_iload_n hx hb dX8_knows_44 rfl (lv_at hl 1 rfl) ?_
          refine lv_iload hx hb dX8_knows_45 (lv_at hl 5 rfl) ?_
          obtain ⟨_, ho, h⟩ := bs h
          obtain ⟨x33, hc, h⟩ := bs h
          refine o_backi w hLA (o_runV (As := [.int v1, .int t28]) (rest := []) C w (c_X8_isLeft l D G L S v0 v1 t28 x33 hc) ml_X8_93 mv_X8_isLeft hR_X8_isLeft ho rfl hl.1 rfl (Nat.le_of_ble_eq_true rfl) dX8_knows_47 hcs) (fun H locs w => ?_)
          refine lv_if_eq (tgt := 67) hx hb dX8_knows_50 (by decide) (fun cc50 => ?_) (fun cc50 => ?_)
          · have h := it cc50 h
            exact hb67 _ _ h H locs ls w (lv_sub hl [0, 1, 2, 3, 4, 5] rfl)
          · have h := ie cc50 h
            refine lv_iload hx hb dX8_knows_53 (lv_at hl 4 rfl) ?_
            refine lv_iconst (v := 1) hx hb dX8_knows_55 (by decide) ?_
            refine lv_aload_n hx hb dX8_knows_56 rfl (lv_at hl 0 rfl) ?_
            refine lv_iload hx hb dX8_knows_57 (lv_at hl 5 rfl) ?_
            refine lv_iload_n hx hb dX8_knows_59 rfl (lv_at hl 2 rfl) ?_
            obtain ⟨_, ho, h⟩ := bs h
            obtain ⟨x34, hc, h⟩ := bs h
            refine o_backi w hLA (o_runV (As := [.int t28, .int v2]) (rest := [.int (1 : Int32), .int t27]) C w (c_X8_valueIn l D G L S v0 t28 v2 x34 hc) ml_X8_80 mv_X8_valueIn hR_X8_valueIn ho rfl hl.1 rfl (Nat.le_of_ble_eq_true rfl) dX8_knows_60 hcs) (fun H locs w => ?_)
            refine lv_ishl hx hb dX8_knows_63 ?_
            refine lv_ior hx hb dX8_knows_64 ?_
            refine lv_istore (lv' := [(4, .int (t27 ||| ((1 : Int32) <<< (x34 &&& 31)))), (0, .ref v0), (1, .int v1), (2, .int v2), (3, .int v3), (5, .int t28)]) hx hb dX8_knows_65 hl (by decide) rfl (fun ls hl => ?_)
            exact hb67 _ _ h H locs ls w (lv_sub hl [1, 2, 3, 4, 0, 5] rfl)
      · have h := it cc21 h
        refine lv_iconst (v := -1) hx hb dX8_knows_24 (by decide) ?_
        exact hret _ _ _ _ _ w (Option.some.inj h) dX8_knows_25
set_option maxHeartbeats 4000000 in
set_option maxRecDepth 100000 in
theorem c_X8_knows (l : Launch) (D : va_G) (G : Nat → ClassId) (L : List Nat) (S : PH) (v0 : Nat) (v1 : Int32) (v2 : Int32) (v3 : Int32) (r : Int32) (h : f_X8_knows S v0 v1 v2 v3 = some r) : Met l yX8_knows [Cond.code yX8_knows cX8_knows 9 (some .int)] ({ frames := 3, cells := 0, slots := 0, locals := 65 }) (va_Pc [.ref v0, .int v1, .int v2, .int v3] (PreU D G L S)) (Qi D G L r S) 0 0 (inL L) := by
  refine Met.ofW (cc := cX8_knows) (maxL := 9) (ret := (some .int)) (by decide) rfl ?_
  intro p e s m args below meth c s₁ B hml hv
  obtain ⟨rfl, hpre⟩ := hv
  obtain ⟨C, w⟩ := o_ent (own := RX8) rfl B hml hpre
  have hl := lv_entry ([.ref v0, .int v1, .int v2, .int v3]) (n := 9) (Nat.le_of_ble_eq_true rfl)
  rw [lg_entry_eq]
  generalize (lg_sl ([.ref v0, .int v1, .int v2, .int v3]) ++ List.replicate (9 - (lg_sl ([.ref v0, .int v1, .int v2, .int v3])).length) Slot.unset).toArray = ls at hl ⊢
  exact w_X8_knows C (fun _ h => h) ⟨Nat.zero_le _, Nat.zero_le _⟩ ⟨rfl, rfl, Nat.le_of_ble_eq_true rfl, Nat.le_of_ble_eq_true rfl⟩ ⟨rfl, rfl, Nat.le_of_ble_eq_true rfl, Nat.le_of_ble_eq_true rfl⟩ ⟨rfl, rfl, Nat.le_of_ble_eq_true rfl, Nat.le_of_ble_eq_true rfl⟩ ⟨rfl, rfl, Nat.le_of_ble_eq_true rfl, Nat.le_of_ble_eq_true rfl⟩ ⟨rfl, rfl, Nat.le_of_ble_eq_true rfl, Nat.le_of_ble_eq_true rfl⟩ S v0 v1 v2 v3 r h (fun v H locs ls pc w hv hd => by subst hv; exact o_iret C w B.returns B.notSynchronized hd) _ _ _ w hl

def f_X8_tables_L13 (S : PH) (v0 : Nat) (v1 : Int32) (v2 : Int32) (v3 : Int32) : Option ((Int32 × Int32) ⊕ (Int32)) :=
(gR S v0 8 0).bind fun x2 =>
(ldI S x2 (2 : Int32)).bind fun x3 =>
if x3 ≤ v3 then (
some (.inr v2))
else (
(gR S v0 8 0).bind fun x4 =>
(ldI S x4 (((1130 : Int32) + ((4096 : Int32) * v1)) + v3)).bind fun x5 =>
some (.inl ((v2 + x5), (v3 + 1))))
def f_X8_tables (S : PH) (v0 : Nat) (v1 : Int32) : Option (Int32) :=
(f_X8_isAsker v1).bind fun x1 =>
if x1 = 0 then (
some (-1 : Int32))
else (
(lpo (fun x : Int32 × Int32 => f_X8_tables_L13 S v0 v1 x.1 x.2) FU ((0 : Int32), (0 : Int32))).bind fun y6 =>
some y6)
set_option maxHeartbeats 4000000 in
set_option maxRecDepth 100000 in
theorem w_X8_tables {p : Program} {l : Launch} {e : Env} {R : Room} {s : State} {m : MethodId} {args : Array Value} {below : List Frame} {meth : Method} {c : Code} {cells slots : Nat} {Q : State → Prop} {D : va_G} {G : Nat → ClassId} {L : List Nat} {A : Nat → Prop} {H0 : Heap} (C : CX p s m c args D G cX8_tables 4 RX8) (hLA : ∀ q ∈ L, A q) (hcs : cells ≤ R.cells ∧ slots ≤ R.slots) (hR_X8_isAsker : RoomOk R ({ frames := 1, cells := 0, slots := 0, locals := 22 }) 1) (S : PH) (v0 : Nat) (v1 : Int32) (r : Int32) (h : f_X8_tables S v0 v1 = some r) (hret : ∀ (v : Int32) (H : Heap) (locs : List Loc) (ls : Array Slot) (pc : Nat), Wd D G L A H0 S H locs → v = r → decode cX8_tables pc = .ok (.ireturn, 1) → W p l e R s m args below meth c H locs cells slots Q (F0 m pc ls [.int v])) : ∀ (H : Heap) (locs : List Loc) (ls : Array Slot), Wd D G L A H0 S H locs → lv_has ls 4 [(0, .ref v0), (1, .int v1)] → W p l e R s m args below meth c H locs cells slots Q (F0 m 0 ls []) := by
  have hx := C.1.1
  have hb := C.1.2.1
  unfold f_X8_tables at h
  intro H locs ls w hl
  refine lv_iload_n hx hb dX8_tables_0 rfl (lv_at hl 1 rfl) ?_
  obtain ⟨x1, hc, h⟩ := bs h
  refine o_backi w hLA (o_runS (As := [.int v1]) (rest := []) C w (c_X8_isAsker l D G L S v1 x1 hc) ml_X8_106 st_X8_isAsker hR_X8_isAsker rfl hl.1 rfl (Nat.le_of_ble_eq_true rfl) dX8_tables_1 hcs) (fun H locs w => ?_)
  refine lv_if_ne (tgt := 9) hx hb dX8_tables_4 (by decide) (fun cc4 => ?_) (fun cc4 => ?_)
  · have h := ie cc4 h
    refine lv_iconst (v := 0) hx hb dX8_tables_9 (by decide) ?_
    refine lv_istore_n (lv' := [(2, .int (0 : Int32)), (0, .ref v0), (1, .int v1)]) hx hb dX8_tables_10 rfl hl (by decide) rfl (fun ls hl => ?_)
    refine lv_iconst (v := 0) hx hb dX8_tables_11 (by decide) ?_
    refine lv_istore_n (lv' := [(3, .int (0 : Int32)), (2, .int (0 : Int32)), (0, .ref v0), (1, .int v1)]) hx hb dX8_tables_12 rfl hl (by decide) rfl (fun ls hl => ?_)
    obtain ⟨y6, hL13, h⟩ := bs h
    have hE13 : ∀ (q7 : Int32), y6 = q7 → ∀ (H : Heap) (locs : List Loc) (ls : Array Slot), Wd D G L A H0 S H locs → lv_has ls 4 [(2, .int q7)] → W p l e R s m args below meth c H locs cells slots Q (F0 m 48 ls []) := by
      intro q7 he
      cases he
      intro H locs ls w hl
      refine lv_iload_n hx hb dX8_tables_48 rfl (lv_at hl 0 rfl) ?_
      exact hret _ _ _ _ _ w (Option.some.inj h) dX8_tables_49
    refine lpo_W (P := fun x : Int32 × Int32 => ∀ (H : Heap) (locs : List Loc) (ls : Array Slot), Wd D G L A H0 S H locs → lv_has ls 4 [(0, .ref v0), (1, .int v1), (2, .int x.1), (3, .int x.2)] → W p l e R s m args below meth c H locs cells slots Q (F0 m 13 ls [])) ?_ FU _ hL13 H locs ls w (lv_sub hl [2, 3, 1, 0] rfl)
    intro x y13 h hnext13 hend13
    obtain ⟨t8, t9⟩ := x
    have h : f_X8_tables_L13 S v0 v1 t8 t9 = some y13 := h
    unfold f_X8_tables_L13 at h
    intro H locs ls w hl
    have hl : lv_has ls 4 [(0, .ref v0), (1, .int v1), (2, .int t8), (3, .int t9)] := hl
    refine lv_iload_n hx hb dX8_tables_13 rfl (lv_at hl 3 rfl) ?_
    refine lv_aload_n hx hb dX8_tables_14 rfl (lv_at hl 0 rfl) ?_
    obtain ⟨x10, hx10, h⟩ := bs h
    refine o_gR C w hx10 fl_X8_8 dX8_tables_15 ?_
    refine lv_iconst (v := 2) hx hb dX8_tables_18 (by decide) ?_
    obtain ⟨x11, hx11, h⟩ := bs h
    refine o_ldI C w hx11 dX8_tables_19 ?_
    refine lv_icmp_ge (tgt := 48) hx hb dX8_tables_20 (by decide) (fun cc20 => ?_) (fun cc20 => ?_)
    · have h := it cc20 h
      exact hE13 _ (hend13 _ (Option.some.inj h).symm).symm H locs ls w (lv_sub hl [2] rfl)
    · have h := ie cc20 h
      refine lv_iload_n hx hb dX8_tables_23 rfl (lv_at hl 2 rfl) ?_
      refine lv_aload_n hx hb dX8_tables_24 rfl (lv_at hl 0 rfl) ?_
      obtain ⟨x12, hx12, h⟩ := bs h
      refine o_gR C w hx12 fl_X8_8 dX8_tables_25 ?_
      refine lv_sipush (v := 1130) hx hb dX8_tables_28 (by decide) ?_
      refine lv_sipush (v := 4096) hx hb dX8_tables_31 (by decide) ?_
      refine lv_iload_n hx hb dX8_tables_34 rfl (lv_at hl 1 rfl) ?_
      refine lv_imul hx hb dX8_tables_35 ?_
      refine lv_iadd hx hb dX8_tables_36 ?_
      refine lv_iload_n hx hb dX8_tables_37 rfl (lv_at hl 3 rfl) ?_
      refine lv_iadd hx hb dX8_tables_38 ?_
      obtain ⟨x13, hx13, h⟩ := bs h
      refine o_ldI C w hx13 dX8_tables_39 ?_
      refine lv_iadd hx hb dX8_tables_40 ?_
      refine lv_istore_n (lv' := [(2, .int (t8 + x13)), (0, .ref v0), (1, .int v1), (3, .int t9)]) hx hb dX8_tables_41 rfl hl (by decide) rfl (fun ls hl => ?_)
      refine lv_iinc (v := (t9 + 1)) (lv' := [(3, .int (t9 + 1)), (2, .int (t8 + x13)), (0, .ref v0), (1, .int v1)]) hx hb dX8_tables_42 hl (k := 3) rfl rfl (by decide) rfl (fun ls hl => ?_)
      refine lv_goto (tgt := 13) hx hb dX8_tables_45 (by decide) ?_
      exact hnext13 _ (Option.some.inj h).symm H locs ls w (lv_sub hl [2, 3, 1, 0] rfl)
  · have h := it cc4 h
    refine lv_iconst (v := -1) hx hb dX8_tables_7 (by decide) ?_
    exact hret _ _ _ _ _ w (Option.some.inj h) dX8_tables_8
set_option maxHeartbeats 4000000 in
set_option maxRecDepth 100000 in
theorem c_X8_tables (l : Launch) (D : va_G) (G : Nat → ClassId) (L : List Nat) (S : PH) (v0 : Nat) (v1 : Int32) (r : Int32) (h : f_X8_tables S v0 v1 = some r) : Met l yX8_tables [Cond.code yX8_tables cX8_tables 4 (some .int)] ({ frames := 2, cells := 0, slots := 0, locals := 42 }) (va_Pc [.ref v0, .int v1] (PreU D G L S)) (Qi D G L r S) 0 0 (inL L) := by
  refine Met.ofW (cc := cX8_tables) (maxL := 4) (ret := (some .int)) (by decide) rfl ?_
  intro p e s m args below meth c s₁ B hml hv
  obtain ⟨rfl, hpre⟩ := hv
  obtain ⟨C, w⟩ := o_ent (own := RX8) rfl B hml hpre
  have hl := lv_entry ([.ref v0, .int v1]) (n := 4) (Nat.le_of_ble_eq_true rfl)
  rw [lg_entry_eq]
  generalize (lg_sl ([.ref v0, .int v1]) ++ List.replicate (4 - (lg_sl ([.ref v0, .int v1])).length) Slot.unset).toArray = ls at hl ⊢
  exact w_X8_tables C (fun _ h => h) ⟨Nat.zero_le _, Nat.zero_le _⟩ ⟨rfl, rfl, Nat.le_of_ble_eq_true rfl, Nat.le_of_ble_eq_true rfl⟩ S v0 v1 r h (fun v H locs ls pc w hv hd => by subst hv; exact o_iret C w B.returns B.notSynchronized hd) _ _ _ w hl

def f_X8_broken_b40 (S : PH) (v0 : Nat) (v1 : Int32) (v2 : Int32) : Option ((Int32 × PH) ⊕ (PH)) :=
some (.inl ((v2 + 1), S))
def f_X8_broken_L15 (S : PH) (v0 : Nat) (v1 : Int32) (v2 : Int32) : Option ((Int32 × PH) ⊕ (PH)) :=
(gR S v0 8 0).bind fun x3 =>
(ldI S x3 (2 : Int32)).bind fun x4 =>
if x4 ≤ v2 then (
some (.inr S))
else (
(ckO S v0 8).bind fun _ =>
(f_X8_isLeft S v0 v1 v2).bind fun x5 =>
if x5 = 0 then (
f_X8_broken_b40 S v0 v1 v2)
else (
(ckO S v0 8).bind fun _ =>
(f_X8_meets S v0 (0 : Int32) v2).bind fun S6 =>
f_X8_broken_b40 S6 v0 v1 v2))
def f_X8_broken (S : PH) (v0 : Nat) (v1 : Int32) : Option (Int32 × PH) :=
(f_X8_isAsker v1).bind fun x1 =>
if x1 = 0 then (
some ((0 : Int32), S))
else (
(ckO S v0 8).bind fun _ =>
(f_X8_clears S v0).bind fun S2 =>
(lpo (fun x : Int32 × PH => f_X8_broken_L15 x.2 v0 v1 x.1) FU ((0 : Int32), S2)).bind fun S7 =>
(ckO S7 v0 8).bind fun _ =>
(f_X8_isClose S7 v0 (0 : Int32)).bind fun x8 =>
(ckZ x8).bind fun _ =>
some (x8, S7))
set_option maxHeartbeats 4000000 in
set_option maxRecDepth 100000 in
theorem w_X8_broken {p : Program} {l : Launch} {e : Env} {R : Room} {s : State} {m : MethodId} {args : Array Value} {below : List Frame} {meth : Method} {c : Code} {cells slots : Nat} {Q : State → Prop} {D : va_G} {G : Nat → ClassId} {L : List Nat} {A : Nat → Prop} {H0 : Heap} (C : CX p s m c args D G cX8_broken 3 RX8) (hLA : ∀ q ∈ L, A q) (hcs : cells ≤ R.cells ∧ slots ≤ R.slots) (hR_X8_isAsker : RoomOk R ({ frames := 1, cells := 0, slots := 0, locals := 22 }) 1) (hR_X8_clears : RoomOk R ({ frames := 0, cells := 0, slots := 0, locals := 0 }) 2) (hR_X8_isLeft : RoomOk R ({ frames := 0, cells := 0, slots := 0, locals := 0 }) 3) (hR_X8_meets : RoomOk R ({ frames := 3, cells := 0, slots := 0, locals := 65 }) 6) (hR_X8_isClose : RoomOk R ({ frames := 1, cells := 0, slots := 0, locals := 22 }) 4) (S : PH) (v0 : Nat) (v1 : Int32) (r : Int32 × PH) (h : f_X8_broken S v0 v1 = some r) (hret : ∀ (v : Int32) (S9 : PH) (H : Heap) (locs : List Loc) (ls : Array Slot) (pc : Nat), Wd D G L A H0 S9 H locs → narrow .boolean (.int v) = .int v → (v, S9) = r → decode cX8_broken pc = .ok (.ireturn, 1) → W p l e R s m args below meth c H locs cells slots Q (F0 m pc ls [.int v])) : ∀ (H : Heap) (locs : List Loc) (ls : Array Slot), Wd D G L A H0 S H locs → lv_has ls 3 [(0, .ref v0), (1, .int v1)] → W p l e R s m args below meth c H locs cells slots Q (F0 m 0 ls []) := by
  have hx := C.1.1
  have hb := C.1.2.1
  unfold f_X8_broken at h
  intro H locs ls w hl
  refine lv_iload_n hx hb dX8_broken_0 rfl (lv_at hl 1 rfl) ?_
  obtain ⟨x1, hc, h⟩ := bs h
  refine o_backi w hLA (o_runS (As := [.int v1]) (rest := []) C w (c_X8_isAsker l D G L S v1 x1 hc) ml_X8_106 st_X8_isAsker hR_X8_isAsker rfl hl.1 rfl (Nat.le_of_ble_eq_true rfl) dX8_broken_1 hcs) (fun H locs w => ?_)
  refine lv_if_ne (tgt := 9) hx hb dX8_broken_4 (by decide) (fun cc4 => ?_) (fun cc4 => ?_)
  · have h := ie cc4 h
    refine lv_aload_n hx hb dX8_broken_9 rfl (lv_at hl 0 rfl) ?_
    obtain ⟨_, ho, h⟩ := bs h
    obtain ⟨S2, hc, h⟩ := bs h
    refine o_backv w hLA (o_runV (As := []) (rest := []) C w (c_X8_clears l D G L S v0 S2 hc) ml_X8_90 mv_X8_clears hR_X8_clears ho rfl hl.1 rfl (Nat.le_of_ble_eq_true rfl) dX8_broken_10 hcs) (fun H locs w => ?_)
    refine lv_iconst (v := 0) hx hb dX8_broken_13 (by decide) ?_
    refine lv_istore_n (lv' := [(2, .int (0 : Int32)), (0, .ref v0), (1, .int v1)]) hx hb dX8_broken_14 rfl hl (by decide) rfl (fun ls hl => ?_)
    obtain ⟨S7, hL15, h⟩ := bs h
    have hE15 : ∀ (q9 : PH), S7 = q9 → ∀ (H : Heap) (locs : List Loc) (ls : Array Slot), Wd D G L A H0 q9 H locs → lv_has ls 3 [(0, .ref v0)] → W p l e R s m args below meth c H locs cells slots Q (F0 m 46 ls []) := by
      intro q9 he
      cases he
      intro H locs ls w hl
      refine lv_aload_n hx hb dX8_broken_46 rfl (lv_at hl 0 rfl) ?_
      refine lv_iconst (v := 0) hx hb dX8_broken_47 (by decide) ?_
      obtain ⟨_, ho, h⟩ := bs h
      obtain ⟨x8, hc, h⟩ := bs h
      refine o_backi w hLA (o_runV (As := [.int (0 : Int32)]) (rest := []) C w (c_X8_isClose l D G L S7 v0 (0 : Int32) x8 hc) ml_X8_103 mv_X8_isClose hR_X8_isClose ho rfl hl.1 rfl (Nat.le_of_ble_eq_true rfl) dX8_broken_48 hcs) (fun H locs w => ?_)
      obtain ⟨_, hz, h⟩ := bs h
      exact hret _ _ _ _ _ _ w (ckZ_some hz) (Option.some.inj h) dX8_broken_51
    refine lpo_W (P := fun x : Int32 × PH => ∀ (H : Heap) (locs : List Loc) (ls : Array Slot), Wd D G L A H0 x.2 H locs → lv_has ls 3 [(0, .ref v0), (1, .int v1), (2, .int x.1)] → W p l e R s m args below meth c H locs cells slots Q (F0 m 15 ls [])) ?_ FU _ hL15 H locs ls w (lv_sub hl [1, 2, 0] rfl)
    intro x y15 h hnext15 hend15
    obtain ⟨t10, S11⟩ := x
    have h : f_X8_broken_L15 S11 v0 v1 t10 = some y15 := h
    unfold f_X8_broken_L15 at h
    have hb40 : ∀ (S12 : PH) (u13 : Int32), f_X8_broken_b40 S12 v0 v1 u13 = some y15 → ∀ (H : Heap) (locs : List Loc) (ls : Array Slot), Wd D G L A H0 S12 H locs → lv_has ls 3 [(0, .ref v0), (1, .int v1), (2, .int u13)] → W p l e R s m args below meth c H locs cells slots Q (F0 m 40 ls []) := by
      intro S12 u13 h H locs ls w hl
      unfold f_X8_broken_b40 at h
      refine lv_iinc (v := (u13 + 1)) (lv' := [(2, .int (u13 + 1)), (0, .ref v0), (1, .int v1)]) hx hb dX8_broken_40 hl (k := 2) rfl rfl (by decide) rfl (fun ls hl => ?_)
      refine lv_goto (tgt := 15) hx hb dX8_broken_43 (by decide) ?_
      exact hnext15 _ (Option.some.inj h).symm H locs ls w (lv_sub hl [1, 2, 0] rfl)
    intro H locs ls w hl
    have hl : lv_has ls 3 [(0, .ref v0), (1, .int v1), (2, .int t10)] := hl
    have w : Wd D G L A H0 S11 H locs := w
    refine lv_iload_n hx hb dX8_broken_15 rfl (lv_at hl 2 rfl) ?_
    refine lv_aload_n hx hb dX8_broken_16 rfl (lv_at hl 0 rfl) ?_
    obtain ⟨x14, hx14, h⟩ := bs h
    refine o_gR C w hx14 fl_X8_8 dX8_broken_17 ?_
    refine lv_iconst (v := 2) hx hb dX8_broken_20 (by decide) ?_
    obtain ⟨x15, hx15, h⟩ := bs h
    refine o_ldI C w hx15 dX8_broken_21 ?_
    refine lv_icmp_ge (tgt := 46) hx hb dX8_broken_22 (by decide) (fun cc22 => ?_) (fun cc22 => ?_)
    · have h := it cc22 h
      exact hE15 _ (hend15 _ (Option.some.inj h).symm).symm H locs ls w (lv_sub hl [0] rfl)
    · have h := ie cc22 h
      refine lv_aload_n hx hb dX8_broken_25 rfl (lv_at hl 0 rfl) ?_
      refine lv_iload_n hx hb dX8_broken_26 rfl (lv_at hl 1 rfl) ?_
      refine lv_iload_n hx hb dX8_broken_27 rfl (lv_at hl 2 rfl) ?_
      obtain ⟨_, ho, h⟩ := bs h
      obtain ⟨x16, hc, h⟩ := bs h
      refine o_backi w hLA (o_runV (As := [.int v1, .int t10]) (rest := []) C w (c_X8_isLeft l D G L S11 v0 v1 t10 x16 hc) ml_X8_93 mv_X8_isLeft hR_X8_isLeft ho rfl hl.1 rfl (Nat.le_of_ble_eq_true rfl) dX8_broken_28 hcs) (fun H locs w => ?_)
      refine lv_if_eq (tgt := 40) hx hb dX8_broken_31 (by decide) (fun cc31 => ?_) (fun cc31 => ?_)
      · have h := it cc31 h
        exact hb40 _ _ h H locs ls w (lv_sub hl [0, 1, 2] rfl)
      · have h := ie cc31 h
        refine lv_aload_n hx hb dX8_broken_34 rfl (lv_at hl 0 rfl) ?_
        refine lv_iconst (v := 0) hx hb dX8_broken_35 (by decide) ?_
        refine lv_iload_n hx hb dX8_broken_36 rfl (lv_at hl 2 rfl) ?_
        obtain ⟨_, ho, h⟩ := bs h
        obtain ⟨S17, hc, h⟩ := bs h
        refine o_backv w hLA (o_runV (As := [.int (0 : Int32), .int t10]) (rest := []) C w (c_X8_meets l D G L S11 v0 (0 : Int32) t10 S17 hc) ml_X8_100 mv_X8_meets hR_X8_meets ho rfl hl.1 rfl (Nat.le_of_ble_eq_true rfl) dX8_broken_37 hcs) (fun H locs w => ?_)
        exact hb40 _ _ h H locs ls w (lv_sub hl [0, 1, 2] rfl)
  · have h := it cc4 h
    refine lv_iconst (v := 0) hx hb dX8_broken_7 (by decide) ?_
    exact hret _ _ _ _ _ _ w rfl (Option.some.inj h) dX8_broken_8
set_option maxHeartbeats 4000000 in
set_option maxRecDepth 100000 in
theorem c_X8_broken (l : Launch) (D : va_G) (G : Nat → ClassId) (L : List Nat) (S : PH) (v0 : Nat) (v1 : Int32) (r : Int32 × PH) (h : f_X8_broken S v0 v1 = some r) : Met l yX8_broken [Cond.code yX8_broken cX8_broken 3 (some .boolean)] ({ frames := 4, cells := 0, slots := 0, locals := 90 }) (va_Pc [.ref v0, .int v1] (PreU D G L S)) (Qi D G L r.1 r.2) 0 0 (inL L) := by
  refine Met.ofW (cc := cX8_broken) (maxL := 3) (ret := (some .boolean)) (by decide) rfl ?_
  intro p e s m args below meth c s₁ B hml hv
  obtain ⟨rfl, hpre⟩ := hv
  obtain ⟨C, w⟩ := o_ent (own := RX8) rfl B hml hpre
  have hl := lv_entry ([.ref v0, .int v1]) (n := 3) (Nat.le_of_ble_eq_true rfl)
  rw [lg_entry_eq]
  generalize (lg_sl ([.ref v0, .int v1]) ++ List.replicate (3 - (lg_sl ([.ref v0, .int v1])).length) Slot.unset).toArray = ls at hl ⊢
  exact w_X8_broken C (fun _ h => h) ⟨Nat.zero_le _, Nat.zero_le _⟩ ⟨rfl, rfl, Nat.le_of_ble_eq_true rfl, Nat.le_of_ble_eq_true rfl⟩ ⟨rfl, rfl, Nat.le_of_ble_eq_true rfl, Nat.le_of_ble_eq_true rfl⟩ ⟨rfl, rfl, Nat.le_of_ble_eq_true rfl, Nat.le_of_ble_eq_true rfl⟩ ⟨rfl, rfl, Nat.le_of_ble_eq_true rfl, Nat.le_of_ble_eq_true rfl⟩ ⟨rfl, rfl, Nat.le_of_ble_eq_true rfl, Nat.le_of_ble_eq_true rfl⟩ S v0 v1 r h (fun v S9 H locs ls pc w hz hv hd => by subst hv; exact o_zret C w B.returns B.notSynchronized hz hd) _ _ _ w hl

def f_X8_tell (S : PH) (v0 : Nat) (v1 : Int32) (v2 : Int32) : Option (Int32) :=
if v2 = 0 then (
(ckO S v0 8).bind fun _ =>
(f_X8_isPerson S v0 v1).bind fun x10 =>
if x10 = 0 then (
some (-1 : Int32))
else (
(gR S v0 8 0).bind fun x11 =>
(ldI S x11 ((10 : Int32) + v1)).bind fun x12 =>
some x12))
else (
(ckO S v0 8).bind fun _ =>
(f_X8_isNumber S v0 v1).bind fun x1 =>
if x1 = 0 then (
some (-1 : Int32))
else (
if v2 = 1 then (
(ckO S v0 8).bind fun _ =>
(f_X8_of S v0 v1 (0 : Int32)).bind fun x2 =>
some x2)
else if v2 = 2 then (
(ckO S v0 8).bind fun _ =>
(f_X8_of S v0 v1 (1 : Int32)).bind fun x3 =>
some x3)
else if v2 = 3 then (
(ckO S v0 8).bind fun _ =>
(f_X8_of S v0 v1 (2 : Int32)).bind fun x4 =>
some x4)
else if v2 = 4 then (
(ckO S v0 8).bind fun _ =>
(f_X8_of S v0 v1 (3 : Int32)).bind fun x5 =>
some x5)
else if v2 = 5 then (
(gR S v0 8 0).bind fun x6 =>
(ckO S v0 8).bind fun _ =>
(f_X8_of S v0 v1 (0 : Int32)).bind fun x7 =>
(ldI S x6 ((10 : Int32) + x7)).bind fun x8 =>
if x8 = v1 then (
some (1 : Int32))
else (
some (0 : Int32)))
else if v2 = 6 then (
(ckO S v0 8).bind fun _ =>
(f_X8_of S v0 v1 (4 : Int32)).bind fun x9 =>
some x9)
else (
some (-1 : Int32))))
set_option maxHeartbeats 4000000 in
set_option maxRecDepth 100000 in
theorem w_X8_tell {p : Program} {l : Launch} {e : Env} {R : Room} {s : State} {m : MethodId} {args : Array Value} {below : List Frame} {meth : Method} {c : Code} {cells slots : Nat} {Q : State → Prop} {D : va_G} {G : Nat → ClassId} {L : List Nat} {A : Nat → Prop} {H0 : Heap} (C : CX p s m c args D G cX8_tell 3 RX8) (hLA : ∀ q ∈ L, A q) (hcs : cells ≤ R.cells ∧ slots ≤ R.slots) (hR_X8_isPerson : RoomOk R ({ frames := 1, cells := 0, slots := 0, locals := 22 }) 2) (hR_X8_isNumber : RoomOk R ({ frames := 1, cells := 0, slots := 0, locals := 22 }) 2) (hR_X8_of : RoomOk R ({ frames := 0, cells := 0, slots := 0, locals := 0 }) 3) (S : PH) (v0 : Nat) (v1 : Int32) (v2 : Int32) (r : Int32) (h : f_X8_tell S v0 v1 v2 = some r) (hret : ∀ (v : Int32) (H : Heap) (locs : List Loc) (ls : Array Slot) (pc : Nat), Wd D G L A H0 S H locs → v = r → decode cX8_tell pc = .ok (.ireturn, 1) → W p l e R s m args below meth c H locs cells slots Q (F0 m pc ls [.int v])) : ∀ (H : Heap) (locs : List Loc) (ls : Array Slot), Wd D G L A H0 S H locs → lv_has ls 3 [(0, .ref v0), (1, .int v1), (2, .int v2)] → W p l e R s m args below meth c H locs cells slots Q (F0 m 0 ls []) := by
  have hx := C.1.1
  have hb := C.1.2.1
  unfold f_X8_tell at h
  intro H locs ls w hl
  refine lv_iload_n hx hb dX8_tell_0 rfl (lv_at hl 2 rfl) ?_
  refine lv_if_ne (tgt := 26) hx hb dX8_tell_1 (by decide) (fun cc1 => ?_) (fun cc1 => ?_)
  · have h := ie cc1 h
    refine lv_aload_n hx hb dX8_tell_26 rfl (lv_at hl 0 rfl) ?_
    refine lv_iload_n hx hb dX8_tell_27 rfl (lv_at hl 1 rfl) ?_
    obtain ⟨_, ho, h⟩ := bs h
    obtain ⟨x1, hc, h⟩ := bs h
    refine o_backi w hLA (o_runV (As := [.int v1]) (rest := []) C w (c_X8_isNumber l D G L S v0 v1 x1 hc) ml_X8_125 mv_X8_isNumber hR_X8_isNumber ho rfl hl.1 rfl (Nat.le_of_ble_eq_true rfl) dX8_tell_28 hcs) (fun H locs w => ?_)
    refine lv_if_ne (tgt := 36) hx hb dX8_tell_31 (by decide) (fun cc31 => ?_) (fun cc31 => ?_)
    · have h := ie cc31 h
      refine lv_iload_n hx hb dX8_tell_36 rfl (lv_at hl 2 rfl) ?_
      by_cases cw37_1 : v2 = 1
      · have h := it cw37_1 h
        refine o_sw0 C 1 cw37_1 dX8_tell_37 (by decide) (by decide) rfl (tgt := 76) (by decide) ?_
        refine lv_aload_n hx hb dX8_tell_76 rfl (lv_at hl 0 rfl) ?_
        refine lv_iload_n hx hb dX8_tell_77 rfl (lv_at hl 1 rfl) ?_
        refine lv_iconst (v := 0) hx hb dX8_tell_78 (by decide) ?_
        obtain ⟨_, ho, h⟩ := bs h
        obtain ⟨x2, hc, h⟩ := bs h
        refine o_backi w hLA (o_runV (As := [.int v1, .int (0 : Int32)]) (rest := []) C w (c_X8_of l D G L S v0 v1 (0 : Int32) x2 hc) ml_X8_44 mv_X8_of hR_X8_of ho rfl hl.1 rfl (Nat.le_of_ble_eq_true rfl) dX8_tell_79 hcs) (fun H locs w => ?_)
        exact hret _ _ _ _ _ w (Option.some.inj h) dX8_tell_82
      have h := ie cw37_1 h
      by_cases cw37_2 : v2 = 2
      · have h := it cw37_2 h
        refine o_sw0 C 2 cw37_2 dX8_tell_37 (by decide) (by decide) rfl (tgt := 83) (by decide) ?_
        refine lv_aload_n hx hb dX8_tell_83 rfl (lv_at hl 0 rfl) ?_
        refine lv_iload_n hx hb dX8_tell_84 rfl (lv_at hl 1 rfl) ?_
        refine lv_iconst (v := 1) hx hb dX8_tell_85 (by decide) ?_
        obtain ⟨_, ho, h⟩ := bs h
        obtain ⟨x3, hc, h⟩ := bs h
        refine o_backi w hLA (o_runV (As := [.int v1, .int (1 : Int32)]) (rest := []) C w (c_X8_of l D G L S v0 v1 (1 : Int32) x3 hc) ml_X8_44 mv_X8_of hR_X8_of ho rfl hl.1 rfl (Nat.le_of_ble_eq_true rfl) dX8_tell_86 hcs) (fun H locs w => ?_)
        exact hret _ _ _ _ _ w (Option.some.inj h) dX8_tell_89
      have h := ie cw37_2 h
      by_cases cw37_3 : v2 = 3
      · have h := it cw37_3 h
        refine o_sw0 C 3 cw37_3 dX8_tell_37 (by decide) (by decide) rfl (tgt := 90) (by decide) ?_
        refine lv_aload_n hx hb dX8_tell_90 rfl (lv_at hl 0 rfl) ?_
        refine lv_iload_n hx hb dX8_tell_91 rfl (lv_at hl 1 rfl) ?_
        refine lv_iconst (v := 2) hx hb dX8_tell_92 (by decide) ?_
        obtain ⟨_, ho, h⟩ := bs h
        obtain ⟨x4, hc, h⟩ := bs h
        refine o_backi w hLA (o_runV (As := [.int v1, .int (2 : Int32)]) (rest := []) C w (c_X8_of l D G L S v0 v1 (2 : Int32) x4 hc) ml_X8_44 mv_X8_of hR_X8_of ho rfl hl.1 rfl (Nat.le_of_ble_eq_true rfl) dX8_tell_93 hcs) (fun H locs w => ?_)
        exact hret _ _ _ _ _ w (Option.some.inj h) dX8_tell_96
      have h := ie cw37_3 h
      by_cases cw37_4 : v2 = 4
      · have h := it cw37_4 h
        refine o_sw0 C 4 cw37_4 dX8_tell_37 (by decide) (by decide) rfl (tgt := 97) (by decide) ?_
        refine lv_aload_n hx hb dX8_tell_97 rfl (lv_at hl 0 rfl) ?_
        refine lv_iload_n hx hb dX8_tell_98 rfl (lv_at hl 1 rfl) ?_
        refine lv_iconst (v := 3) hx hb dX8_tell_99 (by decide) ?_
        obtain ⟨_, ho, h⟩ := bs h
        obtain ⟨x5, hc, h⟩ := bs h
        refine o_backi w hLA (o_runV (As := [.int v1, .int (3 : Int32)]) (rest := []) C w (c_X8_of l D G L S v0 v1 (3 : Int32) x5 hc) ml_X8_44 mv_X8_of hR_X8_of ho rfl hl.1 rfl (Nat.le_of_ble_eq_true rfl) dX8_tell_100 hcs) (fun H locs w => ?_)
        exact hret _ _ _ _ _ w (Option.some.inj h) dX8_tell_103
      have h := ie cw37_4 h
      by_cases cw37_5 : v2 = 5
      · have h := it cw37_5 h
        refine o_sw0 C 5 cw37_5 dX8_tell_37 (by decide) (by decide) rfl (tgt := 104) (by decide) ?_
        refine lv_aload_n hx hb dX8_tell_104 rfl (lv_at hl 0 rfl) ?_
        obtain ⟨x6, hx6, h⟩ := bs h
        refine o_gR C w hx6 fl_X8_8 dX8_tell_105 ?_
        refine lv_bipush (v := 10) hx hb dX8_tell_108 (by decide) ?_
        refine lv_aload_n hx hb dX8_tell_110 rfl (lv_at hl 0 rfl) ?_
        refine lv_iload_n hx hb dX8_tell_111 rfl (lv_at hl 1 rfl) ?_
        refine lv_iconst (v := 0) hx hb dX8_tell_112 (by decide) ?_
        obtain ⟨_, ho, h⟩ := bs h
        obtain ⟨x7, hc, h⟩ := bs h
        refine o_backi w hLA (o_runV (As := [.int v1, .int (0 : Int32)]) (rest := [.int (10 : Int32), .ref x6]) C w (c_X8_of l D G L S v0 v1 (0 : Int32) x7 hc) ml_X8_44 mv_X8_of hR_X8_of ho rfl hl.1 rfl (Nat.le_of_ble_eq_true rfl) dX8_tell_113 hcs) (fun H locs w => ?_)
        refine lv_iadd hx hb dX8_tell_116 ?_
        obtain ⟨x8, hx8, h⟩ := bs h
        refine o_ldI C w hx8 dX8_tell_117 ?_
        refine lv_iload_n hx hb dX8_tell_118 rfl (lv_at hl 1 rfl) ?_
        refine lv_icmp_ne (tgt := 126) hx hb dX8_tell_119 (by decide) (fun cc119 => ?_) (fun cc119 => ?_)
        · have h := ie cc119 h
          refine lv_iconst (v := 0) hx hb dX8_tell_126 (by decide) ?_
          exact hret _ _ _ _ _ w (Option.some.inj h) dX8_tell_127
        · have h := it cc119 h
          refine lv_iconst (v := 1) hx hb dX8_tell_122 (by decide) ?_
          refine lv_goto (tgt := 127) hx hb dX8_tell_123 (by decide) ?_
          exact hret _ _ _ _ _ w (Option.some.inj h) dX8_tell_127
      have h := ie cw37_5 h
      by_cases cw37_6 : v2 = 6
      · have h := it cw37_6 h
        refine o_sw0 C 6 cw37_6 dX8_tell_37 (by decide) (by decide) rfl (tgt := 128) (by decide) ?_
        refine lv_aload_n hx hb dX8_tell_128 rfl (lv_at hl 0 rfl) ?_
        refine lv_iload_n hx hb dX8_tell_129 rfl (lv_at hl 1 rfl) ?_
        refine lv_iconst (v := 4) hx hb dX8_tell_130 (by decide) ?_
        obtain ⟨_, ho, h⟩ := bs h
        obtain ⟨x9, hc, h⟩ := bs h
        refine o_backi w hLA (o_runV (As := [.int v1, .int (4 : Int32)]) (rest := []) C w (c_X8_of l D G L S v0 v1 (4 : Int32) x9 hc) ml_X8_44 mv_X8_of hR_X8_of ho rfl hl.1 rfl (Nat.le_of_ble_eq_true rfl) dX8_tell_131 hcs) (fun H locs w => ?_)
        exact hret _ _ _ _ _ w (Option.some.inj h) dX8_tell_134
      have h := ie cw37_6 h
      have cx1 := lv_neT (k := 1) (a := 1) cw37_1 (by decide)
      have cx2 := lv_neT (k := 2) (a := 2) cw37_2 (by decide)
      have cx3 := lv_neT (k := 3) (a := 3) cw37_3 (by decide)
      have cx4 := lv_neT (k := 4) (a := 4) cw37_4 (by decide)
      have cx5 := lv_neT (k := 5) (a := 5) cw37_5 (by decide)
      have cx6 := lv_neT (k := 6) (a := 6) cw37_6 (by decide)
      refine lv_tableOut (tgt := 135) hx hb dX8_tell_37 (by omega) (by decide) ?_
      refine lv_iconst (v := -1) hx hb dX8_tell_135 (by decide) ?_
      exact hret _ _ _ _ _ w (Option.some.inj h) dX8_tell_136
    · have h := it cc31 h
      refine lv_iconst (v := -1) hx hb dX8_tell_34 (by decide) ?_
      exact hret _ _ _ _ _ w (Option.some.inj h) dX8_tell_35
  · have h := it cc1 h
    refine lv_aload_n hx hb dX8_tell_4 rfl (lv_at hl 0 rfl) ?_
    refine lv_iload_n hx hb dX8_tell_5 rfl (lv_at hl 1 rfl) ?_
    obtain ⟨_, ho, h⟩ := bs h
    obtain ⟨x10, hc, h⟩ := bs h
    refine o_backi w hLA (o_runV (As := [.int v1]) (rest := []) C w (c_X8_isPerson l D G L S v0 v1 x10 hc) ml_X8_60 mv_X8_isPerson hR_X8_isPerson ho rfl hl.1 rfl (Nat.le_of_ble_eq_true rfl) dX8_tell_6 hcs) (fun H locs w => ?_)
    refine lv_if_eq (tgt := 24) hx hb dX8_tell_9 (by decide) (fun cc9 => ?_) (fun cc9 => ?_)
    · have h := it cc9 h
      refine lv_iconst (v := -1) hx hb dX8_tell_24 (by decide) ?_
      exact hret _ _ _ _ _ w (Option.some.inj h) dX8_tell_25
    · have h := ie cc9 h
      refine lv_aload_n hx hb dX8_tell_12 rfl (lv_at hl 0 rfl) ?_
      obtain ⟨x11, hx11, h⟩ := bs h
      refine o_gR C w hx11 fl_X8_8 dX8_tell_13 ?_
      refine lv_bipush (v := 10) hx hb dX8_tell_16 (by decide) ?_
      refine lv_iload_n hx hb dX8_tell_18 rfl (lv_at hl 1 rfl) ?_
      refine lv_iadd hx hb dX8_tell_19 ?_
      obtain ⟨x12, hx12, h⟩ := bs h
      refine o_ldI C w hx12 dX8_tell_20 ?_
      refine lv_goto (tgt := 25) hx hb dX8_tell_21 (by decide) ?_
      exact hret _ _ _ _ _ w (Option.some.inj h) dX8_tell_25
set_option maxHeartbeats 4000000 in
set_option maxRecDepth 100000 in
theorem c_X8_tell (l : Launch) (D : va_G) (G : Nat → ClassId) (L : List Nat) (S : PH) (v0 : Nat) (v1 : Int32) (v2 : Int32) (r : Int32) (h : f_X8_tell S v0 v1 v2 = some r) : Met l yX8_tell [Cond.code yX8_tell cX8_tell 3 (some .int)] ({ frames := 2, cells := 0, slots := 0, locals := 43 }) (va_Pc [.ref v0, .int v1, .int v2] (PreU D G L S)) (Qi D G L r S) 0 0 (inL L) := by
  refine Met.ofW (cc := cX8_tell) (maxL := 3) (ret := (some .int)) (by decide) rfl ?_
  intro p e s m args below meth c s₁ B hml hv
  obtain ⟨rfl, hpre⟩ := hv
  obtain ⟨C, w⟩ := o_ent (own := RX8) rfl B hml hpre
  have hl := lv_entry ([.ref v0, .int v1, .int v2]) (n := 3) (Nat.le_of_ble_eq_true rfl)
  rw [lg_entry_eq]
  generalize (lg_sl ([.ref v0, .int v1, .int v2]) ++ List.replicate (3 - (lg_sl ([.ref v0, .int v1, .int v2])).length) Slot.unset).toArray = ls at hl ⊢
  exact w_X8_tell C (fun _ h => h) ⟨Nat.zero_le _, Nat.zero_le _⟩ ⟨rfl, rfl, Nat.le_of_ble_eq_true rfl, Nat.le_of_ble_eq_true rfl⟩ ⟨rfl, rfl, Nat.le_of_ble_eq_true rfl, Nat.le_of_ble_eq_true rfl⟩ ⟨rfl, rfl, Nat.le_of_ble_eq_true rfl, Nat.le_of_ble_eq_true rfl⟩ S v0 v1 v2 r h (fun v H locs ls pc w hv hd => by subst hv; exact o_iret C w B.returns B.notSynchronized hd) _ _ _ w hl

def f_X8_asked (S : PH) (v0 : Nat) (v1 : Int32) (v2 : Int32) : Option (Int32) :=
(gR S v0 8 0).bind fun x1 =>
(ldI S x1 (3 : Int32)).bind fun x2 =>
(f_X8_isIn v1 (0 : Int32) (x2 - (1 : Int32))).bind fun x3 =>
if x3 = 0 then (
some (-1 : Int32))
else (
(f_X8_isIn v2 (0 : Int32) (4 : Int32)).bind fun x4 =>
if x4 = 0 then (
some (-1 : Int32))
else (
(gR S v0 8 0).bind fun x5 =>
(ldI S x5 (((100 : Int32) + ((5 : Int32) * v1)) + v2)).bind fun x6 =>
some x6))
set_option maxHeartbeats 4000000 in
set_option maxRecDepth 100000 in
theorem w_X8_asked {p : Program} {l : Launch} {e : Env} {R : Room} {s : State} {m : MethodId} {args : Array Value} {below : List Frame} {meth : Method} {c : Code} {cells slots : Nat} {Q : State → Prop} {D : va_G} {G : Nat → ClassId} {L : List Nat} {A : Nat → Prop} {H0 : Heap} (C : CX p s m c args D G cX8_asked 3 RX8) (hLA : ∀ q ∈ L, A q) (hcs : cells ≤ R.cells ∧ slots ≤ R.slots) (hR_X8_isIn : RoomOk R ({ frames := 0, cells := 0, slots := 0, locals := 0 }) 3) (S : PH) (v0 : Nat) (v1 : Int32) (v2 : Int32) (r : Int32) (h : f_X8_asked S v0 v1 v2 = some r) (hret : ∀ (v : Int32) (H : Heap) (locs : List Loc) (ls : Array Slot) (pc : Nat), Wd D G L A H0 S H locs → v = r → decode cX8_asked pc = .ok (.ireturn, 1) → W p l e R s m args below meth c H locs cells slots Q (F0 m pc ls [.int v])) : ∀ (H : Heap) (locs : List Loc) (ls : Array Slot), Wd D G L A H0 S H locs → lv_has ls 3 [(0, .ref v0), (1, .int v1), (2, .int v2)] → W p l e R s m args below meth c H locs cells slots Q (F0 m 0 ls []) := by
  have hx := C.1.1
  have hb := C.1.2.1
  unfold f_X8_asked at h
  intro H locs ls w hl
  refine lv_iload_n hx hb dX8_asked_0 rfl (lv_at hl 1 rfl) ?_
  refine lv_iconst (v := 0) hx hb dX8_asked_1 (by decide) ?_
  refine lv_aload_n hx hb dX8_asked_2 rfl (lv_at hl 0 rfl) ?_
  obtain ⟨x1, hx1, h⟩ := bs h
  refine o_gR C w hx1 fl_X8_8 dX8_asked_3 ?_
  refine lv_iconst (v := 3) hx hb dX8_asked_6 (by decide) ?_
  obtain ⟨x2, hx2, h⟩ := bs h
  refine o_ldI C w hx2 dX8_asked_7 ?_
  refine lv_iconst (v := 1) hx hb dX8_asked_8 (by decide) ?_
  refine lv_isub hx hb dX8_asked_9 ?_
  obtain ⟨x3, hc, h⟩ := bs h
  refine o_backi w hLA (o_runS (As := [.int v1, .int (0 : Int32), .int (x2 - (1 : Int32))]) (rest := []) C w (c_X8_isIn l D G L S v1 (0 : Int32) (x2 - (1 : Int32)) x3 hc) ml_X8_40 st_X8_isIn hR_X8_isIn rfl hl.1 rfl (Nat.le_of_ble_eq_true rfl) dX8_asked_10 hcs) (fun H locs w => ?_)
  refine lv_if_eq (tgt := 41) hx hb dX8_asked_13 (by decide) (fun cc13 => ?_) (fun cc13 => ?_)
  · have h := it cc13 h
    refine lv_iconst (v := -1) hx hb dX8_asked_41 (by decide) ?_
    exact hret _ _ _ _ _ w (Option.some.inj h) dX8_asked_42
  · have h := ie cc13 h
    refine lv_iload_n hx hb dX8_asked_16 rfl (lv_at hl 2 rfl) ?_
    refine lv_iconst (v := 0) hx hb dX8_asked_17 (by decide) ?_
    refine lv_iconst (v := 4) hx hb dX8_asked_18 (by decide) ?_
    obtain ⟨x4, hc, h⟩ := bs h
    refine o_backi w hLA (o_runS (As := [.int v2, .int (0 : Int32), .int (4 : Int32)]) (rest := []) C w (c_X8_isIn l D G L S v2 (0 : Int32) (4 : Int32) x4 hc) ml_X8_40 st_X8_isIn hR_X8_isIn rfl hl.1 rfl (Nat.le_of_ble_eq_true rfl) dX8_asked_19 hcs) (fun H locs w => ?_)
    refine lv_if_eq (tgt := 41) hx hb dX8_asked_22 (by decide) (fun cc22 => ?_) (fun cc22 => ?_)
    · have h := it cc22 h
      refine lv_iconst (v := -1) hx hb dX8_asked_41 (by decide) ?_
      exact hret _ _ _ _ _ w (Option.some.inj h) dX8_asked_42
    · have h := ie cc22 h
      refine lv_aload_n hx hb dX8_asked_25 rfl (lv_at hl 0 rfl) ?_
      obtain ⟨x5, hx5, h⟩ := bs h
      refine o_gR C w hx5 fl_X8_8 dX8_asked_26 ?_
      refine lv_bipush (v := 100) hx hb dX8_asked_29 (by decide) ?_
      refine lv_iconst (v := 5) hx hb dX8_asked_31 (by decide) ?_
      refine lv_iload_n hx hb dX8_asked_32 rfl (lv_at hl 1 rfl) ?_
      refine lv_imul hx hb dX8_asked_33 ?_
      refine lv_iadd hx hb dX8_asked_34 ?_
      refine lv_iload_n hx hb dX8_asked_35 rfl (lv_at hl 2 rfl) ?_
      refine lv_iadd hx hb dX8_asked_36 ?_
      obtain ⟨x6, hx6, h⟩ := bs h
      refine o_ldI C w hx6 dX8_asked_37 ?_
      refine lv_goto (tgt := 42) hx hb dX8_asked_38 (by decide) ?_
      exact hret _ _ _ _ _ w (Option.some.inj h) dX8_asked_42
set_option maxHeartbeats 4000000 in
set_option maxRecDepth 100000 in
theorem c_X8_asked (l : Launch) (D : va_G) (G : Nat → ClassId) (L : List Nat) (S : PH) (v0 : Nat) (v1 : Int32) (v2 : Int32) (r : Int32) (h : f_X8_asked S v0 v1 v2 = some r) : Met l yX8_asked [Cond.code yX8_asked cX8_asked 3 (some .int)] ({ frames := 1, cells := 0, slots := 0, locals := 22 }) (va_Pc [.ref v0, .int v1, .int v2] (PreU D G L S)) (Qi D G L r S) 0 0 (inL L) := by
  refine Met.ofW (cc := cX8_asked) (maxL := 3) (ret := (some .int)) (by decide) rfl ?_
  intro p e s m args below meth c s₁ B hml hv
  obtain ⟨rfl, hpre⟩ := hv
  obtain ⟨C, w⟩ := o_ent (own := RX8) rfl B hml hpre
  have hl := lv_entry ([.ref v0, .int v1, .int v2]) (n := 3) (Nat.le_of_ble_eq_true rfl)
  rw [lg_entry_eq]
  generalize (lg_sl ([.ref v0, .int v1, .int v2]) ++ List.replicate (3 - (lg_sl ([.ref v0, .int v1, .int v2])).length) Slot.unset).toArray = ls at hl ⊢
  exact w_X8_asked C (fun _ h => h) ⟨Nat.zero_le _, Nat.zero_le _⟩ ⟨rfl, rfl, Nat.le_of_ble_eq_true rfl, Nat.le_of_ble_eq_true rfl⟩ S v0 v1 v2 r h (fun v H locs ls pc w hv hd => by subst hv; exact o_iret C w B.returns B.notSynchronized hd) _ _ _ w hl

def f_X8_wish (S : PH) (v0 : Nat) (v1 : Int32) (v2 : Int32) (v3 : Int32) : Option (Int32 × PH) :=
(gR S v0 8 0).bind fun x1 =>
(ldI S x1 (5 : Int32)).bind fun x2 =>
if x2 = (8 : Int32) then (
some ((-1 : Int32), S))
else (
(f_X8_isAsk v1 v3).bind fun x3 =>
if x3 = 0 then (
some ((-1 : Int32), S))
else (
(gR S v0 8 0).bind fun x4 =>
(ldI S x4 (5 : Int32)).bind fun x5 =>
(gR S v0 8 0).bind fun x6 =>
(stI S x6 ((1100 : Int32) + ((3 : Int32) * x5)) v1).bind fun S7 =>
(gR S7 v0 8 0).bind fun x8 =>
(ckO S7 v0 8).bind fun _ =>
(f_X8_known S7 v0 v2).bind fun x9 =>
(stI S7 x8 (((1100 : Int32) + ((3 : Int32) * x5)) + (1 : Int32)) x9).bind fun S10 =>
(gR S10 v0 8 0).bind fun x11 =>
(stI S10 x11 (((1100 : Int32) + ((3 : Int32) * x5)) + (2 : Int32)) v3).bind fun S12 =>
(gR S12 v0 8 0).bind fun x13 =>
(ldI S12 x13 (5 : Int32)).bind fun x14 =>
(stI S12 x13 (5 : Int32) (x14 + (1 : Int32))).bind fun S15 =>
(gR S15 v0 8 0).bind fun x16 =>
(ldI S15 x16 (5 : Int32)).bind fun x17 =>
some ((x17 - (1 : Int32)), S15)))
set_option maxHeartbeats 4000000 in
set_option maxRecDepth 100000 in
theorem w_X8_wish {p : Program} {l : Launch} {e : Env} {R : Room} {s : State} {m : MethodId} {args : Array Value} {below : List Frame} {meth : Method} {c : Code} {cells slots : Nat} {Q : State → Prop} {D : va_G} {G : Nat → ClassId} {L : List Nat} {A : Nat → Prop} {H0 : Heap} (C : CX p s m c args D G cX8_wish 5 RX8) (hLA : ∀ q ∈ L, A q) (hcs : cells ≤ R.cells ∧ slots ≤ R.slots) (hR_X8_isAsk : RoomOk R ({ frames := 1, cells := 0, slots := 0, locals := 22 }) 2) (hR_X8_known : RoomOk R ({ frames := 0, cells := 0, slots := 0, locals := 0 }) 2) (S : PH) (v0 : Nat) (v1 : Int32) (v2 : Int32) (v3 : Int32) (r : Int32 × PH) (h : f_X8_wish S v0 v1 v2 v3 = some r) (hret : ∀ (v : Int32) (S9 : PH) (H : Heap) (locs : List Loc) (ls : Array Slot) (pc : Nat), Wd D G L A H0 S9 H locs → (v, S9) = r → decode cX8_wish pc = .ok (.ireturn, 1) → W p l e R s m args below meth c H locs cells slots Q (F0 m pc ls [.int v])) : ∀ (H : Heap) (locs : List Loc) (ls : Array Slot), Wd D G L A H0 S H locs → lv_has ls 5 [(0, .ref v0), (1, .int v1), (2, .int v2), (3, .int v3)] → W p l e R s m args below meth c H locs cells slots Q (F0 m 0 ls []) := by
  have hx := C.1.1
  have hb := C.1.2.1
  unfold f_X8_wish at h
  intro H locs ls w hl
  refine lv_aload_n hx hb dX8_wish_0 rfl (lv_at hl 0 rfl) ?_
  obtain ⟨x1, hx1, h⟩ := bs h
  refine o_gR C w hx1 fl_X8_8 dX8_wish_1 ?_
  refine lv_iconst (v := 5) hx hb dX8_wish_4 (by decide) ?_
  obtain ⟨x2, hx2, h⟩ := bs h
  refine o_ldI C w hx2 dX8_wish_5 ?_
  refine lv_bipush (v := 8) hx hb dX8_wish_6 (by decide) ?_
  refine lv_icmp_eq (tgt := 19) hx hb dX8_wish_8 (by decide) (fun cc8 => ?_) (fun cc8 => ?_)
  · have h := it cc8 h
    refine lv_iconst (v := -1) hx hb dX8_wish_19 (by decide) ?_
    exact hret _ _ _ _ _ _ w (Option.some.inj h) dX8_wish_20
  · have h := ie cc8 h
    refine lv_iload_n hx hb dX8_wish_11 rfl (lv_at hl 1 rfl) ?_
    refine lv_iload_n hx hb dX8_wish_12 rfl (lv_at hl 3 rfl) ?_
    obtain ⟨x3, hc, h⟩ := bs h
    refine o_backi w hLA (o_runS (As := [.int v1, .int v3]) (rest := []) C w (c_X8_isAsk l D G L S v1 v3 x3 hc) ml_X8_109 st_X8_isAsk hR_X8_isAsk rfl hl.1 rfl (Nat.le_of_ble_eq_true rfl) dX8_wish_13 hcs) (fun H locs w => ?_)
    refine lv_if_ne (tgt := 21) hx hb dX8_wish_16 (by decide) (fun cc16 => ?_) (fun cc16 => ?_)
    · have h := ie cc16 h
      refine lv_sipush (v := 1100) hx hb dX8_wish_21 (by decide) ?_
      refine lv_iconst (v := 3) hx hb dX8_wish_24 (by decide) ?_
      refine lv_aload_n hx hb dX8_wish_25 rfl (lv_at hl 0 rfl) ?_
      obtain ⟨x4, hx4, h⟩ := bs h
      refine o_gR C w hx4 fl_X8_8 dX8_wish_26 ?_
      refine lv_iconst (v := 5) hx hb dX8_wish_29 (by decide) ?_
      obtain ⟨x5, hx5, h⟩ := bs h
      refine o_ldI C w hx5 dX8_wish_30 ?_
      refine lv_imul hx hb dX8_wish_31 ?_
      refine lv_iadd hx hb dX8_wish_32 ?_
      refine lv_istore (lv' := [(4, .int ((1100 : Int32) + ((3 : Int32) * x5))), (0, .ref v0), (1, .int v1), (2, .int v2), (3, .int v3)]) hx hb dX8_wish_33 hl (by decide) rfl (fun ls hl => ?_)
      refine lv_aload_n hx hb dX8_wish_35 rfl (lv_at hl 1 rfl) ?_
      obtain ⟨x6, hx6, h⟩ := bs h
      refine o_gR C w hx6 fl_X8_8 dX8_wish_36 ?_
      refine lv_iload hx hb dX8_wish_39 (lv_at hl 0 rfl) ?_
      refine lv_iload_n hx hb dX8_wish_41 rfl (lv_at hl 2 rfl) ?_
      obtain ⟨S7, hS7, h⟩ := bs h
      refine o_stI C w hS7 dX8_wish_42 (fun H locs w => ?_)
      refine lv_aload_n hx hb dX8_wish_43 rfl (lv_at hl 1 rfl) ?_
      obtain ⟨x8, hx8, h⟩ := bs h
      refine o_gR C w hx8 fl_X8_8 dX8_wish_44 ?_
      refine lv_iload hx hb dX8_wish_47 (lv_at hl 0 rfl) ?_
      refine lv_iconst (v := 1) hx hb dX8_wish_49 (by decide) ?_
      refine lv_iadd hx hb dX8_wish_50 ?_
      refine lv_aload_n hx hb dX8_wish_51 rfl (lv_at hl 1 rfl) ?_
      refine lv_iload_n hx hb dX8_wish_52 rfl (lv_at hl 3 rfl) ?_
      obtain ⟨_, ho, h⟩ := bs h
      obtain ⟨x9, hc, h⟩ := bs h
      refine o_backi w hLA (o_runV (As := [.int v2]) (rest := [.int (((1100 : Int32) + ((3 : Int32) * x5)) + (1 : Int32)), .ref x8]) C w (c_X8_known l D G L S7 v0 v2 x9 hc) ml_X8_122 mv_X8_known hR_X8_known ho rfl hl.1 rfl (Nat.le_of_ble_eq_true rfl) dX8_wish_53 hcs) (fun H locs w => ?_)
      obtain ⟨S10, hS10, h⟩ := bs h
      refine o_stI C w hS10 dX8_wish_56 (fun H locs w => ?_)
      refine lv_aload_n hx hb dX8_wish_57 rfl (lv_at hl 1 rfl) ?_
      obtain ⟨x11, hx11, h⟩ := bs h
      refine o_gR C w hx11 fl_X8_8 dX8_wish_58 ?_
      refine lv_iload hx hb dX8_wish_61 (lv_at hl 0 rfl) ?_
      refine lv_iconst (v := 2) hx hb dX8_wish_63 (by decide) ?_
      refine lv_iadd hx hb dX8_wish_64 ?_
      refine lv_iload_n hx hb dX8_wish_65 rfl (lv_at hl 4 rfl) ?_
      obtain ⟨S12, hS12, h⟩ := bs h
      refine o_stI C w hS12 dX8_wish_66 (fun H locs w => ?_)
      refine lv_aload_n hx hb dX8_wish_67 rfl (lv_at hl 1 rfl) ?_
      obtain ⟨x13, hx13, h⟩ := bs h
      refine o_gR C w hx13 fl_X8_8 dX8_wish_68 ?_
      refine lv_iconst (v := 5) hx hb dX8_wish_71 (by decide) ?_
      refine lv_dup2_11 hx hb dX8_wish_72 rfl rfl ?_
      obtain ⟨x14, hx14, h⟩ := bs h
      refine o_ldI C w hx14 dX8_wish_73 ?_
      refine lv_iconst (v := 1) hx hb dX8_wish_74 (by decide) ?_
      refine lv_iadd hx hb dX8_wish_75 ?_
      obtain ⟨S15, hS15, h⟩ := bs h
      refine o_stI C w hS15 dX8_wish_76 (fun H locs w => ?_)
      refine lv_aload_n hx hb dX8_wish_77 rfl (lv_at hl 1 rfl) ?_
      obtain ⟨x16, hx16, h⟩ := bs h
      refine o_gR C w hx16 fl_X8_8 dX8_wish_78 ?_
      refine lv_iconst (v := 5) hx hb dX8_wish_81 (by decide) ?_
      obtain ⟨x17, hx17, h⟩ := bs h
      refine o_ldI C w hx17 dX8_wish_82 ?_
      refine lv_iconst (v := 1) hx hb dX8_wish_83 (by decide) ?_
      refine lv_isub hx hb dX8_wish_84 ?_
      exact hret _ _ _ _ _ _ w (Option.some.inj h) dX8_wish_85
    · have h := it cc16 h
      refine lv_iconst (v := -1) hx hb dX8_wish_19 (by decide) ?_
      exact hret _ _ _ _ _ _ w (Option.some.inj h) dX8_wish_20
set_option maxHeartbeats 4000000 in
set_option maxRecDepth 100000 in
theorem c_X8_wish (l : Launch) (D : va_G) (G : Nat → ClassId) (L : List Nat) (S : PH) (v0 : Nat) (v1 : Int32) (v2 : Int32) (v3 : Int32) (r : Int32 × PH) (h : f_X8_wish S v0 v1 v2 v3 = some r) : Met l yX8_wish [Cond.code yX8_wish cX8_wish 5 (some .int)] ({ frames := 2, cells := 0, slots := 0, locals := 43 }) (va_Pc [.ref v0, .int v1, .int v2, .int v3] (PreU D G L S)) (Qi D G L r.1 r.2) 0 0 (inL L) := by
  refine Met.ofW (cc := cX8_wish) (maxL := 5) (ret := (some .int)) (by decide) rfl ?_
  intro p e s m args below meth c s₁ B hml hv
  obtain ⟨rfl, hpre⟩ := hv
  obtain ⟨C, w⟩ := o_ent (own := RX8) rfl B hml hpre
  have hl := lv_entry ([.ref v0, .int v1, .int v2, .int v3]) (n := 5) (Nat.le_of_ble_eq_true rfl)
  rw [lg_entry_eq]
  generalize (lg_sl ([.ref v0, .int v1, .int v2, .int v3]) ++ List.replicate (5 - (lg_sl ([.ref v0, .int v1, .int v2, .int v3])).length) Slot.unset).toArray = ls at hl ⊢
  exact w_X8_wish C (fun _ h => h) ⟨Nat.zero_le _, Nat.zero_le _⟩ ⟨rfl, rfl, Nat.le_of_ble_eq_true rfl, Nat.le_of_ble_eq_true rfl⟩ ⟨rfl, rfl, Nat.le_of_ble_eq_true rfl, Nat.le_of_ble_eq_true rfl⟩ S v0 v1 v2 v3 r h (fun v S9 H locs ls pc w hv hd => by subst hv; exact o_iret C w B.returns B.notSynchronized hd) _ _ _ w hl

def f_X8_clear (S : PH) (v0 : Nat) : Option (PH) :=
(gR S v0 8 0).bind fun x1 =>
(stI S x1 (5 : Int32) (0 : Int32)).bind fun S2 =>
some S2
set_option maxHeartbeats 4000000 in
set_option maxRecDepth 100000 in
theorem w_X8_clear {p : Program} {l : Launch} {e : Env} {R : Room} {s : State} {m : MethodId} {args : Array Value} {below : List Frame} {meth : Method} {c : Code} {cells slots : Nat} {Q : State → Prop} {D : va_G} {G : Nat → ClassId} {L : List Nat} {A : Nat → Prop} {H0 : Heap} (C : CX p s m c args D G cX8_clear 1 RX8) (hLA : ∀ q ∈ L, A q) (hcs : cells ≤ R.cells ∧ slots ≤ R.slots)  (S : PH) (v0 : Nat) (r : PH) (h : f_X8_clear S v0 = some r) (hret : ∀ (S9 : PH) (H : Heap) (locs : List Loc) (ls : Array Slot) (pc : Nat), Wd D G L A H0 S9 H locs → S9 = r → decode cX8_clear pc = .ok (.return_, 1) → W p l e R s m args below meth c H locs cells slots Q (F0 m pc ls [])) : ∀ (H : Heap) (locs : List Loc) (ls : Array Slot), Wd D G L A H0 S H locs → lv_has ls 1 [(0, .ref v0)] → W p l e R s m args below meth c H locs cells slots Q (F0 m 0 ls []) := by
  have hx := C.1.1
  have hb := C.1.2.1
  unfold f_X8_clear at h
  intro H locs ls w hl
  refine lv_aload_n hx hb dX8_clear_0 rfl (lv_at hl 0 rfl) ?_
  obtain ⟨x1, hx1, h⟩ := bs h
  refine o_gR C w hx1 fl_X8_8 dX8_clear_1 ?_
  refine lv_iconst (v := 5) hx hb dX8_clear_4 (by decide) ?_
  refine lv_iconst (v := 0) hx hb dX8_clear_5 (by decide) ?_
  obtain ⟨S2, hS2, h⟩ := bs h
  refine o_stI C w hS2 dX8_clear_6 (fun H locs w => ?_)
  exact hret _ _ _ _ _ w (Option.some.inj h) dX8_clear_7
set_option maxHeartbeats 4000000 in
set_option maxRecDepth 100000 in
theorem c_X8_clear (l : Launch) (D : va_G) (G : Nat → ClassId) (L : List Nat) (S : PH) (v0 : Nat) (r : PH) (h : f_X8_clear S v0 = some r) : Met l yX8_clear [Cond.code yX8_clear cX8_clear 1 none] ({ frames := 0, cells := 0, slots := 0, locals := 0 }) (va_Pc [.ref v0] (PreU D G L S)) (Qv D G L r) 0 0 (inL L) := by
  refine Met.ofW (cc := cX8_clear) (maxL := 1) (ret := none) (by decide) rfl ?_
  intro p e s m args below meth c s₁ B hml hv
  obtain ⟨rfl, hpre⟩ := hv
  obtain ⟨C, w⟩ := o_ent (own := RX8) rfl B hml hpre
  have hl := lv_entry ([.ref v0]) (n := 1) (Nat.le_of_ble_eq_true rfl)
  rw [lg_entry_eq]
  generalize (lg_sl ([.ref v0]) ++ List.replicate (1 - (lg_sl ([.ref v0])).length) Slot.unset).toArray = ls at hl ⊢
  exact w_X8_clear C (fun _ h => h) ⟨Nat.zero_le _, Nat.zero_le _⟩  S v0 r h (fun S9 H locs ls pc w hv hd => by subst hv; exact o_vret C w B.returns B.notSynchronized hd) _ _ _ w hl

def f_X8_reckons_b135 (S : PH) (v0 : Nat) (v1 : Int32) (v2 : Int32) : Option ((Int32 × PH) ⊕ (PH)) :=
some (.inl ((v2 + 1), S))
def f_X8_reckons_L34 (S : PH) (v0 : Nat) (v2 : Int32) (v3 : Int64) (v5 : Int32) : Option ((Int64 × Int32 × PH) ⊕ (Int64 × PH)) :=
(gR S v0 8 0).bind fun x5 =>
(ldI S x5 (5 : Int32)).bind fun x6 =>
if x6 ≤ v5 then (
some (.inr (v3, S)))
else (
(gR S v0 8 0).bind fun x7 =>
(ldI S x7 ((1100 : Int32) + ((3 : Int32) * v5))).bind fun x8 =>
(gR S v0 8 0).bind fun x9 =>
(ldI S x9 (((1100 : Int32) + ((3 : Int32) * v5)) + (1 : Int32))).bind fun x10 =>
(ckO S v0 8).bind fun _ =>
(f_X8_numbersOf S v0 x10).bind fun x11 =>
(gR S v0 8 0).bind fun x12 =>
(ldI S x12 (((1100 : Int32) + ((3 : Int32) * v5)) + (2 : Int32))).bind fun x13 =>
(ckO S v0 8).bind fun _ =>
bd2 (f_X8_answerIn S v0 v2 x8 x11 x13) fun x14 S15 =>
some (.inl ((v3 ||| (x14.toInt64 <<< (((6 : Int32) * v5).toInt64 &&& 63))), (v5 + 1), S15)))
def f_X8_reckons_L7 (S : PH) (v0 : Nat) (v1 : Int32) (v2 : Int32) : Option ((Int32 × PH) ⊕ (PH)) :=
(gR S v0 8 0).bind fun x2 =>
(ldI S x2 (2 : Int32)).bind fun x3 =>
if x3 ≤ v2 then (
some (.inr S))
else (
(ckO S v0 8).bind fun _ =>
(f_X8_isLeft S v0 v1 v2).bind fun x4 =>
if x4 = 0 then (
f_X8_reckons_b135 S v0 v1 v2)
else (
bd2 (lpo (fun x : Int64 × Int32 × PH => f_X8_reckons_L34 x.2.2 v0 v2 x.1 x.2.1) FU ((0 : Int64), (0 : Int32), S)) fun y16 S17 =>
(gR S17 v0 8 9).bind fun x18 =>
(gI S17 v0 8 13).bind fun x19 =>
(stI S17 x18 x19 v2).bind fun S20 =>
(gR S20 v0 8 10).bind fun x21 =>
(gI S20 v0 8 13).bind fun x22 =>
(stJ S20 x21 x22 y16).bind fun S23 =>
(gI S23 v0 8 13).bind fun x24 =>
(pI S23 v0 8 13 (x24 + (1 : Int32))).bind fun S25 =>
f_X8_reckons_b135 S25 v0 v1 v2))
def f_X8_reckons (S : PH) (v0 : Nat) (v1 : Int32) : Option (PH) :=
(pI S v0 8 13 (0 : Int32)).bind fun S1 =>
(lpo (fun x : Int32 × PH => f_X8_reckons_L7 x.2 v0 v1 x.1) FU ((0 : Int32), S1)).bind fun S42 =>
some S42
set_option maxHeartbeats 4000000 in
set_option maxRecDepth 100000 in
theorem w_X8_reckons {p : Program} {l : Launch} {e : Env} {R : Room} {s : State} {m : MethodId} {args : Array Value} {below : List Frame} {meth : Method} {c : Code} {cells slots : Nat} {Q : State → Prop} {D : va_G} {G : Nat → ClassId} {L : List Nat} {A : Nat → Prop} {H0 : Heap} (C : CX p s m c args D G cX8_reckons 7 RX8) (hLA : ∀ q ∈ L, A q) (hcs : cells ≤ R.cells ∧ slots ≤ R.slots) (hR_X8_isLeft : RoomOk R ({ frames := 0, cells := 0, slots := 0, locals := 0 }) 3) (hR_X8_numbersOf : RoomOk R ({ frames := 0, cells := 0, slots := 0, locals := 0 }) 4) (hR_X8_answerIn : RoomOk R ({ frames := 3, cells := 0, slots := 0, locals := 65 }) 6) (S : PH) (v0 : Nat) (v1 : Int32) (r : PH) (h : f_X8_reckons S v0 v1 = some r) (hret : ∀ (S9 : PH) (H : Heap) (locs : List Loc) (ls : Array Slot) (pc : Nat), Wd D G L A H0 S9 H locs → S9 = r → decode cX8_reckons pc = .ok (.return_, 1) → W p l e R s m args below meth c H locs cells slots Q (F0 m pc ls [])) : ∀ (H : Heap) (locs : List Loc) (ls : Array Slot), Wd D G L A H0 S H locs → lv_has ls 7 [(0, .ref v0), (1, .int v1)] → W p l e R s m args below meth c H locs cells slots Q (F0 m 0 ls []) := by
  have hx := C.1.1
  have hb := C.1.2.1
  unfold f_X8_reckons at h
  intro H locs ls w hl
  refine lv_aload_n hx hb dX8_reckons_0 rfl (lv_at hl 0 rfl) ?_
  refine lv_iconst (v := 0) hx hb dX8_reckons_1 (by decide) ?_
  obtain ⟨S1, hS1, h⟩ := bs h
  refine o_pF C w hS1 fp_X8_128 rfl rfl dX8_reckons_2 (fun H locs w => ?_)
  refine lv_iconst (v := 0) hx hb dX8_reckons_5 (by decide) ?_
  refine lv_istore_n (lv' := [(2, .int (0 : Int32)), (0, .ref v0), (1, .int v1)]) hx hb dX8_reckons_6 rfl hl (by decide) rfl (fun ls hl => ?_)
  obtain ⟨S42, hL7, h⟩ := bs h
  have hE7 : ∀ (q43 : PH), S42 = q43 → ∀ (H : Heap) (locs : List Loc) (ls : Array Slot), Wd D G L A H0 q43 H locs → lv_has ls 7 [] → W p l e R s m args below meth c H locs cells slots Q (F0 m 141 ls []) := by
    intro q43 he
    cases he
    intro H locs ls w hl
    exact hret _ _ _ _ _ w (Option.some.inj h) dX8_reckons_141
  refine lpo_W (P := fun x : Int32 × PH => ∀ (H : Heap) (locs : List Loc) (ls : Array Slot), Wd D G L A H0 x.2 H locs → lv_has ls 7 [(0, .ref v0), (1, .int v1), (2, .int x.1)] → W p l e R s m args below meth c H locs cells slots Q (F0 m 7 ls [])) ?_ FU _ hL7 H locs ls w (lv_sub hl [1, 2, 0] rfl)
  intro x y7 h hnext7 hend7
  obtain ⟨t44, S45⟩ := x
  have h : f_X8_reckons_L7 S45 v0 v1 t44 = some y7 := h
  unfold f_X8_reckons_L7 at h
  have hb135 : ∀ (S46 : PH) (u47 : Int32), f_X8_reckons_b135 S46 v0 v1 u47 = some y7 → ∀ (H : Heap) (locs : List Loc) (ls : Array Slot), Wd D G L A H0 S46 H locs → lv_has ls 7 [(0, .ref v0), (1, .int v1), (2, .int u47)] → W p l e R s m args below meth c H locs cells slots Q (F0 m 135 ls []) := by
    intro S46 u47 h H locs ls w hl
    unfold f_X8_reckons_b135 at h
    refine lv_iinc (v := (u47 + 1)) (lv' := [(2, .int (u47 + 1)), (0, .ref v0), (1, .int v1)]) hx hb dX8_reckons_135 hl (k := 2) rfl rfl (by decide) rfl (fun ls hl => ?_)
    refine lv_goto (tgt := 7) hx hb dX8_reckons_138 (by decide) ?_
    exact hnext7 _ (Option.some.inj h).symm H locs ls w (lv_sub hl [1, 2, 0] rfl)
  intro H locs ls w hl
  have hl : lv_has ls 7 [(0, .ref v0), (1, .int v1), (2, .int t44)] := hl
  have w : Wd D G L A H0 S45 H locs := w
  refine lv_iload_n hx hb dX8_reckons_7 rfl (lv_at hl 2 rfl) ?_
  refine lv_aload_n hx hb dX8_reckons_8 rfl (lv_at hl 0 rfl) ?_
  obtain ⟨x48, hx48, h⟩ := bs h
  refine o_gR C w hx48 fl_X8_8 dX8_reckons_9 ?_
  refine lv_iconst (v := 2) hx hb dX8_reckons_12 (by decide) ?_
  obtain ⟨x49, hx49, h⟩ := bs h
  refine o_ldI C w hx49 dX8_reckons_13 ?_
  refine lv_icmp_ge (tgt := 141) hx hb dX8_reckons_14 (by decide) (fun cc14 => ?_) (fun cc14 => ?_)
  · have h := it cc14 h
    exact hE7 _ (hend7 _ (Option.some.inj h).symm).symm H locs ls w (lv_sub hl [] rfl)
  · have h := ie cc14 h
    refine lv_aload_n hx hb dX8_reckons_17 rfl (lv_at hl 0 rfl) ?_
    refine lv_iload_n hx hb dX8_reckons_18 rfl (lv_at hl 1 rfl) ?_
    refine lv_iload_n hx hb dX8_reckons_19 rfl (lv_at hl 2 rfl) ?_
    obtain ⟨_, ho, h⟩ := bs h
    obtain ⟨x50, hc, h⟩ := bs h
    refine o_backi w hLA (o_runV (As := [.int v1, .int t44]) (rest := []) C w (c_X8_isLeft l D G L S45 v0 v1 t44 x50 hc) ml_X8_93 mv_X8_isLeft hR_X8_isLeft ho rfl hl.1 rfl (Nat.le_of_ble_eq_true rfl) dX8_reckons_20 hcs) (fun H locs w => ?_)
    refine lv_if_ne (tgt := 29) hx hb dX8_reckons_23 (by decide) (fun cc23 => ?_) (fun cc23 => ?_)
    · have h := ie cc23 h
      refine lv_lconst (v := 0) hx hb dX8_reckons_29 (by decide) ?_
      refine lv_lstore_n (lv' := [(3, .long (0 : Int64)), (0, .ref v0), (1, .int v1), (2, .int t44)]) hx hb dX8_reckons_30 rfl hl (by decide) rfl (fun ls hl => ?_)
      refine lv_iconst (v := 0) hx hb dX8_reckons_31 (by decide) ?_
      refine lv_istore (lv' := [(5, .int (0 : Int32)), (3, .long (0 : Int64)), (0, .ref v0), (1, .int v1), (2, .int t44)]) hx hb dX8_reckons_32 hl (by decide) rfl (fun ls hl => ?_)
      obtain ⟨y51, S52, hL34, h⟩ := bs2 h
      have hE34 : ∀ (q61 : Int64) (q62 : PH), (y51, S52) = (q61, q62) → ∀ (H : Heap) (locs : List Loc) (ls : Array Slot), Wd D G L A H0 q62 H locs → lv_has ls 7 [(0, .ref v0), (1, .int v1), (2, .int t44), (3, .long q61)] → W p l e R s m args below meth c H locs cells slots Q (F0 m 105 ls []) := by
        intro q61 q62 he
        cases he
        intro H locs ls w hl
        refine lv_aload_n hx hb dX8_reckons_105 rfl (lv_at hl 0 rfl) ?_
        obtain ⟨x53, hx53, h⟩ := bs h
        refine o_gR C w hx53 fl_X8_27 dX8_reckons_106 ?_
        refine lv_aload_n hx hb dX8_reckons_109 rfl (lv_at hl 0 rfl) ?_
        obtain ⟨x54, hx54, h⟩ := bs h
        refine o_gI C w hx54 fl_X8_128 dX8_reckons_110 ?_
        refine lv_iload_n hx hb dX8_reckons_113 rfl (lv_at hl 2 rfl) ?_
        obtain ⟨S55, hS55, h⟩ := bs h
        refine o_stI C w hS55 dX8_reckons_114 (fun H locs w => ?_)
        refine lv_aload_n hx hb dX8_reckons_115 rfl (lv_at hl 0 rfl) ?_
        obtain ⟨x56, hx56, h⟩ := bs h
        refine o_gR C w hx56 fl_X8_30 dX8_reckons_116 ?_
        refine lv_aload_n hx hb dX8_reckons_119 rfl (lv_at hl 0 rfl) ?_
        obtain ⟨x57, hx57, h⟩ := bs h
        refine o_gI C w hx57 fl_X8_128 dX8_reckons_120 ?_
        refine lv_lload_n hx hb dX8_reckons_123 rfl (lv_at hl 3 rfl) ?_
        obtain ⟨S58, hS58, h⟩ := bs h
        refine o_stJ C w hS58 dX8_reckons_124 (fun H locs w => ?_)
        refine lv_aload_n hx hb dX8_reckons_125 rfl (lv_at hl 0 rfl) ?_
        refine lv_dup hx hb dX8_reckons_126 rfl ?_
        obtain ⟨x59, hx59, h⟩ := bs h
        refine o_gI C w hx59 fl_X8_128 dX8_reckons_127 ?_
        refine lv_iconst (v := 1) hx hb dX8_reckons_130 (by decide) ?_
        refine lv_iadd hx hb dX8_reckons_131 ?_
        obtain ⟨S60, hS60, h⟩ := bs h
        refine o_pF C w hS60 fp_X8_128 rfl rfl dX8_reckons_132 (fun H locs w => ?_)
        exact hb135 _ _ h H locs ls w (lv_sub hl [0, 1, 2] rfl)
      refine lpo_W (P := fun x : Int64 × Int32 × PH => ∀ (H : Heap) (locs : List Loc) (ls : Array Slot), Wd D G L A H0 x.2.2 H locs → lv_has ls 7 [(0, .ref v0), (1, .int v1), (2, .int t44), (3, .long x.1), (5, .int x.2.1)] → W p l e R s m args below meth c H locs cells slots Q (F0 m 34 ls [])) ?_ FU _ hL34 H locs ls w (lv_sub hl [2, 3, 4, 1, 0] rfl)
      intro x y34 h hnext34 hend34
      obtain ⟨t63, t64, S65⟩ := x
      have h : f_X8_reckons_L34 S65 v0 t44 t63 t64 = some y34 := h
      unfold f_X8_reckons_L34 at h
      intro H locs ls w hl
      have hl : lv_has ls 7 [(0, .ref v0), (1, .int v1), (2, .int t44), (3, .long t63), (5, .int t64)] := hl
      have w : Wd D G L A H0 S65 H locs := w
      refine lv_iload hx hb dX8_reckons_34 (lv_at hl 4 rfl) ?_
      refine lv_aload_n hx hb dX8_reckons_36 rfl (lv_at hl 0 rfl) ?_
      obtain ⟨x66, hx66, h⟩ := bs h
      refine o_gR C w hx66 fl_X8_8 dX8_reckons_37 ?_
      refine lv_iconst (v := 5) hx hb dX8_reckons_40 (by decide) ?_
      obtain ⟨x67, hx67, h⟩ := bs h
      refine o_ldI C w hx67 dX8_reckons_41 ?_
      refine lv_icmp_ge (tgt := 105) hx hb dX8_reckons_42 (by decide) (fun cc42 => ?_) (fun cc42 => ?_)
      · have h := it cc42 h
        exact hE34 _ _ (hend34 _ (Option.some.inj h).symm).symm H locs ls w (lv_sub hl [0, 1, 2, 3] rfl)
      · have h := ie cc42 h
        refine lv_sipush (v := 1100) hx hb dX8_reckons_45 (by decide) ?_
        refine lv_iconst (v := 3) hx hb dX8_reckons_48 (by decide) ?_
        refine lv_iload hx hb dX8_reckons_49 (lv_at hl 4 rfl) ?_
        refine lv_imul hx hb dX8_reckons_51 ?_
        refine lv_iadd hx hb dX8_reckons_52 ?_
        refine lv_istore (lv' := [(6, .int ((1100 : Int32) + ((3 : Int32) * t64))), (0, .ref v0), (1, .int v1), (2, .int t44), (3, .long t63), (5, .int t64)]) hx hb dX8_reckons_53 hl (by decide) rfl (fun ls hl => ?_)
        refine lv_lload_n hx hb dX8_reckons_55 rfl (lv_at hl 4 rfl) ?_
        refine lv_aload_n hx hb dX8_reckons_56 rfl (lv_at hl 1 rfl) ?_
        refine lv_iload_n hx hb dX8_reckons_57 rfl (lv_at hl 3 rfl) ?_
        refine lv_aload_n hx hb dX8_reckons_58 rfl (lv_at hl 1 rfl) ?_
        obtain ⟨x68, hx68, h⟩ := bs h
        refine o_gR C w hx68 fl_X8_8 dX8_reckons_59 ?_
        refine lv_iload hx hb dX8_reckons_62 (lv_at hl 0 rfl) ?_
        obtain ⟨x69, hx69, h⟩ := bs h
        refine o_ldI C w hx69 dX8_reckons_64 ?_
        refine lv_aload_n hx hb dX8_reckons_65 rfl (lv_at hl 1 rfl) ?_
        refine lv_aload_n hx hb dX8_reckons_66 rfl (lv_at hl 1 rfl) ?_
        obtain ⟨x70, hx70, h⟩ := bs h
        refine o_gR C w hx70 fl_X8_8 dX8_reckons_67 ?_
        refine lv_iload hx hb dX8_reckons_70 (lv_at hl 0 rfl) ?_
        refine lv_iconst (v := 1) hx hb dX8_reckons_72 (by decide) ?_
        refine lv_iadd hx hb dX8_reckons_73 ?_
        obtain ⟨x71, hx71, h⟩ := bs h
        refine o_ldI C w hx71 dX8_reckons_74 ?_
        obtain ⟨_, ho, h⟩ := bs h
        obtain ⟨x72, hc, h⟩ := bs h
        refine o_backi w hLA (o_runV (As := [.int x71]) (rest := [.int x69, .int t44, .ref v0, .long t63]) C w (c_X8_numbersOf l D G L S65 v0 x71 x72 hc) ml_X8_112 mv_X8_numbersOf hR_X8_numbersOf ho rfl hl.1 rfl (Nat.le_of_ble_eq_true rfl) dX8_reckons_75 hcs) (fun H locs w => ?_)
        refine lv_aload_n hx hb dX8_reckons_78 rfl (lv_at hl 1 rfl) ?_
        obtain ⟨x73, hx73, h⟩ := bs h
        refine o_gR C w hx73 fl_X8_8 dX8_reckons_79 ?_
        refine lv_iload hx hb dX8_reckons_82 (lv_at hl 0 rfl) ?_
        refine lv_iconst (v := 2) hx hb dX8_reckons_84 (by decide) ?_
        refine lv_iadd hx hb dX8_reckons_85 ?_
        obtain ⟨x74, hx74, h⟩ := bs h
        refine o_ldI C w hx74 dX8_reckons_86 ?_
        obtain ⟨_, ho, h⟩ := bs h
        obtain ⟨x75, S76, hc, h⟩ := bs2 h
        refine o_backi w hLA (o_runV (As := [.int t44, .int x69, .int x72, .int x74]) (rest := [.long t63]) C w (c_X8_answerIn l D G L S65 v0 t44 x69 x72 x74 (x75, S76) hc) ml_X8_96 mv_X8_answerIn hR_X8_answerIn ho rfl hl.1 rfl (Nat.le_of_ble_eq_true rfl) dX8_reckons_87 hcs) (fun H locs w => ?_)
        refine lv_i2l hx hb dX8_reckons_90 rfl ?_
        refine lv_bipush (v := 6) hx hb dX8_reckons_91 (by decide) ?_
        refine lv_iload hx hb dX8_reckons_93 (lv_at hl 5 rfl) ?_
        refine lv_imul hx hb dX8_reckons_95 ?_
        refine lv_lshl hx hb dX8_reckons_96 rfl ?_
        refine lv_lor hx hb dX8_reckons_97 ?_
        refine lv_lstore_n (lv' := [(3, .long (t63 ||| (x75.toInt64 <<< (((6 : Int32) * t64).toInt64 &&& 63)))), (6, .int ((1100 : Int32) + ((3 : Int32) * t64))), (0, .ref v0), (1, .int v1), (2, .int t44), (5, .int t64)]) hx hb dX8_reckons_98 rfl hl (by decide) rfl (fun ls hl => ?_)
        refine lv_iinc (v := (t64 + 1)) (lv' := [(5, .int (t64 + 1)), (3, .long (t63 ||| (x75.toInt64 <<< (((6 : Int32) * t64).toInt64 &&& 63)))), (6, .int ((1100 : Int32) + ((3 : Int32) * t64))), (0, .ref v0), (1, .int v1), (2, .int t44)]) hx hb dX8_reckons_99 hl (k := 5) rfl rfl (by decide) rfl (fun ls hl => ?_)
        refine lv_goto (tgt := 34) hx hb dX8_reckons_102 (by decide) ?_
        exact hnext34 _ (Option.some.inj h).symm H locs ls w (lv_sub hl [3, 4, 5, 1, 0] rfl)
    · have h := it cc23 h
      refine lv_goto (tgt := 135) hx hb dX8_reckons_26 (by decide) ?_
      exact hb135 _ _ h H locs ls w (lv_sub hl [0, 1, 2] rfl)
set_option maxHeartbeats 4000000 in
set_option maxRecDepth 100000 in
theorem c_X8_reckons (l : Launch) (D : va_G) (G : Nat → ClassId) (L : List Nat) (S : PH) (v0 : Nat) (v1 : Int32) (r : PH) (h : f_X8_reckons S v0 v1 = some r) : Met l yX8_reckons [Cond.code yX8_reckons cX8_reckons 7 none] ({ frames := 4, cells := 0, slots := 0, locals := 90 }) (va_Pc [.ref v0, .int v1] (PreU D G L S)) (Qv D G L r) 0 0 (inL L) := by
  refine Met.ofW (cc := cX8_reckons) (maxL := 7) (ret := none) (by decide) rfl ?_
  intro p e s m args below meth c s₁ B hml hv
  obtain ⟨rfl, hpre⟩ := hv
  obtain ⟨C, w⟩ := o_ent (own := RX8) rfl B hml hpre
  have hl := lv_entry ([.ref v0, .int v1]) (n := 7) (Nat.le_of_ble_eq_true rfl)
  rw [lg_entry_eq]
  generalize (lg_sl ([.ref v0, .int v1]) ++ List.replicate (7 - (lg_sl ([.ref v0, .int v1])).length) Slot.unset).toArray = ls at hl ⊢
  exact w_X8_reckons C (fun _ h => h) ⟨Nat.zero_le _, Nat.zero_le _⟩ ⟨rfl, rfl, Nat.le_of_ble_eq_true rfl, Nat.le_of_ble_eq_true rfl⟩ ⟨rfl, rfl, Nat.le_of_ble_eq_true rfl, Nat.le_of_ble_eq_true rfl⟩ ⟨rfl, rfl, Nat.le_of_ble_eq_true rfl, Nat.le_of_ble_eq_true rfl⟩ S v0 v1 r h (fun S9 H locs ls pc w hv hd => by subst hv; exact o_vret C w B.returns B.notSynchronized hd) _ _ _ w hl

def f_X8_sorts_b34 (S : PH) (v1 : Int32) (v2 : Int64) (v4 : Int32) : Option ((Int64 × Int32) ⊕ (Int64)) :=
some (.inl (v2, (v4 + 1)))
def f_X8_sorts_L5 (S : PH) (v1 : Int32) (v2 : Int64) (v4 : Int32) : Option ((Int64 × Int32) ⊕ (Int64)) :=
if (8 : Int32) ≤ v4 then (
some (.inr v2))
else (
if ((v1 >>> (v4 &&& 31)) &&& (1 : Int32)) = (1 : Int32) then (
f_X8_sorts_b34 S v1 (v2 ||| ((63 : Int64) <<< (((6 : Int32) * v4).toInt64 &&& 63))) v4)
else (
f_X8_sorts_b34 S v1 v2 v4))
def f_X8_sorts_L43 (S : PH) (v0 : Nat) (v2 : Int64) (v4 : Int32) : Option ((Int32 × PH) ⊕ (PH)) :=
(gI S v0 8 13).bind fun x2 =>
if x2 ≤ v4 then (
some (.inr S))
else (
(gR S v0 8 11).bind fun x3 =>
(gR S v0 8 10).bind fun x4 =>
(ldJ S x4 v4).bind fun x5 =>
(stJ S x3 v4 (x5 &&& v2)).bind fun S6 =>
(gR S6 v0 8 12).bind fun x7 =>
(stI S6 x7 v4 v4).bind fun S8 =>
some (.inl ((v4 + 1), S8)))
def f_X8_sorts_L119 (S : PH) (v0 : Nat) (v4 : Int32) (v6 : Int32) (v7 : Int32) : Option ((Int32 × PH) ⊕ (Int32 × PH)) :=
if v7 < v4 then (
some (.inr (v7, S)))
else (
(gR S v0 8 11).bind fun x13 =>
(gR S v0 8 12).bind fun x14 =>
(ldI S x14 (v7 - v4)).bind fun x15 =>
(ldJ S x13 x15).bind fun x16 =>
(gR S v0 8 11).bind fun x17 =>
(ldJ S x17 v6).bind fun x18 =>
if (lg_cmp x16 x18) ≤ 0 then (
some (.inr (v7, S)))
else (
(gR S v0 8 12).bind fun x19 =>
(gR S v0 8 12).bind fun x20 =>
(ldI S x20 (v7 - v4)).bind fun x21 =>
(stI S x19 v7 x21).bind fun S22 =>
some (.inl ((v7 - v4), S22))))
def f_X8_sorts_L97 (S : PH) (v0 : Nat) (v4 : Int32) (v5 : Int32) : Option ((Int32 × PH) ⊕ (PH)) :=
(gI S v0 8 13).bind fun x10 =>
if x10 ≤ v5 then (
some (.inr S))
else (
(gR S v0 8 12).bind fun x11 =>
(ldI S x11 v5).bind fun x12 =>
bd2 (lpo (fun x : Int32 × PH => f_X8_sorts_L119 x.2 v0 v4 x12 x.1) FU (v5, S)) fun y23 S24 =>
(gR S24 v0 8 12).bind fun x25 =>
(stI S24 x25 y23 x12).bind fun S26 =>
some (.inl ((v5 + 1), S26)))
def f_X8_sorts_L88 (S : PH) (v0 : Nat) (v4 : Int32) : Option ((Int32 × PH) ⊕ (PH)) :=
if v4 ≤ 0 then (
some (.inr S))
else (
(lpo (fun x : Int32 × PH => f_X8_sorts_L97 x.2 v0 v4 x.1) FU (v4, S)).bind fun S41 =>
some (.inl ((v4 / (2 : Int32)), S41)))
def f_X8_sorts (S : PH) (v0 : Nat) (v1 : Int32) : Option (PH) :=
(lpo (fun x : Int64 × Int32 => f_X8_sorts_L5 S v1 x.1 x.2) FU ((0 : Int64), (0 : Int32))).bind fun y1 =>
(lpo (fun x : Int32 × PH => f_X8_sorts_L43 x.2 v0 y1 x.1) FU ((0 : Int32), S)).bind fun S9 =>
(lpo (fun x : Int32 × PH => f_X8_sorts_L88 x.2 v0 x.1) FU ((2048 : Int32), S9)).bind fun S66 =>
some S66
set_option maxHeartbeats 4000000 in
set_option maxRecDepth 100000 in
theorem w_X8_sorts {p : Program} {l : Launch} {e : Env} {R : Room} {s : State} {m : MethodId} {args : Array Value} {below : List Frame} {meth : Method} {c : Code} {cells slots : Nat} {Q : State → Prop} {D : va_G} {G : Nat → ClassId} {L : List Nat} {A : Nat → Prop} {H0 : Heap} (C : CX p s m c args D G cX8_sorts 8 RX8) (hLA : ∀ q ∈ L, A q) (hcs : cells ≤ R.cells ∧ slots ≤ R.slots)  (S : PH) (v0 : Nat) (v1 : Int32) (r : PH) (h : f_X8_sorts S v0 v1 = some r) (hret : ∀ (S9 : PH) (H : Heap) (locs : List Loc) (ls : Array Slot) (pc : Nat), Wd D G L A H0 S9 H locs → S9 = r → decode cX8_sorts pc = .ok (.return_, 1) → W p l e R s m args below meth c H locs cells slots Q (F0 m pc ls [])) : ∀ (H : Heap) (locs : List Loc) (ls : Array Slot), Wd D G L A H0 S H locs → lv_has ls 8 [(0, .ref v0), (1, .int v1)] → W p l e R s m args below meth c H locs cells slots Q (F0 m 0 ls []) := by
  have hx := C.1.1
  have hb := C.1.2.1
  unfold f_X8_sorts at h
  intro H locs ls w hl
  refine lv_lconst (v := 0) hx hb dX8_sorts_0 (by decide) ?_
  refine lv_lstore_n (lv' := [(2, .long (0 : Int64)), (0, .ref v0), (1, .int v1)]) hx hb dX8_sorts_1 rfl hl (by decide) rfl (fun ls hl => ?_)
  refine lv_iconst (v := 0) hx hb dX8_sorts_2 (by decide) ?_
  refine lv_istore (lv' := [(4, .int (0 : Int32)), (2, .long (0 : Int64)), (0, .ref v0), (1, .int v1)]) hx hb dX8_sorts_3 hl (by decide) rfl (fun ls hl => ?_)
  obtain ⟨y1, hL5, h⟩ := bs h
  have hE5 : ∀ (q105 : Int64), y1 = q105 → ∀ (H : Heap) (locs : List Loc) (ls : Array Slot), Wd D G L A H0 S H locs → lv_has ls 8 [(0, .ref v0), (2, .long q105)] → W p l e R s m args below meth c H locs cells slots Q (F0 m 40 ls []) := by
    intro q105 he
    cases he
    intro H locs ls w hl
    refine lv_iconst (v := 0) hx hb dX8_sorts_40 (by decide) ?_
    refine lv_istore (lv' := [(4, .int (0 : Int32)), (0, .ref v0), (2, .long y1)]) hx hb dX8_sorts_41 hl (by decide) rfl (fun ls hl => ?_)
    obtain ⟨S9, hL43, h⟩ := bs h
    have hE43 : ∀ (q95 : PH), S9 = q95 → ∀ (H : Heap) (locs : List Loc) (ls : Array Slot), Wd D G L A H0 q95 H locs → lv_has ls 8 [(0, .ref v0)] → W p l e R s m args below meth c H locs cells slots Q (F0 m 83 ls []) := by
      intro q95 he
      cases he
      intro H locs ls w hl
      refine lv_sipush (v := 2048) hx hb dX8_sorts_83 (by decide) ?_
      refine lv_istore (lv' := [(4, .int (2048 : Int32)), (0, .ref v0)]) hx hb dX8_sorts_86 hl (by decide) rfl (fun ls hl => ?_)
      obtain ⟨S66, hL88, h⟩ := bs h
      have hE88 : ∀ (q67 : PH), S66 = q67 → ∀ (H : Heap) (locs : List Loc) (ls : Array Slot), Wd D G L A H0 q67 H locs → lv_has ls 8 [] → W p l e R s m args below meth c H locs cells slots Q (F0 m 203 ls []) := by
        intro q67 he
        cases he
        intro H locs ls w hl
        exact hret _ _ _ _ _ w (Option.some.inj h) dX8_sorts_203
      refine lpo_W (P := fun x : Int32 × PH => ∀ (H : Heap) (locs : List Loc) (ls : Array Slot), Wd D G L A H0 x.2 H locs → lv_has ls 8 [(0, .ref v0), (4, .int x.1)] → W p l e R s m args below meth c H locs cells slots Q (F0 m 88 ls [])) ?_ FU _ hL88 H locs ls w (lv_sub hl [1, 0] rfl)
      intro x y88 h hnext88 hend88
      obtain ⟨t68, S69⟩ := x
      have h : f_X8_sorts_L88 S69 v0 t68 = some y88 := h
      unfold f_X8_sorts_L88 at h
      intro H locs ls w hl
      have hl : lv_has ls 8 [(0, .ref v0), (4, .int t68)] := hl
      have w : Wd D G L A H0 S69 H locs := w
      refine lv_iload hx hb dX8_sorts_88 (lv_at hl 1 rfl) ?_
      refine lv_if_le (tgt := 203) hx hb dX8_sorts_90 (by decide) (fun cc90 => ?_) (fun cc90 => ?_)
      · have h := it cc90 h
        exact hE88 _ (hend88 _ (Option.some.inj h).symm).symm H locs ls w (lv_sub hl [] rfl)
      · have h := ie cc90 h
        refine lv_iload hx hb dX8_sorts_93 (lv_at hl 1 rfl) ?_
        refine lv_istore (lv' := [(5, .int t68), (0, .ref v0), (4, .int t68)]) hx hb dX8_sorts_95 hl (by decide) rfl (fun ls hl => ?_)
        obtain ⟨S70, hL97, h⟩ := bs h
        have hE97 : ∀ (q71 : PH), S70 = q71 → ∀ (H : Heap) (locs : List Loc) (ls : Array Slot), Wd D G L A H0 q71 H locs → lv_has ls 8 [(0, .ref v0), (4, .int t68)] → W p l e R s m args below meth c H locs cells slots Q (F0 m 194 ls []) := by
          intro q71 he
          cases he
          intro H locs ls w hl
          refine lv_iload hx hb dX8_sorts_194 (lv_at hl 1 rfl) ?_
          refine lv_iconst (v := 2) hx hb dX8_sorts_196 (by decide) ?_
          refine lv_idiv hx hb dX8_sorts_197 (by decide) ?_
          refine lv_istore (lv' := [(4, .int (t68 / (2 : Int32))), (0, .ref v0)]) hx hb dX8_sorts_198 hl (by decide) rfl (fun ls hl => ?_)
          refine lv_goto (tgt := 88) hx hb dX8_sorts_200 (by decide) ?_
          exact hnext88 _ (Option.some.inj h).symm H locs ls w (lv_sub hl [1, 0] rfl)
        refine lpo_W (P := fun x : Int32 × PH => ∀ (H : Heap) (locs : List Loc) (ls : Array Slot), Wd D G L A H0 x.2 H locs → lv_has ls 8 [(0, .ref v0), (4, .int t68), (5, .int x.1)] → W p l e R s m args below meth c H locs cells slots Q (F0 m 97 ls [])) ?_ FU _ hL97 H locs ls w (lv_sub hl [1, 2, 0] rfl)
        intro x y97 h hnext97 hend97
        obtain ⟨t72, S73⟩ := x
        have h : f_X8_sorts_L97 S73 v0 t68 t72 = some y97 := h
        unfold f_X8_sorts_L97 at h
        intro H locs ls w hl
        have hl : lv_has ls 8 [(0, .ref v0), (4, .int t68), (5, .int t72)] := hl
        have w : Wd D G L A H0 S73 H locs := w
        refine lv_iload hx hb dX8_sorts_97 (lv_at hl 2 rfl) ?_
        refine lv_aload_n hx hb dX8_sorts_99 rfl (lv_at hl 0 rfl) ?_
        obtain ⟨x74, hx74, h⟩ := bs h
        refine o_gI C w hx74 fl_X8_128 dX8_sorts_100 ?_
        refine lv_icmp_ge (tgt := 194) hx hb dX8_sorts_103 (by decide) (fun cc103 => ?_) (fun cc103 => ?_)
        · have h := it cc103 h
          exact hE97 _ (hend97 _ (Option.some.inj h).symm).symm H locs ls w (lv_sub hl [0, 1] rfl)
        · have h := ie cc103 h
          refine lv_aload_n hx hb dX8_sorts_106 rfl (lv_at hl 0 rfl) ?_
          obtain ⟨x75, hx75, h⟩ := bs h
          refine o_gR C w hx75 fl_X8_37 dX8_sorts_107 ?_
          refine lv_iload hx hb dX8_sorts_110 (lv_at hl 2 rfl) ?_
          obtain ⟨x76, hx76, h⟩ := bs h
          refine o_ldI C w hx76 dX8_sorts_112 ?_
          refine lv_istore (lv' := [(6, .int x76), (0, .ref v0), (4, .int t68), (5, .int t72)]) hx hb dX8_sorts_113 hl (by decide) rfl (fun ls hl => ?_)
          refine lv_iload hx hb dX8_sorts_115 (lv_at hl 3 rfl) ?_
          refine lv_istore (lv' := [(7, .int t72), (6, .int x76), (0, .ref v0), (4, .int t68), (5, .int t72)]) hx hb dX8_sorts_117 hl (by decide) rfl (fun ls hl => ?_)
          obtain ⟨y77, S78, hL119, h⟩ := bs2 h
          have hE119 : ∀ (q81 : Int32) (q82 : PH), (y77, S78) = (q81, q82) → ∀ (H : Heap) (locs : List Loc) (ls : Array Slot), Wd D G L A H0 q82 H locs → lv_has ls 8 [(0, .ref v0), (4, .int t68), (5, .int t72), (6, .int x76), (7, .int q81)] → W p l e R s m args below meth c H locs cells slots Q (F0 m 179 ls []) := by
            intro q81 q82 he
            cases he
            intro H locs ls w hl
            refine lv_aload_n hx hb dX8_sorts_179 rfl (lv_at hl 0 rfl) ?_
            obtain ⟨x79, hx79, h⟩ := bs h
            refine o_gR C w hx79 fl_X8_37 dX8_sorts_180 ?_
            refine lv_iload hx hb dX8_sorts_183 (lv_at hl 4 rfl) ?_
            refine lv_iload hx hb dX8_sorts_185 (lv_at hl 3 rfl) ?_
            obtain ⟨S80, hS80, h⟩ := bs h
            refine o_stI C w hS80 dX8_sorts_187 (fun H locs w => ?_)
            refine lv_iinc (v := (t72 + 1)) (lv' := [(5, .int (t72 + 1)), (0, .ref v0), (4, .int t68), (6, .int x76), (7, .int y77)]) hx hb dX8_sorts_188 hl (k := 2) rfl rfl (by decide) rfl (fun ls hl => ?_)
            refine lv_goto (tgt := 97) hx hb dX8_sorts_191 (by decide) ?_
            exact hnext97 _ (Option.some.inj h).symm H locs ls w (lv_sub hl [1, 2, 0] rfl)
          refine lpo_W (P := fun x : Int32 × PH => ∀ (H : Heap) (locs : List Loc) (ls : Array Slot), Wd D G L A H0 x.2 H locs → lv_has ls 8 [(0, .ref v0), (4, .int t68), (5, .int t72), (6, .int x76), (7, .int x.1)] → W p l e R s m args below meth c H locs cells slots Q (F0 m 119 ls [])) ?_ FU _ hL119 H locs ls w (lv_sub hl [2, 3, 4, 1, 0] rfl)
          intro x y119 h hnext119 hend119
          obtain ⟨t83, S84⟩ := x
          have h : f_X8_sorts_L119 S84 v0 t68 x76 t83 = some y119 := h
          unfold f_X8_sorts_L119 at h
          intro H locs ls w hl
          have hl : lv_has ls 8 [(0, .ref v0), (4, .int t68), (5, .int t72), (6, .int x76), (7, .int t83)] := hl
          have w : Wd D G L A H0 S84 H locs := w
          refine lv_iload hx hb dX8_sorts_119 (lv_at hl 4 rfl) ?_
          refine lv_iload hx hb dX8_sorts_121 (lv_at hl 1 rfl) ?_
          refine lv_icmp_lt (tgt := 179) hx hb dX8_sorts_123 (by decide) (fun cc123 => ?_) (fun cc123 => ?_)
          · have h := it cc123 h
            exact hE119 _ _ (hend119 _ (Option.some.inj h).symm).symm H locs ls w (lv_sub hl [0, 1, 2, 3, 4] rfl)
          · have h := ie cc123 h
            refine lv_aload_n hx hb dX8_sorts_126 rfl (lv_at hl 0 rfl) ?_
            obtain ⟨x85, hx85, h⟩ := bs h
            refine o_gR C w hx85 fl_X8_34 dX8_sorts_127 ?_
            refine lv_aload_n hx hb dX8_sorts_130 rfl (lv_at hl 0 rfl) ?_
            obtain ⟨x86, hx86, h⟩ := bs h
            refine o_gR C w hx86 fl_X8_37 dX8_sorts_131 ?_
            refine lv_iload hx hb dX8_sorts_134 (lv_at hl 4 rfl) ?_
            refine lv_iload hx hb dX8_sorts_136 (lv_at hl 1 rfl) ?_
            refine lv_isub hx hb dX8_sorts_138 ?_
            obtain ⟨x87, hx87, h⟩ := bs h
            refine o_ldI C w hx87 dX8_sorts_139 ?_
            obtain ⟨x88, hx88, h⟩ := bs h
            refine o_ldJ C w hx88 dX8_sorts_140 ?_
            refine lv_aload_n hx hb dX8_sorts_141 rfl (lv_at hl 0 rfl) ?_
            obtain ⟨x89, hx89, h⟩ := bs h
            refine o_gR C w hx89 fl_X8_34 dX8_sorts_142 ?_
            refine lv_iload hx hb dX8_sorts_145 (lv_at hl 3 rfl) ?_
            obtain ⟨x90, hx90, h⟩ := bs h
            refine o_ldJ C w hx90 dX8_sorts_147 ?_
            refine W.lcmp hx hb dX8_sorts_148 ?_
            refine lv_if_le (tgt := 179) hx hb dX8_sorts_149 (by decide) (fun cc149 => ?_) (fun cc149 => ?_)
            · have h := it cc149 h
              exact hE119 _ _ (hend119 _ (Option.some.inj h).symm).symm H locs ls w (lv_sub hl [0, 1, 2, 3, 4] rfl)
            · have h := ie cc149 h
              refine lv_aload_n hx hb dX8_sorts_152 rfl (lv_at hl 0 rfl) ?_
              obtain ⟨x91, hx91, h⟩ := bs h
              refine o_gR C w hx91 fl_X8_37 dX8_sorts_153 ?_
              refine lv_iload hx hb dX8_sorts_156 (lv_at hl 4 rfl) ?_
              refine lv_aload_n hx hb dX8_sorts_158 rfl (lv_at hl 0 rfl) ?_
              obtain ⟨x92, hx92, h⟩ := bs h
              refine o_gR C w hx92 fl_X8_37 dX8_sorts_159 ?_
              refine lv_iload hx hb dX8_sorts_162 (lv_at hl 4 rfl) ?_
              refine lv_iload hx hb dX8_sorts_164 (lv_at hl 1 rfl) ?_
              refine lv_isub hx hb dX8_sorts_166 ?_
              obtain ⟨x93, hx93, h⟩ := bs h
              refine o_ldI C w hx93 dX8_sorts_167 ?_
              obtain ⟨S94, hS94, h⟩ := bs h
              refine o_stI C w hS94 dX8_sorts_168 (fun H locs w => ?_)
              refine lv_iload hx hb dX8_sorts_169 (lv_at hl 4 rfl) ?_
              refine lv_iload hx hb dX8_sorts_171 (lv_at hl 1 rfl) ?_
              refine lv_isub hx hb dX8_sorts_173 ?_
              refine lv_istore (lv' := [(7, .int (t83 - t68)), (0, .ref v0), (4, .int t68), (5, .int t72), (6, .int x76)]) hx hb dX8_sorts_174 hl (by decide) rfl (fun ls hl => ?_)
              refine lv_goto (tgt := 119) hx hb dX8_sorts_176 (by decide) ?_
              exact hnext119 _ (Option.some.inj h).symm H locs ls w (lv_sub hl [1, 2, 3, 4, 0] rfl)
    refine lpo_W (P := fun x : Int32 × PH => ∀ (H : Heap) (locs : List Loc) (ls : Array Slot), Wd D G L A H0 x.2 H locs → lv_has ls 8 [(0, .ref v0), (2, .long y1), (4, .int x.1)] → W p l e R s m args below meth c H locs cells slots Q (F0 m 43 ls [])) ?_ FU _ hL43 H locs ls w (lv_sub hl [1, 2, 0] rfl)
    intro x y43 h hnext43 hend43
    obtain ⟨t96, S97⟩ := x
    have h : f_X8_sorts_L43 S97 v0 y1 t96 = some y43 := h
    unfold f_X8_sorts_L43 at h
    intro H locs ls w hl
    have hl : lv_has ls 8 [(0, .ref v0), (2, .long y1), (4, .int t96)] := hl
    have w : Wd D G L A H0 S97 H locs := w
    refine lv_iload hx hb dX8_sorts_43 (lv_at hl 2 rfl) ?_
    refine lv_aload_n hx hb dX8_sorts_45 rfl (lv_at hl 0 rfl) ?_
    obtain ⟨x98, hx98, h⟩ := bs h
    refine o_gI C w hx98 fl_X8_128 dX8_sorts_46 ?_
    refine lv_icmp_ge (tgt := 83) hx hb dX8_sorts_49 (by decide) (fun cc49 => ?_) (fun cc49 => ?_)
    · have h := it cc49 h
      exact hE43 _ (hend43 _ (Option.some.inj h).symm).symm H locs ls w (lv_sub hl [0] rfl)
    · have h := ie cc49 h
      refine lv_aload_n hx hb dX8_sorts_52 rfl (lv_at hl 0 rfl) ?_
      obtain ⟨x99, hx99, h⟩ := bs h
      refine o_gR C w hx99 fl_X8_34 dX8_sorts_53 ?_
      refine lv_iload hx hb dX8_sorts_56 (lv_at hl 2 rfl) ?_
      refine lv_aload_n hx hb dX8_sorts_58 rfl (lv_at hl 0 rfl) ?_
      obtain ⟨x100, hx100, h⟩ := bs h
      refine o_gR C w hx100 fl_X8_30 dX8_sorts_59 ?_
      refine lv_iload hx hb dX8_sorts_62 (lv_at hl 2 rfl) ?_
      obtain ⟨x101, hx101, h⟩ := bs h
      refine o_ldJ C w hx101 dX8_sorts_64 ?_
      refine lv_lload_n hx hb dX8_sorts_65 rfl (lv_at hl 1 rfl) ?_
      refine lv_land hx hb dX8_sorts_66 ?_
      obtain ⟨S102, hS102, h⟩ := bs h
      refine o_stJ C w hS102 dX8_sorts_67 (fun H locs w => ?_)
      refine lv_aload_n hx hb dX8_sorts_68 rfl (lv_at hl 0 rfl) ?_
      obtain ⟨x103, hx103, h⟩ := bs h
      refine o_gR C w hx103 fl_X8_37 dX8_sorts_69 ?_
      refine lv_iload hx hb dX8_sorts_72 (lv_at hl 2 rfl) ?_
      refine lv_iload hx hb dX8_sorts_74 (lv_at hl 2 rfl) ?_
      obtain ⟨S104, hS104, h⟩ := bs h
      refine o_stI C w hS104 dX8_sorts_76 (fun H locs w => ?_)
      refine lv_iinc (v := (t96 + 1)) (lv' := [(4, .int (t96 + 1)), (0, .ref v0), (2, .long y1)]) hx hb dX8_sorts_77 hl (k := 2) rfl rfl (by decide) rfl (fun ls hl => ?_)
      refine lv_goto (tgt := 43) hx hb dX8_sorts_80 (by decide) ?_
      exact hnext43 _ (Option.some.inj h).symm H locs ls w (lv_sub hl [1, 2, 0] rfl)
  refine lpo_W (P := fun x : Int64 × Int32 => ∀ (H : Heap) (locs : List Loc) (ls : Array Slot), Wd D G L A H0 S H locs → lv_has ls 8 [(0, .ref v0), (1, .int v1), (2, .long x.1), (4, .int x.2)] → W p l e R s m args below meth c H locs cells slots Q (F0 m 5 ls [])) ?_ FU _ hL5 H locs ls w (lv_sub hl [2, 3, 1, 0] rfl)
  intro x y5 h hnext5 hend5
  obtain ⟨t106, t107⟩ := x
  have h : f_X8_sorts_L5 S v1 t106 t107 = some y5 := h
  unfold f_X8_sorts_L5 at h
  have hb34 : ∀ (u108 : Int64) (u109 : Int32), f_X8_sorts_b34 S v1 u108 u109 = some y5 → ∀ (H : Heap) (locs : List Loc) (ls : Array Slot), Wd D G L A H0 S H locs → lv_has ls 8 [(0, .ref v0), (1, .int v1), (2, .long u108), (4, .int u109)] → W p l e R s m args below meth c H locs cells slots Q (F0 m 34 ls []) := by
    intro u108 u109 h H locs ls w hl
    unfold f_X8_sorts_b34 at h
    refine lv_iinc (v := (u109 + 1)) (lv' := [(4, .int (u109 + 1)), (0, .ref v0), (1, .int v1), (2, .long u108)]) hx hb dX8_sorts_34 hl (k := 3) rfl rfl (by decide) rfl (fun ls hl => ?_)
    refine lv_goto (tgt := 5) hx hb dX8_sorts_37 (by decide) ?_
    exact hnext5 _ (Option.some.inj h).symm H locs ls w (lv_sub hl [1, 2, 3, 0] rfl)
  intro H locs ls w hl
  have hl : lv_has ls 8 [(0, .ref v0), (1, .int v1), (2, .long t106), (4, .int t107)] := hl
  refine lv_iload hx hb dX8_sorts_5 (lv_at hl 3 rfl) ?_
  refine lv_bipush (v := 8) hx hb dX8_sorts_7 (by decide) ?_
  refine lv_icmp_ge (tgt := 40) hx hb dX8_sorts_9 (by decide) (fun cc9 => ?_) (fun cc9 => ?_)
  · have h := it cc9 h
    exact hE5 _ (hend5 _ (Option.some.inj h).symm).symm H locs ls w (lv_sub hl [0, 2] rfl)
  · have h := ie cc9 h
    refine lv_iload_n hx hb dX8_sorts_12 rfl (lv_at hl 1 rfl) ?_
    refine lv_iload hx hb dX8_sorts_13 (lv_at hl 3 rfl) ?_
    refine lv_ishr hx hb dX8_sorts_15 ?_
    refine lv_iconst (v := 1) hx hb dX8_sorts_16 (by decide) ?_
    refine lv_iand hx hb dX8_sorts_17 ?_
    refine lv_iconst (v := 1) hx hb dX8_sorts_18 (by decide) ?_
    refine lv_icmp_ne (tgt := 34) hx hb dX8_sorts_19 (by decide) (fun cc19 => ?_) (fun cc19 => ?_)
    · have h := ie cc19 h
      exact hb34 _ _ h H locs ls w (lv_sub hl [0, 1, 2, 3] rfl)
    · have h := it cc19 h
      refine lv_lload_n hx hb dX8_sorts_22 rfl (lv_at hl 2 rfl) ?_
      refine lv_ldc2 (v := 63) hx hb C.1.2.2.2.1 (C.1.2.2.2.2 _ kc_X8_131) dX8_sorts_23 ?_
      refine lv_bipush (v := 6) hx hb dX8_sorts_26 (by decide) ?_
      refine lv_iload hx hb dX8_sorts_28 (lv_at hl 3 rfl) ?_
      refine lv_imul hx hb dX8_sorts_30 ?_
      refine lv_lshl hx hb dX8_sorts_31 rfl ?_
      refine lv_lor hx hb dX8_sorts_32 ?_
      refine lv_lstore_n (lv' := [(2, .long (t106 ||| ((63 : Int64) <<< (((6 : Int32) * t107).toInt64 &&& 63)))), (0, .ref v0), (1, .int v1), (4, .int t107)]) hx hb dX8_sorts_33 rfl hl (by decide) rfl (fun ls hl => ?_)
      exact hb34 _ _ h H locs ls w (lv_sub hl [1, 2, 0, 3] rfl)
set_option maxHeartbeats 4000000 in
set_option maxRecDepth 100000 in
theorem c_X8_sorts (l : Launch) (D : va_G) (G : Nat → ClassId) (L : List Nat) (S : PH) (v0 : Nat) (v1 : Int32) (r : PH) (h : f_X8_sorts S v0 v1 = some r) : Met l yX8_sorts [Cond.code yX8_sorts cX8_sorts 8 none] ({ frames := 0, cells := 0, slots := 0, locals := 0 }) (va_Pc [.ref v0, .int v1] (PreU D G L S)) (Qv D G L r) 0 0 (inL L) := by
  refine Met.ofW (cc := cX8_sorts) (maxL := 8) (ret := none) (by decide) rfl ?_
  intro p e s m args below meth c s₁ B hml hv
  obtain ⟨rfl, hpre⟩ := hv
  obtain ⟨C, w⟩ := o_ent (own := RX8) rfl B hml hpre
  have hl := lv_entry ([.ref v0, .int v1]) (n := 8) (Nat.le_of_ble_eq_true rfl)
  rw [lg_entry_eq]
  generalize (lg_sl ([.ref v0, .int v1]) ++ List.replicate (8 - (lg_sl ([.ref v0, .int v1])).length) Slot.unset).toArray = ls at hl ⊢
  exact w_X8_sorts C (fun _ h => h) ⟨Nat.zero_le _, Nat.zero_le _⟩  S v0 v1 r h (fun S9 H locs ls pc w hv hd => by subst hv; exact o_vret C w B.returns B.notSynchronized hd) _ _ _ w hl

def f_X8_mayBe_b71 (S : PH) (v0 : Nat) (v2 : Int32) : Option ((Int32 × PH) ⊕ ((PH) ⊕ (Int32 × PH))) :=
(gR S v0 8 9).bind fun x2 =>
(gR S v0 8 12).bind fun x3 =>
(ldI S x3 v2).bind fun x4 =>
(ldI S x2 x4).bind fun x5 =>
(ckO S v0 8).bind fun _ =>
(f_X8_meets S v0 (0 : Int32) x5).bind fun S6 =>
some (.inl ((v2 + 1), S6))
def f_X8_mayBe_b67 (S : PH) (v0 : Nat) (v2 : Int32) : Option ((Int32 × PH) ⊕ ((PH) ⊕ (Int32 × PH))) :=
(ckO S v0 8).bind fun _ =>
(f_X8_clears S v0).bind fun S7 =>
f_X8_mayBe_b71 S7 v0 v2
def f_X8_mayBe_b53 (S : PH) (v0 : Nat) (v2 : Int32) : Option ((Int32 × PH) ⊕ ((PH) ⊕ (Int32 × PH))) :=
if v2 ≤ 0 then (
f_X8_mayBe_b67 S v0 v2)
else (
(ckO S v0 8).bind fun _ =>
(f_X8_isClose S v0 (0 : Int32)).bind fun x8 =>
if x8 = 0 then (
f_X8_mayBe_b67 S v0 v2)
else (
some (.inr (.inr ((0 : Int32), S)))))
def f_X8_mayBe_L13 (S : PH) (v0 : Nat) (v2 : Int32) : Option ((Int32 × PH) ⊕ ((PH) ⊕ (Int32 × PH))) :=
(gI S v0 8 13).bind fun x9 =>
if x9 ≤ v2 then (
some (.inr (.inl S)))
else (
if v2 = 0 then (
f_X8_mayBe_b53 S v0 v2)
else (
(gR S v0 8 11).bind fun x10 =>
(gR S v0 8 12).bind fun x11 =>
(ldI S x11 v2).bind fun x12 =>
(ldJ S x10 x12).bind fun x13 =>
(gR S v0 8 11).bind fun x14 =>
(gR S v0 8 12).bind fun x15 =>
(ldI S x15 (v2 - (1 : Int32))).bind fun x16 =>
(ldJ S x14 x16).bind fun x17 =>
if (lg_cmp x13 x17) = 0 then (
f_X8_mayBe_b71 S v0 v2)
else (
f_X8_mayBe_b53 S v0 v2)))
def f_X8_mayBe (S : PH) (v0 : Nat) (v1 : Int32) : Option (Int32 × PH) :=
if v1 = 0 then (
some ((1 : Int32), S))
else (
(ckO S v0 8).bind fun _ =>
(f_X8_sorts S v0 v1).bind fun S1 =>
bdS (lpo (fun x : Int32 × PH => f_X8_mayBe_L13 x.2 v0 x.1) FU ((0 : Int32), S1)) (fun S18 =>
(ckO S18 v0 8).bind fun _ =>
(f_X8_isClose S18 v0 (0 : Int32)).bind fun x19 =>
if x19 = 0 then (
some ((1 : Int32), S18))
else (
some ((0 : Int32), S18))) some)
set_option maxHeartbeats 4000000 in
set_option maxRecDepth 100000 in
theorem w_X8_mayBe {p : Program} {l : Launch} {e : Env} {R : Room} {s : State} {m : MethodId} {args : Array Value} {below : List Frame} {meth : Method} {c : Code} {cells slots : Nat} {Q : State → Prop} {D : va_G} {G : Nat → ClassId} {L : List Nat} {A : Nat → Prop} {H0 : Heap} (C : CX p s m c args D G cX8_mayBe 3 RX8) (hLA : ∀ q ∈ L, A q) (hcs : cells ≤ R.cells ∧ slots ≤ R.slots) (hR_X8_sorts : RoomOk R ({ frames := 0, cells := 0, slots := 0, locals := 0 }) 8) (hR_X8_isClose : RoomOk R ({ frames := 1, cells := 0, slots := 0, locals := 22 }) 4) (hR_X8_clears : RoomOk R ({ frames := 0, cells := 0, slots := 0, locals := 0 }) 2) (hR_X8_meets : RoomOk R ({ frames := 3, cells := 0, slots := 0, locals := 65 }) 6) (S : PH) (v0 : Nat) (v1 : Int32) (r : Int32 × PH) (h : f_X8_mayBe S v0 v1 = some r) (hret : ∀ (v : Int32) (S9 : PH) (H : Heap) (locs : List Loc) (ls : Array Slot) (pc : Nat), Wd D G L A H0 S9 H locs → narrow .boolean (.int v) = .int v → (v, S9) = r → decode cX8_mayBe pc = .ok (.ireturn, 1) → W p l e R s m args below meth c H locs cells slots Q (F0 m pc ls [.int v])) : ∀ (H : Heap) (locs : List Loc) (ls : Array Slot), Wd D G L A H0 S H locs → lv_has ls 3 [(0, .ref v0), (1, .int v1)] → W p l e R s m args below meth c H locs cells slots Q (F0 m 0 ls []) := by
  have hx := C.1.1
  have hb := C.1.2.1
  unfold f_X8_mayBe at h
  intro H locs ls w hl
  refine lv_iload_n hx hb dX8_mayBe_0 rfl (lv_at hl 1 rfl) ?_
  refine lv_if_ne (tgt := 6) hx hb dX8_mayBe_1 (by decide) (fun cc1 => ?_) (fun cc1 => ?_)
  · have h := ie cc1 h
    refine lv_aload_n hx hb dX8_mayBe_6 rfl (lv_at hl 0 rfl) ?_
    refine lv_iload_n hx hb dX8_mayBe_7 rfl (lv_at hl 1 rfl) ?_
    obtain ⟨_, ho, h⟩ := bs h
    obtain ⟨S1, hc, h⟩ := bs h
    refine o_backv w hLA (o_runV (As := [.int v1]) (rest := []) C w (c_X8_sorts l D G L S v0 v1 S1 hc) ml_X8_133 mv_X8_sorts hR_X8_sorts ho rfl hl.1 rfl (Nat.le_of_ble_eq_true rfl) dX8_mayBe_8 hcs) (fun H locs w => ?_)
    refine lv_iconst (v := 0) hx hb dX8_mayBe_11 (by decide) ?_
    refine lv_istore_n (lv' := [(2, .int (0 : Int32)), (0, .ref v0), (1, .int v1)]) hx hb dX8_mayBe_12 rfl hl (by decide) rfl (fun ls hl => ?_)
    obtain ⟨e13, hL13, h⟩ := bs h
    have hE13 : ∀ (q20 : PH), e13 = Sum.inl q20 → ∀ (H : Heap) (locs : List Loc) (ls : Array Slot), Wd D G L A H0 q20 H locs → lv_has ls 3 [(0, .ref v0)] → W p l e R s m args below meth c H locs cells slots Q (F0 m 93 ls []) := by
      intro S18 he
      subst he
      have h : _ = some r := h
      intro H locs ls w hl
      refine lv_aload_n hx hb dX8_mayBe_93 rfl (lv_at hl 0 rfl) ?_
      refine lv_iconst (v := 0) hx hb dX8_mayBe_94 (by decide) ?_
      obtain ⟨_, ho, h⟩ := bs h
      obtain ⟨x19, hc, h⟩ := bs h
      refine o_backi w hLA (o_runV (As := [.int (0 : Int32)]) (rest := []) C w (c_X8_isClose l D G L S18 v0 (0 : Int32) x19 hc) ml_X8_103 mv_X8_isClose hR_X8_isClose ho rfl hl.1 rfl (Nat.le_of_ble_eq_true rfl) dX8_mayBe_95 hcs) (fun H locs w => ?_)
      refine lv_if_ne (tgt := 105) hx hb dX8_mayBe_98 (by decide) (fun cc98 => ?_) (fun cc98 => ?_)
      · have h := ie cc98 h
        refine lv_iconst (v := 0) hx hb dX8_mayBe_105 (by decide) ?_
        exact hret _ _ _ _ _ _ w rfl (Option.some.inj h) dX8_mayBe_106
      · have h := it cc98 h
        refine lv_iconst (v := 1) hx hb dX8_mayBe_101 (by decide) ?_
        refine lv_goto (tgt := 106) hx hb dX8_mayBe_102 (by decide) ?_
        exact hret _ _ _ _ _ _ w rfl (Option.some.inj h) dX8_mayBe_106
    have hR13 : ∀ q, e13 = Sum.inr q → q = r := by
      intro q he
      subst he
      exact Option.some.inj h
    refine lpo_W (P := fun x : Int32 × PH => ∀ (H : Heap) (locs : List Loc) (ls : Array Slot), Wd D G L A H0 x.2 H locs → lv_has ls 3 [(0, .ref v0), (2, .int x.1)] → W p l e R s m args below meth c H locs cells slots Q (F0 m 13 ls [])) ?_ FU _ hL13 H locs ls w (lv_sub hl [1, 0] rfl)
    intro x y13 h hnext13 hend13
    obtain ⟨t21, S22⟩ := x
    have h : f_X8_mayBe_L13 S22 v0 t21 = some y13 := h
    unfold f_X8_mayBe_L13 at h
    have hb71 : ∀ (S23 : PH) (u24 : Int32), f_X8_mayBe_b71 S23 v0 u24 = some y13 → ∀ (H : Heap) (locs : List Loc) (ls : Array Slot), Wd D G L A H0 S23 H locs → lv_has ls 3 [(0, .ref v0), (2, .int u24)] → W p l e R s m args below meth c H locs cells slots Q (F0 m 71 ls []) := by
      intro S23 u24 h H locs ls w hl
      unfold f_X8_mayBe_b71 at h
      refine lv_aload_n hx hb dX8_mayBe_71 rfl (lv_at hl 0 rfl) ?_
      refine lv_iconst (v := 0) hx hb dX8_mayBe_72 (by decide) ?_
      refine lv_aload_n hx hb dX8_mayBe_73 rfl (lv_at hl 0 rfl) ?_
      obtain ⟨x25, hx25, h⟩ := bs h
      refine o_gR C w hx25 fl_X8_27 dX8_mayBe_74 ?_
      refine lv_aload_n hx hb dX8_mayBe_77 rfl (lv_at hl 0 rfl) ?_
      obtain ⟨x26, hx26, h⟩ := bs h
      refine o_gR C w hx26 fl_X8_37 dX8_mayBe_78 ?_
      refine lv_iload_n hx hb dX8_mayBe_81 rfl (lv_at hl 1 rfl) ?_
      obtain ⟨x27, hx27, h⟩ := bs h
      refine o_ldI C w hx27 dX8_mayBe_82 ?_
      obtain ⟨x28, hx28, h⟩ := bs h
      refine o_ldI C w hx28 dX8_mayBe_83 ?_
      obtain ⟨_, ho, h⟩ := bs h
      obtain ⟨S29, hc, h⟩ := bs h
      refine o_backv w hLA (o_runV (As := [.int (0 : Int32), .int x28]) (rest := []) C w (c_X8_meets l D G L S23 v0 (0 : Int32) x28 S29 hc) ml_X8_100 mv_X8_meets hR_X8_meets ho rfl hl.1 rfl (Nat.le_of_ble_eq_true rfl) dX8_mayBe_84 hcs) (fun H locs w => ?_)
      refine lv_iinc (v := (u24 + 1)) (lv' := [(2, .int (u24 + 1)), (0, .ref v0)]) hx hb dX8_mayBe_87 hl (k := 1) rfl rfl (by decide) rfl (fun ls hl => ?_)
      refine lv_goto (tgt := 13) hx hb dX8_mayBe_90 (by decide) ?_
      exact hnext13 _ (Option.some.inj h).symm H locs ls w (lv_sub hl [1, 0] rfl)
    have hb67 : ∀ (S30 : PH) (u31 : Int32), f_X8_mayBe_b67 S30 v0 u31 = some y13 → ∀ (H : Heap) (locs : List Loc) (ls : Array Slot), Wd D G L A H0 S30 H locs → lv_has ls 3 [(0, .ref v0), (2, .int u31)] → W p l e R s m args below meth c H locs cells slots Q (F0 m 67 ls []) := by
      intro S30 u31 h H locs ls w hl
      unfold f_X8_mayBe_b67 at h
      refine lv_aload_n hx hb dX8_mayBe_67 rfl (lv_at hl 0 rfl) ?_
      obtain ⟨_, ho, h⟩ := bs h
      obtain ⟨S32, hc, h⟩ := bs h
      refine o_backv w hLA (o_runV (As := []) (rest := []) C w (c_X8_clears l D G L S30 v0 S32 hc) ml_X8_90 mv_X8_clears hR_X8_clears ho rfl hl.1 rfl (Nat.le_of_ble_eq_true rfl) dX8_mayBe_68 hcs) (fun H locs w => ?_)
      exact hb71 _ _ h H locs ls w (lv_sub hl [0, 1] rfl)
    have hb53 : ∀ (S33 : PH) (u34 : Int32), f_X8_mayBe_b53 S33 v0 u34 = some y13 → ∀ (H : Heap) (locs : List Loc) (ls : Array Slot), Wd D G L A H0 S33 H locs → lv_has ls 3 [(0, .ref v0), (2, .int u34)] → W p l e R s m args below meth c H locs cells slots Q (F0 m 53 ls []) := by
      intro S33 u34 h H locs ls w hl
      unfold f_X8_mayBe_b53 at h
      refine lv_iload_n hx hb dX8_mayBe_53 rfl (lv_at hl 1 rfl) ?_
      refine lv_if_le (tgt := 67) hx hb dX8_mayBe_54 (by decide) (fun cc54 => ?_) (fun cc54 => ?_)
      · have h := it cc54 h
        exact hb67 _ _ h H locs ls w (lv_sub hl [0, 1] rfl)
      · have h := ie cc54 h
        refine lv_aload_n hx hb dX8_mayBe_57 rfl (lv_at hl 0 rfl) ?_
        refine lv_iconst (v := 0) hx hb dX8_mayBe_58 (by decide) ?_
        obtain ⟨_, ho, h⟩ := bs h
        obtain ⟨x35, hc, h⟩ := bs h
        refine o_backi w hLA (o_runV (As := [.int (0 : Int32)]) (rest := []) C w (c_X8_isClose l D G L S33 v0 (0 : Int32) x35 hc) ml_X8_103 mv_X8_isClose hR_X8_isClose ho rfl hl.1 rfl (Nat.le_of_ble_eq_true rfl) dX8_mayBe_59 hcs) (fun H locs w => ?_)
        refine lv_if_eq (tgt := 67) hx hb dX8_mayBe_62 (by decide) (fun cc62 => ?_) (fun cc62 => ?_)
        · have h := it cc62 h
          exact hb67 _ _ h H locs ls w (lv_sub hl [0, 1] rfl)
        · have h := ie cc62 h
          refine lv_iconst (v := 0) hx hb dX8_mayBe_65 (by decide) ?_
          exact hret _ _ _ _ _ _ w rfl (hR13 _ (hend13 _ (Option.some.inj h).symm).symm) dX8_mayBe_66
    intro H locs ls w hl
    have hl : lv_has ls 3 [(0, .ref v0), (2, .int t21)] := hl
    have w : Wd D G L A H0 S22 H locs := w
    refine lv_iload_n hx hb dX8_mayBe_13 rfl (lv_at hl 1 rfl) ?_
    refine lv_aload_n hx hb dX8_mayBe_14 rfl (lv_at hl 0 rfl) ?_
    obtain ⟨x36, hx36, h⟩ := bs h
    refine o_gI C w hx36 fl_X8_128 dX8_mayBe_15 ?_
    refine lv_icmp_ge (tgt := 93) hx hb dX8_mayBe_18 (by decide) (fun cc18 => ?_) (fun cc18 => ?_)
    · have h := it cc18 h
      exact hE13 _ (hend13 _ (Option.some.inj h).symm).symm H locs ls w (lv_sub hl [0] rfl)
    · have h := ie cc18 h
      refine lv_iload_n hx hb dX8_mayBe_21 rfl (lv_at hl 1 rfl) ?_
      refine lv_if_eq (tgt := 53) hx hb dX8_mayBe_22 (by decide) (fun cc22 => ?_) (fun cc22 => ?_)
      · have h := it cc22 h
        exact hb53 _ _ h H locs ls w (lv_sub hl [0, 1] rfl)
      · have h := ie cc22 h
        refine lv_aload_n hx hb dX8_mayBe_25 rfl (lv_at hl 0 rfl) ?_
        obtain ⟨x37, hx37, h⟩ := bs h
        refine o_gR C w hx37 fl_X8_34 dX8_mayBe_26 ?_
        refine lv_aload_n hx hb dX8_mayBe_29 rfl (lv_at hl 0 rfl) ?_
        obtain ⟨x38, hx38, h⟩ := bs h
        refine o_gR C w hx38 fl_X8_37 dX8_mayBe_30 ?_
        refine lv_iload_n hx hb dX8_mayBe_33 rfl (lv_at hl 1 rfl) ?_
        obtain ⟨x39, hx39, h⟩ := bs h
        refine o_ldI C w hx39 dX8_mayBe_34 ?_
        obtain ⟨x40, hx40, h⟩ := bs h
        refine o_ldJ C w hx40 dX8_mayBe_35 ?_
        refine lv_aload_n hx hb dX8_mayBe_36 rfl (lv_at hl 0 rfl) ?_
        obtain ⟨x41, hx41, h⟩ := bs h
        refine o_gR C w hx41 fl_X8_34 dX8_mayBe_37 ?_
        refine lv_aload_n hx hb dX8_mayBe_40 rfl (lv_at hl 0 rfl) ?_
        obtain ⟨x42, hx42, h⟩ := bs h
        refine o_gR C w hx42 fl_X8_37 dX8_mayBe_41 ?_
        refine lv_iload_n hx hb dX8_mayBe_44 rfl (lv_at hl 1 rfl) ?_
        refine lv_iconst (v := 1) hx hb dX8_mayBe_45 (by decide) ?_
        refine lv_isub hx hb dX8_mayBe_46 ?_
        obtain ⟨x43, hx43, h⟩ := bs h
        refine o_ldI C w hx43 dX8_mayBe_47 ?_
        obtain ⟨x44, hx44, h⟩ := bs h
        refine o_ldJ C w hx44 dX8_mayBe_48 ?_
        refine W.lcmp hx hb dX8_mayBe_49 ?_
        refine lv_if_eq (tgt := 71) hx hb dX8_mayBe_50 (by decide) (fun cc50 => ?_) (fun cc50 => ?_)
        · have h := it cc50 h
          exact hb71 _ _ h H locs ls w (lv_sub hl [0, 1] rfl)
        · have h := ie cc50 h
          exact hb53 _ _ h H locs ls w (lv_sub hl [0, 1] rfl)
  · have h := it cc1 h
    refine lv_iconst (v := 1) hx hb dX8_mayBe_4 (by decide) ?_
    exact hret _ _ _ _ _ _ w rfl (Option.some.inj h) dX8_mayBe_5
set_option maxHeartbeats 4000000 in
set_option maxRecDepth 100000 in
theorem c_X8_mayBe (l : Launch) (D : va_G) (G : Nat → ClassId) (L : List Nat) (S : PH) (v0 : Nat) (v1 : Int32) (r : Int32 × PH) (h : f_X8_mayBe S v0 v1 = some r) : Met l yX8_mayBe [Cond.code yX8_mayBe cX8_mayBe 3 (some .boolean)] ({ frames := 4, cells := 0, slots := 0, locals := 90 }) (va_Pc [.ref v0, .int v1] (PreU D G L S)) (Qi D G L r.1 r.2) 0 0 (inL L) := by
  refine Met.ofW (cc := cX8_mayBe) (maxL := 3) (ret := (some .boolean)) (by decide) rfl ?_
  intro p e s m args below meth c s₁ B hml hv
  obtain ⟨rfl, hpre⟩ := hv
  obtain ⟨C, w⟩ := o_ent (own := RX8) rfl B hml hpre
  have hl := lv_entry ([.ref v0, .int v1]) (n := 3) (Nat.le_of_ble_eq_true rfl)
  rw [lg_entry_eq]
  generalize (lg_sl ([.ref v0, .int v1]) ++ List.replicate (3 - (lg_sl ([.ref v0, .int v1])).length) Slot.unset).toArray = ls at hl ⊢
  exact w_X8_mayBe C (fun _ h => h) ⟨Nat.zero_le _, Nat.zero_le _⟩ ⟨rfl, rfl, Nat.le_of_ble_eq_true rfl, Nat.le_of_ble_eq_true rfl⟩ ⟨rfl, rfl, Nat.le_of_ble_eq_true rfl, Nat.le_of_ble_eq_true rfl⟩ ⟨rfl, rfl, Nat.le_of_ble_eq_true rfl, Nat.le_of_ble_eq_true rfl⟩ ⟨rfl, rfl, Nat.le_of_ble_eq_true rfl, Nat.le_of_ble_eq_true rfl⟩ S v0 v1 r h (fun v S9 H locs ls pc w hz hv hd => by subst hv; exact o_zret C w B.returns B.notSynchronized hz hd) _ _ _ w hl

def f_X8_together (S : PH) (v0 : Nat) (v1 : Int32) (v2 : Int32) : Option (Int32 × PH) :=
(f_X8_isAsker v1).bind fun x1 =>
if x1 = 0 then (
some ((0 : Int32), S))
else (
if v2 < 0 then (
some ((0 : Int32), S))
else (
(gR S v0 8 0).bind fun x2 =>
(ldI S x2 (5 : Int32)).bind fun x3 =>
if v2 < ((1 : Int32) <<< (x3 &&& 31)) then (
(ckO S v0 8).bind fun _ =>
(f_X8_reckons S v0 v1).bind fun S4 =>
(ckO S4 v0 8).bind fun _ =>
bd2 (f_X8_mayBe S4 v0 v2) fun x5 S6 =>
(ckZ x5).bind fun _ =>
some (x5, S6))
else (
some ((0 : Int32), S))))
set_option maxHeartbeats 4000000 in
set_option maxRecDepth 100000 in
theorem w_X8_together {p : Program} {l : Launch} {e : Env} {R : Room} {s : State} {m : MethodId} {args : Array Value} {below : List Frame} {meth : Method} {c : Code} {cells slots : Nat} {Q : State → Prop} {D : va_G} {G : Nat → ClassId} {L : List Nat} {A : Nat → Prop} {H0 : Heap} (C : CX p s m c args D G cX8_together 3 RX8) (hLA : ∀ q ∈ L, A q) (hcs : cells ≤ R.cells ∧ slots ≤ R.slots) (hR_X8_isAsker : RoomOk R ({ frames := 1, cells := 0, slots := 0, locals := 22 }) 1) (hR_X8_reckons : RoomOk R ({ frames := 4, cells := 0, slots := 0, locals := 90 }) 7) (hR_X8_mayBe : RoomOk R ({ frames := 4, cells := 0, slots := 0, locals := 90 }) 3) (S : PH) (v0 : Nat) (v1 : Int32) (v2 : Int32) (r : Int32 × PH) (h : f_X8_together S v0 v1 v2 = some r) (hret : ∀ (v : Int32) (S9 : PH) (H : Heap) (locs : List Loc) (ls : Array Slot) (pc : Nat), Wd D G L A H0 S9 H locs → narrow .boolean (.int v) = .int v → (v, S9) = r → decode cX8_together pc = .ok (.ireturn, 1) → W p l e R s m args below meth c H locs cells slots Q (F0 m pc ls [.int v])) : ∀ (H : Heap) (locs : List Loc) (ls : Array Slot), Wd D G L A H0 S H locs → lv_has ls 3 [(0, .ref v0), (1, .int v1), (2, .int v2)] → W p l e R s m args below meth c H locs cells slots Q (F0 m 0 ls []) := by
  have hx := C.1.1
  have hb := C.1.2.1
  unfold f_X8_together at h
  intro H locs ls w hl
  refine lv_iload_n hx hb dX8_together_0 rfl (lv_at hl 1 rfl) ?_
  obtain ⟨x1, hc, h⟩ := bs h
  refine o_backi w hLA (o_runS (As := [.int v1]) (rest := []) C w (c_X8_isAsker l D G L S v1 x1 hc) ml_X8_106 st_X8_isAsker hR_X8_isAsker rfl hl.1 rfl (Nat.le_of_ble_eq_true rfl) dX8_together_1 hcs) (fun H locs w => ?_)
  refine lv_if_eq (tgt := 23) hx hb dX8_together_4 (by decide) (fun cc4 => ?_) (fun cc4 => ?_)
  · have h := it cc4 h
    refine lv_iconst (v := 0) hx hb dX8_together_23 (by decide) ?_
    exact hret _ _ _ _ _ _ w rfl (Option.some.inj h) dX8_together_24
  · have h := ie cc4 h
    refine lv_iload_n hx hb dX8_together_7 rfl (lv_at hl 2 rfl) ?_
    refine lv_if_lt (tgt := 23) hx hb dX8_together_8 (by decide) (fun cc8 => ?_) (fun cc8 => ?_)
    · have h := it cc8 h
      refine lv_iconst (v := 0) hx hb dX8_together_23 (by decide) ?_
      exact hret _ _ _ _ _ _ w rfl (Option.some.inj h) dX8_together_24
    · have h := ie cc8 h
      refine lv_iload_n hx hb dX8_together_11 rfl (lv_at hl 2 rfl) ?_
      refine lv_iconst (v := 1) hx hb dX8_together_12 (by decide) ?_
      refine lv_aload_n hx hb dX8_together_13 rfl (lv_at hl 0 rfl) ?_
      obtain ⟨x2, hx2, h⟩ := bs h
      refine o_gR C w hx2 fl_X8_8 dX8_together_14 ?_
      refine lv_iconst (v := 5) hx hb dX8_together_17 (by decide) ?_
      obtain ⟨x3, hx3, h⟩ := bs h
      refine o_ldI C w hx3 dX8_together_18 ?_
      refine lv_ishl hx hb dX8_together_19 ?_
      refine lv_icmp_lt (tgt := 25) hx hb dX8_together_20 (by decide) (fun cc20 => ?_) (fun cc20 => ?_)
      · have h := it cc20 h
        refine lv_aload_n hx hb dX8_together_25 rfl (lv_at hl 0 rfl) ?_
        refine lv_iload_n hx hb dX8_together_26 rfl (lv_at hl 1 rfl) ?_
        obtain ⟨_, ho, h⟩ := bs h
        obtain ⟨S4, hc, h⟩ := bs h
        refine o_backv w hLA (o_runV (As := [.int v1]) (rest := []) C w (c_X8_reckons l D G L S v0 v1 S4 hc) ml_X8_137 mv_X8_reckons hR_X8_reckons ho rfl hl.1 rfl (Nat.le_of_ble_eq_true rfl) dX8_together_27 hcs) (fun H locs w => ?_)
        refine lv_aload_n hx hb dX8_together_30 rfl (lv_at hl 0 rfl) ?_
        refine lv_iload_n hx hb dX8_together_31 rfl (lv_at hl 2 rfl) ?_
        obtain ⟨_, ho, h⟩ := bs h
        obtain ⟨x5, S6, hc, h⟩ := bs2 h
        refine o_backi w hLA (o_runV (As := [.int v2]) (rest := []) C w (c_X8_mayBe l D G L S4 v0 v2 (x5, S6) hc) ml_X8_140 mv_X8_mayBe hR_X8_mayBe ho rfl hl.1 rfl (Nat.le_of_ble_eq_true rfl) dX8_together_32 hcs) (fun H locs w => ?_)
        obtain ⟨_, hz, h⟩ := bs h
        exact hret _ _ _ _ _ _ w (ckZ_some hz) (Option.some.inj h) dX8_together_35
      · have h := ie cc20 h
        refine lv_iconst (v := 0) hx hb dX8_together_23 (by decide) ?_
        exact hret _ _ _ _ _ _ w rfl (Option.some.inj h) dX8_together_24
set_option maxHeartbeats 4000000 in
set_option maxRecDepth 100000 in
theorem c_X8_together (l : Launch) (D : va_G) (G : Nat → ClassId) (L : List Nat) (S : PH) (v0 : Nat) (v1 : Int32) (v2 : Int32) (r : Int32 × PH) (h : f_X8_together S v0 v1 v2 = some r) : Met l yX8_together [Cond.code yX8_together cX8_together 3 (some .boolean)] ({ frames := 5, cells := 0, slots := 0, locals := 116 }) (va_Pc [.ref v0, .int v1, .int v2] (PreU D G L S)) (Qi D G L r.1 r.2) 0 0 (inL L) := by
  refine Met.ofW (cc := cX8_together) (maxL := 3) (ret := (some .boolean)) (by decide) rfl ?_
  intro p e s m args below meth c s₁ B hml hv
  obtain ⟨rfl, hpre⟩ := hv
  obtain ⟨C, w⟩ := o_ent (own := RX8) rfl B hml hpre
  have hl := lv_entry ([.ref v0, .int v1, .int v2]) (n := 3) (Nat.le_of_ble_eq_true rfl)
  rw [lg_entry_eq]
  generalize (lg_sl ([.ref v0, .int v1, .int v2]) ++ List.replicate (3 - (lg_sl ([.ref v0, .int v1, .int v2])).length) Slot.unset).toArray = ls at hl ⊢
  exact w_X8_together C (fun _ h => h) ⟨Nat.zero_le _, Nat.zero_le _⟩ ⟨rfl, rfl, Nat.le_of_ble_eq_true rfl, Nat.le_of_ble_eq_true rfl⟩ ⟨rfl, rfl, Nat.le_of_ble_eq_true rfl, Nat.le_of_ble_eq_true rfl⟩ ⟨rfl, rfl, Nat.le_of_ble_eq_true rfl, Nat.le_of_ble_eq_true rfl⟩ S v0 v1 v2 r h (fun v S9 H locs ls pc w hz hv hd => by subst hv; exact o_zret C w B.returns B.notSynchronized hz hd) _ _ _ w hl

def f_X8_bitsOf_L4 (v0 : Int32) (v1 : Int32) (v2 : Int32) : Option ((Int32 × Int32) ⊕ (Int32)) :=
if (8 : Int32) ≤ v2 then (
some (.inr v1))
else (
some (.inl ((v1 + ((v0 >>> (v2 &&& 31)) &&& (1 : Int32))), (v2 + 1))))
def f_X8_bitsOf (v0 : Int32) : Option (Int32) :=
(lpo (fun x : Int32 × Int32 => f_X8_bitsOf_L4 v0 x.1 x.2) FU ((0 : Int32), (0 : Int32))).bind fun y1 =>
some y1
set_option maxHeartbeats 4000000 in
set_option maxRecDepth 100000 in
theorem w_X8_bitsOf {p : Program} {l : Launch} {e : Env} {R : Room} {s : State} {m : MethodId} {args : Array Value} {below : List Frame} {meth : Method} {c : Code} {cells slots : Nat} {Q : State → Prop} {D : va_G} {G : Nat → ClassId} {L : List Nat} {A : Nat → Prop} {H0 : Heap} (C : CX p s m c args D G cX8_bitsOf 3 RX8) (hLA : ∀ q ∈ L, A q) (hcs : cells ≤ R.cells ∧ slots ≤ R.slots)  (S : PH) (v0 : Int32) (r : Int32) (h : f_X8_bitsOf v0 = some r) (hret : ∀ (v : Int32) (H : Heap) (locs : List Loc) (ls : Array Slot) (pc : Nat), Wd D G L A H0 S H locs → v = r → decode cX8_bitsOf pc = .ok (.ireturn, 1) → W p l e R s m args below meth c H locs cells slots Q (F0 m pc ls [.int v])) : ∀ (H : Heap) (locs : List Loc) (ls : Array Slot), Wd D G L A H0 S H locs → lv_has ls 3 [(0, .int v0)] → W p l e R s m args below meth c H locs cells slots Q (F0 m 0 ls []) := by
  have hx := C.1.1
  have hb := C.1.2.1
  unfold f_X8_bitsOf at h
  intro H locs ls w hl
  refine lv_iconst (v := 0) hx hb dX8_bitsOf_0 (by decide) ?_
  refine lv_istore_n (lv' := [(1, .int (0 : Int32)), (0, .int v0)]) hx hb dX8_bitsOf_1 rfl hl (by decide) rfl (fun ls hl => ?_)
  refine lv_iconst (v := 0) hx hb dX8_bitsOf_2 (by decide) ?_
  refine lv_istore_n (lv' := [(2, .int (0 : Int32)), (1, .int (0 : Int32)), (0, .int v0)]) hx hb dX8_bitsOf_3 rfl hl (by decide) rfl (fun ls hl => ?_)
  obtain ⟨y1, hL4, h⟩ := bs h
  have hE4 : ∀ (q2 : Int32), y1 = q2 → ∀ (H : Heap) (locs : List Loc) (ls : Array Slot), Wd D G L A H0 S H locs → lv_has ls 3 [(1, .int q2)] → W p l e R s m args below meth c H locs cells slots Q (F0 m 24 ls []) := by
    intro q2 he
    cases he
    intro H locs ls w hl
    refine lv_iload_n hx hb dX8_bitsOf_24 rfl (lv_at hl 0 rfl) ?_
    exact hret _ _ _ _ _ w (Option.some.inj h) dX8_bitsOf_25
  refine lpo_W (P := fun x : Int32 × Int32 => ∀ (H : Heap) (locs : List Loc) (ls : Array Slot), Wd D G L A H0 S H locs → lv_has ls 3 [(0, .int v0), (1, .int x.1), (2, .int x.2)] → W p l e R s m args below meth c H locs cells slots Q (F0 m 4 ls [])) ?_ FU _ hL4 H locs ls w (lv_sub hl [2, 1, 0] rfl)
  intro x y4 h hnext4 hend4
  obtain ⟨t3, t4⟩ := x
  have h : f_X8_bitsOf_L4 v0 t3 t4 = some y4 := h
  unfold f_X8_bitsOf_L4 at h
  intro H locs ls w hl
  have hl : lv_has ls 3 [(0, .int v0), (1, .int t3), (2, .int t4)] := hl
  refine lv_iload_n hx hb dX8_bitsOf_4 rfl (lv_at hl 2 rfl) ?_
  refine lv_bipush (v := 8) hx hb dX8_bitsOf_5 (by decide) ?_
  refine lv_icmp_ge (tgt := 24) hx hb dX8_bitsOf_7 (by decide) (fun cc7 => ?_) (fun cc7 => ?_)
  · have h := it cc7 h
    exact hE4 _ (hend4 _ (Option.some.inj h).symm).symm H locs ls w (lv_sub hl [1] rfl)
  · have h := ie cc7 h
    refine lv_iload_n hx hb dX8_bitsOf_10 rfl (lv_at hl 1 rfl) ?_
    refine lv_iload_n hx hb dX8_bitsOf_11 rfl (lv_at hl 0 rfl) ?_
    refine lv_iload_n hx hb dX8_bitsOf_12 rfl (lv_at hl 2 rfl) ?_
    refine lv_ishr hx hb dX8_bitsOf_13 ?_
    refine lv_iconst (v := 1) hx hb dX8_bitsOf_14 (by decide) ?_
    refine lv_iand hx hb dX8_bitsOf_15 ?_
    refine lv_iadd hx hb dX8_bitsOf_16 ?_
    refine lv_istore_n (lv' := [(1, .int (t3 + ((v0 >>> (t4 &&& 31)) &&& (1 : Int32)))), (0, .int v0), (2, .int t4)]) hx hb dX8_bitsOf_17 rfl hl (by decide) rfl (fun ls hl => ?_)
    refine lv_iinc (v := (t4 + 1)) (lv' := [(2, .int (t4 + 1)), (1, .int (t3 + ((v0 >>> (t4 &&& 31)) &&& (1 : Int32)))), (0, .int v0)]) hx hb dX8_bitsOf_18 hl (k := 2) rfl rfl (by decide) rfl (fun ls hl => ?_)
    refine lv_goto (tgt := 4) hx hb dX8_bitsOf_21 (by decide) ?_
    exact hnext4 _ (Option.some.inj h).symm H locs ls w (lv_sub hl [2, 1, 0] rfl)
set_option maxHeartbeats 4000000 in
set_option maxRecDepth 100000 in
theorem c_X8_bitsOf (l : Launch) (D : va_G) (G : Nat → ClassId) (L : List Nat) (S : PH) (v0 : Int32) (r : Int32) (h : f_X8_bitsOf v0 = some r) : Met l yX8_bitsOf [Cond.code yX8_bitsOf cX8_bitsOf 3 (some .int)] ({ frames := 0, cells := 0, slots := 0, locals := 0 }) (va_Pc [.int v0] (PreU D G L S)) (Qi D G L r S) 0 0 (inL L) := by
  refine Met.ofW (cc := cX8_bitsOf) (maxL := 3) (ret := (some .int)) (by decide) rfl ?_
  intro p e s m args below meth c s₁ B hml hv
  obtain ⟨rfl, hpre⟩ := hv
  obtain ⟨C, w⟩ := o_ent (own := RX8) rfl B hml hpre
  have hl := lv_entry ([.int v0]) (n := 3) (Nat.le_of_ble_eq_true rfl)
  rw [lg_entry_eq]
  generalize (lg_sl ([.int v0]) ++ List.replicate (3 - (lg_sl ([.int v0])).length) Slot.unset).toArray = ls at hl ⊢
  exact w_X8_bitsOf C (fun _ h => h) ⟨Nat.zero_le _, Nat.zero_le _⟩  S v0 r h (fun v H locs ls pc w hv hd => by subst hv; exact o_iret C w B.returns B.notSynchronized hd) _ _ _ w hl

def f_X8_most_b51 (S : PH) (v0 : Nat) (v2 : Int32) (v3 : Int32) : Option ((Int32 × Int32 × PH) ⊕ (Int32 × PH)) :=
some (.inl (v2, (v3 + 1), S))
def f_X8_most_L18 (S : PH) (v0 : Nat) (v2 : Int32) (v3 : Int32) : Option ((Int32 × Int32 × PH) ⊕ (Int32 × PH)) :=
(gR S v0 8 0).bind fun x3 =>
(ldI S x3 (5 : Int32)).bind fun x4 =>
if ((1 : Int32) <<< (x4 &&& 31)) ≤ v3 then (
some (.inr (v2, S)))
else (
(f_X8_bitsOf v3).bind fun x5 =>
(f_X8_bitsOf v2).bind fun x6 =>
if x5 ≤ x6 then (
f_X8_most_b51 S v0 v2 v3)
else (
(ckO S v0 8).bind fun _ =>
bd2 (f_X8_mayBe S v0 v3) fun x7 S8 =>
if x7 = 0 then (
f_X8_most_b51 S8 v0 v2 v3)
else (
f_X8_most_b51 S8 v0 v3 v3)))
def f_X8_most (S : PH) (v0 : Nat) (v1 : Int32) : Option (Int32 × PH) :=
(f_X8_isAsker v1).bind fun x1 =>
if x1 = 0 then (
some ((-1 : Int32), S))
else (
(ckO S v0 8).bind fun _ =>
(f_X8_reckons S v0 v1).bind fun S2 =>
bd2 (lpo (fun x : Int32 × Int32 × PH => f_X8_most_L18 x.2.2 v0 x.1 x.2.1) FU ((0 : Int32), (1 : Int32), S2)) fun y9 S10 =>
some (y9, S10))
set_option maxHeartbeats 4000000 in
set_option maxRecDepth 100000 in
theorem w_X8_most {p : Program} {l : Launch} {e : Env} {R : Room} {s : State} {m : MethodId} {args : Array Value} {below : List Frame} {meth : Method} {c : Code} {cells slots : Nat} {Q : State → Prop} {D : va_G} {G : Nat → ClassId} {L : List Nat} {A : Nat → Prop} {H0 : Heap} (C : CX p s m c args D G cX8_most 4 RX8) (hLA : ∀ q ∈ L, A q) (hcs : cells ≤ R.cells ∧ slots ≤ R.slots) (hR_X8_isAsker : RoomOk R ({ frames := 1, cells := 0, slots := 0, locals := 22 }) 1) (hR_X8_reckons : RoomOk R ({ frames := 4, cells := 0, slots := 0, locals := 90 }) 7) (hR_X8_bitsOf : RoomOk R ({ frames := 0, cells := 0, slots := 0, locals := 0 }) 3) (hR_X8_mayBe : RoomOk R ({ frames := 4, cells := 0, slots := 0, locals := 90 }) 3) (S : PH) (v0 : Nat) (v1 : Int32) (r : Int32 × PH) (h : f_X8_most S v0 v1 = some r) (hret : ∀ (v : Int32) (S9 : PH) (H : Heap) (locs : List Loc) (ls : Array Slot) (pc : Nat), Wd D G L A H0 S9 H locs → (v, S9) = r → decode cX8_most pc = .ok (.ireturn, 1) → W p l e R s m args below meth c H locs cells slots Q (F0 m pc ls [.int v])) : ∀ (H : Heap) (locs : List Loc) (ls : Array Slot), Wd D G L A H0 S H locs → lv_has ls 4 [(0, .ref v0), (1, .int v1)] → W p l e R s m args below meth c H locs cells slots Q (F0 m 0 ls []) := by
  have hx := C.1.1
  have hb := C.1.2.1
  unfold f_X8_most at h
  intro H locs ls w hl
  refine lv_iload_n hx hb dX8_most_0 rfl (lv_at hl 1 rfl) ?_
  obtain ⟨x1, hc, h⟩ := bs h
  refine o_backi w hLA (o_runS (As := [.int v1]) (rest := []) C w (c_X8_isAsker l D G L S v1 x1 hc) ml_X8_106 st_X8_isAsker hR_X8_isAsker rfl hl.1 rfl (Nat.le_of_ble_eq_true rfl) dX8_most_1 hcs) (fun H locs w => ?_)
  refine lv_if_ne (tgt := 9) hx hb dX8_most_4 (by decide) (fun cc4 => ?_) (fun cc4 => ?_)
  · have h := ie cc4 h
    refine lv_aload_n hx hb dX8_most_9 rfl (lv_at hl 0 rfl) ?_
    refine lv_iload_n hx hb dX8_most_10 rfl (lv_at hl 1 rfl) ?_
    obtain ⟨_, ho, h⟩ := bs h
    obtain ⟨S2, hc, h⟩ := bs h
    refine o_backv w hLA (o_runV (As := [.int v1]) (rest := []) C w (c_X8_reckons l D G L S v0 v1 S2 hc) ml_X8_137 mv_X8_reckons hR_X8_reckons ho rfl hl.1 rfl (Nat.le_of_ble_eq_true rfl) dX8_most_11 hcs) (fun H locs w => ?_)
    refine lv_iconst (v := 0) hx hb dX8_most_14 (by decide) ?_
    refine lv_istore_n (lv' := [(2, .int (0 : Int32)), (0, .ref v0), (1, .int v1)]) hx hb dX8_most_15 rfl hl (by decide) rfl (fun ls hl => ?_)
    refine lv_iconst (v := 1) hx hb dX8_most_16 (by decide) ?_
    refine lv_istore_n (lv' := [(3, .int (1 : Int32)), (2, .int (0 : Int32)), (0, .ref v0), (1, .int v1)]) hx hb dX8_most_17 rfl hl (by decide) rfl (fun ls hl => ?_)
    obtain ⟨y9, S10, hL18, h⟩ := bs2 h
    have hE18 : ∀ (q11 : Int32) (q12 : PH), (y9, S10) = (q11, q12) → ∀ (H : Heap) (locs : List Loc) (ls : Array Slot), Wd D G L A H0 q12 H locs → lv_has ls 4 [(2, .int q11)] → W p l e R s m args below meth c H locs cells slots Q (F0 m 57 ls []) := by
      intro q11 q12 he
      cases he
      intro H locs ls w hl
      refine lv_iload_n hx hb dX8_most_57 rfl (lv_at hl 0 rfl) ?_
      exact hret _ _ _ _ _ _ w (Option.some.inj h) dX8_most_58
    refine lpo_W (P := fun x : Int32 × Int32 × PH => ∀ (H : Heap) (locs : List Loc) (ls : Array Slot), Wd D G L A H0 x.2.2 H locs → lv_has ls 4 [(0, .ref v0), (2, .int x.1), (3, .int x.2.1)] → W p l e R s m args below meth c H locs cells slots Q (F0 m 18 ls [])) ?_ FU _ hL18 H locs ls w (lv_sub hl [2, 1, 0] rfl)
    intro x y18 h hnext18 hend18
    obtain ⟨t13, t14, S15⟩ := x
    have h : f_X8_most_L18 S15 v0 t13 t14 = some y18 := h
    unfold f_X8_most_L18 at h
    have hb51 : ∀ (S16 : PH) (u17 : Int32) (u18 : Int32), f_X8_most_b51 S16 v0 u17 u18 = some y18 → ∀ (H : Heap) (locs : List Loc) (ls : Array Slot), Wd D G L A H0 S16 H locs → lv_has ls 4 [(0, .ref v0), (2, .int u17), (3, .int u18)] → W p l e R s m args below meth c H locs cells slots Q (F0 m 51 ls []) := by
      intro S16 u17 u18 h H locs ls w hl
      unfold f_X8_most_b51 at h
      refine lv_iinc (v := (u18 + 1)) (lv' := [(3, .int (u18 + 1)), (0, .ref v0), (2, .int u17)]) hx hb dX8_most_51 hl (k := 2) rfl rfl (by decide) rfl (fun ls hl => ?_)
      refine lv_goto (tgt := 18) hx hb dX8_most_54 (by decide) ?_
      exact hnext18 _ (Option.some.inj h).symm H locs ls w (lv_sub hl [1, 2, 0] rfl)
    intro H locs ls w hl
    have hl : lv_has ls 4 [(0, .ref v0), (2, .int t13), (3, .int t14)] := hl
    have w : Wd D G L A H0 S15 H locs := w
    refine lv_iload_n hx hb dX8_most_18 rfl (lv_at hl 2 rfl) ?_
    refine lv_iconst (v := 1) hx hb dX8_most_19 (by decide) ?_
    refine lv_aload_n hx hb dX8_most_20 rfl (lv_at hl 0 rfl) ?_
    obtain ⟨x19, hx19, h⟩ := bs h
    refine o_gR C w hx19 fl_X8_8 dX8_most_21 ?_
    refine lv_iconst (v := 5) hx hb dX8_most_24 (by decide) ?_
    obtain ⟨x20, hx20, h⟩ := bs h
    refine o_ldI C w hx20 dX8_most_25 ?_
    refine lv_ishl hx hb dX8_most_26 ?_
    refine lv_icmp_ge (tgt := 57) hx hb dX8_most_27 (by decide) (fun cc27 => ?_) (fun cc27 => ?_)
    · have h := it cc27 h
      exact hE18 _ _ (hend18 _ (Option.some.inj h).symm).symm H locs ls w (lv_sub hl [1] rfl)
    · have h := ie cc27 h
      refine lv_iload_n hx hb dX8_most_30 rfl (lv_at hl 2 rfl) ?_
      obtain ⟨x21, hc, h⟩ := bs h
      refine o_backi w hLA (o_runS (As := [.int t14]) (rest := []) C w (c_X8_bitsOf l D G L S15 t14 x21 hc) ml_X8_143 st_X8_bitsOf hR_X8_bitsOf rfl hl.1 rfl (Nat.le_of_ble_eq_true rfl) dX8_most_31 hcs) (fun H locs w => ?_)
      refine lv_iload_n hx hb dX8_most_34 rfl (lv_at hl 1 rfl) ?_
      obtain ⟨x22, hc, h⟩ := bs h
      refine o_backi w hLA (o_runS (As := [.int t13]) (rest := [.int x21]) C w (c_X8_bitsOf l D G L S15 t13 x22 hc) ml_X8_143 st_X8_bitsOf hR_X8_bitsOf rfl hl.1 rfl (Nat.le_of_ble_eq_true rfl) dX8_most_35 hcs) (fun H locs w => ?_)
      refine lv_icmp_le (tgt := 51) hx hb dX8_most_38 (by decide) (fun cc38 => ?_) (fun cc38 => ?_)
      · have h := it cc38 h
        exact hb51 _ _ _ h H locs ls w (lv_sub hl [0, 1, 2] rfl)
      · have h := ie cc38 h
        refine lv_aload_n hx hb dX8_most_41 rfl (lv_at hl 0 rfl) ?_
        refine lv_iload_n hx hb dX8_most_42 rfl (lv_at hl 2 rfl) ?_
        obtain ⟨_, ho, h⟩ := bs h
        obtain ⟨x23, S24, hc, h⟩ := bs2 h
        refine o_backi w hLA (o_runV (As := [.int t14]) (rest := []) C w (c_X8_mayBe l D G L S15 v0 t14 (x23, S24) hc) ml_X8_140 mv_X8_mayBe hR_X8_mayBe ho rfl hl.1 rfl (Nat.le_of_ble_eq_true rfl) dX8_most_43 hcs) (fun H locs w => ?_)
        refine lv_if_eq (tgt := 51) hx hb dX8_most_46 (by decide) (fun cc46 => ?_) (fun cc46 => ?_)
        · have h := it cc46 h
          exact hb51 _ _ _ h H locs ls w (lv_sub hl [0, 1, 2] rfl)
        · have h := ie cc46 h
          refine lv_iload_n hx hb dX8_most_49 rfl (lv_at hl 2 rfl) ?_
          refine lv_istore_n (lv' := [(2, .int t14), (0, .ref v0), (3, .int t14)]) hx hb dX8_most_50 rfl hl (by decide) rfl (fun ls hl => ?_)
          exact hb51 _ _ _ h H locs ls w (lv_sub hl [1, 0, 2] rfl)
  · have h := it cc4 h
    refine lv_iconst (v := -1) hx hb dX8_most_7 (by decide) ?_
    exact hret _ _ _ _ _ _ w (Option.some.inj h) dX8_most_8
set_option maxHeartbeats 4000000 in
set_option maxRecDepth 100000 in
theorem c_X8_most (l : Launch) (D : va_G) (G : Nat → ClassId) (L : List Nat) (S : PH) (v0 : Nat) (v1 : Int32) (r : Int32 × PH) (h : f_X8_most S v0 v1 = some r) : Met l yX8_most [Cond.code yX8_most cX8_most 4 (some .int)] ({ frames := 5, cells := 0, slots := 0, locals := 116 }) (va_Pc [.ref v0, .int v1] (PreU D G L S)) (Qi D G L r.1 r.2) 0 0 (inL L) := by
  refine Met.ofW (cc := cX8_most) (maxL := 4) (ret := (some .int)) (by decide) rfl ?_
  intro p e s m args below meth c s₁ B hml hv
  obtain ⟨rfl, hpre⟩ := hv
  obtain ⟨C, w⟩ := o_ent (own := RX8) rfl B hml hpre
  have hl := lv_entry ([.ref v0, .int v1]) (n := 4) (Nat.le_of_ble_eq_true rfl)
  rw [lg_entry_eq]
  generalize (lg_sl ([.ref v0, .int v1]) ++ List.replicate (4 - (lg_sl ([.ref v0, .int v1])).length) Slot.unset).toArray = ls at hl ⊢
  exact w_X8_most C (fun _ h => h) ⟨Nat.zero_le _, Nat.zero_le _⟩ ⟨rfl, rfl, Nat.le_of_ble_eq_true rfl, Nat.le_of_ble_eq_true rfl⟩ ⟨rfl, rfl, Nat.le_of_ble_eq_true rfl, Nat.le_of_ble_eq_true rfl⟩ ⟨rfl, rfl, Nat.le_of_ble_eq_true rfl, Nat.le_of_ble_eq_true rfl⟩ ⟨rfl, rfl, Nat.le_of_ble_eq_true rfl, Nat.le_of_ble_eq_true rfl⟩ S v0 v1 r h (fun v S9 H locs ls pc w hv hd => by subst hv; exact o_iret C w B.returns B.notSynchronized hd) _ _ _ w hl

def f_X8_count_b28 (S : PH) (v0 : Nat) (v3 : Int32) (s0 : Int32) (s1 : Int32) : Option ((Int32 × Int32) ⊕ (Int32)) :=
some (.inl ((s0 + s1), (v3 + 1)))
def f_X8_count_L4 (S : PH) (v0 : Nat) (v2 : Int32) (v3 : Int32) : Option ((Int32 × Int32) ⊕ (Int32)) :=
if (4 : Int32) ≤ v3 then (
some (.inr v2))
else (
(gR S v0 8 0).bind fun x1 =>
(ldI S x1 ((6 : Int32) + v3)).bind fun x2 =>
if x2 = v3 then (
f_X8_count_b28 S v0 v3 v2 (1 : Int32))
else (
f_X8_count_b28 S v0 v3 v2 (0 : Int32)))
def f_X8_count (S : PH) (v0 : Nat) (v1 : Int32) : Option (Int32) :=
(lpo (fun x : Int32 × Int32 => f_X8_count_L4 S v0 x.1 x.2) FU ((0 : Int32), (0 : Int32))).bind fun y3 =>
if v1 = 0 then (
(gR S v0 8 0).bind fun x4 =>
(ldI S x4 (0 : Int32)).bind fun x5 =>
some x5)
else if v1 = 1 then (
(gR S v0 8 0).bind fun x6 =>
(ldI S x6 (1 : Int32)).bind fun x7 =>
some x7)
else if v1 = 2 then (
(gR S v0 8 0).bind fun x8 =>
(ldI S x8 (2 : Int32)).bind fun x9 =>
some x9)
else if v1 = 3 then (
(gR S v0 8 0).bind fun x10 =>
(ldI S x10 (3 : Int32)).bind fun x11 =>
some x11)
else if v1 = 4 then (
(gR S v0 8 0).bind fun x12 =>
(ldI S x12 (4 : Int32)).bind fun x13 =>
some x13)
else if v1 = 5 then (
(gR S v0 8 0).bind fun x14 =>
(ldI S x14 (5 : Int32)).bind fun x15 =>
some x15)
else if v1 = 6 then (
some y3)
else (
some (-1 : Int32))
set_option maxHeartbeats 4000000 in
set_option maxRecDepth 100000 in
theorem w_X8_count {p : Program} {l : Launch} {e : Env} {R : Room} {s : State} {m : MethodId} {args : Array Value} {below : List Frame} {meth : Method} {c : Code} {cells slots : Nat} {Q : State → Prop} {D : va_G} {G : Nat → ClassId} {L : List Nat} {A : Nat → Prop} {H0 : Heap} (C : CX p s m c args D G cX8_count 4 RX8) (hLA : ∀ q ∈ L, A q) (hcs : cells ≤ R.cells ∧ slots ≤ R.slots)  (S : PH) (v0 : Nat) (v1 : Int32) (r : Int32) (h : f_X8_count S v0 v1 = some r) (hret : ∀ (v : Int32) (H : Heap) (locs : List Loc) (ls : Array Slot) (pc : Nat), Wd D G L A H0 S H locs → v = r → decode cX8_count pc = .ok (.ireturn, 1) → W p l e R s m args below meth c H locs cells slots Q (F0 m pc ls [.int v])) : ∀ (H : Heap) (locs : List Loc) (ls : Array Slot), Wd D G L A H0 S H locs → lv_has ls 4 [(0, .ref v0), (1, .int v1)] → W p l e R s m args below meth c H locs cells slots Q (F0 m 0 ls []) := by
  have hx := C.1.1
  have hb := C.1.2.1
  unfold f_X8_count at h
  intro H locs ls w hl
  refine lv_iconst (v := 0) hx hb dX8_count_0 (by decide) ?_
  refine lv_istore_n (lv' := [(2, .int (0 : Int32)), (0, .ref v0), (1, .int v1)]) hx hb dX8_count_1 rfl hl (by decide) rfl (fun ls hl => ?_)
  refine lv_iconst (v := 0) hx hb dX8_count_2 (by decide) ?_
  refine lv_istore_n (lv' := [(3, .int (0 : Int32)), (2, .int (0 : Int32)), (0, .ref v0), (1, .int v1)]) hx hb dX8_count_3 rfl hl (by decide) rfl (fun ls hl => ?_)
  obtain ⟨y3, hL4, h⟩ := bs h
  have hE4 : ∀ (q16 : Int32), y3 = q16 → ∀ (H : Heap) (locs : List Loc) (ls : Array Slot), Wd D G L A H0 S H locs → lv_has ls 4 [(0, .ref v0), (1, .int v1), (2, .int q16)] → W p l e R s m args below meth c H locs cells slots Q (F0 m 36 ls []) := by
    intro q16 he
    cases he
    intro H locs ls w hl
    refine lv_iload_n hx hb dX8_count_36 rfl (lv_at hl 1 rfl) ?_
    by_cases cw37_0 : v1 = 0
    · have h := it cw37_0 h
      refine o_sw0 C 0 cw37_0 dX8_count_37 (by decide) (by decide) rfl (tgt := 80) (by decide) ?_
      refine lv_aload_n hx hb dX8_count_80 rfl (lv_at hl 0 rfl) ?_
      obtain ⟨x4, hx4, h⟩ := bs h
      refine o_gR C w hx4 fl_X8_8 dX8_count_81 ?_
      refine lv_iconst (v := 0) hx hb dX8_count_84 (by decide) ?_
      obtain ⟨x5, hx5, h⟩ := bs h
      refine o_ldI C w hx5 dX8_count_85 ?_
      exact hret _ _ _ _ _ w (Option.some.inj h) dX8_count_86
    have h := ie cw37_0 h
    by_cases cw37_1 : v1 = 1
    · have h := it cw37_1 h
      refine o_sw0 C 1 cw37_1 dX8_count_37 (by decide) (by decide) rfl (tgt := 87) (by decide) ?_
      refine lv_aload_n hx hb dX8_count_87 rfl (lv_at hl 0 rfl) ?_
      obtain ⟨x6, hx6, h⟩ := bs h
      refine o_gR C w hx6 fl_X8_8 dX8_count_88 ?_
      refine lv_iconst (v := 1) hx hb dX8_count_91 (by decide) ?_
      obtain ⟨x7, hx7, h⟩ := bs h
      refine o_ldI C w hx7 dX8_count_92 ?_
      exact hret _ _ _ _ _ w (Option.some.inj h) dX8_count_93
    have h := ie cw37_1 h
    by_cases cw37_2 : v1 = 2
    · have h := it cw37_2 h
      refine o_sw0 C 2 cw37_2 dX8_count_37 (by decide) (by decide) rfl (tgt := 94) (by decide) ?_
      refine lv_aload_n hx hb dX8_count_94 rfl (lv_at hl 0 rfl) ?_
      obtain ⟨x8, hx8, h⟩ := bs h
      refine o_gR C w hx8 fl_X8_8 dX8_count_95 ?_
      refine lv_iconst (v := 2) hx hb dX8_count_98 (by decide) ?_
      obtain ⟨x9, hx9, h⟩ := bs h
      refine o_ldI C w hx9 dX8_count_99 ?_
      exact hret _ _ _ _ _ w (Option.some.inj h) dX8_count_100
    have h := ie cw37_2 h
    by_cases cw37_3 : v1 = 3
    · have h := it cw37_3 h
      refine o_sw0 C 3 cw37_3 dX8_count_37 (by decide) (by decide) rfl (tgt := 101) (by decide) ?_
      refine lv_aload_n hx hb dX8_count_101 rfl (lv_at hl 0 rfl) ?_
      obtain ⟨x10, hx10, h⟩ := bs h
      refine o_gR C w hx10 fl_X8_8 dX8_count_102 ?_
      refine lv_iconst (v := 3) hx hb dX8_count_105 (by decide) ?_
      obtain ⟨x11, hx11, h⟩ := bs h
      refine o_ldI C w hx11 dX8_count_106 ?_
      exact hret _ _ _ _ _ w (Option.some.inj h) dX8_count_107
    have h := ie cw37_3 h
    by_cases cw37_4 : v1 = 4
    · have h := it cw37_4 h
      refine o_sw0 C 4 cw37_4 dX8_count_37 (by decide) (by decide) rfl (tgt := 108) (by decide) ?_
      refine lv_aload_n hx hb dX8_count_108 rfl (lv_at hl 0 rfl) ?_
      obtain ⟨x12, hx12, h⟩ := bs h
      refine o_gR C w hx12 fl_X8_8 dX8_count_109 ?_
      refine lv_iconst (v := 4) hx hb dX8_count_112 (by decide) ?_
      obtain ⟨x13, hx13, h⟩ := bs h
      refine o_ldI C w hx13 dX8_count_113 ?_
      exact hret _ _ _ _ _ w (Option.some.inj h) dX8_count_114
    have h := ie cw37_4 h
    by_cases cw37_5 : v1 = 5
    · have h := it cw37_5 h
      refine o_sw0 C 5 cw37_5 dX8_count_37 (by decide) (by decide) rfl (tgt := 115) (by decide) ?_
      refine lv_aload_n hx hb dX8_count_115 rfl (lv_at hl 0 rfl) ?_
      obtain ⟨x14, hx14, h⟩ := bs h
      refine o_gR C w hx14 fl_X8_8 dX8_count_116 ?_
      refine lv_iconst (v := 5) hx hb dX8_count_119 (by decide) ?_
      obtain ⟨x15, hx15, h⟩ := bs h
      refine o_ldI C w hx15 dX8_count_120 ?_
      exact hret _ _ _ _ _ w (Option.some.inj h) dX8_count_121
    have h := ie cw37_5 h
    by_cases cw37_6 : v1 = 6
    · have h := it cw37_6 h
      refine o_sw0 C 6 cw37_6 dX8_count_37 (by decide) (by decide) rfl (tgt := 122) (by decide) ?_
      refine lv_iload_n hx hb dX8_count_122 rfl (lv_at hl 2 rfl) ?_
      exact hret _ _ _ _ _ w (Option.some.inj h) dX8_count_123
    have h := ie cw37_6 h
    have cx0 := lv_neT (k := 0) (a := 0) cw37_0 (by decide)
    have cx1 := lv_neT (k := 1) (a := 1) cw37_1 (by decide)
    have cx2 := lv_neT (k := 2) (a := 2) cw37_2 (by decide)
    have cx3 := lv_neT (k := 3) (a := 3) cw37_3 (by decide)
    have cx4 := lv_neT (k := 4) (a := 4) cw37_4 (by decide)
    have cx5 := lv_neT (k := 5) (a := 5) cw37_5 (by decide)
    have cx6 := lv_neT (k := 6) (a := 6) cw37_6 (by decide)
    refine lv_tableOut (tgt := 124) hx hb dX8_count_37 (by omega) (by decide) ?_
    refine lv_iconst (v := -1) hx hb dX8_count_124 (by decide) ?_
    exact hret _ _ _ _ _ w (Option.some.inj h) dX8_count_125
  refine lpo_W (P := fun x : Int32 × Int32 => ∀ (H : Heap) (locs : List Loc) (ls : Array Slot), Wd D G L A H0 S H locs → lv_has ls 4 [(0, .ref v0), (1, .int v1), (2, .int x.1), (3, .int x.2)] → W p l e R s m args below meth c H locs cells slots Q (F0 m 4 ls [])) ?_ FU _ hL4 H locs ls w (lv_sub hl [2, 3, 1, 0] rfl)
  intro x y4 h hnext4 hend4
  obtain ⟨t17, t18⟩ := x
  have h : f_X8_count_L4 S v0 t17 t18 = some y4 := h
  unfold f_X8_count_L4 at h
  have hb28 : ∀ (u19 : Int32) (u20 : Int32) (u21 : Int32), f_X8_count_b28 S v0 u19 u20 u21 = some y4 → ∀ (H : Heap) (locs : List Loc) (ls : Array Slot), Wd D G L A H0 S H locs → lv_has ls 4 [(0, .ref v0), (1, .int v1), (3, .int u19)] → W p l e R s m args below meth c H locs cells slots Q (F0 m 28 ls [.int u21, .int u20]) := by
    intro u19 u20 u21 h H locs ls w hl
    unfold f_X8_count_b28 at h
    refine lv_iadd hx hb dX8_count_28 ?_
    refine lv_istore_n (lv' := [(2, .int (u20 + u21)), (0, .ref v0), (1, .int v1), (3, .int u19)]) hx hb dX8_count_29 rfl hl (by decide) rfl (fun ls hl => ?_)
    refine lv_iinc (v := (u19 + 1)) (lv' := [(3, .int (u19 + 1)), (2, .int (u20 + u21)), (0, .ref v0), (1, .int v1)]) hx hb dX8_count_30 hl (k := 3) rfl rfl (by decide) rfl (fun ls hl => ?_)
    refine lv_goto (tgt := 4) hx hb dX8_count_33 (by decide) ?_
    exact hnext4 _ (Option.some.inj h).symm H locs ls w (lv_sub hl [2, 3, 1, 0] rfl)
  intro H locs ls w hl
  have hl : lv_has ls 4 [(0, .ref v0), (1, .int v1), (2, .int t17), (3, .int t18)] := hl
  refine lv_iload_n hx hb dX8_count_4 rfl (lv_at hl 3 rfl) ?_
  refine lv_iconst (v := 4) hx hb dX8_count_5 (by decide) ?_
  refine lv_icmp_ge (tgt := 36) hx hb dX8_count_6 (by decide) (fun cc6 => ?_) (fun cc6 => ?_)
  · have h := it cc6 h
    exact hE4 _ (hend4 _ (Option.some.inj h).symm).symm H locs ls w (lv_sub hl [0, 1, 2] rfl)
  · have h := ie cc6 h
    refine lv_iload_n hx hb dX8_count_9 rfl (lv_at hl 2 rfl) ?_
    refine lv_aload_n hx hb dX8_count_10 rfl (lv_at hl 0 rfl) ?_
    obtain ⟨x22, hx22, h⟩ := bs h
    refine o_gR C w hx22 fl_X8_8 dX8_count_11 ?_
    refine lv_bipush (v := 6) hx hb dX8_count_14 (by decide) ?_
    refine lv_iload_n hx hb dX8_count_16 rfl (lv_at hl 3 rfl) ?_
    refine lv_iadd hx hb dX8_count_17 ?_
    obtain ⟨x23, hx23, h⟩ := bs h
    refine o_ldI C w hx23 dX8_count_18 ?_
    refine lv_iload_n hx hb dX8_count_19 rfl (lv_at hl 3 rfl) ?_
    refine lv_icmp_ne (tgt := 27) hx hb dX8_count_20 (by decide) (fun cc20 => ?_) (fun cc20 => ?_)
    · have h := ie cc20 h
      refine lv_iconst (v := 0) hx hb dX8_count_27 (by decide) ?_
      exact hb28 _ _ _ h H locs ls w (lv_sub hl [0, 1, 3] rfl)
    · have h := it cc20 h
      refine lv_iconst (v := 1) hx hb dX8_count_23 (by decide) ?_
      refine lv_goto (tgt := 28) hx hb dX8_count_24 (by decide) ?_
      exact hb28 _ _ _ h H locs ls w (lv_sub hl [0, 1, 3] rfl)
set_option maxHeartbeats 4000000 in
set_option maxRecDepth 100000 in
theorem c_X8_count (l : Launch) (D : va_G) (G : Nat → ClassId) (L : List Nat) (S : PH) (v0 : Nat) (v1 : Int32) (r : Int32) (h : f_X8_count S v0 v1 = some r) : Met l yX8_count [Cond.code yX8_count cX8_count 4 (some .int)] ({ frames := 0, cells := 0, slots := 0, locals := 0 }) (va_Pc [.ref v0, .int v1] (PreU D G L S)) (Qi D G L r S) 0 0 (inL L) := by
  refine Met.ofW (cc := cX8_count) (maxL := 4) (ret := (some .int)) (by decide) rfl ?_
  intro p e s m args below meth c s₁ B hml hv
  obtain ⟨rfl, hpre⟩ := hv
  obtain ⟨C, w⟩ := o_ent (own := RX8) rfl B hml hpre
  have hl := lv_entry ([.ref v0, .int v1]) (n := 4) (Nat.le_of_ble_eq_true rfl)
  rw [lg_entry_eq]
  generalize (lg_sl ([.ref v0, .int v1]) ++ List.replicate (4 - (lg_sl ([.ref v0, .int v1])).length) Slot.unset).toArray = ls at hl ⊢
  exact w_X8_count C (fun _ h => h) ⟨Nat.zero_le _, Nat.zero_le _⟩  S v0 v1 r h (fun v H locs ls pc w hv hd => by subst hv; exact o_iret C w B.returns B.notSynchronized hd) _ _ _ w hl

def f_X8_image_L20 (S : PH) (v0 : Nat) (v1 : Int32) (v2 : Int32) : Option ((Int32 × PH) ⊕ (PH)) :=
if (17514 : Int32) ≤ v2 then (
some (.inr S))
else (
(gR S v0 8 0).bind fun x4 =>
(gR S v0 8 0).bind fun x5 =>
(ldI S x5 v2).bind fun x6 =>
(stI S x4 (((17514 : Int32) * (v1 + (1 : Int32))) + v2) x6).bind fun S7 =>
some (.inl ((v2 + 1), S7)))
def f_X8_image (S : PH) (v0 : Nat) (v1 : Int32) : Option (Int32 × PH) :=
(f_X8_isIn v1 (0 : Int32) (2 : Int32)).bind fun x1 =>
if x1 = 0 then (
some ((0 : Int32), S))
else (
(gR S v0 8 1).bind fun x2 =>
(stZ S x2 v1 (1 : Int32)).bind fun S3 =>
(lpo (fun x : Int32 × PH => f_X8_image_L20 x.2 v0 v1 x.1) FU ((0 : Int32), S3)).bind fun S8 =>
some ((1 : Int32), S8))
set_option maxHeartbeats 4000000 in
set_option maxRecDepth 100000 in
theorem w_X8_image {p : Program} {l : Launch} {e : Env} {R : Room} {s : State} {m : MethodId} {args : Array Value} {below : List Frame} {meth : Method} {c : Code} {cells slots : Nat} {Q : State → Prop} {D : va_G} {G : Nat → ClassId} {L : List Nat} {A : Nat → Prop} {H0 : Heap} (C : CX p s m c args D G cX8_image 3 RX8) (hLA : ∀ q ∈ L, A q) (hcs : cells ≤ R.cells ∧ slots ≤ R.slots) (hR_X8_isIn : RoomOk R ({ frames := 0, cells := 0, slots := 0, locals := 0 }) 3) (S : PH) (v0 : Nat) (v1 : Int32) (r : Int32 × PH) (h : f_X8_image S v0 v1 = some r) (hret : ∀ (v : Int32) (S9 : PH) (H : Heap) (locs : List Loc) (ls : Array Slot) (pc : Nat), Wd D G L A H0 S9 H locs → narrow .boolean (.int v) = .int v → (v, S9) = r → decode cX8_image pc = .ok (.ireturn, 1) → W p l e R s m args below meth c H locs cells slots Q (F0 m pc ls [.int v])) : ∀ (H : Heap) (locs : List Loc) (ls : Array Slot), Wd D G L A H0 S H locs → lv_has ls 3 [(0, .ref v0), (1, .int v1)] → W p l e R s m args below meth c H locs cells slots Q (F0 m 0 ls []) := by
  have hx := C.1.1
  have hb := C.1.2.1
  unfold f_X8_image at h
  intro H locs ls w hl
  refine lv_iload_n hx hb dX8_image_0 rfl (lv_at hl 1 rfl) ?_
  refine lv_iconst (v := 0) hx hb dX8_image_1 (by decide) ?_
  refine lv_iconst (v := 2) hx hb dX8_image_2 (by decide) ?_
  obtain ⟨x1, hc, h⟩ := bs h
  refine o_backi w hLA (o_runS (As := [.int v1, .int (0 : Int32), .int (2 : Int32)]) (rest := []) C w (c_X8_isIn l D G L S v1 (0 : Int32) (2 : Int32) x1 hc) ml_X8_40 st_X8_isIn hR_X8_isIn rfl hl.1 rfl (Nat.le_of_ble_eq_true rfl) dX8_image_3 hcs) (fun H locs w => ?_)
  refine lv_if_ne (tgt := 11) hx hb dX8_image_6 (by decide) (fun cc6 => ?_) (fun cc6 => ?_)
  · have h := ie cc6 h
    refine lv_aload_n hx hb dX8_image_11 rfl (lv_at hl 0 rfl) ?_
    obtain ⟨x2, hx2, h⟩ := bs h
    refine o_gR C w hx2 fl_X8_14 dX8_image_12 ?_
    refine lv_iload_n hx hb dX8_image_15 rfl (lv_at hl 1 rfl) ?_
    refine lv_iconst (v := 1) hx hb dX8_image_16 (by decide) ?_
    obtain ⟨S3, hS3, h⟩ := bs h
    refine o_stZ C w hS3 dX8_image_17 (fun H locs w => ?_)
    refine lv_iconst (v := 0) hx hb dX8_image_18 (by decide) ?_
    refine lv_istore_n (lv' := [(2, .int (0 : Int32)), (0, .ref v0), (1, .int v1)]) hx hb dX8_image_19 rfl hl (by decide) rfl (fun ls hl => ?_)
    obtain ⟨S8, hL20, h⟩ := bs h
    have hE20 : ∀ (q9 : PH), S8 = q9 → ∀ (H : Heap) (locs : List Loc) (ls : Array Slot), Wd D G L A H0 q9 H locs → lv_has ls 3 [] → W p l e R s m args below meth c H locs cells slots Q (F0 m 53 ls []) := by
      intro q9 he
      cases he
      intro H locs ls w hl
      refine lv_iconst (v := 1) hx hb dX8_image_53 (by decide) ?_
      exact hret _ _ _ _ _ _ w rfl (Option.some.inj h) dX8_image_54
    refine lpo_W (P := fun x : Int32 × PH => ∀ (H : Heap) (locs : List Loc) (ls : Array Slot), Wd D G L A H0 x.2 H locs → lv_has ls 3 [(0, .ref v0), (1, .int v1), (2, .int x.1)] → W p l e R s m args below meth c H locs cells slots Q (F0 m 20 ls [])) ?_ FU _ hL20 H locs ls w (lv_sub hl [1, 2, 0] rfl)
    intro x y20 h hnext20 hend20
    obtain ⟨t10, S11⟩ := x
    have h : f_X8_image_L20 S11 v0 v1 t10 = some y20 := h
    unfold f_X8_image_L20 at h
    intro H locs ls w hl
    have hl : lv_has ls 3 [(0, .ref v0), (1, .int v1), (2, .int t10)] := hl
    have w : Wd D G L A H0 S11 H locs := w
    refine lv_iload_n hx hb dX8_image_20 rfl (lv_at hl 2 rfl) ?_
    refine lv_sipush (v := 17514) hx hb dX8_image_21 (by decide) ?_
    refine lv_icmp_ge (tgt := 53) hx hb dX8_image_24 (by decide) (fun cc24 => ?_) (fun cc24 => ?_)
    · have h := it cc24 h
      exact hE20 _ (hend20 _ (Option.some.inj h).symm).symm H locs ls w (lv_sub hl [] rfl)
    · have h := ie cc24 h
      refine lv_aload_n hx hb dX8_image_27 rfl (lv_at hl 0 rfl) ?_
      obtain ⟨x12, hx12, h⟩ := bs h
      refine o_gR C w hx12 fl_X8_8 dX8_image_28 ?_
      refine lv_sipush (v := 17514) hx hb dX8_image_31 (by decide) ?_
      refine lv_iload_n hx hb dX8_image_34 rfl (lv_at hl 1 rfl) ?_
      refine lv_iconst (v := 1) hx hb dX8_image_35 (by decide) ?_
      refine lv_iadd hx hb dX8_image_36 ?_
      refine lv_imul hx hb dX8_image_37 ?_
      refine lv_iload_n hx hb dX8_image_38 rfl (lv_at hl 2 rfl) ?_
      refine lv_iadd hx hb dX8_image_39 ?_
      refine lv_aload_n hx hb dX8_image_40 rfl (lv_at hl 0 rfl) ?_
      obtain ⟨x13, hx13, h⟩ := bs h
      refine o_gR C w hx13 fl_X8_8 dX8_image_41 ?_
      refine lv_iload_n hx hb dX8_image_44 rfl (lv_at hl 2 rfl) ?_
      obtain ⟨x14, hx14, h⟩ := bs h
      refine o_ldI C w hx14 dX8_image_45 ?_
      obtain ⟨S15, hS15, h⟩ := bs h
      refine o_stI C w hS15 dX8_image_46 (fun H locs w => ?_)
      refine lv_iinc (v := (t10 + 1)) (lv' := [(2, .int (t10 + 1)), (0, .ref v0), (1, .int v1)]) hx hb dX8_image_47 hl (k := 2) rfl rfl (by decide) rfl (fun ls hl => ?_)
      refine lv_goto (tgt := 20) hx hb dX8_image_50 (by decide) ?_
      exact hnext20 _ (Option.some.inj h).symm H locs ls w (lv_sub hl [1, 2, 0] rfl)
  · have h := it cc6 h
    refine lv_iconst (v := 0) hx hb dX8_image_9 (by decide) ?_
    exact hret _ _ _ _ _ _ w rfl (Option.some.inj h) dX8_image_10
set_option maxHeartbeats 4000000 in
set_option maxRecDepth 100000 in
theorem c_X8_image (l : Launch) (D : va_G) (G : Nat → ClassId) (L : List Nat) (S : PH) (v0 : Nat) (v1 : Int32) (r : Int32 × PH) (h : f_X8_image S v0 v1 = some r) : Met l yX8_image [Cond.code yX8_image cX8_image 3 (some .boolean)] ({ frames := 1, cells := 0, slots := 0, locals := 22 }) (va_Pc [.ref v0, .int v1] (PreU D G L S)) (Qi D G L r.1 r.2) 0 0 (inL L) := by
  refine Met.ofW (cc := cX8_image) (maxL := 3) (ret := (some .boolean)) (by decide) rfl ?_
  intro p e s m args below meth c s₁ B hml hv
  obtain ⟨rfl, hpre⟩ := hv
  obtain ⟨C, w⟩ := o_ent (own := RX8) rfl B hml hpre
  have hl := lv_entry ([.ref v0, .int v1]) (n := 3) (Nat.le_of_ble_eq_true rfl)
  rw [lg_entry_eq]
  generalize (lg_sl ([.ref v0, .int v1]) ++ List.replicate (3 - (lg_sl ([.ref v0, .int v1])).length) Slot.unset).toArray = ls at hl ⊢
  exact w_X8_image C (fun _ h => h) ⟨Nat.zero_le _, Nat.zero_le _⟩ ⟨rfl, rfl, Nat.le_of_ble_eq_true rfl, Nat.le_of_ble_eq_true rfl⟩ S v0 v1 r h (fun v S9 H locs ls pc w hz hv hd => by subst hv; exact o_zret C w B.returns B.notSynchronized hz hd) _ _ _ w hl

def f_X8_again_L22 (S : PH) (v0 : Nat) (v1 : Int32) (v2 : Int32) : Option ((Int32 × PH) ⊕ (PH)) :=
if (17514 : Int32) ≤ v2 then (
some (.inr S))
else (
(gR S v0 8 0).bind fun x4 =>
(gR S v0 8 0).bind fun x5 =>
(ldI S x5 (((17514 : Int32) * (v1 + (1 : Int32))) + v2)).bind fun x6 =>
(stI S x4 v2 x6).bind fun S7 =>
some (.inl ((v2 + 1), S7)))
def f_X8_again (S : PH) (v0 : Nat) (v1 : Int32) : Option (Int32 × PH) :=
(f_X8_isIn v1 (0 : Int32) (2 : Int32)).bind fun x1 =>
if x1 = 0 then (
some ((0 : Int32), S))
else (
(gR S v0 8 1).bind fun x2 =>
(ldZ S x2 v1).bind fun x3 =>
if x3 = 0 then (
some ((0 : Int32), S))
else (
(lpo (fun x : Int32 × PH => f_X8_again_L22 x.2 v0 v1 x.1) FU ((0 : Int32), S)).bind fun S8 =>
some ((1 : Int32), S8)))
set_option maxHeartbeats 4000000 in
set_option maxRecDepth 100000 in
theorem w_X8_again {p : Program} {l : Launch} {e : Env} {R : Room} {s : State} {m : MethodId} {args : Array Value} {below : List Frame} {meth : Method} {c : Code} {cells slots : Nat} {Q : State → Prop} {D : va_G} {G : Nat → ClassId} {L : List Nat} {A : Nat → Prop} {H0 : Heap} (C : CX p s m c args D G cX8_again 3 RX8) (hLA : ∀ q ∈ L, A q) (hcs : cells ≤ R.cells ∧ slots ≤ R.slots) (hR_X8_isIn : RoomOk R ({ frames := 0, cells := 0, slots := 0, locals := 0 }) 3) (S : PH) (v0 : Nat) (v1 : Int32) (r : Int32 × PH) (h : f_X8_again S v0 v1 = some r) (hret : ∀ (v : Int32) (S9 : PH) (H : Heap) (locs : List Loc) (ls : Array Slot) (pc : Nat), Wd D G L A H0 S9 H locs → narrow .boolean (.int v) = .int v → (v, S9) = r → decode cX8_again pc = .ok (.ireturn, 1) → W p l e R s m args below meth c H locs cells slots Q (F0 m pc ls [.int v])) : ∀ (H : Heap) (locs : List Loc) (ls : Array Slot), Wd D G L A H0 S H locs → lv_has ls 3 [(0, .ref v0), (1, .int v1)] → W p l e R s m args below meth c H locs cells slots Q (F0 m 0 ls []) := by
  have hx := C.1.1
  have hb := C.1.2.1
  unfold f_X8_again at h
  intro H locs ls w hl
  refine lv_iload_n hx hb dX8_again_0 rfl (lv_at hl 1 rfl) ?_
  refine lv_iconst (v := 0) hx hb dX8_again_1 (by decide) ?_
  refine lv_iconst (v := 2) hx hb dX8_again_2 (by decide) ?_
  obtain ⟨x1, hc, h⟩ := bs h
  refine o_backi w hLA (o_runS (As := [.int v1, .int (0 : Int32), .int (2 : Int32)]) (rest := []) C w (c_X8_isIn l D G L S v1 (0 : Int32) (2 : Int32) x1 hc) ml_X8_40 st_X8_isIn hR_X8_isIn rfl hl.1 rfl (Nat.le_of_ble_eq_true rfl) dX8_again_3 hcs) (fun H locs w => ?_)
  refine lv_if_eq (tgt := 18) hx hb dX8_again_6 (by decide) (fun cc6 => ?_) (fun cc6 => ?_)
  · have h := it cc6 h
    refine lv_iconst (v := 0) hx hb dX8_again_18 (by decide) ?_
    exact hret _ _ _ _ _ _ w rfl (Option.some.inj h) dX8_again_19
  · have h := ie cc6 h
    refine lv_aload_n hx hb dX8_again_9 rfl (lv_at hl 0 rfl) ?_
    obtain ⟨x2, hx2, h⟩ := bs h
    refine o_gR C w hx2 fl_X8_14 dX8_again_10 ?_
    refine lv_iload_n hx hb dX8_again_13 rfl (lv_at hl 1 rfl) ?_
    obtain ⟨x3, hx3, h⟩ := bs h
    refine o_ldZ C w hx3 dX8_again_14 ?_
    refine lv_if_ne (tgt := 20) hx hb dX8_again_15 (by decide) (fun cc15 => ?_) (fun cc15 => ?_)
    · have h := ie cc15 h
      refine lv_iconst (v := 0) hx hb dX8_again_20 (by decide) ?_
      refine lv_istore_n (lv' := [(2, .int (0 : Int32)), (0, .ref v0), (1, .int v1)]) hx hb dX8_again_21 rfl hl (by decide) rfl (fun ls hl => ?_)
      obtain ⟨S8, hL22, h⟩ := bs h
      have hE22 : ∀ (q9 : PH), S8 = q9 → ∀ (H : Heap) (locs : List Loc) (ls : Array Slot), Wd D G L A H0 q9 H locs → lv_has ls 3 [] → W p l e R s m args below meth c H locs cells slots Q (F0 m 55 ls []) := by
        intro q9 he
        cases he
        intro H locs ls w hl
        refine lv_iconst (v := 1) hx hb dX8_again_55 (by decide) ?_
        exact hret _ _ _ _ _ _ w rfl (Option.some.inj h) dX8_again_56
      refine lpo_W (P := fun x : Int32 × PH => ∀ (H : Heap) (locs : List Loc) (ls : Array Slot), Wd D G L A H0 x.2 H locs → lv_has ls 3 [(0, .ref v0), (1, .int v1), (2, .int x.1)] → W p l e R s m args below meth c H locs cells slots Q (F0 m 22 ls [])) ?_ FU _ hL22 H locs ls w (lv_sub hl [1, 2, 0] rfl)
      intro x y22 h hnext22 hend22
      obtain ⟨t10, S11⟩ := x
      have h : f_X8_again_L22 S11 v0 v1 t10 = some y22 := h
      unfold f_X8_again_L22 at h
      intro H locs ls w hl
      have hl : lv_has ls 3 [(0, .ref v0), (1, .int v1), (2, .int t10)] := hl
      have w : Wd D G L A H0 S11 H locs := w
      refine lv_iload_n hx hb dX8_again_22 rfl (lv_at hl 2 rfl) ?_
      refine lv_sipush (v := 17514) hx hb dX8_again_23 (by decide) ?_
      refine lv_icmp_ge (tgt := 55) hx hb dX8_again_26 (by decide) (fun cc26 => ?_) (fun cc26 => ?_)
      · have h := it cc26 h
        exact hE22 _ (hend22 _ (Option.some.inj h).symm).symm H locs ls w (lv_sub hl [] rfl)
      · have h := ie cc26 h
        refine lv_aload_n hx hb dX8_again_29 rfl (lv_at hl 0 rfl) ?_
        obtain ⟨x12, hx12, h⟩ := bs h
        refine o_gR C w hx12 fl_X8_8 dX8_again_30 ?_
        refine lv_iload_n hx hb dX8_again_33 rfl (lv_at hl 2 rfl) ?_
        refine lv_aload_n hx hb dX8_again_34 rfl (lv_at hl 0 rfl) ?_
        obtain ⟨x13, hx13, h⟩ := bs h
        refine o_gR C w hx13 fl_X8_8 dX8_again_35 ?_
        refine lv_sipush (v := 17514) hx hb dX8_again_38 (by decide) ?_
        refine lv_iload_n hx hb dX8_again_41 rfl (lv_at hl 1 rfl) ?_
        refine lv_iconst (v := 1) hx hb dX8_again_42 (by decide) ?_
        refine lv_iadd hx hb dX8_again_43 ?_
        refine lv_imul hx hb dX8_again_44 ?_
        refine lv_iload_n hx hb dX8_again_45 rfl (lv_at hl 2 rfl) ?_
        refine lv_iadd hx hb dX8_again_46 ?_
        obtain ⟨x14, hx14, h⟩ := bs h
        refine o_ldI C w hx14 dX8_again_47 ?_
        obtain ⟨S15, hS15, h⟩ := bs h
        refine o_stI C w hS15 dX8_again_48 (fun H locs w => ?_)
        refine lv_iinc (v := (t10 + 1)) (lv' := [(2, .int (t10 + 1)), (0, .ref v0), (1, .int v1)]) hx hb dX8_again_49 hl (k := 2) rfl rfl (by decide) rfl (fun ls hl => ?_)
        refine lv_goto (tgt := 22) hx hb dX8_again_52 (by decide) ?_
        exact hnext22 _ (Option.some.inj h).symm H locs ls w (lv_sub hl [1, 2, 0] rfl)
    · have h := it cc15 h
      refine lv_iconst (v := 0) hx hb dX8_again_18 (by decide) ?_
      exact hret _ _ _ _ _ _ w rfl (Option.some.inj h) dX8_again_19
set_option maxHeartbeats 4000000 in
set_option maxRecDepth 100000 in
theorem c_X8_again (l : Launch) (D : va_G) (G : Nat → ClassId) (L : List Nat) (S : PH) (v0 : Nat) (v1 : Int32) (r : Int32 × PH) (h : f_X8_again S v0 v1 = some r) : Met l yX8_again [Cond.code yX8_again cX8_again 3 (some .boolean)] ({ frames := 1, cells := 0, slots := 0, locals := 22 }) (va_Pc [.ref v0, .int v1] (PreU D G L S)) (Qi D G L r.1 r.2) 0 0 (inL L) := by
  refine Met.ofW (cc := cX8_again) (maxL := 3) (ret := (some .boolean)) (by decide) rfl ?_
  intro p e s m args below meth c s₁ B hml hv
  obtain ⟨rfl, hpre⟩ := hv
  obtain ⟨C, w⟩ := o_ent (own := RX8) rfl B hml hpre
  have hl := lv_entry ([.ref v0, .int v1]) (n := 3) (Nat.le_of_ble_eq_true rfl)
  rw [lg_entry_eq]
  generalize (lg_sl ([.ref v0, .int v1]) ++ List.replicate (3 - (lg_sl ([.ref v0, .int v1])).length) Slot.unset).toArray = ls at hl ⊢
  exact w_X8_again C (fun _ h => h) ⟨Nat.zero_le _, Nat.zero_le _⟩ ⟨rfl, rfl, Nat.le_of_ble_eq_true rfl, Nat.le_of_ble_eq_true rfl⟩ S v0 v1 r h (fun v S9 H locs ls pc w hz hv hd => by subst hv; exact o_zret C w B.returns B.notSynchronized hz hd) _ _ _ w hl
