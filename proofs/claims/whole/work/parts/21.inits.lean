theorem kca_int : Cond.arrayClass .int ∈ tb := tb_in 147 (by decide +kernel) rfl
theorem kca_long : Cond.arrayClass .long ∈ tb := tb_in 163 (by decide +kernel) rfl
theorem kca_boolean : Cond.arrayClass .boolean ∈ tb := tb_in 244 (by decide +kernel) rfl
theorem koi_i : Cond.instanceMethod objectInit ∈ tb := tb_in 82 (by decide +kernel) rfl
theorem koi_c : Cond.code objectInit ⟨#[0xb1]⟩ 1 none ∈ tb := tb_in 83 (by decide +kernel) rfl
theorem koi_X7_3 : Cond.methodLink RX7 3 objectInit ∈ tb := tb_in 81 (by decide +kernel) rfl
theorem koi_X0_3 : Cond.methodLink RX0 3 objectInit ∈ tb := tb_in 169 (by decide +kernel) rfl
theorem koi_X1_3 : Cond.methodLink RX1 3 objectInit ∈ tb := tb_in 153 (by decide +kernel) rfl
theorem koi_X2_3 : Cond.methodLink RX2 3 objectInit ∈ tb := tb_in 95 (by decide +kernel) rfl
theorem koi_X3_3 : Cond.methodLink RX3 3 objectInit ∈ tb := tb_in 231 (by decide +kernel) rfl
theorem koi_X4_3 : Cond.methodLink RX4 3 objectInit ∈ tb := tb_in 250 (by decide +kernel) rfl
theorem koi_X5_1 : Cond.methodLink RX5 1 objectInit ∈ tb := tb_in 89 (by decide +kernel) rfl
theorem koi_X6_3 : Cond.methodLink RX6 3 objectInit ∈ tb := tb_in 190 (by decide +kernel) rfl
theorem koi_X8_1 : Cond.methodLink RX8 1 objectInit ∈ tb := tb_in 594 (by decide +kernel) rfl
theorem kin_X0_init : Cond.instanceMethod yX0_init ∈ tb := tb_in 167 (by decide +kernel) rfl
theorem kin_X1_init : Cond.instanceMethod yX1_init ∈ tb := tb_in 151 (by decide +kernel) rfl
theorem kin_X2_init : Cond.instanceMethod yX2_init ∈ tb := tb_in 93 (by decide +kernel) rfl
theorem kin_X3_init : Cond.instanceMethod yX3_init ∈ tb := tb_in 229 (by decide +kernel) rfl
theorem kin_X4_init : Cond.instanceMethod yX4_init ∈ tb := tb_in 248 (by decide +kernel) rfl
theorem kin_X5_init : Cond.instanceMethod yX5_init ∈ tb := tb_in 87 (by decide +kernel) rfl
theorem kin_X6_init : Cond.instanceMethod yX6_init ∈ tb := tb_in 188 (by decide +kernel) rfl
theorem kin_X7_init : Cond.instanceMethod yX7_init ∈ tb := tb_in 79 (by decide +kernel) rfl
theorem kin_X8_init : Cond.instanceMethod yX8_init ∈ tb := tb_in 592 (by decide +kernel) rfl
theorem ff_X7_12 : FF RX7 12 7 0 (.object "SumsThatTell$State") := ⟨RX7, TX7, 5, tyX7, rfl, in_X7, by decide, tb_in 273 (by decide +kernel) rfl, tyX7_ok, nmX7, rfl, rfl, by decide +kernel⟩
theorem ff_X7_16 : FF RX7 16 7 1 (.array (.object "SumsThatTell$State")) := ⟨RX7, TX7, 5, tyX7, rfl, in_X7, by decide, tb_in 274 (by decide +kernel) rfl, tyX7_ok, nmX7, rfl, rfl, by decide +kernel⟩
theorem ff_X7_20 : FF RX7 20 7 2 (.array .boolean) := ⟨RX7, TX7, 5, tyX7, rfl, in_X7, by decide, tb_in 275 (by decide +kernel) rfl, tyX7_ok, nmX7, rfl, rfl, by decide +kernel⟩
theorem ff_X7_27 : FF RX7 27 7 3 (.object "SumsThatTell$Sheet") := ⟨RX7, TX7, 5, tyX7, rfl, in_X7, by decide, tb_in 276 (by decide +kernel) rfl, tyX7_ok, nmX7, rfl, rfl, by decide +kernel⟩
theorem ff_X7_34 : FF RX7 34 7 4 (.object "SumsThatTell$Sorter") := ⟨RX7, TX7, 5, tyX7, rfl, in_X7, by decide, tb_in 277 (by decide +kernel) rfl, tyX7_ok, nmX7, rfl, rfl, by decide +kernel⟩
theorem ff_X0_11 : FF RX0 11 0 0 (.array (.array .int)) := ⟨RX0, TX0, 3, tyX0, rfl, in_X0, by decide, tb_in 172 (by decide +kernel) rfl, tyX0_ok, nmX0, rfl, rfl, by decide +kernel⟩
theorem ff_X1_9 : FF RX1 9 1 0 (.array .int) := ⟨RX1, TX1, 2, tyX1, rfl, in_X1, by decide, tb_in 156 (by decide +kernel) rfl, tyX1_ok, nmX1, rfl, rfl, by decide +kernel⟩
theorem ff_X1_17 : FF RX1 17 1 1 (.array (.array .long)) := ⟨RX1, TX1, 2, tyX1, rfl, in_X1, by decide, tb_in 157 (by decide +kernel) rfl, tyX1_ok, nmX1, rfl, rfl, by decide +kernel⟩
theorem ff_X2_9 : FF RX2 9 2 0 (.array .int) := ⟨RX2, TX2, 12, tyX2, rfl, in_X2, by decide, tb_in 96 (by decide +kernel) rfl, tyX2_ok, nmX2, rfl, rfl, by decide +kernel⟩
theorem ff_X2_15 : FF RX2 15 2 1 (.array .int) := ⟨RX2, TX2, 12, tyX2, rfl, in_X2, by decide, tb_in 98 (by decide +kernel) rfl, tyX2_ok, nmX2, rfl, rfl, by decide +kernel⟩
theorem ff_X2_18 : FF RX2 18 2 2 (.array .int) := ⟨RX2, TX2, 12, tyX2, rfl, in_X2, by decide, tb_in 100 (by decide +kernel) rfl, tyX2_ok, nmX2, rfl, rfl, by decide +kernel⟩
theorem ff_X2_21 : FF RX2 21 2 3 (.array .int) := ⟨RX2, TX2, 12, tyX2, rfl, in_X2, by decide, tb_in 103 (by decide +kernel) rfl, tyX2_ok, nmX2, rfl, rfl, by decide +kernel⟩
theorem ff_X2_24 : FF RX2 24 2 4 (.array .int) := ⟨RX2, TX2, 12, tyX2, rfl, in_X2, by decide, tb_in 105 (by decide +kernel) rfl, tyX2_ok, nmX2, rfl, rfl, by decide +kernel⟩
theorem ff_X2_27 : FF RX2 27 2 5 (.array .int) := ⟨RX2, TX2, 12, tyX2, rfl, in_X2, by decide, tb_in 107 (by decide +kernel) rfl, tyX2_ok, nmX2, rfl, rfl, by decide +kernel⟩
theorem ff_X2_30 : FF RX2 30 2 6 (.array .int) := ⟨RX2, TX2, 12, tyX2, rfl, in_X2, by decide, tb_in 109 (by decide +kernel) rfl, tyX2_ok, nmX2, rfl, rfl, by decide +kernel⟩
theorem ff_X3_9 : FF RX3 9 3 0 (.array .long) := ⟨RX3, TX3, 3, tyX3, rfl, in_X3, by decide, tb_in 232 (by decide +kernel) rfl, tyX3_ok, nmX3, rfl, rfl, by decide +kernel⟩
theorem ff_X3_15 : FF RX3 15 3 1 (.array .int) := ⟨RX3, TX3, 3, tyX3, rfl, in_X3, by decide, tb_in 234 (by decide +kernel) rfl, tyX3_ok, nmX3, rfl, rfl, by decide +kernel⟩
theorem ff_X3_19 : FF RX3 19 3 2 (.array .long) := ⟨RX3, TX3, 3, tyX3, rfl, in_X3, by decide, tb_in 236 (by decide +kernel) rfl, tyX3_ok, nmX3, rfl, rfl, by decide +kernel⟩
theorem ff_X4_9 : FF RX4 9 4 0 (.array .long) := ⟨RX4, TX4, 7, tyX4, rfl, in_X4, by decide, tb_in 251 (by decide +kernel) rfl, tyX4_ok, nmX4, rfl, rfl, by decide +kernel⟩
theorem ff_X4_22 : FF RX4 22 4 3 (.array .int) := ⟨RX4, TX4, 7, tyX4, rfl, in_X4, by decide, tb_in 254 (by decide +kernel) rfl, tyX4_ok, nmX4, rfl, rfl, by decide +kernel⟩
theorem ff_X5_10 : FF RX5 10 5 0 (.object "SumsThatTell$Numbers") := ⟨RX5, TX5, 4, tyX5, rfl, in_X5, by decide, tb_in 208 (by decide +kernel) rfl, tyX5_ok, nmX5, rfl, rfl, by decide +kernel⟩
theorem ff_X5_19 : FF RX5 19 5 1 (.object "SumsThatTell$Knowledge") := ⟨RX5, TX5, 4, tyX5, rfl, in_X5, by decide, tb_in 210 (by decide +kernel) rfl, tyX5_ok, nmX5, rfl, rfl, by decide +kernel⟩
theorem ff_X5_26 : FF RX5 26 5 2 (.object "SumsThatTell$Asks") := ⟨RX5, TX5, 4, tyX5, rfl, in_X5, by decide, tb_in 212 (by decide +kernel) rfl, tyX5_ok, nmX5, rfl, rfl, by decide +kernel⟩
theorem ff_X5_33 : FF RX5 33 5 3 (.object "SumsThatTell$Wishes") := ⟨RX5, TX5, 4, tyX5, rfl, in_X5, by decide, tb_in 214 (by decide +kernel) rfl, tyX5_ok, nmX5, rfl, rfl, by decide +kernel⟩
theorem ff_X6_9 : FF RX6 9 6 0 (.array .int) := ⟨RX6, TX6, 4, tyX6, rfl, in_X6, by decide, tb_in 191 (by decide +kernel) rfl, tyX6_ok, nmX6, rfl, rfl, by decide +kernel⟩
theorem ff_X6_15 : FF RX6 15 6 1 (.array .int) := ⟨RX6, TX6, 4, tyX6, rfl, in_X6, by decide, tb_in 193 (by decide +kernel) rfl, tyX6_ok, nmX6, rfl, rfl, by decide +kernel⟩
theorem ff_X6_18 : FF RX6 18 6 2 (.array .int) := ⟨RX6, TX6, 4, tyX6, rfl, in_X6, by decide, tb_in 195 (by decide +kernel) rfl, tyX6_ok, nmX6, rfl, rfl, by decide +kernel⟩
theorem ff_X8_8 : FF RX8 8 8 0 (.array .int) := ⟨RX8, TX8, 14, tyX8, rfl, in_X8, by decide, tb_in 596 (by decide +kernel) rfl, tyX8_ok, nmX8, rfl, rfl, by decide +kernel⟩
theorem ff_X8_14 : FF RX8 14 8 1 (.array .boolean) := ⟨RX8, TX8, 14, tyX8, rfl, in_X8, by decide, tb_in 597 (by decide +kernel) rfl, tyX8_ok, nmX8, rfl, rfl, by decide +kernel⟩
theorem ff_X8_18 : FF RX8 18 8 6 (.array .int) := ⟨RX8, TX8, 14, tyX8, rfl, in_X8, by decide, tb_in 602 (by decide +kernel) rfl, tyX8_ok, nmX8, rfl, rfl, by decide +kernel⟩
theorem ff_X8_21 : FF RX8 21 8 7 (.array .int) := ⟨RX8, TX8, 14, tyX8, rfl, in_X8, by decide, tb_in 603 (by decide +kernel) rfl, tyX8_ok, nmX8, rfl, rfl, by decide +kernel⟩
theorem ff_X8_24 : FF RX8 24 8 8 (.array .boolean) := ⟨RX8, TX8, 14, tyX8, rfl, in_X8, by decide, tb_in 604 (by decide +kernel) rfl, tyX8_ok, nmX8, rfl, rfl, by decide +kernel⟩
theorem ff_X8_27 : FF RX8 27 8 9 (.array .int) := ⟨RX8, TX8, 14, tyX8, rfl, in_X8, by decide, tb_in 605 (by decide +kernel) rfl, tyX8_ok, nmX8, rfl, rfl, by decide +kernel⟩
theorem ff_X8_30 : FF RX8 30 8 10 (.array .long) := ⟨RX8, TX8, 14, tyX8, rfl, in_X8, by decide, tb_in 606 (by decide +kernel) rfl, tyX8_ok, nmX8, rfl, rfl, by decide +kernel⟩
theorem ff_X8_34 : FF RX8 34 8 11 (.array .long) := ⟨RX8, TX8, 14, tyX8, rfl, in_X8, by decide, tb_in 607 (by decide +kernel) rfl, tyX8_ok, nmX8, rfl, rfl, by decide +kernel⟩
theorem ff_X8_37 : FF RX8 37 8 12 (.array .int) := ⟨RX8, TX8, 14, tyX8, rfl, in_X8, by decide, tb_in 608 (by decide +kernel) rfl, tyX8_ok, nmX8, rfl, rfl, by decide +kernel⟩
theorem nw_X7_9 : NW RX7 9 5 [.null, .null, .null, .null] 4 := ⟨RX5, TX5, tyX5, rfl, in_X5, tyX5_ok, tb_in 84 (by decide +kernel) rfl, tb_in 85 (by decide +kernel) rfl, tb_in 63 (by decide +kernel) rfl, fun j hj => by rcases (show j = 0 ∨ j = 1 ∨ j = 2 ∨ j = 3 by omega) with rfl | rfl | rfl | rfl <;> rfl⟩
theorem kcl_X7_9 : Cond.classLink RX7 9 "SumsThatTell$State" ∈ tb := tb_in 84 (by decide +kernel) rfl
theorem nw_X7_24 : NW RX7 24 3 [.null, .null, .null] 3 := ⟨RX3, TX3, tyX3, rfl, in_X3, tyX3_ok, tb_in 226 (by decide +kernel) rfl, tb_in 227 (by decide +kernel) rfl, tb_in 68 (by decide +kernel) rfl, fun j hj => by rcases (show j = 0 ∨ j = 1 ∨ j = 2 by omega) with rfl | rfl | rfl <;> rfl⟩
theorem nw_X7_31 : NW RX7 31 4 [.null, .null, .null, .null, .null, .null, .int 0] 7 := ⟨RX4, TX4, tyX4, rfl, in_X4, tyX4_ok, tb_in 245 (by decide +kernel) rfl, tb_in 246 (by decide +kernel) rfl, tb_in 69 (by decide +kernel) rfl, fun j hj => by rcases (show j = 0 ∨ j = 1 ∨ j = 2 ∨ j = 3 ∨ j = 4 ∨ j = 5 ∨ j = 6 by omega) with rfl | rfl | rfl | rfl | rfl | rfl | rfl <;> rfl⟩
theorem kcl_X0_9 : Cond.classLink RX0 9 ("[" ++ (FieldType.array .int).toString) ∈ tb := tb_in 170 (by decide +kernel) rfl
theorem kcl_X1_15 : Cond.classLink RX1 15 ("[" ++ (FieldType.array .long).toString) ∈ tb := tb_in 154 (by decide +kernel) rfl
theorem nw_X5_7 : NW RX5 7 2 [.null, .null, .null, .null, .null, .null, .null, .int 0, .int 0, .int 0, .int 0, .int 0] 12 := ⟨RX2, TX2, tyX2, rfl, in_X2, tyX2_ok, tb_in 90 (by decide +kernel) rfl, tb_in 91 (by decide +kernel) rfl, tb_in 64 (by decide +kernel) rfl, fun j hj => by rcases (show j = 0 ∨ j = 1 ∨ j = 2 ∨ j = 3 ∨ j = 4 ∨ j = 5 ∨ j = 6 ∨ j = 7 ∨ j = 8 ∨ j = 9 ∨ j = 10 ∨ j = 11 by omega) with rfl | rfl | rfl | rfl | rfl | rfl | rfl | rfl | rfl | rfl | rfl | rfl <;> rfl⟩
theorem nw_X5_16 : NW RX5 16 1 [.null, .null] 2 := ⟨RX1, TX1, tyX1, rfl, in_X1, tyX1_ok, tb_in 148 (by decide +kernel) rfl, tb_in 149 (by decide +kernel) rfl, tb_in 65 (by decide +kernel) rfl, fun j hj => by rcases (show j = 0 ∨ j = 1 by omega) with rfl | rfl <;> rfl⟩
theorem nw_X5_23 : NW RX5 23 0 [.null, .int 0, .int 0] 3 := ⟨RX0, TX0, tyX0, rfl, in_X0, tyX0_ok, tb_in 164 (by decide +kernel) rfl, tb_in 165 (by decide +kernel) rfl, tb_in 66 (by decide +kernel) rfl, fun j hj => by rcases (show j = 0 ∨ j = 1 ∨ j = 2 by omega) with rfl | rfl | rfl <;> rfl⟩
theorem nw_X5_30 : NW RX5 30 6 [.null, .null, .null, .int 0] 4 := ⟨RX6, TX6, tyX6, rfl, in_X6, tyX6_ok, tb_in 185 (by decide +kernel) rfl, tb_in 186 (by decide +kernel) rfl, tb_in 67 (by decide +kernel) rfl, fun j hj => by rcases (show j = 0 ∨ j = 1 ∨ j = 2 ∨ j = 3 by omega) with rfl | rfl | rfl | rfl <;> rfl⟩
theorem nw_L_7 : NW RL 7 7 [.null, .null, .null, .null, .null] 5 := ⟨RX7, TX7, tyX7, rfl, in_X7, tyX7_ok, tb_in 76 (by decide +kernel) rfl, tb_in 77 (by decide +kernel) rfl, tb_in 62 (by decide +kernel) rfl, fun j hj => by rcases (show j = 0 ∨ j = 1 ∨ j = 2 ∨ j = 3 ∨ j = 4 by omega) with rfl | rfl | rfl | rfl | rfl <;> rfl⟩
theorem nw_L_10 : NW RL 10 8 [.null, .null, .int 0, .int 0, .int 0, .int 0, .null, .null, .null, .null, .null, .null, .null, .int 0] 14 := ⟨RX8, TX8, tyX8, rfl, in_X8, tyX8_ok, tb_in 589 (by decide +kernel) rfl, tb_in 590 (by decide +kernel) rfl, tb_in 70 (by decide +kernel) rfl, fun j hj => by rcases (show j = 0 ∨ j = 1 ∨ j = 2 ∨ j = 3 ∨ j = 4 ∨ j = 5 ∨ j = 6 ∨ j = 7 ∨ j = 8 ∨ j = 9 ∨ j = 10 ∨ j = 11 ∨ j = 12 ∨ j = 13 by omega) with rfl | rfl | rfl | rfl | rfl | rfl | rfl | rfl | rfl | rfl | rfl | rfl | rfl | rfl <;> rfl⟩
def wO {α : Type} (x : Option α) (k : α → Prop) : Prop := ∃ a, x = some a ∧ k a
def wR (S : PH) (a : Nat) (i : Int32) (v : Nat) (k : PH → Prop) : Prop := ∃ n f fs, S a = some (eR 0 n f) ∧ S v = some (eO 5 fs) ∧ vp_in i n ∧ k (va_up S a (some (eR 0 n (va_up f i.toNatClampNeg (some v)))))
def wp_X0_init (S : PH) (L : List Nat) (v0 : Nat) (post : PH → List Nat → Prop) : Prop :=
wG 1 5 (eI 200 (fun _ => 0)) S L fun q1 S6 L7 =>
wO (pF S6 v0 0 0 (.ref q1)) fun S8 =>
wO (pF S8 v0 0 1 (.int (0 : Int32))) fun S9 =>
wO (pF S9 v0 0 2 (.int (0 : Int32))) fun S10 =>
post S10 L7
set_option maxHeartbeats 4000000 in
set_option maxRecDepth 100000 in
theorem c_X0_init (l : Launch) (D : va_G) (G : Nat → ClassId) (L : List Nat) (S : PH) (v0 sz : Nat) (post : PH → List Nat → Prop) (h : wp_X0_init S L v0 post) : Met l yX0_init [Cond.code yX0_init cX0_init 1 none] ({ frames := 1, cells := 6, slots := 1005, locals := 30 }) (va_Pc [.ref v0] (PreN D G L S sz)) (Qn D G L sz post) 6 1005 (AA L sz) := by
  refine Met.ofW (cc := cX0_init) (maxL := 1) (ret := none) (by decide) rfl ?_
  intro p e s m args below meth c s₁ B hml hv
  obtain ⟨rfl, hpre⟩ := hv
  obtain ⟨C, hao, hsz, w⟩ := o_entN (own := RX0) rfl B hml hpre
  subst hsz
  have hx := C.1.1
  have hb := C.1.2.1
  have hin : meth.name = "<init>" := (name_of_methodNamed B.named B.method).1
  have hA : ∀ q, s.heap.size ≤ q → AA L s.heap.size q := fun q h => Or.inr h
  have hl := lv_entry ([.ref v0]) (n := 1) (Nat.le_of_ble_eq_true rfl)
  rw [lg_entry_eq]
  generalize (lg_sl ([.ref v0]) ++ List.replicate (1 - (lg_sl ([.ref v0])).length) Slot.unset).toArray = ls at hl ⊢
  have hl : lv_has ls 1 [(0, .ref v0)] := hl
  unfold wp_X0_init at h
  refine lv_aload_n hx hb dX0_init_0 rfl (lv_at hl 0 rfl) ?_
  refine W.objInit hx hb C.1.2.2.2.1 (C.1.2.2.2.2 _ koi_X0_3) (C.1.2.2.2.2 _ koi_i) (C.1.2.2.2.2 _ koi_c) rfl (by rw [C.1.2.2.1]; exact hl.1) rfl dX0_init_1 (Nat.le_of_ble_eq_true rfl) (Nat.le_of_ble_eq_true rfl) ?_
  refine W.eq (g2 := F0 m 4 ls []) rfl ?_
  refine lv_aload_n hx hb dX0_init_4 rfl (lv_at hl 0 rfl) ?_
  refine lv_iconst (v := 5) hx hb dX0_init_5 (by decide) ?_
  refine lv_sipush (v := 200) hx hb dX0_init_6 (by decide) ?_
  refine o_newGI (N := 5) (K := 200) C w hao hA (by decide) (by decide) (by decide) (by decide) (by decide) (by decide) (by decide) (Nat.le_of_ble_eq_true rfl) (Nat.le_of_ble_eq_true rfl) kcl_X0_9 kca_int dX0_init_9 (fun q1 r2 H hq3 hr4 hs5 w => ?_)
  replace h := h q1 r2 hq3 hr4 hs5
  generalize hS9 : va_up (vr_up S _ _) q1 _ = S6 at h w
  generalize hL9 : (L ++ [q1]) ++ _ = L7 at h w
  clear hS9 hL9
  refine W.widen (k := 6) (n := 1005) (Nat.le_of_ble_eq_true rfl) (Nat.le_of_ble_eq_true rfl) ?_
  obtain ⟨S8, hS8, h⟩ := h
  refine o_pFF C w hin hS8 ff_X0_11 rfl rfl dX0_init_13 (fun H locs w => ?_)
  refine lv_aload_n hx hb dX0_init_16 rfl (lv_at hl 0 rfl) ?_
  refine lv_iconst (v := 0) hx hb dX0_init_17 (by decide) ?_
  obtain ⟨S9, hS9, h⟩ := h
  refine o_pF C w hS9 fp_X0_16 rfl rfl dX0_init_18 (fun H locs w => ?_)
  refine lv_aload_n hx hb dX0_init_21 rfl (lv_at hl 0 rfl) ?_
  refine lv_iconst (v := 0) hx hb dX0_init_22 (by decide) ?_
  obtain ⟨S10, hS10, h⟩ := h
  refine o_pF C w hS10 fp_X0_20 rfl rfl dX0_init_23 (fun H locs w => ?_)
  exact o_nret C w h B.returns B.notSynchronized dX0_init_26
def wp_X1_init (S : PH) (L : List Nat) (v0 : Nat) (post : PH → List Nat → Prop) : Prop :=
wA (eI 4 (fun _ => 0)) S L fun q1 S3 L4 =>
wO (pF S3 v0 1 0 (.ref q1)) fun S5 =>
wG 2 4 (eJ 64 (fun _ => 0)) S5 L4 fun q6 S11 L12 =>
wO (pF S11 v0 1 1 (.ref q6)) fun S13 =>
wO (gR S13 v0 1 0) fun x14 =>
wO (stI S13 x14 (0 : Int32) (0 : Int32)) fun S15 =>
wO (gR S15 v0 1 1) fun x16 =>
wO (ldR 2 S15 x16 (0 : Int32)) fun x17 =>
wO (stJ S15 x17 (0 : Int32) (1 : Int64)) fun S18 =>
wO (gR S18 v0 1 0) fun x19 =>
wO (stI S18 x19 (1 : Int32) (1 : Int32)) fun S20 =>
wO (gR S20 v0 1 1) fun x21 =>
wO (ldR 2 S20 x21 (1 : Int32)) fun x22 =>
wO (stJ S20 x22 (0 : Int32) (1 : Int64)) fun S23 =>
wO (gR S23 v0 1 0) fun x24 =>
wO (stI S23 x24 (2 : Int32) (2 : Int32)) fun S25 =>
wO (gR S25 v0 1 1) fun x26 =>
wO (ldR 2 S25 x26 (2 : Int32)) fun x27 =>
wO (stJ S25 x27 (0 : Int32) (1 : Int64)) fun S28 =>
wO (gR S28 v0 1 0) fun x29 =>
wO (stI S28 x29 (3 : Int32) (3 : Int32)) fun S30 =>
wO (gR S30 v0 1 1) fun x31 =>
wO (ldR 2 S30 x31 (3 : Int32)) fun x32 =>
wO (stJ S30 x32 (0 : Int32) (1 : Int64)) fun S33 =>
post S33 L12
set_option maxHeartbeats 4000000 in
set_option maxRecDepth 100000 in
theorem c_X1_init (l : Launch) (D : va_G) (G : Nat → ClassId) (L : List Nat) (S : PH) (v0 sz : Nat) (post : PH → List Nat → Prop) (h : wp_X1_init S L v0 post) : Met l yX1_init [Cond.code yX1_init cX1_init 2 none] ({ frames := 1, cells := 6, slots := 264, locals := 30 }) (va_Pc [.ref v0] (PreN D G L S sz)) (Qn D G L sz post) 6 264 (AA L sz) := by
  refine Met.ofW (cc := cX1_init) (maxL := 2) (ret := none) (by decide) rfl ?_
  intro p e s m args below meth c s₁ B hml hv
  obtain ⟨rfl, hpre⟩ := hv
  obtain ⟨C, hao, hsz, w⟩ := o_entN (own := RX1) rfl B hml hpre
  subst hsz
  have hx := C.1.1
  have hb := C.1.2.1
  have hin : meth.name = "<init>" := (name_of_methodNamed B.named B.method).1
  have hA : ∀ q, s.heap.size ≤ q → AA L s.heap.size q := fun q h => Or.inr h
  have hl := lv_entry ([.ref v0]) (n := 2) (Nat.le_of_ble_eq_true rfl)
  rw [lg_entry_eq]
  generalize (lg_sl ([.ref v0]) ++ List.replicate (2 - (lg_sl ([.ref v0])).length) Slot.unset).toArray = ls at hl ⊢
  have hl : lv_has ls 2 [(0, .ref v0)] := hl
  unfold wp_X1_init at h
  refine lv_aload_n hx hb dX1_init_0 rfl (lv_at hl 0 rfl) ?_
  refine W.objInit hx hb C.1.2.2.2.1 (C.1.2.2.2.2 _ koi_X1_3) (C.1.2.2.2.2 _ koi_i) (C.1.2.2.2.2 _ koi_c) rfl (by rw [C.1.2.2.1]; exact hl.1) rfl dX1_init_1 (Nat.le_of_ble_eq_true rfl) (Nat.le_of_ble_eq_true rfl) ?_
  refine W.eq (g2 := F0 m 4 ls []) rfl ?_
  refine lv_aload_n hx hb dX1_init_4 rfl (lv_at hl 0 rfl) ?_
  refine lv_iconst (v := 4) hx hb dX1_init_5 (by decide) ?_
  refine o_newI (N := 4) C w hA (by decide) (by decide) (by decide) (Nat.le_of_ble_eq_true rfl) (Nat.le_of_ble_eq_true rfl) kca_int dX1_init_6 (fun q1 H hq2 w => ?_)
  replace h := h q1 hq2
  generalize hS9 : va_up S q1 _ = S3 at h w
  generalize hL9 : L ++ [q1] = L4 at h w
  clear hS9 hL9
  refine W.widen (k := 1) (n := 4) (Nat.le_of_ble_eq_true rfl) (Nat.le_of_ble_eq_true rfl) ?_
  obtain ⟨S5, hS5, h⟩ := h
  refine o_pFF C w hin hS5 ff_X1_9 rfl rfl dX1_init_8 (fun H locs w => ?_)
  refine lv_aload_n hx hb dX1_init_11 rfl (lv_at hl 0 rfl) ?_
  refine lv_iconst (v := 4) hx hb dX1_init_12 (by decide) ?_
  refine lv_bipush (v := 64) hx hb dX1_init_13 (by decide) ?_
  refine o_newGJ (N := 4) (K := 64) C w hao hA (by decide) (by decide) (by decide) (by decide) (by decide) (by decide) (by decide) (Nat.le_of_ble_eq_true rfl) (Nat.le_of_ble_eq_true rfl) kcl_X1_15 kca_long dX1_init_15 (fun q6 r7 H hq8 hr9 hs10 w => ?_)
  replace h := h q6 r7 hq8 hr9 hs10
  generalize hS9 : va_up (vr_up S5 _ _) q6 _ = S11 at h w
  generalize hL9 : (L4 ++ [q6]) ++ _ = L12 at h w
  clear hS9 hL9
  refine W.widen (k := 6) (n := 264) (Nat.le_of_ble_eq_true rfl) (Nat.le_of_ble_eq_true rfl) ?_
  obtain ⟨S13, hS13, h⟩ := h
  refine o_pFF C w hin hS13 ff_X1_17 rfl rfl dX1_init_19 (fun H locs w => ?_)
  refine lv_iconst (v := 0) hx hb dX1_init_22 (by decide) ?_
  refine lv_istore_n (lv' := [(1, .int (0 : Int32)), (0, .ref v0)]) hx hb dX1_init_23 rfl hl (by decide) rfl (fun ls hl => ?_)
  refine lv_iload_n hx hb dX1_init_24 rfl (lv_at hl 0 rfl) ?_
  refine lv_iconst (v := 4) hx hb dX1_init_25 (by decide) ?_
  refine lv_icmp_ge (tgt := 51) hx hb dX1_init_26 (by decide) (fun cq => absurd cq (by decide)) (fun _ => ?_)
  refine lv_aload_n hx hb dX1_init_29 rfl (lv_at hl 1 rfl) ?_
  obtain ⟨x14, hx14, h⟩ := h
  refine o_gR C w hx14 fl_X1_9 dX1_init_30 ?_
  refine lv_iload_n hx hb dX1_init_33 rfl (lv_at hl 0 rfl) ?_
  refine lv_iload_n hx hb dX1_init_34 rfl (lv_at hl 0 rfl) ?_
  obtain ⟨S15, hS15, h⟩ := h
  refine o_stI C w hS15 dX1_init_35 (fun H locs w => ?_)
  refine lv_aload_n hx hb dX1_init_36 rfl (lv_at hl 1 rfl) ?_
  obtain ⟨x16, hx16, h⟩ := h
  refine o_gR C w hx16 fl_X1_17 dX1_init_37 ?_
  refine lv_iload_n hx hb dX1_init_40 rfl (lv_at hl 0 rfl) ?_
  obtain ⟨x17, hx17, h⟩ := h
  refine o_ldR2 C w hx17 dX1_init_41 ?_
  refine lv_iconst (v := 0) hx hb dX1_init_42 (by decide) ?_
  refine lv_lconst (v := 1) hx hb dX1_init_43 (by decide) ?_
  obtain ⟨S18, hS18, h⟩ := h
  refine o_stJ C w hS18 dX1_init_44 (fun H locs w => ?_)
  refine lv_iinc (v := 1) (lv' := [(1, .int (1 : Int32)), (0, .ref v0)]) hx hb dX1_init_45 hl (k := 0) rfl (by decide) (by decide) rfl (fun ls hl => ?_)
  refine lv_goto (tgt := 24) hx hb dX1_init_48 (by decide) ?_
  refine lv_iload_n hx hb dX1_init_24 rfl (lv_at hl 0 rfl) ?_
  refine lv_iconst (v := 4) hx hb dX1_init_25 (by decide) ?_
  refine lv_icmp_ge (tgt := 51) hx hb dX1_init_26 (by decide) (fun cq => absurd cq (by decide)) (fun _ => ?_)
  refine lv_aload_n hx hb dX1_init_29 rfl (lv_at hl 1 rfl) ?_
  obtain ⟨x19, hx19, h⟩ := h
  refine o_gR C w hx19 fl_X1_9 dX1_init_30 ?_
  refine lv_iload_n hx hb dX1_init_33 rfl (lv_at hl 0 rfl) ?_
  refine lv_iload_n hx hb dX1_init_34 rfl (lv_at hl 0 rfl) ?_
  obtain ⟨S20, hS20, h⟩ := h
  refine o_stI C w hS20 dX1_init_35 (fun H locs w => ?_)
  refine lv_aload_n hx hb dX1_init_36 rfl (lv_at hl 1 rfl) ?_
  obtain ⟨x21, hx21, h⟩ := h
  refine o_gR C w hx21 fl_X1_17 dX1_init_37 ?_
  refine lv_iload_n hx hb dX1_init_40 rfl (lv_at hl 0 rfl) ?_
  obtain ⟨x22, hx22, h⟩ := h
  refine o_ldR2 C w hx22 dX1_init_41 ?_
  refine lv_iconst (v := 0) hx hb dX1_init_42 (by decide) ?_
  refine lv_lconst (v := 1) hx hb dX1_init_43 (by decide) ?_
  obtain ⟨S23, hS23, h⟩ := h
  refine o_stJ C w hS23 dX1_init_44 (fun H locs w => ?_)
  refine lv_iinc (v := 2) (lv' := [(1, .int (2 : Int32)), (0, .ref v0)]) hx hb dX1_init_45 hl (k := 0) rfl (by decide) (by decide) rfl (fun ls hl => ?_)
  refine lv_goto (tgt := 24) hx hb dX1_init_48 (by decide) ?_
  refine lv_iload_n hx hb dX1_init_24 rfl (lv_at hl 0 rfl) ?_
  refine lv_iconst (v := 4) hx hb dX1_init_25 (by decide) ?_
  refine lv_icmp_ge (tgt := 51) hx hb dX1_init_26 (by decide) (fun cq => absurd cq (by decide)) (fun _ => ?_)
  refine lv_aload_n hx hb dX1_init_29 rfl (lv_at hl 1 rfl) ?_
  obtain ⟨x24, hx24, h⟩ := h
  refine o_gR C w hx24 fl_X1_9 dX1_init_30 ?_
  refine lv_iload_n hx hb dX1_init_33 rfl (lv_at hl 0 rfl) ?_
  refine lv_iload_n hx hb dX1_init_34 rfl (lv_at hl 0 rfl) ?_
  obtain ⟨S25, hS25, h⟩ := h
  refine o_stI C w hS25 dX1_init_35 (fun H locs w => ?_)
  refine lv_aload_n hx hb dX1_init_36 rfl (lv_at hl 1 rfl) ?_
  obtain ⟨x26, hx26, h⟩ := h
  refine o_gR C w hx26 fl_X1_17 dX1_init_37 ?_
  refine lv_iload_n hx hb dX1_init_40 rfl (lv_at hl 0 rfl) ?_
  obtain ⟨x27, hx27, h⟩ := h
  refine o_ldR2 C w hx27 dX1_init_41 ?_
  refine lv_iconst (v := 0) hx hb dX1_init_42 (by decide) ?_
  refine lv_lconst (v := 1) hx hb dX1_init_43 (by decide) ?_
  obtain ⟨S28, hS28, h⟩ := h
  refine o_stJ C w hS28 dX1_init_44 (fun H locs w => ?_)
  refine lv_iinc (v := 3) (lv' := [(1, .int (3 : Int32)), (0, .ref v0)]) hx hb dX1_init_45 hl (k := 0) rfl (by decide) (by decide) rfl (fun ls hl => ?_)
  refine lv_goto (tgt := 24) hx hb dX1_init_48 (by decide) ?_
  refine lv_iload_n hx hb dX1_init_24 rfl (lv_at hl 0 rfl) ?_
  refine lv_iconst (v := 4) hx hb dX1_init_25 (by decide) ?_
  refine lv_icmp_ge (tgt := 51) hx hb dX1_init_26 (by decide) (fun cq => absurd cq (by decide)) (fun _ => ?_)
  refine lv_aload_n hx hb dX1_init_29 rfl (lv_at hl 1 rfl) ?_
  obtain ⟨x29, hx29, h⟩ := h
  refine o_gR C w hx29 fl_X1_9 dX1_init_30 ?_
  refine lv_iload_n hx hb dX1_init_33 rfl (lv_at hl 0 rfl) ?_
  refine lv_iload_n hx hb dX1_init_34 rfl (lv_at hl 0 rfl) ?_
  obtain ⟨S30, hS30, h⟩ := h
  refine o_stI C w hS30 dX1_init_35 (fun H locs w => ?_)
  refine lv_aload_n hx hb dX1_init_36 rfl (lv_at hl 1 rfl) ?_
  obtain ⟨x31, hx31, h⟩ := h
  refine o_gR C w hx31 fl_X1_17 dX1_init_37 ?_
  refine lv_iload_n hx hb dX1_init_40 rfl (lv_at hl 0 rfl) ?_
  obtain ⟨x32, hx32, h⟩ := h
  refine o_ldR2 C w hx32 dX1_init_41 ?_
  refine lv_iconst (v := 0) hx hb dX1_init_42 (by decide) ?_
  refine lv_lconst (v := 1) hx hb dX1_init_43 (by decide) ?_
  obtain ⟨S33, hS33, h⟩ := h
  refine o_stJ C w hS33 dX1_init_44 (fun H locs w => ?_)
  refine lv_iinc (v := 4) (lv' := [(1, .int (4 : Int32)), (0, .ref v0)]) hx hb dX1_init_45 hl (k := 0) rfl (by decide) (by decide) rfl (fun ls hl => ?_)
  refine lv_goto (tgt := 24) hx hb dX1_init_48 (by decide) ?_
  refine lv_iload_n hx hb dX1_init_24 rfl (lv_at hl 0 rfl) ?_
  refine lv_iconst (v := 4) hx hb dX1_init_25 (by decide) ?_
  refine lv_icmp_ge (tgt := 51) hx hb dX1_init_26 (by decide) (fun _ => ?_) (fun cq => absurd (by decide) cq)
  exact o_nret C w h B.returns B.notSynchronized dX1_init_51
def wp_X2_init (S : PH) (L : List Nat) (v0 : Nat) (post : PH → List Nat → Prop) : Prop :=
wA (eI 8 (fun _ => 0)) S L fun q1 S3 L4 =>
wO (pF S3 v0 2 0 (.ref q1)) fun S5 =>
wA (eI 10 (fun _ => 0)) S5 L4 fun q6 S8 L9 =>
wO (pF S8 v0 2 1 (.ref q6)) fun S10 =>
wA (eI 10 (fun _ => 0)) S10 L9 fun q11 S13 L14 =>
wO (pF S13 v0 2 2 (.ref q11)) fun S15 =>
wA (eI 10 (fun _ => 0)) S15 L14 fun q16 S18 L19 =>
wO (pF S18 v0 2 3 (.ref q16)) fun S20 =>
wA (eI 10 (fun _ => 0)) S20 L19 fun q21 S23 L24 =>
wO (pF S23 v0 2 4 (.ref q21)) fun S25 =>
wA (eI 10 (fun _ => 0)) S25 L24 fun q26 S28 L29 =>
wO (pF S28 v0 2 5 (.ref q26)) fun S30 =>
wA (eI 10 (fun _ => 0)) S30 L29 fun q31 S33 L34 =>
wO (pF S33 v0 2 6 (.ref q31)) fun S35 =>
wO (pF S35 v0 2 7 (.int (0 : Int32))) fun S36 =>
wO (pF S36 v0 2 8 (.int (0 : Int32))) fun S37 =>
wO (pF S37 v0 2 9 (.int (1 : Int32))) fun S38 =>
wO (pF S38 v0 2 10 (.int (0 : Int32))) fun S39 =>
wO (pF S39 v0 2 11 (.int (1 : Int32))) fun S40 =>
post S40 L34
set_option maxHeartbeats 4000000 in
set_option maxRecDepth 100000 in
theorem c_X2_init (l : Launch) (D : va_G) (G : Nat → ClassId) (L : List Nat) (S : PH) (v0 sz : Nat) (post : PH → List Nat → Prop) (h : wp_X2_init S L v0 post) : Met l yX2_init [Cond.code yX2_init cX2_init 1 none] ({ frames := 1, cells := 7, slots := 68, locals := 30 }) (va_Pc [.ref v0] (PreN D G L S sz)) (Qn D G L sz post) 7 68 (AA L sz) := by
  refine Met.ofW (cc := cX2_init) (maxL := 1) (ret := none) (by decide) rfl ?_
  intro p e s m args below meth c s₁ B hml hv
  obtain ⟨rfl, hpre⟩ := hv
  obtain ⟨C, hao, hsz, w⟩ := o_entN (own := RX2) rfl B hml hpre
  subst hsz
  have hx := C.1.1
  have hb := C.1.2.1
  have hin : meth.name = "<init>" := (name_of_methodNamed B.named B.method).1
  have hA : ∀ q, s.heap.size ≤ q → AA L s.heap.size q := fun q h => Or.inr h
  have hl := lv_entry ([.ref v0]) (n := 1) (Nat.le_of_ble_eq_true rfl)
  rw [lg_entry_eq]
  generalize (lg_sl ([.ref v0]) ++ List.replicate (1 - (lg_sl ([.ref v0])).length) Slot.unset).toArray = ls at hl ⊢
  have hl : lv_has ls 1 [(0, .ref v0)] := hl
  unfold wp_X2_init at h
  refine lv_aload_n hx hb dX2_init_0 rfl (lv_at hl 0 rfl) ?_
  refine W.objInit hx hb C.1.2.2.2.1 (C.1.2.2.2.2 _ koi_X2_3) (C.1.2.2.2.2 _ koi_i) (C.1.2.2.2.2 _ koi_c) rfl (by rw [C.1.2.2.1]; exact hl.1) rfl dX2_init_1 (Nat.le_of_ble_eq_true rfl) (Nat.le_of_ble_eq_true rfl) ?_
  refine W.eq (g2 := F0 m 4 ls []) rfl ?_
  refine lv_aload_n hx hb dX2_init_4 rfl (lv_at hl 0 rfl) ?_
  refine lv_bipush (v := 8) hx hb dX2_init_5 (by decide) ?_
  refine o_newI (N := 8) C w hA (by decide) (by decide) (by decide) (Nat.le_of_ble_eq_true rfl) (Nat.le_of_ble_eq_true rfl) kca_int dX2_init_7 (fun q1 H hq2 w => ?_)
  replace h := h q1 hq2
  generalize hS9 : va_up S q1 _ = S3 at h w
  generalize hL9 : L ++ [q1] = L4 at h w
  clear hS9 hL9
  refine W.widen (k := 1) (n := 8) (Nat.le_of_ble_eq_true rfl) (Nat.le_of_ble_eq_true rfl) ?_
  obtain ⟨S5, hS5, h⟩ := h
  refine o_pFF C w hin hS5 ff_X2_9 rfl rfl dX2_init_9 (fun H locs w => ?_)
  refine lv_aload_n hx hb dX2_init_12 rfl (lv_at hl 0 rfl) ?_
  refine lv_bipush (v := 10) hx hb dX2_init_13 (by decide) ?_
  refine o_newI (N := 10) C w hA (by decide) (by decide) (by decide) (Nat.le_of_ble_eq_true rfl) (Nat.le_of_ble_eq_true rfl) kca_int dX2_init_15 (fun q6 H hq7 w => ?_)
  replace h := h q6 hq7
  generalize hS9 : va_up S5 q6 _ = S8 at h w
  generalize hL9 : L4 ++ [q6] = L9 at h w
  clear hS9 hL9
  refine W.widen (k := 2) (n := 18) (Nat.le_of_ble_eq_true rfl) (Nat.le_of_ble_eq_true rfl) ?_
  obtain ⟨S10, hS10, h⟩ := h
  refine o_pFF C w hin hS10 ff_X2_15 rfl rfl dX2_init_17 (fun H locs w => ?_)
  refine lv_aload_n hx hb dX2_init_20 rfl (lv_at hl 0 rfl) ?_
  refine lv_bipush (v := 10) hx hb dX2_init_21 (by decide) ?_
  refine o_newI (N := 10) C w hA (by decide) (by decide) (by decide) (Nat.le_of_ble_eq_true rfl) (Nat.le_of_ble_eq_true rfl) kca_int dX2_init_23 (fun q11 H hq12 w => ?_)
  replace h := h q11 hq12
  generalize hS9 : va_up S10 q11 _ = S13 at h w
  generalize hL9 : L9 ++ [q11] = L14 at h w
  clear hS9 hL9
  refine W.widen (k := 3) (n := 28) (Nat.le_of_ble_eq_true rfl) (Nat.le_of_ble_eq_true rfl) ?_
  obtain ⟨S15, hS15, h⟩ := h
  refine o_pFF C w hin hS15 ff_X2_18 rfl rfl dX2_init_25 (fun H locs w => ?_)
  refine lv_aload_n hx hb dX2_init_28 rfl (lv_at hl 0 rfl) ?_
  refine lv_bipush (v := 10) hx hb dX2_init_29 (by decide) ?_
  refine o_newI (N := 10) C w hA (by decide) (by decide) (by decide) (Nat.le_of_ble_eq_true rfl) (Nat.le_of_ble_eq_true rfl) kca_int dX2_init_31 (fun q16 H hq17 w => ?_)
  replace h := h q16 hq17
  generalize hS9 : va_up S15 q16 _ = S18 at h w
  generalize hL9 : L14 ++ [q16] = L19 at h w
  clear hS9 hL9
  refine W.widen (k := 4) (n := 38) (Nat.le_of_ble_eq_true rfl) (Nat.le_of_ble_eq_true rfl) ?_
  obtain ⟨S20, hS20, h⟩ := h
  refine o_pFF C w hin hS20 ff_X2_21 rfl rfl dX2_init_33 (fun H locs w => ?_)
  refine lv_aload_n hx hb dX2_init_36 rfl (lv_at hl 0 rfl) ?_
  refine lv_bipush (v := 10) hx hb dX2_init_37 (by decide) ?_
  refine o_newI (N := 10) C w hA (by decide) (by decide) (by decide) (Nat.le_of_ble_eq_true rfl) (Nat.le_of_ble_eq_true rfl) kca_int dX2_init_39 (fun q21 H hq22 w => ?_)
  replace h := h q21 hq22
  generalize hS9 : va_up S20 q21 _ = S23 at h w
  generalize hL9 : L19 ++ [q21] = L24 at h w
  clear hS9 hL9
  refine W.widen (k := 5) (n := 48) (Nat.le_of_ble_eq_true rfl) (Nat.le_of_ble_eq_true rfl) ?_
  obtain ⟨S25, hS25, h⟩ := h
  refine o_pFF C w hin hS25 ff_X2_24 rfl rfl dX2_init_41 (fun H locs w => ?_)
  refine lv_aload_n hx hb dX2_init_44 rfl (lv_at hl 0 rfl) ?_
  refine lv_bipush (v := 10) hx hb dX2_init_45 (by decide) ?_
  refine o_newI (N := 10) C w hA (by decide) (by decide) (by decide) (Nat.le_of_ble_eq_true rfl) (Nat.le_of_ble_eq_true rfl) kca_int dX2_init_47 (fun q26 H hq27 w => ?_)
  replace h := h q26 hq27
  generalize hS9 : va_up S25 q26 _ = S28 at h w
  generalize hL9 : L24 ++ [q26] = L29 at h w
  clear hS9 hL9
  refine W.widen (k := 6) (n := 58) (Nat.le_of_ble_eq_true rfl) (Nat.le_of_ble_eq_true rfl) ?_
  obtain ⟨S30, hS30, h⟩ := h
  refine o_pFF C w hin hS30 ff_X2_27 rfl rfl dX2_init_49 (fun H locs w => ?_)
  refine lv_aload_n hx hb dX2_init_52 rfl (lv_at hl 0 rfl) ?_
  refine lv_bipush (v := 10) hx hb dX2_init_53 (by decide) ?_
  refine o_newI (N := 10) C w hA (by decide) (by decide) (by decide) (Nat.le_of_ble_eq_true rfl) (Nat.le_of_ble_eq_true rfl) kca_int dX2_init_55 (fun q31 H hq32 w => ?_)
  replace h := h q31 hq32
  generalize hS9 : va_up S30 q31 _ = S33 at h w
  generalize hL9 : L29 ++ [q31] = L34 at h w
  clear hS9 hL9
  refine W.widen (k := 7) (n := 68) (Nat.le_of_ble_eq_true rfl) (Nat.le_of_ble_eq_true rfl) ?_
  obtain ⟨S35, hS35, h⟩ := h
  refine o_pFF C w hin hS35 ff_X2_30 rfl rfl dX2_init_57 (fun H locs w => ?_)
  refine lv_aload_n hx hb dX2_init_60 rfl (lv_at hl 0 rfl) ?_
  refine lv_iconst (v := 0) hx hb dX2_init_61 (by decide) ?_
  obtain ⟨S36, hS36, h⟩ := h
  refine o_pF C w hS36 fp_X2_33 rfl rfl dX2_init_62 (fun H locs w => ?_)
  refine lv_aload_n hx hb dX2_init_65 rfl (lv_at hl 0 rfl) ?_
  refine lv_iconst (v := 0) hx hb dX2_init_66 (by decide) ?_
  obtain ⟨S37, hS37, h⟩ := h
  refine o_pF C w hS37 fp_X2_37 rfl rfl dX2_init_67 (fun H locs w => ?_)
  refine lv_aload_n hx hb dX2_init_70 rfl (lv_at hl 0 rfl) ?_
  refine lv_iconst (v := 1) hx hb dX2_init_71 (by decide) ?_
  obtain ⟨S38, hS38, h⟩ := h
  refine o_pF C w hS38 fp_X2_40 rfl rfl dX2_init_72 (fun H locs w => ?_)
  refine lv_aload_n hx hb dX2_init_75 rfl (lv_at hl 0 rfl) ?_
  refine lv_iconst (v := 0) hx hb dX2_init_76 (by decide) ?_
  obtain ⟨S39, hS39, h⟩ := h
  refine o_pF C w hS39 fp_X2_43 rfl rfl dX2_init_77 (fun H locs w => ?_)
  refine lv_aload_n hx hb dX2_init_80 rfl (lv_at hl 0 rfl) ?_
  refine lv_iconst (v := 1) hx hb dX2_init_81 (by decide) ?_
  obtain ⟨S40, hS40, h⟩ := h
  refine o_pF C w hS40 fp_X2_46 rfl rfl dX2_init_82 (fun H locs w => ?_)
  exact o_nret C w h B.returns B.notSynchronized dX2_init_85
def wp_X3_init (S : PH) (L : List Nat) (v0 : Nat) (post : PH → List Nat → Prop) : Prop :=
wA (eJ 4096 (fun _ => 0)) S L fun q1 S3 L4 =>
wO (pF S3 v0 3 0 (.ref q1)) fun S5 =>
wA (eI 4096 (fun _ => 0)) S5 L4 fun q6 S8 L9 =>
wO (pF S8 v0 3 1 (.ref q6)) fun S10 =>
wA (eJ 64 (fun _ => 0)) S10 L9 fun q11 S13 L14 =>
wO (pF S13 v0 3 2 (.ref q11)) fun S15 =>
post S15 L14
set_option maxHeartbeats 4000000 in
set_option maxRecDepth 100000 in
theorem c_X3_init (l : Launch) (D : va_G) (G : Nat → ClassId) (L : List Nat) (S : PH) (v0 sz : Nat) (post : PH → List Nat → Prop) (h : wp_X3_init S L v0 post) : Met l yX3_init [Cond.code yX3_init cX3_init 1 none] ({ frames := 1, cells := 3, slots := 8256, locals := 30 }) (va_Pc [.ref v0] (PreN D G L S sz)) (Qn D G L sz post) 3 8256 (AA L sz) := by
  refine Met.ofW (cc := cX3_init) (maxL := 1) (ret := none) (by decide) rfl ?_
  intro p e s m args below meth c s₁ B hml hv
  obtain ⟨rfl, hpre⟩ := hv
  obtain ⟨C, hao, hsz, w⟩ := o_entN (own := RX3) rfl B hml hpre
  subst hsz
  have hx := C.1.1
  have hb := C.1.2.1
  have hin : meth.name = "<init>" := (name_of_methodNamed B.named B.method).1
  have hA : ∀ q, s.heap.size ≤ q → AA L s.heap.size q := fun q h => Or.inr h
  have hl := lv_entry ([.ref v0]) (n := 1) (Nat.le_of_ble_eq_true rfl)
  rw [lg_entry_eq]
  generalize (lg_sl ([.ref v0]) ++ List.replicate (1 - (lg_sl ([.ref v0])).length) Slot.unset).toArray = ls at hl ⊢
  have hl : lv_has ls 1 [(0, .ref v0)] := hl
  unfold wp_X3_init at h
  refine lv_aload_n hx hb dX3_init_0 rfl (lv_at hl 0 rfl) ?_
  refine W.objInit hx hb C.1.2.2.2.1 (C.1.2.2.2.2 _ koi_X3_3) (C.1.2.2.2.2 _ koi_i) (C.1.2.2.2.2 _ koi_c) rfl (by rw [C.1.2.2.1]; exact hl.1) rfl dX3_init_1 (Nat.le_of_ble_eq_true rfl) (Nat.le_of_ble_eq_true rfl) ?_
  refine W.eq (g2 := F0 m 4 ls []) rfl ?_
  refine lv_aload_n hx hb dX3_init_4 rfl (lv_at hl 0 rfl) ?_
  refine lv_sipush (v := 4096) hx hb dX3_init_5 (by decide) ?_
  refine o_newJ (N := 4096) C w hA (by decide) (by decide) (by decide) (Nat.le_of_ble_eq_true rfl) (Nat.le_of_ble_eq_true rfl) kca_long dX3_init_8 (fun q1 H hq2 w => ?_)
  replace h := h q1 hq2
  generalize hS9 : va_up S q1 _ = S3 at h w
  generalize hL9 : L ++ [q1] = L4 at h w
  clear hS9 hL9
  refine W.widen (k := 1) (n := 4096) (Nat.le_of_ble_eq_true rfl) (Nat.le_of_ble_eq_true rfl) ?_
  obtain ⟨S5, hS5, h⟩ := h
  refine o_pFF C w hin hS5 ff_X3_9 rfl rfl dX3_init_10 (fun H locs w => ?_)
  refine lv_aload_n hx hb dX3_init_13 rfl (lv_at hl 0 rfl) ?_
  refine lv_sipush (v := 4096) hx hb dX3_init_14 (by decide) ?_
  refine o_newI (N := 4096) C w hA (by decide) (by decide) (by decide) (Nat.le_of_ble_eq_true rfl) (Nat.le_of_ble_eq_true rfl) kca_int dX3_init_17 (fun q6 H hq7 w => ?_)
  replace h := h q6 hq7
  generalize hS9 : va_up S5 q6 _ = S8 at h w
  generalize hL9 : L4 ++ [q6] = L9 at h w
  clear hS9 hL9
  refine W.widen (k := 2) (n := 8192) (Nat.le_of_ble_eq_true rfl) (Nat.le_of_ble_eq_true rfl) ?_
  obtain ⟨S10, hS10, h⟩ := h
  refine o_pFF C w hin hS10 ff_X3_15 rfl rfl dX3_init_19 (fun H locs w => ?_)
  refine lv_aload_n hx hb dX3_init_22 rfl (lv_at hl 0 rfl) ?_
  refine lv_bipush (v := 64) hx hb dX3_init_23 (by decide) ?_
  refine o_newJ (N := 64) C w hA (by decide) (by decide) (by decide) (Nat.le_of_ble_eq_true rfl) (Nat.le_of_ble_eq_true rfl) kca_long dX3_init_25 (fun q11 H hq12 w => ?_)
  replace h := h q11 hq12
  generalize hS9 : va_up S10 q11 _ = S13 at h w
  generalize hL9 : L9 ++ [q11] = L14 at h w
  clear hS9 hL9
  refine W.widen (k := 3) (n := 8256) (Nat.le_of_ble_eq_true rfl) (Nat.le_of_ble_eq_true rfl) ?_
  obtain ⟨S15, hS15, h⟩ := h
  refine o_pFF C w hin hS15 ff_X3_19 rfl rfl dX3_init_27 (fun H locs w => ?_)
  exact o_nret C w h B.returns B.notSynchronized dX3_init_30
def wp_X4_init (S : PH) (L : List Nat) (v0 : Nat) (post : PH → List Nat → Prop) : Prop :=
wA (eJ 4096 (fun _ => 0)) S L fun q1 S3 L4 =>
wO (pF S3 v0 4 0 (.ref q1)) fun S5 =>
wA (eI 4096 (fun _ => 0)) S5 L4 fun q6 S8 L9 =>
wO (pF S8 v0 4 1 (.ref q6)) fun S10 =>
wA (eI 4096 (fun _ => 0)) S10 L9 fun q11 S13 L14 =>
wO (pF S13 v0 4 2 (.ref q11)) fun S15 =>
wA (eI 65 (fun _ => 0)) S15 L14 fun q16 S18 L19 =>
wO (pF S18 v0 4 3 (.ref q16)) fun S20 =>
wO (pF S20 v0 4 4 (.null)) fun S21 =>
wO (pF S21 v0 4 5 (.null)) fun S22 =>
wO (pF S22 v0 4 6 (.int (0 : Int32))) fun S23 =>
post S23 L19
set_option maxHeartbeats 4000000 in
set_option maxRecDepth 100000 in
theorem c_X4_init (l : Launch) (D : va_G) (G : Nat → ClassId) (L : List Nat) (S : PH) (v0 sz : Nat) (post : PH → List Nat → Prop) (h : wp_X4_init S L v0 post) : Met l yX4_init [Cond.code yX4_init cX4_init 1 none] ({ frames := 1, cells := 4, slots := 12353, locals := 30 }) (va_Pc [.ref v0] (PreN D G L S sz)) (Qn D G L sz post) 4 12353 (AA L sz) := by
  refine Met.ofW (cc := cX4_init) (maxL := 1) (ret := none) (by decide) rfl ?_
  intro p e s m args below meth c s₁ B hml hv
  obtain ⟨rfl, hpre⟩ := hv
  obtain ⟨C, hao, hsz, w⟩ := o_entN (own := RX4) rfl B hml hpre
  subst hsz
  have hx := C.1.1
  have hb := C.1.2.1
  have hin : meth.name = "<init>" := (name_of_methodNamed B.named B.method).1
  have hA : ∀ q, s.heap.size ≤ q → AA L s.heap.size q := fun q h => Or.inr h
  have hl := lv_entry ([.ref v0]) (n := 1) (Nat.le_of_ble_eq_true rfl)
  rw [lg_entry_eq]
  generalize (lg_sl ([.ref v0]) ++ List.replicate (1 - (lg_sl ([.ref v0])).length) Slot.unset).toArray = ls at hl ⊢
  have hl : lv_has ls 1 [(0, .ref v0)] := hl
  unfold wp_X4_init at h
  refine lv_aload_n hx hb dX4_init_0 rfl (lv_at hl 0 rfl) ?_
  refine W.objInit hx hb C.1.2.2.2.1 (C.1.2.2.2.2 _ koi_X4_3) (C.1.2.2.2.2 _ koi_i) (C.1.2.2.2.2 _ koi_c) rfl (by rw [C.1.2.2.1]; exact hl.1) rfl dX4_init_1 (Nat.le_of_ble_eq_true rfl) (Nat.le_of_ble_eq_true rfl) ?_
  refine W.eq (g2 := F0 m 4 ls []) rfl ?_
  refine lv_aload_n hx hb dX4_init_4 rfl (lv_at hl 0 rfl) ?_
  refine lv_sipush (v := 4096) hx hb dX4_init_5 (by decide) ?_
  refine o_newJ (N := 4096) C w hA (by decide) (by decide) (by decide) (Nat.le_of_ble_eq_true rfl) (Nat.le_of_ble_eq_true rfl) kca_long dX4_init_8 (fun q1 H hq2 w => ?_)
  replace h := h q1 hq2
  generalize hS9 : va_up S q1 _ = S3 at h w
  generalize hL9 : L ++ [q1] = L4 at h w
  clear hS9 hL9
  refine W.widen (k := 1) (n := 4096) (Nat.le_of_ble_eq_true rfl) (Nat.le_of_ble_eq_true rfl) ?_
  obtain ⟨S5, hS5, h⟩ := h
  refine o_pFF C w hin hS5 ff_X4_9 rfl rfl dX4_init_10 (fun H locs w => ?_)
  refine lv_aload_n hx hb dX4_init_13 rfl (lv_at hl 0 rfl) ?_
  refine lv_sipush (v := 4096) hx hb dX4_init_14 (by decide) ?_
  refine o_newI (N := 4096) C w hA (by decide) (by decide) (by decide) (Nat.le_of_ble_eq_true rfl) (Nat.le_of_ble_eq_true rfl) kca_int dX4_init_17 (fun q6 H hq7 w => ?_)
  replace h := h q6 hq7
  generalize hS9 : va_up S5 q6 _ = S8 at h w
  generalize hL9 : L4 ++ [q6] = L9 at h w
  clear hS9 hL9
  refine W.widen (k := 2) (n := 8192) (Nat.le_of_ble_eq_true rfl) (Nat.le_of_ble_eq_true rfl) ?_
  obtain ⟨S10, hS10, h⟩ := h
  refine o_pF C w hS10 fp_X4_15 rfl rfl dX4_init_19 (fun H locs w => ?_)
  refine lv_aload_n hx hb dX4_init_22 rfl (lv_at hl 0 rfl) ?_
  refine lv_sipush (v := 4096) hx hb dX4_init_23 (by decide) ?_
  refine o_newI (N := 4096) C w hA (by decide) (by decide) (by decide) (Nat.le_of_ble_eq_true rfl) (Nat.le_of_ble_eq_true rfl) kca_int dX4_init_26 (fun q11 H hq12 w => ?_)
  replace h := h q11 hq12
  generalize hS9 : va_up S10 q11 _ = S13 at h w
  generalize hL9 : L9 ++ [q11] = L14 at h w
  clear hS9 hL9
  refine W.widen (k := 3) (n := 12288) (Nat.le_of_ble_eq_true rfl) (Nat.le_of_ble_eq_true rfl) ?_
  obtain ⟨S15, hS15, h⟩ := h
  refine o_pF C w hS15 fp_X4_19 rfl rfl dX4_init_28 (fun H locs w => ?_)
  refine lv_aload_n hx hb dX4_init_31 rfl (lv_at hl 0 rfl) ?_
  refine lv_bipush (v := 65) hx hb dX4_init_32 (by decide) ?_
  refine o_newI (N := 65) C w hA (by decide) (by decide) (by decide) (Nat.le_of_ble_eq_true rfl) (Nat.le_of_ble_eq_true rfl) kca_int dX4_init_34 (fun q16 H hq17 w => ?_)
  replace h := h q16 hq17
  generalize hS9 : va_up S15 q16 _ = S18 at h w
  generalize hL9 : L14 ++ [q16] = L19 at h w
  clear hS9 hL9
  refine W.widen (k := 4) (n := 12353) (Nat.le_of_ble_eq_true rfl) (Nat.le_of_ble_eq_true rfl) ?_
  obtain ⟨S20, hS20, h⟩ := h
  refine o_pFF C w hin hS20 ff_X4_22 rfl rfl dX4_init_36 (fun H locs w => ?_)
  refine lv_aload_n hx hb dX4_init_39 rfl (lv_at hl 0 rfl) ?_
  refine lv_null hx hb dX4_init_40 ?_
  obtain ⟨S21, hS21, h⟩ := h
  refine o_pF C w hS21 fp_X4_25 rfl rfl dX4_init_41 (fun H locs w => ?_)
  refine lv_aload_n hx hb dX4_init_44 rfl (lv_at hl 0 rfl) ?_
  refine lv_null hx hb dX4_init_45 ?_
  obtain ⟨S22, hS22, h⟩ := h
  refine o_pF C w hS22 fp_X4_29 rfl rfl dX4_init_46 (fun H locs w => ?_)
  refine lv_aload_n hx hb dX4_init_49 rfl (lv_at hl 0 rfl) ?_
  refine lv_iconst (v := 0) hx hb dX4_init_50 (by decide) ?_
  obtain ⟨S23, hS23, h⟩ := h
  refine o_pF C w hS23 fp_X4_32 rfl rfl dX4_init_51 (fun H locs w => ?_)
  exact o_nret C w h B.returns B.notSynchronized dX4_init_54
def wp_X6_init (S : PH) (L : List Nat) (v0 : Nat) (post : PH → List Nat → Prop) : Prop :=
wA (eI 8 (fun _ => 0)) S L fun q1 S3 L4 =>
wO (pF S3 v0 6 0 (.ref q1)) fun S5 =>
wA (eI 8 (fun _ => 0)) S5 L4 fun q6 S8 L9 =>
wO (pF S8 v0 6 1 (.ref q6)) fun S10 =>
wA (eI 8 (fun _ => 0)) S10 L9 fun q11 S13 L14 =>
wO (pF S13 v0 6 2 (.ref q11)) fun S15 =>
wO (pF S15 v0 6 3 (.int (0 : Int32))) fun S16 =>
post S16 L14
set_option maxHeartbeats 4000000 in
set_option maxRecDepth 100000 in
theorem c_X6_init (l : Launch) (D : va_G) (G : Nat → ClassId) (L : List Nat) (S : PH) (v0 sz : Nat) (post : PH → List Nat → Prop) (h : wp_X6_init S L v0 post) : Met l yX6_init [Cond.code yX6_init cX6_init 1 none] ({ frames := 1, cells := 3, slots := 24, locals := 30 }) (va_Pc [.ref v0] (PreN D G L S sz)) (Qn D G L sz post) 3 24 (AA L sz) := by
  refine Met.ofW (cc := cX6_init) (maxL := 1) (ret := none) (by decide) rfl ?_
  intro p e s m args below meth c s₁ B hml hv
  obtain ⟨rfl, hpre⟩ := hv
  obtain ⟨C, hao, hsz, w⟩ := o_entN (own := RX6) rfl B hml hpre
  subst hsz
  have hx := C.1.1
  have hb := C.1.2.1
  have hin : meth.name = "<init>" := (name_of_methodNamed B.named B.method).1
  have hA : ∀ q, s.heap.size ≤ q → AA L s.heap.size q := fun q h => Or.inr h
  have hl := lv_entry ([.ref v0]) (n := 1) (Nat.le_of_ble_eq_true rfl)
  rw [lg_entry_eq]
  generalize (lg_sl ([.ref v0]) ++ List.replicate (1 - (lg_sl ([.ref v0])).length) Slot.unset).toArray = ls at hl ⊢
  have hl : lv_has ls 1 [(0, .ref v0)] := hl
  unfold wp_X6_init at h
  refine lv_aload_n hx hb dX6_init_0 rfl (lv_at hl 0 rfl) ?_
  refine W.objInit hx hb C.1.2.2.2.1 (C.1.2.2.2.2 _ koi_X6_3) (C.1.2.2.2.2 _ koi_i) (C.1.2.2.2.2 _ koi_c) rfl (by rw [C.1.2.2.1]; exact hl.1) rfl dX6_init_1 (Nat.le_of_ble_eq_true rfl) (Nat.le_of_ble_eq_true rfl) ?_
  refine W.eq (g2 := F0 m 4 ls []) rfl ?_
  refine lv_aload_n hx hb dX6_init_4 rfl (lv_at hl 0 rfl) ?_
  refine lv_bipush (v := 8) hx hb dX6_init_5 (by decide) ?_
  refine o_newI (N := 8) C w hA (by decide) (by decide) (by decide) (Nat.le_of_ble_eq_true rfl) (Nat.le_of_ble_eq_true rfl) kca_int dX6_init_7 (fun q1 H hq2 w => ?_)
  replace h := h q1 hq2
  generalize hS9 : va_up S q1 _ = S3 at h w
  generalize hL9 : L ++ [q1] = L4 at h w
  clear hS9 hL9
  refine W.widen (k := 1) (n := 8) (Nat.le_of_ble_eq_true rfl) (Nat.le_of_ble_eq_true rfl) ?_
  obtain ⟨S5, hS5, h⟩ := h
  refine o_pFF C w hin hS5 ff_X6_9 rfl rfl dX6_init_9 (fun H locs w => ?_)
  refine lv_aload_n hx hb dX6_init_12 rfl (lv_at hl 0 rfl) ?_
  refine lv_bipush (v := 8) hx hb dX6_init_13 (by decide) ?_
  refine o_newI (N := 8) C w hA (by decide) (by decide) (by decide) (Nat.le_of_ble_eq_true rfl) (Nat.le_of_ble_eq_true rfl) kca_int dX6_init_15 (fun q6 H hq7 w => ?_)
  replace h := h q6 hq7
  generalize hS9 : va_up S5 q6 _ = S8 at h w
  generalize hL9 : L4 ++ [q6] = L9 at h w
  clear hS9 hL9
  refine W.widen (k := 2) (n := 16) (Nat.le_of_ble_eq_true rfl) (Nat.le_of_ble_eq_true rfl) ?_
  obtain ⟨S10, hS10, h⟩ := h
  refine o_pFF C w hin hS10 ff_X6_15 rfl rfl dX6_init_17 (fun H locs w => ?_)
  refine lv_aload_n hx hb dX6_init_20 rfl (lv_at hl 0 rfl) ?_
  refine lv_bipush (v := 8) hx hb dX6_init_21 (by decide) ?_
  refine o_newI (N := 8) C w hA (by decide) (by decide) (by decide) (Nat.le_of_ble_eq_true rfl) (Nat.le_of_ble_eq_true rfl) kca_int dX6_init_23 (fun q11 H hq12 w => ?_)
  replace h := h q11 hq12
  generalize hS9 : va_up S10 q11 _ = S13 at h w
  generalize hL9 : L9 ++ [q11] = L14 at h w
  clear hS9 hL9
  refine W.widen (k := 3) (n := 24) (Nat.le_of_ble_eq_true rfl) (Nat.le_of_ble_eq_true rfl) ?_
  obtain ⟨S15, hS15, h⟩ := h
  refine o_pFF C w hin hS15 ff_X6_18 rfl rfl dX6_init_25 (fun H locs w => ?_)
  refine lv_aload_n hx hb dX6_init_28 rfl (lv_at hl 0 rfl) ?_
  refine lv_iconst (v := 0) hx hb dX6_init_29 (by decide) ?_
  obtain ⟨S16, hS16, h⟩ := h
  refine o_pF C w hS16 fp_X6_21 rfl rfl dX6_init_30 (fun H locs w => ?_)
  exact o_nret C w h B.returns B.notSynchronized dX6_init_33
def wp_X5_init (S : PH) (L : List Nat) (v0 : Nat) (post : PH → List Nat → Prop) : Prop :=
wA (eO 2 [.null, .null, .null, .null, .null, .null, .null, .int 0, .int 0, .int 0, .int 0, .int 0]) S L fun q1 S3 L4 =>
wp_X2_init S3 L4 q1 fun S5 L6 =>
wO (pF S5 v0 5 0 (.ref q1)) fun S7 =>
wA (eO 1 [.null, .null]) S7 L6 fun q8 S10 L11 =>
wp_X1_init S10 L11 q8 fun S12 L13 =>
wO (pF S12 v0 5 1 (.ref q8)) fun S14 =>
wA (eO 0 [.null, .int 0, .int 0]) S14 L13 fun q15 S17 L18 =>
wp_X0_init S17 L18 q15 fun S19 L20 =>
wO (pF S19 v0 5 2 (.ref q15)) fun S21 =>
wA (eO 6 [.null, .null, .null, .int 0]) S21 L20 fun q22 S24 L25 =>
wp_X6_init S24 L25 q22 fun S26 L27 =>
wO (pF S26 v0 5 3 (.ref q22)) fun S28 =>
post S28 L27
set_option maxHeartbeats 4000000 in
set_option maxRecDepth 100000 in
theorem c_X5_init (l : Launch) (D : va_G) (G : Nat → ClassId) (L : List Nat) (S : PH) (v0 sz : Nat) (post : PH → List Nat → Prop) (h : wp_X5_init S L v0 post) : Met l yX5_init [Cond.code yX5_init cX5_init 1 none] ({ frames := 2, cells := 26, slots := 1382, locals := 51 }) (va_Pc [.ref v0] (PreN D G L S sz)) (Qn D G L sz post) 26 1382 (AA L sz) := by
  refine Met.ofW (cc := cX5_init) (maxL := 1) (ret := none) (by decide) rfl ?_
  intro p e s m args below meth c s₁ B hml hv
  obtain ⟨rfl, hpre⟩ := hv
  obtain ⟨C, hao, hsz, w⟩ := o_entN (own := RX5) rfl B hml hpre
  subst hsz
  have hx := C.1.1
  have hb := C.1.2.1
  have hin : meth.name = "<init>" := (name_of_methodNamed B.named B.method).1
  have hA : ∀ q, s.heap.size ≤ q → AA L s.heap.size q := fun q h => Or.inr h
  have hl := lv_entry ([.ref v0]) (n := 1) (Nat.le_of_ble_eq_true rfl)
  rw [lg_entry_eq]
  generalize (lg_sl ([.ref v0]) ++ List.replicate (1 - (lg_sl ([.ref v0])).length) Slot.unset).toArray = ls at hl ⊢
  have hl : lv_has ls 1 [(0, .ref v0)] := hl
  unfold wp_X5_init at h
  refine lv_aload_n hx hb dX5_init_0 rfl (lv_at hl 0 rfl) ?_
  refine W.objInit hx hb C.1.2.2.2.1 (C.1.2.2.2.2 _ koi_X5_1) (C.1.2.2.2.2 _ koi_i) (C.1.2.2.2.2 _ koi_c) rfl (by rw [C.1.2.2.1]; exact hl.1) rfl dX5_init_1 (Nat.le_of_ble_eq_true rfl) (Nat.le_of_ble_eq_true rfl) ?_
  refine W.eq (g2 := F0 m 4 ls []) rfl ?_
  refine lv_aload_n hx hb dX5_init_4 rfl (lv_at hl 0 rfl) ?_
  refine o_new C w hA nw_X5_7 (Nat.le_of_ble_eq_true rfl) (Nat.le_of_ble_eq_true rfl) dX5_init_5 (fun q1 H hq2 w => ?_)
  replace h := h q1 hq2
  generalize hS9 : va_up S q1 _ = S3 at h w
  generalize hL9 : L ++ [q1] = L4 at h w
  clear hS9 hL9
  refine W.widen (k := 1) (n := 12) (Nat.le_of_ble_eq_true rfl) (Nat.le_of_ble_eq_true rfl) ?_
  refine lv_dup hx hb dX5_init_8 rfl ?_
  refine o_callN (rest := [.ref q1, .ref v0]) C w hao hA (c_X2_init l D G L4 S3 q1 _ _ h) ml_X5_9 kin_X2_init rfl ⟨rfl, rfl, (Nat.le_of_ble_eq_true rfl), (Nat.le_of_ble_eq_true rfl)⟩ hl.1 (Nat.le_of_ble_eq_true rfl) dX5_init_9 ⟨(Nat.le_of_ble_eq_true rfl), (Nat.le_of_ble_eq_true rfl)⟩ (fun S5 L6 H locs h w => ?_)
  refine W.widen (k := 8) (n := 80) (Nat.le_of_ble_eq_true rfl) (Nat.le_of_ble_eq_true rfl) ?_
  obtain ⟨S7, hS7, h⟩ := h
  refine o_pFF C w hin hS7 ff_X5_10 rfl rfl dX5_init_12 (fun H locs w => ?_)
  refine lv_aload_n hx hb dX5_init_15 rfl (lv_at hl 0 rfl) ?_
  refine o_new C w hA nw_X5_16 (Nat.le_of_ble_eq_true rfl) (Nat.le_of_ble_eq_true rfl) dX5_init_16 (fun q8 H hq9 w => ?_)
  replace h := h q8 hq9
  generalize hS9 : va_up S7 q8 _ = S10 at h w
  generalize hL9 : L6 ++ [q8] = L11 at h w
  clear hS9 hL9
  refine W.widen (k := 9) (n := 82) (Nat.le_of_ble_eq_true rfl) (Nat.le_of_ble_eq_true rfl) ?_
  refine lv_dup hx hb dX5_init_19 rfl ?_
  refine o_callN (rest := [.ref q8, .ref v0]) C w hao hA (c_X1_init l D G L11 S10 q8 _ _ h) ml_X5_18 kin_X1_init rfl ⟨rfl, rfl, (Nat.le_of_ble_eq_true rfl), (Nat.le_of_ble_eq_true rfl)⟩ hl.1 (Nat.le_of_ble_eq_true rfl) dX5_init_20 ⟨(Nat.le_of_ble_eq_true rfl), (Nat.le_of_ble_eq_true rfl)⟩ (fun S12 L13 H locs h w => ?_)
  refine W.widen (k := 15) (n := 346) (Nat.le_of_ble_eq_true rfl) (Nat.le_of_ble_eq_true rfl) ?_
  obtain ⟨S14, hS14, h⟩ := h
  refine o_pFF C w hin hS14 ff_X5_19 rfl rfl dX5_init_23 (fun H locs w => ?_)
  refine lv_aload_n hx hb dX5_init_26 rfl (lv_at hl 0 rfl) ?_
  refine o_new C w hA nw_X5_23 (Nat.le_of_ble_eq_true rfl) (Nat.le_of_ble_eq_true rfl) dX5_init_27 (fun q15 H hq16 w => ?_)
  replace h := h q15 hq16
  generalize hS9 : va_up S14 q15 _ = S17 at h w
  generalize hL9 : L13 ++ [q15] = L18 at h w
  clear hS9 hL9
  refine W.widen (k := 16) (n := 349) (Nat.le_of_ble_eq_true rfl) (Nat.le_of_ble_eq_true rfl) ?_
  refine lv_dup hx hb dX5_init_30 rfl ?_
  refine o_callN (rest := [.ref q15, .ref v0]) C w hao hA (c_X0_init l D G L18 S17 q15 _ _ h) ml_X5_25 kin_X0_init rfl ⟨rfl, rfl, (Nat.le_of_ble_eq_true rfl), (Nat.le_of_ble_eq_true rfl)⟩ hl.1 (Nat.le_of_ble_eq_true rfl) dX5_init_31 ⟨(Nat.le_of_ble_eq_true rfl), (Nat.le_of_ble_eq_true rfl)⟩ (fun S19 L20 H locs h w => ?_)
  refine W.widen (k := 22) (n := 1354) (Nat.le_of_ble_eq_true rfl) (Nat.le_of_ble_eq_true rfl) ?_
  obtain ⟨S21, hS21, h⟩ := h
  refine o_pFF C w hin hS21 ff_X5_26 rfl rfl dX5_init_34 (fun H locs w => ?_)
  refine lv_aload_n hx hb dX5_init_37 rfl (lv_at hl 0 rfl) ?_
  refine o_new C w hA nw_X5_30 (Nat.le_of_ble_eq_true rfl) (Nat.le_of_ble_eq_true rfl) dX5_init_38 (fun q22 H hq23 w => ?_)
  replace h := h q22 hq23
  generalize hS9 : va_up S21 q22 _ = S24 at h w
  generalize hL9 : L20 ++ [q22] = L25 at h w
  clear hS9 hL9
  refine W.widen (k := 23) (n := 1358) (Nat.le_of_ble_eq_true rfl) (Nat.le_of_ble_eq_true rfl) ?_
  refine lv_dup hx hb dX5_init_41 rfl ?_
  refine o_callN (rest := [.ref q22, .ref v0]) C w hao hA (c_X6_init l D G L25 S24 q22 _ _ h) ml_X5_32 kin_X6_init rfl ⟨rfl, rfl, (Nat.le_of_ble_eq_true rfl), (Nat.le_of_ble_eq_true rfl)⟩ hl.1 (Nat.le_of_ble_eq_true rfl) dX5_init_42 ⟨(Nat.le_of_ble_eq_true rfl), (Nat.le_of_ble_eq_true rfl)⟩ (fun S26 L27 H locs h w => ?_)
  refine W.widen (k := 26) (n := 1382) (Nat.le_of_ble_eq_true rfl) (Nat.le_of_ble_eq_true rfl) ?_
  obtain ⟨S28, hS28, h⟩ := h
  refine o_pFF C w hin hS28 ff_X5_33 rfl rfl dX5_init_45 (fun H locs w => ?_)
  exact o_nret C w h B.returns B.notSynchronized dX5_init_48
def wp_X7_init (S : PH) (L : List Nat) (v0 : Nat) (post : PH → List Nat → Prop) : Prop :=
wA (eO 5 [.null, .null, .null, .null]) S L fun q1 S3 L4 =>
wp_X5_init S3 L4 q1 fun S5 L6 =>
wO (pF S5 v0 7 0 (.ref q1)) fun S7 =>
wA (eR 0 3 (fun _ => none)) S7 L6 fun q8 S10 L11 =>
wO (pF S10 v0 7 1 (.ref q8)) fun S12 =>
wA (eZ 3 (fun _ => 0)) S12 L11 fun q13 S15 L16 =>
wO (pF S15 v0 7 2 (.ref q13)) fun S17 =>
wA (eO 3 [.null, .null, .null]) S17 L16 fun q18 S20 L21 =>
wp_X3_init S20 L21 q18 fun S22 L23 =>
wO (pF S22 v0 7 3 (.ref q18)) fun S24 =>
wA (eO 4 [.null, .null, .null, .null, .null, .null, .int 0]) S24 L23 fun q25 S27 L28 =>
wp_X4_init S27 L28 q25 fun S29 L30 =>
wO (pF S29 v0 7 4 (.ref q25)) fun S31 =>
wO (gR S31 v0 7 1) fun x32 =>
wA (eO 5 [.null, .null, .null, .null]) S31 L30 fun q33 S35 L36 =>
wp_X5_init S35 L36 q33 fun S37 L38 =>
wR S37 x32 (0 : Int32) q33 fun S39 =>
wO (gR S39 v0 7 1) fun x40 =>
wA (eO 5 [.null, .null, .null, .null]) S39 L38 fun q41 S43 L44 =>
wp_X5_init S43 L44 q41 fun S45 L46 =>
wR S45 x40 (1 : Int32) q41 fun S47 =>
wO (gR S47 v0 7 1) fun x48 =>
wA (eO 5 [.null, .null, .null, .null]) S47 L46 fun q49 S51 L52 =>
wp_X5_init S51 L52 q49 fun S53 L54 =>
wR S53 x48 (2 : Int32) q49 fun S55 =>
post S55 L54
set_option maxHeartbeats 4000000 in
set_option maxRecDepth 100000 in
theorem c_X7_init (l : Launch) (D : va_G) (G : Nat → ClassId) (L : List Nat) (S : PH) (v0 sz : Nat) (post : PH → List Nat → Prop) (h : wp_X7_init S L v0 post) : Met l yX7_init [Cond.code yX7_init cX7_init 2 none] ({ frames := 3, cells := 119, slots := 26169, locals := 71 }) (va_Pc [.ref v0] (PreN D G L S sz)) (Qn D G L sz post) 119 26169 (AA L sz) := by
  refine Met.ofW (cc := cX7_init) (maxL := 2) (ret := none) (by decide) rfl ?_
  intro p e s m args below meth c s₁ B hml hv
  obtain ⟨rfl, hpre⟩ := hv
  obtain ⟨C, hao, hsz, w⟩ := o_entN (own := RX7) rfl B hml hpre
  subst hsz
  have hx := C.1.1
  have hb := C.1.2.1
  have hin : meth.name = "<init>" := (name_of_methodNamed B.named B.method).1
  have hA : ∀ q, s.heap.size ≤ q → AA L s.heap.size q := fun q h => Or.inr h
  have hl := lv_entry ([.ref v0]) (n := 2) (Nat.le_of_ble_eq_true rfl)
  rw [lg_entry_eq]
  generalize (lg_sl ([.ref v0]) ++ List.replicate (2 - (lg_sl ([.ref v0])).length) Slot.unset).toArray = ls at hl ⊢
  have hl : lv_has ls 2 [(0, .ref v0)] := hl
  unfold wp_X7_init at h
  refine lv_aload_n hx hb dX7_init_0 rfl (lv_at hl 0 rfl) ?_
  refine W.objInit hx hb C.1.2.2.2.1 (C.1.2.2.2.2 _ koi_X7_3) (C.1.2.2.2.2 _ koi_i) (C.1.2.2.2.2 _ koi_c) rfl (by rw [C.1.2.2.1]; exact hl.1) rfl dX7_init_1 (Nat.le_of_ble_eq_true rfl) (Nat.le_of_ble_eq_true rfl) ?_
  refine W.eq (g2 := F0 m 4 ls []) rfl ?_
  refine lv_aload_n hx hb dX7_init_4 rfl (lv_at hl 0 rfl) ?_
  refine o_new C w hA nw_X7_9 (Nat.le_of_ble_eq_true rfl) (Nat.le_of_ble_eq_true rfl) dX7_init_5 (fun q1 H hq2 w => ?_)
  replace h := h q1 hq2
  generalize hS9 : va_up S q1 _ = S3 at h w
  generalize hL9 : L ++ [q1] = L4 at h w
  clear hS9 hL9
  refine W.widen (k := 1) (n := 4) (Nat.le_of_ble_eq_true rfl) (Nat.le_of_ble_eq_true rfl) ?_
  refine lv_dup hx hb dX7_init_8 rfl ?_
  refine o_callN (rest := [.ref q1, .ref v0]) C w hao hA (c_X5_init l D G L4 S3 q1 _ _ h) ml_X7_11 kin_X5_init rfl ⟨rfl, rfl, (Nat.le_of_ble_eq_true rfl), (Nat.le_of_ble_eq_true rfl)⟩ hl.1 (Nat.le_of_ble_eq_true rfl) dX7_init_9 ⟨(Nat.le_of_ble_eq_true rfl), (Nat.le_of_ble_eq_true rfl)⟩ (fun S5 L6 H locs h w => ?_)
  refine W.widen (k := 27) (n := 1386) (Nat.le_of_ble_eq_true rfl) (Nat.le_of_ble_eq_true rfl) ?_
  obtain ⟨S7, hS7, h⟩ := h
  refine o_pFF C w hin hS7 ff_X7_12 rfl rfl dX7_init_12 (fun H locs w => ?_)
  refine lv_aload_n hx hb dX7_init_15 rfl (lv_at hl 0 rfl) ?_
  refine lv_iconst (v := 3) hx hb dX7_init_16 (by decide) ?_
  refine o_newS (N := 3) C w hao hA (by decide) (by decide) (by decide) (Nat.le_of_ble_eq_true rfl) (Nat.le_of_ble_eq_true rfl) kcl_X7_9 dX7_init_17 (fun q8 H hq9 w => ?_)
  replace h := h q8 hq9
  generalize hS9 : va_up S7 q8 _ = S10 at h w
  generalize hL9 : L6 ++ [q8] = L11 at h w
  clear hS9 hL9
  refine W.widen (k := 28) (n := 1389) (Nat.le_of_ble_eq_true rfl) (Nat.le_of_ble_eq_true rfl) ?_
  obtain ⟨S12, hS12, h⟩ := h
  refine o_pFF C w hin hS12 ff_X7_16 rfl rfl dX7_init_20 (fun H locs w => ?_)
  refine lv_aload_n hx hb dX7_init_23 rfl (lv_at hl 0 rfl) ?_
  refine lv_iconst (v := 3) hx hb dX7_init_24 (by decide) ?_
  refine o_newZ (N := 3) C w hA (by decide) (by decide) (by decide) (Nat.le_of_ble_eq_true rfl) (Nat.le_of_ble_eq_true rfl) kca_boolean dX7_init_25 (fun q13 H hq14 w => ?_)
  replace h := h q13 hq14
  generalize hS9 : va_up S12 q13 _ = S15 at h w
  generalize hL9 : L11 ++ [q13] = L16 at h w
  clear hS9 hL9
  refine W.widen (k := 29) (n := 1392) (Nat.le_of_ble_eq_true rfl) (Nat.le_of_ble_eq_true rfl) ?_
  obtain ⟨S17, hS17, h⟩ := h
  refine o_pFF C w hin hS17 ff_X7_20 rfl rfl dX7_init_27 (fun H locs w => ?_)
  refine lv_aload_n hx hb dX7_init_30 rfl (lv_at hl 0 rfl) ?_
  refine o_new C w hA nw_X7_24 (Nat.le_of_ble_eq_true rfl) (Nat.le_of_ble_eq_true rfl) dX7_init_31 (fun q18 H hq19 w => ?_)
  replace h := h q18 hq19
  generalize hS9 : va_up S17 q18 _ = S20 at h w
  generalize hL9 : L16 ++ [q18] = L21 at h w
  clear hS9 hL9
  refine W.widen (k := 30) (n := 1395) (Nat.le_of_ble_eq_true rfl) (Nat.le_of_ble_eq_true rfl) ?_
  refine lv_dup hx hb dX7_init_34 rfl ?_
  refine o_callN (rest := [.ref q18, .ref v0]) C w hao hA (c_X3_init l D G L21 S20 q18 _ _ h) ml_X7_26 kin_X3_init rfl ⟨rfl, rfl, (Nat.le_of_ble_eq_true rfl), (Nat.le_of_ble_eq_true rfl)⟩ hl.1 (Nat.le_of_ble_eq_true rfl) dX7_init_35 ⟨(Nat.le_of_ble_eq_true rfl), (Nat.le_of_ble_eq_true rfl)⟩ (fun S22 L23 H locs h w => ?_)
  refine W.widen (k := 33) (n := 9651) (Nat.le_of_ble_eq_true rfl) (Nat.le_of_ble_eq_true rfl) ?_
  obtain ⟨S24, hS24, h⟩ := h
  refine o_pFF C w hin hS24 ff_X7_27 rfl rfl dX7_init_38 (fun H locs w => ?_)
  refine lv_aload_n hx hb dX7_init_41 rfl (lv_at hl 0 rfl) ?_
  refine o_new C w hA nw_X7_31 (Nat.le_of_ble_eq_true rfl) (Nat.le_of_ble_eq_true rfl) dX7_init_42 (fun q25 H hq26 w => ?_)
  replace h := h q25 hq26
  generalize hS9 : va_up S24 q25 _ = S27 at h w
  generalize hL9 : L23 ++ [q25] = L28 at h w
  clear hS9 hL9
  refine W.widen (k := 34) (n := 9658) (Nat.le_of_ble_eq_true rfl) (Nat.le_of_ble_eq_true rfl) ?_
  refine lv_dup hx hb dX7_init_45 rfl ?_
  refine o_callN (rest := [.ref q25, .ref v0]) C w hao hA (c_X4_init l D G L28 S27 q25 _ _ h) ml_X7_33 kin_X4_init rfl ⟨rfl, rfl, (Nat.le_of_ble_eq_true rfl), (Nat.le_of_ble_eq_true rfl)⟩ hl.1 (Nat.le_of_ble_eq_true rfl) dX7_init_46 ⟨(Nat.le_of_ble_eq_true rfl), (Nat.le_of_ble_eq_true rfl)⟩ (fun S29 L30 H locs h w => ?_)
  refine W.widen (k := 38) (n := 22011) (Nat.le_of_ble_eq_true rfl) (Nat.le_of_ble_eq_true rfl) ?_
  obtain ⟨S31, hS31, h⟩ := h
  refine o_pFF C w hin hS31 ff_X7_34 rfl rfl dX7_init_49 (fun H locs w => ?_)
  refine lv_iconst (v := 0) hx hb dX7_init_52 (by decide) ?_
  refine lv_istore_n (lv' := [(1, .int (0 : Int32)), (0, .ref v0)]) hx hb dX7_init_53 rfl hl (by decide) rfl (fun ls hl => ?_)
  refine lv_iload_n hx hb dX7_init_54 rfl (lv_at hl 0 rfl) ?_
  refine lv_iconst (v := 3) hx hb dX7_init_55 (by decide) ?_
  refine lv_icmp_ge (tgt := 78) hx hb dX7_init_56 (by decide) (fun cq => absurd cq (by decide)) (fun _ => ?_)
  refine lv_aload_n hx hb dX7_init_59 rfl (lv_at hl 1 rfl) ?_
  obtain ⟨x32, hx32, h⟩ := h
  refine o_gR C w hx32 fl_X7_16 dX7_init_60 ?_
  refine lv_iload_n hx hb dX7_init_63 rfl (lv_at hl 0 rfl) ?_
  refine o_new C w hA nw_X7_9 (Nat.le_of_ble_eq_true rfl) (Nat.le_of_ble_eq_true rfl) dX7_init_64 (fun q33 H hq34 w => ?_)
  replace h := h q33 hq34
  generalize hS9 : va_up S31 q33 _ = S35 at h w
  generalize hL9 : L30 ++ [q33] = L36 at h w
  clear hS9 hL9
  refine W.widen (k := 39) (n := 22015) (Nat.le_of_ble_eq_true rfl) (Nat.le_of_ble_eq_true rfl) ?_
  refine lv_dup hx hb dX7_init_67 rfl ?_
  refine o_callN (rest := [.ref q33, .int (0 : Int32), .ref x32]) C w hao hA (c_X5_init l D G L36 S35 q33 _ _ h) ml_X7_11 kin_X5_init rfl ⟨rfl, rfl, (Nat.le_of_ble_eq_true rfl), (Nat.le_of_ble_eq_true rfl)⟩ hl.1 (Nat.le_of_ble_eq_true rfl) dX7_init_68 ⟨(Nat.le_of_ble_eq_true rfl), (Nat.le_of_ble_eq_true rfl)⟩ (fun S37 L38 H locs h w => ?_)
  refine W.widen (k := 65) (n := 23397) (Nat.le_of_ble_eq_true rfl) (Nat.le_of_ble_eq_true rfl) ?_
  obtain ⟨n9, f9, fs9, ha9, hv9, hi9, h⟩ := h
  refine o_ast C w ha9 hv9 hi9 dX7_init_71 (fun H locs w => ?_)
  generalize hS9 : va_up S37 x32 _ = S39 at h w
  clear hS9
  refine lv_iinc (v := 1) (lv' := [(1, .int (1 : Int32)), (0, .ref v0)]) hx hb dX7_init_72 hl (k := 0) rfl (by decide) (by decide) rfl (fun ls hl => ?_)
  refine lv_goto (tgt := 54) hx hb dX7_init_75 (by decide) ?_
  refine lv_iload_n hx hb dX7_init_54 rfl (lv_at hl 0 rfl) ?_
  refine lv_iconst (v := 3) hx hb dX7_init_55 (by decide) ?_
  refine lv_icmp_ge (tgt := 78) hx hb dX7_init_56 (by decide) (fun cq => absurd cq (by decide)) (fun _ => ?_)
  refine lv_aload_n hx hb dX7_init_59 rfl (lv_at hl 1 rfl) ?_
  obtain ⟨x40, hx40, h⟩ := h
  refine o_gR C w hx40 fl_X7_16 dX7_init_60 ?_
  refine lv_iload_n hx hb dX7_init_63 rfl (lv_at hl 0 rfl) ?_
  refine o_new C w hA nw_X7_9 (Nat.le_of_ble_eq_true rfl) (Nat.le_of_ble_eq_true rfl) dX7_init_64 (fun q41 H hq42 w => ?_)
  replace h := h q41 hq42
  generalize hS9 : va_up S39 q41 _ = S43 at h w
  generalize hL9 : L38 ++ [q41] = L44 at h w
  clear hS9 hL9
  refine W.widen (k := 66) (n := 23401) (Nat.le_of_ble_eq_true rfl) (Nat.le_of_ble_eq_true rfl) ?_
  refine lv_dup hx hb dX7_init_67 rfl ?_
  refine o_callN (rest := [.ref q41, .int (1 : Int32), .ref x40]) C w hao hA (c_X5_init l D G L44 S43 q41 _ _ h) ml_X7_11 kin_X5_init rfl ⟨rfl, rfl, (Nat.le_of_ble_eq_true rfl), (Nat.le_of_ble_eq_true rfl)⟩ hl.1 (Nat.le_of_ble_eq_true rfl) dX7_init_68 ⟨(Nat.le_of_ble_eq_true rfl), (Nat.le_of_ble_eq_true rfl)⟩ (fun S45 L46 H locs h w => ?_)
  refine W.widen (k := 92) (n := 24783) (Nat.le_of_ble_eq_true rfl) (Nat.le_of_ble_eq_true rfl) ?_
  obtain ⟨n9, f9, fs9, ha9, hv9, hi9, h⟩ := h
  refine o_ast C w ha9 hv9 hi9 dX7_init_71 (fun H locs w => ?_)
  generalize hS9 : va_up S45 x40 _ = S47 at h w
  clear hS9
  refine lv_iinc (v := 2) (lv' := [(1, .int (2 : Int32)), (0, .ref v0)]) hx hb dX7_init_72 hl (k := 0) rfl (by decide) (by decide) rfl (fun ls hl => ?_)
  refine lv_goto (tgt := 54) hx hb dX7_init_75 (by decide) ?_
  refine lv_iload_n hx hb dX7_init_54 rfl (lv_at hl 0 rfl) ?_
  refine lv_iconst (v := 3) hx hb dX7_init_55 (by decide) ?_
  refine lv_icmp_ge (tgt := 78) hx hb dX7_init_56 (by decide) (fun cq => absurd cq (by decide)) (fun _ => ?_)
  refine lv_aload_n hx hb dX7_init_59 rfl (lv_at hl 1 rfl) ?_
  obtain ⟨x48, hx48, h⟩ := h
  refine o_gR C w hx48 fl_X7_16 dX7_init_60 ?_
  refine lv_iload_n hx hb dX7_init_63 rfl (lv_at hl 0 rfl) ?_
  refine o_new C w hA nw_X7_9 (Nat.le_of_ble_eq_true rfl) (Nat.le_of_ble_eq_true rfl) dX7_init_64 (fun q49 H hq50 w => ?_)
  replace h := h q49 hq50
  generalize hS9 : va_up S47 q49 _ = S51 at h w
  generalize hL9 : L46 ++ [q49] = L52 at h w
  clear hS9 hL9
  refine W.widen (k := 93) (n := 24787) (Nat.le_of_ble_eq_true rfl) (Nat.le_of_ble_eq_true rfl) ?_
  refine lv_dup hx hb dX7_init_67 rfl ?_
  refine o_callN (rest := [.ref q49, .int (2 : Int32), .ref x48]) C w hao hA (c_X5_init l D G L52 S51 q49 _ _ h) ml_X7_11 kin_X5_init rfl ⟨rfl, rfl, (Nat.le_of_ble_eq_true rfl), (Nat.le_of_ble_eq_true rfl)⟩ hl.1 (Nat.le_of_ble_eq_true rfl) dX7_init_68 ⟨(Nat.le_of_ble_eq_true rfl), (Nat.le_of_ble_eq_true rfl)⟩ (fun S53 L54 H locs h w => ?_)
  refine W.widen (k := 119) (n := 26169) (Nat.le_of_ble_eq_true rfl) (Nat.le_of_ble_eq_true rfl) ?_
  obtain ⟨n9, f9, fs9, ha9, hv9, hi9, h⟩ := h
  refine o_ast C w ha9 hv9 hi9 dX7_init_71 (fun H locs w => ?_)
  generalize hS9 : va_up S53 x48 _ = S55 at h w
  clear hS9
  refine lv_iinc (v := 3) (lv' := [(1, .int (3 : Int32)), (0, .ref v0)]) hx hb dX7_init_72 hl (k := 0) rfl (by decide) (by decide) rfl (fun ls hl => ?_)
  refine lv_goto (tgt := 54) hx hb dX7_init_75 (by decide) ?_
  refine lv_iload_n hx hb dX7_init_54 rfl (lv_at hl 0 rfl) ?_
  refine lv_iconst (v := 3) hx hb dX7_init_55 (by decide) ?_
  refine lv_icmp_ge (tgt := 78) hx hb dX7_init_56 (by decide) (fun _ => ?_) (fun cq => absurd (by decide) cq)
  exact o_nret C w h B.returns B.notSynchronized dX7_init_78
def wp_X8_init (S : PH) (L : List Nat) (v0 : Nat) (post : PH → List Nat → Prop) : Prop :=
wA (eI 70056 (fun _ => 0)) S L fun q1 S3 L4 =>
wO (pF S3 v0 8 0 (.ref q1)) fun S5 =>
wA (eZ 3 (fun _ => 0)) S5 L4 fun q6 S8 L9 =>
wO (pF S8 v0 8 1 (.ref q6)) fun S10 =>
wA (eI 610 (fun _ => 0)) S10 L9 fun q11 S13 L14 =>
wO (pF S13 v0 8 6 (.ref q11)) fun S15 =>
wA (eI 610 (fun _ => 0)) S15 L14 fun q16 S18 L19 =>
wO (pF S18 v0 8 7 (.ref q16)) fun S20 =>
wA (eZ 61 (fun _ => 0)) S20 L19 fun q21 S23 L24 =>
wO (pF S23 v0 8 8 (.ref q21)) fun S25 =>
wA (eI 4096 (fun _ => 0)) S25 L24 fun q26 S28 L29 =>
wO (pF S28 v0 8 9 (.ref q26)) fun S30 =>
wA (eJ 4096 (fun _ => 0)) S30 L29 fun q31 S33 L34 =>
wO (pF S33 v0 8 10 (.ref q31)) fun S35 =>
wA (eJ 4096 (fun _ => 0)) S35 L34 fun q36 S38 L39 =>
wO (pF S38 v0 8 11 (.ref q36)) fun S40 =>
wA (eI 4096 (fun _ => 0)) S40 L39 fun q41 S43 L44 =>
wO (pF S43 v0 8 12 (.ref q41)) fun S45 =>
wO (gR S45 v0 8 0) fun x46 =>
wO (stI S45 x46 (2 : Int32) (1 : Int32)) fun S47 =>
wO (gR S47 v0 8 0) fun x48 =>
wO (stI S47 x48 (6 : Int32) (0 : Int32)) fun S49 =>
wO (gR S49 v0 8 0) fun x50 =>
wO (stI S49 x50 (1130 : Int32) (1 : Int32)) fun S51 =>
wO (gR S51 v0 8 0) fun x52 =>
wO (stI S51 x52 (7 : Int32) (1 : Int32)) fun S53 =>
wO (gR S53 v0 8 0) fun x54 =>
wO (stI S53 x54 (5226 : Int32) (1 : Int32)) fun S55 =>
wO (gR S55 v0 8 0) fun x56 =>
wO (stI S55 x56 (8 : Int32) (2 : Int32)) fun S57 =>
wO (gR S57 v0 8 0) fun x58 =>
wO (stI S57 x58 (9322 : Int32) (1 : Int32)) fun S59 =>
wO (gR S59 v0 8 0) fun x60 =>
wO (stI S59 x60 (9 : Int32) (3 : Int32)) fun S61 =>
wO (gR S61 v0 8 0) fun x62 =>
wO (stI S61 x62 (13418 : Int32) (1 : Int32)) fun S63 =>
post S63 L44
set_option maxHeartbeats 4000000 in
set_option maxRecDepth 100000 in
theorem c_X8_init (l : Launch) (D : va_G) (G : Nat → ClassId) (L : List Nat) (S : PH) (v0 sz : Nat) (post : PH → List Nat → Prop) (h : wp_X8_init S L v0 post) : Met l yX8_init [Cond.code yX8_init cX8_init 2 none] ({ frames := 1, cells := 9, slots := 87724, locals := 30 }) (va_Pc [.ref v0] (PreN D G L S sz)) (Qn D G L sz post) 9 87724 (AA L sz) := by
  refine Met.ofW (cc := cX8_init) (maxL := 2) (ret := none) (by decide) rfl ?_
  intro p e s m args below meth c s₁ B hml hv
  obtain ⟨rfl, hpre⟩ := hv
  obtain ⟨C, hao, hsz, w⟩ := o_entN (own := RX8) rfl B hml hpre
  subst hsz
  have hx := C.1.1
  have hb := C.1.2.1
  have hin : meth.name = "<init>" := (name_of_methodNamed B.named B.method).1
  have hA : ∀ q, s.heap.size ≤ q → AA L s.heap.size q := fun q h => Or.inr h
  have hl := lv_entry ([.ref v0]) (n := 2) (Nat.le_of_ble_eq_true rfl)
  rw [lg_entry_eq]
  generalize (lg_sl ([.ref v0]) ++ List.replicate (2 - (lg_sl ([.ref v0])).length) Slot.unset).toArray = ls at hl ⊢
  have hl : lv_has ls 2 [(0, .ref v0)] := hl
  unfold wp_X8_init at h
  refine lv_aload_n hx hb dX8_init_0 rfl (lv_at hl 0 rfl) ?_
  refine W.objInit hx hb C.1.2.2.2.1 (C.1.2.2.2.2 _ koi_X8_1) (C.1.2.2.2.2 _ koi_i) (C.1.2.2.2.2 _ koi_c) rfl (by rw [C.1.2.2.1]; exact hl.1) rfl dX8_init_1 (Nat.le_of_ble_eq_true rfl) (Nat.le_of_ble_eq_true rfl) ?_
  refine W.eq (g2 := F0 m 4 ls []) rfl ?_
  refine lv_aload_n hx hb dX8_init_4 rfl (lv_at hl 0 rfl) ?_
  refine lv_ldc (v := 70056) hx hb C.1.2.2.2.1 (C.1.2.2.2.2 _ kc_X8_7) dX8_init_5 ?_
  refine o_newI (N := 70056) C w hA (by decide) (by decide) (by decide) (Nat.le_of_ble_eq_true rfl) (Nat.le_of_ble_eq_true rfl) kca_int dX8_init_7 (fun q1 H hq2 w => ?_)
  replace h := h q1 hq2
  generalize hS9 : va_up S q1 _ = S3 at h w
  generalize hL9 : L ++ [q1] = L4 at h w
  clear hS9 hL9
  refine W.widen (k := 1) (n := 70056) (Nat.le_of_ble_eq_true rfl) (Nat.le_of_ble_eq_true rfl) ?_
  obtain ⟨S5, hS5, h⟩ := h
  refine o_pFF C w hin hS5 ff_X8_8 rfl rfl dX8_init_9 (fun H locs w => ?_)
  refine lv_aload_n hx hb dX8_init_12 rfl (lv_at hl 0 rfl) ?_
  refine lv_iconst (v := 3) hx hb dX8_init_13 (by decide) ?_
  refine o_newZ (N := 3) C w hA (by decide) (by decide) (by decide) (Nat.le_of_ble_eq_true rfl) (Nat.le_of_ble_eq_true rfl) kca_boolean dX8_init_14 (fun q6 H hq7 w => ?_)
  replace h := h q6 hq7
  generalize hS9 : va_up S5 q6 _ = S8 at h w
  generalize hL9 : L4 ++ [q6] = L9 at h w
  clear hS9 hL9
  refine W.widen (k := 2) (n := 70059) (Nat.le_of_ble_eq_true rfl) (Nat.le_of_ble_eq_true rfl) ?_
  obtain ⟨S10, hS10, h⟩ := h
  refine o_pFF C w hin hS10 ff_X8_14 rfl rfl dX8_init_16 (fun H locs w => ?_)
  refine lv_aload_n hx hb dX8_init_19 rfl (lv_at hl 0 rfl) ?_
  refine lv_sipush (v := 610) hx hb dX8_init_20 (by decide) ?_
  refine o_newI (N := 610) C w hA (by decide) (by decide) (by decide) (Nat.le_of_ble_eq_true rfl) (Nat.le_of_ble_eq_true rfl) kca_int dX8_init_23 (fun q11 H hq12 w => ?_)
  replace h := h q11 hq12
  generalize hS9 : va_up S10 q11 _ = S13 at h w
  generalize hL9 : L9 ++ [q11] = L14 at h w
  clear hS9 hL9
  refine W.widen (k := 3) (n := 70669) (Nat.le_of_ble_eq_true rfl) (Nat.le_of_ble_eq_true rfl) ?_
  obtain ⟨S15, hS15, h⟩ := h
  refine o_pFF C w hin hS15 ff_X8_18 rfl rfl dX8_init_25 (fun H locs w => ?_)
  refine lv_aload_n hx hb dX8_init_28 rfl (lv_at hl 0 rfl) ?_
  refine lv_sipush (v := 610) hx hb dX8_init_29 (by decide) ?_
  refine o_newI (N := 610) C w hA (by decide) (by decide) (by decide) (Nat.le_of_ble_eq_true rfl) (Nat.le_of_ble_eq_true rfl) kca_int dX8_init_32 (fun q16 H hq17 w => ?_)
  replace h := h q16 hq17
  generalize hS9 : va_up S15 q16 _ = S18 at h w
  generalize hL9 : L14 ++ [q16] = L19 at h w
  clear hS9 hL9
  refine W.widen (k := 4) (n := 71279) (Nat.le_of_ble_eq_true rfl) (Nat.le_of_ble_eq_true rfl) ?_
  obtain ⟨S20, hS20, h⟩ := h
  refine o_pFF C w hin hS20 ff_X8_21 rfl rfl dX8_init_34 (fun H locs w => ?_)
  refine lv_aload_n hx hb dX8_init_37 rfl (lv_at hl 0 rfl) ?_
  refine lv_bipush (v := 61) hx hb dX8_init_38 (by decide) ?_
  refine o_newZ (N := 61) C w hA (by decide) (by decide) (by decide) (Nat.le_of_ble_eq_true rfl) (Nat.le_of_ble_eq_true rfl) kca_boolean dX8_init_40 (fun q21 H hq22 w => ?_)
  replace h := h q21 hq22
  generalize hS9 : va_up S20 q21 _ = S23 at h w
  generalize hL9 : L19 ++ [q21] = L24 at h w
  clear hS9 hL9
  refine W.widen (k := 5) (n := 71340) (Nat.le_of_ble_eq_true rfl) (Nat.le_of_ble_eq_true rfl) ?_
  obtain ⟨S25, hS25, h⟩ := h
  refine o_pFF C w hin hS25 ff_X8_24 rfl rfl dX8_init_42 (fun H locs w => ?_)
  refine lv_aload_n hx hb dX8_init_45 rfl (lv_at hl 0 rfl) ?_
  refine lv_sipush (v := 4096) hx hb dX8_init_46 (by decide) ?_
  refine o_newI (N := 4096) C w hA (by decide) (by decide) (by decide) (Nat.le_of_ble_eq_true rfl) (Nat.le_of_ble_eq_true rfl) kca_int dX8_init_49 (fun q26 H hq27 w => ?_)
  replace h := h q26 hq27
  generalize hS9 : va_up S25 q26 _ = S28 at h w
  generalize hL9 : L24 ++ [q26] = L29 at h w
  clear hS9 hL9
  refine W.widen (k := 6) (n := 75436) (Nat.le_of_ble_eq_true rfl) (Nat.le_of_ble_eq_true rfl) ?_
  obtain ⟨S30, hS30, h⟩ := h
  refine o_pFF C w hin hS30 ff_X8_27 rfl rfl dX8_init_51 (fun H locs w => ?_)
  refine lv_aload_n hx hb dX8_init_54 rfl (lv_at hl 0 rfl) ?_
  refine lv_sipush (v := 4096) hx hb dX8_init_55 (by decide) ?_
  refine o_newJ (N := 4096) C w hA (by decide) (by decide) (by decide) (Nat.le_of_ble_eq_true rfl) (Nat.le_of_ble_eq_true rfl) kca_long dX8_init_58 (fun q31 H hq32 w => ?_)
  replace h := h q31 hq32
  generalize hS9 : va_up S30 q31 _ = S33 at h w
  generalize hL9 : L29 ++ [q31] = L34 at h w
  clear hS9 hL9
  refine W.widen (k := 7) (n := 79532) (Nat.le_of_ble_eq_true rfl) (Nat.le_of_ble_eq_true rfl) ?_
  obtain ⟨S35, hS35, h⟩ := h
  refine o_pFF C w hin hS35 ff_X8_30 rfl rfl dX8_init_60 (fun H locs w => ?_)
  refine lv_aload_n hx hb dX8_init_63 rfl (lv_at hl 0 rfl) ?_
  refine lv_sipush (v := 4096) hx hb dX8_init_64 (by decide) ?_
  refine o_newJ (N := 4096) C w hA (by decide) (by decide) (by decide) (Nat.le_of_ble_eq_true rfl) (Nat.le_of_ble_eq_true rfl) kca_long dX8_init_67 (fun q36 H hq37 w => ?_)
  replace h := h q36 hq37
  generalize hS9 : va_up S35 q36 _ = S38 at h w
  generalize hL9 : L34 ++ [q36] = L39 at h w
  clear hS9 hL9
  refine W.widen (k := 8) (n := 83628) (Nat.le_of_ble_eq_true rfl) (Nat.le_of_ble_eq_true rfl) ?_
  obtain ⟨S40, hS40, h⟩ := h
  refine o_pFF C w hin hS40 ff_X8_34 rfl rfl dX8_init_69 (fun H locs w => ?_)
  refine lv_aload_n hx hb dX8_init_72 rfl (lv_at hl 0 rfl) ?_
  refine lv_sipush (v := 4096) hx hb dX8_init_73 (by decide) ?_
  refine o_newI (N := 4096) C w hA (by decide) (by decide) (by decide) (Nat.le_of_ble_eq_true rfl) (Nat.le_of_ble_eq_true rfl) kca_int dX8_init_76 (fun q41 H hq42 w => ?_)
  replace h := h q41 hq42
  generalize hS9 : va_up S40 q41 _ = S43 at h w
  generalize hL9 : L39 ++ [q41] = L44 at h w
  clear hS9 hL9
  refine W.widen (k := 9) (n := 87724) (Nat.le_of_ble_eq_true rfl) (Nat.le_of_ble_eq_true rfl) ?_
  obtain ⟨S45, hS45, h⟩ := h
  refine o_pFF C w hin hS45 ff_X8_37 rfl rfl dX8_init_78 (fun H locs w => ?_)
  refine lv_aload_n hx hb dX8_init_81 rfl (lv_at hl 0 rfl) ?_
  obtain ⟨x46, hx46, h⟩ := h
  refine o_gR C w hx46 fl_X8_8 dX8_init_82 ?_
  refine lv_iconst (v := 2) hx hb dX8_init_85 (by decide) ?_
  refine lv_iconst (v := 1) hx hb dX8_init_86 (by decide) ?_
  obtain ⟨S47, hS47, h⟩ := h
  refine o_stI C w hS47 dX8_init_87 (fun H locs w => ?_)
  refine lv_iconst (v := 0) hx hb dX8_init_88 (by decide) ?_
  refine lv_istore_n (lv' := [(1, .int (0 : Int32)), (0, .ref v0)]) hx hb dX8_init_89 rfl hl (by decide) rfl (fun ls hl => ?_)
  refine lv_iload_n hx hb dX8_init_90 rfl (lv_at hl 0 rfl) ?_
  refine lv_iconst (v := 4) hx hb dX8_init_91 (by decide) ?_
  refine lv_icmp_ge (tgt := 126) hx hb dX8_init_92 (by decide) (fun cq => absurd cq (by decide)) (fun _ => ?_)
  refine lv_aload_n hx hb dX8_init_95 rfl (lv_at hl 1 rfl) ?_
  obtain ⟨x48, hx48, h⟩ := h
  refine o_gR C w hx48 fl_X8_8 dX8_init_96 ?_
  refine lv_bipush (v := 6) hx hb dX8_init_99 (by decide) ?_
  refine lv_iload_n hx hb dX8_init_101 rfl (lv_at hl 0 rfl) ?_
  refine lv_iadd hx hb dX8_init_102 ?_
  refine o_topi (y := 6) (by decide) ?_
  refine lv_iload_n hx hb dX8_init_103 rfl (lv_at hl 0 rfl) ?_
  obtain ⟨S49, hS49, h⟩ := h
  refine o_stI C w hS49 dX8_init_104 (fun H locs w => ?_)
  refine lv_aload_n hx hb dX8_init_105 rfl (lv_at hl 1 rfl) ?_
  obtain ⟨x50, hx50, h⟩ := h
  refine o_gR C w hx50 fl_X8_8 dX8_init_106 ?_
  refine lv_sipush (v := 1130) hx hb dX8_init_109 (by decide) ?_
  refine lv_sipush (v := 4096) hx hb dX8_init_112 (by decide) ?_
  refine lv_iload_n hx hb dX8_init_115 rfl (lv_at hl 0 rfl) ?_
  refine lv_imul hx hb dX8_init_116 ?_
  refine o_topi (y := 0) (by decide) ?_
  refine lv_iadd hx hb dX8_init_117 ?_
  refine o_topi (y := 1130) (by decide) ?_
  refine lv_iconst (v := 1) hx hb dX8_init_118 (by decide) ?_
  obtain ⟨S51, hS51, h⟩ := h
  refine o_stI C w hS51 dX8_init_119 (fun H locs w => ?_)
  refine lv_iinc (v := 1) (lv' := [(1, .int (1 : Int32)), (0, .ref v0)]) hx hb dX8_init_120 hl (k := 0) rfl (by decide) (by decide) rfl (fun ls hl => ?_)
  refine lv_goto (tgt := 90) hx hb dX8_init_123 (by decide) ?_
  refine lv_iload_n hx hb dX8_init_90 rfl (lv_at hl 0 rfl) ?_
  refine lv_iconst (v := 4) hx hb dX8_init_91 (by decide) ?_
  refine lv_icmp_ge (tgt := 126) hx hb dX8_init_92 (by decide) (fun cq => absurd cq (by decide)) (fun _ => ?_)
  refine lv_aload_n hx hb dX8_init_95 rfl (lv_at hl 1 rfl) ?_
  obtain ⟨x52, hx52, h⟩ := h
  refine o_gR C w hx52 fl_X8_8 dX8_init_96 ?_
  refine lv_bipush (v := 6) hx hb dX8_init_99 (by decide) ?_
  refine lv_iload_n hx hb dX8_init_101 rfl (lv_at hl 0 rfl) ?_
  refine lv_iadd hx hb dX8_init_102 ?_
  refine o_topi (y := 7) (by decide) ?_
  refine lv_iload_n hx hb dX8_init_103 rfl (lv_at hl 0 rfl) ?_
  obtain ⟨S53, hS53, h⟩ := h
  refine o_stI C w hS53 dX8_init_104 (fun H locs w => ?_)
  refine lv_aload_n hx hb dX8_init_105 rfl (lv_at hl 1 rfl) ?_
  obtain ⟨x54, hx54, h⟩ := h
  refine o_gR C w hx54 fl_X8_8 dX8_init_106 ?_
  refine lv_sipush (v := 1130) hx hb dX8_init_109 (by decide) ?_
  refine lv_sipush (v := 4096) hx hb dX8_init_112 (by decide) ?_
  refine lv_iload_n hx hb dX8_init_115 rfl (lv_at hl 0 rfl) ?_
  refine lv_imul hx hb dX8_init_116 ?_
  refine o_topi (y := 4096) (by decide) ?_
  refine lv_iadd hx hb dX8_init_117 ?_
  refine o_topi (y := 5226) (by decide) ?_
  refine lv_iconst (v := 1) hx hb dX8_init_118 (by decide) ?_
  obtain ⟨S55, hS55, h⟩ := h
  refine o_stI C w hS55 dX8_init_119 (fun H locs w => ?_)
  refine lv_iinc (v := 2) (lv' := [(1, .int (2 : Int32)), (0, .ref v0)]) hx hb dX8_init_120 hl (k := 0) rfl (by decide) (by decide) rfl (fun ls hl => ?_)
  refine lv_goto (tgt := 90) hx hb dX8_init_123 (by decide) ?_
  refine lv_iload_n hx hb dX8_init_90 rfl (lv_at hl 0 rfl) ?_
  refine lv_iconst (v := 4) hx hb dX8_init_91 (by decide) ?_
  refine lv_icmp_ge (tgt := 126) hx hb dX8_init_92 (by decide) (fun cq => absurd cq (by decide)) (fun _ => ?_)
  refine lv_aload_n hx hb dX8_init_95 rfl (lv_at hl 1 rfl) ?_
  obtain ⟨x56, hx56, h⟩ := h
  refine o_gR C w hx56 fl_X8_8 dX8_init_96 ?_
  refine lv_bipush (v := 6) hx hb dX8_init_99 (by decide) ?_
  refine lv_iload_n hx hb dX8_init_101 rfl (lv_at hl 0 rfl) ?_
  refine lv_iadd hx hb dX8_init_102 ?_
  refine o_topi (y := 8) (by decide) ?_
  refine lv_iload_n hx hb dX8_init_103 rfl (lv_at hl 0 rfl) ?_
  obtain ⟨S57, hS57, h⟩ := h
  refine o_stI C w hS57 dX8_init_104 (fun H locs w => ?_)
  refine lv_aload_n hx hb dX8_init_105 rfl (lv_at hl 1 rfl) ?_
  obtain ⟨x58, hx58, h⟩ := h
  refine o_gR C w hx58 fl_X8_8 dX8_init_106 ?_
  refine lv_sipush (v := 1130) hx hb dX8_init_109 (by decide) ?_
  refine lv_sipush (v := 4096) hx hb dX8_init_112 (by decide) ?_
  refine lv_iload_n hx hb dX8_init_115 rfl (lv_at hl 0 rfl) ?_
  refine lv_imul hx hb dX8_init_116 ?_
  refine o_topi (y := 8192) (by decide) ?_
  refine lv_iadd hx hb dX8_init_117 ?_
  refine o_topi (y := 9322) (by decide) ?_
  refine lv_iconst (v := 1) hx hb dX8_init_118 (by decide) ?_
  obtain ⟨S59, hS59, h⟩ := h
  refine o_stI C w hS59 dX8_init_119 (fun H locs w => ?_)
  refine lv_iinc (v := 3) (lv' := [(1, .int (3 : Int32)), (0, .ref v0)]) hx hb dX8_init_120 hl (k := 0) rfl (by decide) (by decide) rfl (fun ls hl => ?_)
  refine lv_goto (tgt := 90) hx hb dX8_init_123 (by decide) ?_
  refine lv_iload_n hx hb dX8_init_90 rfl (lv_at hl 0 rfl) ?_
  refine lv_iconst (v := 4) hx hb dX8_init_91 (by decide) ?_
  refine lv_icmp_ge (tgt := 126) hx hb dX8_init_92 (by decide) (fun cq => absurd cq (by decide)) (fun _ => ?_)
  refine lv_aload_n hx hb dX8_init_95 rfl (lv_at hl 1 rfl) ?_
  obtain ⟨x60, hx60, h⟩ := h
  refine o_gR C w hx60 fl_X8_8 dX8_init_96 ?_
  refine lv_bipush (v := 6) hx hb dX8_init_99 (by decide) ?_
  refine lv_iload_n hx hb dX8_init_101 rfl (lv_at hl 0 rfl) ?_
  refine lv_iadd hx hb dX8_init_102 ?_
  refine o_topi (y := 9) (by decide) ?_
  refine lv_iload_n hx hb dX8_init_103 rfl (lv_at hl 0 rfl) ?_
  obtain ⟨S61, hS61, h⟩ := h
  refine o_stI C w hS61 dX8_init_104 (fun H locs w => ?_)
  refine lv_aload_n hx hb dX8_init_105 rfl (lv_at hl 1 rfl) ?_
  obtain ⟨x62, hx62, h⟩ := h
  refine o_gR C w hx62 fl_X8_8 dX8_init_106 ?_
  refine lv_sipush (v := 1130) hx hb dX8_init_109 (by decide) ?_
  refine lv_sipush (v := 4096) hx hb dX8_init_112 (by decide) ?_
  refine lv_iload_n hx hb dX8_init_115 rfl (lv_at hl 0 rfl) ?_
  refine lv_imul hx hb dX8_init_116 ?_
  refine o_topi (y := 12288) (by decide) ?_
  refine lv_iadd hx hb dX8_init_117 ?_
  refine o_topi (y := 13418) (by decide) ?_
  refine lv_iconst (v := 1) hx hb dX8_init_118 (by decide) ?_
  obtain ⟨S63, hS63, h⟩ := h
  refine o_stI C w hS63 dX8_init_119 (fun H locs w => ?_)
  refine lv_iinc (v := 4) (lv' := [(1, .int (4 : Int32)), (0, .ref v0)]) hx hb dX8_init_120 hl (k := 0) rfl (by decide) (by decide) rfl (fun ls hl => ?_)
  refine lv_goto (tgt := 90) hx hb dX8_init_123 (by decide) ?_
  refine lv_iload_n hx hb dX8_init_90 rfl (lv_at hl 0 rfl) ?_
  refine lv_iconst (v := 4) hx hb dX8_init_91 (by decide) ?_
  refine lv_icmp_ge (tgt := 126) hx hb dX8_init_92 (by decide) (fun _ => ?_) (fun cq => absurd (by decide) cq)
  exact o_nret C w h B.returns B.notSynchronized dX8_init_126
