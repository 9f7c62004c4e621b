def f_X7_largestGranted_b74 (S : PH) (v0 : Nat) (v1 : Int32) (v2 : Int32) (v5 : Int32) (v6 : Int32) : Option ((Int32 × Int32 × PH) ⊕ (Int32 × PH)) :=
some (.inl (v5, (v6 + (-1)), S))
def f_X7_largestGranted_L18 (rec : PH → Nat → Int32 → Int32 → Int32 → Int32 → Option (Int32 × PH)) (S : PH) (v0 : Nat) (v1 : Int32) (v2 : Int32) (v5 : Int32) (v6 : Int32) : Option ((Int32 × Int32 × PH) ⊕ (Int32 × PH)) :=
if v6 < 0 then (
some (.inr (v5, S)))
else (
(f_J6_bitCount_0f7a4 v5).bind fun x1 =>
if ((v1 + (1 : Int32)) + v6) < x1 then (
some (.inr (v5, S)))
else (
(ckO S v0 4).bind fun _ =>
bd2 (f_X4_isGranted S v0 (v2 ||| ((1 : Int32) <<< (v6 &&& 31)))) fun x2 S3 =>
if x2 = 0 then (
f_X7_largestGranted_b74 S3 v0 v1 v2 v5 v6)
else (
(f_X7_betterOf v5 (v2 ||| ((1 : Int32) <<< (v6 &&& 31)))).bind fun x4 =>
bd2 (rec S3 v0 (v1 + (1 : Int32)) (v2 ||| ((1 : Int32) <<< (v6 &&& 31))) v6 x4) fun x5 S6 =>
f_X7_largestGranted_b74 S6 v0 v1 v2 x5 v6)))
def fB_X7_largestGranted (rec : PH → Nat → Int32 → Int32 → Int32 → Int32 → Option (Int32 × PH)) (S : PH) (v0 : Nat) (v1 : Int32) (v2 : Int32) (v3 : Int32) (v4 : Int32) : Option (Int32 × PH) :=
if v1 < (8 : Int32) then (
bd2 (lpo (fun x : Int32 × Int32 × PH => f_X7_largestGranted_L18 rec x.2.2 v0 v1 v2 x.1 x.2.1) FU (v4, (v3 - (1 : Int32)), S)) fun y7 S8 =>
some (y7, S8))
else (
some (v4, S))
set_option maxHeartbeats 4000000 in
set_option maxRecDepth 100000 in
theorem w_X7_largestGranted {p : Program} {l : Launch} {e : Env} {R : Room} {s : State} {m : MethodId} {args : Array Value} {below : List Frame} {meth : Method} {c : Code} {cells slots : Nat} {Q : State → Prop} {D : va_G} {G : Nat → ClassId} {L : List Nat} {A : Nat → Prop} {H0 : Heap} (C : CX p s m c args D G cX7_largestGranted 8 RX7) (hLA : ∀ q ∈ L, A q) (hcs : cells ≤ R.cells ∧ slots ≤ R.slots) (hR_J6_bitCount_0f7a4 : RoomOk R ({ frames := 0, cells := 0, slots := 0, locals := 0 }) 1) (hR_X4_isGranted : RoomOk R ({ frames := 4, cells := 0, slots := 0, locals := 98 }) 3) (hR_X7_betterOf : RoomOk R ({ frames := 1, cells := 0, slots := 0, locals := 21 }) 3) (rec : PH → Nat → Int32 → Int32 → Int32 → Int32 → Option (Int32 × PH)) (rmr : Room) (hR_X7_largestGranted : RoomOk R rmr 8) (hrec : ∀ (S : PH) (v0 : Nat) (v1 v2 v3 v4 : Int32) (r : Int32 × PH), rec S v0 v1 v2 v3 v4 = some r → Met l yX7_largestGranted [Cond.code yX7_largestGranted cX7_largestGranted 8 (some .int)] rmr (va_Pc [.ref v0, .int v1, .int v2, .int v3, .int v4] (PreU D G L S)) (Qi D G L r.1 r.2) 0 0 (inL L)) (S : PH) (v0 : Nat) (v1 : Int32) (v2 : Int32) (v3 : Int32) (v4 : Int32) (r : Int32 × PH) (h : fB_X7_largestGranted rec S v0 v1 v2 v3 v4 = some r) (hret : ∀ (v : Int32) (S9 : PH) (H : Heap) (locs : List Loc) (ls : Array Slot) (pc : Nat), Wd D G L A H0 S9 H locs → (v, S9) = r → decode cX7_largestGranted pc = .ok (.ireturn, 1) → W p l e R s m args below meth c H locs cells slots Q (F0 m pc ls [.int v])) : ∀ (H : Heap) (locs : List Loc) (ls : Array Slot), Wd D G L A H0 S H locs → lv_has ls 8 [(0, .ref v0), (1, .int v1), (2, .int v2), (3, .int v3), (4, .int v4)] → W p l e R s m args below meth c H locs cells slots Q (F0 m 0 ls []) := by
  have hx := C.1.1
  have hb := C.1.2.1
  unfold fB_X7_largestGranted at h
  intro H locs ls w hl
  refine lv_iload_n hx hb dX7_largestGranted_0 rfl (lv_at hl 1 rfl) ?_
  refine lv_bipush (v := 8) hx hb dX7_largestGranted_1 (by decide) ?_
  refine lv_icmp_lt (tgt := 9) hx hb dX7_largestGranted_3 (by decide) (fun cc3 => ?_) (fun cc3 => ?_)
  · have h := it cc3 h
    refine lv_iload hx hb dX7_largestGranted_9 (lv_at hl 4 rfl) ?_
    refine lv_istore (lv' := [(5, .int v4), (0, .ref v0), (1, .int v1), (2, .int v2), (3, .int v3), (4, .int v4)]) hx hb dX7_largestGranted_11 hl (by decide) rfl (fun ls hl => ?_)
    refine lv_iload_n hx hb dX7_largestGranted_13 rfl (lv_at hl 4 rfl) ?_
    refine lv_iconst (v := 1) hx hb dX7_largestGranted_14 (by decide) ?_
    refine lv_isub hx hb dX7_largestGranted_15 ?_
    refine lv_istore (lv' := [(6, .int (v3 - (1 : Int32))), (5, .int v4), (0, .ref v0), (1, .int v1), (2, .int v2), (3, .int v3), (4, .int v4)]) hx hb dX7_largestGranted_16 hl (by decide) rfl (fun ls hl => ?_)
    obtain ⟨y7, S8, hL18, h⟩ := bs2 h
    have hE18 : ∀ (q9 : Int32) (q10 : PH), (y7, S8) = (q9, q10) → ∀ (H : Heap) (locs : List Loc) (ls : Array Slot), Wd D G L A H0 q10 H locs → lv_has ls 8 [(5, .int q9)] → W p l e R s m args below meth c H locs cells slots Q (F0 m 80 ls []) := by
      intro q9 q10 he
      cases he
      intro H locs ls w hl
      refine lv_iload hx hb dX7_largestGranted_80 (lv_at hl 0 rfl) ?_
      exact hret _ _ _ _ _ _ w (Option.some.inj h) dX7_largestGranted_82
    refine lpo_W (P := fun x : Int32 × Int32 × PH => ∀ (H : Heap) (locs : List Loc) (ls : Array Slot), Wd D G L A H0 x.2.2 H locs → lv_has ls 8 [(0, .ref v0), (1, .int v1), (2, .int v2), (5, .int x.1), (6, .int x.2.1)] → W p l e R s m args below meth c H locs cells slots Q (F0 m 18 ls [])) ?_ FU _ hL18 H locs ls w (lv_sub hl [2, 3, 4, 1, 0] rfl)
    intro x y18 h hnext18 hend18
    obtain ⟨t11, t12, S13⟩ := x
    have h : f_X7_largestGranted_L18 rec S13 v0 v1 v2 t11 t12 = some y18 := h
    unfold f_X7_largestGranted_L18 at h
    have hb74 : ∀ (S14 : PH) (u15 : Int32) (u16 : Int32), f_X7_largestGranted_b74 S14 v0 v1 v2 u15 u16 = some y18 → ∀ (H : Heap) (locs : List Loc) (ls : Array Slot), Wd D G L A H0 S14 H locs → lv_has ls 8 [(0, .ref v0), (1, .int v1), (2, .int v2), (5, .int u15), (6, .int u16)] → W p l e R s m args below meth c H locs cells slots Q (F0 m 74 ls []) := by
      intro S14 u15 u16 h H locs ls w hl
      unfold f_X7_largestGranted_b74 at h
      refine lv_iinc (v := (u16 + (-1))) (lv' := [(6, .int (u16 + (-1))), (0, .ref v0), (1, .int v1), (2, .int v2), (5, .int u15)]) hx hb dX7_largestGranted_74 hl (k := 4) rfl rfl (by decide) rfl (fun ls hl => ?_)
      refine lv_goto (tgt := 18) hx hb dX7_largestGranted_77 (by decide) ?_
      exact hnext18 _ (Option.some.inj h).symm H locs ls w (lv_sub hl [1, 2, 3, 4, 0] rfl)
    intro H locs ls w hl
    have hl : lv_has ls 8 [(0, .ref v0), (1, .int v1), (2, .int v2), (5, .int t11), (6, .int t12)] := hl
    have w : Wd D G L A H0 S13 H locs := w
    refine lv_iload hx hb dX7_largestGranted_18 (lv_at hl 4 rfl) ?_
    refine lv_if_lt (tgt := 80) hx hb dX7_largestGranted_20 (by decide) (fun cc20 => ?_) (fun cc20 => ?_)
    · have h := it cc20 h
      exact hE18 _ _ (hend18 _ (Option.some.inj h).symm).symm H locs ls w (lv_sub hl [3] rfl)
    · have h := ie cc20 h
      refine lv_iload_n hx hb dX7_largestGranted_23 rfl (lv_at hl 1 rfl) ?_
      refine lv_iconst (v := 1) hx hb dX7_largestGranted_24 (by decide) ?_
      refine lv_iadd hx hb dX7_largestGranted_25 ?_
      refine lv_iload hx hb dX7_largestGranted_26 (lv_at hl 4 rfl) ?_
      refine lv_iadd hx hb dX7_largestGranted_28 ?_
      refine lv_iload hx hb dX7_largestGranted_29 (lv_at hl 3 rfl) ?_
      obtain ⟨x17, hc, h⟩ := bs h
      refine o_backi w hLA (o_runS (As := [.int t11]) (rest := [.int ((v1 + (1 : Int32)) + t12)]) C w (c_J6_bitCount_0f7a4 l D G L S13 t11 x17 hc) ml_X7_135 st_J6_bitCount_0f7a4 hR_J6_bitCount_0f7a4 rfl hl.1 rfl (Nat.le_of_ble_eq_true rfl) dX7_largestGranted_31 hcs) (fun H locs w => ?_)
      refine lv_icmp_lt (tgt := 80) hx hb dX7_largestGranted_34 (by decide) (fun cc34 => ?_) (fun cc34 => ?_)
      · have h := it cc34 h
        exact hE18 _ _ (hend18 _ (Option.some.inj h).symm).symm H locs ls w (lv_sub hl [3] rfl)
      · have h := ie cc34 h
        refine lv_iload_n hx hb dX7_largestGranted_37 rfl (lv_at hl 2 rfl) ?_
        refine lv_iconst (v := 1) hx hb dX7_largestGranted_38 (by decide) ?_
        refine lv_iload hx hb dX7_largestGranted_39 (lv_at hl 4 rfl) ?_
        refine lv_ishl hx hb dX7_largestGranted_41 ?_
        refine lv_ior hx hb dX7_largestGranted_42 ?_
        refine lv_istore (lv' := [(7, .int (v2 ||| ((1 : Int32) <<< (t12 &&& 31)))), (0, .ref v0), (1, .int v1), (2, .int v2), (5, .int t11), (6, .int t12)]) hx hb dX7_largestGranted_43 hl (by decide) rfl (fun ls hl => ?_)
        refine lv_aload_n hx hb dX7_largestGranted_45 rfl (lv_at hl 1 rfl) ?_
        refine lv_iload hx hb dX7_largestGranted_46 (lv_at hl 0 rfl) ?_
        obtain ⟨_, ho, h⟩ := bs h
        obtain ⟨x18, S19, hc, h⟩ := bs2 h
        refine o_backi w hLA (o_runV (As := [.int (v2 ||| ((1 : Int32) <<< (t12 &&& 31)))]) (rest := []) C w (c_X4_isGranted l D G L S13 v0 (v2 ||| ((1 : Int32) <<< (t12 &&& 31))) (x18, S19) hc) ml_X7_178 mv_X4_isGranted hR_X4_isGranted ho rfl hl.1 rfl (Nat.le_of_ble_eq_true rfl) dX7_largestGranted_48 hcs) (fun H locs w => ?_)
        refine lv_if_eq (tgt := 74) hx hb dX7_largestGranted_51 (by decide) (fun cc51 => ?_) (fun cc51 => ?_)
        · have h := it cc51 h
          exact hb74 _ _ _ h H locs ls w (lv_sub hl [1, 2, 3, 4, 5] rfl)
        · have h := ie cc51 h
          refine lv_aload_n hx hb dX7_largestGranted_54 rfl (lv_at hl 1 rfl) ?_
          refine lv_iload_n hx hb dX7_largestGranted_55 rfl (lv_at hl 2 rfl) ?_
          refine lv_iconst (v := 1) hx hb dX7_largestGranted_56 (by decide) ?_
          refine lv_iadd hx hb dX7_largestGranted_57 ?_
          refine lv_iload hx hb dX7_largestGranted_58 (lv_at hl 0 rfl) ?_
          refine lv_iload hx hb dX7_largestGranted_60 (lv_at hl 5 rfl) ?_
          refine lv_iload hx hb dX7_largestGranted_62 (lv_at hl 4 rfl) ?_
          refine lv_iload hx hb dX7_largestGranted_64 (lv_at hl 0 rfl) ?_
          obtain ⟨x20, hc, h⟩ := bs h
          refine o_backi w hLA (o_runS (As := [.int t11, .int (v2 ||| ((1 : Int32) <<< (t12 &&& 31)))]) (rest := [.int t12, .int (v2 ||| ((1 : Int32) <<< (t12 &&& 31))), .int (v1 + (1 : Int32)), .ref v0]) C w (c_X7_betterOf l D G L S19 t11 (v2 ||| ((1 : Int32) <<< (t12 &&& 31))) x20 hc) ml_X7_242 st_X7_betterOf hR_X7_betterOf rfl hl.1 rfl (Nat.le_of_ble_eq_true rfl) dX7_largestGranted_66 hcs) (fun H locs w => ?_)
          obtain ⟨x21, S22, hc, h⟩ := bs2 h
          refine o_backi w hLA (o_runS (As := [.ref v0, .int (v1 + (1 : Int32)), .int (v2 ||| ((1 : Int32) <<< (t12 &&& 31))), .int t12, .int x20]) (rest := []) C w (hrec S19 v0 (v1 + (1 : Int32)) (v2 ||| ((1 : Int32) <<< (t12 &&& 31))) t12 x20 (x21, S22) hc) ml_X7_174 st_X7_largestGranted hR_X7_largestGranted rfl hl.1 rfl (Nat.le_of_ble_eq_true rfl) dX7_largestGranted_69 hcs) (fun H locs w => ?_)
          refine lv_istore (lv' := [(5, .int x21), (7, .int (v2 ||| ((1 : Int32) <<< (t12 &&& 31)))), (0, .ref v0), (1, .int v1), (2, .int v2), (6, .int t12)]) hx hb dX7_largestGranted_72 hl (by decide) rfl (fun ls hl => ?_)
          exact hb74 _ _ _ h H locs ls w (lv_sub hl [2, 3, 4, 0, 5] rfl)
  · have h := ie cc3 h
    refine lv_iload hx hb dX7_largestGranted_6 (lv_at hl 4 rfl) ?_
    exact hret _ _ _ _ _ _ w (Option.some.inj h) dX7_largestGranted_8
def f_X7_largestGranted : Nat → PH → Nat → Int32 → Int32 → Int32 → Int32 → Option (Int32 × PH)
  | 0 => fun _ _ _ _ _ _ => none
  | n + 1 => fB_X7_largestGranted (f_X7_largestGranted n)
abbrev rmL (n : Nat) : Room := { frames := 5 + n, cells := 0, slots := 0, locals := 130 + 27 * n }
set_option maxHeartbeats 4000000 in
set_option maxRecDepth 100000 in
theorem c_X7_largestGranted (n : Nat) (l : Launch) (D : va_G) (G : Nat → ClassId) (L : List Nat) : ∀ (S : PH) (v0 : Nat) (v1 v2 v3 v4 : Int32) (r : Int32 × PH), f_X7_largestGranted n S v0 v1 v2 v3 v4 = some r → Met l yX7_largestGranted [Cond.code yX7_largestGranted cX7_largestGranted 8 (some .int)] (rmL n) (va_Pc [.ref v0, .int v1, .int v2, .int v3, .int v4] (PreU D G L S)) (Qi D G L r.1 r.2) 0 0 (inL L) := by
  induction n with
  | zero => intro S v0 v1 v2 v3 v4 r h; cases h
  | succ n ih =>
    intro S v0 v1 v2 v3 v4 r h
    refine Met.ofW (cc := cX7_largestGranted) (maxL := 8) (ret := (some .int)) (by decide) rfl ?_
    intro p e s m args below meth c s₁ B hml hv
    obtain ⟨rfl, hpre⟩ := hv
    obtain ⟨C, w⟩ := o_ent (own := RX7) rfl B hml hpre
    have hl := lv_entry ([.ref v0, .int v1, .int v2, .int v3, .int v4]) (n := 8) (Nat.le_of_ble_eq_true rfl)
    rw [lg_entry_eq]
    generalize (lg_sl ([.ref v0, .int v1, .int v2, .int v3, .int v4]) ++ List.replicate (8 - (lg_sl ([.ref v0, .int v1, .int v2, .int v3, .int v4])).length) Slot.unset).toArray = ls at hl ⊢
    have hrm : (headSpec [Cond.code yX7_largestGranted cX7_largestGranted 8 (some .int)] (rmL (n + 1))).room = rmL (n + 1) := rfl
    have k1 : (rmL (n + 1)).frames = 5 + (n + 1) := rfl
    have k2 : (rmL (n + 1)).locals = 130 + 27 * (n + 1) := rfl
    exact w_X7_largestGranted C (fun _ h => h) ⟨Nat.zero_le _, Nat.zero_le _⟩ ⟨rfl, rfl, by rw [hrm, k1]; show 0 + 1 ≤ _; omega, by rw [hrm, k2]; show 8 + (1 + 11) + 0 ≤ _; omega⟩ ⟨rfl, rfl, by rw [hrm, k1]; show 4 + 1 ≤ _; omega, by rw [hrm, k2]; show 8 + (3 + 11) + 98 ≤ _; omega⟩ ⟨rfl, rfl, by rw [hrm, k1]; show 1 + 1 ≤ _; omega, by rw [hrm, k2]; show 8 + (3 + 11) + 21 ≤ _; omega⟩ (f_X7_largestGranted n) (rmL n) ⟨rfl, rfl, by rw [hrm, k1]; show 5 + n + 1 ≤ _; omega, by rw [hrm, k2]; show 8 + (8 + 11) + (130 + 27 * n) ≤ _; omega⟩ ih S v0 v1 v2 v3 v4 r h (fun v S9 H locs ls pc w hv hd => by subst hv; exact o_iret C w B.returns B.notSynchronized hd) _ _ _ w hl

def f_X7_most (S : PH) (v0 : Nat) (v1 : Int32) : Option (Int32 × PH) :=
(f_X7_isAsker v1).bind fun x1 =>
if x1 = 0 then (
some ((-1 : Int32), S))
else (
(ckO S v0 7).bind fun _ =>
(f_X7_answerWishes S v0 v1).bind fun S2 =>
(gR S2 v0 7 4).bind fun x3 =>
(gR S2 v0 7 0).bind fun x4 =>
(gR S2 x4 5 3).bind fun x5 =>
(gI S2 x5 6 3).bind fun x6 =>
bd2 (f_X7_largestGranted 10 S2 x3 (0 : Int32) (0 : Int32) x6 (0 : Int32)) fun x7 S8 =>
some (x7, S8))
set_option maxHeartbeats 4000000 in
set_option maxRecDepth 100000 in
theorem w_X7_most {p : Program} {l : Launch} {e : Env} {R : Room} {s : State} {m : MethodId} {args : Array Value} {below : List Frame} {meth : Method} {c : Code} {cells slots : Nat} {Q : State → Prop} {D : va_G} {G : Nat → ClassId} {L : List Nat} {A : Nat → Prop} {H0 : Heap} (C : CX p s m c args D G cX7_most 2 RX7) (hLA : ∀ q ∈ L, A q) (hcs : cells ≤ R.cells ∧ slots ≤ R.slots) (hR_X7_isAsker : RoomOk R ({ frames := 0, cells := 0, slots := 0, locals := 0 }) 1) (hR_X7_answerWishes : RoomOk R ({ frames := 3, cells := 0, slots := 0, locals := 76 }) 4) (hR_X7_largestGranted : RoomOk R ({ frames := 15, cells := 0, slots := 0, locals := 400 }) 8) (S : PH) (v0 : Nat) (v1 : Int32) (r : Int32 × PH) (h : f_X7_most S v0 v1 = some r) (hret : ∀ (v : Int32) (S9 : PH) (H : Heap) (locs : List Loc) (ls : Array Slot) (pc : Nat), Wd D G L A H0 S9 H locs → (v, S9) = r → decode cX7_most pc = .ok (.ireturn, 1) → W p l e R s m args below meth c H locs cells slots Q (F0 m pc ls [.int v])) : ∀ (H : Heap) (locs : List Loc) (ls : Array Slot), Wd D G L A H0 S H locs → lv_has ls 2 [(0, .ref v0), (1, .int v1)] → W p l e R s m args below meth c H locs cells slots Q (F0 m 0 ls []) := by
  have hx := C.1.1
  have hb := C.1.2.1
  unfold f_X7_most at h
  intro H locs ls w hl
  refine lv_iload_n hx hb dX7_most_0 rfl (lv_at hl 1 rfl) ?_
  obtain ⟨x1, hc, h⟩ := bs h
  refine o_backi w hLA (o_runS (As := [.int v1]) (rest := []) C w (c_X7_isAsker l D G L S v1 x1 hc) ml_X7_69 st_X7_isAsker hR_X7_isAsker rfl hl.1 rfl (Nat.le_of_ble_eq_true rfl) dX7_most_1 hcs) (fun H locs w => ?_)
  refine lv_if_ne (tgt := 9) hx hb dX7_most_4 (by decide) (fun cc4 => ?_) (fun cc4 => ?_)
  · have h := ie cc4 h
    refine lv_aload_n hx hb dX7_most_9 rfl (lv_at hl 0 rfl) ?_
    refine lv_iload_n hx hb dX7_most_10 rfl (lv_at hl 1 rfl) ?_
    obtain ⟨_, ho, h⟩ := bs h
    obtain ⟨S2, hc, h⟩ := bs h
    refine o_backv w hLA (o_runV (As := [.int v1]) (rest := []) C w (c_X7_answerWishes l D G L S v0 v1 S2 hc) ml_X7_170 mv_X7_answerWishes hR_X7_answerWishes ho rfl hl.1 rfl (Nat.le_of_ble_eq_true rfl) dX7_most_11 hcs) (fun H locs w => ?_)
    refine lv_aload_n hx hb dX7_most_14 rfl (lv_at hl 0 rfl) ?_
    obtain ⟨x3, hx3, h⟩ := bs h
    refine o_gR C w hx3 fl_X7_34 dX7_most_15 ?_
    refine lv_iconst (v := 0) hx hb dX7_most_18 (by decide) ?_
    refine lv_iconst (v := 0) hx hb dX7_most_19 (by decide) ?_
    refine lv_aload_n hx hb dX7_most_20 rfl (lv_at hl 0 rfl) ?_
    obtain ⟨x4, hx4, h⟩ := bs h
    refine o_gR C w hx4 fl_X7_12 dX7_most_21 ?_
    obtain ⟨x5, hx5, h⟩ := bs h
    refine o_gR C w hx5 fl_X7_160 dX7_most_24 ?_
    obtain ⟨x6, hx6, h⟩ := bs h
    refine o_gI C w hx6 fl_X7_164 dX7_most_27 ?_
    refine lv_iconst (v := 0) hx hb dX7_most_30 (by decide) ?_
    obtain ⟨x7, S8, hc, h⟩ := bs2 h
    refine o_backi w hLA (o_runS (As := [.ref x3, .int (0 : Int32), .int (0 : Int32), .int x6, .int (0 : Int32)]) (rest := []) C w (c_X7_largestGranted 10 l D G L S2 x3 (0 : Int32) (0 : Int32) x6 (0 : Int32) (x7, S8) hc) ml_X7_174 st_X7_largestGranted hR_X7_largestGranted rfl hl.1 rfl (Nat.le_of_ble_eq_true rfl) dX7_most_31 hcs) (fun H locs w => ?_)
    exact hret _ _ _ _ _ _ w (Option.some.inj h) dX7_most_34
  · have h := it cc4 h
    refine lv_iconst (v := -1) hx hb dX7_most_7 (by decide) ?_
    exact hret _ _ _ _ _ _ w (Option.some.inj h) dX7_most_8
set_option maxHeartbeats 4000000 in
set_option maxRecDepth 100000 in
theorem c_X7_most (l : Launch) (D : va_G) (G : Nat → ClassId) (L : List Nat) (S : PH) (v0 : Nat) (v1 : Int32) (r : Int32 × PH) (h : f_X7_most S v0 v1 = some r) : Met l yX7_most [Cond.code yX7_most cX7_most 2 (some .int)] ({ frames := 16, cells := 0, slots := 0, locals := 427 }) (va_Pc [.ref v0, .int v1] (PreU D G L S)) (Qi D G L r.1 r.2) 0 0 (inL L) := by
  refine Met.ofW (cc := cX7_most) (maxL := 2) (ret := (some .int)) (by decide) rfl ?_
  intro p e s m args below meth c s₁ B hml hv
  obtain ⟨rfl, hpre⟩ := hv
  obtain ⟨C, w⟩ := o_ent (own := RX7) rfl B hml hpre
  have hl := lv_entry ([.ref v0, .int v1]) (n := 2) (Nat.le_of_ble_eq_true rfl)
  rw [lg_entry_eq]
  generalize (lg_sl ([.ref v0, .int v1]) ++ List.replicate (2 - (lg_sl ([.ref v0, .int v1])).length) Slot.unset).toArray = ls at hl ⊢
  exact w_X7_most C (fun _ h => h) ⟨Nat.zero_le _, Nat.zero_le _⟩ ⟨rfl, rfl, Nat.le_of_ble_eq_true rfl, Nat.le_of_ble_eq_true rfl⟩ ⟨rfl, rfl, Nat.le_of_ble_eq_true rfl, Nat.le_of_ble_eq_true rfl⟩ ⟨rfl, rfl, Nat.le_of_ble_eq_true rfl, Nat.le_of_ble_eq_true rfl⟩ S v0 v1 r h (fun v S9 H locs ls pc w hv hd => by subst hv; exact o_iret C w B.returns B.notSynchronized hd) _ _ _ w hl
