def f_X8_isIn (v0 : Int32) (v1 : Int32) (v2 : Int32) : Option (Int32) :=
if v0 < v1 then (
some (0 : Int32))
else (
if v2 < v0 then (
some (0 : Int32))
else (
some (1 : Int32)))
set_option maxHeartbeats 4000000 in
set_option maxRecDepth 100000 in
theorem w_X8_isIn {p : Program} {l : Launch} {e : Env} {R : Room} {s : State} {m : MethodId} {args : Array Value} {below : List Frame} {meth : Method} {c : Code} {cells slots : Nat} {Q : State → Prop} {D : va_G} {G : Nat → ClassId} {L : List Nat} {A : Nat → Prop} {H0 : Heap} (C : CX p s m c args D G cX8_isIn 3 RX8) (hLA : ∀ q ∈ L, A q) (hcs : cells ≤ R.cells ∧ slots ≤ R.slots)  (S : PH) (v0 : Int32) (v1 : Int32) (v2 : Int32) (r : Int32) (h : f_X8_isIn v0 v1 v2 = some r) (hret : ∀ (v : Int32) (H : Heap) (locs : List Loc) (ls : Array Slot) (pc : Nat), Wd D G L A H0 S H locs → narrow .boolean (.int v) = .int v → v = r → decode cX8_isIn pc = .ok (.ireturn, 1) → W p l e R s m args below meth c H locs cells slots Q (F0 m pc ls [.int v])) : ∀ (H : Heap) (locs : List Loc) (ls : Array Slot), Wd D G L A H0 S H locs → lv_has ls 3 [(0, .int v0), (1, .int v1), (2, .int v2)] → W p l e R s m args below meth c H locs cells slots Q (F0 m 0 ls []) := by
  have hx := C.1.1
  have hb := C.1.2.1
  unfold f_X8_isIn at h
  intro H locs ls w hl
  refine lv_iload_n hx hb dX8_isIn_0 rfl (lv_at hl 0 rfl) ?_
  refine lv_iload_n hx hb dX8_isIn_1 rfl (lv_at hl 1 rfl) ?_
  refine lv_icmp_lt (tgt := 14) hx hb dX8_isIn_2 (by decide) (fun cc2 => ?_) (fun cc2 => ?_)
  · have h := it cc2 h
    refine lv_iconst (v := 0) hx hb dX8_isIn_14 (by decide) ?_
    exact hret _ _ _ _ _ w rfl (Option.some.inj h) dX8_isIn_15
  · have h := ie cc2 h
    refine lv_iload_n hx hb dX8_isIn_5 rfl (lv_at hl 0 rfl) ?_
    refine lv_iload_n hx hb dX8_isIn_6 rfl (lv_at hl 2 rfl) ?_
    refine lv_icmp_gt (tgt := 14) hx hb dX8_isIn_7 (by decide) (fun cc7 => ?_) (fun cc7 => ?_)
    · have h := it cc7 h
      refine lv_iconst (v := 0) hx hb dX8_isIn_14 (by decide) ?_
      exact hret _ _ _ _ _ w rfl (Option.some.inj h) dX8_isIn_15
    · have h := ie cc7 h
      refine lv_iconst (v := 1) hx hb dX8_isIn_10 (by decide) ?_
      refine lv_goto (tgt := 15) hx hb dX8_isIn_11 (by decide) ?_
      exact hret _ _ _ _ _ w rfl (Option.some.inj h) dX8_isIn_15
set_option maxHeartbeats 4000000 in
set_option maxRecDepth 100000 in
theorem c_X8_isIn (l : Launch) (D : va_G) (G : Nat → ClassId) (L : List Nat) (S : PH) (v0 : Int32) (v1 : Int32) (v2 : Int32) (r : Int32) (h : f_X8_isIn v0 v1 v2 = some r) : Met l yX8_isIn [Cond.code yX8_isIn cX8_isIn 3 (some .boolean)] ({ frames := 0, cells := 0, slots := 0, locals := 0 }) (va_Pc [.int v0, .int v1, .int v2] (PreU D G L S)) (Qi D G L r S) 0 0 (inL L) := by
  refine Met.ofW (cc := cX8_isIn) (maxL := 3) (ret := (some .boolean)) (by decide) rfl ?_
  intro p e s m args below meth c s₁ B hml hv
  obtain ⟨rfl, hpre⟩ := hv
  obtain ⟨C, w⟩ := o_ent (own := RX8) rfl B hml hpre
  have hl := lv_entry ([.int v0, .int v1, .int v2]) (n := 3) (Nat.le_of_ble_eq_true rfl)
  rw [lg_entry_eq]
  generalize (lg_sl ([.int v0, .int v1, .int v2]) ++ List.replicate (3 - (lg_sl ([.int v0, .int v1, .int v2])).length) Slot.unset).toArray = ls at hl ⊢
  exact w_X8_isIn C (fun _ h => h) ⟨Nat.zero_le _, Nat.zero_le _⟩  S v0 v1 v2 r h (fun v H locs ls pc w hz hv hd => by subst hv; exact o_zret C w B.returns B.notSynchronized hz hd) _ _ _ w hl

def f_X8_isAsker (v0 : Int32) : Option (Int32) :=
(f_X8_isIn v0 (0 : Int32) (3 : Int32)).bind fun x1 =>
(ckZ x1).bind fun _ =>
some x1
set_option maxHeartbeats 4000000 in
set_option maxRecDepth 100000 in
theorem w_X8_isAsker {p : Program} {l : Launch} {e : Env} {R : Room} {s : State} {m : MethodId} {args : Array Value} {below : List Frame} {meth : Method} {c : Code} {cells slots : Nat} {Q : State → Prop} {D : va_G} {G : Nat → ClassId} {L : List Nat} {A : Nat → Prop} {H0 : Heap} (C : CX p s m c args D G cX8_isAsker 1 RX8) (hLA : ∀ q ∈ L, A q) (hcs : cells ≤ R.cells ∧ slots ≤ R.slots) (hR_X8_isIn : RoomOk R ({ frames := 0, cells := 0, slots := 0, locals := 0 }) 3) (S : PH) (v0 : Int32) (r : Int32) (h : f_X8_isAsker v0 = some r) (hret : ∀ (v : Int32) (H : Heap) (locs : List Loc) (ls : Array Slot) (pc : Nat), Wd D G L A H0 S H locs → narrow .boolean (.int v) = .int v → v = r → decode cX8_isAsker pc = .ok (.ireturn, 1) → W p l e R s m args below meth c H locs cells slots Q (F0 m pc ls [.int v])) : ∀ (H : Heap) (locs : List Loc) (ls : Array Slot), Wd D G L A H0 S H locs → lv_has ls 1 [(0, .int v0)] → W p l e R s m args below meth c H locs cells slots Q (F0 m 0 ls []) := by
  have hx := C.1.1
  have hb := C.1.2.1
  unfold f_X8_isAsker at h
  intro H locs ls w hl
  refine lv_iload_n hx hb dX8_isAsker_0 rfl (lv_at hl 0 rfl) ?_
  refine lv_iconst (v := 0) hx hb dX8_isAsker_1 (by decide) ?_
  refine lv_iconst (v := 3) hx hb dX8_isAsker_2 (by decide) ?_
  obtain ⟨x1, hc, h⟩ := bs h
  refine o_backi w hLA (o_runS (As := [.int v0, .int (0 : Int32), .int (3 : Int32)]) (rest := []) C w (c_X8_isIn l D G L S v0 (0 : Int32) (3 : Int32) x1 hc) ml_X8_40 st_X8_isIn hR_X8_isIn rfl hl.1 rfl (Nat.le_of_ble_eq_true rfl) dX8_isAsker_3 hcs) (fun H locs w => ?_)
  obtain ⟨_, hz, h⟩ := bs h
  exact hret _ _ _ _ _ w (ckZ_some hz) (Option.some.inj h) dX8_isAsker_6
set_option maxHeartbeats 4000000 in
set_option maxRecDepth 100000 in
theorem c_X8_isAsker (l : Launch) (D : va_G) (G : Nat → ClassId) (L : List Nat) (S : PH) (v0 : Int32) (r : Int32) (h : f_X8_isAsker v0 = some r) : Met l yX8_isAsker [Cond.code yX8_isAsker cX8_isAsker 1 (some .boolean)] ({ frames := 1, cells := 0, slots := 0, locals := 22 }) (va_Pc [.int v0] (PreU D G L S)) (Qi D G L r S) 0 0 (inL L) := by
  refine Met.ofW (cc := cX8_isAsker) (maxL := 1) (ret := (some .boolean)) (by decide) rfl ?_
  intro p e s m args below meth c s₁ B hml hv
  obtain ⟨rfl, hpre⟩ := hv
  obtain ⟨C, w⟩ := o_ent (own := RX8) rfl B hml hpre
  have hl := lv_entry ([.int v0]) (n := 1) (Nat.le_of_ble_eq_true rfl)
  rw [lg_entry_eq]
  generalize (lg_sl ([.int v0]) ++ List.replicate (1 - (lg_sl ([.int v0])).length) Slot.unset).toArray = ls at hl ⊢
  exact w_X8_isAsker C (fun _ h => h) ⟨Nat.zero_le _, Nat.zero_le _⟩ ⟨rfl, rfl, Nat.le_of_ble_eq_true rfl, Nat.le_of_ble_eq_true rfl⟩ S v0 r h (fun v H locs ls pc w hz hv hd => by subst hv; exact o_zret C w B.returns B.notSynchronized hz hd) _ _ _ w hl

def f_X8_isPerson (S : PH) (v0 : Nat) (v1 : Int32) : Option (Int32) :=
(gR S v0 8 0).bind fun x1 =>
(ldI S x1 (0 : Int32)).bind fun x2 =>
(f_X8_isIn v1 (0 : Int32) (x2 - (1 : Int32))).bind fun x3 =>
(ckZ x3).bind fun _ =>
some x3
set_option maxHeartbeats 4000000 in
set_option maxRecDepth 100000 in
theorem w_X8_isPerson {p : Program} {l : Launch} {e : Env} {R : Room} {s : State} {m : MethodId} {args : Array Value} {below : List Frame} {meth : Method} {c : Code} {cells slots : Nat} {Q : State → Prop} {D : va_G} {G : Nat → ClassId} {L : List Nat} {A : Nat → Prop} {H0 : Heap} (C : CX p s m c args D G cX8_isPerson 2 RX8) (hLA : ∀ q ∈ L, A q) (hcs : cells ≤ R.cells ∧ slots ≤ R.slots) (hR_X8_isIn : RoomOk R ({ frames := 0, cells := 0, slots := 0, locals := 0 }) 3) (S : PH) (v0 : Nat) (v1 : Int32) (r : Int32) (h : f_X8_isPerson S v0 v1 = some r) (hret : ∀ (v : Int32) (H : Heap) (locs : List Loc) (ls : Array Slot) (pc : Nat), Wd D G L A H0 S H locs → narrow .boolean (.int v) = .int v → v = r → decode cX8_isPerson pc = .ok (.ireturn, 1) → W p l e R s m args below meth c H locs cells slots Q (F0 m pc ls [.int v])) : ∀ (H : Heap) (locs : List Loc) (ls : Array Slot), Wd D G L A H0 S H locs → lv_has ls 2 [(0, .ref v0), (1, .int v1)] → W p l e R s m args below meth c H locs cells slots Q (F0 m 0 ls []) := by
  have hx := C.1.1
  have hb := C.1.2.1
  unfold f_X8_isPerson at h
  intro H locs ls w hl
  refine lv_iload_n hx hb dX8_isPerson_0 rfl (lv_at hl 1 rfl) ?_
  refine lv_iconst (v := 0) hx hb dX8_isPerson_1 (by decide) ?_
  refine lv_aload_n hx hb dX8_isPerson_2 rfl (lv_at hl 0 rfl) ?_
  obtain ⟨x1, hx1, h⟩ := bs h
  refine o_gR C w hx1 fl_X8_8 dX8_isPerson_3 ?_
  refine lv_iconst (v := 0) hx hb dX8_isPerson_6 (by decide) ?_
  obtain ⟨x2, hx2, h⟩ := bs h
  refine o_ldI C w hx2 dX8_isPerson_7 ?_
  refine lv_iconst (v := 1) hx hb dX8_isPerson_8 (by decide) ?_
  refine lv_isub hx hb dX8_isPerson_9 ?_
  obtain ⟨x3, hc, h⟩ := bs h
  refine o_backi w hLA (o_runS (As := [.int v1, .int (0 : Int32), .int (x2 - (1 : Int32))]) (rest := []) C w (c_X8_isIn l D G L S v1 (0 : Int32) (x2 - (1 : Int32)) x3 hc) ml_X8_40 st_X8_isIn hR_X8_isIn rfl hl.1 rfl (Nat.le_of_ble_eq_true rfl) dX8_isPerson_10 hcs) (fun H locs w => ?_)
  obtain ⟨_, hz, h⟩ := bs h
  exact hret _ _ _ _ _ w (ckZ_some hz) (Option.some.inj h) dX8_isPerson_13
set_option maxHeartbeats 4000000 in
set_option maxRecDepth 100000 in
theorem c_X8_isPerson (l : Launch) (D : va_G) (G : Nat → ClassId) (L : List Nat) (S : PH) (v0 : Nat) (v1 : Int32) (r : Int32) (h : f_X8_isPerson S v0 v1 = some r) : Met l yX8_isPerson [Cond.code yX8_isPerson cX8_isPerson 2 (some .boolean)] ({ frames := 1, cells := 0, slots := 0, locals := 22 }) (va_Pc [.ref v0, .int v1] (PreU D G L S)) (Qi D G L r S) 0 0 (inL L) := by
  refine Met.ofW (cc := cX8_isPerson) (maxL := 2) (ret := (some .boolean)) (by decide) rfl ?_
  intro p e s m args below meth c s₁ B hml hv
  obtain ⟨rfl, hpre⟩ := hv
  obtain ⟨C, w⟩ := o_ent (own := RX8) rfl B hml hpre
  have hl := lv_entry ([.ref v0, .int v1]) (n := 2) (Nat.le_of_ble_eq_true rfl)
  rw [lg_entry_eq]
  generalize (lg_sl ([.ref v0, .int v1]) ++ List.replicate (2 - (lg_sl ([.ref v0, .int v1])).length) Slot.unset).toArray = ls at hl ⊢
  exact w_X8_isPerson C (fun _ h => h) ⟨Nat.zero_le _, Nat.zero_le _⟩ ⟨rfl, rfl, Nat.le_of_ble_eq_true rfl, Nat.le_of_ble_eq_true rfl⟩ S v0 v1 r h (fun v H locs ls pc w hz hv hd => by subst hv; exact o_zret C w B.returns B.notSynchronized hz hd) _ _ _ w hl

def f_X8_isNumber (S : PH) (v0 : Nat) (v1 : Int32) : Option (Int32) :=
(gR S v0 8 0).bind fun x1 =>
(ldI S x1 (1 : Int32)).bind fun x2 =>
(f_X8_isIn v1 (0 : Int32) (x2 - (1 : Int32))).bind fun x3 =>
(ckZ x3).bind fun _ =>
some x3
set_option maxHeartbeats 4000000 in
set_option maxRecDepth 100000 in
theorem w_X8_isNumber {p : Program} {l : Launch} {e : Env} {R : Room} {s : State} {m : MethodId} {args : Array Value} {below : List Frame} {meth : Method} {c : Code} {cells slots : Nat} {Q : State → Prop} {D : va_G} {G : Nat → ClassId} {L : List Nat} {A : Nat → Prop} {H0 : Heap} (C : CX p s m c args D G cX8_isNumber 2 RX8) (hLA : ∀ q ∈ L, A q) (hcs : cells ≤ R.cells ∧ slots ≤ R.slots) (hR_X8_isIn : RoomOk R ({ frames := 0, cells := 0, slots := 0, locals := 0 }) 3) (S : PH) (v0 : Nat) (v1 : Int32) (r : Int32) (h : f_X8_isNumber S v0 v1 = some r) (hret : ∀ (v : Int32) (H : Heap) (locs : List Loc) (ls : Array Slot) (pc : Nat), Wd D G L A H0 S H locs → narrow .boolean (.int v) = .int v → v = r → decode cX8_isNumber pc = .ok (.ireturn, 1) → W p l e R s m args below meth c H locs cells slots Q (F0 m pc ls [.int v])) : ∀ (H : Heap) (locs : List Loc) (ls : Array Slot), Wd D G L A H0 S H locs → lv_has ls 2 [(0, .ref v0), (1, .int v1)] → W p l e R s m args below meth c H locs cells slots Q (F0 m 0 ls []) := by
  have hx := C.1.1
  have hb := C.1.2.1
  unfold f_X8_isNumber at h
  intro H locs ls w hl
  refine lv_iload_n hx hb dX8_isNumber_0 rfl (lv_at hl 1 rfl) ?_
  refine lv_iconst (v := 0) hx hb dX8_isNumber_1 (by decide) ?_
  refine lv_aload_n hx hb dX8_isNumber_2 rfl (lv_at hl 0 rfl) ?_
  obtain ⟨x1, hx1, h⟩ := bs h
  refine o_gR C w hx1 fl_X8_8 dX8_isNumber_3 ?_
  refine lv_iconst (v := 1) hx hb dX8_isNumber_6 (by decide) ?_
  obtain ⟨x2, hx2, h⟩ := bs h
  refine o_ldI C w hx2 dX8_isNumber_7 ?_
  refine lv_iconst (v := 1) hx hb dX8_isNumber_8 (by decide) ?_
  refine lv_isub hx hb dX8_isNumber_9 ?_
  obtain ⟨x3, hc, h⟩ := bs h
  refine o_backi w hLA (o_runS (As := [.int v1, .int (0 : Int32), .int (x2 - (1 : Int32))]) (rest := []) C w (c_X8_isIn l D G L S v1 (0 : Int32) (x2 - (1 : Int32)) x3 hc) ml_X8_40 st_X8_isIn hR_X8_isIn rfl hl.1 rfl (Nat.le_of_ble_eq_true rfl) dX8_isNumber_10 hcs) (fun H locs w => ?_)
  obtain ⟨_, hz, h⟩ := bs h
  exact hret _ _ _ _ _ w (ckZ_some hz) (Option.some.inj h) dX8_isNumber_13
set_option maxHeartbeats 4000000 in
set_option maxRecDepth 100000 in
theorem c_X8_isNumber (l : Launch) (D : va_G) (G : Nat → ClassId) (L : List Nat) (S : PH) (v0 : Nat) (v1 : Int32) (r : Int32) (h : f_X8_isNumber S v0 v1 = some r) : Met l yX8_isNumber [Cond.code yX8_isNumber cX8_isNumber 2 (some .boolean)] ({ frames := 1, cells := 0, slots := 0, locals := 22 }) (va_Pc [.ref v0, .int v1] (PreU D G L S)) (Qi D G L r S) 0 0 (inL L) := by
  refine Met.ofW (cc := cX8_isNumber) (maxL := 2) (ret := (some .boolean)) (by decide) rfl ?_
  intro p e s m args below meth c s₁ B hml hv
  obtain ⟨rfl, hpre⟩ := hv
  obtain ⟨C, w⟩ := o_ent (own := RX8) rfl B hml hpre
  have hl := lv_entry ([.ref v0, .int v1]) (n := 2) (Nat.le_of_ble_eq_true rfl)
  rw [lg_entry_eq]
  generalize (lg_sl ([.ref v0, .int v1]) ++ List.replicate (2 - (lg_sl ([.ref v0, .int v1])).length) Slot.unset).toArray = ls at hl ⊢
  exact w_X8_isNumber C (fun _ h => h) ⟨Nat.zero_le _, Nat.zero_le _⟩ ⟨rfl, rfl, Nat.le_of_ble_eq_true rfl, Nat.le_of_ble_eq_true rfl⟩ S v0 v1 r h (fun v H locs ls pc w hz hv hd => by subst hv; exact o_zret C w B.returns B.notSynchronized hz hd) _ _ _ w hl

def f_X8_of (S : PH) (v0 : Nat) (v1 : Int32) (v2 : Int32) : Option (Int32) :=
(gR S v0 8 0).bind fun x1 =>
(ldI S x1 (((20 : Int32) + ((8 : Int32) * v1)) + v2)).bind fun x2 =>
some x2
set_option maxHeartbeats 4000000 in
set_option maxRecDepth 100000 in
theorem w_X8_of {p : Program} {l : Launch} {e : Env} {R : Room} {s : State} {m : MethodId} {args : Array Value} {below : List Frame} {meth : Method} {c : Code} {cells slots : Nat} {Q : State → Prop} {D : va_G} {G : Nat → ClassId} {L : List Nat} {A : Nat → Prop} {H0 : Heap} (C : CX p s m c args D G cX8_of 3 RX8) (hLA : ∀ q ∈ L, A q) (hcs : cells ≤ R.cells ∧ slots ≤ R.slots)  (S : PH) (v0 : Nat) (v1 : Int32) (v2 : Int32) (r : Int32) (h : f_X8_of S v0 v1 v2 = some r) (hret : ∀ (v : Int32) (H : Heap) (locs : List Loc) (ls : Array Slot) (pc : Nat), Wd D G L A H0 S H locs → v = r → decode cX8_of pc = .ok (.ireturn, 1) → W p l e R s m args below meth c H locs cells slots Q (F0 m pc ls [.int v])) : ∀ (H : Heap) (locs : List Loc) (ls : Array Slot), Wd D G L A H0 S H locs → lv_has ls 3 [(0, .ref v0), (1, .int v1), (2, .int v2)] → W p l e R s m args below meth c H locs cells slots Q (F0 m 0 ls []) := by
  have hx := C.1.1
  have hb := C.1.2.1
  unfold f_X8_of at h
  intro H locs ls w hl
  refine lv_aload_n hx hb dX8_of_0 rfl (lv_at hl 0 rfl) ?_
  obtain ⟨x1, hx1, h⟩ := bs h
  refine o_gR C w hx1 fl_X8_8 dX8_of_1 ?_
  refine lv_bipush (v := 20) hx hb dX8_of_4 (by decide) ?_
  refine lv_bipush (v := 8) hx hb dX8_of_6 (by decide) ?_
  refine lv_iload_n hx hb dX8_of_8 rfl (lv_at hl 1 rfl) ?_
  refine lv_imul hx hb dX8_of_9 ?_
  refine lv_iadd hx hb dX8_of_10 ?_
  refine lv_iload_n hx hb dX8_of_11 rfl (lv_at hl 2 rfl) ?_
  refine lv_iadd hx hb dX8_of_12 ?_
  obtain ⟨x2, hx2, h⟩ := bs h
  refine o_ldI C w hx2 dX8_of_13 ?_
  exact hret _ _ _ _ _ w (Option.some.inj h) dX8_of_14
set_option maxHeartbeats 4000000 in
set_option maxRecDepth 100000 in
theorem c_X8_of (l : Launch) (D : va_G) (G : Nat → ClassId) (L : List Nat) (S : PH) (v0 : Nat) (v1 : Int32) (v2 : Int32) (r : Int32) (h : f_X8_of S v0 v1 v2 = some r) : Met l yX8_of [Cond.code yX8_of cX8_of 3 (some .int)] ({ frames := 0, cells := 0, slots := 0, locals := 0 }) (va_Pc [.ref v0, .int v1, .int v2] (PreU D G L S)) (Qi D G L r S) 0 0 (inL L) := by
  refine Met.ofW (cc := cX8_of) (maxL := 3) (ret := (some .int)) (by decide) rfl ?_
  intro p e s m args below meth c s₁ B hml hv
  obtain ⟨rfl, hpre⟩ := hv
  obtain ⟨C, w⟩ := o_ent (own := RX8) rfl B hml hpre
  have hl := lv_entry ([.ref v0, .int v1, .int v2]) (n := 3) (Nat.le_of_ble_eq_true rfl)
  rw [lg_entry_eq]
  generalize (lg_sl ([.ref v0, .int v1, .int v2]) ++ List.replicate (3 - (lg_sl ([.ref v0, .int v1, .int v2])).length) Slot.unset).toArray = ls at hl ⊢
  exact w_X8_of C (fun _ h => h) ⟨Nat.zero_le _, Nat.zero_le _⟩  S v0 v1 v2 r h (fun v H locs ls pc w hv hd => by subst hv; exact o_iret C w B.returns B.notSynchronized hd) _ _ _ w hl

def f_X8_many (S : PH) (v0 : Nat) (v1 : Int32) : Option (Int32) :=
(ckO S v0 8).bind fun _ =>
(f_X8_of S v0 v1 (2 : Int32)).bind fun x1 =>
(ckO S v0 8).bind fun _ =>
(f_X8_of S v0 v1 (1 : Int32)).bind fun x2 =>
some ((x1 - x2) + (1 : Int32))
set_option maxHeartbeats 4000000 in
set_option maxRecDepth 100000 in
theorem w_X8_many {p : Program} {l : Launch} {e : Env} {R : Room} {s : State} {m : MethodId} {args : Array Value} {below : List Frame} {meth : Method} {c : Code} {cells slots : Nat} {Q : State → Prop} {D : va_G} {G : Nat → ClassId} {L : List Nat} {A : Nat → Prop} {H0 : Heap} (C : CX p s m c args D G cX8_many 2 RX8) (hLA : ∀ q ∈ L, A q) (hcs : cells ≤ R.cells ∧ slots ≤ R.slots) (hR_X8_of : RoomOk R ({ frames := 0, cells := 0, slots := 0, locals := 0 }) 3) (S : PH) (v0 : Nat) (v1 : Int32) (r : Int32) (h : f_X8_many S v0 v1 = some r) (hret : ∀ (v : Int32) (H : Heap) (locs : List Loc) (ls : Array Slot) (pc : Nat), Wd D G L A H0 S H locs → v = r → decode cX8_many pc = .ok (.ireturn, 1) → W p l e R s m args below meth c H locs cells slots Q (F0 m pc ls [.int v])) : ∀ (H : Heap) (locs : List Loc) (ls : Array Slot), Wd D G L A H0 S H locs → lv_has ls 2 [(0, .ref v0), (1, .int v1)] → W p l e R s m args below meth c H locs cells slots Q (F0 m 0 ls []) := by
  have hx := C.1.1
  have hb := C.1.2.1
  unfold f_X8_many at h
  intro H locs ls w hl
  refine lv_aload_n hx hb dX8_many_0 rfl (lv_at hl 0 rfl) ?_
  refine lv_iload_n hx hb dX8_many_1 rfl (lv_at hl 1 rfl) ?_
  refine lv_iconst (v := 2) hx hb dX8_many_2 (by decide) ?_
  obtain ⟨_, ho, h⟩ := bs h
  obtain ⟨x1, hc, h⟩ := bs h
  refine o_backi w hLA (o_runV (As := [.int v1, .int (2 : Int32)]) (rest := []) C w (c_X8_of l D G L S v0 v1 (2 : Int32) x1 hc) ml_X8_44 mv_X8_of hR_X8_of ho rfl hl.1 rfl (Nat.le_of_ble_eq_true rfl) dX8_many_3 hcs) (fun H locs w => ?_)
  refine lv_aload_n hx hb dX8_many_6 rfl (lv_at hl 0 rfl) ?_
  refine lv_iload_n hx hb dX8_many_7 rfl (lv_at hl 1 rfl) ?_
  refine lv_iconst (v := 1) hx hb dX8_many_8 (by decide) ?_
  obtain ⟨_, ho, h⟩ := bs h
  obtain ⟨x2, hc, h⟩ := bs h
  refine o_backi w hLA (o_runV (As := [.int v1, .int (1 : Int32)]) (rest := [.int x1]) C w (c_X8_of l D G L S v0 v1 (1 : Int32) x2 hc) ml_X8_44 mv_X8_of hR_X8_of ho rfl hl.1 rfl (Nat.le_of_ble_eq_true rfl) dX8_many_9 hcs) (fun H locs w => ?_)
  refine lv_isub hx hb dX8_many_12 ?_
  refine lv_iconst (v := 1) hx hb dX8_many_13 (by decide) ?_
  refine lv_iadd hx hb dX8_many_14 ?_
  exact hret _ _ _ _ _ w (Option.some.inj h) dX8_many_15
set_option maxHeartbeats 4000000 in
set_option maxRecDepth 100000 in
theorem c_X8_many (l : Launch) (D : va_G) (G : Nat → ClassId) (L : List Nat) (S : PH) (v0 : Nat) (v1 : Int32) (r : Int32) (h : f_X8_many S v0 v1 = some r) : Met l yX8_many [Cond.code yX8_many cX8_many 2 (some .int)] ({ frames := 1, cells := 0, slots := 0, locals := 22 }) (va_Pc [.ref v0, .int v1] (PreU D G L S)) (Qi D G L r S) 0 0 (inL L) := by
  refine Met.ofW (cc := cX8_many) (maxL := 2) (ret := (some .int)) (by decide) rfl ?_
  intro p e s m args below meth c s₁ B hml hv
  obtain ⟨rfl, hpre⟩ := hv
  obtain ⟨C, w⟩ := o_ent (own := RX8) rfl B hml hpre
  have hl := lv_entry ([.ref v0, .int v1]) (n := 2) (Nat.le_of_ble_eq_true rfl)
  rw [lg_entry_eq]
  generalize (lg_sl ([.ref v0, .int v1]) ++ List.replicate (2 - (lg_sl ([.ref v0, .int v1])).length) Slot.unset).toArray = ls at hl ⊢
  exact w_X8_many C (fun _ h => h) ⟨Nat.zero_le _, Nat.zero_le _⟩ ⟨rfl, rfl, Nat.le_of_ble_eq_true rfl, Nat.le_of_ble_eq_true rfl⟩ S v0 v1 r h (fun v H locs ls pc w hv hd => by subst hv; exact o_iret C w B.returns B.notSynchronized hd) _ _ _ w hl

def f_X8_valueIn (S : PH) (v0 : Nat) (v1 : Int32) (v2 : Int32) : Option (Int32) :=
(ckO S v0 8).bind fun _ =>
(f_X8_of S v0 v2 (1 : Int32)).bind fun x1 =>
(ckO S v0 8).bind fun _ =>
(f_X8_of S v0 v2 (5 : Int32)).bind fun x2 =>
(dvI v1 x2).bind fun x3 =>
(ckO S v0 8).bind fun _ =>
(f_X8_many S v0 v2).bind fun x4 =>
(rmI x3 x4).bind fun x5 =>
some (x1 + x5)
set_option maxHeartbeats 4000000 in
set_option maxRecDepth 100000 in
theorem w_X8_valueIn {p : Program} {l : Launch} {e : Env} {R : Room} {s : State} {m : MethodId} {args : Array Value} {below : List Frame} {meth : Method} {c : Code} {cells slots : Nat} {Q : State → Prop} {D : va_G} {G : Nat → ClassId} {L : List Nat} {A : Nat → Prop} {H0 : Heap} (C : CX p s m c args D G cX8_valueIn 3 RX8) (hLA : ∀ q ∈ L, A q) (hcs : cells ≤ R.cells ∧ slots ≤ R.slots) (hR_X8_of : RoomOk R ({ frames := 0, cells := 0, slots := 0, locals := 0 }) 3) (hR_X8_many : RoomOk R ({ frames := 1, cells := 0, slots := 0, locals := 22 }) 2) (S : PH) (v0 : Nat) (v1 : Int32) (v2 : Int32) (r : Int32) (h : f_X8_valueIn S v0 v1 v2 = some r) (hret : ∀ (v : Int32) (H : Heap) (locs : List Loc) (ls : Array Slot) (pc : Nat), Wd D G L A H0 S H locs → v = r → decode cX8_valueIn pc = .ok (.ireturn, 1) → W p l e R s m args below meth c H locs cells slots Q (F0 m pc ls [.int v])) : ∀ (H : Heap) (locs : List Loc) (ls : Array Slot), Wd D G L A H0 S H locs → lv_has ls 3 [(0, .ref v0), (1, .int v1), (2, .int v2)] → W p l e R s m args below meth c H locs cells slots Q (F0 m 0 ls []) := by
  have hx := C.1.1
  have hb := C.1.2.1
  unfold f_X8_valueIn at h
  intro H locs ls w hl
  refine lv_aload_n hx hb dX8_valueIn_0 rfl (lv_at hl 0 rfl) ?_
  refine lv_iload_n hx hb dX8_valueIn_1 rfl (lv_at hl 2 rfl) ?_
  refine lv_iconst (v := 1) hx hb dX8_valueIn_2 (by decide) ?_
  obtain ⟨_, ho, h⟩ := bs h
  obtain ⟨x1, hc, h⟩ := bs h
  refine o_backi w hLA (o_runV (As := [.int v2, .int (1 : Int32)]) (rest := []) C w (c_X8_of l D G L S v0 v2 (1 : Int32) x1 hc) ml_X8_44 mv_X8_of hR_X8_of ho rfl hl.1 rfl (Nat.le_of_ble_eq_true rfl) dX8_valueIn_3 hcs) (fun H locs w => ?_)
  refine lv_iload_n hx hb dX8_valueIn_6 rfl (lv_at hl 1 rfl) ?_
  refine lv_aload_n hx hb dX8_valueIn_7 rfl (lv_at hl 0 rfl) ?_
  refine lv_iload_n hx hb dX8_valueIn_8 rfl (lv_at hl 2 rfl) ?_
  refine lv_iconst (v := 5) hx hb dX8_valueIn_9 (by decide) ?_
  obtain ⟨_, ho, h⟩ := bs h
  obtain ⟨x2, hc, h⟩ := bs h
  refine o_backi w hLA (o_runV (As := [.int v2, .int (5 : Int32)]) (rest := [.int v1, .int x1]) C w (c_X8_of l D G L S v0 v2 (5 : Int32) x2 hc) ml_X8_44 mv_X8_of hR_X8_of ho rfl hl.1 rfl (Nat.le_of_ble_eq_true rfl) dX8_valueIn_10 hcs) (fun H locs w => ?_)
  obtain ⟨x3, hx3, h⟩ := bs h
  refine o_dv C hx3 dX8_valueIn_13 ?_
  refine lv_aload_n hx hb dX8_valueIn_14 rfl (lv_at hl 0 rfl) ?_
  refine lv_iload_n hx hb dX8_valueIn_15 rfl (lv_at hl 2 rfl) ?_
  obtain ⟨_, ho, h⟩ := bs h
  obtain ⟨x4, hc, h⟩ := bs h
  refine o_backi w hLA (o_runV (As := [.int v2]) (rest := [.int x3, .int x1]) C w (c_X8_many l D G L S v0 v2 x4 hc) ml_X8_48 mv_X8_many hR_X8_many ho rfl hl.1 rfl (Nat.le_of_ble_eq_true rfl) dX8_valueIn_16 hcs) (fun H locs w => ?_)
  obtain ⟨x5, hx5, h⟩ := bs h
  refine o_rm C hx5 dX8_valueIn_19 ?_
  refine lv_iadd hx hb dX8_valueIn_20 ?_
  exact hret _ _ _ _ _ w (Option.some.inj h) dX8_valueIn_21
set_option maxHeartbeats 4000000 in
set_option maxRecDepth 100000 in
theorem c_X8_valueIn (l : Launch) (D : va_G) (G : Nat → ClassId) (L : List Nat) (S : PH) (v0 : Nat) (v1 : Int32) (v2 : Int32) (r : Int32) (h : f_X8_valueIn S v0 v1 v2 = some r) : Met l yX8_valueIn [Cond.code yX8_valueIn cX8_valueIn 3 (some .int)] ({ frames := 2, cells := 0, slots := 0, locals := 43 }) (va_Pc [.ref v0, .int v1, .int v2] (PreU D G L S)) (Qi D G L r S) 0 0 (inL L) := by
  refine Met.ofW (cc := cX8_valueIn) (maxL := 3) (ret := (some .int)) (by decide) rfl ?_
  intro p e s m args below meth c s₁ B hml hv
  obtain ⟨rfl, hpre⟩ := hv
  obtain ⟨C, w⟩ := o_ent (own := RX8) rfl B hml hpre
  have hl := lv_entry ([.ref v0, .int v1, .int v2]) (n := 3) (Nat.le_of_ble_eq_true rfl)
  rw [lg_entry_eq]
  generalize (lg_sl ([.ref v0, .int v1, .int v2]) ++ List.replicate (3 - (lg_sl ([.ref v0, .int v1, .int v2])).length) Slot.unset).toArray = ls at hl ⊢
  exact w_X8_valueIn C (fun _ h => h) ⟨Nat.zero_le _, Nat.zero_le _⟩ ⟨rfl, rfl, Nat.le_of_ble_eq_true rfl, Nat.le_of_ble_eq_true rfl⟩ ⟨rfl, rfl, Nat.le_of_ble_eq_true rfl, Nat.le_of_ble_eq_true rfl⟩ S v0 v1 v2 r h (fun v H locs ls pc w hv hd => by subst hv; exact o_iret C w B.returns B.notSynchronized hd) _ _ _ w hl

def f_X8_mayCome_L5 (S : PH) (v0 : Nat) (v3 : Int32) (v4 : Int32) : Option ((Int32 × Int32) ⊕ (Int32)) :=
(gR S v0 8 0).bind fun x1 =>
(ldI S x1 (1 : Int32)).bind fun x2 =>
if x2 ≤ v4 then (
some (.inr v3))
else (
(ckO S v0 8).bind fun _ =>
(f_X8_of S v0 v4 (2 : Int32)).bind fun x3 =>
some (.inl ((v3 + x3), (v4 + 1))))
def f_X8_mayCome (S : PH) (v0 : Nat) (v1 : Int32) (v2 : Int32) : Option (Int32) :=
(lpo (fun x : Int32 × Int32 => f_X8_mayCome_L5 S v0 x.1 x.2) FU (v2, (0 : Int32))).bind fun y4 =>
(gR S v0 8 0).bind fun x5 =>
(ldI S x5 (1 : Int32)).bind fun x6 =>
if (10 : Int32) ≤ x6 then (
some (0 : Int32))
else (
(gR S v0 8 0).bind fun x7 =>
(ldI S x7 (2 : Int32)).bind fun x8 =>
if (4096 : Int32) < (x8 * ((v2 - v1) + (1 : Int32))) then (
some (0 : Int32))
else (
if (60 : Int32) < y4 then (
some (0 : Int32))
else (
some (1 : Int32))))
set_option maxHeartbeats 4000000 in
set_option maxRecDepth 100000 in
theorem w_X8_mayCome {p : Program} {l : Launch} {e : Env} {R : Room} {s : State} {m : MethodId} {args : Array Value} {below : List Frame} {meth : Method} {c : Code} {cells slots : Nat} {Q : State → Prop} {D : va_G} {G : Nat → ClassId} {L : List Nat} {A : Nat → Prop} {H0 : Heap} (C : CX p s m c args D G cX8_mayCome 5 RX8) (hLA : ∀ q ∈ L, A q) (hcs : cells ≤ R.cells ∧ slots ≤ R.slots) (hR_X8_of : RoomOk R ({ frames := 0, cells := 0, slots := 0, locals := 0 }) 3) (S : PH) (v0 : Nat) (v1 : Int32) (v2 : Int32) (r : Int32) (h : f_X8_mayCome S v0 v1 v2 = some r) (hret : ∀ (v : Int32) (H : Heap) (locs : List Loc) (ls : Array Slot) (pc : Nat), Wd D G L A H0 S H locs → narrow .boolean (.int v) = .int v → v = r → decode cX8_mayCome pc = .ok (.ireturn, 1) → W p l e R s m args below meth c H locs cells slots Q (F0 m pc ls [.int v])) : ∀ (H : Heap) (locs : List Loc) (ls : Array Slot), Wd D G L A H0 S H locs → lv_has ls 5 [(0, .ref v0), (1, .int v1), (2, .int v2)] → W p l e R s m args below meth c H locs cells slots Q (F0 m 0 ls []) := by
  have hx := C.1.1
  have hb := C.1.2.1
  unfold f_X8_mayCome at h
  intro H locs ls w hl
  refine lv_iload_n hx hb dX8_mayCome_0 rfl (lv_at hl 2 rfl) ?_
  refine lv_istore_n (lv' := [(3, .int v2), (0, .ref v0), (1, .int v1), (2, .int v2)]) hx hb dX8_mayCome_1 rfl hl (by decide) rfl (fun ls hl => ?_)
  refine lv_iconst (v := 0) hx hb dX8_mayCome_2 (by decide) ?_
  refine lv_istore (lv' := [(4, .int (0 : Int32)), (3, .int v2), (0, .ref v0), (1, .int v1), (2, .int v2)]) hx hb dX8_mayCome_3 hl (by decide) rfl (fun ls hl => ?_)
  obtain ⟨y4, hL5, h⟩ := bs h
  have hE5 : ∀ (q9 : Int32), y4 = q9 → ∀ (H : Heap) (locs : List Loc) (ls : Array Slot), Wd D G L A H0 S H locs → lv_has ls 5 [(0, .ref v0), (1, .int v1), (2, .int v2), (3, .int q9)] → W p l e R s m args below meth c H locs cells slots Q (F0 m 32 ls []) := by
    intro q9 he
    cases he
    intro H locs ls w hl
    refine lv_aload_n hx hb dX8_mayCome_32 rfl (lv_at hl 0 rfl) ?_
    obtain ⟨x5, hx5, h⟩ := bs h
    refine o_gR C w hx5 fl_X8_8 dX8_mayCome_33 ?_
    refine lv_iconst (v := 1) hx hb dX8_mayCome_36 (by decide) ?_
    obtain ⟨x6, hx6, h⟩ := bs h
    refine o_ldI C w hx6 dX8_mayCome_37 ?_
    refine lv_bipush (v := 10) hx hb dX8_mayCome_38 (by decide) ?_
    refine lv_icmp_ge (tgt := 71) hx hb dX8_mayCome_40 (by decide) (fun cc40 => ?_) (fun cc40 => ?_)
    · have h := it cc40 h
      refine lv_iconst (v := 0) hx hb dX8_mayCome_71 (by decide) ?_
      exact hret _ _ _ _ _ w rfl (Option.some.inj h) dX8_mayCome_72
    · have h := ie cc40 h
      refine lv_aload_n hx hb dX8_mayCome_43 rfl (lv_at hl 0 rfl) ?_
      obtain ⟨x7, hx7, h⟩ := bs h
      refine o_gR C w hx7 fl_X8_8 dX8_mayCome_44 ?_
      refine lv_iconst (v := 2) hx hb dX8_mayCome_47 (by decide) ?_
      obtain ⟨x8, hx8, h⟩ := bs h
      refine o_ldI C w hx8 dX8_mayCome_48 ?_
      refine lv_iload_n hx hb dX8_mayCome_49 rfl (lv_at hl 2 rfl) ?_
      refine lv_iload_n hx hb dX8_mayCome_50 rfl (lv_at hl 1 rfl) ?_
      refine lv_isub hx hb dX8_mayCome_51 ?_
      refine lv_iconst (v := 1) hx hb dX8_mayCome_52 (by decide) ?_
      refine lv_iadd hx hb dX8_mayCome_53 ?_
      refine lv_imul hx hb dX8_mayCome_54 ?_
      refine lv_sipush (v := 4096) hx hb dX8_mayCome_55 (by decide) ?_
      refine lv_icmp_gt (tgt := 71) hx hb dX8_mayCome_58 (by decide) (fun cc58 => ?_) (fun cc58 => ?_)
      · have h := it cc58 h
        refine lv_iconst (v := 0) hx hb dX8_mayCome_71 (by decide) ?_
        exact hret _ _ _ _ _ w rfl (Option.some.inj h) dX8_mayCome_72
      · have h := ie cc58 h
        refine lv_iload_n hx hb dX8_mayCome_61 rfl (lv_at hl 3 rfl) ?_
        refine lv_bipush (v := 60) hx hb dX8_mayCome_62 (by decide) ?_
        refine lv_icmp_gt (tgt := 71) hx hb dX8_mayCome_64 (by decide) (fun cc64 => ?_) (fun cc64 => ?_)
        · have h := it cc64 h
          refine lv_iconst (v := 0) hx hb dX8_mayCome_71 (by decide) ?_
          exact hret _ _ _ _ _ w rfl (Option.some.inj h) dX8_mayCome_72
        · have h := ie cc64 h
          refine lv_iconst (v := 1) hx hb dX8_mayCome_67 (by decide) ?_
          refine lv_goto (tgt := 72) hx hb dX8_mayCome_68 (by decide) ?_
          exact hret _ _ _ _ _ w rfl (Option.some.inj h) dX8_mayCome_72
  refine lpo_W (P := fun x : Int32 × Int32 => ∀ (H : Heap) (locs : List Loc) (ls : Array Slot), Wd D G L A H0 S H locs → lv_has ls 5 [(0, .ref v0), (1, .int v1), (2, .int v2), (3, .int x.1), (4, .int x.2)] → W p l e R s m args below meth c H locs cells slots Q (F0 m 5 ls [])) ?_ FU _ hL5 H locs ls w (lv_sub hl [2, 3, 4, 1, 0] rfl)
  intro x y5 h hnext5 hend5
  obtain ⟨t10, t11⟩ := x
  have h : f_X8_mayCome_L5 S v0 t10 t11 = some y5 := h
  unfold f_X8_mayCome_L5 at h
  intro H locs ls w hl
  have hl : lv_has ls 5 [(0, .ref v0), (1, .int v1), (2, .int v2), (3, .int t10), (4, .int t11)] := hl
  refine lv_iload hx hb dX8_mayCome_5 (lv_at hl 4 rfl) ?_
  refine lv_aload_n hx hb dX8_mayCome_7 rfl (lv_at hl 0 rfl) ?_
  obtain ⟨x12, hx12, h⟩ := bs h
  refine o_gR C w hx12 fl_X8_8 dX8_mayCome_8 ?_
  refine lv_iconst (v := 1) hx hb dX8_mayCome_11 (by decide) ?_
  obtain ⟨x13, hx13, h⟩ := bs h
  refine o_ldI C w hx13 dX8_mayCome_12 ?_
  refine lv_icmp_ge (tgt := 32) hx hb dX8_mayCome_13 (by decide) (fun cc13 => ?_) (fun cc13 => ?_)
  · have h := it cc13 h
    exact hE5 _ (hend5 _ (Option.some.inj h).symm).symm H locs ls w (lv_sub hl [0, 1, 2, 3] rfl)
  · have h := ie cc13 h
    refine lv_iload_n hx hb dX8_mayCome_16 rfl (lv_at hl 3 rfl) ?_
    refine lv_aload_n hx hb dX8_mayCome_17 rfl (lv_at hl 0 rfl) ?_
    refine lv_iload hx hb dX8_mayCome_18 (lv_at hl 4 rfl) ?_
    refine lv_iconst (v := 2) hx hb dX8_mayCome_20 (by decide) ?_
    obtain ⟨_, ho, h⟩ := bs h
    obtain ⟨x14, hc, h⟩ := bs h
    refine o_backi w hLA (o_runV (As := [.int t11, .int (2 : Int32)]) (rest := [.int t10]) C w (c_X8_of l D G L S v0 t11 (2 : Int32) x14 hc) ml_X8_44 mv_X8_of hR_X8_of ho rfl hl.1 rfl (Nat.le_of_ble_eq_true rfl) dX8_mayCome_21 hcs) (fun H locs w => ?_)
    refine lv_iadd hx hb dX8_mayCome_24 ?_
    refine lv_istore_n (lv' := [(3, .int (t10 + x14)), (0, .ref v0), (1, .int v1), (2, .int v2), (4, .int t11)]) hx hb dX8_mayCome_25 rfl hl (by decide) rfl (fun ls hl => ?_)
    refine lv_iinc (v := (t11 + 1)) (lv' := [(4, .int (t11 + 1)), (3, .int (t10 + x14)), (0, .ref v0), (1, .int v1), (2, .int v2)]) hx hb dX8_mayCome_26 hl (k := 4) rfl rfl (by decide) rfl (fun ls hl => ?_)
    refine lv_goto (tgt := 5) hx hb dX8_mayCome_29 (by decide) ?_
    exact hnext5 _ (Option.some.inj h).symm H locs ls w (lv_sub hl [2, 3, 4, 1, 0] rfl)
set_option maxHeartbeats 4000000 in
set_option maxRecDepth 100000 in
theorem c_X8_mayCome (l : Launch) (D : va_G) (G : Nat → ClassId) (L : List Nat) (S : PH) (v0 : Nat) (v1 : Int32) (v2 : Int32) (r : Int32) (h : f_X8_mayCome S v0 v1 v2 = some r) : Met l yX8_mayCome [Cond.code yX8_mayCome cX8_mayCome 5 (some .boolean)] ({ frames := 1, cells := 0, slots := 0, locals := 22 }) (va_Pc [.ref v0, .int v1, .int v2] (PreU D G L S)) (Qi D G L r S) 0 0 (inL L) := by
  refine Met.ofW (cc := cX8_mayCome) (maxL := 5) (ret := (some .boolean)) (by decide) rfl ?_
  intro p e s m args below meth c s₁ B hml hv
  obtain ⟨rfl, hpre⟩ := hv
  obtain ⟨C, w⟩ := o_ent (own := RX8) rfl B hml hpre
  have hl := lv_entry ([.ref v0, .int v1, .int v2]) (n := 5) (Nat.le_of_ble_eq_true rfl)
  rw [lg_entry_eq]
  generalize (lg_sl ([.ref v0, .int v1, .int v2]) ++ List.replicate (5 - (lg_sl ([.ref v0, .int v1, .int v2])).length) Slot.unset).toArray = ls at hl ⊢
  exact w_X8_mayCome C (fun _ h => h) ⟨Nat.zero_le _, Nat.zero_le _⟩ ⟨rfl, rfl, Nat.le_of_ble_eq_true rfl, Nat.le_of_ble_eq_true rfl⟩ S v0 v1 v2 r h (fun v H locs ls pc w hz hv hd => by subst hv; exact o_zret C w B.returns B.notSynchronized hz hd) _ _ _ w hl
