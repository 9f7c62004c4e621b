theorem st_arr {s : State} {c : ClassId} {k : Class} {comp : ClassId} {ty : FieldType} (hk : s.vm.classes[c]? = some k) (hkind : k.kind = .array comp ty) : ArrOfT s c ty := fun N9 z9 => ⟨(fun q hq => by cases hq), k, hk, comp, hkind⟩
theorem st_G {s : State} (hT : TB s) (hao : AO s) : ∃ G : Nat → ClassId, ∀ (k : Nat) (q : ClassId × FieldType), (gtys G)[k]? = some q → ArrOfT s q.1 q.2 ∧ va_RA s q.1 q.2 := by
  obtain ⟨c0, k0, m0, f0, g0, h0⟩ := Cond.arrayClass_spec (hT _ kca_int)
  obtain ⟨c1, k1, m1, f1, g1, h1⟩ := Cond.arrayClass_spec (hT _ kca_long)
  obtain ⟨c2, k2, m2, f2, g2, h2⟩ := Cond.arrayClass_spec (hT _ kca_boolean)
  obtain ⟨m3, c3, k3, e3, -, g3, h3, f3⟩ := Cond.arrayOver_spec hao.2.2
  obtain ⟨m4, c4, k4, -, g4, h4, f4⟩ := Cond.arrayOver_specA hao.1
  obtain ⟨m5, c5, k5, -, g5, h5, f5⟩ := Cond.arrayOver_specA hao.2.1
  refine ⟨fun k => if k = 0 then c0 else if k = 1 then c1 else if k = 2 then c2 else if k = 3 then c3 else if k = 4 then c4 else c5, fun k q hq => ?_⟩
  match k, hq with
  | 0, hq => cases hq; exact ⟨st_arr g0 h0, f0⟩
  | 1, hq => cases hq; exact ⟨st_arr g1 h1, f1⟩
  | 2, hq => cases hq; exact ⟨st_arr g2 h2, f2⟩
  | 3, hq => cases hq; exact ⟨st_arr g3 h3, k3, m3, g3, h3, e3, f3⟩
  | 4, hq => cases hq; exact ⟨st_arr g4 h4, f4⟩
  | 5, hq => cases hq; exact ⟨st_arr g5 h5, f5⟩
  | k + 6, hq => simp [gtys] at hq
theorem st_D {s : State} {args : Array Value} (hts : ∀ w ∈ tb, w.before args s = true) : ∃ (dC : Nat → ClassId) (dI : Nat → Nat → Nat), ∀ (k : Nat) (q : vw_C), vwCl[k]? = some q → u_Kn s q.1 q.2.1 q.2.2 (dC k) (dI k) := by
  obtain ⟨c0, i0, h0⟩ := u_known (C := RX0) (T := TX0) (N := 3) (n := 3) hts in_X0 (hts (.instantiable RX0 3) (tb_in 165 (by decide +kernel) rfl))
  obtain ⟨c1, i1, h1⟩ := u_known (C := RX1) (T := TX1) (N := 2) (n := 2) hts in_X1 (hts (.instantiable RX1 2) (tb_in 149 (by decide +kernel) rfl))
  obtain ⟨c2, i2, h2⟩ := u_known (C := RX2) (T := TX2) (N := 12) (n := 12) hts in_X2 (hts (.instantiable RX2 12) (tb_in 91 (by decide +kernel) rfl))
  obtain ⟨c3, i3, h3⟩ := u_known (C := RX3) (T := TX3) (N := 3) (n := 3) hts in_X3 (hts (.instantiable RX3 3) (tb_in 227 (by decide +kernel) rfl))
  obtain ⟨c4, i4, h4⟩ := u_known (C := RX4) (T := TX4) (N := 7) (n := 7) hts in_X4 (hts (.instantiable RX4 7) (tb_in 246 (by decide +kernel) rfl))
  obtain ⟨c5, i5, h5⟩ := u_known (C := RX5) (T := TX5) (N := 4) (n := 4) hts in_X5 (hts (.instantiable RX5 4) (tb_in 85 (by decide +kernel) rfl))
  obtain ⟨c6, i6, h6⟩ := u_known (C := RX6) (T := TX6) (N := 4) (n := 4) hts in_X6 (hts (.instantiable RX6 4) (tb_in 186 (by decide +kernel) rfl))
  obtain ⟨c7, i7, h7⟩ := u_known (C := RX7) (T := TX7) (N := 5) (n := 5) hts in_X7 (hts (.instantiable RX7 5) (tb_in 77 (by decide +kernel) rfl))
  obtain ⟨c8, i8, h8⟩ := u_known (C := RX8) (T := TX8) (N := 14) (n := 14) hts in_X8 (hts (.instantiable RX8 14) (tb_in 590 (by decide +kernel) rfl))
  refine ⟨fun k => if k = 0 then c0 else if k = 1 then c1 else if k = 2 then c2 else if k = 3 then c3 else if k = 4 then c4 else if k = 5 then c5 else if k = 6 then c6 else if k = 7 then c7 else c8, fun k => if k = 0 then i0 else if k = 1 then i1 else if k = 2 then i2 else if k = 3 then i3 else if k = 4 then i4 else if k = 5 then i5 else if k = 6 then i6 else if k = 7 then i7 else i8, fun k q hq => ?_⟩
  match k, hq with
  | 0, hq => cases hq; exact h0
  | 1, hq => cases hq; exact h1
  | 2, hq => cases hq; exact h2
  | 3, hq => cases hq; exact h3
  | 4, hq => cases hq; exact h4
  | 5, hq => cases hq; exact h5
  | 6, hq => cases hq; exact h6
  | 7, hq => cases hq; exact h7
  | 8, hq => cases hq; exact h8
  | k + 9, hq => simp [vwCl] at hq
/-- what is left, and speaks of pure functions alone: behind both constructors an invariant holds under which class and reference agree -/
def INIT0 : Prop := wA (eO 7 [.null, .null, .null, .null, .null]) (fun _ => none) [] fun x S L => wp_X7_init S L x fun S L => wA (eO 8 [.null, .null, .int 0, .int 0, .int 0, .int 0, .null, .null, .null, .null, .null, .null, .null, .int 0]) S L fun m S L => wp_X8_init S L m fun S _ => ∃ I : PH → Prop, AGREE I x m ∧ I S
set_option maxHeartbeats 4000000 in
set_option maxRecDepth 100000 in
theorem whole_start_open (hI0 : INIT0) {p : Program} {e : Env} {s : State} {m : MethodId} {below : List Frame} {meth : Method} {c : Code} (l : Launch) {b L : Nat} {xs : Nat → Int32} (hL : L ≤ 2560) (C0 : lw_At p s m meth c b L xs) : W p l e room_1 s m #[Value.ref b] below meth c s.heap [] 0 0 (lw_Z below #[Value.ref b] s) (entryFrame m ([Value.ref b] : List Value).toArray 4) := by
  obtain ⟨hx, hb, hr, hml, hown, hts, hX, hbl, hlocks, hgv⟩ := id C0
  have hT : TB s := fun w hw => okw_at #[] (State.WarmedH.refl s) (List.mem_filter.mp hw).2 (hts w (List.mem_filter.mp hw).1)
  have hao : AO s := ⟨hts (.arrayOver (.array .int)) (List.mem_of_getElem? (i := 171) (by decide +kernel)), hts (.arrayOver (.array .long)) (List.mem_of_getElem? (i := 155) (by decide +kernel)), va_AO.of (hts (.arrayOver (.object "SumsThatTell$State")) (List.mem_of_getElem? (i := 225) (by decide +kernel)))⟩
  obtain ⟨dC, dI, hDC⟩ := st_D (TB_use #[Value.ref b] hT)
  obtain ⟨G, hG⟩ := st_G hT hao
  have hK : va_K (dC, dI) vwCl (gtys G) s := ⟨hDC, hG⟩
  have C : CX p s m c #[Value.ref b] (dC, dI) G cL_law 4 RL := ⟨⟨hx, hb, hml, hown, TB_use _ hT⟩, hK, hT⟩
  have hA : ∀ q : Nat, s.heap.size ≤ q → (fun q : Nat => s.heap.size ≤ q) q := fun _ h => h
  have w : Wd (dC, dI) G [] (fun q : Nat => s.heap.size ≤ q) s.heap (fun _ => none) s.heap [] := ⟨fun a h => (by cases h), fun k q h => (by cases h), ⟨fun i j p q h => (by cases h), fun k q h => (by cases h)⟩, va_S.rf⟩
  have hl := lv_entry ([.ref b]) (n := 4) (Nat.le_of_ble_eq_true rfl)
  rw [lg_entry_eq]
  generalize (lg_sl ([.ref b]) ++ List.replicate (4 - (lg_sl ([.ref b])).length) Slot.unset).toArray = ls at hl ⊢
  have hl : lv_has ls 4 [(0, .ref b)] := hl
  have h := hI0
  unfold INIT0 at h
  refine o_new C w hA nw_L_7 (Nat.le_of_ble_eq_true rfl) (Nat.le_of_ble_eq_true rfl) dL_law_0 (fun x0 H hq w => ?_)
  replace h := h x0 hq
  generalize hS9 : va_up _ x0 _ = S1 at h w
  generalize hL9 : [] ++ [x0] = L1 at h w
  clear hS9 hL9
  refine W.widen (k := 1) (n := 5) (Nat.le_of_ble_eq_true rfl) (Nat.le_of_ble_eq_true rfl) ?_
  refine lv_dup hx hb dL_law_3 rfl ?_
  refine o_callN (rest := [.ref x0]) C w hao hA (c_X7_init l (dC, dI) G L1 S1 x0 _ _ h) ml_L_9 kin_X7_init rfl ⟨rfl, rfl, (Nat.le_of_ble_eq_true rfl), (Nat.le_of_ble_eq_true rfl)⟩ hl.1 (Nat.le_of_ble_eq_true rfl) dL_law_4 ⟨(Nat.le_of_ble_eq_true rfl), (Nat.le_of_ble_eq_true rfl)⟩ (fun S2 L2 H locs h w => ?_)
  refine W.widen (k := 120) (n := 26174) (Nat.le_of_ble_eq_true rfl) (Nat.le_of_ble_eq_true rfl) ?_
  refine lv_astore_n (lv' := [(1, .ref x0), (0, .ref b)]) hx hb dL_law_7 rfl hl (by decide) rfl (fun ls hl => ?_)
  refine o_new C w hA nw_L_10 (Nat.le_of_ble_eq_true rfl) (Nat.le_of_ble_eq_true rfl) dL_law_8 (fun m0 H hq w => ?_)
  replace h := h m0 hq
  generalize hS9 : va_up _ m0 _ = S3 at h w
  generalize hL9 : L2 ++ [m0] = L3 at h w
  clear hS9 hL9
  refine W.widen (k := 121) (n := 26188) (Nat.le_of_ble_eq_true rfl) (Nat.le_of_ble_eq_true rfl) ?_
  refine lv_dup hx hb dL_law_11 rfl ?_
  refine o_callN (rest := [.ref m0]) C w hao hA (c_X8_init l (dC, dI) G L3 S3 m0 _ _ h) ml_L_12 kin_X8_init rfl ⟨rfl, rfl, (Nat.le_of_ble_eq_true rfl), (Nat.le_of_ble_eq_true rfl)⟩ hl.1 (Nat.le_of_ble_eq_true rfl) dL_law_12 ⟨(Nat.le_of_ble_eq_true rfl), (Nat.le_of_ble_eq_true rfl)⟩ (fun S4 L4 H locs h w => ?_)
  refine W.widen (k := 600000) (n := 7302250) (Nat.le_of_ble_eq_true rfl) (Nat.le_of_ble_eq_true rfl) ?_
  refine lv_astore_n (lv' := [(2, .ref m0), (1, .ref x0), (0, .ref b)]) hx hb dL_law_15 rfl hl (by decide) rfl (fun ls hl => ?_)
  refine lv_iconst (v := 0) hx hb dL_law_16 (by decide) ?_
  refine lv_istore_n (lv' := [(3, .int 0), (2, .ref m0), (1, .ref x0), (0, .ref b)]) hx hb dL_law_17 rfl hl (by decide) rfl (fun ls hl => ?_)
  obtain ⟨I, hag, hI⟩ := h
  have hLA : ∀ q ∈ L4, s.heap.size ≤ q := fun q hq => by
    obtain ⟨k, hk⟩ := pw_get (G := G) (S := S4) hq
    exact w.2.2.1.2 k _ hk
  exact law_loop hL C0 hK hT hag hLA (L + 1) 0 S4 (Nat.zero_le L) (by omega) hI H locs ls w (lv_sub hl [3, 2, 1, 0] rfl)
