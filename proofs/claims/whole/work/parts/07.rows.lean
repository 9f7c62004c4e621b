/-! ===== a method's world: the map S of the cells L ===== -/
def PreU (D : va_G) (G : Nat → ClassId) (L : List Nat) (S : PH) (U : State) : Prop := sup L S ∧ va_P D vwCl (pw G L S) U.heap ∧ va_D (fun q => q ∈ L) (pw G L S) ∧ va_K D vwCl (gtys G) U ∧ TB U
def Wd (D : va_G) (G : Nat → ClassId) (L : List Nat) (A : Nat → Prop) (H0 : Heap) (S : PH) (H : Heap) (locs : List Loc) : Prop := sup L S ∧ va_P D vwCl (pw G L S) H ∧ va_D A (pw G L S) ∧ va_S A H0 H locs
abbrev CX (p : Program) (s : State) (m : MethodId) (c : Code) (args : Array Value) (D : va_G) (G : Nat → ClassId) (cc : ByteArray) (nL : Nat) (own : String) : Prop := CallFix p m c cc nL s args tb own ∧ va_K D vwCl (gtys G) s ∧ TB s
abbrev inL (L : List Nat) : Nat → Prop := fun q => q ∈ L
abbrev Qi (D : va_G) (G : Nat → ClassId) (L : List Nat) (r : Int32) (S : PH) : Array Value → State → Outcome → State → Prop := va_Qi (fun (r' : Int32) (u : PH) => r' = r ∧ u = S) (PreU D G L) (inL L)
abbrev Ql (D : va_G) (G : Nat → ClassId) (L : List Nat) (r : Int64) (S : PH) : Array Value → State → Outcome → State → Prop := va_Ql (fun (r' : Int64) (u : PH) => r' = r ∧ u = S) (PreU D G L) (inL L)
abbrev Qv (D : va_G) (G : Nat → ClassId) (L : List Nat) (S : PH) : Array Value → State → Outcome → State → Prop := va_Qv (fun (u : PH) => u = S) (PreU D G L) (inL L)
abbrev Qr (D : va_G) (G : Nat → ClassId) (L : List Nat) (r : Nat) (S : PH) : Array Value → State → Outcome → State → Prop := va_Qr (fun (u : PH) => u = S) (fun u a t => a = r ∧ PreU D G L u t) (inL L)
theorem pw_base {G : Nat → ClassId} {L : List Nat} {S : PH} {k : Nat} {q : Nat × va_E} (h : (pw G L S)[k]? = some q) : q.1 ∈ L := by
  have h1 : q ∈ va_pl L (fun a => toE G (S a)) := List.mem_of_getElem? (show (va_pl L (fun a => toE G (S a)))[k]? = some q from h)
  obtain ⟨a, ha, rfl⟩ := List.mem_map.mp h1
  exact ha
theorem PreU_blind {D : va_G} {G : Nat → ClassId} {L : List Nat} {S : PH} (av : List Value) : FrameBlind (va_Pc av (PreU D G L S)) := by
  intro a U g mk ⟨h0, h1, h2, h3, h4, h5⟩
  exact ⟨h0, h1, h2, h3, va_K.moved (u := U) (U := U.calling g mk a) (Vm.Alike.refl U.vm) h4, TB_moved (U := U.calling g mk a) (State.WarmedH.refl U) h5⟩
def FL (own : String) (index ci k : Nat) : Prop := ∃ (Cn : String) (T : u_T) (N : Nat), vwCl[ci]? = some (Cn, T, N) ∧ (∀ w ∈ u_ws Cn T N, w ∈ tb) ∧ k < N ∧ (Cond.fieldLink own index (T k).1 (T k).2.1 (T k).2.2.1 ∈ tb ∨ ∃ host, Cond.fieldLinkNest own index (T k).1 (T k).2.1 (T k).2.2.1 host ∈ tb)
def FP (own : String) (index ci k : Nat) (ty : FieldType) : Prop := ∃ (Cn : String) (T : u_T) (N : Nat) (ty0 : Nat → FieldType), vwCl[ci]? = some (Cn, T, N) ∧ (∀ w ∈ u_ws Cn T N, w ∈ tb) ∧ k < N ∧ (Cond.fieldLink own index (T k).1 (T k).2.1 (T k).2.2.1 ∈ tb ∨ ∃ host, Cond.fieldLinkNest own index (T k).1 (T k).2.1 (T k).2.2.1 host ∈ tb) ∧ (∀ k, k < N → parseFieldDescriptor (T k).2.2.1 = some (ty0 k)) ∧ (∀ a, a < N → ∀ b, b < N → a ≠ b → (T a).2.1 ≠ (T b).2.1) ∧ (T k).2.2.2 = false ∧ parseFieldDescriptor (T k).2.2.1 = some ty
def ML (own : String) (index : Nat) (y : MethodName) (bytes : ByteArray) (maxL : Nat) (ret : Option FieldType) (n : Nat) : Prop := (Cond.methodLink own index y ∈ tb ∨ ∃ host, Cond.methodLinkNest own index y host ∈ tb) ∧ Cond.initialized y.cls ∈ tb ∧ Cond.code y bytes maxL ret ∈ tb ∧ (y.cls ≠ "java/lang/invoke/MethodHandle" ∧ y.cls ≠ "java/lang/invoke/VarHandle") ∧ (parseMethodDescriptor y.desc).map (fun d => d.parameters.length) = some n
def MV (ci : Nat) (y : MethodName) : Prop := Cond.instanceMethod y ∈ tb ∧ Cond.selects y.cls y y ∈ tb ∧ ∃ q : vw_C, vwCl[ci]? = some q ∧ q.1 = y.cls
theorem ml_len {y : MethodName} {n : Nat} (h : (parseMethodDescriptor y.desc).map (fun d => d.parameters.length) = some n) : ∀ sig, parseMethodDescriptor y.desc = some sig → n = sig.parameters.length := by
  intro sig hs
  rw [hs] at h
  exact (Option.some.inj h).symm
section OPS
variable {p : Program} {l : Launch} {e : Env} {R : Room} {s : State} {m : MethodId} {args : Array Value} {below : List Frame} {meth : Method} {c : Code} {H : Heap} {locs : List Loc} {cells slots : Nat} {Q : State → Prop}
variable {cc : ByteArray} {nL pc : Nat} {ls : Array Slot} {rest : List Value} {D : va_G} {G : Nat → ClassId} {L : List Nat} {A : Nat → Prop} {H0 : Heap} {S S1 : PH} {own : String}
theorem o_gI (C : CX p s m c args D G cc nL own) (w : Wd D G L A H0 S H locs) {a ci k index : Nat} {v : Int32} (h : gI S a ci k = some v) (f : FL own index ci k) (hdg : decode cc pc = .ok (.getfield index, 3)) (kk : W p l e R s m args below meth c H locs cells slots Q (F0 m (pc + 3) ls (.int v :: rest))) : W p l e R s m args below meth c H locs cells slots Q (F0 m pc ls (.ref a :: rest)) := by
  obtain ⟨⟨hx, hb, hml, hown, hts⟩, hK, -⟩ := C
  obtain ⟨hs, hP, hD, hS⟩ := w
  obtain ⟨Cn, T, N, hc, hin, hk, hlink⟩ := f
  obtain ⟨fs, hSa, hv⟩ := gI_some h
  obtain ⟨-, q, hq, -⟩ := pw_at (G := G) hs hSa
  rcases hlink with hlink | ⟨host, hlink⟩
  · exact va_get hx hb hts hin hown hK hP q hq hc k hk (hts _ hlink) (fun _ h9 => h9) hv hdg kk
  · exact va_getN hx hb hts hin hown hK hP q hq hc k hk (hts _ hlink) (fun _ h9 => h9) hv hdg kk
theorem o_gR (C : CX p s m c args D G cc nL own) (w : Wd D G L A H0 S H locs) {a ci k index : Nat} {v : Nat} (h : gR S a ci k = some v) (f : FL own index ci k) (hdg : decode cc pc = .ok (.getfield index, 3)) (kk : W p l e R s m args below meth c H locs cells slots Q (F0 m (pc + 3) ls (.ref v :: rest))) : W p l e R s m args below meth c H locs cells slots Q (F0 m pc ls (.ref a :: rest)) := by
  obtain ⟨⟨hx, hb, hml, hown, hts⟩, hK, -⟩ := C
  obtain ⟨hs, hP, hD, hS⟩ := w
  obtain ⟨Cn, T, N, hc, hin, hk, hlink⟩ := f
  obtain ⟨fs, hSa, hv⟩ := gR_some h
  obtain ⟨-, q, hq, -⟩ := pw_at (G := G) hs hSa
  rcases hlink with hlink | ⟨host, hlink⟩
  · exact va_get hx hb hts hin hown hK hP q hq hc k hk (hts _ hlink) (fun _ h9 => h9) hv hdg kk
  · exact va_getN hx hb hts hin hown hK hP q hq hc k hk (hts _ hlink) (fun _ h9 => h9) hv hdg kk
theorem o_pF (C : CX p s m c args D G cc nL own) (w : Wd D G L A H0 S H locs) {a ci k index : Nat} {v : Value} {ty : FieldType} (h : pF S a ci k v = some S1) (f : FP own index ci k ty) (hn : narrow ty v = v) (hf : fits ty v = true) (hdg : decode cc pc = .ok (.putfield index, 3)) (kk : ∀ (H1 : Heap) (locs1 : List Loc), Wd D G L A H0 S1 H1 locs1 → W p l e R s m args below meth c H1 locs1 cells slots Q (F0 m (pc + 3) ls (rest))) : W p l e R s m args below meth c H locs cells slots Q (F0 m pc ls (v :: .ref a :: rest)) := by
  obtain ⟨⟨hx, hb, hml, hown, hts⟩, hK, -⟩ := C
  obtain ⟨hs, hP, hD, hS⟩ := w
  obtain ⟨Cn, T, N, ty0, hc, hin, hk, hlink, hty, hnm, hfin, hd⟩ := f
  obtain ⟨fs, hSa, hl, rfl⟩ := pF_some h
  obtain ⟨ha, q, hq, hq2⟩ := pw_at (G := G) hs hSa
  have key : ∀ (H1 : Heap) (locs1 : List Loc), va_P D vwCl ((pw G L S).set q (a, .inr (ci, fs.set k v))) H1 → va_D A ((pw G L S).set q (a, .inr (ci, fs.set k v))) → va_S A H0 H1 locs1 → W p l e R s m args below meth c H1 locs1 cells slots Q (F0 m (pc + 3) ls (rest)) := by
    intro H1 locs1 g1 g2 g3
    have hw := pw_set hD ha hq2 (eO ci (fs.set k v))
    exact kk H1 locs1 ⟨sup_up hs ha, by rw [← hw]; exact g1, by rw [← hw]; exact g2, g3⟩
  rcases hlink with hlink | ⟨host, hlink⟩
  · exact va_put hx hb hts hin ty0 hty hnm hown hK hP hD hS q hq hc k hk (hts _ hlink) (fun _ h9 => h9) hfin hd hn hf hl hdg key
  · exact va_putN hx hb hts hin ty0 hty hnm hown hK hP hD hS q hq hc k hk (hts _ hlink) (fun _ h9 => h9) hfin hd hn hf hl hdg key
theorem o_ldI (C : CX p s m c args D G cc nL own) (w : Wd D G L A H0 S H locs) {a : Nat} {i : Int32} {v : Int32} (h : ldI S a i = some v) (hdg : decode cc pc = .ok (.iaload, 1)) (kk : W p l e R s m args below meth c H locs cells slots Q (F0 m (pc + 1) ls (.int v :: rest))) : W p l e R s m args below meth c H locs cells slots Q (F0 m pc ls (.int i :: .ref a :: rest)) := by
  obtain ⟨⟨hx, hb, hml, hown, hts⟩, hK, -⟩ := C
  obtain ⟨hs, hP, hD, hS⟩ := w
  obtain ⟨n, f, hSa, hin, rfl⟩ := ldI_some h
  obtain ⟨-, q, hq, -⟩ := pw_at (G := G) hs hSa
  exact va_iald hx hb hK hP q 0 hq rfl hin hdg kk
theorem o_ldJ (C : CX p s m c args D G cc nL own) (w : Wd D G L A H0 S H locs) {a : Nat} {i : Int32} {v : Int64} (h : ldJ S a i = some v) (hdg : decode cc pc = .ok (.laload, 1)) (kk : W p l e R s m args below meth c H locs cells slots Q (F0 m (pc + 1) ls (.long v :: rest))) : W p l e R s m args below meth c H locs cells slots Q (F0 m pc ls (.int i :: .ref a :: rest)) := by
  obtain ⟨⟨hx, hb, hml, hown, hts⟩, hK, -⟩ := C
  obtain ⟨hs, hP, hD, hS⟩ := w
  obtain ⟨n, f, hSa, hin, rfl⟩ := ldJ_some h
  obtain ⟨-, q, hq, -⟩ := pw_at (G := G) hs hSa
  exact va_lald hx hb hK hP q 1 hq rfl hin hdg kk
theorem o_ldZ (C : CX p s m c args D G cc nL own) (w : Wd D G L A H0 S H locs) {a : Nat} {i : Int32} {v : Int32} (h : ldZ S a i = some v) (hdg : decode cc pc = .ok (.baload, 1)) (kk : W p l e R s m args below meth c H locs cells slots Q (F0 m (pc + 1) ls (.int v :: rest))) : W p l e R s m args below meth c H locs cells slots Q (F0 m pc ls (.int i :: .ref a :: rest)) := by
  obtain ⟨⟨hx, hb, hml, hown, hts⟩, hK, -⟩ := C
  obtain ⟨hs, hP, hD, hS⟩ := w
  obtain ⟨n, f, hSa, hin, rfl⟩ := ldZ_some h
  obtain ⟨-, q, hq, -⟩ := pw_at (G := G) hs hSa
  exact va_zald hx hb hK hP q 2 hq rfl hin hdg kk
theorem o_ldR0 (C : CX p s m c args D G cc nL own) (w : Wd D G L A H0 S H locs) {a v : Nat} {i : Int32} (h : ldR 0 S a i = some v) (hdg : decode cc pc = .ok (.aaload, 1)) (kk : W p l e R s m args below meth c H locs cells slots Q (F0 m (pc + 1) ls (.ref v :: rest))) : W p l e R s m args below meth c H locs cells slots Q (F0 m pc ls (.int i :: .ref a :: rest)) := by
  obtain ⟨⟨hx, hb, hml, hown, hts⟩, hK, -⟩ := C
  obtain ⟨hs, hP, hD, hS⟩ := w
  obtain ⟨n, f, hSa, hin, hv⟩ := ldR_some h
  obtain ⟨-, q, hq, -⟩ := pw_at (G := G) hs hSa
  have hlt : i.toNatClampNeg < n := Nat.not_le.mp fun q => hin (Or.inr q)
  have ht : (gtys G)[3]? = some (G 3, .object "SumsThatTell$State") := rfl
  have kk2 : W p l e R s m args below meth c H locs cells slots Q (F0 m (pc + 1) ls (va_rf (f i.toNatClampNeg) :: rest)) := by rw [hv]; exact kk
  exact W.aald (v := va_rf (f i.toNatClampNeg)) (ty := .object "SumsThatTell$State") hx hb (hP q _ hq) ((hK.2 3 _ ht).1 n (fun j => va_rf (f j))) rfl (fun q => by cases q) (by show ¬ (i < 0 ∨ (arrV _ _ _).slots.size ≤ _); rw [arrV_size]; exact hin) (by show (arrV _ _ _).slots[_]? = _; rw [arrV_read _ _ hlt]) rfl rfl hdg kk2
theorem o_ldR1 (C : CX p s m c args D G cc nL own) (w : Wd D G L A H0 S H locs) {a v : Nat} {i : Int32} (h : ldR 1 S a i = some v) (hdg : decode cc pc = .ok (.aaload, 1)) (kk : W p l e R s m args below meth c H locs cells slots Q (F0 m (pc + 1) ls (.ref v :: rest))) : W p l e R s m args below meth c H locs cells slots Q (F0 m pc ls (.int i :: .ref a :: rest)) := by
  obtain ⟨⟨hx, hb, hml, hown, hts⟩, hK, -⟩ := C
  obtain ⟨hs, hP, hD, hS⟩ := w
  obtain ⟨n, f, hSa, hin, hv⟩ := ldR_some h
  obtain ⟨-, q, hq, -⟩ := pw_at (G := G) hs hSa
  have hlt : i.toNatClampNeg < n := Nat.not_le.mp fun q => hin (Or.inr q)
  have ht : (gtys G)[4]? = some (G 4, .array .int) := rfl
  have kk2 : W p l e R s m args below meth c H locs cells slots Q (F0 m (pc + 1) ls (va_rf (f i.toNatClampNeg) :: rest)) := by rw [hv]; exact kk
  exact W.aald (v := va_rf (f i.toNatClampNeg)) (ty := .array .int) hx hb (hP q _ hq) ((hK.2 4 _ ht).1 n (fun j => va_rf (f j))) rfl (fun q => by cases q) (by show ¬ (i < 0 ∨ (arrV _ _ _).slots.size ≤ _); rw [arrV_size]; exact hin) (by show (arrV _ _ _).slots[_]? = _; rw [arrV_read _ _ hlt]) rfl rfl hdg kk2
theorem o_ldR2 (C : CX p s m c args D G cc nL own) (w : Wd D G L A H0 S H locs) {a v : Nat} {i : Int32} (h : ldR 2 S a i = some v) (hdg : decode cc pc = .ok (.aaload, 1)) (kk : W p l e R s m args below meth c H locs cells slots Q (F0 m (pc + 1) ls (.ref v :: rest))) : W p l e R s m args below meth c H locs cells slots Q (F0 m pc ls (.int i :: .ref a :: rest)) := by
  obtain ⟨⟨hx, hb, hml, hown, hts⟩, hK, -⟩ := C
  obtain ⟨hs, hP, hD, hS⟩ := w
  obtain ⟨n, f, hSa, hin, hv⟩ := ldR_some h
  obtain ⟨-, q, hq, -⟩ := pw_at (G := G) hs hSa
  have hlt : i.toNatClampNeg < n := Nat.not_le.mp fun q => hin (Or.inr q)
  have ht : (gtys G)[5]? = some (G 5, .array .long) := rfl
  have kk2 : W p l e R s m args below meth c H locs cells slots Q (F0 m (pc + 1) ls (va_rf (f i.toNatClampNeg) :: rest)) := by rw [hv]; exact kk
  exact W.aald (v := va_rf (f i.toNatClampNeg)) (ty := .array .long) hx hb (hP q _ hq) ((hK.2 5 _ ht).1 n (fun j => va_rf (f j))) rfl (fun q => by cases q) (by show ¬ (i < 0 ∨ (arrV _ _ _).slots.size ≤ _); rw [arrV_size]; exact hin) (by show (arrV _ _ _).slots[_]? = _; rw [arrV_read _ _ hlt]) rfl rfl hdg kk2
theorem o_stI (C : CX p s m c args D G cc nL own) (w : Wd D G L A H0 S H locs) {a : Nat} {i : Int32} {v : Int32} (h : stI S a i v = some S1) (hdg : decode cc pc = .ok (.iastore, 1)) (kk : ∀ (H1 : Heap) (locs1 : List Loc), Wd D G L A H0 S1 H1 locs1 → W p l e R s m args below meth c H1 locs1 cells slots Q (F0 m (pc + 1) ls (rest))) : W p l e R s m args below meth c H locs cells slots Q (F0 m pc ls (.int v :: .int i :: .ref a :: rest)) := by
  obtain ⟨⟨hx, hb, hml, hown, hts⟩, hK, -⟩ := C
  obtain ⟨hs, hP, hD, hS⟩ := w
  obtain ⟨n, f, hSa, hin, rfl⟩ := stI_some h
  obtain ⟨ha, q, hq, hq2⟩ := pw_at (G := G) hs hSa
  have hw := pw_set hD ha hq2 (eI n (upd f i.toNatClampNeg v))
  exact va_iast hx hb hK hP hD hS q 0 hq rfl hin hdg (fun H1 locs1 g1 g2 g3 => kk H1 locs1 ⟨sup_up hs ha, by rw [← hw]; exact g1, by rw [← hw]; exact g2, g3⟩)
theorem o_stJ (C : CX p s m c args D G cc nL own) (w : Wd D G L A H0 S H locs) {a : Nat} {i : Int32} {v : Int64} (h : stJ S a i v = some S1) (hdg : decode cc pc = .ok (.lastore, 1)) (kk : ∀ (H1 : Heap) (locs1 : List Loc), Wd D G L A H0 S1 H1 locs1 → W p l e R s m args below meth c H1 locs1 cells slots Q (F0 m (pc + 1) ls (rest))) : W p l e R s m args below meth c H locs cells slots Q (F0 m pc ls (.long v :: .int i :: .ref a :: rest)) := by
  obtain ⟨⟨hx, hb, hml, hown, hts⟩, hK, -⟩ := C
  obtain ⟨hs, hP, hD, hS⟩ := w
  obtain ⟨n, f, hSa, hin, rfl⟩ := stJ_some h
  obtain ⟨ha, q, hq, hq2⟩ := pw_at (G := G) hs hSa
  have hw := pw_set hD ha hq2 (eJ n (vp_updL f i.toNatClampNeg v))
  exact va_last hx hb hK hP hD hS q 1 hq rfl hin hdg (fun H1 locs1 g1 g2 g3 => kk H1 locs1 ⟨sup_up hs ha, by rw [← hw]; exact g1, by rw [← hw]; exact g2, g3⟩)
theorem o_stZ (C : CX p s m c args D G cc nL own) (w : Wd D G L A H0 S H locs) {a : Nat} {i : Int32} {v : Int32} (h : stZ S a i v = some S1) (hdg : decode cc pc = .ok (.bastore, 1)) (kk : ∀ (H1 : Heap) (locs1 : List Loc), Wd D G L A H0 S1 H1 locs1 → W p l e R s m args below meth c H1 locs1 cells slots Q (F0 m (pc + 1) ls (rest))) : W p l e R s m args below meth c H locs cells slots Q (F0 m pc ls (.int v :: .int i :: .ref a :: rest)) := by
  obtain ⟨⟨hx, hb, hml, hown, hts⟩, hK, -⟩ := C
  obtain ⟨hs, hP, hD, hS⟩ := w
  obtain ⟨n, f, hSa, hin, rfl⟩ := stZ_some h
  obtain ⟨ha, q, hq, hq2⟩ := pw_at (G := G) hs hSa
  have hw := pw_set hD ha hq2 (eZ n (upd f i.toNatClampNeg (vp_nar .boolean v)))
  exact va_zast hx hb hK hP hD hS q 2 hq rfl hin hdg (fun H1 locs1 g1 g2 g3 => kk H1 locs1 ⟨sup_up hs ha, by rw [← hw]; exact g1, by rw [← hw]; exact g2, g3⟩)
theorem o_lnI (C : CX p s m c args D G cc nL own) (w : Wd D G L A H0 S H locs) {a : Nat} {v : Int32} (h : lnI S a = some v) (hdg : decode cc pc = .ok (.arraylength, 1)) (kk : W p l e R s m args below meth c H locs cells slots Q (F0 m (pc + 1) ls (.int v :: rest))) : W p l e R s m args below meth c H locs cells slots Q (F0 m pc ls (.ref a :: rest)) := by
  obtain ⟨⟨hx, hb, hml, hown, hts⟩, hK, -⟩ := C
  obtain ⟨hs, hP, hD, hS⟩ := w
  obtain ⟨n, f, hSa, hv⟩ := lnI_some h
  obtain ⟨-, q, hq, -⟩ := pw_at (G := G) hs hSa
  exact va_alen hx hb hK hP q 0 hq rfl hv hdg kk
theorem o_lnJ (C : CX p s m c args D G cc nL own) (w : Wd D G L A H0 S H locs) {a : Nat} {v : Int32} (h : lnJ S a = some v) (hdg : decode cc pc = .ok (.arraylength, 1)) (kk : W p l e R s m args below meth c H locs cells slots Q (F0 m (pc + 1) ls (.int v :: rest))) : W p l e R s m args below meth c H locs cells slots Q (F0 m pc ls (.ref a :: rest)) := by
  obtain ⟨⟨hx, hb, hml, hown, hts⟩, hK, -⟩ := C
  obtain ⟨hs, hP, hD, hS⟩ := w
  obtain ⟨n, f, hSa, hv⟩ := lnJ_some h
  obtain ⟨-, q, hq, -⟩ := pw_at (G := G) hs hSa
  exact va_alen hx hb hK hP q 1 hq rfl hv hdg kk
theorem o_cpI (C : CX p s m c args D G cc nL own) (w : Wd D G L A H0 S H locs) (hsz : ls.size = nL) {a b index : Nat} {sp dp n : Int32} (h : cpI S a sp b dp n = some S1) (hlk : Cond.methodLink own index arraycopyName ∈ tb) (hnat : Cond.native arraycopyName ∈ tb) (hst : Cond.static arraycopyName ∈ tb) (hini : Cond.initialized "java/lang/System" ∈ tb) (hfr : 1 ≤ R.frames) (hlo : (rest.map fun v => v.category).sum + (nativeFrameWords "java/lang/System" "arraycopy" 5 + 11) ≤ R.locals) (hdg : decode cc pc = .ok (.invokestatic index, 3)) (kk : ∀ (H1 : Heap) (locs1 : List Loc), Wd D G L A H0 S1 H1 locs1 → W p l e R s m args below meth c H1 locs1 cells slots Q (F0 m (pc + 3) ls (rest))) : W p l e R s m args below meth c H locs cells slots Q (F0 m pc ls (.int n :: .int dp :: .ref b :: .int sp :: .ref a :: rest)) := by
  obtain ⟨⟨hx, hb, hml, hown, hts⟩, hK, -⟩ := C
  obtain ⟨hs, hP, hD, hS⟩ := w
  obtain ⟨n0, f, n1, g, hSa, hSb, h1, h2, h3, h4, h5, rfl⟩ := cpI_some h
  obtain ⟨-, q, hq, -⟩ := pw_at (G := G) hs hSa
  obtain ⟨hbL, q1, hq1, hq2⟩ := pw_at (G := G) hs hSb
  have hw := pw_set hD hbL hq2 (eI n1 (va_cpy f g sp.toNatClampNeg dp.toNatClampNeg n.toNatClampNeg))
  exact va_copyi (ty := .int) hx hb (hml.trans hsz.symm) hown (hts _ hlk) (hts _ hnat) (hts _ hst) (hts _ hini) hK hP hD hS q q1 0 0 hq hq1 rfl rfl rfl h1 h2 h3 h4 h5 (fun _ _ => rfl) hfr hlo hdg (fun H1 locs1 g1 g2 g3 => kk H1 locs1 ⟨sup_up hs hbL, by rw [← hw]; exact g1, by rw [← hw]; exact g2, g3⟩)
theorem o_cpJ (C : CX p s m c args D G cc nL own) (w : Wd D G L A H0 S H locs) (hsz : ls.size = nL) {a b index : Nat} {sp dp n : Int32} (h : cpJ S a sp b dp n = some S1) (hlk : Cond.methodLink own index arraycopyName ∈ tb) (hnat : Cond.native arraycopyName ∈ tb) (hst : Cond.static arraycopyName ∈ tb) (hini : Cond.initialized "java/lang/System" ∈ tb) (hfr : 1 ≤ R.frames) (hlo : (rest.map fun v => v.category).sum + (nativeFrameWords "java/lang/System" "arraycopy" 5 + 11) ≤ R.locals) (hdg : decode cc pc = .ok (.invokestatic index, 3)) (kk : ∀ (H1 : Heap) (locs1 : List Loc), Wd D G L A H0 S1 H1 locs1 → W p l e R s m args below meth c H1 locs1 cells slots Q (F0 m (pc + 3) ls (rest))) : W p l e R s m args below meth c H locs cells slots Q (F0 m pc ls (.int n :: .int dp :: .ref b :: .int sp :: .ref a :: rest)) := by
  obtain ⟨⟨hx, hb, hml, hown, hts⟩, hK, -⟩ := C
  obtain ⟨hs, hP, hD, hS⟩ := w
  obtain ⟨n0, f, n1, g, hSa, hSb, h1, h2, h3, h4, h5, rfl⟩ := cpJ_some h
  obtain ⟨-, q, hq, -⟩ := pw_at (G := G) hs hSa
  obtain ⟨hbL, q1, hq1, hq2⟩ := pw_at (G := G) hs hSb
  have hw := pw_set hD hbL hq2 (eJ n1 (va_cpy f g sp.toNatClampNeg dp.toNatClampNeg n.toNatClampNeg))
  exact va_copyl (ty := .long) hx hb (hml.trans hsz.symm) hown (hts _ hlk) (hts _ hnat) (hts _ hst) (hts _ hini) hK hP hD hS q q1 1 1 hq hq1 rfl rfl rfl h1 h2 h3 h4 h5 (fun _ _ => rfl) hfr hlo hdg (fun H1 locs1 g1 g2 g3 => kk H1 locs1 ⟨sup_up hs hbL, by rw [← hw]; exact g1, by rw [← hw]; exact g2, g3⟩)
theorem o_dv (C : CX p s m c args D G cc nL own) {x y v : Int32} (h : dvI x y = some v) (hdg : decode cc pc = .ok (.idiv, 1)) (kk : W p l e R s m args below meth c H locs cells slots Q (F0 m (pc + 1) ls (.int v :: rest))) : W p l e R s m args below meth c H locs cells slots Q (F0 m pc ls (.int y :: .int x :: rest)) := by
  obtain ⟨hne, rfl⟩ := dvI_some h
  exact lv_idiv C.1.1 C.1.2.1 hdg hne kk
theorem o_rm (C : CX p s m c args D G cc nL own) {x y v : Int32} (h : rmI x y = some v) (hdg : decode cc pc = .ok (.irem, 1)) (kk : W p l e R s m args below meth c H locs cells slots Q (F0 m (pc + 1) ls (.int v :: rest))) : W p l e R s m args below meth c H locs cells slots Q (F0 m pc ls (.int y :: .int x :: rest)) := by
  obtain ⟨hne, rfl⟩ := rmI_some h
  exact lv_irem C.1.1 C.1.2.1 hdg hne kk
theorem o_topi {x y : Int32} (h : y = x) (kk : W p l e R s m args below meth c H locs cells slots Q (F0 m pc ls (.int y :: rest))) : W p l e R s m args below meth c H locs cells slots Q (F0 m pc ls (.int x :: rest)) := h ▸ kk
theorem o_topl {x y : Int64} (h : y = x) (kk : W p l e R s m args below meth c H locs cells slots Q (F0 m pc ls (.long y :: rest))) : W p l e R s m args below meth c H locs cells slots Q (F0 m pc ls (.long x :: rest)) := h ▸ kk
theorem o_sw0 {x : Int32} {dflt : Int} {lo9 hi : Int} {offs : Array Int} {len tgt : Nat} {off : Int} (C : CX p s m c args D G cc nL own) (k : Int32) (hk : x = k) (hdg : decode cc pc = .ok (.tableswitch dflt lo9 hi offs, len)) (h1 : ¬ k.toInt < lo9) (h2 : ¬ hi < k.toInt) (ho : offs[(k.toInt - lo9).toNat]? = some off) (ht : (pc : Int) + off = (tgt : Int)) (kk : W p l e R s m args below meth c H locs cells slots Q (F0 m tgt ls (rest))) : W p l e R s m args below meth c H locs cells slots Q (F0 m pc ls (.int x :: rest)) := by
  subst hk
  exact lv_tableIn C.1.1 C.1.2.1 hdg h1 h2 ho ht kk
theorem o_iret (C : CX p s m c args D G cc nL own) (w : Wd D G L (inL L) s.heap S H locs) (hr : meth.sig.returnType = some .int) (hlk : meth.locks = false) {v : Int32} (hdg : decode cc pc = .ok (.ireturn, 1)) : W p l e R s m args below meth c H locs 0 0 (MQ below (Qi D G L v S) args s 0 0 (inL L)) (F0 m pc ls [.int v]) := by
  obtain ⟨⟨hx, hb, hml, hown, hts⟩, hK, hT⟩ := C
  obtain ⟨hs, hP, hD, hS⟩ := w
  exact W.iret hx hb hr (fun t ht hW => ⟨⟨v, S, rfl, ⟨rfl, rfl⟩, hs, by rw [ht]; exact hP, hD, va_K.moved hW.alike hK, TB_moved hW hT⟩, hS.F ht⟩) hS.2.2 hdg hlk
theorem o_zret (C : CX p s m c args D G cc nL own) (w : Wd D G L (inL L) s.heap S H locs) (hr : meth.sig.returnType = some .boolean) (hlk : meth.locks = false) {v : Int32} (hn : narrow .boolean (.int v) = .int v) (hdg : decode cc pc = .ok (.ireturn, 1)) : W p l e R s m args below meth c H locs 0 0 (MQ below (Qi D G L v S) args s 0 0 (inL L)) (F0 m pc ls [.int v]) := by
  obtain ⟨⟨hx, hb, hml, hown, hts⟩, hK, hT⟩ := C
  obtain ⟨hs, hP, hD, hS⟩ := w
  exact W.zret hx hb hr hn (fun t ht hW => ⟨⟨v, S, rfl, ⟨rfl, rfl⟩, hs, by rw [ht]; exact hP, hD, va_K.moved hW.alike hK, TB_moved hW hT⟩, hS.F ht⟩) hS.2.2 hdg hlk
theorem o_lret (C : CX p s m c args D G cc nL own) (w : Wd D G L (inL L) s.heap S H locs) (hr : meth.sig.returnType = some .long) (hlk : meth.locks = false) {v : Int64} (hdg : decode cc pc = .ok (.lreturn, 1)) : W p l e R s m args below meth c H locs 0 0 (MQ below (Ql D G L v S) args s 0 0 (inL L)) (F0 m pc ls [.long v]) := by
  obtain ⟨⟨hx, hb, hml, hown, hts⟩, hK, hT⟩ := C
  obtain ⟨hs, hP, hD, hS⟩ := w
  exact W.lret hx hb hr (fun t ht hW => ⟨⟨v, S, rfl, ⟨rfl, rfl⟩, hs, by rw [ht]; exact hP, hD, va_K.moved hW.alike hK, TB_moved hW hT⟩, hS.F ht⟩) hS.2.2 hdg hlk
theorem o_vret (C : CX p s m c args D G cc nL own) (w : Wd D G L (inL L) s.heap S H locs) (hr : meth.sig.returnType = none) (hlk : meth.locks = false) (hdg : decode cc pc = .ok (.return_, 1)) : W p l e R s m args below meth c H locs 0 0 (MQ below (Qv D G L S) args s 0 0 (inL L)) (F0 m pc ls []) := by
  obtain ⟨⟨hx, hb, hml, hown, hts⟩, hK, hT⟩ := C
  obtain ⟨hs, hP, hD, hS⟩ := w
  exact W.vret hx hb hr (fun t ht hW => ⟨⟨S, rfl, rfl, hs, by rw [ht]; exact hP, hD, va_K.moved hW.alike hK, TB_moved hW hT⟩, hS.F ht⟩) hS.2.2 hdg hlk
theorem o_aret (C : CX p s m c args D G cc nL own) (w : Wd D G L (inL L) s.heap S H locs) {rt : FieldType} (hr : meth.sig.returnType = some rt) (hrt : (∃ n, rt = .object n) ∨ ∃ t, rt = .array t) (hlk : meth.locks = false) {v : Nat} (hdg : decode cc pc = .ok (.areturn, 1)) : W p l e R s m args below meth c H locs 0 0 (MQ below (Qr D G L v S) args s 0 0 (inL L)) (F0 m pc ls [.ref v]) := by
  obtain ⟨⟨hx, hb, hml, hown, hts⟩, hK, hT⟩ := C
  obtain ⟨hs, hP, hD, hS⟩ := w
  exact W.aret hx hb hr hrt (Or.inr ⟨v, rfl⟩) (fun t ht hW => ⟨⟨S, v, rfl, rfl, rfl, hs, by rw [ht]; exact hP, hD, va_K.moved hW.alike hK, TB_moved hW hT⟩, hS.F ht⟩) hS.2.2 hdg hlk
/-- a method's start -/
theorem o_ent {y : MethodName} {rm : Room} {maxL : Nat} {ret : Option FieldType} {ws : List Cond} {s₁ : State} (hy : y.cls = own) (B : BodyLoose p l y (headSpec ws rm) cc maxL ret e s m args below meth c s₁) (hml : c.maxLocals = nL) (h : PreU D G L S s) : CX p s m c args D G cc nL own ∧ Wd D G L (inL L) s.heap S s.heap [] := by
  obtain ⟨h1, h2, h3, h4, h5⟩ := h
  exact ⟨⟨⟨B.exec, B.bytes, hml, by rw [← hy]; exact findClass_of_methodNamed B.named, TB_use args h5⟩, h4, h5⟩, h1, h2, h3, va_S.rf⟩
abbrev RoomOk (R rm : Room) (maxL : Nat) : Prop := rm.cells = 0 ∧ rm.slots = 0 ∧ rm.frames + 1 ≤ R.frames ∧ 8 + (maxL + 11) + rm.locals ≤ R.locals
theorem o_runV (C : CX p s m c args D G cc nL own) (w : Wd D G L A H0 S H locs) {b : Nat} {As st : List Value} {ci index n maxL : Nat} {y : MethodName} {bytes : ByteArray} {ret : Option FieldType} {rm : Room} {Qc : Array Value → State → Outcome → State → Prop} (hM : Met l y [Cond.code y bytes maxL ret] rm (va_Pc (.ref b :: As) (PreU D G L S)) Qc 0 0 (inL L)) (ml : ML own index y bytes maxL ret n) (mv : MV ci y) (hR : RoomOk R rm maxL) (hob : ckO S b ci = some ()) (hn : As.length = n) (hsz : ls.size = nL) (hst : st = As.reverse ++ .ref b :: rest) (hrm : (rest.map fun v => v.category).sum ≤ 8) (hdg : decode cc pc = .ok (.invokevirtual index, 3)) (hcs : cells ≤ R.cells ∧ slots ≤ R.slots) : va_Run p l e R s m args below meth c H locs cells slots 0 0 (F0 m pc ls st) rest (Qc (Value.ref b :: As).toArray) (inL L) := by
  obtain ⟨hfix, hK, hT⟩ := C
  have hts := hfix.2.2.2.2
  obtain ⟨hs, hP, hD, hS⟩ := w
  obtain ⟨hlk, hini, hcode, hnm, hds⟩ := ml
  obtain ⟨hin, hsel, q, hq, hqc⟩ := mv
  obtain ⟨fs, hSb⟩ := ckO_some hob
  obtain ⟨-, k, hk, -⟩ := pw_at (G := G) hs hSb
  have hD' : va_D (inL L) (pw G L S) := hD.weaken (fun k q hk _ => pw_base hk)
  have hp : PreV s H y.cls b (va_Pc (.ref b :: As) (PreU D G L S)) As := ⟨PreU_blind _, by rw [← hqc]; exact va_recv hK hP hq hk, fun U hU hW => ⟨rfl, hs, by rw [hU]; exact hP, hD', va_K.moved hW.alike hK, TB_moved hW hT⟩⟩
  have hgood : ∀ w ∈ [Cond.code y bytes maxL ret], ∀ (a' : Array Value) (U : State), s.WarmedH U.vm → w.before a' U = true := by
    intro w hw a' U hW
    rw [List.mem_singleton] at hw
    subst hw
    exact okw_at a' hW (List.mem_filter.mp hcode).2 (hT _ hcode)
  rcases hlk with hlk | ⟨host, hlk⟩
  · exact va_runV hfix hM ⟨⟨hR.1, hR.2.1, hR.2.2.1, hR.2.2.2, hgood, List.mem_singleton_self _, hts _ hcode, hts _ hini, hnm, ml_len hds, hts _ hlk⟩, hts _ hin, hts _ hsel⟩ hp rfl hn hsz hst (lv_room hrm) hdg ⟨hcs.1, hcs.2⟩
  · exact va_runVN (host := host) hfix hM ⟨⟨⟨hR.1, hR.2.1, hR.2.2.1, hR.2.2.2, hgood, List.mem_singleton_self _⟩, hts _ hcode, hts _ hini, hnm, ml_len hds, hts _ hlk⟩, hts _ hin, hts _ hsel⟩ hp rfl hn hsz hst (lv_room hrm) hdg ⟨hcs.1, hcs.2⟩
theorem o_runS (C : CX p s m c args D G cc nL own) (w : Wd D G L A H0 S H locs) {As st : List Value} {index n maxL : Nat} {y : MethodName} {bytes : ByteArray} {ret : Option FieldType} {rm : Room} {Qc : Array Value → State → Outcome → State → Prop} (hM : Met l y [Cond.code y bytes maxL ret] rm (va_Pc As (PreU D G L S)) Qc 0 0 (inL L)) (ml : ML own index y bytes maxL ret n) (mv : Cond.static y ∈ tb) (hR : RoomOk R rm maxL) (hn : As.length = n) (hsz : ls.size = nL) (hst : st = As.reverse ++ rest) (hrm : (rest.map fun v => v.category).sum ≤ 8) (hdg : decode cc pc = .ok (.invokestatic index, 3)) (hcs : cells ≤ R.cells ∧ slots ≤ R.slots) : va_Run p l e R s m args below meth c H locs cells slots 0 0 (F0 m pc ls st) rest (Qc As.toArray) (inL L) := by
  obtain ⟨hfix, hK, hT⟩ := C
  have hts := hfix.2.2.2.2
  obtain ⟨hs, hP, hD, hS⟩ := w
  obtain ⟨hlk, hini, hcode, hnm, hds⟩ := ml
  have hD' : va_D (inL L) (pw G L S) := hD.weaken (fun k q hk _ => pw_base hk)
  have hp : PreS s H (va_Pc As (PreU D G L S)) As := ⟨PreU_blind _, fun U hU hW => ⟨rfl, hs, by rw [hU]; exact hP, hD', va_K.moved hW.alike hK, TB_moved hW hT⟩⟩
  have hgood : ∀ w ∈ [Cond.code y bytes maxL ret], ∀ (a' : Array Value) (U : State), s.WarmedH U.vm → w.before a' U = true := by
    intro w hw a' U hW
    rw [List.mem_singleton] at hw
    subst hw
    exact okw_at a' hW (List.mem_filter.mp hcode).2 (hT _ hcode)
  rcases hlk with hlk | ⟨host, hlk⟩
  · exact va_runS hfix hM ⟨⟨hR.1, hR.2.1, hR.2.2.1, hR.2.2.2, hgood, List.mem_singleton_self _, hts _ hcode, hts _ hini, hnm, ml_len hds, hts _ hlk⟩, hts _ mv⟩ hp rfl hn hsz hst (lv_room hrm) hdg ⟨hcs.1, hcs.2⟩
  · exact va_runSN (host := host) hfix hM ⟨⟨⟨hR.1, hR.2.1, hR.2.2.1, hR.2.2.2, hgood, List.mem_singleton_self _⟩, hts _ hcode, hts _ hini, hnm, ml_len hds, hts _ hlk⟩, hts _ mv, trivial⟩ hp rfl hn hsz hst (lv_room hrm) hdg ⟨hcs.1, hcs.2⟩
theorem o_backi (w : Wd D G L A H0 S H locs) (hLA : ∀ q ∈ L, A q) {st : List Value} {a9 : Array Value} {r : Int32} (hr : va_Run p l e R s m args below meth c H locs cells slots 0 0 (F0 m pc ls st) rest (Qi D G L r S1 a9) (inL L)) (kk : ∀ (H1 : Heap) (locs1 : List Loc), Wd D G L A H0 S1 H1 locs1 → W p l e R s m args below meth c H1 locs1 cells slots Q (F0 m (pc + 3) ls (.int r :: rest))) : W p l e R s m args below meth c H locs cells slots Q (F0 m pc ls (st)) := by
  obtain ⟨hs, hP, hD, hS⟩ := w
  refine va_calli hr hS (fun q _ h => hLA q h) (fun q h => hLA q h) (fun r9 u t H1 locs1 ht hvm hw hB hz1 hk1 hS1 => ?_)
  obtain ⟨rfl, rfl⟩ := hw
  obtain ⟨g1, g2, g3, g4, g5⟩ := hB
  exact kk H1 locs1 ⟨g1, by rw [← ht]; exact g2, g3.weaken (fun k q hk _ => hLA _ (pw_base hk)), hS1⟩
theorem o_backl (w : Wd D G L A H0 S H locs) (hLA : ∀ q ∈ L, A q) {st : List Value} {a9 : Array Value} {r : Int64} (hr : va_Run p l e R s m args below meth c H locs cells slots 0 0 (F0 m pc ls st) rest (Ql D G L r S1 a9) (inL L)) (kk : ∀ (H1 : Heap) (locs1 : List Loc), Wd D G L A H0 S1 H1 locs1 → W p l e R s m args below meth c H1 locs1 cells slots Q (F0 m (pc + 3) ls (.long r :: rest))) : W p l e R s m args below meth c H locs cells slots Q (F0 m pc ls (st)) := by
  obtain ⟨hs, hP, hD, hS⟩ := w
  refine va_calll hr hS (fun q _ h => hLA q h) (fun q h => hLA q h) (fun r9 u t H1 locs1 ht hvm hw hB hz1 hk1 hS1 => ?_)
  obtain ⟨rfl, rfl⟩ := hw
  obtain ⟨g1, g2, g3, g4, g5⟩ := hB
  exact kk H1 locs1 ⟨g1, by rw [← ht]; exact g2, g3.weaken (fun k q hk _ => hLA _ (pw_base hk)), hS1⟩
theorem o_backv (w : Wd D G L A H0 S H locs) (hLA : ∀ q ∈ L, A q) {st : List Value} {a9 : Array Value} (hr : va_Run p l e R s m args below meth c H locs cells slots 0 0 (F0 m pc ls st) rest (Qv D G L S1 a9) (inL L)) (kk : ∀ (H1 : Heap) (locs1 : List Loc), Wd D G L A H0 S1 H1 locs1 → W p l e R s m args below meth c H1 locs1 cells slots Q (F0 m (pc + 3) ls (rest))) : W p l e R s m args below meth c H locs cells slots Q (F0 m pc ls (st)) := by
  obtain ⟨hs, hP, hD, hS⟩ := w
  refine va_callv hr hS (fun q _ h => hLA q h) (fun q h => hLA q h) (fun u t H1 locs1 ht hvm hw hB hz1 hk1 hS1 => ?_)
  subst hw
  obtain ⟨g1, g2, g3, g4, g5⟩ := hB
  exact kk H1 locs1 ⟨g1, by rw [← ht]; exact g2, g3.weaken (fun k q hk _ => hLA _ (pw_base hk)), hS1⟩
theorem o_backr (w : Wd D G L A H0 S H locs) (hLA : ∀ q ∈ L, A q) {st : List Value} {a9 : Array Value} {r : Nat} (hr : va_Run p l e R s m args below meth c H locs cells slots 0 0 (F0 m pc ls st) rest (Qr D G L r S1 a9) (inL L)) (kk : ∀ (H1 : Heap) (locs1 : List Loc), Wd D G L A H0 S1 H1 locs1 → W p l e R s m args below meth c H1 locs1 cells slots Q (F0 m (pc + 3) ls (.ref r :: rest))) : W p l e R s m args below meth c H locs cells slots Q (F0 m pc ls (st)) := by
  obtain ⟨hs, hP, hD, hS⟩ := w
  refine va_callr hr hS (fun q _ h => hLA q h) (fun q h => hLA q h) (fun u r9 t H1 locs1 ht hvm hw hB hz1 hk1 hS1 => ?_)
  subst hw
  obtain ⟨rfl, g1, g2, g3, g4, g5⟩ := hB
  exact kk H1 locs1 ⟨g1, by rw [← ht]; exact g2, g3.weaken (fun k q hk _ => hLA _ (pw_base hk)), hS1⟩
end OPS
