/-! ===== rows that make cells ===== -/
/-- f, but v at every address of l -/
def vr_up {α : Type} (f : Nat → α) (l : List Nat) (v : α) : Nat → α := fun a => if a ∈ l then v else f a
theorem vr_up_in {α : Type} {f : Nat → α} {l : List Nat} {v : α} {a : Nat} (h : a ∈ l) : vr_up f l v a = v := if_pos h
theorem vr_up_ne {α : Type} {f : Nat → α} {l : List Nat} {v : α} {a : Nat} (h : a ∉ l) : vr_up f l v a = f a := if_neg h
theorem ao_idx {u U : State} (hvm : u.vm.Alike U.vm) (comp : ClassId) : (U.vm.classes.findIdx? fun (x : Class) => match x.kind with | .array component _ => component == comp | _ => false) = (u.vm.classes.findIdx? fun (x : Class) => match x.kind with | .array component _ => component == comp | _ => false) := by
  have h1 := va_idx_bare U.vm comp
  have h2 := va_idx_bare u.vm comp
  first | rw [hvm.bare_eq] at h1 | rw [← hvm.bare_eq] at h1
  exact h1.symm.trans h2
theorem ao_moved {t : FieldType} {u U : State} (hvm : u.vm.Alike U.vm) (h : (Cond.arrayOver (.array t)).before #[] u = true) : (Cond.arrayOver (.array t)).before #[] U = true := by
  unfold Cond.before Cond.holds at h ⊢
  simp only [Cond.value, beq_iff_eq] at h ⊢
  have hf : ∀ n, U.vm.findClass n = u.vm.findClass n := fun n => hvm.findClass n _
  simp only [hf]
  cases hc : u.vm.findClass (FieldType.array t).toString with
  | none => simp [hc] at h
  | some comp =>
    simp only [hc, Option.bind_some, Option.bind_eq_some_iff, Option.map_eq_some_iff] at h ⊢
    obtain ⟨c, hi, k, hk, hb⟩ := h
    obtain ⟨k', hk', he⟩ := hvm.2.2 _ _ hk
    refine ⟨c, (ao_idx hvm comp).trans hi, k', hk', ?_⟩
    have hkk : k'.kind = k.kind := by rw [he]
    rw [hkk]
    exact hb
def AO (U : State) : Prop := (Cond.arrayOver (.array .int)).before #[] U = true ∧ (Cond.arrayOver (.array .long)).before #[] U = true ∧ va_AO "SumsThatTell$State" U
theorem AO_moved {u U : State} (hvm : u.vm.Alike U.vm) (h : AO u) : AO U := ⟨ao_moved hvm h.1, ao_moved hvm h.2.1, va_AO.moved hvm h.2.2⟩
theorem pw_new {A : Nat → Prop} {G : Nat → ClassId} {L : List Nat} {S : PH} {q : Nat} {x : va_E} (hD : va_D A (pw G L S ++ [(q, x)])) : q ∉ L := by
  intro hq
  obtain ⟨k, hk⟩ := pw_get (G := G) (S := S) hq
  have hlt : k < (pw G L S).length := (List.getElem?_eq_some_iff.mp hk).1
  have := hD.1 k (pw G L S).length (q, toE G (S q)) (q, x) (by rw [List.getElem?_append_left hlt]; exact hk) (by simp) rfl
  omega
theorem pw_push {G : Nat → ClassId} {L : List Nat} {S : PH} {q : Nat} (hq : q ∉ L) (x : PE) : pw G L S ++ [(q, toE G (some x))] = pw G (L ++ [q]) (va_up S q (some x)) := by
  show va_pl L (fun a => toE G (S a)) ++ [(q, toE G (some x))] = va_pl (L ++ [q]) (fun a => toE G (va_up S q (some x) a))
  rw [va_pl_push hq]
  refine va_pl_congr (fun b => ?_)
  by_cases hb : b = q
  · subst hb
    rw [va_up_self, va_up_self]
  · rw [va_up_ne _ _ hb, va_up_ne _ _ hb]
theorem sup_push {L : List Nat} {S : PH} {q : Nat} {x : PE} (hs : sup L S) : sup (L ++ [q]) (va_up S q (some x)) := by
  intro b hb
  by_cases h : b = q
  · rw [h]; simp
  · rw [va_up_ne _ _ h] at hb
    exact List.mem_append_left _ (hs b hb)
abbrev CN (p : Program) (s : State) (m : MethodId) (c : Code) (args : Array Value) (D : va_G) (G : Nat → ClassId) (cc : ByteArray) (nL : Nat) (own : String) : Prop := CX p s m c args D G cc nL own ∧ AO s
abbrev AA (L : List Nat) (sz : Nat) : Nat → Prop := fun q => q ∈ L ∨ sz ≤ q
def PreN (D : va_G) (G : Nat → ClassId) (L : List Nat) (S : PH) (sz : Nat) (U : State) : Prop := U.heap.size = sz ∧ PreU D G L S U ∧ AO U
abbrev Qn (D : va_G) (G : Nat → ClassId) (L : List Nat) (sz : Nat) (post : PH → List Nat → Prop) : Array Value → State → Outcome → State → Prop := va_Qv (fun (u : PH × List Nat) => post u.1 u.2) (fun u t => PreU D G u.2 u.1 t ∧ ∀ q ∈ u.2, AA L sz q) (AA L sz)
def wA (x : PE) (S : PH) (L : List Nat) (k : Nat → PH → List Nat → Prop) : Prop := ∀ q, q ∉ L → k q (va_up S q (some x)) (L ++ [q])
def wG (kd n : Nat) (x : PE) (S : PH) (L : List Nat) (k : Nat → PH → List Nat → Prop) : Prop := ∀ (q : Nat) (r : Nat → Nat), q ∉ L → (∀ i j, i < n → j < n → r i = r j → i = j) → (∀ i, i < n → r i ∉ L ∧ r i ≠ q) → k q (va_up (vr_up S ((List.range n).map r) (some x)) q (some (eR kd n (fun i => if i < n then some (r i) else none)))) ((L ++ [q]) ++ (List.range n).map r)
theorem PreN_blind {D : va_G} {G : Nat → ClassId} {L : List Nat} {S : PH} {sz : Nat} (av : List Value) : FrameBlind (va_Pc av (PreN D G L S sz)) := by
  intro a U g mk ⟨h0, h1, ⟨g1, g2, g3, g4, g5⟩, h3⟩
  exact ⟨h0, h1, ⟨g1, g2, g3, va_K.moved (u := U) (U := U.calling g mk a) (Vm.Alike.refl U.vm) g4, TB_moved (U := U.calling g mk a) (State.WarmedH.refl U) g5⟩, AO_moved (u := U) (U := U.calling g mk a) (Vm.Alike.refl U.vm) h3⟩
def FF (own : String) (index ci k : Nat) (ty : FieldType) : Prop := ∃ (Cn : String) (T : u_T) (N : Nat) (ty0 : Nat → FieldType), vwCl[ci]? = some (Cn, T, N) ∧ (∀ w ∈ u_ws Cn T N, w ∈ tb) ∧ k < N ∧ Cond.fieldLink own index (T k).1 (T k).2.1 (T k).2.2.1 ∈ tb ∧ (∀ k, k < N → parseFieldDescriptor (T k).2.2.1 = some (ty0 k)) ∧ (∀ a, a < N → ∀ b, b < N → a ≠ b → (T a).2.1 ≠ (T b).2.1) ∧ (T k).2.2.2 = true ∧ (T k).1 = own ∧ parseFieldDescriptor (T k).2.2.1 = some ty
def NW (own : String) (index ci : Nat) (fs : List Value) (N : Nat) : Prop := ∃ (Cn : String) (T : u_T) (ty0 : Nat → FieldType), vwCl[ci]? = some (Cn, T, N) ∧ (∀ w ∈ u_ws Cn T N, w ∈ tb) ∧ (∀ k, k < N → parseFieldDescriptor (T k).2.2.1 = some (ty0 k)) ∧ Cond.classLink own index Cn ∈ tb ∧ Cond.instantiable Cn N ∈ tb ∧ Cond.initialized Cn ∈ tb ∧ ∀ j, j < N → defaultValue (ty0 j) = vp_V fs j
section CROWS
variable {p : Program} {l : Launch} {e : Env} {R : Room} {s : State} {m : MethodId} {args : Array Value} {below : List Frame} {meth : Method} {c : Code} {H : Heap} {locs : List Loc} {cells slots : Nat} {Q : State → Prop}
variable {cc : ByteArray} {nL pc : Nat} {ls : Array Slot} {rest : List Value} {D : va_G} {G : Nat → ClassId} {L : List Nat} {A : Nat → Prop} {H0 : Heap} {S S1 : PH} {own : String}
theorem o_pFF (C : CX p s m c args D G cc nL own) (w : Wd D G L A H0 S H locs) (hini : meth.name = "<init>") {a ci k index : Nat} {v : Value} {ty : FieldType} (h : pF S a ci k v = some S1) (f : FF own index ci k ty) (hn : narrow ty v = v) (hf : fits ty v = true) (hdg : decode cc pc = .ok (.putfield index, 3)) (kk : ∀ (H1 : Heap) (locs1 : List Loc), Wd D G L A H0 S1 H1 locs1 → W p l e R s m args below meth c H1 locs1 cells slots Q (F0 m (pc + 3) ls rest)) : W p l e R s m args below meth c H locs cells slots Q (F0 m pc ls (v :: .ref a :: rest)) := by
  obtain ⟨⟨hx, hb, hml, hown, hts⟩, hK, -⟩ := C
  obtain ⟨hs, hP, hD, hS⟩ := w
  obtain ⟨Cn, T, N, ty0, hc, hin, hk, hlink, hty, hnm, hfin, hdecl, hd⟩ := f
  obtain ⟨fs, hSa, hl, rfl⟩ := pF_some h
  obtain ⟨ha, q, hq, hq2⟩ := pw_at (G := G) hs hSa
  have hw := pw_set hD ha hq2 (eO ci (fs.set k v))
  exact va_putF hx hb hts hin ty0 hty hnm hown hK hP hD hS q hq hc k hk (hts _ hlink) (fun _ h9 => h9) hfin hini hdecl hd hn hf hl hdg (fun H1 locs1 g1 g2 g3 => kk H1 locs1 ⟨sup_up hs ha, by rw [← hw]; exact g1, by rw [← hw]; exact g2, g3⟩)
theorem o_new (C : CX p s m c args D G cc nL own) (w : Wd D G L A H0 S H locs) (hA : ∀ q, H0.size ≤ q → A q) {index ci N : Nat} {fs : List Value} (f : NW own index ci fs N) (hcells : cells + 1 ≤ R.cells) (hslots : slots + N ≤ R.slots) (hdg : decode cc pc = .ok (.new index, 3)) (kk : ∀ (q : Nat) (H1 : Heap), q ∉ L → Wd D G (L ++ [q]) A H0 (va_up S q (some (eO ci fs))) H1 locs → W p l e R s m args below meth c H1 locs (cells + 1) (slots + N) Q (F0 m (pc + 3) ls (.ref q :: rest))) : W p l e R s m args below meth c H locs cells slots Q (F0 m pc ls (rest)) := by
  obtain ⟨⟨hx, hb, hml, hown, hts⟩, hK, -⟩ := C
  obtain ⟨hs, hP, hD, hS⟩ := w
  obtain ⟨Cn, T, ty0, hc, hin, hty, hcl, hinst, hini, hdef⟩ := f
  refine va_new hx hb hts hin ty0 hty hown (hts _ hcl) (hts _ hinst) (hts _ hini) hK hP hD hS hA hc hdef hcells hslots hdg (fun q H1 g1 g2 g3 => ?_)
  have hq := pw_new g2
  have hw := pw_push (G := G) (S := S) hq (eO ci fs)
  exact kk q H1 hq ⟨sup_push hs, by rw [← hw]; exact g1, by rw [← hw]; exact g2, g3⟩
theorem o_newI (C : CX p s m c args D G cc nL own) (w : Wd D G L A H0 S H locs) (hA : ∀ q, H0.size ≤ q → A q) {n : Int32} {N : Nat} (hn : ¬ n < 0) (hN : n.toNatClampNeg = N) (hby : N * componentBytes .int ≤ 536870912) (hcells : cells + 1 ≤ R.cells) (hslots : slots + N ≤ R.slots) (harr : Cond.arrayClass .int ∈ tb) (hdg : decode cc pc = .ok (.newarray .int, 2)) (kk : ∀ (q : Nat) (H1 : Heap), q ∉ L → Wd D G (L ++ [q]) A H0 (va_up S q (some (eI N (fun _ => 0)))) H1 locs → W p l e R s m args below meth c H1 locs (cells + 1) (slots + N) Q (F0 m (pc + 2) ls (.ref q :: rest))) : W p l e R s m args below meth c H locs cells slots Q (F0 m pc ls (.int n :: rest)) := by
  obtain ⟨⟨hx, hb, hml, hown, hts⟩, hK, -⟩ := C
  obtain ⟨hs, hP, hD, hS⟩ := w
  refine va_newa (atype := .int) (ty := .int) (a0 := (N, .inl (fun _ => 0))) hx hb (hts _ harr) rfl hK hP hD hS hA (fun cA => rfl) hn hN hby hcells hslots hdg (fun q cA H1 gK g1 g2 g3 => ?_)
  have e1 : s.vm.findClass ("[" ++ (FieldType.toString .int)) = some cA := (gK.2 6 (cA, .int) rfl).2
  have e2 : s.vm.findClass ("[" ++ (FieldType.toString .int)) = some (G 0) := (hK.2 0 (G 0, .int) rfl).2
  have e3 : cA = G 0 := Option.some.inj (e1.symm.trans e2)
  rw [e3] at g1 g2
  have hq := pw_new g2
  have hw := pw_push (G := G) (S := S) hq (eI N (fun _ => 0))
  exact kk q H1 hq ⟨sup_push hs, by rw [← hw]; exact g1, by rw [← hw]; exact g2, g3⟩
theorem o_newJ (C : CX p s m c args D G cc nL own) (w : Wd D G L A H0 S H locs) (hA : ∀ q, H0.size ≤ q → A q) {n : Int32} {N : Nat} (hn : ¬ n < 0) (hN : n.toNatClampNeg = N) (hby : N * componentBytes .long ≤ 536870912) (hcells : cells + 1 ≤ R.cells) (hslots : slots + N ≤ R.slots) (harr : Cond.arrayClass .long ∈ tb) (hdg : decode cc pc = .ok (.newarray .long, 2)) (kk : ∀ (q : Nat) (H1 : Heap), q ∉ L → Wd D G (L ++ [q]) A H0 (va_up S q (some (eJ N (fun _ => 0)))) H1 locs → W p l e R s m args below meth c H1 locs (cells + 1) (slots + N) Q (F0 m (pc + 2) ls (.ref q :: rest))) : W p l e R s m args below meth c H locs cells slots Q (F0 m pc ls (.int n :: rest)) := by
  obtain ⟨⟨hx, hb, hml, hown, hts⟩, hK, -⟩ := C
  obtain ⟨hs, hP, hD, hS⟩ := w
  refine va_newa (atype := .long) (ty := .long) (a0 := (N, .inr (.inl (fun _ => 0)))) hx hb (hts _ harr) rfl hK hP hD hS hA (fun cA => rfl) hn hN hby hcells hslots hdg (fun q cA H1 gK g1 g2 g3 => ?_)
  have e1 : s.vm.findClass ("[" ++ (FieldType.toString .long)) = some cA := (gK.2 6 (cA, .long) rfl).2
  have e2 : s.vm.findClass ("[" ++ (FieldType.toString .long)) = some (G 1) := (hK.2 1 (G 1, .long) rfl).2
  have e3 : cA = G 1 := Option.some.inj (e1.symm.trans e2)
  rw [e3] at g1 g2
  have hq := pw_new g2
  have hw := pw_push (G := G) (S := S) hq (eJ N (fun _ => 0))
  exact kk q H1 hq ⟨sup_push hs, by rw [← hw]; exact g1, by rw [← hw]; exact g2, g3⟩
theorem o_newZ (C : CX p s m c args D G cc nL own) (w : Wd D G L A H0 S H locs) (hA : ∀ q, H0.size ≤ q → A q) {n : Int32} {N : Nat} (hn : ¬ n < 0) (hN : n.toNatClampNeg = N) (hby : N * componentBytes .boolean ≤ 536870912) (hcells : cells + 1 ≤ R.cells) (hslots : slots + N ≤ R.slots) (harr : Cond.arrayClass .boolean ∈ tb) (hdg : decode cc pc = .ok (.newarray .boolean, 2)) (kk : ∀ (q : Nat) (H1 : Heap), q ∉ L → Wd D G (L ++ [q]) A H0 (va_up S q (some (eZ N (fun _ => 0)))) H1 locs → W p l e R s m args below meth c H1 locs (cells + 1) (slots + N) Q (F0 m (pc + 2) ls (.ref q :: rest))) : W p l e R s m args below meth c H locs cells slots Q (F0 m pc ls (.int n :: rest)) := by
  obtain ⟨⟨hx, hb, hml, hown, hts⟩, hK, -⟩ := C
  obtain ⟨hs, hP, hD, hS⟩ := w
  refine va_newa (atype := .boolean) (ty := .boolean) (a0 := (N, .inl (fun _ => 0))) hx hb (hts _ harr) rfl hK hP hD hS hA (fun cA => rfl) hn hN hby hcells hslots hdg (fun q cA H1 gK g1 g2 g3 => ?_)
  have e1 : s.vm.findClass ("[" ++ (FieldType.toString .boolean)) = some cA := (gK.2 6 (cA, .boolean) rfl).2
  have e2 : s.vm.findClass ("[" ++ (FieldType.toString .boolean)) = some (G 2) := (hK.2 2 (G 2, .boolean) rfl).2
  have e3 : cA = G 2 := Option.some.inj (e1.symm.trans e2)
  rw [e3] at g1 g2
  have hq := pw_new g2
  have hw := pw_push (G := G) (S := S) hq (eZ N (fun _ => 0))
  exact kk q H1 hq ⟨sup_push hs, by rw [← hw]; exact g1, by rw [← hw]; exact g2, g3⟩
theorem o_newS (C : CX p s m c args D G cc nL own) (w : Wd D G L A H0 S H locs) (hao : AO s) (hA : ∀ q, H0.size ≤ q → A q) {n : Int32} {N index : Nat} (hn : ¬ n < 0) (hN : n.toNatClampNeg = N) (hby : N * 4 ≤ 536870912) (hcells : cells + 1 ≤ R.cells) (hslots : slots + N ≤ R.slots) (hcl : Cond.classLink own index "SumsThatTell$State" ∈ tb) (hdg : decode cc pc = .ok (.anewarray index, 3)) (kk : ∀ (q : Nat) (H1 : Heap), q ∉ L → Wd D G (L ++ [q]) A H0 (va_up S q (some (eR 0 N (fun _ => none)))) H1 locs → W p l e R s m args below meth c H1 locs (cells + 1) (slots + N) Q (F0 m (pc + 3) ls (.ref q :: rest))) : W p l e R s m args below meth c H locs cells slots Q (F0 m pc ls (.int n :: rest)) := by
  obtain ⟨⟨hx, hb, hml, hown, hts⟩, hK, -⟩ := C
  obtain ⟨hs, hP, hD, hS⟩ := w
  refine va_newq hx hb hown (hts _ hcl) hao.2.2 hK hP hD hS hA hn hN hby hcells hslots hdg (fun q cA H1 gK g1 g2 g3 => ?_)
  obtain ⟨k1, c1, -, -, -, e1⟩ := (gK.2 6 (cA, .object "SumsThatTell$State") rfl).2
  obtain ⟨k2, c2, -, -, -, e2⟩ := (hK.2 3 (G 3, .object "SumsThatTell$State") rfl).2
  have e3 : cA = G 3 := Option.some.inj (e1.symm.trans e2)
  rw [e3] at g1 g2
  have hq := pw_new g2
  have hw := pw_push (G := G) (S := S) hq (eR 0 N (fun _ => none))
  exact kk q H1 hq ⟨sup_push hs, by rw [← hw]; exact g1, by rw [← hw]; exact g2, g3⟩
theorem o_ast (C : CX p s m c args D G cc nL own) (w : Wd D G L A H0 S H locs) {a v n : Nat} {f : Nat → Option Nat} {fs : List Value} {i : Int32} (ha : S a = some (eR 0 n f)) (hv : S v = some (eO 5 fs)) (hin : vp_in i n) (hdg : decode cc pc = .ok (.aastore, 1)) (kk : ∀ (H1 : Heap) (locs1 : List Loc), Wd D G L A H0 (va_up S a (some (eR 0 n (va_up f i.toNatClampNeg (some v))))) H1 locs1 → W p l e R s m args below meth c H1 locs1 cells slots Q (F0 m (pc + 1) ls rest)) : W p l e R s m args below meth c H locs cells slots Q (F0 m pc ls (.ref v :: .int i :: .ref a :: rest)) := by
  obtain ⟨⟨hx, hb, hml, hown, hts⟩, hK, -⟩ := C
  obtain ⟨hs, hP, hD, hS⟩ := w
  obtain ⟨haL, q, hq, hq2⟩ := pw_at (G := G) hs ha
  obtain ⟨-, k, hk, -⟩ := pw_at (G := G) hs hv
  have hw := pw_set hD haL hq2 (eR 0 n (va_up f i.toNatClampNeg (some v)))
  exact va_astq (r := (RX5, TX5, 4)) hx hb hK hP hD hS q 3 k 5 hq rfl hk rfl hin hdg (fun H1 locs1 g1 g2 g3 => kk H1 locs1 ⟨sup_up hs haL, by rw [← hw]; exact g1, by rw [← hw]; exact g2, g3⟩)
theorem o_nret {L0 : List Nat} {post : PH → List Nat → Prop} (C : CX p s m c args D G cc nL own) (w : Wd D G L (AA L0 s.heap.size) s.heap S H locs) (h : post S L) (hr : meth.sig.returnType = none) (hlk : meth.locks = false) (hdg : decode cc pc = .ok (.return_, 1)) : W p l e R s m args below meth c H locs cells slots (MQ below (Qn D G L0 s.heap.size post) args s cells slots (AA L0 s.heap.size)) (F0 m pc ls []) := by
  obtain ⟨⟨hx, hb, hml, hown, hts⟩, hK, hT⟩ := C
  obtain ⟨hs, hP, hD, hS⟩ := w
  have hD' : va_D (inL L) (pw G L S) := hD.weaken (fun k q hk _ => pw_base hk)
  have hLA : ∀ q ∈ L, AA L0 s.heap.size q := fun q hq => by
    obtain ⟨k, hk⟩ := pw_get (G := G) (S := S) hq
    exact hD.2 k _ hk
  exact W.vret hx hb hr (fun t ht hW => ⟨⟨(S, L), rfl, h, ⟨hs, by rw [ht]; exact hP, hD', va_K.moved hW.alike hK, TB_moved hW hT⟩, hLA⟩, hS.F ht⟩) hS.2.2 hdg hlk
theorem o_entN {y : MethodName} {rm : Room} {maxL : Nat} {ret : Option FieldType} {ws : List Cond} {s₁ : State} {sz : Nat} (hy : y.cls = own) (B : BodyLoose p l y (headSpec ws rm) cc maxL ret e s m args below meth c s₁) (hml : c.maxLocals = nL) (h : PreN D G L S sz s) : CX p s m c args D G cc nL own ∧ AO s ∧ s.heap.size = sz ∧ Wd D G L (AA L s.heap.size) s.heap S s.heap [] := by
  obtain ⟨h0, ⟨h1, h2, h3, h4, h5⟩, h6⟩ := h
  exact ⟨⟨⟨B.exec, B.bytes, hml, by rw [← hy]; exact findClass_of_methodNamed B.named, TB_use args h5⟩, h4, h5⟩, h6, h0, h1, h2, h3.weaken (fun k q hk h => Or.inl h), va_S.rf⟩
theorem o_callN (C : CX p s m c args D G cc nL own) (w : Wd D G L A H0 S H locs) (hao : AO s) (hA : ∀ q, H0.size ≤ q → A q) {b : Nat} {index maxL mc ms : Nat} {y : MethodName} {bytes : ByteArray} {rm : Room} {post : PH → List Nat → Prop} (hM : Met l y [Cond.code y bytes maxL none] rm (va_Pc [.ref b] (PreN D G L S H.size)) (Qn D G L H.size post) mc ms (AA L H.size)) (ml : ML own index y bytes maxL none 0) (hin : Cond.instanceMethod y ∈ tb) (hy1 : y.name = "<init>") (hR : rm.cells = mc ∧ rm.slots = ms ∧ rm.frames + 1 ≤ R.frames ∧ 8 + (maxL + 11) + rm.locals ≤ R.locals) (hsz : ls.size = nL) (hrm : (rest.map fun v => v.category).sum ≤ 8) (hdg : decode cc pc = .ok (.invokespecial index, 3)) (hcs : cells + mc ≤ R.cells ∧ slots + ms ≤ R.slots)
    (kk : ∀ (S1 : PH) (L1 : List Nat) (H1 : Heap) (locs1 : List Loc), post S1 L1 → Wd D G L1 A H0 S1 H1 locs1 → W p l e R s m args below meth c H1 locs1 (cells + mc) (slots + ms) Q (F0 m (pc + 3) ls rest)) : W p l e R s m args below meth c H locs cells slots Q (F0 m pc ls (.ref b :: rest)) := by
  obtain ⟨hfix, hK, hT⟩ := C
  have hts := hfix.2.2.2.2
  obtain ⟨hs, hP, hD, hS⟩ := w
  obtain ⟨hlk, hini, hcode, hnm, hds⟩ := ml
  have hD' : va_D (inL L) (pw G L S) := hD.weaken (fun k q hk _ => pw_base hk)
  have hLA : ∀ q ∈ L, A q := fun q hq => by
    obtain ⟨k, hk⟩ := pw_get (G := G) (S := S) hq
    exact hD.2 k _ hk
  have hfree : ∀ q, AA L H.size q → A q := fun q h => h.elim (hLA q) (fun h => hA q (Nat.le_trans hS.1 h))
  have hp : PreS s H (va_Pc [.ref b] (PreN D G L S H.size)) [.ref b] := ⟨PreN_blind _, fun U hU hW => ⟨rfl, by rw [hU], ⟨hs, by rw [hU]; exact hP, hD', va_K.moved hW.alike hK, TB_moved hW hT⟩, AO_moved hW.alike hao⟩⟩
  have hgood : ∀ w ∈ [Cond.code y bytes maxL none], ∀ (a' : Array Value) (U : State), s.WarmedH U.vm → w.before a' U = true := by
    intro w hw a' U hW
    rw [List.mem_singleton] at hw
    subst hw
    exact okw_at a' hW (List.mem_filter.mp hcode).2 (hT _ hcode)
  have hrun : va_Run p l e R s m args below meth c H locs cells slots mc ms (F0 m pc ls (.ref b :: rest)) rest (Qn D G L H.size post #[.ref b]) (AA L H.size) := by
    rcases hlk with hlk | ⟨host, hlk⟩
    · exact va_runI (As := []) hfix hM ⟨⟨hR.1, hR.2.1, hR.2.2.1, hR.2.2.2, hgood, List.mem_singleton_self _, hts _ hcode, hts _ hini, hnm, ml_len hds, hts _ hlk⟩, hy1, hts _ hin⟩ hp rfl rfl hsz rfl (lv_room hrm) hdg hcs
    · exact va_runIN (As := []) (host := host) hfix hM ⟨⟨⟨hR.1, hR.2.1, hR.2.2.1, hR.2.2.2, hgood, List.mem_singleton_self _⟩, hts _ hcode, hts _ hini, hnm, ml_len hds, hts _ hlk⟩, hy1, hts _ hin⟩ hp rfl rfl hsz rfl (lv_room hrm) hdg hcs
  refine va_callv hrun hS (fun q _ h => hfree q h) (fun q h => hfree q h) (fun u t H1 locs1 ht hvm hw hB hz1 hk1 hS1 => ?_)
  obtain ⟨⟨g1, g2, g3, g4, g5⟩, g6⟩ := hB
  exact kk u.1 u.2 H1 locs1 hw ⟨g1, by rw [← ht]; exact g2, g3.weaken (fun k q hk _ => hfree _ (g6 _ (pw_base hk))), hS1⟩
end CROWS
