/-! ===== the tables' words, all of them, as one premise ===== -/
def nestW : Cond → Bool
  | .methodLinkNest _ _ _ _ => true
  | .fieldLinkNest _ _ _ _ _ _ => true
  | _ => false
def okw (w : Cond) : Bool := goodWord w || nestW w
def tb : List Cond := lw_tbl.filter okw
def TB (U : State) : Prop := ∀ w ∈ tb, w.before #[] U = true
theorem okw_at {s U : State} {w : Cond} {a : Array Value} (a' : Array Value) (hW : s.WarmedH U.vm) (hok : okw w = true) (h : w.before a s = true) : w.before a' U = true := by
  by_cases g : goodWord w = true
  · exact word_at hW (good_of_word g) h
  · have g2 : nestW w = true := by simpa [okw, g] using hok
    cases w with
    | methodLinkNest c i x hh => exact va_Nw.use rfl (va_Nw.warmM hW (va_Nw.of rfl h))
    | fieldLinkNest c i r n d hh => exact va_Nw.use rfl (va_Nw.warmF hW (va_Nw.of rfl h))
    | _ => cases g2
theorem TB_moved {s U : State} (hW : s.WarmedH U.vm) (h : TB s) : TB U := fun w hw => okw_at _ hW (List.mem_filter.mp hw).2 (h w hw)
theorem TB_use {s : State} (args : Array Value) (h : TB s) : ∀ w ∈ tb, w.before args s = true := fun w hw => okw_at _ (State.WarmedH.refl s) (List.mem_filter.mp hw).2 (h w hw)
theorem tb_in {w : Cond} (i : Nat) (h : lw_tbl[i]? = some w) (hok : okw w = true) : w ∈ tb := List.mem_filter.mpr ⟨List.mem_of_getElem? h, hok⟩
theorem tb_all {ws : List Cond} (ps : List Nat) (h : ws = ps.filterMap (fun i => lw_tbl[i]?)) (hok : ws.all okw = true) : ∀ w ∈ ws, w ∈ tb := by
  intro w hw
  have h1 := List.all_eq_true.mp hok w hw
  rw [h] at hw
  obtain ⟨i, -, hi⟩ := List.mem_filterMap.mp hw
  exact tb_in i hi h1
/-! ===== the heap as a map: what lies at an address ===== -/
abbrev PE : Type := (Nat × (Nat → Int32)) ⊕ ((Nat × (Nat → Int64)) ⊕ ((Nat × (Nat → Int32)) ⊕ ((Nat × Nat × (Nat → Option Nat)) ⊕ (Nat × List Value))))
abbrev PH : Type := Nat → Option PE
abbrev eI (n : Nat) (f : Nat → Int32) : PE := .inl (n, f)
abbrev eJ (n : Nat) (f : Nat → Int64) : PE := .inr (.inl (n, f))
abbrev eZ (n : Nat) (f : Nat → Int32) : PE := .inr (.inr (.inl (n, f)))
abbrev eR (k n : Nat) (f : Nat → Option Nat) : PE := .inr (.inr (.inr (.inl (k, n, f))))
abbrev eO (ci : Nat) (fs : List Value) : PE := .inr (.inr (.inr (.inr (ci, fs))))
def toE (G : Nat → ClassId) : Option PE → va_E
  | some (.inl (n, f)) => .inl (G 0, n, .inl f)
  | some (.inr (.inl (n, f))) => .inl (G 1, n, .inr (.inl f))
  | some (.inr (.inr (.inl (n, f)))) => .inl (G 2, n, .inl f)
  | some (.inr (.inr (.inr (.inl (k, n, f))))) => .inl (G (3 + k), n, .inr (.inr (.inr (.inr f))))
  | some (.inr (.inr (.inr (.inr (ci, fs))))) => .inr (ci, fs)
  | none => .inl (G 0, 0, .inl (fun _ => 0))
abbrev gtys (G : Nat → ClassId) : List (ClassId × FieldType) := [(G 0, .int), (G 1, .long), (G 2, .boolean), (G 3, .object "SumsThatTell$State"), (G 4, .array .int), (G 5, .array .long)]
def pw (G : Nat → ClassId) (L : List Nat) (S : PH) : va_W := [] ++ va_pl L (fun a => toE G (S a))
def sup (L : List Nat) (S : PH) : Prop := ∀ a, (S a).isSome = true → a ∈ L
theorem pw_get {G : Nat → ClassId} {L : List Nat} {S : PH} {a : Nat} (h : a ∈ L) : ∃ k : Nat, (pw G L S)[k]? = some (a, toE G (S a)) := va_pl_get (X := []) (f := fun a => toE G (S a)) h
theorem pw_at {G : Nat → ClassId} {L : List Nat} {S : PH} {a : Nat} {x : PE} (hs : sup L S) (h : S a = some x) : a ∈ L ∧ ∃ k : Nat, (pw G L S)[k]? = some (a, toE G (some x)) ∧ (pw G L S)[k]? = some (a, toE G (S a)) := by
  have ha : a ∈ L := hs a (by rw [h]; rfl)
  obtain ⟨k, hk⟩ := pw_get (G := G) (S := S) ha
  exact ⟨ha, k, by rw [hk, h], hk⟩
theorem pw_set {A : Nat → Prop} {G : Nat → ClassId} {L : List Nat} {S : PH} {a q : Nat} (hD : va_D A (pw G L S)) (ha : a ∈ L) (hq : (pw G L S)[q]? = some (a, toE G (S a))) (x : PE) : (pw G L S).set q (a, toE G (some x)) = pw G L (va_up S a (some x)) := by
  have h := va_pl_set (X := []) (e := toE G (some x)) hD ha hq
  refine h.trans ?_
  refine congrArg (fun l => ([] : va_W) ++ l) (va_pl_congr (fun b => ?_))
  by_cases hb : b = a
  · subst hb
    rw [va_up_self, va_up_self]
  · rw [va_up_ne _ _ hb, va_up_ne _ _ hb]
theorem sup_up {L : List Nat} {S : PH} {a : Nat} {x : PE} (hs : sup L S) (ha : a ∈ L) : sup L (va_up S a (some x)) := by
  intro b hb
  by_cases h : b = a
  · rw [h]; exact ha
  · rw [va_up_ne _ _ h] at hb
    exact hs b hb
/-! ===== what a program reads and writes there ===== -/
def oF (S : PH) (a ci k : Nat) : Option Value := match S a with
  | some (.inr (.inr (.inr (.inr (c, fs))))) => if c = ci then fs[k]? else none
  | _ => none
def gI (S : PH) (a ci k : Nat) : Option Int32 := match oF S a ci k with
  | some (.int v) => some v
  | _ => none
def gR (S : PH) (a ci k : Nat) : Option Nat := match oF S a ci k with
  | some (.ref v) => some v
  | _ => none
def ckO (S : PH) (a ci : Nat) : Option Unit := match S a with
  | some (.inr (.inr (.inr (.inr (c, _))))) => if c = ci then some () else none
  | _ => none
def pF (S : PH) (a ci k : Nat) (v : Value) : Option PH := match S a with
  | some (.inr (.inr (.inr (.inr (c, fs))))) => if c = ci ∧ k < fs.length then some (va_up S a (some (eO c (fs.set k v)))) else none
  | _ => none
abbrev pI (S : PH) (a ci k : Nat) (v : Int32) : Option PH := pF S a ci k (.int v)
abbrev pR (S : PH) (a ci k : Nat) (v : Nat) : Option PH := pF S a ci k (.ref v)
def ldI (S : PH) (a : Nat) (i : Int32) : Option Int32 := match S a with
  | some (.inl (n, f)) => if i < 0 ∨ n ≤ i.toNatClampNeg then none else some (f i.toNatClampNeg)
  | _ => none
def ldJ (S : PH) (a : Nat) (i : Int32) : Option Int64 := match S a with
  | some (.inr (.inl (n, f))) => if i < 0 ∨ n ≤ i.toNatClampNeg then none else some (f i.toNatClampNeg)
  | _ => none
def ldZ (S : PH) (a : Nat) (i : Int32) : Option Int32 := match S a with
  | some (.inr (.inr (.inl (n, f)))) => if i < 0 ∨ n ≤ i.toNatClampNeg then none else some (f i.toNatClampNeg)
  | _ => none
def ldR (kd : Nat) (S : PH) (a : Nat) (i : Int32) : Option Nat := match S a with
  | some (.inr (.inr (.inr (.inl (k, n, f))))) => if k = kd then (if i < 0 ∨ n ≤ i.toNatClampNeg then none else f i.toNatClampNeg) else none
  | _ => none
def stI (S : PH) (a : Nat) (i v : Int32) : Option PH := match S a with
  | some (.inl (n, f)) => if i < 0 ∨ n ≤ i.toNatClampNeg then none else some (va_up S a (some (eI n (upd f i.toNatClampNeg v))))
  | _ => none
def stJ (S : PH) (a : Nat) (i : Int32) (v : Int64) : Option PH := match S a with
  | some (.inr (.inl (n, f))) => if i < 0 ∨ n ≤ i.toNatClampNeg then none else some (va_up S a (some (eJ n (vp_updL f i.toNatClampNeg v))))
  | _ => none
def stZ (S : PH) (a : Nat) (i v : Int32) : Option PH := match S a with
  | some (.inr (.inr (.inl (n, f)))) => if i < 0 ∨ n ≤ i.toNatClampNeg then none else some (va_up S a (some (eZ n (upd f i.toNatClampNeg (vp_nar .boolean v)))))
  | _ => none
def lnI (S : PH) (a : Nat) : Option Int32 := match S a with
  | some (.inl (n, _)) => some (Int32.ofNat n)
  | _ => none
def lnJ (S : PH) (a : Nat) : Option Int32 := match S a with
  | some (.inr (.inl (n, _))) => some (Int32.ofNat n)
  | _ => none
def cpI (S : PH) (a : Nat) (sp : Int32) (b : Nat) (dp n : Int32) : Option PH := match S a, S b with
  | some (.inl (n0, f)), some (.inl (n1, g)) => if sp < 0 ∨ dp < 0 ∨ n < 0 ∨ n0 < sp.toNatClampNeg + n.toNatClampNeg ∨ n1 < dp.toNatClampNeg + n.toNatClampNeg then none else some (va_up S b (some (eI n1 (va_cpy f g sp.toNatClampNeg dp.toNatClampNeg n.toNatClampNeg))))
  | _, _ => none
def cpJ (S : PH) (a : Nat) (sp : Int32) (b : Nat) (dp n : Int32) : Option PH := match S a, S b with
  | some (.inr (.inl (n0, f))), some (.inr (.inl (n1, g))) => if sp < 0 ∨ dp < 0 ∨ n < 0 ∨ n0 < sp.toNatClampNeg + n.toNatClampNeg ∨ n1 < dp.toNatClampNeg + n.toNatClampNeg then none else some (va_up S b (some (eJ n1 (va_cpy f g sp.toNatClampNeg dp.toNatClampNeg n.toNatClampNeg))))
  | _, _ => none
def dvI (x y : Int32) : Option Int32 := if y = 0 then none else some (x / y)
def rmI (x y : Int32) : Option Int32 := if y = 0 then none else some (x - x / y * y)
def ckZ (v : Int32) : Option Unit := if v = 0 ∨ v = 1 then some () else none
def nm {α β : Type} (x : α) (f : α → β) : β := f x
theorem nm_ex {α β : Type} {x : α} {f : α → Option β} {r : β} (h : nm x f = some r) : ∃ v, v = x ∧ f v = some r := ⟨x, rfl, h⟩
/-! ===== and what it says of the map that it is defined ===== -/
theorem oF_some {S : PH} {a ci k : Nat} {v : Value} (h : oF S a ci k = some v) : ∃ fs, S a = some (eO ci fs) ∧ fs[k]? = some v := by
  unfold oF at h
  split at h
  · rename_i c fs he
    split at h
    · rename_i hc
      subst hc
      exact ⟨fs, he, h⟩
    · cases h
  · cases h
theorem gI_some {S : PH} {a ci k : Nat} {v : Int32} (h : gI S a ci k = some v) : ∃ fs, S a = some (eO ci fs) ∧ fs[k]? = some (.int v) := by
  unfold gI at h
  split at h
  · rename_i w he
    cases h
    exact oF_some he
  · cases h
theorem gR_some {S : PH} {a ci k v : Nat} (h : gR S a ci k = some v) : ∃ fs, S a = some (eO ci fs) ∧ fs[k]? = some (.ref v) := by
  unfold gR at h
  split at h
  · rename_i w he
    cases h
    exact oF_some he
  · cases h
theorem ckO_some {S : PH} {a ci : Nat} {u : Unit} (h : ckO S a ci = some u) : ∃ fs, S a = some (eO ci fs) := by
  unfold ckO at h
  split at h
  · rename_i c fs he
    split at h
    · rename_i hc
      subst hc
      exact ⟨fs, he⟩
    · cases h
  · cases h
theorem pF_some {S S' : PH} {a ci k : Nat} {v : Value} (h : pF S a ci k v = some S') : ∃ fs, S a = some (eO ci fs) ∧ k < fs.length ∧ S' = va_up S a (some (eO ci (fs.set k v))) := by
  unfold pF at h
  split at h
  · rename_i c fs he
    split at h
    · rename_i hc
      obtain ⟨hc, hl⟩ := hc
      subst hc
      cases h
      exact ⟨fs, he, hl, rfl⟩
    · cases h
  · cases h
theorem ldI_some {S : PH} {a : Nat} {i v : Int32} (h : ldI S a i = some v) : ∃ n f, S a = some (eI n f) ∧ vp_in i n ∧ f i.toNatClampNeg = v := by
  unfold ldI at h
  split at h
  · rename_i n f he
    split at h
    · cases h
    · rename_i hc
      exact ⟨n, f, he, hc, Option.some.inj h⟩
  · cases h
theorem ldJ_some {S : PH} {a : Nat} {i : Int32} {v : Int64} (h : ldJ S a i = some v) : ∃ n f, S a = some (eJ n f) ∧ vp_in i n ∧ f i.toNatClampNeg = v := by
  unfold ldJ at h
  split at h
  · rename_i n f he
    split at h
    · cases h
    · rename_i hc
      exact ⟨n, f, he, hc, Option.some.inj h⟩
  · cases h
theorem ldZ_some {S : PH} {a : Nat} {i v : Int32} (h : ldZ S a i = some v) : ∃ n f, S a = some (eZ n f) ∧ vp_in i n ∧ f i.toNatClampNeg = v := by
  unfold ldZ at h
  split at h
  · rename_i n f he
    split at h
    · cases h
    · rename_i hc
      exact ⟨n, f, he, hc, Option.some.inj h⟩
  · cases h
theorem ldR_some {kd : Nat} {S : PH} {a v : Nat} {i : Int32} (h : ldR kd S a i = some v) : ∃ n f, S a = some (eR kd n f) ∧ vp_in i n ∧ f i.toNatClampNeg = some v := by
  unfold ldR at h
  split at h
  · rename_i k n f he
    split at h
    · rename_i hk
      subst hk
      split at h
      · cases h
      · rename_i hc
        exact ⟨n, f, he, hc, h⟩
    · cases h
  · cases h
theorem stI_some {S S' : PH} {a : Nat} {i v : Int32} (h : stI S a i v = some S') : ∃ n f, S a = some (eI n f) ∧ vp_in i n ∧ S' = va_up S a (some (eI n (upd f i.toNatClampNeg v))) := by
  unfold stI at h
  split at h
  · rename_i n f he
    split at h
    · cases h
    · rename_i hc
      exact ⟨n, f, he, hc, (Option.some.inj h).symm⟩
  · cases h
theorem stJ_some {S S' : PH} {a : Nat} {i : Int32} {v : Int64} (h : stJ S a i v = some S') : ∃ n f, S a = some (eJ n f) ∧ vp_in i n ∧ S' = va_up S a (some (eJ n (vp_updL f i.toNatClampNeg v))) := by
  unfold stJ at h
  split at h
  · rename_i n f he
    split at h
    · cases h
    · rename_i hc
      exact ⟨n, f, he, hc, (Option.some.inj h).symm⟩
  · cases h
theorem stZ_some {S S' : PH} {a : Nat} {i v : Int32} (h : stZ S a i v = some S') : ∃ n f, S a = some (eZ n f) ∧ vp_in i n ∧ S' = va_up S a (some (eZ n (upd f i.toNatClampNeg (vp_nar .boolean v)))) := by
  unfold stZ at h
  split at h
  · rename_i n f he
    split at h
    · cases h
    · rename_i hc
      exact ⟨n, f, he, hc, (Option.some.inj h).symm⟩
  · cases h
theorem lnI_some {S : PH} {a : Nat} {v : Int32} (h : lnI S a = some v) : ∃ n f, S a = some (eI n f) ∧ Int32.ofNat n = v := by
  unfold lnI at h
  split at h
  · rename_i n f he
    exact ⟨n, f, he, Option.some.inj h⟩
  · cases h
theorem lnJ_some {S : PH} {a : Nat} {v : Int32} (h : lnJ S a = some v) : ∃ n f, S a = some (eJ n f) ∧ Int32.ofNat n = v := by
  unfold lnJ at h
  split at h
  · rename_i n f he
    exact ⟨n, f, he, Option.some.inj h⟩
  · cases h
theorem cpI_some {S S' : PH} {a b : Nat} {sp dp n : Int32} (h : cpI S a sp b dp n = some S') : ∃ n0 f n1 g, S a = some (eI n0 f) ∧ S b = some (eI n1 g) ∧ ¬ sp < 0 ∧ ¬ dp < 0 ∧ ¬ n < 0 ∧ sp.toNatClampNeg + n.toNatClampNeg ≤ n0 ∧ dp.toNatClampNeg + n.toNatClampNeg ≤ n1 ∧ S' = va_up S b (some (eI n1 (va_cpy f g sp.toNatClampNeg dp.toNatClampNeg n.toNatClampNeg))) := by
  unfold cpI at h
  split at h
  · rename_i n0 f n1 g h0 h1
    split at h
    · cases h
    · rename_i hc
      exact ⟨n0, f, n1, g, h0, h1, fun q => hc (Or.inl q), fun q => hc (Or.inr (Or.inl q)), fun q => hc (Or.inr (Or.inr (Or.inl q))), Nat.not_lt.mp fun q => hc (Or.inr (Or.inr (Or.inr (Or.inl q)))), Nat.not_lt.mp fun q => hc (Or.inr (Or.inr (Or.inr (Or.inr q)))), (Option.some.inj h).symm⟩
  · cases h
theorem cpJ_some {S S' : PH} {a b : Nat} {sp dp n : Int32} (h : cpJ S a sp b dp n = some S') : ∃ n0 f n1 g, S a = some (eJ n0 f) ∧ S b = some (eJ n1 g) ∧ ¬ sp < 0 ∧ ¬ dp < 0 ∧ ¬ n < 0 ∧ sp.toNatClampNeg + n.toNatClampNeg ≤ n0 ∧ dp.toNatClampNeg + n.toNatClampNeg ≤ n1 ∧ S' = va_up S b (some (eJ n1 (va_cpy f g sp.toNatClampNeg dp.toNatClampNeg n.toNatClampNeg))) := by
  unfold cpJ at h
  split at h
  · rename_i n0 f n1 g h0 h1
    split at h
    · cases h
    · rename_i hc
      exact ⟨n0, f, n1, g, h0, h1, fun q => hc (Or.inl q), fun q => hc (Or.inr (Or.inl q)), fun q => hc (Or.inr (Or.inr (Or.inl q))), Nat.not_lt.mp fun q => hc (Or.inr (Or.inr (Or.inr (Or.inl q)))), Nat.not_lt.mp fun q => hc (Or.inr (Or.inr (Or.inr (Or.inr q)))), (Option.some.inj h).symm⟩
  · cases h
theorem dvI_some {x y v : Int32} (h : dvI x y = some v) : ¬ y = 0 ∧ x / y = v := by
  unfold dvI at h
  split at h
  · cases h
  · rename_i hc
    exact ⟨hc, Option.some.inj h⟩
theorem rmI_some {x y v : Int32} (h : rmI x y = some v) : ¬ y = 0 ∧ x - x / y * y = v := by
  unfold rmI at h
  split at h
  · cases h
  · rename_i hc
    exact ⟨hc, Option.some.inj h⟩
theorem ckZ_some {v : Int32} {u : Unit} (h : ckZ v = some u) : narrow .boolean (.int v) = .int v := by
  unfold ckZ at h
  split at h
  · rename_i hc
    rcases hc with rfl | rfl <;> rfl
  · cases h
/-! ===== chains ===== -/
theorem bs {α β : Type} {x : Option α} {f : α → Option β} {r : β} (h : x.bind f = some r) : ∃ a, x = some a ∧ f a = some r := by
  cases x with
  | none => cases h
  | some a => exact ⟨a, rfl, h⟩
def bd2 {α β γ : Type} (x : Option (α × β)) (f : α → β → Option γ) : Option γ := x.bind (fun y => f y.1 y.2)
theorem bs2 {α β γ : Type} {x : Option (α × β)} {f : α → β → Option γ} {r : γ} (h : bd2 x f = some r) : ∃ a b, x = some (a, b) ∧ f a b = some r := by
  obtain ⟨⟨a, b⟩, h1, h2⟩ := bs h
  exact ⟨a, b, h1, h2⟩
def bd3 {α β γ δ : Type} (x : Option (α × β × γ)) (f : α → β → γ → Option δ) : Option δ := x.bind (fun y => f y.1 y.2.1 y.2.2)
theorem bs3 {α β γ δ : Type} {x : Option (α × β × γ)} {f : α → β → γ → Option δ} {r : δ} (h : bd3 x f = some r) : ∃ a b c, x = some (a, b, c) ∧ f a b c = some r := by
  obtain ⟨⟨a, b, c⟩, h1, h2⟩ := bs h
  exact ⟨a, b, c, h1, h2⟩
def bd4 {α β γ δ ε : Type} (x : Option (α × β × γ × δ)) (f : α → β → γ → δ → Option ε) : Option ε := x.bind (fun y => f y.1 y.2.1 y.2.2.1 y.2.2.2)
theorem bs4 {α β γ δ ε : Type} {x : Option (α × β × γ × δ)} {f : α → β → γ → δ → Option ε} {r : ε} (h : bd4 x f = some r) : ∃ a b c d, x = some (a, b, c, d) ∧ f a b c d = some r := by
  obtain ⟨⟨a, b, c, d⟩, h1, h2⟩ := bs h
  exact ⟨a, b, c, d, h1, h2⟩
def bdS {α β γ : Type} (x : Option (α ⊕ β)) (f : α → Option γ) (g : β → Option γ) : Option γ := x.bind (fun y => y.elim f g)
theorem bsS {α β γ : Type} {x : Option (α ⊕ β)} {f : α → Option γ} {g : β → Option γ} {r : γ} (h : bdS x f g = some r) : (∃ a, x = some (.inl a) ∧ f a = some r) ∨ ∃ b, x = some (.inr b) ∧ g b = some r := by
  obtain ⟨y, h1, h2⟩ := bs h
  cases y with
  | inl a => exact Or.inl ⟨a, h1, h2⟩
  | inr b => exact Or.inr ⟨b, h1, h2⟩
theorem it {α : Type} {q : Prop} [Decidable q] {a b : α} {r : α} (hq : q) (h : (if q then a else b) = r) : a = r := by rw [if_pos hq] at h; exact h
theorem ie {α : Type} {q : Prop} [Decidable q] {a b : α} {r : α} (hq : ¬ q) (h : (if q then a else b) = r) : b = r := by rw [if_neg hq] at h; exact h
/-- a loop, by fuel -/
def FU : Nat := 1048576
def lpo {σ ε : Type} (b : σ → Option (σ ⊕ ε)) : Nat → σ → Option ε
  | 0, _ => none
  | n + 1, x => (b x).bind fun y => y.elim (lpo b n) some
theorem lpo_W {σ ε : Type} {b : σ → Option (σ ⊕ ε)} {P : σ → Prop} {e : ε} (hs : ∀ x y, b x = some y → (∀ x', y = .inl x' → P x') → (∀ e', y = .inr e' → e' = e) → P x) : ∀ (n : Nat) (x : σ), lpo b n x = some e → P x := by
  intro n
  induction n with
  | zero => intro x h; cases h
  | succ n ih =>
    intro x h
    obtain ⟨y, h1, h2⟩ := bs (show (b x).bind (fun y => y.elim (lpo b n) some) = some e from h)
    refine hs x y h1 (fun x' hx => ?_) (fun e' he => ?_)
    · subst hx
      exact ih x' h2
    · subst he
      exact Option.some.inj h2
