/-! ===== the constructors: what they leave, in the order of making ===== -/
def Zs (n : Nat) (c : Nat → Nat) (F : Nat → PE) (S : PH) (L : List Nat) : Prop := (∀ i, i < n → S (c i) = some (F i)) ∧ (∀ i j, i < n → j < n → c i = c j → i = j) ∧ ∀ i, i < n → c i ∈ L
section CONS
variable {n : Nat} {c : Nat → Nat} {F : Nat → PE} {S : PH} {L : List Nat}
theorem zA {e : PE} {P : Nat → PH → List Nat → Prop} (h : Zs n c F S L) (hP : ∀ c' F' S' L', Zs (n + 1) c' F' S' L' → (∀ j, j < n → c' j = c j) → F' n = e → (∀ j, j < n → F' j = F j) → P (c' n) S' L') : wA e S L P := by
  intro q hq
  have hne : ∀ i, i < n → c i ≠ q := fun i hi x => hq (x ▸ h.2.2 i hi)
  have key := hP (va_up c n q) (va_up F n e) (va_up S q (some e)) (L ++ [q]) ⟨fun i hi => ?_, fun i j hi hj hc => ?_, fun i hi => ?_⟩ (fun j hj => va_up_ne _ _ (by omega)) (va_up_self _ _ _) (fun j hj => va_up_ne _ _ (by omega))
  · rw [va_up_self] at key
    exact key
  · by_cases x : i = n
    · subst x
      rw [va_up_self, va_up_self, va_up_self]
    · rw [va_up_ne _ _ x, va_up_ne _ _ x, va_up_ne _ _ (hne i (by omega))]
      exact h.1 i (by omega)
  · by_cases x : i = n
    · by_cases y : j = n
      · omega
      · rw [x, va_up_self, va_up_ne _ _ y] at hc
        exact absurd hc.symm (hne j (by omega))
    · by_cases y : j = n
      · rw [y, va_up_self, va_up_ne _ _ x] at hc
        exact absurd hc (hne i (by omega))
      · rw [va_up_ne _ _ x, va_up_ne _ _ y] at hc
        exact h.2.1 i j (by omega) (by omega) hc
  · by_cases x : i = n
    · subst x
      rw [va_up_self]
      exact List.mem_append.mpr (Or.inr (List.mem_singleton.mpr rfl))
    · rw [va_up_ne _ _ x]
      exact List.mem_append.mpr (Or.inl (h.2.2 i (by omega)))
theorem Zs_up (h : Zs n c F S L) {i : Nat} (hi : i < n) (e : PE) : Zs n c (va_up F i e) (va_up S (c i) (some e)) L := by
  refine ⟨fun j hj => ?_, h.2.1, h.2.2⟩
  by_cases x : j = i
  · subst x
    rw [va_up_self, va_up_self]
  · rw [va_up_ne _ _ x, va_up_ne _ _ (fun q => x (h.2.1 j i hj hi q))]
    exact h.1 j hj
theorem zF {P : PH → Prop} {i a ci k : Nat} {fs : List Value} {v : Value} (h : Zs n c F S L) (hi : i < n) (ha : c i = a) (hF : F i = eO ci fs) (hk : k < fs.length) (hP : ∀ F' S', Zs n c F' S' L → F' i = eO ci (fs.set k v) → (∀ j, j < n → j ≠ i → F' j = F j) → P S') : wO (pF S a ci k v) P := by
  subst ha
  refine ⟨_, pF_n ((h.1 i hi).trans (congrArg some hF)) hk, hP _ _ (Zs_up h hi _) (va_up_self _ _ _) (fun j _ hj => va_up_ne _ _ hj)⟩
theorem zAF {P : Nat → PH → List Nat → Prop} {e : PE} {i a ci k : Nat} {fs : List Value} (h : Zs n c F S L) (hi : i < n) (ha : c i = a) (hF : F i = eO ci fs) (hk : k < fs.length) (hP : ∀ c' F' S' L', Zs (n + 1) c' F' S' L' → (∀ j, j < n → c' j = c j) → F' n = e → F' i = eO ci (fs.set k (.ref (c' n))) → (∀ j, j < n → j ≠ i → F' j = F j) → P (c' n) S' L') : wA e S L fun q S3 L4 => wO (pF S3 a ci k (.ref q)) fun S5 => P q S5 L4 := by
  refine zA h (fun c1 F1 S1 L1 h1 k1 e1 o1 => ?_)
  refine zF h1 (by omega) ((k1 i hi).trans ha) ((o1 i hi).trans hF) hk (fun F2 S2 h2 f2 o2 => ?_)
  exact hP c1 F2 S2 L1 h2 k1 ((o2 n (by omega) (by omega)).trans e1) f2 (fun j hj hne => (o2 j (by omega) hne).trans (o1 j hj))
theorem zI {P : PH → Prop} {i a m j : Nat} {f : Nat → Int32} {v : Int32} (h : Zs n c F S L) (hi : i < n) (ha : c i = a) (hF : F i = eI m f) (hj : j < m) (hm : m < 2147483648) (hP : ∀ F' S', Zs n c F' S' L → F' i = eI m (upd f j v) → (∀ j, j < n → j ≠ i → F' j = F j) → P S') : wO (stI S a (nI j) v) P := by
  subst ha
  refine ⟨_, stI_n ((h.1 i hi).trans (congrArg some hF)) hj hm, hP _ _ (Zs_up h hi _) (va_up_self _ _ _) (fun j _ hj => va_up_ne _ _ hj)⟩
theorem zJ {P : PH → Prop} {i a m j : Nat} {f : Nat → Int64} {v : Int64} (h : Zs n c F S L) (hi : i < n) (ha : c i = a) (hF : F i = eJ m f) (hj : j < m) (hm : m < 2147483648) (hP : ∀ F' S', Zs n c F' S' L → F' i = eJ m (vp_updL f j v) → (∀ j, j < n → j ≠ i → F' j = F j) → P S') : wO (stJ S a (nI j) v) P := by
  subst ha
  refine ⟨_, stJ_n ((h.1 i hi).trans (congrArg some hF)) hj hm, hP _ _ (Zs_up h hi _) (va_up_self _ _ _) (fun j _ hj => va_up_ne _ _ hj)⟩
theorem zR {P : Nat → Prop} {i a ci k r : Nat} {fs : List Value} (h : Zs n c F S L) (hi : i < n) (ha : c i = a) (hF : F i = eO ci fs) (hv : fs[k]? = some (.ref r)) (hP : P r) : wO (gR S a ci k) P := by
  subst ha
  exact ⟨_, gR_n ((h.1 i hi).trans (congrArg some hF)) hv, hP⟩
theorem zL {P : Nat → Prop} {i a kd m j r : Nat} {f : Nat → Option Nat} (h : Zs n c F S L) (hi : i < n) (ha : c i = a) (hF : F i = eR kd m f) (hj : j < m) (hm : m < 2147483648) (hv : f j = some r) (hP : P r) : wO (ldR kd S a (nI j)) P := by
  subst ha
  exact ⟨_, ldR_n ((h.1 i hi).trans (congrArg some hF)) hj hm hv, hP⟩
theorem vr_in {S : PH} {x : Option PE} {a : Nat} : ∀ l : List Nat, a ∈ l → vr_up S l x a = x := by
  intro l h
  exact vr_up_in h
theorem zG {P : Nat → PH → List Nat → Prop} {kd m : Nat} {x : PE} (h : Zs n c F S L) (hP : ∀ c' F' S' L' g, Zs (n + 1 + m) c' F' S' L' → (∀ j, j < n → c' j = c j) → F' n = eR kd m g → (∀ j, j < m → g j = some (c' (n + 1 + j))) → (∀ j, j < m → F' (n + 1 + j) = x) → (∀ j, j < n → F' j = F j) → P (c' n) S' L') : wG kd m x S L P := by
  intro q r hq hr hrL
  have hne : ∀ i, i < n → c i ≠ q := fun i hi y => hq (y ▸ h.2.2 i hi)
  have hnr : ∀ i j, i < n → j < m → c i ≠ r j := fun i j hi hj y => (hrL j hj).1 (y ▸ h.2.2 i hi)
  have key := hP (fun i => if i < n then c i else if i = n then q else r (i - n - 1)) (fun i => if i < n then F i else if i = n then eR kd m (fun i => if i < m then some (r i) else none) else x) (va_up (vr_up S ((List.range m).map r) (some x)) q (some (eR kd m (fun i => if i < m then some (r i) else none)))) ((L ++ [q]) ++ (List.range m).map r) (fun i => if i < m then some (r i) else none) ⟨fun i hi => ?_, fun i j hi hj hc => ?_, fun i hi => ?_⟩ (fun j hj => if_pos hj) (by show (if n < n then _ else if n = n then _ else _) = _; rw [if_neg (by omega), if_pos rfl]) (fun j hj => ?_) (fun j hj => by show (if n + 1 + j < n then _ else if n + 1 + j = n then _ else _) = _; rw [if_neg (by omega), if_neg (by omega)]) (fun j hj => if_pos hj)
  · have e : (if n < n then c n else if n = n then q else r (n - n - 1)) = q := by
      rw [if_neg (by omega), if_pos rfl]
    have key2 : P (if n < n then c n else if n = n then q else r (n - n - 1)) _ _ := key
    rw [e] at key2
    exact key2
  · show va_up (vr_up S ((List.range m).map r) (some x)) q (some (eR kd m _)) (if i < n then c i else if i = n then q else r (i - n - 1)) = some (if i < n then F i else if i = n then _ else x)
    by_cases y : i < n
    · rw [if_pos y, if_pos y, va_up_ne _ _ (hne i y), vr_up_ne (fun z => by
        obtain ⟨j, hj, e⟩ := List.mem_map.mp z
        exact hnr i j y (List.mem_range.mp hj) e.symm)]
      exact h.1 i y
    · rw [if_neg y, if_neg y]
      by_cases z : i = n
      · rw [if_pos z, if_pos z, va_up_self]
      · rw [if_neg z, if_neg z, va_up_ne _ _ (hrL (i - n - 1) (by omega)).2, vr_in _ (List.mem_map.mpr ⟨i - n - 1, List.mem_range.mpr (by omega), rfl⟩)]
  · have hc : (if i < n then c i else if i = n then q else r (i - n - 1)) = (if j < n then c j else if j = n then q else r (j - n - 1)) := hc
    by_cases y : i < n
    · rw [if_pos y] at hc
      by_cases y2 : j < n
      · rw [if_pos y2] at hc
        exact h.2.1 i j y y2 hc
      · rw [if_neg y2] at hc
        by_cases z2 : j = n
        · rw [if_pos z2] at hc
          exact absurd hc (hne i y)
        · rw [if_neg z2] at hc
          exact absurd hc (hnr i _ y (by omega))
    · rw [if_neg y] at hc
      by_cases z : i = n
      · rw [if_pos z] at hc
        by_cases y2 : j < n
        · rw [if_pos y2] at hc
          exact absurd hc.symm (hne j y2)
        · rw [if_neg y2] at hc
          by_cases z2 : j = n
          · omega
          · rw [if_neg z2] at hc
            exact absurd hc.symm (hrL _ (by omega)).2
      · rw [if_neg z] at hc
        by_cases y2 : j < n
        · rw [if_pos y2] at hc
          exact absurd hc.symm (hnr j _ y2 (by omega))
        · rw [if_neg y2] at hc
          by_cases z2 : j = n
          · rw [if_pos z2] at hc
            exact absurd hc (hrL _ (by omega)).2
          · rw [if_neg z2] at hc
            have := hr _ _ (by omega) (by omega) hc
            omega
  · show (if i < n then c i else if i = n then q else r (i - n - 1)) ∈ (L ++ [q]) ++ (List.range m).map r
    by_cases y : i < n
    · rw [if_pos y]
      exact List.mem_append.mpr (Or.inl (List.mem_append.mpr (Or.inl (h.2.2 i y))))
    · rw [if_neg y]
      by_cases z : i = n
      · rw [if_pos z]
        exact List.mem_append.mpr (Or.inl (List.mem_append.mpr (Or.inr (List.mem_singleton.mpr rfl))))
      · rw [if_neg z]
        exact List.mem_append.mpr (Or.inr (List.mem_map.mpr ⟨i - n - 1, List.mem_range.mpr (by omega), rfl⟩))
  · show (if j < m then some (r j) else none) = some (if n + 1 + j < n then c (n + 1 + j) else if n + 1 + j = n then q else r (n + 1 + j - n - 1))
    rw [if_pos hj, if_neg (by omega), if_neg (by omega), show n + 1 + j - n - 1 = j by omega]
theorem i_X2 {P : PH → List Nat → Prop} {v a : Nat} (h : Zs n c F S L) (hv : v < n) (ha : c v = a) (hF : F v = eO 2 [.null, .null, .null, .null, .null, .null, .null, .int 0, .int 0, .int 0, .int 0, .int 0]) (hP : ∀ c' F' S' L', Zs (n + 7) c' F' S' L' → (∀ j, j < n → c' j = c j) → (∀ j, j < n → j ≠ v → F' j = F j) → F' v = eO 2 [.ref (c' n), .ref (c' (n + 1)), .ref (c' (n + 2)), .ref (c' (n + 3)), .ref (c' (n + 4)), .ref (c' (n + 5)), .ref (c' (n + 6)), .int 0, .int 0, .int 1, .int 0, .int 1] → F' n = eI 8 (fun _ => 0) → F' (n + 1) = eI 10 (fun _ => 0) → F' (n + 2) = eI 10 (fun _ => 0) → F' (n + 3) = eI 10 (fun _ => 0) → F' (n + 4) = eI 10 (fun _ => 0) → F' (n + 5) = eI 10 (fun _ => 0) → F' (n + 6) = eI 10 (fun _ => 0) → P S' L') : wp_X2_init S L a P := by
  unfold wp_X2_init
  refine zAF h (by omega) ha hF (show 0 < 12 by omega) (fun c1 F1 S1 L1 h1 k1 e1 f1 o1 => ?_)
  have a1 : c1 v = a := (k1 v (by omega)).trans ha
  refine zAF h1 (by omega) a1 f1 (show 1 < 12 by omega) (fun c2 F2 S2 L2 h2 k2 e2 f2 o2 => ?_)
  have a2 : c2 v = a := (k2 v (by omega)).trans a1
  refine zAF h2 (by omega) a2 f2 (show 2 < 12 by omega) (fun c3 F3 S3 L3 h3 k3 e3 f3 o3 => ?_)
  have a3 : c3 v = a := (k3 v (by omega)).trans a2
  refine zAF h3 (by omega) a3 f3 (show 3 < 12 by omega) (fun c4 F4 S4 L4 h4 k4 e4 f4 o4 => ?_)
  have a4 : c4 v = a := (k4 v (by omega)).trans a3
  refine zAF h4 (by omega) a4 f4 (show 4 < 12 by omega) (fun c5 F5 S5 L5 h5 k5 e5 f5 o5 => ?_)
  have a5 : c5 v = a := (k5 v (by omega)).trans a4
  refine zAF h5 (by omega) a5 f5 (show 5 < 12 by omega) (fun c6 F6 S6 L6 h6 k6 e6 f6 o6 => ?_)
  have a6 : c6 v = a := (k6 v (by omega)).trans a5
  refine zAF h6 (by omega) a6 f6 (show 6 < 12 by omega) (fun c7 F7 S7 L7 h7 k7 e7 f7 o7 => ?_)
  have a7 : c7 v = a := (k7 v (by omega)).trans a6
  refine zF h7 (by omega) a7 f7 (show 7 < 12 by omega) (fun F8 S8 h8 f8 o8 => ?_)
  refine zF h8 (by omega) a7 f8 (show 8 < 12 by omega) (fun F9 S9 h9 f9 o9 => ?_)
  refine zF h9 (by omega) a7 f9 (show 9 < 12 by omega) (fun F10 S10 h10 f10 o10 => ?_)
  refine zF h10 (by omega) a7 f10 (show 10 < 12 by omega) (fun F11 S11 h11 f11 o11 => ?_)
  refine zF h11 (by omega) a7 f11 (show 11 < 12 by omega) (fun F12 S12 h12 f12 o12 => ?_)
  refine hP c7 F12 S12 L7 h12 (fun j hj => (k7 j (by omega)).trans ((k6 j (by omega)).trans ((k5 j (by omega)).trans ((k4 j (by omega)).trans ((k3 j (by omega)).trans ((k2 j (by omega)).trans (k1 j hj))))))) (fun j hj hne => ?_) ?_ ?_ ?_ ?_ ?_ ?_ ?_ ?_
  · rw [o12 j (by omega) hne, o11 j (by omega) hne, o10 j (by omega) hne, o9 j (by omega) hne, o8 j (by omega) hne, o7 j (by omega) hne, o6 j (by omega) hne, o5 j (by omega) hne, o4 j (by omega) hne, o3 j (by omega) hne, o2 j (by omega) hne, o1 j (by omega) hne]
  · refine f12.trans ?_
    have z1 : c1 (n) = c7 n := by rw [k7 _ (by omega), k6 _ (by omega), k5 _ (by omega), k4 _ (by omega), k3 _ (by omega), k2 _ (by omega)]
    have z2 : c2 (n + 1) = c7 (n + 1) := by rw [k7 _ (by omega), k6 _ (by omega), k5 _ (by omega), k4 _ (by omega), k3 _ (by omega)]
    have z3 : c3 (n + 1 + 1) = c7 (n + 2) := by rw [k7 _ (by omega), k6 _ (by omega), k5 _ (by omega), k4 _ (by omega)]
    have z4 : c4 (n + 1 + 1 + 1) = c7 (n + 3) := by rw [k7 _ (by omega), k6 _ (by omega), k5 _ (by omega)]
    have z5 : c5 (n + 1 + 1 + 1 + 1) = c7 (n + 4) := by rw [k7 _ (by omega), k6 _ (by omega)]
    have z6 : c6 (n + 1 + 1 + 1 + 1 + 1) = c7 (n + 5) := by rw [k7 _ (by omega)]
    try rw [z1]
    try rw [z2]
    try rw [z3]
    try rw [z4]
    try rw [z5]
    try rw [z6]
    first | done | rfl
  · rw [o12 _ (by omega) (by omega), o11 _ (by omega) (by omega), o10 _ (by omega) (by omega), o9 _ (by omega) (by omega), o8 _ (by omega) (by omega), o7 _ (by omega) (by omega), o6 _ (by omega) (by omega), o5 _ (by omega) (by omega), o4 _ (by omega) (by omega), o3 _ (by omega) (by omega), o2 _ (by omega) (by omega)]; exact e1
  · rw [o12 _ (by omega) (by omega), o11 _ (by omega) (by omega), o10 _ (by omega) (by omega), o9 _ (by omega) (by omega), o8 _ (by omega) (by omega), o7 _ (by omega) (by omega), o6 _ (by omega) (by omega), o5 _ (by omega) (by omega), o4 _ (by omega) (by omega), o3 _ (by omega) (by omega)]; exact e2
  · rw [o12 _ (by omega) (by omega), o11 _ (by omega) (by omega), o10 _ (by omega) (by omega), o9 _ (by omega) (by omega), o8 _ (by omega) (by omega), o7 _ (by omega) (by omega), o6 _ (by omega) (by omega), o5 _ (by omega) (by omega), o4 _ (by omega) (by omega)]; exact e3
  · rw [o12 _ (by omega) (by omega), o11 _ (by omega) (by omega), o10 _ (by omega) (by omega), o9 _ (by omega) (by omega), o8 _ (by omega) (by omega), o7 _ (by omega) (by omega), o6 _ (by omega) (by omega), o5 _ (by omega) (by omega)]; exact e4
  · rw [o12 _ (by omega) (by omega), o11 _ (by omega) (by omega), o10 _ (by omega) (by omega), o9 _ (by omega) (by omega), o8 _ (by omega) (by omega), o7 _ (by omega) (by omega), o6 _ (by omega) (by omega)]; exact e5
  · rw [o12 _ (by omega) (by omega), o11 _ (by omega) (by omega), o10 _ (by omega) (by omega), o9 _ (by omega) (by omega), o8 _ (by omega) (by omega), o7 _ (by omega) (by omega)]; exact e6
  · rw [o12 _ (by omega) (by omega), o11 _ (by omega) (by omega), o10 _ (by omega) (by omega), o9 _ (by omega) (by omega), o8 _ (by omega) (by omega)]; exact e7
theorem i_X3 {P : PH → List Nat → Prop} {v a : Nat} (h : Zs n c F S L) (hv : v < n) (ha : c v = a) (hF : F v = eO 3 [.null, .null, .null]) (hP : ∀ c' F' S' L', Zs (n + 3) c' F' S' L' → (∀ j, j < n → c' j = c j) → (∀ j, j < n → j ≠ v → F' j = F j) → F' v = eO 3 [.ref (c' n), .ref (c' (n + 1)), .ref (c' (n + 2))] → F' n = eJ 4096 (fun _ => 0) → F' (n + 1) = eI 4096 (fun _ => 0) → F' (n + 2) = eJ 64 (fun _ => 0) → P S' L') : wp_X3_init S L a P := by
  unfold wp_X3_init
  refine zAF h (by omega) ha hF (show 0 < 3 by omega) (fun c1 F1 S1 L1 h1 k1 e1 f1 o1 => ?_)
  have a1 : c1 v = a := (k1 v (by omega)).trans ha
  refine zAF h1 (by omega) a1 f1 (show 1 < 3 by omega) (fun c2 F2 S2 L2 h2 k2 e2 f2 o2 => ?_)
  have a2 : c2 v = a := (k2 v (by omega)).trans a1
  refine zAF h2 (by omega) a2 f2 (show 2 < 3 by omega) (fun c3 F3 S3 L3 h3 k3 e3 f3 o3 => ?_)
  have a3 : c3 v = a := (k3 v (by omega)).trans a2
  refine hP c3 F3 S3 L3 h3 (fun j hj => (k3 j (by omega)).trans ((k2 j (by omega)).trans (k1 j hj))) (fun j hj hne => ?_) ?_ ?_ ?_ ?_
  · rw [o3 j (by omega) hne, o2 j (by omega) hne, o1 j (by omega) hne]
  · refine f3.trans ?_
    have z1 : c1 (n) = c3 n := by rw [k3 _ (by omega), k2 _ (by omega)]
    have z2 : c2 (n + 1) = c3 (n + 1) := by rw [k3 _ (by omega)]
    try rw [z1]
    try rw [z2]
    first | done | rfl
  · rw [o3 _ (by omega) (by omega), o2 _ (by omega) (by omega)]; exact e1
  · rw [o3 _ (by omega) (by omega)]; exact e2
  · exact e3
theorem i_X4 {P : PH → List Nat → Prop} {v a : Nat} (h : Zs n c F S L) (hv : v < n) (ha : c v = a) (hF : F v = eO 4 [.null, .null, .null, .null, .null, .null, .int 0]) (hP : ∀ c' F' S' L', Zs (n + 4) c' F' S' L' → (∀ j, j < n → c' j = c j) → (∀ j, j < n → j ≠ v → F' j = F j) → F' v = eO 4 [.ref (c' n), .ref (c' (n + 1)), .ref (c' (n + 2)), .ref (c' (n + 3)), .null, .null, .int 0] → F' n = eJ 4096 (fun _ => 0) → F' (n + 1) = eI 4096 (fun _ => 0) → F' (n + 2) = eI 4096 (fun _ => 0) → F' (n + 3) = eI 65 (fun _ => 0) → P S' L') : wp_X4_init S L a P := by
  unfold wp_X4_init
  refine zAF h (by omega) ha hF (show 0 < 7 by omega) (fun c1 F1 S1 L1 h1 k1 e1 f1 o1 => ?_)
  have a1 : c1 v = a := (k1 v (by omega)).trans ha
  refine zAF h1 (by omega) a1 f1 (show 1 < 7 by omega) (fun c2 F2 S2 L2 h2 k2 e2 f2 o2 => ?_)
  have a2 : c2 v = a := (k2 v (by omega)).trans a1
  refine zAF h2 (by omega) a2 f2 (show 2 < 7 by omega) (fun c3 F3 S3 L3 h3 k3 e3 f3 o3 => ?_)
  have a3 : c3 v = a := (k3 v (by omega)).trans a2
  refine zAF h3 (by omega) a3 f3 (show 3 < 7 by omega) (fun c4 F4 S4 L4 h4 k4 e4 f4 o4 => ?_)
  have a4 : c4 v = a := (k4 v (by omega)).trans a3
  refine zF h4 (by omega) a4 f4 (show 4 < 7 by omega) (fun F5 S5 h5 f5 o5 => ?_)
  refine zF h5 (by omega) a4 f5 (show 5 < 7 by omega) (fun F6 S6 h6 f6 o6 => ?_)
  refine zF h6 (by omega) a4 f6 (show 6 < 7 by omega) (fun F7 S7 h7 f7 o7 => ?_)
  refine hP c4 F7 S7 L4 h7 (fun j hj => (k4 j (by omega)).trans ((k3 j (by omega)).trans ((k2 j (by omega)).trans (k1 j hj)))) (fun j hj hne => ?_) ?_ ?_ ?_ ?_ ?_
  · rw [o7 j (by omega) hne, o6 j (by omega) hne, o5 j (by omega) hne, o4 j (by omega) hne, o3 j (by omega) hne, o2 j (by omega) hne, o1 j (by omega) hne]
  · refine f7.trans ?_
    have z1 : c1 (n) = c4 n := by rw [k4 _ (by omega), k3 _ (by omega), k2 _ (by omega)]
    have z2 : c2 (n + 1) = c4 (n + 1) := by rw [k4 _ (by omega), k3 _ (by omega)]
    have z3 : c3 (n + 1 + 1) = c4 (n + 2) := by rw [k4 _ (by omega)]
    try rw [z1]
    try rw [z2]
    try rw [z3]
    first | done | rfl
  · rw [o7 _ (by omega) (by omega), o6 _ (by omega) (by omega), o5 _ (by omega) (by omega), o4 _ (by omega) (by omega), o3 _ (by omega) (by omega), o2 _ (by omega) (by omega)]; exact e1
  · rw [o7 _ (by omega) (by omega), o6 _ (by omega) (by omega), o5 _ (by omega) (by omega), o4 _ (by omega) (by omega), o3 _ (by omega) (by omega)]; exact e2
  · rw [o7 _ (by omega) (by omega), o6 _ (by omega) (by omega), o5 _ (by omega) (by omega), o4 _ (by omega) (by omega)]; exact e3
  · rw [o7 _ (by omega) (by omega), o6 _ (by omega) (by omega), o5 _ (by omega) (by omega)]; exact e4
theorem i_X6 {P : PH → List Nat → Prop} {v a : Nat} (h : Zs n c F S L) (hv : v < n) (ha : c v = a) (hF : F v = eO 6 [.null, .null, .null, .int 0]) (hP : ∀ c' F' S' L', Zs (n + 3) c' F' S' L' → (∀ j, j < n → c' j = c j) → (∀ j, j < n → j ≠ v → F' j = F j) → F' v = eO 6 [.ref (c' n), .ref (c' (n + 1)), .ref (c' (n + 2)), .int 0] → F' n = eI 8 (fun _ => 0) → F' (n + 1) = eI 8 (fun _ => 0) → F' (n + 2) = eI 8 (fun _ => 0) → P S' L') : wp_X6_init S L a P := by
  unfold wp_X6_init
  refine zAF h (by omega) ha hF (show 0 < 4 by omega) (fun c1 F1 S1 L1 h1 k1 e1 f1 o1 => ?_)
  have a1 : c1 v = a := (k1 v (by omega)).trans ha
  refine zAF h1 (by omega) a1 f1 (show 1 < 4 by omega) (fun c2 F2 S2 L2 h2 k2 e2 f2 o2 => ?_)
  have a2 : c2 v = a := (k2 v (by omega)).trans a1
  refine zAF h2 (by omega) a2 f2 (show 2 < 4 by omega) (fun c3 F3 S3 L3 h3 k3 e3 f3 o3 => ?_)
  have a3 : c3 v = a := (k3 v (by omega)).trans a2
  refine zF h3 (by omega) a3 f3 (show 3 < 4 by omega) (fun F4 S4 h4 f4 o4 => ?_)
  refine hP c3 F4 S4 L3 h4 (fun j hj => (k3 j (by omega)).trans ((k2 j (by omega)).trans (k1 j hj))) (fun j hj hne => ?_) ?_ ?_ ?_ ?_
  · rw [o4 j (by omega) hne, o3 j (by omega) hne, o2 j (by omega) hne, o1 j (by omega) hne]
  · refine f4.trans ?_
    have z1 : c1 (n) = c3 n := by rw [k3 _ (by omega), k2 _ (by omega)]
    have z2 : c2 (n + 1) = c3 (n + 1) := by rw [k3 _ (by omega)]
    try rw [z1]
    try rw [z2]
    first | done | rfl
  · rw [o4 _ (by omega) (by omega), o3 _ (by omega) (by omega), o2 _ (by omega) (by omega)]; exact e1
  · rw [o4 _ (by omega) (by omega), o3 _ (by omega) (by omega)]; exact e2
  · rw [o4 _ (by omega) (by omega)]; exact e3
end CONS
