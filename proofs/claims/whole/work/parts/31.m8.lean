/-! ===== the reference's cells: one object, nine arrays ===== -/
def mk8 (ad : Nat → Nat) (S0 : PH) (al hz : Nat → Int32) (s1 s2 s3 s4 : Int32) (lw hg mt tb9 : Nat → Int32) (an ky : Nat → Int64) (rw9 : Nat → Int32) (lf : Int32) : PH := fun a =>
  if a = ad 0 then some (eO 8 [.ref (ad 1), .ref (ad 2), .int s1, .int s2, .int s3, .int s4, .ref (ad 3), .ref (ad 4), .ref (ad 5), .ref (ad 6), .ref (ad 7), .ref (ad 8), .ref (ad 9), .int lf])
  else if a = ad 1 then some (eI 70056 al) else if a = ad 2 then some (eZ 3 hz) else if a = ad 3 then some (eI 610 lw) else if a = ad 4 then some (eI 610 hg) else if a = ad 5 then some (eZ 61 mt) else if a = ad 6 then some (eI 4096 tb9) else if a = ad 7 then some (eJ 4096 an) else if a = ad 8 then some (eJ 4096 ky) else if a = ad 9 then some (eI 4096 rw9) else S0 a
def inj8 (ad : Nat → Nat) : Prop := ∀ i j, i < 10 → j < 10 → ad i = ad j → i = j
theorem inj8_ne {ad : Nat → Nat} (h : inj8 ad) {i j : Nat} (hi : i < 10) (hj : j < 10) (hne : i ≠ j) : ad i ≠ ad j := fun q => hne (h i j hi hj q)
theorem at8_0 {ad : Nat → Nat} {S0 : PH} {al hz : Nat → Int32} {s1 s2 s3 s4 : Int32} {lw hg mt tb9 : Nat → Int32} {an ky : Nat → Int64} {rw9 : Nat → Int32} {lf : Int32} (h : inj8 ad) : (mk8 ad S0 al hz s1 s2 s3 s4 lw hg mt tb9 an ky rw9 lf) (ad 0) = some (eO 8 [.ref (ad 1), .ref (ad 2), .int s1, .int s2, .int s3, .int s4, .ref (ad 3), .ref (ad 4), .ref (ad 5), .ref (ad 6), .ref (ad 7), .ref (ad 8), .ref (ad 9), .int lf]) := by
  unfold mk8
  rw [ if_pos rfl]
theorem at8_1 {ad : Nat → Nat} {S0 : PH} {al hz : Nat → Int32} {s1 s2 s3 s4 : Int32} {lw hg mt tb9 : Nat → Int32} {an ky : Nat → Int64} {rw9 : Nat → Int32} {lf : Int32} (h : inj8 ad) : (mk8 ad S0 al hz s1 s2 s3 s4 lw hg mt tb9 an ky rw9 lf) (ad 1) = some (eI 70056 al) := by
  unfold mk8
  rw [if_neg (inj8_ne h (by decide) (by decide) (by decide) : ad 1 ≠ ad 0), if_pos rfl]
theorem at8_2 {ad : Nat → Nat} {S0 : PH} {al hz : Nat → Int32} {s1 s2 s3 s4 : Int32} {lw hg mt tb9 : Nat → Int32} {an ky : Nat → Int64} {rw9 : Nat → Int32} {lf : Int32} (h : inj8 ad) : (mk8 ad S0 al hz s1 s2 s3 s4 lw hg mt tb9 an ky rw9 lf) (ad 2) = some (eZ 3 hz) := by
  unfold mk8
  rw [if_neg (inj8_ne h (by decide) (by decide) (by decide) : ad 2 ≠ ad 0), if_neg (inj8_ne h (by decide) (by decide) (by decide) : ad 2 ≠ ad 1), if_pos rfl]
theorem at8_3 {ad : Nat → Nat} {S0 : PH} {al hz : Nat → Int32} {s1 s2 s3 s4 : Int32} {lw hg mt tb9 : Nat → Int32} {an ky : Nat → Int64} {rw9 : Nat → Int32} {lf : Int32} (h : inj8 ad) : (mk8 ad S0 al hz s1 s2 s3 s4 lw hg mt tb9 an ky rw9 lf) (ad 3) = some (eI 610 lw) := by
  unfold mk8
  rw [if_neg (inj8_ne h (by decide) (by decide) (by decide) : ad 3 ≠ ad 0), if_neg (inj8_ne h (by decide) (by decide) (by decide) : ad 3 ≠ ad 1), if_neg (inj8_ne h (by decide) (by decide) (by decide) : ad 3 ≠ ad 2), if_pos rfl]
theorem at8_4 {ad : Nat → Nat} {S0 : PH} {al hz : Nat → Int32} {s1 s2 s3 s4 : Int32} {lw hg mt tb9 : Nat → Int32} {an ky : Nat → Int64} {rw9 : Nat → Int32} {lf : Int32} (h : inj8 ad) : (mk8 ad S0 al hz s1 s2 s3 s4 lw hg mt tb9 an ky rw9 lf) (ad 4) = some (eI 610 hg) := by
  unfold mk8
  rw [if_neg (inj8_ne h (by decide) (by decide) (by decide) : ad 4 ≠ ad 0), if_neg (inj8_ne h (by decide) (by decide) (by decide) : ad 4 ≠ ad 1), if_neg (inj8_ne h (by decide) (by decide) (by decide) : ad 4 ≠ ad 2), if_neg (inj8_ne h (by decide) (by decide) (by decide) : ad 4 ≠ ad 3), if_pos rfl]
theorem at8_5 {ad : Nat → Nat} {S0 : PH} {al hz : Nat → Int32} {s1 s2 s3 s4 : Int32} {lw hg mt tb9 : Nat → Int32} {an ky : Nat → Int64} {rw9 : Nat → Int32} {lf : Int32} (h : inj8 ad) : (mk8 ad S0 al hz s1 s2 s3 s4 lw hg mt tb9 an ky rw9 lf) (ad 5) = some (eZ 61 mt) := by
  unfold mk8
  rw [if_neg (inj8_ne h (by decide) (by decide) (by decide) : ad 5 ≠ ad 0), if_neg (inj8_ne h (by decide) (by decide) (by decide) : ad 5 ≠ ad 1), if_neg (inj8_ne h (by decide) (by decide) (by decide) : ad 5 ≠ ad 2), if_neg (inj8_ne h (by decide) (by decide) (by decide) : ad 5 ≠ ad 3), if_neg (inj8_ne h (by decide) (by decide) (by decide) : ad 5 ≠ ad 4), if_pos rfl]
theorem at8_6 {ad : Nat → Nat} {S0 : PH} {al hz : Nat → Int32} {s1 s2 s3 s4 : Int32} {lw hg mt tb9 : Nat → Int32} {an ky : Nat → Int64} {rw9 : Nat → Int32} {lf : Int32} (h : inj8 ad) : (mk8 ad S0 al hz s1 s2 s3 s4 lw hg mt tb9 an ky rw9 lf) (ad 6) = some (eI 4096 tb9) := by
  unfold mk8
  rw [if_neg (inj8_ne h (by decide) (by decide) (by decide) : ad 6 ≠ ad 0), if_neg (inj8_ne h (by decide) (by decide) (by decide) : ad 6 ≠ ad 1), if_neg (inj8_ne h (by decide) (by decide) (by decide) : ad 6 ≠ ad 2), if_neg (inj8_ne h (by decide) (by decide) (by decide) : ad 6 ≠ ad 3), if_neg (inj8_ne h (by decide) (by decide) (by decide) : ad 6 ≠ ad 4), if_neg (inj8_ne h (by decide) (by decide) (by decide) : ad 6 ≠ ad 5), if_pos rfl]
theorem at8_7 {ad : Nat → Nat} {S0 : PH} {al hz : Nat → Int32} {s1 s2 s3 s4 : Int32} {lw hg mt tb9 : Nat → Int32} {an ky : Nat → Int64} {rw9 : Nat → Int32} {lf : Int32} (h : inj8 ad) : (mk8 ad S0 al hz s1 s2 s3 s4 lw hg mt tb9 an ky rw9 lf) (ad 7) = some (eJ 4096 an) := by
  unfold mk8
  rw [if_neg (inj8_ne h (by decide) (by decide) (by decide) : ad 7 ≠ ad 0), if_neg (inj8_ne h (by decide) (by decide) (by decide) : ad 7 ≠ ad 1), if_neg (inj8_ne h (by decide) (by decide) (by decide) : ad 7 ≠ ad 2), if_neg (inj8_ne h (by decide) (by decide) (by decide) : ad 7 ≠ ad 3), if_neg (inj8_ne h (by decide) (by decide) (by decide) : ad 7 ≠ ad 4), if_neg (inj8_ne h (by decide) (by decide) (by decide) : ad 7 ≠ ad 5), if_neg (inj8_ne h (by decide) (by decide) (by decide) : ad 7 ≠ ad 6), if_pos rfl]
theorem at8_8 {ad : Nat → Nat} {S0 : PH} {al hz : Nat → Int32} {s1 s2 s3 s4 : Int32} {lw hg mt tb9 : Nat → Int32} {an ky : Nat → Int64} {rw9 : Nat → Int32} {lf : Int32} (h : inj8 ad) : (mk8 ad S0 al hz s1 s2 s3 s4 lw hg mt tb9 an ky rw9 lf) (ad 8) = some (eJ 4096 ky) := by
  unfold mk8
  rw [if_neg (inj8_ne h (by decide) (by decide) (by decide) : ad 8 ≠ ad 0), if_neg (inj8_ne h (by decide) (by decide) (by decide) : ad 8 ≠ ad 1), if_neg (inj8_ne h (by decide) (by decide) (by decide) : ad 8 ≠ ad 2), if_neg (inj8_ne h (by decide) (by decide) (by decide) : ad 8 ≠ ad 3), if_neg (inj8_ne h (by decide) (by decide) (by decide) : ad 8 ≠ ad 4), if_neg (inj8_ne h (by decide) (by decide) (by decide) : ad 8 ≠ ad 5), if_neg (inj8_ne h (by decide) (by decide) (by decide) : ad 8 ≠ ad 6), if_neg (inj8_ne h (by decide) (by decide) (by decide) : ad 8 ≠ ad 7), if_pos rfl]
theorem at8_9 {ad : Nat → Nat} {S0 : PH} {al hz : Nat → Int32} {s1 s2 s3 s4 : Int32} {lw hg mt tb9 : Nat → Int32} {an ky : Nat → Int64} {rw9 : Nat → Int32} {lf : Int32} (h : inj8 ad) : (mk8 ad S0 al hz s1 s2 s3 s4 lw hg mt tb9 an ky rw9 lf) (ad 9) = some (eI 4096 rw9) := by
  unfold mk8
  rw [if_neg (inj8_ne h (by decide) (by decide) (by decide) : ad 9 ≠ ad 0), if_neg (inj8_ne h (by decide) (by decide) (by decide) : ad 9 ≠ ad 1), if_neg (inj8_ne h (by decide) (by decide) (by decide) : ad 9 ≠ ad 2), if_neg (inj8_ne h (by decide) (by decide) (by decide) : ad 9 ≠ ad 3), if_neg (inj8_ne h (by decide) (by decide) (by decide) : ad 9 ≠ ad 4), if_neg (inj8_ne h (by decide) (by decide) (by decide) : ad 9 ≠ ad 5), if_neg (inj8_ne h (by decide) (by decide) (by decide) : ad 9 ≠ ad 6), if_neg (inj8_ne h (by decide) (by decide) (by decide) : ad 9 ≠ ad 7), if_neg (inj8_ne h (by decide) (by decide) (by decide) : ad 9 ≠ ad 8), if_pos rfl]
theorem g8_0 {ad : Nat → Nat} {S0 : PH} {al hz : Nat → Int32} {s1 s2 s3 s4 : Int32} {lw hg mt tb9 : Nat → Int32} {an ky : Nat → Int64} {rw9 : Nat → Int32} {lf : Int32} (h : inj8 ad) : gR (mk8 ad S0 al hz s1 s2 s3 s4 lw hg mt tb9 an ky rw9 lf) (ad 0) 8 0 = some (ad 1) := gR_n (at8_0 h) rfl
theorem g8_1 {ad : Nat → Nat} {S0 : PH} {al hz : Nat → Int32} {s1 s2 s3 s4 : Int32} {lw hg mt tb9 : Nat → Int32} {an ky : Nat → Int64} {rw9 : Nat → Int32} {lf : Int32} (h : inj8 ad) : gR (mk8 ad S0 al hz s1 s2 s3 s4 lw hg mt tb9 an ky rw9 lf) (ad 0) 8 1 = some (ad 2) := gR_n (at8_0 h) rfl
theorem g8_2 {ad : Nat → Nat} {S0 : PH} {al hz : Nat → Int32} {s1 s2 s3 s4 : Int32} {lw hg mt tb9 : Nat → Int32} {an ky : Nat → Int64} {rw9 : Nat → Int32} {lf : Int32} (h : inj8 ad) : gI (mk8 ad S0 al hz s1 s2 s3 s4 lw hg mt tb9 an ky rw9 lf) (ad 0) 8 2 = some s1 := gI_n (at8_0 h) rfl
theorem g8_3 {ad : Nat → Nat} {S0 : PH} {al hz : Nat → Int32} {s1 s2 s3 s4 : Int32} {lw hg mt tb9 : Nat → Int32} {an ky : Nat → Int64} {rw9 : Nat → Int32} {lf : Int32} (h : inj8 ad) : gI (mk8 ad S0 al hz s1 s2 s3 s4 lw hg mt tb9 an ky rw9 lf) (ad 0) 8 3 = some s2 := gI_n (at8_0 h) rfl
theorem g8_4 {ad : Nat → Nat} {S0 : PH} {al hz : Nat → Int32} {s1 s2 s3 s4 : Int32} {lw hg mt tb9 : Nat → Int32} {an ky : Nat → Int64} {rw9 : Nat → Int32} {lf : Int32} (h : inj8 ad) : gI (mk8 ad S0 al hz s1 s2 s3 s4 lw hg mt tb9 an ky rw9 lf) (ad 0) 8 4 = some s3 := gI_n (at8_0 h) rfl
theorem g8_5 {ad : Nat → Nat} {S0 : PH} {al hz : Nat → Int32} {s1 s2 s3 s4 : Int32} {lw hg mt tb9 : Nat → Int32} {an ky : Nat → Int64} {rw9 : Nat → Int32} {lf : Int32} (h : inj8 ad) : gI (mk8 ad S0 al hz s1 s2 s3 s4 lw hg mt tb9 an ky rw9 lf) (ad 0) 8 5 = some s4 := gI_n (at8_0 h) rfl
theorem g8_6 {ad : Nat → Nat} {S0 : PH} {al hz : Nat → Int32} {s1 s2 s3 s4 : Int32} {lw hg mt tb9 : Nat → Int32} {an ky : Nat → Int64} {rw9 : Nat → Int32} {lf : Int32} (h : inj8 ad) : gR (mk8 ad S0 al hz s1 s2 s3 s4 lw hg mt tb9 an ky rw9 lf) (ad 0) 8 6 = some (ad 3) := gR_n (at8_0 h) rfl
theorem g8_7 {ad : Nat → Nat} {S0 : PH} {al hz : Nat → Int32} {s1 s2 s3 s4 : Int32} {lw hg mt tb9 : Nat → Int32} {an ky : Nat → Int64} {rw9 : Nat → Int32} {lf : Int32} (h : inj8 ad) : gR (mk8 ad S0 al hz s1 s2 s3 s4 lw hg mt tb9 an ky rw9 lf) (ad 0) 8 7 = some (ad 4) := gR_n (at8_0 h) rfl
theorem g8_8 {ad : Nat → Nat} {S0 : PH} {al hz : Nat → Int32} {s1 s2 s3 s4 : Int32} {lw hg mt tb9 : Nat → Int32} {an ky : Nat → Int64} {rw9 : Nat → Int32} {lf : Int32} (h : inj8 ad) : gR (mk8 ad S0 al hz s1 s2 s3 s4 lw hg mt tb9 an ky rw9 lf) (ad 0) 8 8 = some (ad 5) := gR_n (at8_0 h) rfl
theorem g8_9 {ad : Nat → Nat} {S0 : PH} {al hz : Nat → Int32} {s1 s2 s3 s4 : Int32} {lw hg mt tb9 : Nat → Int32} {an ky : Nat → Int64} {rw9 : Nat → Int32} {lf : Int32} (h : inj8 ad) : gR (mk8 ad S0 al hz s1 s2 s3 s4 lw hg mt tb9 an ky rw9 lf) (ad 0) 8 9 = some (ad 6) := gR_n (at8_0 h) rfl
theorem g8_10 {ad : Nat → Nat} {S0 : PH} {al hz : Nat → Int32} {s1 s2 s3 s4 : Int32} {lw hg mt tb9 : Nat → Int32} {an ky : Nat → Int64} {rw9 : Nat → Int32} {lf : Int32} (h : inj8 ad) : gR (mk8 ad S0 al hz s1 s2 s3 s4 lw hg mt tb9 an ky rw9 lf) (ad 0) 8 10 = some (ad 7) := gR_n (at8_0 h) rfl
theorem g8_11 {ad : Nat → Nat} {S0 : PH} {al hz : Nat → Int32} {s1 s2 s3 s4 : Int32} {lw hg mt tb9 : Nat → Int32} {an ky : Nat → Int64} {rw9 : Nat → Int32} {lf : Int32} (h : inj8 ad) : gR (mk8 ad S0 al hz s1 s2 s3 s4 lw hg mt tb9 an ky rw9 lf) (ad 0) 8 11 = some (ad 8) := gR_n (at8_0 h) rfl
theorem g8_12 {ad : Nat → Nat} {S0 : PH} {al hz : Nat → Int32} {s1 s2 s3 s4 : Int32} {lw hg mt tb9 : Nat → Int32} {an ky : Nat → Int64} {rw9 : Nat → Int32} {lf : Int32} (h : inj8 ad) : gR (mk8 ad S0 al hz s1 s2 s3 s4 lw hg mt tb9 an ky rw9 lf) (ad 0) 8 12 = some (ad 9) := gR_n (at8_0 h) rfl
theorem g8_13 {ad : Nat → Nat} {S0 : PH} {al hz : Nat → Int32} {s1 s2 s3 s4 : Int32} {lw hg mt tb9 : Nat → Int32} {an ky : Nat → Int64} {rw9 : Nat → Int32} {lf : Int32} (h : inj8 ad) : gI (mk8 ad S0 al hz s1 s2 s3 s4 lw hg mt tb9 an ky rw9 lf) (ad 0) 8 13 = some lf := gI_n (at8_0 h) rfl
theorem ck8 {ad : Nat → Nat} {S0 : PH} {al hz : Nat → Int32} {s1 s2 s3 s4 : Int32} {lw hg mt tb9 : Nat → Int32} {an ky : Nat → Int64} {rw9 : Nat → Int32} {lf : Int32} (h : inj8 ad) : ckO (mk8 ad S0 al hz s1 s2 s3 s4 lw hg mt tb9 an ky rw9 lf) (ad 0) 8 = some () := ckO_n (at8_0 h)
theorem r8_al {ad : Nat → Nat} {S0 : PH} {al hz : Nat → Int32} {s1 s2 s3 s4 : Int32} {lw hg mt tb9 : Nat → Int32} {an ky : Nat → Int64} {rw9 : Nat → Int32} {lf : Int32} (h : inj8 ad) {i : Nat} (hi : i < 70056) : ldI (mk8 ad S0 al hz s1 s2 s3 s4 lw hg mt tb9 an ky rw9 lf) (ad 1) (nI i) = some (al i) := ldI_n (at8_1 h) hi (by decide)
theorem r8_ha {ad : Nat → Nat} {S0 : PH} {al hz : Nat → Int32} {s1 s2 s3 s4 : Int32} {lw hg mt tb9 : Nat → Int32} {an ky : Nat → Int64} {rw9 : Nat → Int32} {lf : Int32} (h : inj8 ad) {i : Nat} (hi : i < 3) : ldZ (mk8 ad S0 al hz s1 s2 s3 s4 lw hg mt tb9 an ky rw9 lf) (ad 2) (nI i) = some (hz i) := ldZ_n (at8_2 h) hi (by decide)
theorem r8_lw {ad : Nat → Nat} {S0 : PH} {al hz : Nat → Int32} {s1 s2 s3 s4 : Int32} {lw hg mt tb9 : Nat → Int32} {an ky : Nat → Int64} {rw9 : Nat → Int32} {lf : Int32} (h : inj8 ad) {i : Nat} (hi : i < 610) : ldI (mk8 ad S0 al hz s1 s2 s3 s4 lw hg mt tb9 an ky rw9 lf) (ad 3) (nI i) = some (lw i) := ldI_n (at8_3 h) hi (by decide)
theorem r8_hg {ad : Nat → Nat} {S0 : PH} {al hz : Nat → Int32} {s1 s2 s3 s4 : Int32} {lw hg mt tb9 : Nat → Int32} {an ky : Nat → Int64} {rw9 : Nat → Int32} {lf : Int32} (h : inj8 ad) {i : Nat} (hi : i < 610) : ldI (mk8 ad S0 al hz s1 s2 s3 s4 lw hg mt tb9 an ky rw9 lf) (ad 4) (nI i) = some (hg i) := ldI_n (at8_4 h) hi (by decide)
theorem r8_mt {ad : Nat → Nat} {S0 : PH} {al hz : Nat → Int32} {s1 s2 s3 s4 : Int32} {lw hg mt tb9 : Nat → Int32} {an ky : Nat → Int64} {rw9 : Nat → Int32} {lf : Int32} (h : inj8 ad) {i : Nat} (hi : i < 61) : ldZ (mk8 ad S0 al hz s1 s2 s3 s4 lw hg mt tb9 an ky rw9 lf) (ad 5) (nI i) = some (mt i) := ldZ_n (at8_5 h) hi (by decide)
theorem r8_tb {ad : Nat → Nat} {S0 : PH} {al hz : Nat → Int32} {s1 s2 s3 s4 : Int32} {lw hg mt tb9 : Nat → Int32} {an ky : Nat → Int64} {rw9 : Nat → Int32} {lf : Int32} (h : inj8 ad) {i : Nat} (hi : i < 4096) : ldI (mk8 ad S0 al hz s1 s2 s3 s4 lw hg mt tb9 an ky rw9 lf) (ad 6) (nI i) = some (tb9 i) := ldI_n (at8_6 h) hi (by decide)
theorem r8_an {ad : Nat → Nat} {S0 : PH} {al hz : Nat → Int32} {s1 s2 s3 s4 : Int32} {lw hg mt tb9 : Nat → Int32} {an ky : Nat → Int64} {rw9 : Nat → Int32} {lf : Int32} (h : inj8 ad) {i : Nat} (hi : i < 4096) : ldJ (mk8 ad S0 al hz s1 s2 s3 s4 lw hg mt tb9 an ky rw9 lf) (ad 7) (nI i) = some (an i) := ldJ_n (at8_7 h) hi (by decide)
theorem r8_ky {ad : Nat → Nat} {S0 : PH} {al hz : Nat → Int32} {s1 s2 s3 s4 : Int32} {lw hg mt tb9 : Nat → Int32} {an ky : Nat → Int64} {rw9 : Nat → Int32} {lf : Int32} (h : inj8 ad) {i : Nat} (hi : i < 4096) : ldJ (mk8 ad S0 al hz s1 s2 s3 s4 lw hg mt tb9 an ky rw9 lf) (ad 8) (nI i) = some (ky i) := ldJ_n (at8_8 h) hi (by decide)
theorem r8_rw {ad : Nat → Nat} {S0 : PH} {al hz : Nat → Int32} {s1 s2 s3 s4 : Int32} {lw hg mt tb9 : Nat → Int32} {an ky : Nat → Int64} {rw9 : Nat → Int32} {lf : Int32} (h : inj8 ad) {i : Nat} (hi : i < 4096) : ldI (mk8 ad S0 al hz s1 s2 s3 s4 lw hg mt tb9 an ky rw9 lf) (ad 9) (nI i) = some (rw9 i) := ldI_n (at8_9 h) hi (by decide)
theorem up8_al {ad : Nat → Nat} {S0 : PH} {al hz : Nat → Int32} {s1 s2 s3 s4 : Int32} {lw hg mt tb9 : Nat → Int32} {an ky : Nat → Int64} {rw9 : Nat → Int32} {lf : Int32} (h : inj8 ad) (f : Nat → Int32) : va_up (mk8 ad S0 al hz s1 s2 s3 s4 lw hg mt tb9 an ky rw9 lf) (ad 1) (some (eI 70056 f)) = (mk8 ad S0 f hz s1 s2 s3 s4 lw hg mt tb9 an ky rw9 lf) := by
  funext a
  by_cases ha9 : a = ad 1
  · subst ha9
    rw [va_up_self, at8_1 h]
  · rw [va_up_ne _ _ ha9]
    unfold mk8
    simp only [if_neg ha9]
theorem w8_al {ad : Nat → Nat} {S0 : PH} {al hz : Nat → Int32} {s1 s2 s3 s4 : Int32} {lw hg mt tb9 : Nat → Int32} {an ky : Nat → Int64} {rw9 : Nat → Int32} {lf : Int32} (h : inj8 ad) {i : Nat} (hi : i < 70056) (x : Int32) : stI (mk8 ad S0 al hz s1 s2 s3 s4 lw hg mt tb9 an ky rw9 lf) (ad 1) (nI i) x = some (mk8 ad S0 (upd al i x) hz s1 s2 s3 s4 lw hg mt tb9 an ky rw9 lf) := by
  rw [stI_n (at8_1 h) hi (by decide), up8_al h]
theorem up8_ha {ad : Nat → Nat} {S0 : PH} {al hz : Nat → Int32} {s1 s2 s3 s4 : Int32} {lw hg mt tb9 : Nat → Int32} {an ky : Nat → Int64} {rw9 : Nat → Int32} {lf : Int32} (h : inj8 ad) (f : Nat → Int32) : va_up (mk8 ad S0 al hz s1 s2 s3 s4 lw hg mt tb9 an ky rw9 lf) (ad 2) (some (eZ 3 f)) = (mk8 ad S0 al f s1 s2 s3 s4 lw hg mt tb9 an ky rw9 lf) := by
  funext a
  by_cases ha9 : a = ad 2
  · subst ha9
    rw [va_up_self, at8_2 h]
  · rw [va_up_ne _ _ ha9]
    unfold mk8
    simp only [if_neg ha9]
theorem w8_ha {ad : Nat → Nat} {S0 : PH} {al hz : Nat → Int32} {s1 s2 s3 s4 : Int32} {lw hg mt tb9 : Nat → Int32} {an ky : Nat → Int64} {rw9 : Nat → Int32} {lf : Int32} (h : inj8 ad) {i : Nat} (hi : i < 3) (x : Int32) : stZ (mk8 ad S0 al hz s1 s2 s3 s4 lw hg mt tb9 an ky rw9 lf) (ad 2) (nI i) x = some (mk8 ad S0 al (upd hz i (vp_nar .boolean x)) s1 s2 s3 s4 lw hg mt tb9 an ky rw9 lf) := by
  rw [stZ_n (at8_2 h) hi (by decide), up8_ha h]
theorem up8_lw {ad : Nat → Nat} {S0 : PH} {al hz : Nat → Int32} {s1 s2 s3 s4 : Int32} {lw hg mt tb9 : Nat → Int32} {an ky : Nat → Int64} {rw9 : Nat → Int32} {lf : Int32} (h : inj8 ad) (f : Nat → Int32) : va_up (mk8 ad S0 al hz s1 s2 s3 s4 lw hg mt tb9 an ky rw9 lf) (ad 3) (some (eI 610 f)) = (mk8 ad S0 al hz s1 s2 s3 s4 f hg mt tb9 an ky rw9 lf) := by
  funext a
  by_cases ha9 : a = ad 3
  · subst ha9
    rw [va_up_self, at8_3 h]
  · rw [va_up_ne _ _ ha9]
    unfold mk8
    simp only [if_neg ha9]
theorem w8_lw {ad : Nat → Nat} {S0 : PH} {al hz : Nat → Int32} {s1 s2 s3 s4 : Int32} {lw hg mt tb9 : Nat → Int32} {an ky : Nat → Int64} {rw9 : Nat → Int32} {lf : Int32} (h : inj8 ad) {i : Nat} (hi : i < 610) (x : Int32) : stI (mk8 ad S0 al hz s1 s2 s3 s4 lw hg mt tb9 an ky rw9 lf) (ad 3) (nI i) x = some (mk8 ad S0 al hz s1 s2 s3 s4 (upd lw i x) hg mt tb9 an ky rw9 lf) := by
  rw [stI_n (at8_3 h) hi (by decide), up8_lw h]
theorem up8_hg {ad : Nat → Nat} {S0 : PH} {al hz : Nat → Int32} {s1 s2 s3 s4 : Int32} {lw hg mt tb9 : Nat → Int32} {an ky : Nat → Int64} {rw9 : Nat → Int32} {lf : Int32} (h : inj8 ad) (f : Nat → Int32) : va_up (mk8 ad S0 al hz s1 s2 s3 s4 lw hg mt tb9 an ky rw9 lf) (ad 4) (some (eI 610 f)) = (mk8 ad S0 al hz s1 s2 s3 s4 lw f mt tb9 an ky rw9 lf) := by
  funext a
  by_cases ha9 : a = ad 4
  · subst ha9
    rw [va_up_self, at8_4 h]
  · rw [va_up_ne _ _ ha9]
    unfold mk8
    simp only [if_neg ha9]
theorem w8_hg {ad : Nat → Nat} {S0 : PH} {al hz : Nat → Int32} {s1 s2 s3 s4 : Int32} {lw hg mt tb9 : Nat → Int32} {an ky : Nat → Int64} {rw9 : Nat → Int32} {lf : Int32} (h : inj8 ad) {i : Nat} (hi : i < 610) (x : Int32) : stI (mk8 ad S0 al hz s1 s2 s3 s4 lw hg mt tb9 an ky rw9 lf) (ad 4) (nI i) x = some (mk8 ad S0 al hz s1 s2 s3 s4 lw (upd hg i x) mt tb9 an ky rw9 lf) := by
  rw [stI_n (at8_4 h) hi (by decide), up8_hg h]
theorem up8_mt {ad : Nat → Nat} {S0 : PH} {al hz : Nat → Int32} {s1 s2 s3 s4 : Int32} {lw hg mt tb9 : Nat → Int32} {an ky : Nat → Int64} {rw9 : Nat → Int32} {lf : Int32} (h : inj8 ad) (f : Nat → Int32) : va_up (mk8 ad S0 al hz s1 s2 s3 s4 lw hg mt tb9 an ky rw9 lf) (ad 5) (some (eZ 61 f)) = (mk8 ad S0 al hz s1 s2 s3 s4 lw hg f tb9 an ky rw9 lf) := by
  funext a
  by_cases ha9 : a = ad 5
  · subst ha9
    rw [va_up_self, at8_5 h]
  · rw [va_up_ne _ _ ha9]
    unfold mk8
    simp only [if_neg ha9]
theorem w8_mt {ad : Nat → Nat} {S0 : PH} {al hz : Nat → Int32} {s1 s2 s3 s4 : Int32} {lw hg mt tb9 : Nat → Int32} {an ky : Nat → Int64} {rw9 : Nat → Int32} {lf : Int32} (h : inj8 ad) {i : Nat} (hi : i < 61) (x : Int32) : stZ (mk8 ad S0 al hz s1 s2 s3 s4 lw hg mt tb9 an ky rw9 lf) (ad 5) (nI i) x = some (mk8 ad S0 al hz s1 s2 s3 s4 lw hg (upd mt i (vp_nar .boolean x)) tb9 an ky rw9 lf) := by
  rw [stZ_n (at8_5 h) hi (by decide), up8_mt h]
theorem up8_tb {ad : Nat → Nat} {S0 : PH} {al hz : Nat → Int32} {s1 s2 s3 s4 : Int32} {lw hg mt tb9 : Nat → Int32} {an ky : Nat → Int64} {rw9 : Nat → Int32} {lf : Int32} (h : inj8 ad) (f : Nat → Int32) : va_up (mk8 ad S0 al hz s1 s2 s3 s4 lw hg mt tb9 an ky rw9 lf) (ad 6) (some (eI 4096 f)) = (mk8 ad S0 al hz s1 s2 s3 s4 lw hg mt f an ky rw9 lf) := by
  funext a
  by_cases ha9 : a = ad 6
  · subst ha9
    rw [va_up_self, at8_6 h]
  · rw [va_up_ne _ _ ha9]
    unfold mk8
    simp only [if_neg ha9]
theorem w8_tb {ad : Nat → Nat} {S0 : PH} {al hz : Nat → Int32} {s1 s2 s3 s4 : Int32} {lw hg mt tb9 : Nat → Int32} {an ky : Nat → Int64} {rw9 : Nat → Int32} {lf : Int32} (h : inj8 ad) {i : Nat} (hi : i < 4096) (x : Int32) : stI (mk8 ad S0 al hz s1 s2 s3 s4 lw hg mt tb9 an ky rw9 lf) (ad 6) (nI i) x = some (mk8 ad S0 al hz s1 s2 s3 s4 lw hg mt (upd tb9 i x) an ky rw9 lf) := by
  rw [stI_n (at8_6 h) hi (by decide), up8_tb h]
theorem up8_an {ad : Nat → Nat} {S0 : PH} {al hz : Nat → Int32} {s1 s2 s3 s4 : Int32} {lw hg mt tb9 : Nat → Int32} {an ky : Nat → Int64} {rw9 : Nat → Int32} {lf : Int32} (h : inj8 ad) (f : Nat → Int64) : va_up (mk8 ad S0 al hz s1 s2 s3 s4 lw hg mt tb9 an ky rw9 lf) (ad 7) (some (eJ 4096 f)) = (mk8 ad S0 al hz s1 s2 s3 s4 lw hg mt tb9 f ky rw9 lf) := by
  funext a
  by_cases ha9 : a = ad 7
  · subst ha9
    rw [va_up_self, at8_7 h]
  · rw [va_up_ne _ _ ha9]
    unfold mk8
    simp only [if_neg ha9]
theorem w8_an {ad : Nat → Nat} {S0 : PH} {al hz : Nat → Int32} {s1 s2 s3 s4 : Int32} {lw hg mt tb9 : Nat → Int32} {an ky : Nat → Int64} {rw9 : Nat → Int32} {lf : Int32} (h : inj8 ad) {i : Nat} (hi : i < 4096) (x : Int64) : stJ (mk8 ad S0 al hz s1 s2 s3 s4 lw hg mt tb9 an ky rw9 lf) (ad 7) (nI i) x = some (mk8 ad S0 al hz s1 s2 s3 s4 lw hg mt tb9 (vp_updL an i x) ky rw9 lf) := by
  rw [stJ_n (at8_7 h) hi (by decide), up8_an h]
theorem up8_ky {ad : Nat → Nat} {S0 : PH} {al hz : Nat → Int32} {s1 s2 s3 s4 : Int32} {lw hg mt tb9 : Nat → Int32} {an ky : Nat → Int64} {rw9 : Nat → Int32} {lf : Int32} (h : inj8 ad) (f : Nat → Int64) : va_up (mk8 ad S0 al hz s1 s2 s3 s4 lw hg mt tb9 an ky rw9 lf) (ad 8) (some (eJ 4096 f)) = (mk8 ad S0 al hz s1 s2 s3 s4 lw hg mt tb9 an f rw9 lf) := by
  funext a
  by_cases ha9 : a = ad 8
  · subst ha9
    rw [va_up_self, at8_8 h]
  · rw [va_up_ne _ _ ha9]
    unfold mk8
    simp only [if_neg ha9]
theorem w8_ky {ad : Nat → Nat} {S0 : PH} {al hz : Nat → Int32} {s1 s2 s3 s4 : Int32} {lw hg mt tb9 : Nat → Int32} {an ky : Nat → Int64} {rw9 : Nat → Int32} {lf : Int32} (h : inj8 ad) {i : Nat} (hi : i < 4096) (x : Int64) : stJ (mk8 ad S0 al hz s1 s2 s3 s4 lw hg mt tb9 an ky rw9 lf) (ad 8) (nI i) x = some (mk8 ad S0 al hz s1 s2 s3 s4 lw hg mt tb9 an (vp_updL ky i x) rw9 lf) := by
  rw [stJ_n (at8_8 h) hi (by decide), up8_ky h]
theorem up8_rw {ad : Nat → Nat} {S0 : PH} {al hz : Nat → Int32} {s1 s2 s3 s4 : Int32} {lw hg mt tb9 : Nat → Int32} {an ky : Nat → Int64} {rw9 : Nat → Int32} {lf : Int32} (h : inj8 ad) (f : Nat → Int32) : va_up (mk8 ad S0 al hz s1 s2 s3 s4 lw hg mt tb9 an ky rw9 lf) (ad 9) (some (eI 4096 f)) = (mk8 ad S0 al hz s1 s2 s3 s4 lw hg mt tb9 an ky f lf) := by
  funext a
  by_cases ha9 : a = ad 9
  · subst ha9
    rw [va_up_self, at8_9 h]
  · rw [va_up_ne _ _ ha9]
    unfold mk8
    simp only [if_neg ha9]
theorem w8_rw {ad : Nat → Nat} {S0 : PH} {al hz : Nat → Int32} {s1 s2 s3 s4 : Int32} {lw hg mt tb9 : Nat → Int32} {an ky : Nat → Int64} {rw9 : Nat → Int32} {lf : Int32} (h : inj8 ad) {i : Nat} (hi : i < 4096) (x : Int32) : stI (mk8 ad S0 al hz s1 s2 s3 s4 lw hg mt tb9 an ky rw9 lf) (ad 9) (nI i) x = some (mk8 ad S0 al hz s1 s2 s3 s4 lw hg mt tb9 an ky (upd rw9 i x) lf) := by
  rw [stI_n (at8_9 h) hi (by decide), up8_rw h]
theorem p8_2 {ad : Nat → Nat} {S0 : PH} {al hz : Nat → Int32} {s1 s2 s3 s4 : Int32} {lw hg mt tb9 : Nat → Int32} {an ky : Nat → Int64} {rw9 : Nat → Int32} {lf : Int32} (h : inj8 ad) (x : Int32) : pF (mk8 ad S0 al hz s1 s2 s3 s4 lw hg mt tb9 an ky rw9 lf) (ad 0) 8 2 (.int x) = some (mk8 ad S0 al hz x s2 s3 s4 lw hg mt tb9 an ky rw9 lf) := by
  rw [pF_n (at8_0 h) (Nat.le_of_ble_eq_true rfl)]
  refine congrArg some ?_
  funext a
  by_cases ha9 : a = ad 0
  · subst ha9
    rw [va_up_self, at8_0 h]
    rfl
  · rw [va_up_ne _ _ ha9]
    unfold mk8
    simp only [if_neg ha9]
theorem p8_3 {ad : Nat → Nat} {S0 : PH} {al hz : Nat → Int32} {s1 s2 s3 s4 : Int32} {lw hg mt tb9 : Nat → Int32} {an ky : Nat → Int64} {rw9 : Nat → Int32} {lf : Int32} (h : inj8 ad) (x : Int32) : pF (mk8 ad S0 al hz s1 s2 s3 s4 lw hg mt tb9 an ky rw9 lf) (ad 0) 8 3 (.int x) = some (mk8 ad S0 al hz s1 x s3 s4 lw hg mt tb9 an ky rw9 lf) := by
  rw [pF_n (at8_0 h) (Nat.le_of_ble_eq_true rfl)]
  refine congrArg some ?_
  funext a
  by_cases ha9 : a = ad 0
  · subst ha9
    rw [va_up_self, at8_0 h]
    rfl
  · rw [va_up_ne _ _ ha9]
    unfold mk8
    simp only [if_neg ha9]
theorem p8_4 {ad : Nat → Nat} {S0 : PH} {al hz : Nat → Int32} {s1 s2 s3 s4 : Int32} {lw hg mt tb9 : Nat → Int32} {an ky : Nat → Int64} {rw9 : Nat → Int32} {lf : Int32} (h : inj8 ad) (x : Int32) : pF (mk8 ad S0 al hz s1 s2 s3 s4 lw hg mt tb9 an ky rw9 lf) (ad 0) 8 4 (.int x) = some (mk8 ad S0 al hz s1 s2 x s4 lw hg mt tb9 an ky rw9 lf) := by
  rw [pF_n (at8_0 h) (Nat.le_of_ble_eq_true rfl)]
  refine congrArg some ?_
  funext a
  by_cases ha9 : a = ad 0
  · subst ha9
    rw [va_up_self, at8_0 h]
    rfl
  · rw [va_up_ne _ _ ha9]
    unfold mk8
    simp only [if_neg ha9]
theorem p8_5 {ad : Nat → Nat} {S0 : PH} {al hz : Nat → Int32} {s1 s2 s3 s4 : Int32} {lw hg mt tb9 : Nat → Int32} {an ky : Nat → Int64} {rw9 : Nat → Int32} {lf : Int32} (h : inj8 ad) (x : Int32) : pF (mk8 ad S0 al hz s1 s2 s3 s4 lw hg mt tb9 an ky rw9 lf) (ad 0) 8 5 (.int x) = some (mk8 ad S0 al hz s1 s2 s3 x lw hg mt tb9 an ky rw9 lf) := by
  rw [pF_n (at8_0 h) (Nat.le_of_ble_eq_true rfl)]
  refine congrArg some ?_
  funext a
  by_cases ha9 : a = ad 0
  · subst ha9
    rw [va_up_self, at8_0 h]
    rfl
  · rw [va_up_ne _ _ ha9]
    unfold mk8
    simp only [if_neg ha9]
theorem p8_13 {ad : Nat → Nat} {S0 : PH} {al hz : Nat → Int32} {s1 s2 s3 s4 : Int32} {lw hg mt tb9 : Nat → Int32} {an ky : Nat → Int64} {rw9 : Nat → Int32} {lf : Int32} (h : inj8 ad) (x : Int32) : pF (mk8 ad S0 al hz s1 s2 s3 s4 lw hg mt tb9 an ky rw9 lf) (ad 0) 8 13 (.int x) = some (mk8 ad S0 al hz s1 s2 s3 s4 lw hg mt tb9 an ky rw9 x) := by
  rw [pF_n (at8_0 h) (Nat.le_of_ble_eq_true rfl)]
  refine congrArg some ?_
  funext a
  by_cases ha9 : a = ad 0
  · subst ha9
    rw [va_up_self, at8_0 h]
    rfl
  · rw [va_up_ne _ _ ha9]
    unfold mk8
    simp only [if_neg ha9]
