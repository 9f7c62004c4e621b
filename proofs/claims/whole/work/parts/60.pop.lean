/-! ===== how many bits a word has ===== -/
theorem and_dig {x m y n : Nat} (hx : x < 256) (hm : m < 256) : (x + 256 * y) &&& (m + 256 * n) = (x &&& m) + 256 * (y &&& n) := by
  have hxm : x &&& m < 2 ^ 8 := Nat.and_lt_two_pow _ (by omega)
  have e : ∀ a b : Nat, a < 256 → a + 256 * b = 2 ^ 8 * b + a := fun a b _ => by omega
  rw [e x y hx, e m n hm, e (x &&& m) (y &&& n) (by omega)]
  refine Nat.eq_of_testBit_eq (fun j => ?_)
  rw [Nat.testBit_and, Nat.testBit_two_pow_mul_add _ (by omega), Nat.testBit_two_pow_mul_add _ (by omega), Nat.testBit_two_pow_mul_add _ hxm]
  by_cases hj : j < 8
  · rw [if_pos hj, if_pos hj, if_pos hj, Nat.testBit_and]
  · rw [if_neg hj, if_neg hj, if_neg hj, Nat.testBit_and]
def rp (c : Nat) : Nat → Nat
  | 0 => 0
  | k + 1 => c + 256 * rp c k
def pA (k v : Nat) : Nat := v - ((v / 2) &&& rp 0x55 k)
def pB (k a : Nat) : Nat := (a &&& rp 0x33 k) + ((a / 4) &&& rp 0x33 k)
def pC (k b : Nat) : Nat := (b + b / 16) &&& rp 0x0f k
/-- the bytes' counts, put together -/
def pS (v : Nat) : Nat → Nat
  | 0 => 0
  | k + 1 => sm (tbN (v % 256)) 8 + 256 * pS (v / 256) k
abbrev a8 (x : Nat) : Nat := x - ((x / 2) &&& 0x55)
abbrev b8 (x : Nat) : Nat := (x &&& 0x33) + ((x / 4) &&& 0x33)
theorem d1 : ∀ x, x < 256 → ∀ h, h < 2 → (x / 2 + 128 * h) &&& 0x55 = (x / 2) &&& 0x55 ∧ (x / 2) &&& 0x55 ≤ x := by decide +kernel
theorem d2 : ∀ x, x < 256 → ∀ h, h < 4 → (x / 4 + 64 * h) &&& 0x33 = (x / 4) &&& 0x33 := by decide +kernel
theorem d3 : ∀ x, x < 256 → a8 x < 256 ∧ b8 (a8 x) ≤ 68 ∧ b8 (a8 x) % 16 ≤ 4 ∧ (b8 (a8 x) + b8 (a8 x) / 16) % 16 = sm (tbN x) 8 := by decide +kernel
theorem pA_step {k v : Nat} : pA (k + 1) v = a8 (v % 256) + 256 * pA k (v / 256) ∧ (v / 2) &&& rp 0x55 k ≤ v := by
  have hle : ∀ k v, (v / 2) &&& rp 0x55 k ≤ v := fun k v => Nat.le_trans Nat.and_le_left (Nat.div_le_self v 2)
  refine ⟨?_, hle k v⟩
  have h1 : v / 2 = ((v % 256) / 2 + 128 * ((v / 256) % 2)) + 256 * (v / 256 / 2) := by omega
  have hb : v % 256 < 256 := Nat.mod_lt _ (by decide)
  obtain ⟨q1, q2⟩ := d1 (v % 256) hb ((v / 256) % 2) (Nat.mod_lt _ (by decide))
  have h2 := hle k (v / 256)
  show v - ((v / 2) &&& (0x55 + 256 * rp 0x55 k)) = (v % 256 - ((v % 256 / 2) &&& 0x55)) + 256 * (v / 256 - ((v / 256 / 2) &&& rp 0x55 k))
  rw [h1, and_dig (by omega) (by omega), q1]
  omega
theorem pB_step {k x y : Nat} (hx : x < 256) : pB (k + 1) (x + 256 * y) = b8 x + 256 * pB k y := by
  have h1 : (x + 256 * y) / 4 = (x / 4 + 64 * (y % 4)) + 256 * (y / 4) := by omega
  have q1 := d2 x hx (y % 4) (Nat.mod_lt _ (by decide))
  show ((x + 256 * y) &&& (0x33 + 256 * rp 0x33 k)) + (((x + 256 * y) / 4) &&& (0x33 + 256 * rp 0x33 k)) = ((x &&& 0x33) + ((x / 4) &&& 0x33)) + 256 * ((y &&& rp 0x33 k) + ((y / 4) &&& rp 0x33 k))
  rw [h1, and_dig hx (by omega), and_dig (by omega) (by omega), q1]
  omega
theorem pop_all : ∀ k v, v < 256 ^ k → pC k (pB k (pA k v)) = pS v k ∧ pB k (pA k v) % 16 ≤ 4
  | 0, v, hv => by
    have h0 : v = 0 := by simp at hv; omega
    subst h0
    simp [pC, pB, pA, rp, pS]
  | k + 1, v, hv => by
    have hv' : v / 256 < 256 ^ k := by
      rw [Nat.pow_succ] at hv
      exact Nat.div_lt_of_lt_mul (by rw [Nat.mul_comm]; exact hv)
    obtain ⟨ih1, ih2⟩ := pop_all k (v / 256) hv'
    have hb : v % 256 < 256 := Nat.mod_lt _ (by decide)
    obtain ⟨q1, q2, q3, q4⟩ := d3 (v % 256) hb
    rw [pA_step.1, pB_step q1]
    refine ⟨?_, by omega⟩
    have h1 : b8 (a8 (v % 256)) + 256 * pB k (pA k (v / 256)) + (b8 (a8 (v % 256)) + 256 * pB k (pA k (v / 256))) / 16 = (b8 (a8 (v % 256)) + b8 (a8 (v % 256)) / 16 + 16 * (pB k (pA k (v / 256)) % 16)) + 256 * (pB k (pA k (v / 256)) + pB k (pA k (v / 256)) / 16) := by omega
    show (_ + _) &&& (0x0f + 256 * rp 0x0f k) = sm (tbN (v % 256)) 8 + 256 * pS (v / 256) k
    rw [h1, and_dig (by omega) (by omega), show (0x0f : Nat) = 2 ^ 4 - 1 from rfl, Nat.and_two_pow_sub_one_eq_mod]
    have e1 : (pB k (pA k (v / 256)) + pB k (pA k (v / 256)) / 16) &&& rp (2 ^ 4 - 1) k = pS (v / 256) k := ih1
    rw [e1]
    congr 1
    rw [← q4]
    omega
theorem sm_add {f : Nat → Nat} {a : Nat} : ∀ b, sm f (a + b) = sm f a + sm (fun i => f (a + i)) b
  | 0 => rfl
  | b + 1 => by
    show sm f (a + b) + f (a + b) = sm f a + (sm (fun i => f (a + i)) b + f (a + b))
    rw [sm_add b]
    omega
theorem tbN_le (s k : Nat) : tbN s k ≤ 1 := by unfold tbN; split <;> omega
theorem tb_byte {v i : Nat} (hi : i < 8) : tbN (v % 256) i = tbN v i := by
  unfold tbN
  rw [show (256 : Nat) = 2 ^ 8 from rfl, Nat.testBit_mod_two_pow]
  simp [hi]
theorem tb_div {v i : Nat} : tbN (v / 256) i = tbN v (8 + i) := by
  unfold tbN
  rw [show (256 : Nat) = 2 ^ 8 from rfl, Nat.testBit_div_two_pow, Nat.add_comm]
theorem byte_sm {v : Nat} : sm (tbN (v % 256)) 8 = sm (tbN v) 8 := sm_congr 8 (fun _ hk => tb_byte hk)
theorem sm_8 {v n : Nat} : sm (tbN v) (8 + n) = sm (tbN v) 8 + sm (tbN (v / 256)) n := by
  rw [sm_add]
  congr 1
  exact sm_congr n (fun k _ => tb_div.symm)
theorem pc_64 {v : Nat} : sm (tbN v) 64 = sm (tbN v) 8 + (sm (tbN (v / 256)) 8 + (sm (tbN (v / 256 / 256)) 8 + (sm (tbN (v / 256 / 256 / 256)) 8 + (sm (tbN (v / 256 / 256 / 256 / 256)) 8 + (sm (tbN (v / 256 / 256 / 256 / 256 / 256)) 8 + (sm (tbN (v / 256 / 256 / 256 / 256 / 256 / 256)) 8 + sm (tbN (v / 256 / 256 / 256 / 256 / 256 / 256 / 256)) 8)))))) := by
  rw [show (64 : Nat) = 8 + 56 from rfl, sm_8, show (56 : Nat) = 8 + 48 from rfl, sm_8, show (48 : Nat) = 8 + 40 from rfl, sm_8, show (40 : Nat) = 8 + 32 from rfl, sm_8, show (32 : Nat) = 8 + 24 from rfl, sm_8, show (24 : Nat) = 8 + 16 from rfl, sm_8, show (16 : Nat) = 8 + 8 from rfl, sm_8]
theorem pc_32 {v : Nat} : sm (tbN v) 32 = sm (tbN v) 8 + (sm (tbN (v / 256)) 8 + (sm (tbN (v / 256 / 256)) 8 + sm (tbN (v / 256 / 256 / 256)) 8)) := by
  rw [show (32 : Nat) = 8 + 24 from rfl, sm_8, show (24 : Nat) = 8 + 16 from rfl, sm_8, show (16 : Nat) = 8 + 8 from rfl, sm_8]
theorem pA_le {k v : Nat} : pA k v ≤ v := Nat.sub_le _ _
theorem rp_lt {c : Nat} (hc : c < 256) : ∀ k, rp c k < 256 ^ k
  | 0 => by simp [rp]
  | k + 1 => by
    have := rp_lt hc k
    rw [Nat.pow_succ]
    show c + 256 * rp c k < 256 ^ k * 256
    omega
theorem pB_lt {k a : Nat} : pB k a < 2 * 256 ^ k := by
  have h1 := rp_lt (c := 0x33) (by omega) k
  have h2 : a &&& rp 0x33 k ≤ rp 0x33 k := Nat.and_le_right
  have h3 : (a / 4) &&& rp 0x33 k ≤ rp 0x33 k := Nat.and_le_right
  unfold pB
  omega
theorem ar64 {p0 p1 p2 p3 p4 p5 p6 p7 z3 z4 z5 : Nat} (t0 : p0 ≤ 8) (t1 : p1 ≤ 8) (t2 : p2 ≤ 8) (t3 : p3 ≤ 8) (t4 : p4 ≤ 8) (t5 : p5 ≤ 8) (t6 : p6 ≤ 8) (t7 : p7 ≤ 8) (h3 : z3 = p0 + 256 * (p1 + 256 * (p2 + 256 * (p3 + 256 * (p4 + 256 * (p5 + 256 * (p6 + 256 * p7))))))) (h4 : z4 = z3 + z3 / 256) (h5 : z5 = z4 + z4 / 65536) :
    z3 < 2 ^ 63 ∧ z4 < 2 ^ 63 ∧ z5 < 2 ^ 63 ∧ (z5 + z5 / 4294967296) % 2 ^ 7 = p0 + (p1 + (p2 + (p3 + (p4 + (p5 + (p6 + p7)))))) := by
  have d1 : z3 / 256 = p1 + 256 * (p2 + 256 * (p3 + 256 * (p4 + 256 * (p5 + 256 * (p6 + 256 * p7))))) := by
    rw [h3, Nat.add_mul_div_left _ _ (by decide), Nat.div_eq_of_lt (Nat.lt_of_le_of_lt t0 (by decide)), Nat.zero_add]
  rw [d1] at h4
  clear d1
  have e4 : z4 = ((p0 + p1) + 256 * (p1 + p2)) + 65536 * ((p2 + p3) + 256 * (p3 + p4) + 65536 * ((p4 + p5) + 256 * (p5 + p6) + 65536 * ((p6 + p7) + 256 * p7))) := by rw [h4, h3]; clear h4 h3 h5; omega
  have d2 : z4 / 65536 = (p2 + p3) + 256 * (p3 + p4) + 65536 * ((p4 + p5) + 256 * (p5 + p6) + 65536 * ((p6 + p7) + 256 * p7)) := by
    rw [e4, Nat.add_mul_div_left _ _ (by decide), Nat.div_eq_of_lt (by clear h3 h4 h5 e4; omega), Nat.zero_add]
  rw [d2] at h5
  clear d2 h4
  have e5 : z5 = ((p0 + p1 + p2 + p3) + 256 * (p1 + p2 + p3 + p4) + 65536 * (p2 + p3 + p4 + p5) + 16777216 * (p3 + p4 + p5 + p6)) + 4294967296 * ((p4 + p5 + p6 + p7) + 256 * (p5 + p6 + p7) + 65536 * (p6 + p7) + 16777216 * p7) := by rw [h5, e4]; clear h5 h3 e4; omega
  have d3 : z5 / 4294967296 = (p4 + p5 + p6 + p7) + 256 * (p5 + p6 + p7) + 65536 * (p6 + p7) + 16777216 * p7 := by
    rw [e5, Nat.add_mul_div_left _ _ (by decide), Nat.div_eq_of_lt (by clear h3 h5 e4 e5; omega), Nat.zero_add]
  refine ⟨by clear h5 e4 e5 d3; omega, by clear h5 h3 e5 d3; omega, by clear h5 h3 e4 d3; omega, ?_⟩
  rw [d3, e5]
  clear h5 h3 e4 d3 e5
  rw [show ((p0 + p1 + p2 + p3) + 256 * (p1 + p2 + p3 + p4) + 65536 * (p2 + p3 + p4 + p5) + 16777216 * (p3 + p4 + p5 + p6)) + 4294967296 * ((p4 + p5 + p6 + p7) + 256 * (p5 + p6 + p7) + 65536 * (p6 + p7) + 16777216 * p7) + ((p4 + p5 + p6 + p7) + 256 * (p5 + p6 + p7) + 65536 * (p6 + p7) + 16777216 * p7) = (p0 + (p1 + (p2 + (p3 + (p4 + (p5 + (p6 + p7))))))) + 2 ^ 7 * (2 * (p1 + p2 + p3 + p4) + 512 * (p2 + p3 + p4 + p5) + 131072 * (p3 + p4 + p5 + p6) + 33554432 * ((p4 + p5 + p6 + p7) + 256 * (p5 + p6 + p7) + 65536 * (p6 + p7) + 16777216 * p7) + 2 * (p5 + p6 + p7) + 512 * (p6 + p7) + 131072 * p7) by omega]
  rw [Nat.add_mul_mod_self_left, Nat.mod_eq_of_lt (by omega)]
theorem ar32 {p0 p1 p2 p3 z3 z4 : Nat} (t0 : p0 ≤ 8) (t1 : p1 ≤ 8) (t2 : p2 ≤ 8) (t3 : p3 ≤ 8) (h3 : z3 = p0 + 256 * (p1 + 256 * (p2 + 256 * p3))) (h4 : z4 = z3 + z3 / 256) :
    z3 < 2 ^ 31 ∧ z4 < 2 ^ 31 ∧ (z4 + z4 / 65536) % 2 ^ 6 = p0 + (p1 + (p2 + p3)) := by
  have d1 : z3 / 256 = p1 + 256 * (p2 + 256 * p3) := by
    rw [h3, Nat.add_mul_div_left _ _ (by decide), Nat.div_eq_of_lt (Nat.lt_of_le_of_lt t0 (by decide)), Nat.zero_add]
  rw [d1] at h4
  clear d1
  have e4 : z4 = ((p0 + p1) + 256 * (p1 + p2)) + 65536 * ((p2 + p3) + 256 * p3) := by rw [h4, h3]; clear h4 h3; omega
  have d2 : z4 / 65536 = (p2 + p3) + 256 * p3 := by
    rw [e4, Nat.add_mul_div_left _ _ (by decide), Nat.div_eq_of_lt (by clear h3 h4 e4; omega), Nat.zero_add]
  refine ⟨by clear h4 e4 d2; omega, by clear h4 h3 d2; omega, ?_⟩
  rw [d2, e4]
  clear h3 h4 e4 d2
  rw [show ((p0 + p1) + 256 * (p1 + p2)) + 65536 * ((p2 + p3) + 256 * p3) + ((p2 + p3) + 256 * p3) = (p0 + (p1 + (p2 + p3))) + 2 ^ 6 * (4 * (p1 + p2) + 1024 * ((p2 + p3) + 256 * p3) + 4 * p3) by omega]
  rw [Nat.add_mul_mod_self_left, Nat.mod_eq_of_lt (by omega)]
theorem b_count64 {v : Nat} (hv : v < 2 ^ 64) : f_J13_bitCount_95d88 (lN v) = some (nI (sm (tbN v) 64)) := by
  have hv8 : v < 256 ^ 8 := hv
  obtain ⟨hp, -⟩ := pop_all 8 v hv8
  have m5 : rp 0x55 8 = 6148914691236517205 := rfl
  have m3 : rp 0x33 8 = 3689348814741910323 := rfl
  have mf : rp 0x0f 8 = 1085102592571150095 := rfl
  have s1 : ((lN v).toUInt64 >>> ((1 : Int32).toInt64.toUInt64 &&& Int64.toUInt64 63)).toInt64 = lN (v / 2) := wb_shr (k := 1) hv (by omega)
  have e1 : lN v - (lN (v / 2) &&& (6148914691236517205 : Int64)) = lN (pA 8 v) := by
    rw [show (6148914691236517205 : Int64) = lN (rp 0x55 8) from by rw [m5]; rfl, wb_and (by omega) (by omega), lN_sub (pA_step (k := 8)).2]
    rfl
  have hA : pA 8 v < 2 ^ 64 := Nat.lt_of_le_of_lt pA_le hv
  have s2 : ((lN (pA 8 v)).toUInt64 >>> ((2 : Int32).toInt64.toUInt64 &&& Int64.toUInt64 63)).toInt64 = lN (pA 8 v / 4) := wb_shr (k := 2) hA (by omega)
  have e2 : (lN (pA 8 v) &&& (3689348814741910323 : Int64)) + (lN (pA 8 v / 4) &&& (3689348814741910323 : Int64)) = lN (pB 8 (pA 8 v)) := by
    rw [show (3689348814741910323 : Int64) = lN (rp 0x33 8) from by rw [m3]; rfl, wb_and hA (by omega), wb_and (by omega) (by omega), lN_add]
    rfl
  have hB : pB 8 (pA 8 v) < 2 ^ 63 := by
    have h2 : pA 8 v &&& rp 0x33 8 ≤ rp 0x33 8 := Nat.and_le_right
    have h3 : (pA 8 v / 4) &&& rp 0x33 8 ≤ rp 0x33 8 := Nat.and_le_right
    unfold pB
    omega
  have s3 : ((lN (pB 8 (pA 8 v))).toUInt64 >>> ((4 : Int32).toInt64.toUInt64 &&& Int64.toUInt64 63)).toInt64 = lN (pB 8 (pA 8 v) / 16) := wb_shr (k := 4) (by omega) (by omega)
  have e3 : (lN (pB 8 (pA 8 v)) + lN (pB 8 (pA 8 v) / 16)) &&& (1085102592571150095 : Int64) = lN (pS v 8) := by
    rw [lN_add, show (1085102592571150095 : Int64) = lN (rp 0x0f 8) from by rw [mf]; rfl, wb_and (by omega) (by omega), ← hp]
    rfl
  have hpS : pS v 8 = sm (tbN v) 8 + 256 * (sm (tbN (v / 256)) 8 + 256 * (sm (tbN (v / 256 / 256)) 8 + 256 * (sm (tbN (v / 256 / 256 / 256)) 8 + 256 * (sm (tbN (v / 256 / 256 / 256 / 256)) 8 + 256 * (sm (tbN (v / 256 / 256 / 256 / 256 / 256)) 8 + 256 * (sm (tbN (v / 256 / 256 / 256 / 256 / 256 / 256)) 8 + 256 * sm (tbN (v / 256 / 256 / 256 / 256 / 256 / 256 / 256)) 8)))))) := by
    simp only [pS, byte_sm]
    rfl
  have hpc := pc_64 (v := v)
  have t0 := sm_tb v 8
  have t1 := sm_tb (v / 256) 8
  have t2 := sm_tb (v / 256 / 256) 8
  have t3 := sm_tb (v / 256 / 256 / 256) 8
  have t4 := sm_tb (v / 256 / 256 / 256 / 256) 8
  have t5 := sm_tb (v / 256 / 256 / 256 / 256 / 256) 8
  have t6 := sm_tb (v / 256 / 256 / 256 / 256 / 256 / 256) 8
  have t7 := sm_tb (v / 256 / 256 / 256 / 256 / 256 / 256 / 256) 8
  revert hpS hpc t0 t1 t2 t3 t4 t5 t6 t7
  generalize sm (tbN v) 64 = R
  generalize sm (tbN v) 8 = p0
  generalize sm (tbN (v / 256)) 8 = p1
  generalize sm (tbN (v / 256 / 256)) 8 = p2
  generalize sm (tbN (v / 256 / 256 / 256)) 8 = p3
  generalize sm (tbN (v / 256 / 256 / 256 / 256)) 8 = p4
  generalize sm (tbN (v / 256 / 256 / 256 / 256 / 256)) 8 = p5
  generalize sm (tbN (v / 256 / 256 / 256 / 256 / 256 / 256)) 8 = p6
  generalize sm (tbN (v / 256 / 256 / 256 / 256 / 256 / 256 / 256)) 8 = p7
  intro hpS hpc t0 t1 t2 t3 t4 t5 t6 t7
  unfold f_J13_bitCount_95d88
  simp only [nm]
  rw [s1, e1, s2, e2, s3, e3]
  obtain ⟨z3, hz3⟩ : ∃ z, z = pS v 8 := ⟨_, rfl⟩
  rw [← hz3] at hpS ⊢
  obtain ⟨z4, hz4⟩ : ∃ z, z = z3 + z3 / 256 := ⟨_, rfl⟩
  obtain ⟨z5, hz5⟩ : ∃ z, z = z4 + z4 / 65536 := ⟨_, rfl⟩
  obtain ⟨b3, b4, b5, hfin⟩ := ar64 t0 t1 t2 t3 t4 t5 t6 t7 hpS hz4 hz5
  have s4 : ((lN z3).toUInt64 >>> ((8 : Int32).toInt64.toUInt64 &&& Int64.toUInt64 63)).toInt64 = lN (z3 / 256) := wb_shr (k := 8) (Nat.lt_trans b3 (by decide)) (by decide)
  have s5 : ((lN z4).toUInt64 >>> ((16 : Int32).toInt64.toUInt64 &&& Int64.toUInt64 63)).toInt64 = lN (z4 / 65536) := wb_shr (k := 16) (Nat.lt_trans b4 (by decide)) (by decide)
  have s6 : ((lN z5).toUInt64 >>> ((32 : Int32).toInt64.toUInt64 &&& Int64.toUInt64 63)).toInt64 = lN (z5 / 4294967296) := wb_shr (k := 32) (Nat.lt_trans b5 (by decide)) (by decide)
  rw [s4, lN_add, ← hz4, s5, lN_add, ← hz5, s6, lN_add, lN_i]
  have hm : nI (z5 + z5 / 4294967296) &&& (127 : Int32) = nI ((nI (z5 + z5 / 4294967296)).toBitVec.toNat % 2 ^ 7) := pk_and _ 7 rfl
  rw [hm, show (nI (z5 + z5 / 4294967296)).toBitVec.toNat = (z5 + z5 / 4294967296) % 2 ^ 32 from rfl, Nat.mod_mod_of_dvd _ (show 2 ^ 7 ∣ 2 ^ 32 by decide), hfin, hpc]
theorem b_count32 {v : Nat} (hv : v < 2 ^ 32) : f_J6_bitCount_0f7a4 (nI v) = some (nI (sm (tbN v) 32)) := by
  have hv8 : v < 256 ^ 4 := hv
  obtain ⟨hp, -⟩ := pop_all 4 v hv8
  have nand : ∀ {a b : Nat}, a < 2 ^ 32 → b < 2 ^ 32 → nI a &&& nI b = nI (a &&& b) := fun {a b} ha hb => by
    refine Int32.toBitVec_inj.mp (BitVec.eq_of_toNat_eq ?_)
    rw [Int32.toBitVec_and, BitVec.toNat_and, pk_tn ha, pk_tn hb, pk_tn (Nat.and_lt_two_pow _ hb)]
  have shr : ∀ {n k : Nat}, n < 2 ^ 32 → k < 32 → ((nI n).toUInt32 >>> ((nI k).toUInt32 &&& Int32.toUInt32 31)).toInt32 = nI (n / 2 ^ k) := fun {n k} hn hk => pk_ushrN hn (nI k) k (s_u k hk)
  have m5 : rp 0x55 4 = 1431655765 := rfl
  have m3 : rp 0x33 4 = 858993459 := rfl
  have mf : rp 0x0f 4 = 252645135 := rfl
  have s1 : ((nI v).toUInt32 >>> ((1 : Int32).toUInt32 &&& Int32.toUInt32 31)).toInt32 = nI (v / 2) := shr (k := 1) hv (by omega)
  have e1 : nI v - (nI (v / 2) &&& (1431655765 : Int32)) = nI (pA 4 v) := by
    rw [show (1431655765 : Int32) = nI (rp 0x55 4) from by rw [m5]; rfl, nand (by omega) (by omega), q_sub (pA_step (k := 4)).2]
    rfl
  have hA : pA 4 v < 2 ^ 32 := Nat.lt_of_le_of_lt pA_le hv
  have s2 : ((nI (pA 4 v)).toUInt32 >>> ((2 : Int32).toUInt32 &&& Int32.toUInt32 31)).toInt32 = nI (pA 4 v / 4) := shr (k := 2) hA (by omega)
  have e2 : (nI (pA 4 v) &&& (858993459 : Int32)) + (nI (pA 4 v / 4) &&& (858993459 : Int32)) = nI (pB 4 (pA 4 v)) := by
    rw [show (858993459 : Int32) = nI (rp 0x33 4) from by rw [m3]; rfl, nand hA (by omega), nand (by omega) (by omega), nI_add]
    rfl
  have hB : pB 4 (pA 4 v) < 2 ^ 31 := by
    have h2 : pA 4 v &&& rp 0x33 4 ≤ rp 0x33 4 := Nat.and_le_right
    have h3 : (pA 4 v / 4) &&& rp 0x33 4 ≤ rp 0x33 4 := Nat.and_le_right
    unfold pB
    omega
  have s3 : ((nI (pB 4 (pA 4 v))).toUInt32 >>> ((4 : Int32).toUInt32 &&& Int32.toUInt32 31)).toInt32 = nI (pB 4 (pA 4 v) / 16) := shr (k := 4) (by omega) (by omega)
  have e3 : (nI (pB 4 (pA 4 v)) + nI (pB 4 (pA 4 v) / 16)) &&& (252645135 : Int32) = nI (pS v 4) := by
    rw [nI_add, show (252645135 : Int32) = nI (rp 0x0f 4) from by rw [mf]; rfl, nand (by omega) (by omega), ← hp]
    rfl
  have hpS : pS v 4 = sm (tbN v) 8 + 256 * (sm (tbN (v / 256)) 8 + 256 * (sm (tbN (v / 256 / 256)) 8 + 256 * sm (tbN (v / 256 / 256 / 256)) 8)) := by
    simp only [pS, byte_sm]
    rfl
  have hpc := pc_32 (v := v)
  have t0 := sm_tb v 8
  have t1 := sm_tb (v / 256) 8
  have t2 := sm_tb (v / 256 / 256) 8
  have t3 := sm_tb (v / 256 / 256 / 256) 8
  revert hpS hpc t0 t1 t2 t3
  generalize sm (tbN v) 32 = R
  generalize sm (tbN v) 8 = p0
  generalize sm (tbN (v / 256)) 8 = p1
  generalize sm (tbN (v / 256 / 256)) 8 = p2
  generalize sm (tbN (v / 256 / 256 / 256)) 8 = p3
  intro hpS hpc t0 t1 t2 t3
  unfold f_J6_bitCount_0f7a4
  simp only [nm]
  rw [s1, e1, s2, e2, s3, e3]
  obtain ⟨z3, hz3⟩ : ∃ z, z = pS v 4 := ⟨_, rfl⟩
  rw [← hz3] at hpS ⊢
  obtain ⟨z4, hz4⟩ : ∃ z, z = z3 + z3 / 256 := ⟨_, rfl⟩
  obtain ⟨b3, b4, hfin⟩ := ar32 t0 t1 t2 t3 hpS hz4
  have s4 : ((nI z3).toUInt32 >>> ((8 : Int32).toUInt32 &&& Int32.toUInt32 31)).toInt32 = nI (z3 / 256) := shr (k := 8) (Nat.lt_trans b3 (by decide)) (by decide)
  have s5 : ((nI z4).toUInt32 >>> ((16 : Int32).toUInt32 &&& Int32.toUInt32 31)).toInt32 = nI (z4 / 65536) := shr (k := 16) (Nat.lt_trans b4 (by decide)) (by decide)
  rw [s4, nI_add, ← hz4, s5, nI_add]
  have hm : nI (z4 + z4 / 65536) &&& (63 : Int32) = nI ((nI (z4 + z4 / 65536)).toBitVec.toNat % 2 ^ 6) := pk_and _ 6 rfl
  rw [hm, show (nI (z4 + z4 / 65536)).toBitVec.toNat = (z4 + z4 / 65536) % 2 ^ 32 from rfl, Nat.mod_mod_of_dvd _ (show 2 ^ 6 ∣ 2 ^ 32 by decide), hfin, hpc]
