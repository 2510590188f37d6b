/-! ===== numbers ===== -/
theorem w32_bmod (x : Int) : w32 x = Int.bmod x (2 ^ 32) := by
  unfold w32 Int.bmod
  simp only [Nat.reducePow]
  split <;> omega
theorem w64_bmod (x : Int) : w64 x = Int.bmod x (2 ^ 64) := by
  unfold w64 Int.bmod
  simp only [Nat.reducePow]
  split <;> omega
theorem ofI_w32 (x : Int) : Int32.ofInt (w32 x) = Int32.ofInt x := by
  apply Int32.toInt.inj
  rw [Int32.toInt_ofInt, Int32.toInt_ofInt, w32_bmod]
  exact Int.bmod_bmod
theorem ofL_w64 (x : Int) : Int64.ofInt (w64 x) = Int64.ofInt x := by
  apply Int64.toInt.inj
  rw [Int64.toInt_ofInt, Int64.toInt_ofInt, w64_bmod]
  exact Int.bmod_bmod
theorem in32_w (x : Int) : in32 (w32 x) := by
  unfold in32 w32
  omega
theorem in64_w (x : Int) : in64 (w64 x) := by
  unfold in64 w64
  omega
theorem w32_id {x : Int} (h : in32 x) : w32 x = x := by
  unfold in32 at h
  unfold w32
  omega
theorem w64_id {x : Int} (h : in64 x) : w64 x = x := by
  unfold in64 at h
  unfold w64
  omega
theorem toI_of {x : Int} (h : in32 x) : (Int32.ofInt x).toInt = x := by
  rw [Int32.toInt_ofInt, ← w32_bmod, w32_id h]
theorem toL_of {x : Int} (h : in64 x) : (Int64.ofInt x).toInt = x := by
  rw [Int64.toInt_ofInt, ← w64_bmod, w64_id h]
theorem in32_toInt (v : Int32) : in32 v.toInt := ⟨Int32.le_toInt v, Int32.toInt_lt v⟩
theorem in64_toInt (v : Int64) : in64 v.toInt := ⟨Int64.le_toInt v, Int64.toInt_lt v⟩
theorem ofI_toInt (v : Int32) : Int32.ofInt v.toInt = v := Int32.ofInt_toInt v
theorem ofL_toInt (v : Int64) : Int64.ofInt v.toInt = v := Int64.ofInt_toInt v
theorem ofI_add (x y : Int) : Int32.ofInt x + Int32.ofInt y = Int32.ofInt (w32 (x + y)) := by rw [ofI_w32, Int32.ofInt_add]
theorem ofI_sub (x y : Int) : Int32.ofInt x - Int32.ofInt y = Int32.ofInt (w32 (x - y)) := by rw [ofI_w32, Int32.ofInt_sub]
theorem ofI_mul (x y : Int) : Int32.ofInt x * Int32.ofInt y = Int32.ofInt (w32 (x * y)) := by rw [ofI_w32, Int32.ofInt_mul]
theorem ofL_add (x y : Int) : Int64.ofInt x + Int64.ofInt y = Int64.ofInt (w64 (x + y)) := by rw [ofL_w64, Int64.ofInt_add]
theorem ofL_sub (x y : Int) : Int64.ofInt x - Int64.ofInt y = Int64.ofInt (w64 (x - y)) := by rw [ofL_w64, Int64.ofInt_sub]
theorem ofL_mul (x y : Int) : Int64.ofInt x * Int64.ofInt y = Int64.ofInt (w64 (x * y)) := by rw [ofL_w64, Int64.ofInt_mul]
theorem ofI_div {x y : Int} (hx : in32 x) (hy : in32 y) : Int32.ofInt x / Int32.ofInt y = Int32.ofInt (w32 (Int.tdiv x y)) := by
  apply Int32.toInt.inj
  rw [ofI_w32, Int32.toInt_div, toI_of hx, toI_of hy, Int32.toInt_ofInt]
theorem ofL_div {x y : Int} (hx : in64 x) (hy : in64 y) : Int64.ofInt x / Int64.ofInt y = Int64.ofInt (w64 (Int.tdiv x y)) := by
  apply Int64.toInt.inj
  rw [ofL_w64, Int64.toInt_div, toL_of hx, toL_of hy, Int64.toInt_ofInt]
theorem in_tmod32 {x y : Int} (hx : in32 x) (hy : in32 y) (h0 : y ≠ 0) : in32 (Int.tmod x y) := by
  unfold in32 at *
  have h1 := Int.tmod_lt_of_pos
  rcases Int.lt_or_gt_of_ne h0 with h | h
  · have a := Int.lt_tmod_of_pos x (b := -y) (by omega)
    have b := Int.tmod_lt_of_pos x (b := -y) (by omega)
    rw [Int.tmod_neg] at a b
    omega
  · have a := Int.lt_tmod_of_pos x (b := y) (by omega)
    have b := Int.tmod_lt_of_pos x (b := y) (by omega)
    omega
theorem in_tmod64 {x y : Int} (hx : in64 x) (hy : in64 y) (h0 : y ≠ 0) : in64 (Int.tmod x y) := by
  unfold in64 at *
  rcases Int.lt_or_gt_of_ne h0 with h | h
  · have a := Int.lt_tmod_of_pos x (b := -y) (by omega)
    have b := Int.tmod_lt_of_pos x (b := -y) (by omega)
    rw [Int.tmod_neg] at a b
    omega
  · have a := Int.lt_tmod_of_pos x (b := y) (by omega)
    have b := Int.tmod_lt_of_pos x (b := y) (by omega)
    omega
theorem ofI_rem {x y : Int} (hx : in32 x) (hy : in32 y) : Int32.ofInt x - Int32.ofInt x / Int32.ofInt y * Int32.ofInt y = Int32.ofInt (Int.tmod x y) := by
  rw [ofI_div hx hy, ofI_w32, ← Int32.ofInt_mul, ← Int32.ofInt_sub]
  congr 1
  have := Int.tdiv_mul_add_tmod x y
  omega
theorem ofL_rem {x y : Int} (hx : in64 x) (hy : in64 y) : Int64.ofInt x - Int64.ofInt x / Int64.ofInt y * Int64.ofInt y = Int64.ofInt (Int.tmod x y) := by
  rw [ofL_div hx hy, ofL_w64, ← Int64.ofInt_mul, ← Int64.ofInt_sub]
  congr 1
  have := Int.tdiv_mul_add_tmod x y
  omega
theorem ofI_lt {x y : Int} (hx : in32 x) (hy : in32 y) : Int32.ofInt x < Int32.ofInt y ↔ x < y := by rw [Int32.lt_iff_toInt_lt, toI_of hx, toI_of hy]
theorem ofI_le {x y : Int} (hx : in32 x) (hy : in32 y) : Int32.ofInt x ≤ Int32.ofInt y ↔ x ≤ y := by rw [Int32.le_iff_toInt_le, toI_of hx, toI_of hy]
theorem ofI_eq {x y : Int} (hx : in32 x) (hy : in32 y) : Int32.ofInt x = Int32.ofInt y ↔ x = y := by
  constructor
  · intro h
    have := congrArg Int32.toInt h
    rwa [toI_of hx, toI_of hy] at this
  · intro h; rw [h]
theorem in32_0 : in32 0 := by unfold in32; omega
theorem ofI_0 : Int32.ofInt 0 = 0 := rfl
theorem ofI_lt0 {x : Int} (hx : in32 x) : Int32.ofInt x < 0 ↔ x < 0 := by rw [← ofI_0, ofI_lt hx in32_0]
theorem ofI_le0 {x : Int} (hx : in32 x) : Int32.ofInt x ≤ 0 ↔ x ≤ 0 := by rw [← ofI_0, ofI_le hx in32_0]
theorem ofI_gt0 {x : Int} (hx : in32 x) : 0 < Int32.ofInt x ↔ 0 < x := by rw [← ofI_0, ofI_lt in32_0 hx]
theorem ofI_ge0 {x : Int} (hx : in32 x) : 0 ≤ Int32.ofInt x ↔ 0 ≤ x := by rw [← ofI_0, ofI_le in32_0 hx]
theorem ofI_eq0 {x : Int} (hx : in32 x) : Int32.ofInt x = 0 ↔ x = 0 := by rw [← ofI_0, ofI_eq hx in32_0]
theorem ofL_eq0 {x : Int} (hx : in64 x) : Int64.ofInt x = 0 ↔ x = 0 := by
  constructor
  · intro h
    have := congrArg Int64.toInt h
    rwa [toL_of hx] at this
  · intro h; rw [h]; rfl
theorem i2l_of {x : Int} (hx : in32 x) : (Int32.ofInt x).toInt64 = Int64.ofInt x := by
  apply Int64.toInt.inj
  rw [Int32.toInt_toInt64, toI_of hx, toL_of (by unfold in32 at hx; unfold in64; omega)]
theorem l2i_of {x : Int} (hx : in64 x) : (Int64.ofInt x).toInt32 = Int32.ofInt (w32 x) := by
  apply Int32.toInt.inj
  rw [Int64.toInt_toInt32, toL_of hx, toI_of (in32_w x), w32_bmod]
theorem i2b_of {x : Int} (h1 : -128 ≤ x) (h2 : x < 128) : (Int32.ofInt x).toInt8.toInt32 = Int32.ofInt x := by
  apply Int32.toInt.inj
  rw [Int8.toInt_toInt32, Int32.toInt_toInt8, toI_of (by unfold in32; omega)]
  unfold Int.bmod
  simp only [Nat.reducePow]
  split <;> omega
theorem bip_of {x : Int} (h1 : -128 ≤ x) (h2 : x < 128) : (Int8.ofInt x).toInt32 = Int32.ofInt x := by
  apply Int32.toInt.inj
  rw [Int8.toInt_toInt32, Int8.toInt_ofInt, toI_of (by unfold in32; omega)]
  unfold Int.bmod
  simp only [Int8.size, Nat.reducePow]
  split <;> omega
theorem sip_of {x : Int} (h1 : -32768 ≤ x) (h2 : x < 32768) : (Int16.ofInt x).toInt32 = Int32.ofInt x := by
  apply Int32.toInt.inj
  rw [Int16.toInt_toInt32, Int16.toInt_ofInt, toI_of (by unfold in32; omega)]
  unfold Int.bmod
  simp only [Int16.size, Nat.reducePow]
  split <;> omega
theorem clamp_of' {x : Int} (hx : in32 x) (h0 : 0 ≤ x) : (Int32.ofInt x).toNatClampNeg = x.toNat := by
  rw [← Int32.toNat_toInt, toI_of hx]
theorem vp_in_of' {x : Int} {n : Nat} (hx : in32 x) (h0 : 0 ≤ x) (h1 : x < n) : vp_in (Int32.ofInt x) n := vp_in_iff.mpr (by rw [toI_of hx]; exact ⟨h0, h1⟩)
theorem cmp_of {x y : Int} (hx : in64 x) (hy : in64 y) : lg_cmp (Int64.ofInt x) (Int64.ofInt y) = Int32.ofInt (cmpL x y) := by
  have e1 : Int64.ofInt x < Int64.ofInt y ↔ x < y := by rw [Int64.lt_iff_toInt_lt, toL_of hx, toL_of hy]
  have e2 : Int64.ofInt x = Int64.ofInt y ↔ x = y := by
    constructor
    · intro h
      have := congrArg Int64.toInt h
      rwa [toL_of hx, toL_of hy] at this
    · intro h; rw [h]
  have e3 : Int64.ofInt y < Int64.ofInt x ↔ y < x := by rw [Int64.lt_iff_toInt_lt, toL_of hx, toL_of hy]
  unfold lg_cmp cmpL
  simp only [gt_iff_lt, e3, e2]
  rcases Int.lt_trichotomy x y with h | h | h
  · rw [if_neg (by omega), if_neg (by omega), if_pos h]; rfl
  · rw [if_neg (by omega), if_pos h, if_neg (by omega), if_pos h]; rfl
  · rw [if_pos h, if_neg (by omega), if_neg (by omega)]; rfl
