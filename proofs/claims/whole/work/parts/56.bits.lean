/-! ===== shifts and masks (wb_*: out of kit/laws/BITS.to-paste, a starting text) ===== -/
theorem wb_tb (n : Nat) : (lN n).toBitVec = BitVec.ofNat 64 n := rfl
theorem wb_inj {a b : Int64} (h : a.toBitVec = b.toBitVec) : a = b := Int64.toBitVec_inj.mp h
theorem wb_tn {n : Nat} (h : n < 2 ^ 64) : (lN n).toBitVec.toNat = n := by rw [wb_tb, BitVec.toNat_ofNat, Nat.mod_eq_of_lt h]
theorem wb_c : ∀ k, k < 64 → ((nI k).toInt64 &&& 63) = lN k := by decide +kernel
theorem wb_cu : ∀ k, k < 64 → ((nI k).toInt64.toUInt64 &&& Int64.toUInt64 63) = UInt64.ofNat k := by decide +kernel
theorem wb_sm : ∀ k, k < 64 → (BitVec.ofNat 64 k).smod 64 = BitVec.ofNat 64 k := by decide +kernel
theorem wb_shr {n k : Nat} (hn : n < 2 ^ 64) (hk : k < 64) : ((lN n).toUInt64 >>> ((nI k).toInt64.toUInt64 &&& Int64.toUInt64 63)).toInt64 = lN (n / 2 ^ k) := by
  rw [wb_cu k hk]
  apply wb_inj
  apply BitVec.eq_of_toNat_eq
  show ((lN n).toUInt64 >>> UInt64.ofNat k).toNat = (BitVec.ofNat 64 _).toNat
  have h1 : (UInt64.ofNat k).toNat = k := by
    show (BitVec.ofNat 64 k).toNat = k
    rw [BitVec.toNat_ofNat, Nat.mod_eq_of_lt (by omega)]
  have h2 : (lN n).toUInt64.toNat = n := wb_tn hn
  rw [UInt64.toNat_shiftRight, h1, h2, Nat.mod_eq_of_lt hk, Nat.shiftRight_eq_div_pow, BitVec.toNat_ofNat, Nat.mod_eq_of_lt (Nat.lt_of_le_of_lt (Nat.div_le_self _ _) hn)]
theorem wb_shl (n : Nat) {k : Nat} (hk : k < 64) : lN n <<< ((nI k).toInt64 &&& 63) = lN (n * 2 ^ k) := by
  rw [wb_c k hk]
  apply wb_inj
  rw [Int64.toBitVec_shiftLeft, wb_tb, wb_tb, wb_tb, wb_sm k hk]
  apply BitVec.eq_of_toNat_eq
  rw [BitVec.shiftLeft_eq', BitVec.toNat_shiftLeft, BitVec.toNat_ofNat, BitVec.toNat_ofNat, BitVec.toNat_ofNat, Nat.mod_eq_of_lt (show k < 2 ^ 64 by omega), Nat.shiftLeft_eq, Nat.mul_mod, Nat.mod_mod, ← Nat.mul_mod]
theorem wb_and {a b : Nat} (ha : a < 2 ^ 64) (hb : b < 2 ^ 64) : lN a &&& lN b = lN (a &&& b) := by
  apply wb_inj
  rw [Int64.toBitVec_and, wb_tb, wb_tb, wb_tb]
  apply BitVec.eq_of_toNat_eq
  rw [BitVec.toNat_and, BitVec.toNat_ofNat, BitVec.toNat_ofNat, BitVec.toNat_ofNat, Nat.mod_eq_of_lt ha, Nat.mod_eq_of_lt hb, Nat.mod_eq_of_lt (Nat.and_lt_two_pow _ hb)]
theorem wb_or {a b : Nat} (ha : a < 2 ^ 64) (hb : b < 2 ^ 64) : lN a ||| lN b = lN (a ||| b) := by
  apply wb_inj
  rw [Int64.toBitVec_or, wb_tb, wb_tb, wb_tb]
  apply BitVec.eq_of_toNat_eq
  rw [BitVec.toNat_or, BitVec.toNat_ofNat, BitVec.toNat_ofNat, BitVec.toNat_ofNat, Nat.mod_eq_of_lt ha, Nat.mod_eq_of_lt hb, Nat.mod_eq_of_lt (Nat.or_lt_two_pow ha hb)]
/-! ===== the same for the small machine's words ===== -/
theorem z_l (n : Nat) : Int64.ofInt (n : Int) = lN n := rfl
theorem z_i (n : Nat) : Int32.ofInt (n : Int) = nI n := rfl
theorem z_lI {a : Nat} (h : a < 2 ^ 63) : (lN a).toInt = (a : Int) := lg_ofNat_toInt h
theorem z_tI {a : Nat} (h : a < 2 ^ 31) : (nI a).toInt = (a : Int) := by
  show (BitVec.ofNat 32 a).toInt = (a : Int)
  rw [BitVec.toInt_ofNat']
  have e : (a : Int) % 2 ^ 32 = a := by omega
  rw [Int.bmod_def]
  omega
theorem z_lshl {x k : Int} (hx : 0 ≤ x) (hk : 0 ≤ k ∧ k < 64) (h : x * 2 ^ k.toNat < 9223372036854775808) : f_lshl x k = x * 2 ^ k.toNat := by
  obtain ⟨n, rfl⟩ := Int.eq_ofNat_of_zero_le hx
  obtain ⟨c, rfl⟩ := Int.eq_ofNat_of_zero_le hk.1
  have hc : c < 64 := by omega
  rw [Int.toNat_natCast] at h ⊢
  unfold f_lshl
  rw [z_l, z_i, wb_shl n hc]
  have e : ((n : Int) * 2 ^ c) = ((n * 2 ^ c : Nat) : Int) := by push_cast; rfl
  rw [e] at h ⊢
  exact z_lI (by omega)
theorem z_land1 {x : Int} (hx : 0 ≤ x) (h : x < 9223372036854775808) : f_land x 1 = x % 2 := by
  obtain ⟨n, rfl⟩ := Int.eq_ofNat_of_zero_le hx
  unfold f_land
  rw [z_l, show Int64.ofInt 1 = lN 1 from rfl, wb_and (by omega) (by decide), Nat.and_one_is_mod, z_lI (by omega)]
  omega
theorem z_lushr {x k : Int} (hx : 0 ≤ x) (h : x < 9223372036854775808) (hk : 0 ≤ k ∧ k < 64) : f_lushr x k = x / 2 ^ k.toNat := by
  obtain ⟨n, rfl⟩ := Int.eq_ofNat_of_zero_le hx
  obtain ⟨c, rfl⟩ := Int.eq_ofNat_of_zero_le hk.1
  unfold f_lushr
  rw [Int.toNat_natCast, z_l, z_i, wb_shr (by omega) (by omega), z_lI (Nat.lt_of_le_of_lt (Nat.div_le_self _ _) (by omega))]
  push_cast
  rfl
theorem z_lshr {x k : Int} (hx : 0 ≤ x) (h : x < 9223372036854775808) (hk : 0 ≤ k ∧ k < 64) : f_lshr x k = x / 2 ^ k.toNat := by
  obtain ⟨n, rfl⟩ := Int.eq_ofNat_of_zero_le hx
  obtain ⟨c, rfl⟩ := Int.eq_ofNat_of_zero_le hk.1
  have hc : c < 64 := by omega
  unfold f_lshr
  rw [Int.toNat_natCast, z_l, z_i, wb_c c hc]
  have e : (lN n >>> lN c).toInt = (lN n).toInt >>> ((lN c).toBitVec.smod 64).toNat := BitVec.toInt_sshiftRight ..
  rw [e, wb_tb, wb_sm c hc, BitVec.toNat_ofNat, Nat.mod_eq_of_lt (by omega), Int.shiftRight_eq_div_pow, z_lI (by omega)]
  push_cast
  rfl
theorem z_lor {x k y : Int} (hx : 0 ≤ x) (hk : 0 ≤ k ∧ k < 64) (h : x * 2 ^ k.toNat + y < 9223372036854775808) (hy : 0 ≤ y) (hy2 : y < 2 ^ k.toNat) : f_lor (x * 2 ^ k.toNat) y = x * 2 ^ k.toNat + y := by
  obtain ⟨n, rfl⟩ := Int.eq_ofNat_of_zero_le hx
  obtain ⟨c, rfl⟩ := Int.eq_ofNat_of_zero_le hk.1
  obtain ⟨a, rfl⟩ := Int.eq_ofNat_of_zero_le hy
  rw [Int.toNat_natCast] at *
  have e : ((n : Int) * 2 ^ c) = ((n * 2 ^ c : Nat) : Int) := by push_cast; rfl
  have e2 : a < 2 ^ c := by
    have : ((2 ^ c : Nat) : Int) = 2 ^ c := by push_cast; rfl
    omega
  rw [e] at h ⊢
  unfold f_lor
  rw [z_l, z_l, wb_or (by omega) (by omega)]
  have h1 : n * 2 ^ c ||| a = n * 2 ^ c + a := by rw [← Nat.shiftLeft_eq, Nat.shiftLeft_add_eq_or_of_lt e2]
  rw [h1, z_lI (by omega)]
  push_cast
  rfl
theorem z_c5 : ∀ k, k < 32 → ((nI k &&& 31).toBitVec.smod 32) = BitVec.ofNat 32 k := by decide +kernel
theorem z_ishl {x k : Int} (hx : 0 ≤ x) (hk : 0 ≤ k ∧ k < 32) (h : x * 2 ^ k.toNat < 2147483648) : f_ishl x k = x * 2 ^ k.toNat := by
  obtain ⟨n, rfl⟩ := Int.eq_ofNat_of_zero_le hx
  obtain ⟨c, rfl⟩ := Int.eq_ofNat_of_zero_le hk.1
  have hc : c < 32 := by omega
  rw [Int.toNat_natCast] at h ⊢
  have e : ((n : Int) * 2 ^ c) = ((n * 2 ^ c : Nat) : Int) := by push_cast; rfl
  rw [e] at h ⊢
  unfold f_ishl
  rw [z_i, z_i]
  have e2 : nI n <<< (nI c &&& 31) = nI (n * 2 ^ c) := by
    apply Int32.toBitVec_inj.mp
    rw [Int32.toBitVec_shiftLeft, z_c5 c hc]
    apply BitVec.eq_of_toNat_eq
    show (BitVec.ofNat 32 n <<< BitVec.ofNat 32 c).toNat = (BitVec.ofNat 32 (n * 2 ^ c)).toNat
    rw [BitVec.shiftLeft_eq', BitVec.toNat_shiftLeft, BitVec.toNat_ofNat, BitVec.toNat_ofNat, BitVec.toNat_ofNat, Nat.mod_eq_of_lt (show c < 2 ^ 32 by omega), Nat.shiftLeft_eq, Nat.mul_mod, Nat.mod_mod, ← Nat.mul_mod]
  rw [e2, z_tI (by omega)]
theorem z_ior {x k y : Int} (hx : 0 ≤ x) (hk : 0 ≤ k ∧ k < 32) (h : x * 2 ^ k.toNat + y < 2147483648) (hy : 0 ≤ y) (hy2 : y < 2 ^ k.toNat) : f_ior (x * 2 ^ k.toNat) y = x * 2 ^ k.toNat + y := by
  obtain ⟨n, rfl⟩ := Int.eq_ofNat_of_zero_le hx
  obtain ⟨c, rfl⟩ := Int.eq_ofNat_of_zero_le hk.1
  obtain ⟨a, rfl⟩ := Int.eq_ofNat_of_zero_le hy
  rw [Int.toNat_natCast] at *
  have e : ((n : Int) * 2 ^ c) = ((n * 2 ^ c : Nat) : Int) := by push_cast; rfl
  have e2 : a < 2 ^ c := by
    have : ((2 ^ c : Nat) : Int) = 2 ^ c := by push_cast; rfl
    omega
  rw [e] at h ⊢
  unfold f_ior
  rw [z_i, z_i]
  have h1 : n * 2 ^ c ||| a = n * 2 ^ c + a := by rw [← Nat.shiftLeft_eq, Nat.shiftLeft_add_eq_or_of_lt e2]
  have e3 : nI (n * 2 ^ c) ||| nI a = nI (n * 2 ^ c + a) := by
    apply Int32.toBitVec_inj.mp
    rw [Int32.toBitVec_or]
    apply BitVec.eq_of_toNat_eq
    show (BitVec.ofNat 32 (n * 2 ^ c) ||| BitVec.ofNat 32 a).toNat = (BitVec.ofNat 32 (n * 2 ^ c + a)).toNat
    rw [BitVec.toNat_or, BitVec.toNat_ofNat, BitVec.toNat_ofNat, BitVec.toNat_ofNat, Nat.mod_eq_of_lt (by omega), Nat.mod_eq_of_lt (by omega), Nat.mod_eq_of_lt (by omega), h1]
  rw [e3, z_tI (by omega)]
  push_cast
  rfl
theorem z_iand255 (x : Int) : 0 ≤ f_iand x 255 ∧ f_iand x 255 ≤ 255 := by
  unfold f_iand
  have e : (Int32.ofInt x &&& Int32.ofInt 255).toBitVec.toNat ≤ 255 := by
    rw [Int32.toBitVec_and, BitVec.toNat_and]
    exact Nat.and_le_right
  have e2 : (Int32.ofInt x &&& Int32.ofInt 255).toInt = ((Int32.ofInt x &&& Int32.ofInt 255).toBitVec.toNat : Int) := BitVec.toInt_eq_toNat_of_lt (by omega)
  rw [e2]
  omega
theorem z_iushr8 (x : Int) : 0 ≤ f_iushr x 8 ∧ f_iushr x 8 < 16777216 := by
  unfold f_iushr
  have e : ((Int32.ofInt x).toUInt32 >>> ((Int32.ofInt 8).toUInt32 &&& Int32.toUInt32 31)).toNat < 16777216 := by
    rw [UInt32.toNat_shiftRight, show ((Int32.ofInt 8).toUInt32 &&& Int32.toUInt32 31).toNat % 32 = 8 from by decide +kernel, Nat.shiftRight_eq_div_pow]
    have := (Int32.ofInt x).toUInt32.toNat_lt
    omega
  have e2 : ((Int32.ofInt x).toUInt32 >>> ((Int32.ofInt 8).toUInt32 &&& Int32.toUInt32 31)).toInt32.toInt = (((Int32.ofInt x).toUInt32 >>> ((Int32.ofInt 8).toUInt32 &&& Int32.toUInt32 31)).toNat : Int) := BitVec.toInt_eq_toNat_of_lt (by
    show 2 * ((Int32.ofInt x).toUInt32 >>> ((Int32.ofInt 8).toUInt32 &&& Int32.toUInt32 31)).toNat < 2 ^ 32
    omega)
  rw [e2]
  omega
