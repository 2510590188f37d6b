/-! ===== instructions that read and write the heap (printed by wip/whole/simf.py) ===== -/
def clN (n : Nat) : vw_C := vwCl.getD n ("", fun _ => ("", "", "", false), 0)
def tyN : Nat → Nat → FieldType
  | 0 => tyX0
  | 1 => tyX1
  | 2 => tyX3
  | 3 => tyX4
  | 4 => tyX5
  | 5 => tyX6
  | 6 => tyX7
  | 7 => tyX8
  | 8 => tyX11
  | _ => tyX12
def tyc : FieldType → Nat
  | .int => 0
  | .long => 1
  | .boolean => 3
  | .object _ => 2
  | .array _ => 2
  | _ => 9
theorem lt10 {n : Nat} (h : n < 10) : n = 0 ∨ n = 1 ∨ n = 2 ∨ n = 3 ∨ n = 4 ∨ n = 5 ∨ n = 6 ∨ n = 7 ∨ n = 8 ∨ n = 9 := by omega
theorem cl_at {n : Nat} (h : n < 10) : vwCl[n]? = some (clN n) := by
  rcases lt10 h with rfl | rfl | rfl | rfl | rfl | rfl | rfl | rfl | rfl | rfl <;> rfl
theorem cl_n {n : Nat} (h : n < 10) : (clN n).2.2 = nF ((n + 1 : Nat) : Int) := by
  rcases lt10 h with rfl | rfl | rfl | rfl | rfl | rfl | rfl | rfl | rfl | rfl <;> rfl
theorem cl_ty {n : Nat} (h : n < 10) : ∀ k, k < (clN n).2.2 → parseFieldDescriptor ((clN n).2.1 k).2.2.1 = some (tyN n k) := by
  rcases lt10 h with rfl | rfl | rfl | rfl | rfl | rfl | rfl | rfl | rfl | rfl
  · exact tyX0_ok
  · exact tyX1_ok
  · exact tyX3_ok
  · exact tyX4_ok
  · exact tyX5_ok
  · exact tyX6_ok
  · exact tyX7_ok
  · exact tyX8_ok
  · exact tyX11_ok
  · exact tyX12_ok
theorem cl_nm {n : Nat} (h : n < 10) : ∀ a, a < (clN n).2.2 → ∀ b, b < (clN n).2.2 → a ≠ b → ((clN n).2.1 a).2.1 ≠ ((clN n).2.1 b).2.1 := by
  rcases lt10 h with rfl | rfl | rfl | rfl | rfl | rfl | rfl | rfl | rfl | rfl
  · exact nmX0
  · exact nmX1
  · exact nmX3
  · exact nmX4
  · exact nmX5
  · exact nmX6
  · exact nmX7
  · exact nmX8
  · exact nmX11
  · exact nmX12
theorem cl_tc {n : Nat} (h : n < 10) : ∀ k, k < (clN n).2.2 → tyc (tyN n k) = fT ((n + 1 : Nat) : Int) k := by
  rcases lt10 h with rfl | rfl | rfl | rfl | rfl | rfl | rfl | rfl | rfl | rfl <;> decide +kernel
theorem cl_w0 : ∀ w ∈ u_ws (clN 0).1 (clN 0).2.1 (clN 0).2.2, w ∈ tG := by decide +kernel
theorem cl_w1 : ∀ w ∈ u_ws (clN 1).1 (clN 1).2.1 (clN 1).2.2, w ∈ tG := by decide +kernel
theorem cl_w2 : ∀ w ∈ u_ws (clN 2).1 (clN 2).2.1 (clN 2).2.2, w ∈ tG := by decide +kernel
theorem cl_w3 : ∀ w ∈ u_ws (clN 3).1 (clN 3).2.1 (clN 3).2.2, w ∈ tG := by decide +kernel
theorem cl_w4 : ∀ w ∈ u_ws (clN 4).1 (clN 4).2.1 (clN 4).2.2, w ∈ tG := by decide +kernel
theorem cl_w5 : ∀ w ∈ u_ws (clN 5).1 (clN 5).2.1 (clN 5).2.2, w ∈ tG := by decide +kernel
theorem cl_w6 : ∀ w ∈ u_ws (clN 6).1 (clN 6).2.1 (clN 6).2.2, w ∈ tG := by decide +kernel
theorem cl_w7 : ∀ w ∈ u_ws (clN 7).1 (clN 7).2.1 (clN 7).2.2, w ∈ tG := by decide +kernel
theorem cl_w8 : ∀ w ∈ u_ws (clN 8).1 (clN 8).2.1 (clN 8).2.2, w ∈ tG := by decide +kernel
theorem cl_w9 : ∀ w ∈ u_ws (clN 9).1 (clN 9).2.1 (clN 9).2.2, w ∈ tG := by decide +kernel
theorem cl_ws {n : Nat} (h : n < 10) : ∀ w ∈ u_ws (clN n).1 (clN n).2.1 (clN n).2.2, w ∈ tG := by
  rcases lt10 h with rfl | rfl | rfl | rfl | rfl | rfl | rfl | rfl | rfl | rfl
  · exact cl_w0
  · exact cl_w1
  · exact cl_w2
  · exact cl_w3
  · exact cl_w4
  · exact cl_w5
  · exact cl_w6
  · exact cl_w7
  · exact cl_w8
  · exact cl_w9
