/-! WALKING: numbers as ji of an Int; one row an instruction, laid on by a program's text. -/
abbrev ji (x : Int) : Int32 := Int32.ofInt x
def bd (a : Int) : Prop := -2147483648 ≤ a ∧ a < 2147483648
theorem ji_add (a b : Int) : ji a + ji b = ji (a + b) := (Int32.ofInt_add a b).symm
theorem ji_sub (a b : Int) : ji a - ji b = ji (a - b) := (Int32.ofInt_sub a b).symm
theorem ji_mul (a b : Int) : ji a * ji b = ji (a * b) := (Int32.ofInt_mul a b).symm
theorem ji_toInt {a : Int} (h : bd a) : (ji a).toInt = a := Int32.toInt_ofInt_of_le (by have := h.1; omega) (by have := h.2; omega)
theorem ji_of (x : Int32) : x = ji x.toInt := (Int32.ofInt_toInt x).symm
theorem bd_toInt (x : Int32) : bd x.toInt := ⟨by have := x.le_toInt; omega, by have := x.toInt_lt; omega⟩
theorem ji_lt {a b : Int} (ha : bd a) (hb : bd b) : ji a < ji b ↔ a < b := by rw [Int32.lt_iff_toInt_lt, ji_toInt ha, ji_toInt hb]
theorem ji_le {a b : Int} (ha : bd a) (hb : bd b) : ji a ≤ ji b ↔ a ≤ b := by rw [Int32.le_iff_toInt_le, ji_toInt ha, ji_toInt hb]
theorem ji_eq {a b : Int} (ha : bd a) (hb : bd b) : ji a = ji b ↔ a = b := by rw [← Int32.toInt_inj, ji_toInt ha, ji_toInt hb]
theorem ji_nat {a : Int} (h : bd a) : (ji a).toNatClampNeg = a.toNat := by
  show (ji a).toInt.toNat = _
  rw [ji_toInt h]
theorem ji_ofNat (n : Nat) : Int32.ofNat n = ji (n : Int) := by
  show _ = Int32.ofInt _
  rw [Int32.ofInt_eq_ofNat]
theorem bd0 : bd 0 := ⟨by omega, by omega⟩
theorem ji_div {a b : Int} (ha : bd a) (h0 : 0 ≤ a) (hb : bd b) (h1 : 0 < b) : ji a / ji b = ji (a / b) := by
  rw [← Int32.toInt_inj, Int32.toInt_div_of_ne_right, ji_toInt ha, ji_toInt hb, ji_toInt]
  · exact Int.tdiv_eq_ediv_of_nonneg h0
  · have := Int.ediv_le_self b h0
    have := Int.ediv_nonneg h0 (Int.le_of_lt h1)
    exact ⟨by omega, by have := ha.2; omega⟩
  · intro h
    have := congrArg Int32.toInt h
    rw [ji_toInt hb] at this
    have e : (-1 : Int32).toInt = -1 := by decide
    omega
theorem ji_shr {a : Int} (ha : bd a) (h0 : 0 ≤ a) : ji a >>> (ji 1 &&& 31) = ji (a / 2) := by
  have e : (ji 1 &&& 31) = 1 := by decide
  rw [e, ← Int32.toInt_inj, ji_toInt]
  · have : (ji a >>> 1).toInt = (ji a).toInt >>> 1 := by
      rw [← Int32.toInt_toBitVec, Int32.toBitVec_shiftRight]
      simp
    rw [this, ji_toInt ha]
    rw [Int.shiftRight_eq_div_pow]
    omega
  · have := ha.2
    exact ⟨by omega, by omega⟩
theorem ji_bip {n : Int} (h1 : -128 ≤ n) (h2 : n ≤ 127) : (Int8.ofInt n).toInt32 = ji n := by
  rw [← Int32.toInt_inj, ji_toInt ⟨by omega, by omega⟩, Int8.toInt_toInt32, Int8.toInt_ofInt_of_le (by omega) (by omega)]
theorem in_ji {a : Int} {n : Nat} (h0 : 0 ≤ a) (h1 : a < n) (hb : bd a) : inR (ji a) n := by
  intro h
  rcases h with h | h
  · rw [show (0 : Int32) = ji 0 from rfl, ji_lt hb bd0] at h
    omega
  · rw [ji_nat hb] at h
    omega
