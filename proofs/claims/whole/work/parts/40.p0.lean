-- ===== numbers and tagged words =====
theorem lit (n : Nat) : (OfNat.ofNat n : Int32) = nI n := rfl
theorem nI_sub {a b : Nat} (h : b ≤ a) : nI a - nI b = nI (a - b) := by
  have : nI a = nI (a - b) + nI b := by rw [nI_add]; congr 1; omega
  rw [this]
  exact Int32.add_sub_cancel _ _
theorem ofN (n : Nat) : Int32.ofNat n = nI n := rfl
def iI (h : Int) : Int32 := Int32.ofInt h
theorem iI_nat (n : Nat) : iI (n : Int) = nI n := Int32.toBitVec_inj.mp (BitVec.ofInt_natCast 32 n)
theorem iI_toInt {h : Int} (h1 : -2147483648 ≤ h) (h2 : h < 2147483648) : (iI h).toInt = h := Int32.toInt_ofInt_of_le (by simpa using h1) (by simpa using h2)
theorem iI_add (a b : Int) : iI a + iI b = iI (a + b) := (Int32.ofInt_add a b).symm
theorem iI_sub (a b : Int) : iI a - iI b = iI (a - b) := (Int32.ofInt_sub a b).symm
theorem iI_mul (a b : Int) : iI a * iI b = iI (a * b) := (Int32.ofInt_mul a b).symm
theorem iI_lt {a b : Int} (a1 : -2147483648 ≤ a) (a2 : a < 2147483648) (b1 : -2147483648 ≤ b) (b2 : b < 2147483648) : iI a < iI b ↔ a < b := by
  rw [Int32.lt_iff_toInt_lt, iI_toInt a1 a2, iI_toInt b1 b2]
theorem iI_le {a b : Int} (a1 : -2147483648 ≤ a) (a2 : a < 2147483648) (b1 : -2147483648 ≤ b) (b2 : b < 2147483648) : iI a ≤ iI b ↔ a ≤ b := by
  rw [Int32.le_iff_toInt_le, iI_toInt a1 a2, iI_toInt b1 b2]
theorem iI_eq {a b : Int} (a1 : -2147483648 ≤ a) (a2 : a < 2147483648) (b1 : -2147483648 ≤ b) (b2 : b < 2147483648) : iI a = iI b ↔ a = b := by
  rw [← Int32.toInt_inj, iI_toInt a1 a2, iI_toInt b1 b2]
theorem iI_of (x : Int32) : ∃ h : Int, -2147483648 ≤ h ∧ h < 2147483648 ∧ x = iI h :=
  ⟨x.toInt, Int32.le_toInt x, Int32.toInt_lt x, (Int32.ofInt_toInt x).symm⟩
def wd (t : Nat) (h : Int) : Int32 := iI (16 * h + t)
theorem and15 (x : Int32) : (x &&& 15).toInt = x.toInt % 16 := by
  have e : (x &&& 15).toBitVec = x.toBitVec &&& 15#32 := Int32.toBitVec_and x 15
  have n1 : (x &&& 15).toBitVec.toNat = x.toBitVec.toNat % 16 := by
    rw [e, BitVec.toNat_and]
    exact Nat.and_two_pow_sub_one_eq_mod x.toBitVec.toNat 4
  have hx := x.toBitVec.isLt
  show (x &&& 15).toBitVec.toInt = x.toBitVec.toInt % 16
  rw [BitVec.toInt_eq_toNat_cond, BitVec.toInt_eq_toNat_cond, n1]
  have hx : x.toBitVec.toNat < 4294967296 := x.toBitVec.isLt
  split <;> split <;> omega
theorem shr4 (x : Int32) : (x >>> ((4 : Int32) &&& 31)).toInt = x.toInt / 16 := by
  have e : (x >>> ((4 : Int32) &&& 31)).toBitVec = x.toBitVec.sshiftRight 4 := by
    show (x >>> ((4 : Int32) &&& 31)).toBitVec = _
    rw [Int32.toBitVec_shiftRight]
    rfl
  show (x >>> ((4 : Int32) &&& 31)).toBitVec.toInt = x.toBitVec.toInt / 16
  rw [e, BitVec.toInt_sshiftRight, Int.shiftRight_eq_div_pow]
  rfl
theorem w_tag {t : Nat} {h : Int} (ht : t < 16) (h1 : -134217728 ≤ h) (h2 : h < 134217728) : wd t h &&& 15 = nI t := by
  rw [← Int32.toInt_inj, and15, wd, iI_toInt (by omega) (by omega), nI_toInt (by omega)]
  omega
theorem w_held {t : Nat} {h : Int} (ht : t < 16) (h1 : -134217728 ≤ h) (h2 : h < 134217728) : wd t h >>> ((4 : Int32) &&& 31) = iI h := by
  rw [← Int32.toInt_inj, shr4, wd, iI_toInt (by omega) (by omega), iI_toInt (by omega) (by omega)]
  omega
theorem shl4 (h : Int) : iI h <<< ((4 : Int32) &&& 31) = iI (16 * h) := by
  apply Int32.toBitVec_inj.mp
  have e : (iI h <<< ((4 : Int32) &&& 31)).toBitVec = (iI h).toBitVec <<< 4 := by
    rw [Int32.toBitVec_shiftLeft]
    rfl
  rw [e, BitVec.shiftLeft_eq_mul_twoPow]
  show BitVec.ofInt 32 h * BitVec.twoPow 32 4 = BitVec.ofInt 32 (16 * h)
  rw [show BitVec.twoPow 32 4 = BitVec.ofInt 32 16 from rfl, ← BitVec.ofInt_mul, Int.mul_comm]
theorem w_of {t : Nat} {h : Int} (ht : t < 16) : (iI h <<< ((4 : Int32) &&& 31)) ||| nI t = wd t h := by
  rw [shl4]
  apply Int32.toBitVec_inj.mp
  rw [Int32.toBitVec_or]
  show BitVec.ofInt 32 (16 * h) ||| BitVec.ofNat 32 t = BitVec.ofInt 32 (16 * h + t)
  rw [BitVec.ofInt_add, ← BitVec.add_eq_or_of_and_eq_zero]
  · congr 1
  · apply BitVec.eq_of_getLsbD_eq
    intro i hi
    rw [BitVec.getLsbD_and, BitVec.getLsbD_zero]
    by_cases h4 : i < 4
    · have : (BitVec.ofInt 32 (16 * h)).getLsbD i = false := by
        rw [show BitVec.ofInt 32 (16 * h) = BitVec.ofInt 32 h <<< 4 by
          rw [BitVec.shiftLeft_eq_mul_twoPow, show BitVec.twoPow 32 4 = BitVec.ofInt 32 16 from rfl, ← BitVec.ofInt_mul, Int.mul_comm]]
        rw [BitVec.getLsbD_shiftLeft]
        simp [h4]
      rw [this, Bool.false_and]
    · have : (BitVec.ofNat 32 t).getLsbD i = false := by
        rw [BitVec.getLsbD_ofNat]
        have : t.testBit i = false := Nat.testBit_lt_two_pow (Nat.lt_of_lt_of_le ht (by
          have : 2 ^ 4 ≤ 2 ^ i := Nat.pow_le_pow_right (by decide) (by omega)
          omega))
        rw [this, Bool.and_false]
      rw [this, Bool.and_false]
theorem wd_inj {t u : Nat} {h k : Int} (ht : t < 16) (hu : u < 16) (h1 : -134217728 ≤ h) (h2 : h < 134217728) (k1 : -134217728 ≤ k) (k2 : k < 134217728) : wd t h = wd u k ↔ t = u ∧ h = k := by
  rw [wd, wd, iI_eq (by omega) (by omega) (by omega) (by omega)]
  omega
theorem wd_nil : wd 1 0 = 1 := by decide +kernel
-- state updates
theorem us0 (g : St) (j : Nat) (x : Int32) (i : Nat) : us g j x 0 i = if i = j then x else g 0 i := by
  show cond (Nat.beq i j) x (g 0 i) = _
  cases h : Nat.beq i j with
  | true => rw [if_pos (Nat.eq_of_beq_eq_true h)]; rfl
  | false => rw [if_neg (Nat.ne_of_beq_eq_false h)]; rfl
theorem usB (g : St) (j : Nat) (x : Int32) (b : Nat) : us g j x (b + 1) = g (b + 1) := rfl
theorem upA (g : St) (a k : Nat) (x : Int32) : up g a k x a = upd (g a) k x := by
  show cond (Nat.beq a a) _ _ = _
  rw [Nat.beq_refl]; rfl
theorem upB (g : St) {a b : Nat} (k : Nat) (x : Int32) (h : b ≠ a) : up g a k x b = g b := by
  show cond (Nat.beq b a) _ _ = _
  cases h9 : Nat.beq b a with
  | true => exact absurd (Nat.eq_of_beq_eq_true h9) h
  | false => rfl
theorem updE (f : Nat → Int32) (k : Nat) (x : Int32) : upd f k x k = x := by simp [upd]
theorem updN (f : Nat → Int32) {k i : Nat} (x : Int32) (h : i ≠ k) : upd f k x i = f i := by simp [upd, h]
