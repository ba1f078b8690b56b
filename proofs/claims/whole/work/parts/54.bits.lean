-- ===== bits =====
theorem nI_bv (a : Nat) : (nI a).toBitVec = BitVec.ofNat 32 a := rfl
theorem orN (a b : Nat) : nI a ||| nI b = nI (a ||| b) := by
  apply Int32.toBitVec_inj.mp
  show (nI a).toBitVec ||| (nI b).toBitVec = BitVec.ofNat 32 (a ||| b)
  rw [nI_bv, nI_bv, BitVec.ofNat_or]
theorem andN (a b : Nat) : nI a &&& nI b = nI (a &&& b) := by
  apply Int32.toBitVec_inj.mp
  show (nI a).toBitVec &&& (nI b).toBitVec = BitVec.ofNat 32 (a &&& b)
  rw [nI_bv, nI_bv, BitVec.ofNat_and]
theorem sh31 {k : Nat} (h : k < 32) : nI k &&& 31 = nI k := by
  rw [pk_andN (n := k) (by omega) 5 (by decide)]
  rw [Nat.mod_eq_of_lt (by omega)]
theorem smod32 {k : Nat} (h : k < 32) : ((nI k).toBitVec.smod 32).toNat = k := by
  have : ∀ k, k < 32 → ((nI k).toBitVec.smod 32).toNat = k := by decide +kernel
  exact this k h
theorem shl1 {k : Nat} (h : k < 31) : (1 : Int32) <<< (nI k &&& 31) = nI (2 ^ k) := by
  rw [sh31 (by omega)]
  have h2 : (1 * 2 ^ k) < 2 ^ 32 := by
    rw [Nat.one_mul]
    exact Nat.pow_lt_pow_right (by omega) (by omega)
  have := pk_shlN (n := 1) (nI k) k (smod32 (by omega)) h2
  rw [Nat.one_mul] at this
  exact this
theorem shrN {a k : Nat} (ha : a < 2 ^ 31) (h : k < 32) : nI a >>> (nI k &&& 31) = nI (a >>> k) := by
  rw [sh31 h]
  have h1 := pk_shr (nI a) (nI k) k (smod32 h)
  have hle : a >>> k ≤ a := by rw [Nat.shiftRight_eq_div_pow]; exact Nat.div_le_self _ _
  rw [i32_eq, h1, nI_toInt ha, nI_toInt (by omega)]
  rfl
theorem tstN {a k : Nat} (ha : a < 2 ^ 31) (h : k < 32) : (nI a >>> (nI k &&& 31)) &&& 1 = bI (a.testBit k) := by
  rw [shrN ha h, show (1 : Int32) = nI 1 from rfl, andN]
  rw [Nat.and_comm]
  have : 1 &&& a >>> k = 0 ∨ 1 &&& a >>> k = 1 := by
    rw [Nat.one_and_eq_mod_two]; omega
  rcases this with h | h
  · have ht : a.testBit k = false := by
      show (1 &&& a >>> k != 0) = false
      rw [h]; rfl
    rw [ht, h]; rfl
  · have ht : a.testBit k = true := by
      show (1 &&& a >>> k != 0) = true
      rw [h]; rfl
    rw [ht, h]; rfl
theorem biN_lt (p : Nat → Bool) (k : Nat) : biN p k < 2 ^ k := by
  induction k with
  | zero => simp [biN]
  | succ k ih =>
    rw [biN, Nat.pow_succ]
    split <;> omega
theorem or_pow {a k : Nat} (h : a < 2 ^ k) : a ||| 2 ^ k = a + 2 ^ k := by
  have := Nat.two_pow_add_eq_or_of_lt h 1
  rw [Nat.mul_one] at this
  rw [Nat.or_comm, ← this, Nat.add_comm]
theorem biN_test (p : Nat → Bool) (k i : Nat) : (biN p k).testBit i = (decide (i < k) && p i) := by
  induction k with
  | zero => simp [biN]
  | succ k ih =>
    rw [biN]
    by_cases hp : p k = true
    · rw [if_pos hp, ← or_pow (biN_lt p k), Nat.testBit_or, ih, Nat.testBit_two_pow]
      by_cases h1 : i = k
      · subst h1; simp [hp]
      · by_cases h2 : i < k
        · simp [h2, show i < k + 1 from by omega, show ¬ k = i from by omega]
        · simp [h2, show ¬ i < k + 1 from by omega, show ¬ k = i from by omega]
    · rw [if_neg hp, Nat.add_zero, ih]
      by_cases h1 : i = k
      · subst h1; simp [hp]
      · by_cases h2 : i < k
        · simp [h2, show i < k + 1 from by omega]
        · simp [h2, show ¬ i < k + 1 from by omega]
theorem biN_zero (p : Nat → Bool) (k : Nat) : biN p k = 0 ↔ ∀ i, i < k → p i = false := by
  induction k with
  | zero => simp [biN]
  | succ k ih =>
    rw [biN]
    have := Nat.two_pow_pos k
    constructor
    · intro h i hi
      by_cases hp : p k = true
      · rw [if_pos hp] at h; omega
      · by_cases h1 : i = k
        · subst h1; simpa using hp
        · rw [if_neg hp] at h
          exact ih.mp (by omega) i (by omega)
    · intro h
      rw [h k (by omega), ih.mpr (fun i hi => h i (by omega))]
      rfl
/-- how many bits of the lowest k -/
def popN : Nat → Nat → Nat
  | 0, _ => 0
  | k + 1, a => a % 2 + popN k (a / 2)
theorem popN_le (k a : Nat) : popN k a ≤ k := by
  induction k generalizing a with
  | zero => simp [popN]
  | succ k ih => rw [popN]; have := ih (a / 2); omega
theorem r_bits {a : Nat} (ha : a < 2 ^ 16) (h : AH) : f_X12_bits (nI a) h = some (nI (popN 16 a)) := by
  have hl : ∀ k j fu s, j + k = 16 → k < fu → s ≤ j → b_X12_bits_4 h fu (nI a) (nI s) (nI j) = some (nI (s + popN k (a >>> j))) := by
    intro k
    induction k with
    | zero =>
      intro j fu s hj hf hs
      obtain ⟨fu, rfl⟩ : ∃ q, fu = q + 1 := ⟨fu - 1, by omega⟩
      simp (disch := omega) only [b_X12_bits_4, lit_lt, natF, if_false, popN, Nat.add_zero]
    | succ k ih =>
      intro j fu s hj hf hs
      obtain ⟨fu, rfl⟩ : ∃ q, fu = q + 1 := ⟨fu - 1, by omega⟩
      have hb : (nI a >>> (nI j &&& 31)) &&& 1 = nI ((a >>> j) % 2) := by
        rw [shrN (by omega) (by omega), show (1 : Int32) = nI 1 from rfl, andN, Nat.and_one_is_mod]
      have := ih (j + 1) fu (s + (a >>> j) % 2) (by omega) (by omega) (by omega)
      simp (disch := omega) only [b_X12_bits_4, lit_lt, natT, if_true, hb, nI_add, nI_1, this]
      rw [popN, Nat.shiftRight_succ, Nat.add_assoc]
  have := hl 16 0 FU 0 (by omega) (by decide) (by omega)
  rw [Nat.zero_add, Nat.shiftRight_zero] at this
  exact this
theorem ushN {a s : Nat} (ha : a < 2 ^ 32) (hs : s < 32) : ((nI a).toUInt32 >>> ((nI s).toUInt32 &&& Int32.toUInt32 31)).toInt32 = nI (a >>> s) := by
  apply Int32.toBitVec_inj.mp
  show ((nI a).toUInt32 >>> ((nI s).toUInt32 &&& Int32.toUInt32 31)).toBitVec = BitVec.ofNat 32 (a >>> s)
  rw [UInt32.toBitVec_shiftRight]
  apply BitVec.eq_of_toNat_eq
  have h1 : ((nI s).toUInt32 &&& Int32.toUInt32 31).toBitVec % 32 = BitVec.ofNat 32 s := by
    have : ∀ s, s < 32 → ((nI s).toUInt32 &&& Int32.toUInt32 31).toBitVec % 32 = BitVec.ofNat 32 s := by decide +kernel
    exact this s hs
  rw [h1]
  simp only [BitVec.ushiftRight_eq', BitVec.toNat_ushiftRight, BitVec.toNat_ofNat]
  have hle : a >>> s ≤ a := by rw [Nat.shiftRight_eq_div_pow]; exact Nat.div_le_self _ _
  rw [Nat.mod_eq_of_lt (by omega), Nat.mod_eq_of_lt (a := a >>> s) (by omega)]
  show (nI a).toBitVec.toNat >>> s = a >>> s
  rw [pk_tn ha]
def bc1 (a : Nat) : Nat := a - ((a >>> 1) &&& 1431655765)
def bc2 (i : Nat) : Nat := (i &&& 858993459) + ((i >>> 2) &&& 858993459)
def bc3 (i : Nat) : Nat := (i + (i >>> 4)) &&& 252645135
def bc4 (i : Nat) : Nat := i + (i >>> 8)
def bc5 (i : Nat) : Nat := i + (i >>> 16)
def bcN (a : Nat) : Nat := bc5 (bc4 (bc3 (bc2 (bc1 a)))) &&& 63
theorem shr_le (a s : Nat) : a >>> s ≤ a := by rw [Nat.shiftRight_eq_div_pow]; exact Nat.div_le_self _ _
theorem bitCount_N {a : Nat} (ha : a < 2 ^ 16) (h : AH) : f_J6_bitCount_0f7a4 (nI a) h = some (nI (bcN a)) := by
  have l1 : bc1 a ≤ a := Nat.sub_le _ _
  have l2 : bc2 (bc1 a) ≤ bc1 a + bc1 a := by
    have h1 := Nat.and_le_left (n := bc1 a) (m := 858993459)
    have h2 := Nat.and_le_left (n := bc1 a >>> 2) (m := 858993459)
    have h3 := shr_le (bc1 a) 2
    unfold bc2; omega
  have l3 : bc3 (bc2 (bc1 a)) ≤ bc2 (bc1 a) + bc2 (bc1 a) := by
    have h1 := Nat.and_le_left (n := bc2 (bc1 a) + bc2 (bc1 a) >>> 4) (m := 252645135)
    have h3 := shr_le (bc2 (bc1 a)) 4
    unfold bc3; omega
  have l4 : bc4 (bc3 (bc2 (bc1 a))) ≤ bc3 (bc2 (bc1 a)) + bc3 (bc2 (bc1 a)) := by
    have h3 := shr_le (bc3 (bc2 (bc1 a))) 8
    unfold bc4; omega
  have e1 : nI a - ((((nI a).toUInt32 >>> ((1 : Int32).toUInt32 &&& Int32.toUInt32 31)).toInt32) &&& 1431655765) = nI (bc1 a) := by
    rw [show (1 : Int32) = nI 1 from rfl, ushN (by omega) (by omega), show (1431655765 : Int32) = nI 1431655765 from rfl, andN]
    have h1 := Nat.and_le_left (n := a >>> 1) (m := 1431655765)
    have h2 := shr_le a 1
    exact pk_sub (by omega)
  have e2 : (nI (bc1 a) &&& 858993459) + ((((nI (bc1 a)).toUInt32 >>> ((2 : Int32).toUInt32 &&& Int32.toUInt32 31)).toInt32) &&& 858993459) = nI (bc2 (bc1 a)) := by
    rw [show (2 : Int32) = nI 2 from rfl, ushN (by omega) (by omega), show (858993459 : Int32) = nI 858993459 from rfl, andN, andN, nI_add]
    rfl
  have e3 : (nI (bc2 (bc1 a)) + (((nI (bc2 (bc1 a))).toUInt32 >>> ((4 : Int32).toUInt32 &&& Int32.toUInt32 31)).toInt32)) &&& 252645135 = nI (bc3 (bc2 (bc1 a))) := by
    rw [show (4 : Int32) = nI 4 from rfl, ushN (by omega) (by omega), show (252645135 : Int32) = nI 252645135 from rfl, nI_add, andN]
    rfl
  have e4 : nI (bc3 (bc2 (bc1 a))) + (((nI (bc3 (bc2 (bc1 a)))).toUInt32 >>> ((8 : Int32).toUInt32 &&& Int32.toUInt32 31)).toInt32) = nI (bc4 (bc3 (bc2 (bc1 a)))) := by
    rw [show (8 : Int32) = nI 8 from rfl, ushN (by omega) (by omega), nI_add]
    rfl
  have e5 : nI (bc4 (bc3 (bc2 (bc1 a)))) + (((nI (bc4 (bc3 (bc2 (bc1 a))))).toUInt32 >>> ((16 : Int32).toUInt32 &&& Int32.toUInt32 31)).toInt32) = nI (bc5 (bc4 (bc3 (bc2 (bc1 a))))) := by
    rw [show (16 : Int32) = nI 16 from rfl, ushN (by omega) (by omega), nI_add]
    rfl
  unfold f_J6_bitCount_0f7a4
  rw [e1, e2, e3, e4, e5, show (63 : Int32) = nI 63 from rfl, andN]
  rfl
