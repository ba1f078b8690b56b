-- ===== the count of bits, gone through =====
def pop16 (a : Nat) : Nat := a % 2 + (a / 2 % 2 + (a / 4 % 2 + (a / 8 % 2 + (a / 16 % 2 + (a / 32 % 2 + (a / 64 % 2 + (a / 128 % 2 + (a / 256 % 2 + (a / 512 % 2 + (a / 1024 % 2 + (a / 2048 % 2 + (a / 4096 % 2 + (a / 8192 % 2 + (a / 16384 % 2 + a / 32768 % 2))))))))))))))
def chkB : Nat → Nat → Bool
  | 0, a => Nat.beq (bcN a) (pop16 a)
  | k + 1, a => chkB k a && chkB k (a + 2 ^ k)
theorem chkB_spec (k : Nat) : ∀ a, chkB k a = true → ∀ b, b < 2 ^ k → bcN (a + b) = pop16 (a + b) := by
  induction k with
  | zero =>
    intro a h b hb
    obtain rfl : b = 0 := by omega
    exact Nat.eq_of_beq_eq_true h
  | succ k ih =>
    intro a h b hb
    simp only [chkB, Bool.and_eq_true] at h
    by_cases hk : b < 2 ^ k
    · exact ih a h.1 b hk
    · have := ih (a + 2 ^ k) h.2 (b - 2 ^ k) (by rw [Nat.pow_succ] at hb; omega)
      rw [show a + 2 ^ k + (b - 2 ^ k) = a + b from by omega] at this
      exact this
theorem chk_all : chkB 16 0 = true := by decide +kernel
theorem pop16_N (a : Nat) : pop16 a = popN 16 a := by
  simp only [popN, pop16, Nat.div_div_eq_div_mul, Nat.add_zero]
theorem k_bitCount {a : Nat} (ha : a < 2 ^ 16) (h : AH) : f_J6_bitCount_0f7a4 (nI a) h = some (nI (popN 16 a)) := by
  have := chkB_spec 16 0 chk_all a ha
  rw [Nat.zero_add] at this
  rw [bitCount_N ha, this, pop16_N]
