-- ===== literals as numbers, for simp =====
theorem lit_add (a b : Nat) : (no_index (OfNat.ofNat a) : Int32) + nI b = nI (OfNat.ofNat a + b) := nI_add a b
theorem lit_addr (a b : Nat) : nI b + (no_index (OfNat.ofNat a) : Int32) = nI (b + OfNat.ofNat a) := nI_add b a
theorem lit_mul (a b : Nat) : (no_index (OfNat.ofNat a) : Int32) * nI b = nI (OfNat.ofNat a * b) := pk_mul a b
theorem lit_aI (h : AH) (r : Option Nat) (k : Nat) : aI h r (no_index (OfNat.ofNat k)) = aI h r (nI (OfNat.ofNat k)) := rfl
theorem lit_aZ (h : AH) (r : Option Nat) (k : Nat) : aZ h r (no_index (OfNat.ofNat k)) = aZ h r (nI (OfNat.ofNat k)) := rfl
theorem lit_aR (h : AH) (r : Option Nat) (k : Nat) : aR h r (no_index (OfNat.ofNat k)) = aR h r (nI (OfNat.ofNat k)) := rfl
theorem lit_sI (h : AH) (r : Option Nat) (k : Nat) (x : Int32) : sI h r (no_index (OfNat.ofNat k)) x = sI h r (nI (OfNat.ofNat k)) x := rfl
theorem lit_sZ (h : AH) (r : Option Nat) (k : Nat) (x : Int32) : sZ h r (no_index (OfNat.ofNat k)) x = sZ h r (nI (OfNat.ofNat k)) x := rfl
theorem lit_eq {a b : Nat} (ha : a < 2 ^ 31) (hb : OfNat.ofNat b < 2 ^ 31) : (nI a = (no_index (OfNat.ofNat b) : Int32)) = (a = OfNat.ofNat b) := propext (nI_eq ha hb)
theorem lit_lt {a b : Nat} (ha : a < 2 ^ 31) (hb : OfNat.ofNat b < 2 ^ 31) : (nI a < (no_index (OfNat.ofNat b) : Int32)) = (a < OfNat.ofNat b) := propext (nI_ltI ha hb)
theorem lit_gt {a b : Nat} (ha : a < 2 ^ 31) (hb : OfNat.ofNat b < 2 ^ 31) : ((no_index (OfNat.ofNat b) : Int32) < nI a) = (OfNat.ofNat b < a) := propext (nI_ltI hb ha)
theorem nn_lt {a b : Nat} (ha : a < 2 ^ 31) (hb : b < 2 ^ 31) : (nI a < nI b) = (a < b) := propext (nI_ltI ha hb)
theorem nn_eq {a b : Nat} (ha : a < 2 ^ 31) (hb : b < 2 ^ 31) : (nI a = nI b) = (a = b) := propext (nI_eq ha hb)
theorem nn_sub {a b : Nat} (h : OfNat.ofNat b ≤ a) : nI a - (no_index (OfNat.ofNat b) : Int32) = nI (a - OfNat.ofNat b) := pk_sub h
