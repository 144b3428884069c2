/-! Every order by its number. -/
def fac : Nat → Nat
  | 0 => 1
  | n + 1 => (n + 1) * fac n
def stO (n p : Nat) : Nat → Nat × Nat × Nat
  | 0 => (fac n, 2 ^ n - 1, p)
  | i + 1 => match stO n p i with
    | (f, k, r) => (f / (n - i), ad k (2 ^ kth k.testBit (r / (f / (n - i))) 5), r - r / (f / (n - i)) * (f / (n - i)))
def pk (n p i : Nat) : Nat := match stO n p i with
  | (f, k, r) => kth k.testBit (r / (f / (n - i))) 5
def oB (n p i : Nat) : Bool := match stO n p i with
  | (f, k, r) => zN (Int32.ofNat n - Int32.ofNat i) && zN (Int32.ofNat f / (Int32.ofNat n - Int32.ofNat i)) && decide (Int32.ofNat f / (Int32.ofNat n - Int32.ofNat i) = Int32.ofNat (f / (n - i))) && decide (Int32.ofNat r / Int32.ofNat (f / (n - i)) = Int32.ofNat (r / (f / (n - i)))) && decide (whileN zFU (fM_layOrder_l70 (Int32.ofNat k)) (Int32.ofNat (r / (f / (n - i))), 0) = some (Int32.ofNat (kth k.testBit (r / (f / (n - i))) 5))) && decide (kth k.testBit (r / (f / (n - i))) 5 < n) && k.testBit (kth k.testBit (r / (f / (n - i))) 5) && decide (Int32.ofNat r - Int32.ofNat (r / (f / (n - i))) * Int32.ofNat (f / (n - i)) = Int32.ofNat (r - r / (f / (n - i)) * (f / (n - i))))
theorem oB_ok : ∀ n, n < 6 → ∀ p, p < 120 → ∀ i, i < 5 → (!(decide (p < fac n) && decide (i < n)) || oB n p i) = true := by decide +kernel
theorem oZ_ok : ∀ n, n < 6 → ∀ p, p < 120 → (!decide (p < fac n) || decide ((stO n p n).2.1 = 0)) = true := by decide +kernel
theorem fac_ok : ∀ n, n < 6 → whileN zFU (fM_layOrder_l5 (Int32.ofNat n)) (1, 2) = some (Int32.ofNat (fac n)) ∧ fac n ≤ 120 := by decide +kernel
def og (a b c d e j : Nat) : Nat := if j = 0 then a else if j = 1 then b else if j = 2 then c else if j = 3 then d else e
def ch (o : Nat → Nat) : Nat → Nat → Bool
  | 0, _ => true
  | j + 1, S => S.testBit (o j) && ch o j (ad S (2 ^ o j))
def rk (o : Nat → Nat) (n : Nat) : Nat → Nat → Nat
  | 0, _ => 0
  | k + 1, S => fb_ct S.testBit (o (n - 1 - k)) * fac k + rk o n k (ad S (2 ^ o (n - 1 - k)))
def zro (o : Nat → Nat) (n : Nat) : Nat → Bool
  | 0 => true
  | k + 1 => (decide (k < n) || decide (o k = 0)) && zro o n k
def pkB (o : Nat → Nat) (n p : Nat) : Nat → Bool
  | 0 => true
  | k + 1 => decide (pk n p k = o k) && pkB o n p k
def fB (n a b c d e : Nat) : Bool := !(zro (og a b c d e) n 5 && ch (og a b c d e) n (2 ^ n - 1)) || (decide (rk (og a b c d e) n n (2 ^ n - 1) < fac n) && pkB (og a b c d e) n (rk (og a b c d e) n n (2 ^ n - 1)) n)
theorem fB_ok : ∀ n, n < 6 → ∀ a, a < 5 → ∀ b, b < 5 → ∀ c, c < 5 → ∀ d, d < 5 → ∀ e, e < 5 → fB n a b c d e = true := by decide +kernel
