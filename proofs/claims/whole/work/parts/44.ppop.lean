/-! Long.bitCount counts the bits -/
def popN (v : Nat) : Nat → Nat
  | 0 => 0
  | n + 1 => popN v n + (if v.testBit n then 1 else 0)
def bD (t : Nat → Nat) : Nat → Nat → Nat
  | 0, _ => 0
  | k + 1, v => 256 * bD t k (v / 256) + t (v % 256)
def bM (m : Nat) : Nat → Nat
  | 0 => 0
  | k + 1 => 256 * bM m k + m
theorem and_byte (s m a v M : Nat) (ha : a < 256) (hm : m < 256) (hs : s ≤ 8) (hms : m < 2 ^ (8 - s)) : (256 * v + a) / 2 ^ s &&& (256 * M + m) = 256 * (v / 2 ^ s &&& M) + (a / 2 ^ s &&& m) := by
  have h1 : a / 2 ^ s &&& m < 2 ^ 8 := Nat.lt_of_le_of_lt Nat.and_le_right hm
  apply Nat.eq_of_testBit_eq
  intro j
  rw [Nat.testBit_and, Nat.testBit_div_two_pow, show 256 = 2 ^ 8 from rfl, Nat.testBit_two_pow_mul_add _ ha, Nat.testBit_two_pow_mul_add _ hm, Nat.testBit_two_pow_mul_add _ h1]
  by_cases hj : j < 8
  · rw [if_pos hj, if_pos hj, Nat.testBit_and, Nat.testBit_div_two_pow]
    by_cases h2 : s + j < 8
    · rw [show j + s = s + j by omega] at *
      rw [if_pos (by omega)]
    · have h3 : m.testBit j = false := Nat.testBit_lt_two_pow (Nat.lt_of_lt_of_le hms (Nat.pow_le_pow_right (by decide) (by omega)))
      rw [h3, Bool.and_false, Bool.and_false]
  · rw [if_neg hj, if_neg hj, if_neg (by omega), Nat.testBit_and, Nat.testBit_div_two_pow]
    congr 2
    omega
theorem bD_lt (t : Nat → Nat) (ht : ∀ a, t a < 256) : ∀ k v, bD t k v < 256 ^ k
  | 0, _ => by simp [bD]
  | k + 1, v => by
    have h := bD_lt t ht k (v / 256)
    have h2 := ht (v % 256)
    rw [bD, Nat.pow_succ]
    omega
theorem bD_div (t : Nat → Nat) (ht : ∀ a, t a < 256) (k v : Nat) : bD t (k + 1) v / 256 = bD t k (v / 256) ∧ bD t (k + 1) v % 256 = t (v % 256) := by
  have h2 := ht (v % 256)
  rw [bD]
  omega
theorem bD_comp (t u : Nat → Nat) (hu : ∀ a, u a < 256) : ∀ k v, bD t k (bD u k v) = bD (fun a => t (u a)) k v
  | 0, _ => rfl
  | k + 1, v => by
    have h := bD_div u hu k v
    rw [bD, h.1, h.2, bD_comp t u hu k, bD]
theorem st1 : ∀ k v, v < 256 ^ k → v - (v / 2 &&& bM 85 k) = bD (fun a => a - (a / 2 &&& 85)) k v
  | 0, v, h => by
    have : v = 0 := by simpa using h
    subst this; rfl
  | k + 1, v, h => by
    have h' : v / 256 < 256 ^ k := by rw [Nat.pow_succ] at h; omega
    have e := and_byte 1 85 (v % 256) (v / 256) (bM 85 k) (Nat.mod_lt _ (by decide)) (by decide) (by decide) (by decide)
    rw [Nat.div_add_mod, Nat.pow_one] at e
    have ih := st1 k (v / 256) h'
    have l1 : v / 256 / 2 &&& bM 85 k ≤ v / 256 / 2 := Nat.and_le_left
    have l2 : v % 256 / 2 &&& 85 ≤ v % 256 / 2 := Nat.and_le_left
    rw [bM, e, bD, ← ih]
    show _ = _ + (v % 256 - (v % 256 / 2 &&& 85))
    omega
theorem st2 : ∀ k v, v < 256 ^ k → (v &&& bM 51 k) + (v / 4 &&& bM 51 k) = bD (fun a => (a &&& 51) + (a / 4 &&& 51)) k v
  | 0, v, h => by
    have : v = 0 := by simpa using h
    subst this; rfl
  | k + 1, v, h => by
    have h' : v / 256 < 256 ^ k := by rw [Nat.pow_succ] at h; omega
    have e := and_byte 2 51 (v % 256) (v / 256) (bM 51 k) (Nat.mod_lt _ (by decide)) (by decide) (by decide) (by decide)
    have e0 := and_byte 0 51 (v % 256) (v / 256) (bM 51 k) (Nat.mod_lt _ (by decide)) (by decide) (by decide) (by decide)
    rw [Nat.div_add_mod] at e e0
    rw [Nat.pow_zero, Nat.div_one, Nat.div_one, Nat.div_one] at e0
    have ih := st2 k (v / 256) h'
    rw [show (2 : Nat) ^ 2 = 4 from rfl] at e
    rw [bM, e, e0, bD, ← ih]
    show _ = _ + ((v % 256 &&& 51) + (v % 256 / 4 &&& 51))
    omega
theorem bD_m16 (t : Nat → Nat) (h : ∀ a, t a % 16 ≤ 4) : ∀ k v, bD t k v % 16 ≤ 4
  | 0, _ => by simp [bD]
  | k + 1, v => by
    have := h (v % 256)
    rw [bD]
    omega
theorem st3 (t : Nat → Nat) (h : ∀ a, t a % 16 ≤ 4) (h2 : ∀ a, t a ≤ 68) : ∀ k v, (bD t k v + bD t k v / 16) &&& bM 15 k = bD (fun a => (t a + t a / 16) % 16) k v
  | 0, _ => rfl
  | k + 1, v => by
    have ih := st3 t h h2 k (v / 256)
    have q := bD_m16 t h k (v / 256)
    have q2 := h2 (v % 256)
    have e : bD t (k + 1) v + bD t (k + 1) v / 16 = 256 * (bD t k (v / 256) + bD t k (v / 256) / 16) + (t (v % 256) + t (v % 256) / 16 + 16 * (bD t k (v / 256) % 16)) := by
      rw [bD]
      omega
    have b := and_byte 0 15 (t (v % 256) + t (v % 256) / 16 + 16 * (bD t k (v / 256) % 16)) (bD t k (v / 256) + bD t k (v / 256) / 16) (bM 15 k) (by omega) (by decide) (by decide) (by decide)
    rw [Nat.pow_zero, Nat.div_one, Nat.div_one, Nat.div_one] at b
    rw [e, bM, b, ih, bD, show (15 : Nat) = 2 ^ 4 - 1 from rfl, Nat.and_two_pow_sub_one_eq_mod]
    omega
