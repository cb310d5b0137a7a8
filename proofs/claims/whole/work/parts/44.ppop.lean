/-! Long.bitCount counts the bits -/
def popN (v : Nat) : Nat → Nat
  | 0 => 0
  | n + 1 => popN v n + (if v.testBit n then 1 else 0)
def bD (t : Nat → Nat) : Nat → Nat → Nat
  | 0, _ => 0
  | k + 1, v => 256 * bD t k (v / 256) + t (v % 256)
def bM (m : Nat) : Nat → Nat
  | 0 => 0
  | k + 1 => 256 * bM m k + m
theorem and_byte (s m a v M : Nat) (ha : a < 256) (hm : m < 256) (hs : s ≤ 8) (hms : m < 2 ^ (8 - s)) : (256 * v + a) / 2 ^ s &&& (256 * M + m) = 256 * (v / 2 ^ s &&& M) + (a / 2 ^ s &&& m) := by
  have h1 : a / 2 ^ s &&& m < 2 ^ 8 := Nat.lt_of_le_of_lt Nat.and_le_right hm
  apply Nat.eq_of_testBit_eq
  intro j
  rw [Nat.testBit_and, Nat.testBit_div_two_pow, show 256 = 2 ^ 8 from rfl, Nat.testBit_two_pow_mul_add _ ha, Nat.testBit_two_pow_mul_add _ hm, Nat.testBit_two_pow_mul_add _ h1]
  by_cases hj : j < 8
  · rw [if_pos hj, if_pos hj, Nat.testBit_and, Nat.testBit_div_two_pow]
    by_cases h2 : s + j < 8
    · rw [show j + s = s + j by omega] at *
      rw [if_pos (by omega)]
    · have h3 : m.testBit j = false := Nat.testBit_lt_two_pow (Nat.lt_of_lt_of_le hms (Nat.pow_le_pow_right (by decide) (by omega)))
      rw [h3, Bool.and_false, Bool.and_false]
  · rw [if_neg hj, if_neg hj, if_neg (by omega), Nat.testBit_and, Nat.testBit_div_two_pow]
    congr 2
    omega
theorem bD_lt (t : Nat → Nat) (ht : ∀ a, t a < 256) : ∀ k v, bD t k v < 256 ^ k
  | 0, _ => by simp [bD]
  | k + 1, v => by
    have h := bD_lt t ht k (v / 256)
    have h2 := ht (v % 256)
    rw [bD, Nat.pow_succ]
    omega
theorem bD_div (t : Nat → Nat) (ht : ∀ a, t a < 256) (k v : Nat) : bD t (k + 1) v / 256 = bD t k (v / 256) ∧ bD t (k + 1) v % 256 = t (v % 256) := by
  have h2 := ht (v % 256)
  rw [bD]
  omega
theorem bD_comp (t u : Nat → Nat) (hu : ∀ a, u a < 256) : ∀ k v, bD t k (bD u k v) = bD (fun a => t (u a)) k v
  | 0, _ => rfl
  | k + 1, v => by
    have h := bD_div u hu k v
    rw [bD, h.1, h.2, bD_comp t u hu k, bD]
theorem st1 : ∀ k v, v < 256 ^ k → v - (v / 2 &&& bM 85 k) = bD (fun a => a - (a / 2 &&& 85)) k v
  | 0, v, h => by
    have : v = 0 := by simpa using h
    subst this; rfl
  | k + 1, v, h => by
    have h' : v / 256 < 256 ^ k := by rw [Nat.pow_succ] at h; omega
    have e := and_byte 1 85 (v % 256) (v / 256) (bM 85 k) (Nat.mod_lt _ (by decide)) (by decide) (by decide) (by decide)
    rw [Nat.div_add_mod, Nat.pow_one] at e
    have ih := st1 k (v / 256) h'
    have l1 : v / 256 / 2 &&& bM 85 k ≤ v / 256 / 2 := Nat.and_le_left
    have l2 : v % 256 / 2 &&& 85 ≤ v % 256 / 2 := Nat.and_le_left
    rw [bM, e, bD, ← ih]
    show _ = _ + (v % 256 - (v % 256 / 2 &&& 85))
    omega
theorem st2 : ∀ k v, v < 256 ^ k → (v &&& bM 51 k) + (v / 4 &&& bM 51 k) = bD (fun a => (a &&& 51) + (a / 4 &&& 51)) k v
  | 0, v, h => by
    have : v = 0 := by simpa using h
    subst this; rfl
  | k + 1, v, h => by
    have h' : v / 256 < 256 ^ k := by rw [Nat.pow_succ] at h; omega
    have e := and_byte 2 51 (v % 256) (v / 256) (bM 51 k) (Nat.mod_lt _ (by decide)) (by decide) (by decide) (by decide)
    have e0 := and_byte 0 51 (v % 256) (v / 256) (bM 51 k) (Nat.mod_lt _ (by decide)) (by decide) (by decide) (by decide)
    rw [Nat.div_add_mod] at e e0
    rw [Nat.pow_zero, Nat.div_one, Nat.div_one, Nat.div_one] at e0
    have ih := st2 k (v / 256) h'
    rw [show (2 : Nat) ^ 2 = 4 from rfl] at e
    rw [bM, e, e0, bD, ← ih]
    show _ = _ + ((v % 256 &&& 51) + (v % 256 / 4 &&& 51))
    omega
theorem bD_m16 (t : Nat → Nat) (h : ∀ a, t a % 16 ≤ 4) : ∀ k v, bD t k v % 16 ≤ 4
  | 0, _ => by simp [bD]
  | k + 1, v => by
    have := h (v % 256)
    rw [bD]
    omega
theorem st3 (t : Nat → Nat) (h : ∀ a, t a % 16 ≤ 4) (h2 : ∀ a, t a ≤ 68) : ∀ k v, (bD t k v + bD t k v / 16) &&& bM 15 k = bD (fun a => (t a + t a / 16) % 16) k v
  | 0, _ => by simp [bD, bM]
  | k + 1, v => by
    have ih := st3 t h h2 k (v / 256)
    have q := bD_m16 t h k (v / 256)
    have q2 := h2 (v % 256)
    have e : bD t (k + 1) v + bD t (k + 1) v / 16 = 256 * (bD t k (v / 256) + bD t k (v / 256) / 16) + (t (v % 256) + t (v % 256) / 16 + 16 * (bD t k (v / 256) % 16)) := by
      rw [bD]
      omega
    have b := and_byte 0 15 (t (v % 256) + t (v % 256) / 16 + 16 * (bD t k (v / 256) % 16)) (bD t k (v / 256) + bD t k (v / 256) / 16) (bM 15 k) (by omega) (by decide) (by decide) (by decide)
    rw [Nat.pow_zero, Nat.div_one, Nat.div_one, Nat.div_one] at b
    rw [e, bM, b, ih, bD, show (15 : Nat) = 2 ^ 4 - 1 from rfl, Nat.and_two_pow_sub_one_eq_mod]
    omega
theorem bD_congr {t u : Nat → Nat} (h : ∀ a, a < 256 → t a = u a) : ∀ k v, bD t k v = bD u k v
  | 0, _ => rfl
  | k + 1, v => by rw [bD, bD, bD_congr h k, h _ (Nat.mod_lt _ (by decide))]
def bS (t : Nat → Nat) : Nat → Nat → Nat
  | 0, _ => 0
  | k + 1, v => t (v % 256) + bS t k (v / 256)
theorem popN_mod (v : Nat) : ∀ n, n ≤ 8 → popN v n = popN (v % 256) n
  | 0, _ => rfl
  | n + 1, h => by
    rw [popN, popN, popN_mod v n (by omega), show v % 256 = v % 2 ^ 8 from rfl, Nat.testBit_mod_two_pow, decide_eq_true (show n < 8 by omega), Bool.true_and]
theorem popN_byte (v : Nat) : ∀ m, popN v (8 + m) = popN (v % 256) 8 + popN (v / 256) m
  | 0 => popN_mod v 8 (Nat.le_refl 8)
  | m + 1 => by
    have e : (v / 256).testBit m = v.testBit (8 + m) := by rw [show v / 256 = v / 2 ^ 8 from rfl, Nat.testBit_div_two_pow, Nat.add_comm]
    have ih := popN_byte v m
    show popN v (8 + m) + (if v.testBit (8 + m) then 1 else 0) = popN (v % 256) 8 + (popN (v / 256) m + (if (v / 256).testBit m then 1 else 0))
    rw [ih, e, Nat.add_assoc]
theorem popN_bS : ∀ k v, popN v (8 * k) = bS (fun a => popN a 8) k v
  | 0, _ => rfl
  | k + 1, v => by rw [show 8 * (k + 1) = 8 + 8 * k by omega, popN_byte, popN_bS k, bS]
theorem p8_le : ∀ a, a < 256 → popN a 8 ≤ 8 := by decide +kernel
theorem dv1 {a b s : Nat} (h : s < 256) (e : a = 256 * b + s) : a / 256 = b := by omega
theorem dv2 {a b c s t : Nat} (hs : s < 256) (ht : t < 256) (e1 : a = 256 * b + s) (e2 : b = 256 * c + t) : a / 65536 = c := by omega
theorem dv4 {a b c d x s t u v : Nat} (hs : s < 256) (ht : t < 256) (hu : u < 256) (hv : v < 256) (e1 : a = 256 * b + s) (e2 : b = 256 * c + t) (e3 : c = 256 * d + u) (e4 : d = 256 * x + v) : a / 4294967296 = x := by
  rw [show 4294967296 = 65536 * 65536 from rfl, ← Nat.div_div_eq_div_mul, dv2 hs ht e1 e2, dv2 hu hv e3 e4]
theorem zz2 {a b c d s t : Nat} (e1 : a = 256 * b + s) (e2 : c = 256 * d + t) : a + c = 256 * (b + d) + (s + t) := by omega
theorem md1 {a b r : Nat} (h : r < 128) (e : a = 256 * b + r) : a % 128 = r := by omega
theorem swar_tail {w0 w1 w2 w3 w4 w5 w6 w7 t0 t1 t2 t3 t4 t5 t6 t7 : Nat} (e0 : w0 = 256 * w1 + t0) (e1 : w1 = 256 * w2 + t1) (e2 : w2 = 256 * w3 + t2) (e3 : w3 = 256 * w4 + t3) (e4 : w4 = 256 * w5 + t4) (e5 : w5 = 256 * w6 + t5) (e6 : w6 = 256 * w7 + t6) (e7 : w7 = 256 * 0 + t7)
    (h0 : t0 ≤ 8) (h1 : t1 ≤ 8) (h2 : t2 ≤ 8) (h3 : t3 ≤ 8) (h4 : t4 ≤ 8) (h5 : t5 ≤ 8) (h6 : t6 ≤ 8) (h7 : t7 ≤ 8) :
    ((w0 + w0 / 256) + (w0 + w0 / 256) / 65536 + ((w0 + w0 / 256) + (w0 + w0 / 256) / 65536) / 4294967296) % 128 = t0 + t1 + (t2 + t3) + (t4 + t5 + (t6 + t7)) := by
  have z0 := zz2 e0 e1
  have z1 := zz2 e1 e2
  have z2 := zz2 e2 e3
  have z3 := zz2 e3 e4
  have z4 := zz2 e4 e5
  have z5 := zz2 e5 e6
  have z6 := zz2 e6 e7
  have z7 : w7 + 0 = 256 * (0 + 0) + (t7 + 0) := zz2 e7 (show 0 = 256 * 0 + 0 from rfl)
  have u0 := zz2 z0 z2
  have u1 := zz2 z1 z3
  have u2 := zz2 z2 z4
  have u3 := zz2 z3 z5
  have u4 := zz2 z4 z6
  have d1 : w0 / 256 = w1 := dv1 (Nat.lt_of_le_of_lt h0 (by decide)) e0
  rw [d1]
  have b : ∀ {x y : Nat}, x ≤ 8 → y ≤ 8 → x + y < 256 := fun h k => Nat.lt_of_le_of_lt (Nat.add_le_add h k) (by decide)
  have b4 : ∀ {x y z w : Nat}, x ≤ 8 → y ≤ 8 → z ≤ 8 → w ≤ 8 → x + y + (z + w) < 256 := fun h k m n => Nat.lt_of_le_of_lt (Nat.add_le_add (Nat.add_le_add h k) (Nat.add_le_add m n)) (by decide)
  have d2 : (w0 + w1) / 65536 = w2 + w3 := dv2 (b h0 h1) (b h1 h2) z0 z1
  rw [d2]
  have d3 : (w0 + w1 + (w2 + w3)) / 4294967296 = w4 + w5 + (w6 + w7) := dv4 (b4 h0 h1 h2 h3) (b4 h1 h2 h3 h4) (b4 h2 h3 h4 h5) (b4 h3 h4 h5 h6) u0 u1 u2 u3
  rw [d3]
  exact md1 (Nat.lt_of_le_of_lt (Nat.add_le_add (Nat.add_le_add (Nat.add_le_add h0 h1) (Nat.add_le_add h2 h3)) (Nat.add_le_add (Nat.add_le_add h4 h5) (Nat.add_le_add h6 h7))) (by decide)) (zz2 u0 u4)
theorem bD8_lt (t : Nat → Nat) (h : ∀ a, a < 256 → t a ≤ 8) : ∀ k v, bD t k v ≤ 8 * (bM 1 k)
  | 0, _ => Nat.le_refl 0
  | k + 1, v => by
    have h1 := bD8_lt t h k (v / 256)
    have h2 := h (v % 256) (Nat.mod_lt _ (by decide))
    rw [bD, bM]
    omega
theorem swar_last (v : Nat) : ((bD (fun a => popN a 8) 8 v + bD (fun a => popN a 8) 8 v / 256) + (bD (fun a => popN a 8) 8 v + bD (fun a => popN a 8) 8 v / 256) / 65536 + ((bD (fun a => popN a 8) 8 v + bD (fun a => popN a 8) 8 v / 256) + (bD (fun a => popN a 8) 8 v + bD (fun a => popN a 8) 8 v / 256) / 65536) / 4294967296) % 128 = bS (fun a => popN a 8) 8 v ∧ bD (fun a => popN a 8) 8 v < 1157442765409226769 := by
  have h : ∀ x, popN (x % 256) 8 ≤ 8 := fun x => p8_le _ (Nat.mod_lt _ (by decide))
  refine ⟨?_, Nat.lt_of_le_of_lt (bD8_lt _ p8_le 8 v) (by decide +kernel)⟩
  rw [swar_tail (w0 := bD (fun a => popN a 8) 8 v) rfl rfl rfl rfl rfl rfl rfl rfl (h _) (h _) (h _) (h _) (h _) (h _) (h _) (h _)]
  simp only [bS]
  ac_rfl
def tA (a : Nat) : Nat := a % 256 - (a % 256 / 2 &&& 85)
def tB (a : Nat) : Nat := (a % 256 &&& 51) + (a % 256 / 4 &&& 51)
theorem tA_lt (a : Nat) : tA a < 256 := by unfold tA; have := Nat.mod_lt a (show 256 > 0 by decide); omega
theorem tBA : ∀ a, a < 256 → tB (tA a) % 16 ≤ 4 ∧ tB (tA a) ≤ 68 ∧ (tB (tA a) + tB (tA a) / 16) % 16 = popN a 8 := by decide +kernel
theorem tA_m (a : Nat) : tA a = tA (a % 256) := by unfold tA; rw [Nat.mod_mod]
theorem swar (v : Nat) (hv : v < 2 ^ 64) : (let y1 := v - (v / 2 &&& bM 85 8); let y2 := (y1 &&& bM 51 8) + (y1 / 4 &&& bM 51 8); (y2 + y2 / 16) &&& bM 15 8) = bD (fun a => popN a 8) 8 v := by
  have hv' : v < 256 ^ 8 := hv
  show ((v - (v / 2 &&& bM 85 8) &&& bM 51 8) + ((v - (v / 2 &&& bM 85 8)) / 4 &&& bM 51 8) + ((v - (v / 2 &&& bM 85 8) &&& bM 51 8) + ((v - (v / 2 &&& bM 85 8)) / 4 &&& bM 51 8)) / 16) &&& bM 15 8 = _
  have e1 : v - (v / 2 &&& bM 85 8) = bD tA 8 v := by
    rw [st1 8 v hv']
    exact bD_congr (fun a ha => by unfold tA; rw [Nat.mod_eq_of_lt ha]) 8 v
  have l1 := bD_lt tA tA_lt 8 v
  have e2 : (bD tA 8 v &&& bM 51 8) + (bD tA 8 v / 4 &&& bM 51 8) = bD (fun a => tB (tA a)) 8 v := by
    rw [st2 8 _ l1, ← bD_comp tB tA tA_lt]
    exact bD_congr (fun a ha => by unfold tB; rw [Nat.mod_eq_of_lt ha]) 8 _
  rw [e1, e2, st3 (fun a => tB (tA a)) (fun a => by rw [tA_m]; exact (tBA _ (Nat.mod_lt _ (by decide))).1) (fun a => by rw [tA_m]; exact (tBA _ (Nat.mod_lt _ (by decide))).2.1)]
  exact bD_congr (fun a ha => (tBA a ha).2.2) 8 v
theorem bc_lN (v : Nat) (hv : v < 2 ^ 64) : f_J13_bitCount_95d88 (lN v) = nI (popN v 64) := by
  have s := swar v hv
  obtain ⟨q1, q2⟩ := swar_last v
  rw [← popN_bS 8 v] at q1
  have hm1 : (6148914691236517205 : Int64) = lN (bM 85 8) := by decide +kernel
  have hm2 : (3689348814741910323 : Int64) = lN (bM 51 8) := by decide +kernel
  have hm3 : (1085102592571150095 : Int64) = lN (bM 15 8) := by decide +kernel
  have b1 : bM 85 8 < 2 ^ 64 := by decide +kernel
  have b2 : bM 51 8 < 2 ^ 62 := by decide +kernel
  have b3 : bM 15 8 < 2 ^ 64 := by decide +kernel
  unfold f_J13_bitCount_95d88
  unfold lt_
  dsimp only
  have r1 : jushrL (lN v) (1 : Int32) = lN (v / 2) := wb_shr (k := 1) hv (by decide)
  have l1 : v / 2 &&& bM 85 8 ≤ v / 2 := Nat.and_le_left
  have e1 : lN v - (jushrL (lN v) (1 : Int32) &&& (6148914691236517205 : Int64)) = lN (v - (v / 2 &&& bM 85 8)) := by
    rw [r1, hm1, wb_and (by omega) b1, lN_sub (by omega)]
  rw [e1]
  generalize hy1 : v - (v / 2 &&& bM 85 8) = y1 at *
  have hy : y1 < 2 ^ 64 := by omega
  have r2 : jushrL (lN y1) (2 : Int32) = lN (y1 / 4) := wb_shr (k := 2) hy (by decide)
  have l2 : y1 &&& bM 51 8 ≤ bM 51 8 := Nat.and_le_right
  have l3 : y1 / 4 &&& bM 51 8 ≤ bM 51 8 := Nat.and_le_right
  have e2 : (lN y1 &&& (3689348814741910323 : Int64)) + (jushrL (lN y1) (2 : Int32) &&& (3689348814741910323 : Int64)) = lN ((y1 &&& bM 51 8) + (y1 / 4 &&& bM 51 8)) := by
    rw [r2, hm2, wb_and hy (by omega), wb_and (by omega) (by omega), lN_add]
  rw [e2]
  have s : ((y1 &&& bM 51 8) + (y1 / 4 &&& bM 51 8) + ((y1 &&& bM 51 8) + (y1 / 4 &&& bM 51 8)) / 16) &&& bM 15 8 = bD (fun a => popN a 8) 8 v := s
  generalize hy2 : (y1 &&& bM 51 8) + (y1 / 4 &&& bM 51 8) = y2 at *
  have hz : y2 < 2 ^ 63 := by omega
  have r3 : jushrL (lN y2) (4 : Int32) = lN (y2 / 16) := wb_shr (k := 4) (by omega) (by decide)
  have e3 : (lN y2 + jushrL (lN y2) (4 : Int32)) &&& (1085102592571150095 : Int64) = lN (bD (fun a => popN a 8) 8 v) := by
    rw [r3, lN_add, hm3, wb_and (by omega) b3, s]
  rw [e3]
  generalize bD (fun a => popN a 8) 8 v = y3 at *
  have r4 : jushrL (lN y3) (8 : Int32) = lN (y3 / 256) := wb_shr (k := 8) (by omega) (by decide)
  rw [r4, lN_add]
  have r5 : jushrL (lN (y3 + y3 / 256)) (16 : Int32) = lN ((y3 + y3 / 256) / 65536) := wb_shr (k := 16) (by omega) (by decide)
  rw [r5, lN_add]
  have r6 : jushrL (lN (y3 + y3 / 256 + (y3 + y3 / 256) / 65536)) (32 : Int32) = lN ((y3 + y3 / 256 + (y3 + y3 / 256) / 65536) / 4294967296) := wb_shr (k := 32) (by omega) (by decide)
  rw [r6, lN_add, lN_i, show (127 : Int32) = nI (2 ^ 7 - 1) from by decide, nI_and, Nat.and_two_pow_sub_one_eq_mod]
  exact congrArg nI q1
/-- how many of the first n bits are set -/
def popB (x : Int64) : Nat → Nat
  | 0 => 0
  | n + 1 => popB x n + (if lb x n then 1 else 0)
theorem popB_N (v : Nat) (hv : v < 2 ^ 64) : ∀ n, n ≤ 64 → popB (lN v) n = popN v n
  | 0, _ => rfl
  | n + 1, h => by
    have e : lb (lN v) n = v.testBit n := by
      unfold lb
      rw [wb_tb, BitVec.getLsbD_ofNat, decide_eq_true (show n < 64 by omega), Bool.true_and]
    rw [popB, popN, popB_N v hv n (by omega), e]
theorem bc_pop (x : Int64) : f_J13_bitCount_95d88 x = nI (popB x 64) := by
  obtain ⟨v, hv, rfl⟩ := wb_of x
  rw [bc_lN v hv, popB_N v hv 64 (Nat.le_refl 64)]
theorem popB_le (x : Int64) : ∀ n, popB x n ≤ n
  | 0 => Nat.le_refl 0
  | n + 1 => by
    have := popB_le x n
    rw [popB]
    split <;> omega
