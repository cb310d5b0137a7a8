/-! the least cell of a set -/
theorem pop_low : ∀ k, k < 64 → popN (2 ^ k - 1) 64 = k := by decide +kernel
theorem neg_lN {v : Nat} (hv : v < 2 ^ 64) : -(lN v) = lN (2 ^ 64 - v) := by
  apply wb_inj
  rw [Int64.toBitVec_neg]
  apply BitVec.eq_of_toNat_eq
  rw [BitVec.toNat_neg, wb_tn hv, wb_tb, BitVec.toNat_ofNat]
theorem low_and (k m : Nat) (hk : k < 64) (hm : m < 2 ^ (63 - k)) : (2 ^ k * (2 * m + 1)) &&& (2 ^ k * (2 * (2 ^ (63 - k) - (m + 1)) + 1)) = 2 ^ k := by
  apply Nat.eq_of_testBit_eq
  intro j
  rw [Nat.testBit_and, Nat.testBit_two_pow_mul, Nat.testBit_two_pow_mul, Nat.testBit_two_pow]
  rcases Nat.lt_trichotomy j k with h | h | h
  · simp [show ¬ k ≤ j by omega, show ¬ k = j by omega]
  · subst h
    simp
  · obtain ⟨i, rfl⟩ : ∃ i, j = k + (i + 1) := ⟨j - k - 1, by omega⟩
    rw [show k + (i + 1) - k = i + 1 by omega, Nat.testBit_succ, Nat.testBit_succ, show (2 * m + 1) / 2 = m by omega, show (2 * (2 ^ (63 - k) - (m + 1)) + 1) / 2 = 2 ^ (63 - k) - (m + 1) by omega, Nat.testBit_two_pow_sub_succ hm]
    have e : decide (k = k + (i + 1)) = false := decide_eq_false (by omega)
    rw [e]
    cases m.testBit i <;> simp
theorem least_k {x : Int64} {k : Nat} (hk : k < 64) (h1 : lb x k = true) (h0 : ∀ j, j < k → lb x j = false) : f_X0_least x = nI k := by
  obtain ⟨v, hv, rfl⟩ := wb_of x
  have eb : ∀ n, n < 64 → lb (lN v) n = v.testBit n := fun n hn => by
    unfold lb
    rw [wb_tb, BitVec.getLsbD_ofNat, decide_eq_true hn, Bool.true_and]
  rw [eb k hk] at h1
  have hne : ¬ lN v = 0 := fun q => by
    have t := eb k hk
    rw [q, lb_0, h1] at t
    cases t
  have hmod : v % 2 ^ k = 0 := by
    apply Nat.eq_of_testBit_eq
    intro j
    rw [Nat.testBit_mod_two_pow, Nat.zero_testBit]
    by_cases q : j < k
    · rw [← eb j (by omega), h0 j q, Bool.and_false]
    · rw [decide_eq_false q, Bool.false_and]
  obtain ⟨w, hw⟩ : ∃ w, v = 2 ^ k * w := ⟨v / 2 ^ k, by have := Nat.div_add_mod v (2 ^ k); omega⟩
  have hodd : w.testBit 0 = true := by
    rw [hw, Nat.testBit_two_pow_mul, Nat.sub_self] at h1
    simpa using h1
  obtain ⟨m, rfl⟩ : ∃ m, w = 2 * m + 1 := ⟨w / 2, by
    rw [Nat.testBit_zero] at hodd
    have := of_decide_eq_true hodd
    omega⟩
  have hp : 2 ^ k * (2 * 2 ^ (63 - k)) = 2 ^ 64 := by
    rw [show 2 * 2 ^ (63 - k) = 2 ^ (64 - k) by rw [show 64 - k = (63 - k) + 1 by omega, Nat.pow_succ, Nat.mul_comm], ← Nat.pow_add, show k + (64 - k) = 64 by omega]
  have hm : m < 2 ^ (63 - k) := by
    have t : 2 ^ k * (2 * m + 1) < 2 ^ k * (2 * 2 ^ (63 - k)) := by rw [hp, ← hw]; exact hv
    have := Nat.lt_of_mul_lt_mul_left t
    omega
  have hs : 2 ^ 64 - v = 2 ^ k * (2 * (2 ^ (63 - k) - (m + 1)) + 1) := by
    rw [hw, ← hp, ← Nat.mul_sub]
    congr 1
    omega
  have hpos : 0 < 2 ^ k := Nat.two_pow_pos k
  have hlt : 2 ^ k < 2 ^ 64 := wb_lt2 hk
  have hv0 : 0 < v := by
    rcases Nat.eq_zero_or_pos v with q | q
    · rw [q] at hne; exact absurd rfl hne
    · exact q
  unfold f_X0_least
  rw [if_neg (fun q => hne ((lg_cmp_eq _ _).mp q)), neg_lN hv, wb_and hv (by omega), hs]
  have e : v &&& 2 ^ k * (2 * (2 ^ (63 - k) - (m + 1)) + 1) = 2 ^ k := by
    rw [hw]
    exact low_and k m hk hm
  rw [e, show (1 : Int64) = lN 1 from rfl, lN_sub hpos, bc_lN _ (by omega), pop_low k hk]
