/-! light -/
theorem low_form {x : Int64} {k : Nat} (hk : k < 64) (h1 : lb x k = true) (h0 : ∀ j, j < k → lb x j = false) : ∃ m, x = lN (2 ^ k * (2 * m + 1)) ∧ 2 ^ k * (2 * m + 1) < 2 ^ 64 := by
  obtain ⟨v, hv, rfl⟩ := wb_of x
  have eb : ∀ n, n < 64 → lb (lN v) n = v.testBit n := fun n hn => by
    unfold lb
    rw [wb_tb, BitVec.getLsbD_ofNat, decide_eq_true hn, Bool.true_and]
  rw [eb k hk] at h1
  have hmod : v % 2 ^ k = 0 := by
    apply Nat.eq_of_testBit_eq
    intro j
    rw [Nat.testBit_mod_two_pow, Nat.zero_testBit]
    by_cases q : j < k
    · rw [← eb j (by omega), h0 j q, Bool.and_false]
    · rw [decide_eq_false q, Bool.false_and]
  obtain ⟨w, hw⟩ : ∃ w, v = 2 ^ k * w := ⟨v / 2 ^ k, by have := Nat.div_add_mod v (2 ^ k); omega⟩
  have hodd : w.testBit 0 = true := by
    rw [hw, Nat.testBit_two_pow_mul, Nat.sub_self] at h1
    simpa using h1
  obtain ⟨m, rfl⟩ : ∃ m, w = 2 * m + 1 := ⟨w / 2, by
    rw [Nat.testBit_zero] at hodd
    have := of_decide_eq_true hodd
    omega⟩
  exact ⟨m, by rw [hw], by rw [← hw]; exact hv⟩
theorem lb_lN {v c : Nat} (hc : c < 64) : lb (lN v) c = v.testBit c := by
  unfold lb
  rw [wb_tb, BitVec.getLsbD_ofNat, decide_eq_true hc, Bool.true_and]
theorem clr_b {z : Int64} {k : Nat} (hk : k < 64) (h1 : lb z k = true) (h0 : ∀ j, j < k → lb z j = false) {c : Nat} (hc : c < 64) : lb (z &&& (z - 1)) c = (lb z c && decide (c ≠ k)) := by
  obtain ⟨m, rfl, hv⟩ := low_form hk h1 h0
  have hpos : 0 < 2 ^ k := Nat.two_pow_pos k
  have e1 : 2 ^ k * (2 * m + 1) - 1 = 2 ^ k * (2 * m) + (2 ^ k - 1) := by
    rw [Nat.mul_add, Nat.mul_one]
    omega
  have e2 : lN (2 ^ k * (2 * m + 1)) - 1 = lN (2 ^ k * (2 * m) + (2 ^ k - 1)) := by
    rw [← e1]
    exact lN_sub (Nat.mul_pos hpos (by omega))
  rw [lb_and, e2, lb_lN hc, lb_lN hc, Nat.testBit_two_pow_mul, Nat.testBit_two_pow_mul_add _ (show 2 ^ k - 1 < 2 ^ k by omega)]
  rcases Nat.lt_trichotomy c k with q | q | q
  · rw [decide_eq_false (show ¬ k ≤ c by omega), Bool.false_and, Bool.false_and, Bool.false_and]
  · subst q
    rw [if_neg (Nat.lt_irrefl c), Nat.sub_self, decide_eq_false (show ¬ (c ≠ c) from fun h => h rfl), Bool.and_false, Nat.testBit_zero, Nat.testBit_zero, decide_eq_false (show ¬ 2 * m % 2 = 1 by omega), Bool.and_false]
  · obtain ⟨i, rfl⟩ : ∃ i, c = k + (i + 1) := ⟨c - k - 1, by omega⟩
    rw [if_neg (by omega), show k + (i + 1) - k = i + 1 by omega, Nat.testBit_succ, Nat.testBit_succ, show (2 * m + 1) / 2 = m by omega, show 2 * m / 2 = m by omega, decide_eq_true (show k + (i + 1) ≠ k by omega), Bool.and_true, decide_eq_true (show k ≤ k + (i + 1) by omega), Bool.true_and, Bool.and_self]
theorem light_L {x : Int64} {j : Nat} (hj : j < popB x 64) (k : Int64 → Int32) : ∀ (n i : Nat) (z : Int64), i + n = 128 → i ≤ j → (∀ c, c < 64 → lb z c = (lb x c && decide (i ≤ popB x c))) → ∃ z', (∀ c, c < 64 → lb z' c = (lb x c && decide (j ≤ popB x c))) ∧ f_X6_light_L43 (nI j) k n (nI i) z = k z' := by
  have hle := popB_le x 64
  intro n
  induction n with
  | zero =>
    intro i z hi hij
    omega
  | succ n ih =>
    intro i z hi hij hz
    by_cases q : j ≤ i
    · have e : i = j := by omega
      subst e
      exact ⟨z, hz, by rw [f_X6_light_L43, if_pos (nI_le q (by omega))]⟩
    · obtain ⟨c, hc, hb, hp⟩ := popB_ex x 64 i (by omega)
      have b1 : lb z c = true := by rw [hz c hc, hb, hp, decide_eq_true (Nat.le_refl i)]; rfl
      have b0 : ∀ d, d < c → lb z d = false := fun d hd => by
        rw [hz d (by omega)]
        cases hbd : lb x d
        · rfl
        · have := popB_lt hbd hd
          rw [decide_eq_false (by omega)]
          rfl
      obtain ⟨z', h1, h2⟩ := ih (i + 1) (z &&& (z - 1)) (by omega) (by omega) (fun d hd => by
        rw [clr_b hc b1 b0 hd, hz d hd]
        cases hbd : lb x d
        · rfl
        · rw [Bool.true_and, Bool.true_and]
          by_cases e : d = c
          · rw [e, hp, decide_eq_false (show ¬ (c ≠ c) from fun h => h rfl), Bool.and_false, decide_eq_false (by omega)]
          · have ne : popB x d ≠ i := fun h => e (popB_inj hbd hb (h.trans hp.symm))
            rw [decide_eq_true e, Bool.and_true]
            by_cases g : i ≤ popB x d
            · rw [decide_eq_true g, decide_eq_true (by omega)]
            · rw [decide_eq_false g, decide_eq_false (by omega)])
      refine ⟨z', h1, ?_⟩
      rw [f_X6_light_L43, if_neg (nI_ge (by omega) (by omega)), lt_1, lt_1, nI_1, h2]
theorem kth {x z : Int64} {j c : Nat} (hc : c < 64) (hb : lb x c = true) (hp : popB x c = j) (hz : ∀ c, c < 64 → lb z c = (lb x c && decide (j ≤ popB x c))) : f_X0_least z = nI c := by
  refine least_k hc (by rw [hz c hc, hb, hp, decide_eq_true (Nat.le_refl j)]; rfl) (fun d hd => ?_)
  rw [hz d (by omega)]
  cases hbd : lb x d
  · rfl
  · have := popB_lt hbd hd
    rw [decide_eq_false (by omega)]
    rfl
set_option maxHeartbeats 1000000 in
theorem s_light : lwS17 InvR := by
  intro L I st x1 hR
  have hf := fits_all hR
  have hR' := fits_inv hR hf
  unfold f_X6_light f_X7_light
  rw [lt_1, lt_1, lt_1, bc_pop]
  generalize f_X7_findFits st = t at hf hR' ⊢
  obtain ⟨h1, _, _, h4⟩ := hf
  have hle := popB_le (L 3 8) 64
  by_cases c1 : x1 = (-1 : Int32)
  · rw [if_pos c1, if_pos c1]; exact ⟨h1.symm, hR'⟩
  rw [if_neg c1, if_neg c1, in_eq x1 (a' := 0) (b' := t 0 28 - 1) (by decide) (toI64 _), h1]
  by_cases c2 : f_X6_within x1 0 (nI (popB (L 3 8) 64) - 1) = 0
  · rw [if_pos c2, if_pos c2]; exact ⟨rfl, hR'⟩
  rw [if_neg c2, if_neg c2]
  refine ⟨?_, hR'⟩
  have h2 := within_nz c2
  rw [show (0 : Int32).toInt = 0 from by decide] at h2
  generalize hN : popB (L 3 8) 64 = N at *
  have hj : ∃ j, j < N ∧ x1 = nI j := by
    cases N with
    | zero => rw [show (nI 0 - 1).toInt = -1 from by decide] at h2; omega
    | succ M =>
      rw [nI_pred, nI_toInt (by omega)] at h2
      exact nI_ofI h2.1 (by omega) (by omega)
  obtain ⟨j, hj, rfl⟩ := hj
  obtain ⟨z', g1, g2⟩ := light_L (x := L 3 8) (j := j) (by omega) (fun w => f_X0_least w) 128 0 (L 3 8) (by omega) (by omega) (fun c _ => by rw [decide_eq_true (Nat.zero_le _), Bool.and_true])
  obtain ⟨c, hc, hb, hp⟩ := popB_ex (L 3 8) 64 j (by omega)
  rw [nI_0] at g2
  rw [g2, nI_clamp (by omega), kth hc hb hp g1, ← hp, h4 c hc hb]
