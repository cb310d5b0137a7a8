/-! ropes: numbers -/
theorem rem_I {u v : Nat} (hu : 0 < u) (hu2 : u < 2 ^ 31) (hv : v < 2 ^ 31) : jr (nI v) (nI u) = nI (v % u) := by
  have t := jr_rng (a := nI v) (b := nI u) (by rw [nI_toInt hv]; omega) (by rw [nI_toInt hu2]; omega)
  have b : v % u < u := Nat.mod_lt _ hu
  apply Int32.toInt_inj.mp
  rw [t.1, nI_toInt hv, nI_toInt hu2, nI_toInt (by omega), Int.natCast_emod]
theorem div_I {u v : Nat} (hu : 0 < u) (hu2 : u < 2 ^ 31) (hv : v < 2 ^ 31) : nI v / nI u = nI (v / u) := by
  have t := ti_div (a := nI v) (b := nI u) (by rw [nI_toInt hv]; omega) (by rw [nI_toInt hu2]; omega)
  have b : v / u ≤ v := Nat.div_le_self _ _
  apply Int32.toInt_inj.mp
  rw [t, nI_toInt hv, nI_toInt hu2, nI_toInt (by omega), Int.natCast_ediv]
theorem mul_I (a b : Nat) : nI a * nI b = nI (a * b) := (Int32.ofNat_mul a b).symm
/-- a piece cut from what is there -/
def stp (L v q : Nat) : Nat := if L < v % 64 + q then (v / 64 + 1) * 64 + q else v + q
def phi (v : Nat) : Nat := 100 * (v / 64) + v % 64
theorem cut_C {L v q : Nat} (hL : L ≤ 30) (hv : v < 10000) (hq : q ≤ 9) : f_X3_cutFurther (nI v) (nI q) (nI L) = nI (stp L v q) := by
  have e1 : jr (nI v) 64 = nI (v % 64) := rem_I (u := 64) (by decide) (by decide) (by omega)
  have e2 : nI v / 64 = nI (v / 64) := div_I (u := 64) (by decide) (by decide) (by omega)
  have e3 : nI (v / 64 + 1) * 64 = nI ((v / 64 + 1) * 64) := mul_I _ 64
  unfold f_X3_cutFurther stp
  rw [e1, e2, nI_add, nI_1, e3, nI_add, nI_add]
  by_cases c : L < v % 64 + q
  · rw [if_pos c, if_pos (nI_lt c (by omega))]
  · rw [if_neg c, if_neg (nI_nlt (by omega) (by omega))]
theorem cut_M {L v q : Nat} (hL : L ≤ 30) (hv : v < 10000) (hq : q ≤ 9) : f_X7_cutMore (nI (phi v)) (nI q) (nI L) = nI (phi (stp L v q)) := by
  have hp : phi v < 20000 := by unfold phi; omega
  have e1 : jr (nI (phi v)) 100 = nI (phi v % 100) := rem_I (u := 100) (by decide) (by decide) (by omega)
  have em : phi v % 100 = v % 64 := by unfold phi; omega
  unfold f_X7_cutMore
  rw [lt_1, e1, em, nI_add]
  unfold stp
  by_cases c : L < v % 64 + q
  · rw [if_pos c, if_pos (nI_lt c (by omega)), nI_sub (by unfold phi; omega), show (100 : Int32) = nI 100 from rfl, nI_add, nI_add]
    congr 1
    unfold phi
    omega
  · rw [if_neg c, if_neg (nI_nlt (by omega) (by omega)), nI_add]
    congr 1
    unfold phi
    omega
theorem phi_le {a b : Nat} (h : a ≤ b) : phi a ≤ phi b := by unfold phi; omega
theorem phi_lt {a b : Nat} (h : a < b) : phi a < phi b := by unfold phi; omega
/-! masks -/
def rmv (M k : Nat) : Nat := if M.testBit k then M - 2 ^ k else M
theorem mk_C : ∀ M, M < 512 → ∀ k, k < 9 → (nI M &&& ((jshl (1 : Int32) (nI k)) ^^^ (-1 : Int32))) = nI (rmv M k) := by decide +kernel
theorem mk_M : ∀ M, M < 512 → ∀ k, k < 9 → ((jshr (nI M) (nI k)) &&& (1 : Int32)) = bI (M.testBit k) := by decide +kernel
theorem mk_s : ∀ k, k < 10 → jshl (1 : Int32) (nI k) = nI (2 ^ k) := by decide +kernel
theorem mk_b : ∀ M, M < 512 → ∀ k, k < 9 → M.testBit k = true → (M - 2 ^ k < M ∧ popN M 9 = popN (M - 2 ^ k) 9 + 1 ∧ ∀ j, j < 9 → (M - 2 ^ k).testBit j = (M.testBit j && decide (j ≠ k))) := by decide +kernel
theorem mk_p : ∀ M, M < 512 → popN M 9 ≤ 9 ∧ (popN M 9 = 0 → M = 0) := by decide +kernel
theorem mk_e : ∀ M, M < 512 → M ≠ 0 → ∃ k, k < 9 ∧ M.testBit k = true := by decide +kernel
theorem mk_n : ∀ N, N < 10 → ∀ k, k < 9 → (2 ^ N - 1).testBit k = decide (k < N) := by decide +kernel
theorem mk_h : ∀ N, N < 10 → ∀ M, M < 512 → M < 2 ^ N → ∀ k, k < 9 → M.testBit k = true → k < N := by decide +kernel
