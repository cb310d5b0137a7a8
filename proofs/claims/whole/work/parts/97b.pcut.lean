/-! the least over the set bits -/
def lmO (P : Nat → Bool) (F : Nat → Nat) (d : Nat) : Nat → Nat
  | 0 => d
  | k + 1 => if P k = true then (if F k < lmO P F d k then F k else lmO P F d k) else lmO P F d k
theorem lmO_le (P : Nat → Bool) (F : Nat → Nat) (d : Nat) : ∀ n, lmO P F d n ≤ d ∧ (∀ k, k < n → P k = true → lmO P F d n ≤ F k) ∧ (lmO P F d n = d ∨ ∃ k, k < n ∧ P k = true ∧ lmO P F d n = F k)
  | 0 => ⟨Nat.le_refl d, fun k h => absurd h (Nat.not_lt_zero k), Or.inl rfl⟩
  | n + 1 => by
    obtain ⟨h1, h2, h3⟩ := lmO_le P F d n
    rw [lmO]
    by_cases c : P n = true
    · rw [if_pos c]
      by_cases g : F n < lmO P F d n
      · rw [if_pos g]
        refine ⟨by omega, fun k hk hp => ?_, Or.inr ⟨n, by omega, c, rfl⟩⟩
        by_cases q : k = n
        · rw [q]; exact Nat.le_refl _
        · have := h2 k (by omega) hp; omega
      · rw [if_neg g]
        refine ⟨h1, fun k hk hp => ?_, h3.imp id (fun ⟨k, a, b, e⟩ => ⟨k, by omega, b, e⟩)⟩
        by_cases q : k = n
        · rw [q]; omega
        · exact h2 k (by omega) hp
    · rw [if_neg c]
      refine ⟨h1, fun k hk hp => ?_, h3.imp id (fun ⟨k, a, b, e⟩ => ⟨k, by omega, b, e⟩)⟩
      by_cases q : k = n
      · rw [q] at hp; exact absurd hp c
      · exact h2 k (by omega) hp
theorem lmO_eq {P Q : Nat → Bool} {F G : Nat → Nat} {d n : Nat} (h1 : ∀ k, k < n → P k = true → ∃ j, j < n ∧ Q j = true ∧ G j = F k) (h2 : ∀ k, k < n → Q k = true → ∃ j, j < n ∧ P j = true ∧ F j = G k) : lmO P F d n = lmO Q G d n := by
  obtain ⟨a1, a2, a3⟩ := lmO_le P F d n
  obtain ⟨b1, b2, b3⟩ := lmO_le Q G d n
  have le1 : lmO Q G d n ≤ lmO P F d n := by
    rcases a3 with a | ⟨k, k1, k2, k3⟩
    · omega
    · obtain ⟨j, j1, j2, j3⟩ := h1 k k1 k2
      have := b2 j j1 j2
      omega
  have le2 : lmO P F d n ≤ lmO Q G d n := by
    rcases b3 with a | ⟨k, k1, k2, k3⟩
    · omega
    · obtain ⟨j, j1, j2, j3⟩ := h2 k k1 k2
      have := a2 j j1 j2
      omega
  omega
/-- the least value of a set of pieces, with fuel -/
def vT (L N : Nat) (p : Nat → Nat) : Nat → Nat → Nat
  | 0, _ => 0
  | n + 1, M => lmO (fun k => M.testBit k) (fun k => stp L (vT L N p n (M - 2 ^ k)) (p k)) (if M = 0 then 0 else 576) N
theorem lmO_cg {P : Nat → Bool} {F G : Nat → Nat} {d n : Nat} (h : ∀ k, k < n → P k = true → F k = G k) : lmO P F d n = lmO P G d n :=
  lmO_eq (fun k hk hp => ⟨k, hk, hp, (h k hk hp).symm⟩) (fun k hk hp => ⟨k, hk, hp, h k hk hp⟩)
theorem vT_0 (L N : Nat) (p : Nat → Nat) : ∀ n, vT L N p n 0 = 0
  | 0 => rfl
  | n + 1 => by
    obtain ⟨a1, _, _⟩ := lmO_le (fun k => (0 : Nat).testBit k) (fun k => stp L (vT L N p n (0 - 2 ^ k)) (p k)) 0 N
    rw [vT, if_pos rfl]
    omega
theorem vT_f {L N : Nat} {p : Nat → Nat} (hN : N ≤ 9) : ∀ (n m M : Nat), M < 512 → M ≤ n → M ≤ m → vT L N p n M = vT L N p m M := by
  intro n
  induction n with
  | zero =>
    intro m M h h0 _
    have e : M = 0 := by omega
    rw [e, vT_0, vT_0]
  | succ n ih =>
    intro m M h h0 hm
    cases m with
    | zero =>
      have e : M = 0 := by omega
      rw [e, vT_0, vT_0]
    | succ m =>
      rw [vT, vT]
      refine lmO_cg (fun k hk hp => ?_)
      obtain ⟨b1, _, _⟩ := mk_b M h k (by omega) hp
      rw [ih m (M - 2 ^ k) (by omega) (by omega) (by omega)]
def tT (L N : Nat) (p : Nat → Nat) (M : Nat) : Nat := vT L N p 512 M
theorem tT_0 (L N : Nat) (p : Nat → Nat) : tT L N p 0 = 0 := vT_0 L N p 512
theorem tT_s {L N : Nat} {p : Nat → Nat} (hN : N ≤ 9) {M : Nat} (hM : M < 512) (h0 : M ≠ 0) : tT L N p M = lmO (fun k => M.testBit k) (fun k => stp L (tT L N p (M - 2 ^ k)) (p k)) 576 N := by
  unfold tT
  rw [vT, if_neg h0]
  refine lmO_cg (fun k hk hp => ?_)
  obtain ⟨b1, _, _⟩ := mk_b M hM k (by omega) hp
  rw [vT_f hN 511 512 (M - 2 ^ k) (by omega) (by omega) (by omega)]
/-- its bound -/
theorem tT_b {L N : Nat} {p : Nat → Nat} (hN : N ≤ 9) (hL : 9 ≤ L ∧ L ≤ 30) (hp : ∀ k, k < N → p k ≤ 9) : ∀ (m M : Nat), M < m → M < 512 → M < 2 ^ N → tT L N p M ≤ 64 * (popN M 9 - 1) + 30 := by
  intro m
  induction m with
  | zero => intro M h; omega
  | succ m ih =>
    intro M hm h hN2
    by_cases q : M = 0
    · rw [q, tT_0]; omega
    obtain ⟨k, hk, hb⟩ := mk_e M h q
    have hkN := mk_h N (by omega) M h hN2 k hk hb
    obtain ⟨b1, b2, _⟩ := mk_b M h k hk hb
    obtain ⟨_, a2, _⟩ := lmO_le (fun k => M.testBit k) (fun k => stp L (tT L N p (M - 2 ^ k)) (p k)) 576 N
    have t := a2 k hkN hb
    rw [← tT_s hN h q] at t
    have hv := ih (M - 2 ^ k) (by omega) (by omega) (by omega)
    have hpk := hp k hkN
    have hz := (mk_p (M - 2 ^ k) (by omega)).2
    refine Nat.le_trans t ?_
    rw [b2]
    generalize popN (M - 2 ^ k) 9 = c at hv hz ⊢
    have hz2 : c = 0 → tT L N p (M - 2 ^ k) = 0 := fun e => by rw [hz e, tT_0]
    generalize tT L N p (M - 2 ^ k) = v at hv hz2 ⊢
    generalize p k = x at hpk ⊢
    show stp L v x ≤ _
    unfold stp
    rcases Nat.eq_zero_or_pos c with e | e
    · rw [hz2 e, if_neg (by omega)]; omega
    · split <;> omega
theorem tT_lt {L N : Nat} {p : Nat → Nat} (hN : N ≤ 9) (hL : 9 ≤ L ∧ L ≤ 30) (hp : ∀ k, k < N → p k ≤ 9) {M : Nat} (h : M < 512) (h2 : M < 2 ^ N) : tT L N p M < 576 := by
  have := tT_b hN hL hp (M + 1) M (by omega) h h2
  have := (mk_p M h).1
  omega
/-- the pieces the other way round -/
theorem vT_r {L N : Nat} {p q : Nat → Nat} (hN : N ≤ 9) (hq : ∀ k, k < N → q k = p (N - 1 - k)) : ∀ (n M R : Nat), M < 512 → R < 512 → M < 2 ^ N → R < 2 ^ N → (∀ k, k < N → R.testBit k = M.testBit (N - 1 - k)) → vT L N q n R = vT L N p n M := by
  intro n
  induction n with
  | zero => intro M R _ _ _ _ _; rfl
  | succ n ih =>
    intro M R hM hR hM2 hR2 h
    have hz : R = 0 ↔ M = 0 := by
      constructor
      · intro e
        by_cases c : M = 0
        · exact c
        · obtain ⟨k, hk, hb⟩ := mk_e M hM c
          have hkN := mk_h N (by omega) M hM hM2 k hk hb
          have t := h (N - 1 - k) (by omega)
          rw [show N - 1 - (N - 1 - k) = k by omega, hb, e, Nat.zero_testBit] at t
          cases t
      · intro e
        by_cases c : R = 0
        · exact c
        · obtain ⟨k, hk, hb⟩ := mk_e R hR c
          have hkN := mk_h N (by omega) R hR hR2 k hk hb
          have t := h k hkN
          rw [hb, e, Nat.zero_testBit] at t
          cases t
    have hd : (if R = 0 then 0 else 576) = (if M = 0 then 0 else 576) := by
      by_cases c : M = 0
      · rw [if_pos c, if_pos (hz.mpr c)]
      · rw [if_neg c, if_neg (fun e => c (hz.mp e))]
    have hsub : ∀ k, k < N → R.testBit k = true → vT L N q n (R - 2 ^ k) = vT L N p n (M - 2 ^ (N - 1 - k)) := by
      intro k hk hb
      have hb2 : M.testBit (N - 1 - k) = true := by rw [← h k hk]; exact hb
      obtain ⟨r1, _, r3⟩ := mk_b R hR k (by omega) hb
      obtain ⟨s1, _, s3⟩ := mk_b M hM (N - 1 - k) (by omega) hb2
      refine ih (M - 2 ^ (N - 1 - k)) (R - 2 ^ k) (by omega) (by omega) (by omega) (by omega) (fun j hj => ?_)
      rw [r3 j (by omega), s3 (N - 1 - j) (by omega), h j hj]
      congr 1
      exact decide_eq_decide.mpr (by omega)
    rw [vT, vT, hd]
    refine lmO_eq (fun k hk hb => ⟨N - 1 - k, by omega, ?_, ?_⟩) (fun k hk hb => ⟨N - 1 - k, by omega, ?_, ?_⟩)
    · rw [← h k hk]; exact hb
    · show stp L (vT L N p n (M - 2 ^ (N - 1 - k))) (p (N - 1 - k)) = stp L (vT L N q n (R - 2 ^ k)) (q k)
      rw [hsub k hk hb, hq k hk]
    · show R.testBit (N - 1 - k) = true
      rw [h (N - 1 - k) (by omega), show N - 1 - (N - 1 - k) = k by omega]; exact hb
    · have hb2 : R.testBit (N - 1 - k) = true := by rw [h (N - 1 - k) (by omega), show N - 1 - (N - 1 - k) = k by omega]; exact hb
      show stp L (vT L N q n (R - 2 ^ (N - 1 - k))) (q (N - 1 - k)) = stp L (vT L N p n (M - 2 ^ k)) (p k)
      rw [hsub (N - 1 - k) (by omega) hb2, hq (N - 1 - k) (by omega), show N - 1 - (N - 1 - k) = k by omega]
