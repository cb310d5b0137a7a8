/-! first: the turns -/
theorem wc_e {R : Type} (G : Int32 → (Nat → Int64) → R) (z x1 x2 : Int32) (lo : Nat → Int64) (c : Int32) (hc : c = 0) :
    (jn_ (fun (z41_s0 : Int32) => jn_ (fun (z53_s0 : Int32) => jn_ (fun (z81_s0 : Int64) => lt_ ((lo 0 * (10 : Int64)) + z81_s0) (fun (y82 : Int64) => jn_ (fun (z111_s0 : Int64) => lt_ ((lo 1 * (10 : Int64)) + z111_s0) (fun (y112 : Int64) => lt_ (lo 2 * (Int32.toInt64 ((10 : Int32) - z53_s0))) (fun (y127 : Int64) => lt_ (lo 3 * (10 : Int64)) (fun (y139 : Int64) => lt_ (z + (1 : Int32)) (fun (y142 : Int32) => G y142 (u1 (u1 (u1 (u1 lo 0 y82) 1 y112) 2 y127) 3 y139)))))) (fun j111 => if z41_s0 = 0 then j111 (lo 2 * (Int32.toInt64 z53_s0)) else j111 (0 : Int64)))) (fun j81 => if z41_s0 = 0 then j81 (0 : Int64) else j81 (lo 2 * (Int32.toInt64 z53_s0)))) (fun j53 => if z41_s0 = 0 then j53 x2 else j53 x1)) (fun j41 => if c = 0 then j41 (1 : Int32) else j41 (0 : Int32))) =
    G (z + 1) (u1 (u1 (u1 (u1 lo 0 (lo 0 * 10 + lo 2 * Int32.toInt64 x1)) 1 (lo 1 * 10 + 0)) 2 (lo 2 * Int32.toInt64 (10 - x1))) 3 (lo 3 * 10)) := by
  have n : ¬ (1 : Int32) = 0 := by decide
  rw [jn_1, if_pos hc]
  dsimp only
  rw [jn_1, if_neg n]
  dsimp only
  rw [jn_1, if_neg n]
  dsimp only
  rw [lt_1, jn_1, if_neg n]
  rfl
theorem wc_o {R : Type} (G : Int32 → (Nat → Int64) → R) (z x1 x2 : Int32) (lo : Nat → Int64) (c : Int32) (hc : ¬ c = 0) :
    (jn_ (fun (z41_s0 : Int32) => jn_ (fun (z53_s0 : Int32) => jn_ (fun (z81_s0 : Int64) => lt_ ((lo 0 * (10 : Int64)) + z81_s0) (fun (y82 : Int64) => jn_ (fun (z111_s0 : Int64) => lt_ ((lo 1 * (10 : Int64)) + z111_s0) (fun (y112 : Int64) => lt_ (lo 2 * (Int32.toInt64 ((10 : Int32) - z53_s0))) (fun (y127 : Int64) => lt_ (lo 3 * (10 : Int64)) (fun (y139 : Int64) => lt_ (z + (1 : Int32)) (fun (y142 : Int32) => G y142 (u1 (u1 (u1 (u1 lo 0 y82) 1 y112) 2 y127) 3 y139)))))) (fun j111 => if z41_s0 = 0 then j111 (lo 2 * (Int32.toInt64 z53_s0)) else j111 (0 : Int64)))) (fun j81 => if z41_s0 = 0 then j81 (0 : Int64) else j81 (lo 2 * (Int32.toInt64 z53_s0)))) (fun j53 => if z41_s0 = 0 then j53 x2 else j53 x1)) (fun j41 => if c = 0 then j41 (1 : Int32) else j41 (0 : Int32))) =
    G (z + 1) (u1 (u1 (u1 (u1 lo 0 (lo 0 * 10 + 0)) 1 (lo 1 * 10 + lo 2 * Int32.toInt64 x2)) 2 (lo 2 * Int32.toInt64 (10 - x2))) 3 (lo 3 * 10)) := by
  have n : (0 : Int32) = 0 := rfl
  rw [jn_1, if_neg hc]
  dsimp only
  rw [jn_1, if_pos n]
  dsimp only
  rw [jn_1, if_pos n]
  dsimp only
  rw [lt_1, jn_1, if_pos n]
  rfl
theorem wm_g {R : Type} (G : Int32 → Int64 → Int64 → Int64 → R) (z x1 x2 : Int32) (z10 z8 z6 : Int64) (c : Int32) :
    (jn_ (fun (z104_s0 : Int64) => lt_ (((10 : Int64) * z6) + z104_s0) (fun (y105 : Int64) => jn_ (fun (z129_s0 : Int64) => lt_ (((10 : Int64) * z8) + z129_s0) (fun (y130 : Int64) => jn_ (fun (z148_s0 : Int32) => lt_ (z10 * (Int32.toInt64 ((10 : Int32) - z148_s0))) (fun (y151 : Int64) => lt_ (z + (1 : Int32)) (fun (y153 : Int32) => G y153 y151 y130 y105))) (fun j148 => if c = 0 then j148 x1 else j148 x2))) (fun j129 => if c = 0 then j129 (0 : Int64) else j129 ((Int32.toInt64 x2) * z10)))) (fun j104 => if c = 0 then j104 ((Int32.toInt64 x1) * z10) else j104 (0 : Int64))) =
    if c = 0 then G (z + 1) (z10 * Int32.toInt64 (10 - x1)) (10 * z8 + 0) (10 * z6 + Int32.toInt64 x1 * z10) else G (z + 1) (z10 * Int32.toInt64 (10 - x2)) (10 * z8 + Int32.toInt64 x2 * z10) (10 * z6 + 0) := by
  rw [jn_1]
  by_cases hc : c = 0
  · rw [if_pos hc, if_pos hc]
    dsimp only
    rw [lt_1, jn_1, if_pos hc]
    dsimp only
    rw [lt_1, jn_1, if_pos hc]
    rfl
  · rw [if_neg hc, if_neg hc]
    dsimp only
    rw [lt_1, jn_1, if_neg hc]
    dsimp only
    rw [lt_1, jn_1, if_neg hc]
    rfl
def wR (j : Nat) (lo : Nat → Int64) (one other nob : Int64) : Prop := (lo 0 = one ∧ lo 1 = other ∧ lo 2 = nob ∧ lo 3 = lN (10 ^ j)) ∧ fI (nI j) one other nob
theorem ten_s (j : Nat) : lN (10 ^ j) * 10 = lN (10 ^ (j + 1)) := by
  rw [Nat.pow_succ]
  exact lN_mul (10 ^ j) 10
theorem first_L {a b : Int32} {n : Nat} (hn : n ≤ 16) (ha : 0 ≤ a.toInt ∧ a.toInt ≤ 10) (hb : 0 ≤ b.toInt ∧ b.toInt ≤ 10) (kc : (Nat → Int64) → (Nat → Int64)) (km : Int64 → Int64 → Int64 → Int64) : ∀ (f j : Nat) (lo : Nat → Int64) (one other nob : Int64), j + f = 16 → j ≤ n → wR j lo one other nob →
    ∃ lo' one' other' nob', wR n lo' one' other' nob' ∧ f_X1_watchByTurns_L23 a b (nI n) kc f (nI j) lo = kc lo' ∧ f_X7_first_L76 a b (nI n) km f (nI j) nob other one = km nob' other' one' := by
  intro f
  induction f with
  | zero =>
    intro j lo one other nob hj hjn h
    have e : j = n := by omega
    subst e
    exact ⟨lo, one, other, nob, h, by rw [f_X1_watchByTurns_L23], by rw [f_X7_first_L76]⟩
  | succ f ih =>
    intro j lo one other nob hj hjn h
    rw [f_X1_watchByTurns_L23, f_X7_first_L76]
    by_cases q : n ≤ j
    · have e : j = n := by omega
      subst e
      rw [if_pos (nI_le (Nat.le_refl _) (by omega)), if_pos (nI_le (Nat.le_refl _) (by omega))]
      exact ⟨lo, one, other, nob, h, rfl, rfl⟩
    obtain ⟨⟨h0, h1, h2, h3⟩, hI⟩ := h
    have e16 : (nI j).toInt < 16 := by rw [nI_toInt (by omega)]; omega
    rw [if_neg (nI_ge (by omega) (by omega)), if_neg (nI_ge (by omega) (by omega)), wm_g (f_X7_first_L76 a b (nI n) km f)]
    by_cases c : jr (nI j) 2 = 0
    · rw [wc_e (f_X1_watchByTurns_L23 a b (nI n) kc f) _ _ _ _ _ c, if_pos c, nI_1]
      have hs := fI_step (t := a) hI ha hb e16 (Or.inl ⟨c, rfl⟩) (Or.inl ⟨c, rfl⟩) (Or.inl ⟨c, rfl⟩)
      rw [nI_1] at hs
      refine ih (j + 1) _ _ _ _ (by omega) (by omega) ⟨⟨?_, ?_, ?_, ?_⟩, hs⟩
      · show lo 0 * 10 + lo 2 * Int32.toInt64 a = 10 * one + Int32.toInt64 a * nob
        rw [h0, h2, Int64.mul_comm one, Int64.mul_comm nob]
      · show lo 1 * 10 + 0 = 10 * other + 0
        rw [h1, Int64.mul_comm other]
      · show lo 2 * Int32.toInt64 (10 - a) = nob * Int32.toInt64 (10 - a)
        rw [h2]
      · show lo 3 * 10 = lN (10 ^ (j + 1))
        rw [h3, ten_s]
    · rw [wc_o (f_X1_watchByTurns_L23 a b (nI n) kc f) _ _ _ _ _ c, if_neg c, nI_1]
      have hs := fI_step (t := b) hI ha hb e16 (Or.inr ⟨c, rfl⟩) (Or.inr ⟨c, rfl⟩) (Or.inr ⟨c, rfl⟩)
      rw [nI_1] at hs
      refine ih (j + 1) _ _ _ _ (by omega) (by omega) ⟨⟨?_, ?_, ?_, ?_⟩, hs⟩
      · show lo 0 * 10 + 0 = 10 * one + 0
        rw [h0, Int64.mul_comm one]
      · show lo 1 * 10 + lo 2 * Int32.toInt64 b = 10 * other + Int32.toInt64 b * nob
        rw [h1, h2, Int64.mul_comm other, Int64.mul_comm nob]
      · show lo 2 * Int32.toInt64 (10 - b) = nob * Int32.toInt64 (10 - b)
        rw [h2]
      · show lo 3 * 10 = lN (10 ^ (j + 1))
        rw [h3, ten_s]
theorem wR_n {n : Nat} {lo : Nat → Int64} {one other nob : Int64} (hn : n ≤ 16) (h : wR n lo one other nob) : ∃ p q r, one = lN p ∧ other = lN q ∧ nob = lN r ∧ p ≤ 10 ^ n ∧ q ≤ 10 ^ n ∧ r ≤ 10 ^ n ∧ (one + other) + nob = lN (10 ^ n) := by
  obtain ⟨_, j, hj, ej, g1, g2, g3, hs⟩ := h
  have e : j = n := by rw [nI_toInt (by omega)] at ej; omega
  subst e
  obtain ⟨p, hp, e1, t1⟩ := l_of g1
  obtain ⟨q, hq, e2, t2⟩ := l_of g2
  obtain ⟨r, hr, e3, t3⟩ := l_of g3
  have hsum : p + q + r = 10 ^ j := by
    rw [t1, t2, t3] at hs
    exact_mod_cast hs
  exact ⟨p, q, r, e1, e2, e3, by omega, by omega, by omega, by rw [e1, e2, e3, lN_add, lN_add, hsum]⟩
set_option maxHeartbeats 1000000 in
set_option maxRecDepth 4000 in
theorem s_first : lwS20 InvR := by
  intro L I st x1 x2 x3 x4 x5 hR
  unfold f_X6_first f_X7_first
  rw [jn_1, jn_1, jn_1, in_eq x1 (a' := 0) (b' := 10) (by decide) (by decide), in_eq x2 (a' := 0) (b' := 10) (by decide) (by decide), in_eq x3 (a' := 0) (b' := 16) (by decide) (by decide), in_eq x4 (a' := 0) (b' := 2) (by decide) (by decide), in_eq x5 (a' := 0) (b' := 1) (by decide) (by decide)]
  by_cases c1 : f_X6_within x1 0 10 = 0
  · rw [if_pos c1, if_pos c1]; exact ⟨rfl, hR⟩
  rw [if_neg c1, if_neg c1]
  by_cases c2 : f_X6_within x2 0 10 = 0
  · rw [if_pos c2, if_pos c2]; exact ⟨rfl, hR⟩
  rw [if_neg c2, if_neg c2]
  by_cases c3 : f_X6_within x3 0 16 = 0
  · rw [if_pos c3, if_pos c3]; exact ⟨rfl, hR⟩
  rw [if_neg c3, if_neg c3]
  by_cases c4 : f_X6_within x4 0 2 = 0
  · rw [if_pos c4, if_pos c4]; exact ⟨rfl, hR⟩
  rw [if_neg c4, if_neg c4]
  by_cases c5 : f_X6_within x5 0 1 = 0
  · rw [if_pos c5, if_pos c5]; exact ⟨rfl, hR⟩
  rw [if_neg c5, if_neg c5]
  have w1 := within_nz c1
  have w2 := within_nz c2
  rw [show (0 : Int32).toInt = 0 from by decide, show (10 : Int32).toInt = 10 from by decide] at w1 w2
  obtain ⟨n, hn, rfl⟩ := up_n (k := 16) (by decide) (by decide) c3
  obtain ⟨lo', one', other', nob', h1, h2, h3⟩ := first_L (a := x1) (b := x2) hn w1 w2 (fun (w23_lo : Nat → Int64) => w23_lo) (fun (w76_10 : Int64) (w76_8 : Int64) (w76_6 : Int64) => jn_ (fun (z182_s0 : Int64) => (f_X7_lowest z182_s0 ((w76_6 + w76_8) + w76_10) x5)) (fun j182 => if x4 = 0 then j182 w76_6 else if x4 = (1 : Int32) then j182 w76_8 else j182 w76_10)) 16 0 (u1 (u1 (u1 (u1 (L 13) 0 (0 : Int64)) 1 (0 : Int64)) 2 (1 : Int64)) 3 (1 : Int64)) 0 0 1 rfl (Nat.zero_le _) ⟨⟨rfl, rfl, rfl, rfl⟩, fI_0⟩
  have hw : f_X1_watchByTurns x1 x2 (nI n) (L 13) = lo' := h2
  rw [nI_0] at h3
  rw [h3, lt_1, hw]
  obtain ⟨p, q, r, e1, e2, e3, b1, b2, b3, hsum⟩ := wR_n hn h1
  obtain ⟨⟨g0, g1, g2, g3⟩, _⟩ := h1
  refine ⟨?_, hR⟩
  dsimp only
  unfold f_X1_chance
  rw [jn_1, jn_1, hsum, g0, g1, g2]
  by_cases d0 : x4 = 0
  · rw [if_pos d0, if_pos d0, e1]
    exact part_eq hn b1 x5 g3
  rw [if_neg d0, if_neg d0]
  by_cases d1 : x4 = 1
  · rw [if_pos d1, if_pos d1, e2]
    exact part_eq hn b2 x5 g3
  · rw [if_neg d1, if_neg d1, e3]
    exact part_eq hn b3 x5 g3
