/-! ropes: the pieces read -/
def dgt : Nat → Nat → Nat
  | r, 0 => r % 10
  | r, k + 1 => dgt (r / 10) k
def okD : Nat → Nat → Bool
  | 0, r => decide (r = 0)
  | n + 1, r => decide (r % 10 ≠ 0) && okD n (r / 10)
theorem dgt_le : ∀ k r, dgt r k ≤ 9
  | 0, r => by rw [dgt]; omega
  | k + 1, r => by rw [dgt]; exact dgt_le k (r / 10)
theorem nI_0e {r : Nat} (h : r < 2 ^ 31) : nI r = 0 ↔ r = 0 := nI_eq (b := 0) h (by decide)
def kT : Int32 → (Nat → Int32) → (Nat → Int32) → (Int32 × (Nat → Int32) × (Nat → Int32)) := fun (w10_3 : Int32) (w10_i : Nat → Int32) (w10_f : Nat → Int32) => if w10_3 = 0 then ((1 : Int32), w10_i, w10_f) else ((0 : Int32), w10_i, w10_f)
theorem tp_L {N : Nat} (hN : N ≤ 9) : ∀ (n j r : Nat) (i f : Nat → Int32), j + n = N → r < 2 ^ 31 → i 2 = nI j →
    ∃ i' f', f_X3_takePieces_L10 (nI N) kT (9 - j) (nI j) (nI r) i f = (bI (okD n r), i', f') ∧ (okD n r = true → i' 2 = nI N ∧ (∀ k, k < j → f' k = f k) ∧ ∀ k, k < n → f' (j + k) = nI (dgt r k)) := by
  intro n
  induction n with
  | zero =>
    intro j r i f hj hr hi
    have e : j = N := by omega
    subst e
    refine ⟨i, f, ?_, fun _ => ⟨hi, fun _ _ => rfl, fun k hk => absurd hk (Nat.not_lt_zero k)⟩⟩
    have hk : f_X3_takePieces_L10 (nI j) kT (9 - j) (nI j) (nI r) i f = kT (nI r) i f := by
      cases hm : 9 - j with
      | zero => rw [f_X3_takePieces_L10]
      | succ m => rw [f_X3_takePieces_L10, if_pos (nI_le (Nat.le_refl j) (by omega))]
    rw [hk, okD]
    unfold kT
    by_cases c : r = 0
    · rw [if_pos ((nI_0e hr).mpr c), decide_eq_true c]; rfl
    · rw [if_neg (fun q => c ((nI_0e hr).mp q)), decide_eq_false c]; rfl
  | succ n ih =>
    intro j r i f hj hr hi
    have e10 : jr (nI r) 10 = nI (r % 10) := rem_I (u := 10) (by decide) (by decide) hr
    have d10 : nI r / 10 = nI (r / 10) := div_I (u := 10) (by decide) (by decide) hr
    rw [show 9 - j = (9 - (j + 1)) + 1 by omega, f_X3_takePieces_L10, if_neg (nI_ge (by omega) (by omega)), if_neg (ge9 (by omega)), e10, d10, hi, nI_1, nI_clamp (by omega), okD]
    by_cases c : r % 10 = 0
    · have hz : nI (r % 10) = 0 := (nI_0e (by omega)).mpr c
      rw [decide_eq_false (fun q => q c), Bool.false_and]
      by_cases c0 : nI r ≤ 0
      · rw [if_pos c0]
        exact ⟨i, f, rfl, fun q => by cases q⟩
      · rw [if_neg c0, if_pos hz]
        exact ⟨i, f, rfl, fun q => by cases q⟩
    · have c0 : ¬ nI r ≤ 0 := nI_nle (by omega) hr
      rw [if_neg c0, if_neg (fun q => c ((nI_0e (by omega)).mp q)), decide_eq_true c, Bool.true_and, lt_1, lt_1, lt_1, lt_1]
      obtain ⟨i', f', h1, h2⟩ := ih (j + 1) (r / 10) (u1 i 2 (nI (j + 1))) (u1 f j (nI (r % 10))) (by omega) (by omega) (u1_s _ _ _)
      refine ⟨i', f', h1, fun q => ?_⟩
      obtain ⟨g1, g2, g3⟩ := h2 q
      refine ⟨g1, fun k hk => ?_, fun k hk => ?_⟩
      · rw [g2 k (by omega), u1_n _ _ (by omega)]
      · cases k with
        | zero => rw [Nat.add_zero, g2 j (by omega), u1_s, dgt]
        | succ k =>
          have t := g3 k (by omega)
          rw [show j + 1 + k = j + (k + 1) by omega] at t
          rw [t, dgt]
def kR : Int32 → Int32 → (Nat → Nat → Int32) → (Int32 × (Nat → Nat → Int32)) := fun (w18_4 : Int32) (w18_3 : Int32) (w18_st : Nat → Nat → Int32) => if w18_4 = 0 then ((0 : Int32), w18_st) else if w18_3 = 0 then ((1 : Int32), w18_st) else ((0 : Int32), w18_st)
theorem rp_g {R : Type} (G : Int32 → Int32 → Int32 → (Nat → Nat → Int32) → R) (z5 z4 z3 w : Int32) (st' : Nat → Nat → Int32) :
    (jn_ (fun (z54_s0 : Int32) => lt_ (z3 / (10 : Int32)) (fun (y60 : Int32) => lt_ (z5 + (-1 : Int32)) (fun (y61 : Int32) => G y61 z54_s0 y60 st'))) (fun j54 => jn_ (fun (_ : Unit) => j54 (0 : Int32)) (fun j53 => if z4 = 0 then j53 () else if w ≤ 0 then j53 () else j54 (1 : Int32)))) = G (z5 + (-1 : Int32)) (if z4 = 0 then 0 else if w ≤ 0 then 0 else 1) (z3 / 10) st' := by
  rw [jn_1, jn_1]
  by_cases a : z4 = 0
  · rw [if_pos a, if_pos a]; rfl
  rw [if_neg a, if_neg a]
  by_cases b : w ≤ 0
  · rw [if_pos b, if_pos b]; rfl
  · rw [if_neg b, if_neg b]; rfl
theorem rp_0 : ∀ (n m : Nat) (z3 : Int32) (st : Nat → Nat → Int32), n ≤ m → n ≤ 9 → ∃ st', f_X7_readPieces_L18 kR m (nI n + (-1 : Int32)) 0 z3 st = (0, st') ∧ ∀ q, q ≠ 26 → st' q = st q := by
  intro n
  induction n with
  | zero =>
    intro m z3 st _ _
    refine ⟨st, ?_, fun _ _ => rfl⟩
    have hk : f_X7_readPieces_L18 kR m (nI 0 + (-1 : Int32)) 0 z3 st = kR 0 z3 st := by
      cases m with
      | zero => rw [f_X7_readPieces_L18]
      | succ m => rw [f_X7_readPieces_L18, if_pos (by decide)]
    rw [hk]
    rfl
  | succ n ih =>
    intro m z3 st hm hn
    obtain ⟨m, rfl⟩ : ∃ m', m = m' + 1 := ⟨m - 1, by omega⟩
    rw [nI_m1, f_X7_readPieces_L18, if_neg (nI_pos (by omega)), lt_1, rp_g (f_X7_readPieces_L18 kR m), if_pos rfl]
    obtain ⟨st', h1, h2⟩ := ih m (z3 / 10) (u2 st 26 (nI n).toNatClampNeg (jr z3 10)) (by omega) (by omega)
    exact ⟨st', h1, fun q hq => by rw [h2 q hq, u2_p _ _ hq]⟩
theorem rp_1 : ∀ (n m r : Nat) (st : Nat → Nat → Int32), n ≤ m → n ≤ 9 → r < 2 ^ 31 → ∃ st', f_X7_readPieces_L18 kR m (nI n + (-1 : Int32)) 1 (nI r) st = (bI (okD n r), st') ∧ (∀ q, q ≠ 26 → st' q = st q) ∧ (okD n r = true → (∀ k, n ≤ k → st' 26 k = st 26 k) ∧ ∀ k, k < n → st' 26 (n - 1 - k) = nI (dgt r k)) := by
  intro n
  induction n with
  | zero =>
    intro m r st _ _ hr
    refine ⟨st, ?_, fun _ _ => rfl, fun _ => ⟨fun _ _ => rfl, fun k hk => absurd hk (Nat.not_lt_zero k)⟩⟩
    have hk : f_X7_readPieces_L18 kR m (nI 0 + (-1 : Int32)) 1 (nI r) st = kR 1 (nI r) st := by
      cases m with
      | zero => rw [f_X7_readPieces_L18]
      | succ m => rw [f_X7_readPieces_L18, if_pos (by decide)]
    rw [hk, okD]
    unfold kR
    rw [if_neg (by decide)]
    by_cases c : r = 0
    · rw [if_pos ((nI_0e hr).mpr c), decide_eq_true c]; rfl
    · rw [if_neg (fun q => c ((nI_0e hr).mp q)), decide_eq_false c]; rfl
  | succ n ih =>
    intro m r st hm hn hr
    obtain ⟨m, rfl⟩ : ∃ m', m = m' + 1 := ⟨m - 1, by omega⟩
    have e10 : jr (nI r) 10 = nI (r % 10) := rem_I (u := 10) (by decide) (by decide) hr
    have d10 : nI r / 10 = nI (r / 10) := div_I (u := 10) (by decide) (by decide) hr
    rw [nI_m1, f_X7_readPieces_L18, if_neg (nI_pos (by omega)), lt_1, rp_g (f_X7_readPieces_L18 kR m), nI_clamp (by omega), u2_s, e10, d10, if_neg (show ¬ (1 : Int32) = 0 by decide), okD]
    by_cases c : r % 10 = 0
    · rw [decide_eq_false (fun q => q c), Bool.false_and, c, if_pos (show nI 0 ≤ 0 by decide)]
      obtain ⟨st', h1, h2⟩ := rp_0 n m (nI (r / 10)) (u2 st 26 n (nI 0)) (by omega) (by omega)
      exact ⟨st', h1, fun q hq => by rw [h2 q hq, u2_p _ _ hq], fun q => by cases q⟩
    · rw [decide_eq_true c, Bool.true_and, if_neg (nI_nle (by omega) (by omega))]
      obtain ⟨st', h1, h2, h3⟩ := ih m (r / 10) (u2 st 26 n (nI (r % 10))) (by omega) (by omega) (by omega)
      refine ⟨st', h1, fun q hq => by rw [h2 q hq, u2_p _ _ hq], fun q => ?_⟩
      obtain ⟨g1, g2⟩ := h3 q
      refine ⟨fun k hk => by rw [g1 k (by omega), u2_k _ _ (by omega)], fun k hk => ?_⟩
      cases k with
      | zero => rw [show n + 1 - 1 - 0 = n by omega, g1 n (Nat.le_refl n), u2_s, dgt]
      | succ k =>
        have t := g2 k (by omega)
        rw [show n - 1 - k = n + 1 - 1 - (k + 1) by omega] at t
        rw [t, dgt]
/-- both readings of the pieces -/
theorem take_both {N : Nat} (h1 : 1 ≤ N) (hN : N ≤ 9) (x1 : Int32) (i f g : Nat → Int32) (st : Nat → Nat → Int32) :
    ∃ i' f' st', (f_X3_takePieces x1 (nI N) i f g).2 = (i', f') ∧ (f_X7_readPieces x1 (nI N) st).2 = st' ∧ (∀ q, q ≠ 26 → st' q = st q) ∧
      ((f_X3_takePieces x1 (nI N) i f g).1 = 0 ∧ (f_X7_readPieces x1 (nI N) st).1 = 0 ∨
       (f_X3_takePieces x1 (nI N) i f g).1 = 1 ∧ (f_X7_readPieces x1 (nI N) st).1 = 1 ∧ i' 2 = nI N ∧ ∃ p : Nat → Nat, (∀ k, p k ≤ 9) ∧ (∀ k, k < N → f' k = nI (p k)) ∧ ∀ k, k < N → st' 26 (N - 1 - k) = nI (p k)) := by
  have eC : f_X3_takePieces x1 (nI N) i f g = f_X3_takePieces_L10 (nI N) kT 9 0 x1 (u1 i 2 0) f := rfl
  have eM : f_X7_readPieces x1 (nI N) st = f_X7_readPieces_L18 kR 9 (nI N + (-1 : Int32)) (if x1 < 0 then 0 else 1) x1 st := by
    unfold f_X7_readPieces
    rw [jn_1]
    by_cases c : x1 < 0
    · rw [if_pos c, if_pos c, ← Int32.sub_eq_add_neg]; rfl
    · rw [if_neg c, if_neg c, ← Int32.sub_eq_add_neg]; rfl
  by_cases c : x1 < 0
  · obtain ⟨st', g1, g2⟩ := rp_0 N 9 x1 st hN hN
    rw [eM, if_pos c, g1, eC]
    have e2 : f_X3_takePieces_L10 (nI N) kT 9 0 x1 (u1 i 2 0) f = (0, u1 i 2 0, f) := by
      have c0 : x1 ≤ 0 := Int32.le_iff_toInt_le.mpr (by have := ti_lt c; omega)
      have cN : ¬ nI N ≤ 0 := nI_nle (by omega) (by omega)
      have c9 : ¬ (9 : Int32) ≤ 0 := by decide
      rw [f_X3_takePieces_L10, if_neg cN, if_neg c9, if_pos c0]
    rw [e2]
    exact ⟨_, _, st', rfl, rfl, g2, Or.inl ⟨rfl, rfl⟩⟩
  · obtain ⟨v, hv, rfl⟩ := nI_of c
    obtain ⟨i', f', a1, a2⟩ := tp_L hN N 0 v (u1 i 2 0) f (by omega) hv (u1_s _ _ _)
    obtain ⟨st', b1, b2, b3⟩ := rp_1 N 9 v st hN hN hv
    have a1' : f_X3_takePieces_L10 (nI N) kT 9 0 (nI v) (u1 i 2 0) f = (bI (okD N v), i', f') := a1
    rw [eM, if_neg c, b1, eC, a1']
    refine ⟨i', f', st', rfl, rfl, b2, ?_⟩
    cases ho : okD N v
    · exact Or.inl ⟨rfl, rfl⟩
    · obtain ⟨c1, _, c3⟩ := a2 ho
      obtain ⟨_, d2⟩ := b3 ho
      exact Or.inr ⟨rfl, rfl, c1, fun k => dgt v k, fun k => dgt_le k v, fun k hk => by
        have t := c3 k hk
        rw [Nat.zero_add] at t
        exact t, d2⟩
