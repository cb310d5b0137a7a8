/-! ask -/
def cntF (P : Nat → Bool) : Nat → Nat
  | 0 => 0
  | n + 1 => cntF P n + (if P n then 1 else 0)
theorem cntF_le (P : Nat → Bool) : ∀ n, cntF P n ≤ n
  | 0 => Nat.le_refl 0
  | n + 1 => by
    have := cntF_le P n
    rw [cntF]
    split <;> omega
theorem cntF_pop {x y : Int64} {P : Nat → Bool} (h : ∀ d, d < 64 → lb x d = true → P (popB x d) = lb y d) : ∀ c, c ≤ 64 → cntF P (popB x c) = popB (x &&& y) c
  | 0, _ => rfl
  | c + 1, hc => by
    have ih := cntF_pop h c (by omega)
    cases hb : lb x c
    · rw [popB, popB, hb, lb_and, hb, Bool.false_and, if_neg (by decide), Nat.add_zero, Nat.add_zero, ih]
    · rw [popB, popB, hb, lb_and, hb, Bool.true_and, if_pos rfl, cntF, ih, h c (by omega) hb]
theorem ml_L {q : Nat → Nat → Int32} {N : Nat} {a e : Int32} (hN : q 0 28 = nI N) (hN64 : N ≤ 64) (k : Int32 → Int32) : ∀ (n i : Nat), i + n = 64 → i ≤ N → f_X7_mostLeft_L5 a e q k n (nI i) (nI (cntF (fun j => decide (f_X7_far (q 28 j) a ≤ e)) i)) = k (nI (cntF (fun j => decide (f_X7_far (q 28 j) a ≤ e)) N)) := by
  intro n
  induction n with
  | zero =>
    intro i hi hiN
    have e : i = N := by omega
    rw [f_X7_mostLeft_L5, e]
  | succ n ih =>
    intro i hi hiN
    rw [f_X7_mostLeft_L5, hN]
    by_cases g : N ≤ i
    · have e : i = N := by omega
      rw [if_pos (nI_le g (by omega)), e]
    · have h2 := ih (i + 1) (by omega) (by omega)
      rw [cntF] at h2
      rw [if_neg (nI_ge (by omega) (by omega)), nI_clamp (by omega), nI_1]
      unfold jn_ lt_
      dsimp only
      by_cases f : e < f_X7_far (q 28 i) a
      · rw [decide_eq_false (fun h => by have := ti_lt f; have := ti_le h; omega), if_neg (by decide), Nat.add_zero] at h2
        rw [if_pos f, Int32.add_zero]
        exact h2
      · rw [decide_eq_true (Int32.le_iff_toInt_le.mpr (ti_nlt f)), if_pos rfl] at h2
        rw [if_neg f, nI_1]
        exact h2
def askV (x : Int64) (a e : Nat) : Nat := if 2 * popB (x &&& f_X0_around (nI a) (nI e)) 64 ≤ popB x 64 then popB x 64 - popB (x &&& f_X0_around (nI a) (nI e)) 64 else popB (x &&& f_X0_around (nI a) (nI e)) 64
theorem popB_and (x y : Int64) : ∀ n, popB (x &&& y) n ≤ popB x n
  | 0 => Nat.le_refl 0
  | n + 1 => by
    have := popB_and x y n
    rw [popB, popB, lb_and]
    cases lb x n <;> cases lb y n <;> simp <;> omega
theorem askV_le (x : Int64) (a e : Nat) : askV x a e ≤ popB x 64 := by
  have := popB_and x (f_X0_around (nI a) (nI e)) 64
  unfold askV
  split <;> omega
theorem nI_sub {a b : Nat} (h : b ≤ a) : nI a - nI b = nI (a - b) := by
  have e : nI a = nI (a - b) + nI b := by rw [nI_add]; congr 1; omega
  rw [e, Int32.add_sub_cancel]
theorem ml_eq {x : Int64} {s q : Nat → Nat → Int32} (h : fitP x 64 s q) {a e : Nat} (ha : a < 64) (he : e < 8) : f_X7_mostLeft (nI a) (nI e) q = nI (askV x a e) := by
  obtain ⟨h1, _, _, h4⟩ := h
  have hle := popB_le x 64
  have hand := popB_and x (f_X0_around (nI a) (nI e)) 64
  have hc := cntF_pop (x := x) (y := f_X0_around (nI a) (nI e)) (P := fun j => decide (f_X7_far (q 28 j) (nI a) ≤ nI e)) (fun d hd hb => by rw [h4 d hd hb, around_b a ha e he d hd]) 64 (Nat.le_refl 64)
  have t := ml_L (a := nI a) (e := nI e) h1 hle (fun (w5_3 : Int32) => if w5_3 ≤ ((q 0 28) - w5_3) then ((q 0 28) - w5_3) else w5_3) 64 0 (by omega) (by omega)
  rw [hc] at t
  have t2 : f_X7_mostLeft (nI a) (nI e) q = _ := t
  rw [t2, h1]
  unfold askV
  generalize popB (x &&& f_X0_around (nI a) (nI e)) 64 = u at *
  generalize popB x 64 = N at *
  rw [nI_sub hand]
  by_cases c : 2 * u ≤ N
  · rw [if_pos c, if_pos (nI_le (by omega) (by omega))]
  · rw [if_neg c, if_neg (nI_ge (by omega) (by omega))]
theorem cl_eq (x : Int64) (a e : Nat) : jmax (f_J13_bitCount_95d88 (x &&& f_X0_around (nI a) (nI e))) (f_J13_bitCount_95d88 x - f_J13_bitCount_95d88 (x &&& f_X0_around (nI a) (nI e))) = nI (askV x a e) := by
  have hle := popB_le x 64
  have hand := popB_and x (f_X0_around (nI a) (nI e)) 64
  rw [bc_pop, bc_pop]
  unfold jmax askV
  generalize popB (x &&& f_X0_around (nI a) (nI e)) 64 = u at *
  generalize popB x 64 = N at *
  rw [nI_sub hand]
  by_cases c : u < N - u
  · rw [if_pos (nI_lt c (by omega)), if_pos (by omega)]
  · rw [if_neg (nI_nlt (by omega) (by omega))]
    by_cases d : 2 * u ≤ N
    · rw [if_pos d]; congr 1; omega
    · rw [if_neg d]
def askS (x : Int64) (a e : Nat) (p : Int32 × Int32) : Int32 × Int32 := if p.2 ≤ nI (askV x a e) then p else (nI (10 * a + e), nI (askV x a e))
def askR (x : Int64) (a : Nat) : Nat → Nat → Int32 × Int32 → Int32 × Int32
  | 0, _, p => p
  | n + 1, e, p => askR x a n (e + 1) (askS x a e p)
def askA (x : Int64) : Nat → Nat → Int32 × Int32 → Int32 × Int32
  | 0, _, p => p
  | n + 1, a, p => askA x n (a + 1) (askR x a 8 0 p)
theorem nI_10 (a e : Nat) : (10 : Int32) * nI a + nI e = nI (10 * a + e) := by
  rw [show (10 : Int32) = nI 10 from by decide, ← nI_add]
  congr 1
  exact (Int32.ofNat_mul 10 a).symm
theorem askC_R {x : Int64} {a : Nat} (k : Int32 → Int32 → Int32) : ∀ (n e : Nat) (p : Int32 × Int32), e + n = 8 → f_X6_bestNextLook_L27 x (f_J13_bitCount_95d88 x) (nI a) k n (nI e) p.1 p.2 = k (askR x a n e p).1 (askR x a n e p).2 := by
  intro n
  induction n with
  | zero =>
    intro e p he
    rw [f_X6_bestNextLook_L27, askR]
  | succ n ih =>
    intro e p he
    have hi := ih (e + 1) (askS x a e p) (by omega)
    rw [f_X6_bestNextLook_L27, if_neg (nlt7 (by omega)), lt_1, lt_1, cl_eq, nI_10]
    unfold jn_ lt_
    dsimp only
    rw [nI_1, askR]
    by_cases c : p.2 ≤ nI (askV x a e)
    · rw [if_pos c]
      rw [askS, if_pos c] at hi ⊢
      exact hi
    · rw [if_neg c]
      rw [askS, if_neg c] at hi ⊢
      exact hi
theorem askC_A {x : Int64} (k : Int32 → Int32 → Int32) : ∀ (n a : Nat) (p : Int32 × Int32), a + n = 64 → f_X6_bestNextLook_L17 x (f_J13_bitCount_95d88 x) k n (nI a) p.1 p.2 = k (askA x n a p).1 (askA x n a p).2 := by
  intro n
  induction n with
  | zero =>
    intro a p ha
    rw [f_X6_bestNextLook_L17, askA]
  | succ n ih =>
    intro a p ha
    have r := askC_R (x := x) (a := a) (fun (w27_5 : Int32) (w27_4 : Int32) => lt_ (nI a + (1 : Int32)) (fun (y86 : Int32) => f_X6_bestNextLook_L17 x (f_J13_bitCount_95d88 x) k n y86 w27_5 w27_4)) 8 0 p (by omega)
    rw [nI_0] at r
    rw [f_X6_bestNextLook_L17, if_neg (ge64 (by omega)), r, lt_1, nI_1, ih (a + 1) _ (by omega), askA]
theorem ask_dm : ∀ a, a < 64 → ∀ e, e < 10 → jr (nI (10 * a + e)) 10 = nI e ∧ nI (10 * a + e) / 10 = nI a := by decide +kernel
theorem askM_1 {x : Int64} {s q : Nat → Nat → Int32} (h : fitP x 64 s q) (hN : 0 < popB x 64) (k : Int32 → Int32 → (Int32 × (Nat → Nat → Int32))) {a e n : Nat} (ha : a < 64) (he : e < 8) (p : Int32 × Int32) :
    f_X7_ask_L30 q k (n + 1) (nI (10 * a + e)) p.2 p.1 = f_X7_ask_L30 q k n (nI (10 * a + (e + 1))) (askS x a e p).2 (askS x a e p).1 := by
  have hle := popB_le x 64
  obtain ⟨d1, d2⟩ := ask_dm a ha e (by omega)
  rw [f_X7_ask_L30, if_neg (ge640 (by omega)), h.1, if_neg (nI_nle hN (by omega)), jn_1, d1, d2, if_neg (ge8 he), ml_eq h ha he]
  unfold jn_ lt_ f_X7_less
  dsimp only
  rw [nI_1, Nat.add_assoc]
  by_cases c : p.2 ≤ nI (askV x a e)
  · rw [if_pos c, askS, if_pos c]
    by_cases d : nI (askV x a e) ≤ p.2
    · rw [if_pos d, show nI (askV x a e) = p.2 from Int32.toInt_inj.mp (by have := ti_le c; have := ti_le d; omega)]
    · rw [if_neg d]
  · have d : nI (askV x a e) ≤ p.2 := Int32.le_iff_toInt_le.mpr (by
      by_cases g : (nI (askV x a e)).toInt ≤ p.2.toInt
      · exact g
      · exact absurd (Int32.le_iff_toInt_le.mpr (by omega)) c)
    rw [if_neg c, askS, if_neg c, if_pos d]
theorem askM_0 {x : Int64} {s q : Nat → Nat → Int32} (h : fitP x 64 s q) (hN : 0 < popB x 64) (k : Int32 → Int32 → (Int32 × (Nat → Nat → Int32))) {a e n : Nat} (ha : a < 64) (he : 8 ≤ e) (he2 : e < 10) (be pl : Int32) :
    f_X7_ask_L30 q k (n + 1) (nI (10 * a + e)) be pl = f_X7_ask_L30 q k n (nI (10 * a + (e + 1))) be pl := by
  have hle := popB_le x 64
  obtain ⟨d1, d2⟩ := ask_dm a ha e he2
  rw [f_X7_ask_L30, if_neg (ge640 (by omega)), h.1, if_neg (nI_nle hN (by omega)), jn_1, d1, d2, if_pos (le8 he (by omega))]
  unfold jn_ lt_ f_X7_less
  dsimp only
  rw [nI_1, Nat.add_assoc, if_pos (show be ≤ be from Int32.le_iff_toInt_le.mpr (Int.le_refl _)), if_pos (show be ≤ be from Int32.le_iff_toInt_le.mpr (Int.le_refl _))]
theorem askM_R {x : Int64} {s q : Nat → Nat → Int32} (h : fitP x 64 s q) (hN : 0 < popB x 64) (k : Int32 → Int32 → (Int32 × (Nat → Nat → Int32))) {a m : Nat} (ha : a < 64) : ∀ (n e : Nat) (p : Int32 × Int32), e + n = 8 → f_X7_ask_L30 q k (m + n) (nI (10 * a + e)) p.2 p.1 = f_X7_ask_L30 q k m (nI (10 * a + 8)) (askR x a n e p).2 (askR x a n e p).1 := by
  intro n
  induction n with
  | zero =>
    intro e p he
    have e8 : e = 8 := by omega
    rw [Nat.add_zero, e8, askR]
  | succ n ih =>
    intro e p he
    rw [← Nat.add_assoc, askM_1 h hN k ha (by omega), ih (e + 1) _ (by omega), askR]
theorem askM_A {x : Int64} {s q : Nat → Nat → Int32} (h : fitP x 64 s q) (hN : 0 < popB x 64) (k : Int32 → Int32 → (Int32 × (Nat → Nat → Int32))) : ∀ (n a : Nat) (p : Int32 × Int32), a + n = 64 → f_X7_ask_L30 q k (10 * n) (nI (10 * a)) p.2 p.1 = k (askA x n a p).2 (askA x n a p).1 := by
  intro n
  induction n with
  | zero =>
    intro a p ha
    rw [Nat.mul_zero, f_X7_ask_L30, askA]
  | succ n ih =>
    intro a p ha
    have r := askM_R h hN k (a := a) (m := 10 * n + 2) (by omega) 8 0 p (by omega)
    rw [show 10 * a + 0 = 10 * a from rfl, show 10 * n + 2 + 8 = 10 * (n + 1) by omega] at r
    rw [r, askM_0 h hN k (by omega) (by omega) (by omega), askM_0 h hN k (by omega) (by omega) (by omega), show 10 * a + (8 + 1 + 1) = 10 * (a + 1) by omega, ih (a + 1) _ (by omega), askA]
theorem askS_p {x : Int64} {a e : Nat} {p : Int32 × Int32} (ha : a < 64) (he : e < 8) (h : ¬ p.1 < 0) : ¬ (askS x a e p).1 < 0 := by
  unfold askS
  split
  · exact h
  · exact nI_pos (by omega)
theorem askR_p {x : Int64} {a : Nat} (ha : a < 64) : ∀ (n e : Nat) (p : Int32 × Int32), e + n = 8 → ¬ p.1 < 0 → ¬ (askR x a n e p).1 < 0
  | 0, _, _, _, h => h
  | n + 1, e, p, he, h => by
    rw [askR]
    exact askR_p ha n (e + 1) _ (by omega) (askS_p ha (by omega) h)
theorem askA_p {x : Int64} : ∀ (n a : Nat) (p : Int32 × Int32), a + n = 64 → ¬ p.1 < 0 → ¬ (askA x n a p).1 < 0
  | 0, _, _, _, h => h
  | n + 1, a, p, ha, h => by
    rw [askA]
    exact askA_p n (a + 1) _ (by omega) (askR_p (by omega) 8 0 p (by omega) h)
theorem ask_pos (x : Int64) : ¬ (askA x 64 0 (-6, nI (popB x 64 + 1))).1 < 0 := by
  have h1 := askV_le x 0 0
  have hle := popB_le x 64
  have e : askS x 0 0 (-6, nI (popB x 64 + 1)) = (nI (10 * 0 + 0), nI (askV x 0 0)) := if_neg (nI_ge (by omega) (by omega))
  rw [askA, askR, e]
  exact askA_p 63 1 _ (by omega) (askR_p (by omega) 7 1 _ (by omega) (nI_pos (by decide)))
theorem pop_0 {x : Int64} (h : popB x 64 = 0) : x = 0 := by
  rcases low_ex x 64 with g | ⟨k, h1, h2, _⟩
  · exact lb_ext (fun c hc => by rw [g c hc, lb_0])
  · have := popB_lt h2 h1
    omega
theorem popB_z : ∀ n, popB 0 n = 0
  | 0 => rfl
  | n + 1 => by rw [popB, popB_z n, lb_0, if_neg (by decide)]
theorem askM_z {q : Nat → Nat → Int32} (h : q 0 28 = nI 0) (k : Int32 → Int32 → (Int32 × (Nat → Nat → Int32))) {n : Nat} {z be pl : Int32} (hz : ¬ (640 : Int32) ≤ z) : f_X7_ask_L30 q k (n + 1) z be pl = k be pl := by
  rw [f_X7_ask_L30, if_neg hz, h, if_pos (by decide)]
set_option maxHeartbeats 1000000 in
theorem s_ask : lwS18 InvR := by
  intro L I st x1 hR
  unfold f_X6_ask f_X7_ask
  rw [in_eq x1 (a' := 0) (b' := 1) (by decide) (by decide)]
  by_cases c1 : f_X6_within x1 0 1 = 0
  · rw [if_pos c1, if_pos c1]; exact ⟨rfl, hR⟩
  rw [if_neg c1, if_neg c1, lt_1, lt_1]
  have hf := fits_all hR
  have hR' := fits_inv hR hf
  generalize f_X7_findFits st = t at hf hR' ⊢
  by_cases c2 : L 3 8 = 0
  · have hN0 : t 0 28 = nI 0 := by rw [hf.1, c2, popB_z]
    have hM := askM_z hN0 (fun (w30_3 : Int32) (w30_2 : Int32) => jn_ (fun (_ : Unit) => (w30_2, t)) (fun j109 => if w30_2 < 0 then j109 () else if x1 = 0 then j109 () else (w30_3, t))) (n := 639) (z := 0) (be := t 0 28 + 1) (pl := -6) (by decide)
    rw [if_pos ((lg_cmp_eq _ _).mpr c2)]
    have hM2 : f_X7_ask_L30 t (fun (w30_3 : Int32) (w30_2 : Int32) => jn_ (fun (_ : Unit) => (w30_2, t)) (fun j109 => if w30_2 < 0 then j109 () else if x1 = 0 then j109 () else (w30_3, t))) 640 0 (t 0 28 + 1) (-6) = (-6, t) := by
      refine Eq.trans hM ?_
      rw [jn_1, if_pos (by decide)]
    rw [hM2]
    exact ⟨rfl, hR'⟩
  · have hN : 0 < popB (L 3 8) 64 := Nat.pos_of_ne_zero (fun q => c2 (pop_0 q))
    have ha := askM_A hf hN (fun (w30_3 : Int32) (w30_2 : Int32) => jn_ (fun (_ : Unit) => (w30_2, t)) (fun j109 => if w30_2 < 0 then j109 () else if x1 = 0 then j109 () else (w30_3, t))) 64 0 (-6, nI (popB (L 3 8) 64 + 1)) (by omega)
    have hb := askC_A (x := L 3 8) (fun (w17_5 : Int32) (w17_4 : Int32) => if x1 = 0 then w17_5 else w17_4) 64 0 (-6, nI (popB (L 3 8) 64 + 1)) (by omega)
    have hp := ask_pos (L 3 8)
    rw [nI_0] at hb
    rw [Nat.mul_zero, nI_0] at ha
    generalize askA (L 3 8) 64 0 (-6, nI (popB (L 3 8) 64 + 1)) = r at ha hb hp
    have hC : f_X6_bestNextLook (L 3 8) x1 = if x1 = 0 then r.1 else r.2 := by
      unfold f_X6_bestNextLook
      have e : f_J13_bitCount_95d88 (L 3 8) + 1 = nI (popB (L 3 8) 64 + 1) := by rw [bc_pop, nI_1]
      rw [lt_1, lt_1, e]
      exact hb
    have hM : f_X7_ask_L30 t (fun (w30_3 : Int32) (w30_2 : Int32) => jn_ (fun (_ : Unit) => (w30_2, t)) (fun j109 => if w30_2 < 0 then j109 () else if x1 = 0 then j109 () else (w30_3, t))) 640 0 (nI (popB (L 3 8) 64 + 1)) (-6) = if x1 = 0 then (r.1, t) else (r.2, t) := by
      refine Eq.trans ha ?_
      rw [jn_1, if_neg hp]
    rw [if_neg (fun q => c2 ((lg_cmp_eq _ _).mp q)), hC, hf.1, nI_1, hM]
    by_cases c3 : x1 = 0
    · rw [if_pos c3, if_pos c3]; exact ⟨rfl, hR'⟩
    · rw [if_neg c3, if_neg c3]; exact ⟨rfl, hR'⟩
