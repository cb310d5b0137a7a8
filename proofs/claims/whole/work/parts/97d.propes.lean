/-! ropes: the fewest, both sides -/
theorem stp_lt {L v q : Nat} (hv : v ≤ 576) (hq : q ≤ 9) : stp L v q < 10000 := by
  unfold stp
  split <;> omega
theorem min_nI {a b : Nat} (ha : a < 2 ^ 31) (hb : b < 2 ^ 31) : jmin (nI a) (nI b) = nI (if b < a then b else a) := by
  unfold jmin
  by_cases c : b < a
  · rw [if_pos (nI_lt c ha), if_pos c]
  · rw [if_neg (nI_nlt (by omega) hb), if_neg c]
theorem lc_L {L N M : Nat} {p : Nat → Nat} {i f g : Nat → Int32} (hN : N ≤ 9) (hL : 9 ≤ L ∧ L ≤ 30) (hp : ∀ k, p k ≤ 9) (hM : M < 512) (hM2 : M < 2 ^ N) (hi : i 2 = nI N) (hf : ∀ k, k < N → f k = nI (p k)) (hg : ∀ K, K < M → K < 2 ^ N → g K = nI (tT L N p K)) (kk : Int32 → Int32) :
    ∀ (n k : Nat), k + n = 9 → k ≤ N → f_X3_leastCut_L7 (nI M) (nI L) i f g kk n (nI k) (nI (lmO (fun k => M.testBit k) (fun k => stp L (tT L N p (M - 2 ^ k)) (p k)) 576 k)) = kk (nI (lmO (fun k => M.testBit k) (fun k => stp L (tT L N p (M - 2 ^ k)) (p k)) 576 N)) := by
  intro n
  induction n with
  | zero =>
    intro k hk hkN
    have e : k = N := by omega
    rw [f_X3_leastCut_L7, e]
  | succ n ih =>
    intro k hk hkN
    rw [f_X3_leastCut_L7, hi]
    by_cases q : N ≤ k
    · have e : k = N := by omega
      rw [if_pos (nI_le q (by omega)), e]
    · have hk9 : k < 9 := by omega
      have h2 := ih (k + 1) (by omega) (by omega)
      rw [lmO] at h2
      obtain ⟨b1, _, _⟩ := lmO_le (fun k => M.testBit k) (fun k => stp L (tT L N p (M - 2 ^ k)) (p k)) 576 k
      generalize lmO (fun k => M.testBit k) (fun k => stp L (tT L N p (M - 2 ^ k)) (p k)) 576 k = acc at b1 h2 ⊢
      rw [if_neg (nI_ge (by omega) (by omega)), if_neg (ge9 hk9), lt_1, mk_C M hM k hk9, nI_clamp (show k < 2 ^ 31 by omega), hf k (by omega), jn_1]
      by_cases hb : M.testBit k = true
      · obtain ⟨r1, _, _⟩ := mk_b M hM k hk9 hb
        have er : rmv M k = M - 2 ^ k := by rw [rmv, if_pos hb]
        have hT := tT_lt hN hL (fun k _ => hp k) (M := M - 2 ^ k) (by omega) (by omega)
        rw [er, if_neg (fun q => by have := (nI_eq (by omega) (by omega)).mp q; omega), if_neg (nI_pos (by omega)), if_neg (ge512 (by omega)), nI_clamp (by omega), hg (M - 2 ^ k) (by omega) (by omega), cut_C hL.2 (by omega) (hp k), min_nI (by omega) (by have := stp_lt (L := L) (v := tT L N p (M - 2 ^ k)) (q := p k) (by omega) (hp k); omega), lt_1]
        rw [if_pos hb] at h2
        dsimp only
        rw [lt_1, nI_1]
        exact h2
      · have er : rmv M k = M := by rw [rmv, if_neg hb]
        rw [er, if_pos rfl]
        rw [if_neg hb] at h2
        dsimp only
        rw [lt_1, nI_1]
        exact h2
theorem fr_L {L N : Nat} {p : Nat → Nat} {i f : Nat → Int32} (hN : N ≤ 9) (hL : 9 ≤ L ∧ L ≤ 30) (hp : ∀ k, p k ≤ 9) (hi : i 2 = nI N) (hf : ∀ k, k < N → f k = nI (p k)) (k : (Nat → Int32) → (Int32 × (Nat → Int32))) :
    ∀ (n M : Nat) (g : Nat → Int32), M + n = 513 → 1 ≤ M → (∀ K, K < M → K < 2 ^ N → g K = nI (tT L N p K)) → ∃ g', (∀ K, K < 2 ^ N → g' K = nI (tT L N p K)) ∧ f_X3_fewestRopes_L2 (nI L) i f k n (nI M) g = k g' := by
  have h2N : 2 ^ N ≤ 512 := Nat.pow_le_pow_right (n := 2) (by decide) hN
  intro n
  induction n with
  | zero =>
    intro M g hM _ hg
    exact ⟨g, fun K hK => hg K (by omega) hK, by rw [f_X3_fewestRopes_L2]⟩
  | succ n ih =>
    intro M g hM h1 hg
    rw [f_X3_fewestRopes_L2, hi, mk_s N (by omega)]
    by_cases q : 2 ^ N ≤ M
    · rw [if_pos (nI_le q (by omega))]
      exact ⟨g, fun K hK => hg K (by omega) hK, rfl⟩
    · have hM5 : M < 512 := by omega
      have hl := lc_L hN hL hp hM5 (by omega) hi hf hg (fun (w7_3 : Int32) => w7_3) 9 0 rfl (Nat.zero_le _)
      have e : f_X3_leastCut (nI M) (nI L) i f g = nI (tT L N p M) := by
        rw [tT_s hN hM5 (by omega)]
        exact hl
      rw [if_neg (nI_ge (by omega) (by omega)), if_neg (ge512 hM5), e, lt_1, lt_1, nI_1, nI_clamp (by omega)]
      refine ih (M + 1) _ (by omega) (by omega) (fun K hK hK2 => ?_)
      by_cases c : K = M
      · rw [c, u1_s]
      · rw [u1_n _ _ c]; exact hg K (by omega) hK2
theorem fewest_C {L N : Nat} {p : Nat → Nat} {i f : Nat → Int32} (g : Nat → Int32) (hN : N ≤ 9) (hL : 9 ≤ L ∧ L ≤ 30) (hp : ∀ k, p k ≤ 9) (hi : i 2 = nI N) (hf : ∀ k, k < N → f k = nI (p k)) (h0 : g 0 = 0) : (f_X3_fewestRopes (nI L) i f g).1 = nI (tT L N p (2 ^ N - 1) / 64 + 1) ∧ (f_X3_fewestRopes (nI L) i f g).2 0 = 0 := by
  have h2N : 2 ^ N ≤ 512 := Nat.pow_le_pow_right (n := 2) (by decide) hN
  have hpos : 0 < 2 ^ N := Nat.two_pow_pos N
  obtain ⟨g', h1, h2⟩ := fr_L hN hL hp hi hf (fun (w2_g : Nat → Int32) => lt_ ((jshl (1 : Int32) (i 2)) - (1 : Int32)) (fun (y47 : Int32) => jn_ (fun (_ : Unit) => ((-6 : Int32), w2_g)) (fun j61 => if y47 < 0 then j61 () else if y47 < (512 : Int32) then ((((w2_g (Int32.toNatClampNeg y47)) / (64 : Int32)) + (1 : Int32)), w2_g) else j61 ()))) 512 1 g rfl (Nat.le_refl 1) (fun K hK _ => by
    have e : K = 0 := by omega
    rw [e, h0, tT_0]; rfl)
  have e : f_X3_fewestRopes (nI L) i f g = _ := h2
  have eN : nI (2 ^ N) - 1 = nI (2 ^ N - 1) := nI_sub (b := 1) hpos
  have hT := tT_lt hN hL (fun k _ => hp k) (M := 2 ^ N - 1) (by omega) (by omega)
  have e64 : nI (tT L N p (2 ^ N - 1)) / 64 = nI (tT L N p (2 ^ N - 1) / 64) := div_I (u := 64) (by decide) (by decide) (by omega)
  rw [e]
  rw [hi, mk_s N (by omega), eN, lt_1, jn_1, if_neg (nI_pos (by omega)), if_pos (show nI (2 ^ N - 1) < (512 : Int32) from nI_lt (b := 512) (by omega) (by decide)), nI_clamp (by omega), h1 _ (by omega), e64, nI_1]
  refine ⟨rfl, ?_⟩
  show g' 0 = 0
  rw [h1 0 hpos, tT_0]
  rfl
/-! the reference's -/
def isB (L N M : Nat) (q : Nat → Nat) (k : Nat) (w : Int32) : Prop := (w = -6 ∧ ∀ j, j < k → M.testBit j = false) ∨ ∃ m, w = nI (phi m) ∧ m < 10000 ∧ (∃ j, j < k ∧ M.testBit j = true ∧ m = stp L (tT L N q (M - 2 ^ j)) (q j)) ∧ ∀ j, j < k → M.testBit j = true → m ≤ stp L (tT L N q (M - 2 ^ j)) (q j)
theorem ro_g {R : Type} (G : Int32 → Int32 → R) (z5 z4 c : Int32) (b : Bool) (hb : (jshr c z5 &&& (1 : Int32)) = bI b) (v : Int32) :
    (jn_ (fun (z44_s0 : Int32) => jn_ (fun (z80_s0 : Int32) => jn_ (fun (z106_s0 : Int32) => lt_ (z5 + (1 : Int32)) (fun (y108 : Int32) => G y108 z106_s0)) (fun j106 => jn_ (fun (_ : Unit) => j106 z4) (fun j104 => if z44_s0 = 0 then j104 () else jn_ (fun (_ : Unit) => j106 z80_s0) (fun j99 => if z4 < 0 then j99 () else if z4 ≤ z80_s0 then j104 () else j99 ())))) (fun j80 => if z44_s0 = 0 then j80 (-6 : Int32) else j80 v)) (fun j44 => if ((jshr c z5) &&& (1 : Int32)) = (1 : Int32) then j44 (1 : Int32) else j44 (0 : Int32))) =
    G (z5 + 1) (if b = true then (if z4 < 0 then v else if z4 ≤ v then z4 else v) else z4) := by
  have z0 : (0 : Int32) = 0 := rfl
  have z1 : ¬ (1 : Int32) = 0 := by decide
  rw [jn_1, hb]
  cases b
  · rw [if_neg (show ¬ bI false = 1 by decide), if_neg (show ¬ false = true by decide)]
    dsimp only
    rw [jn_1, if_pos z0]
    dsimp only
    rw [jn_1, jn_1, if_pos z0]
    rfl
  · rw [if_pos (show bI true = 1 from rfl), if_pos (show true = true from rfl)]
    dsimp only
    rw [jn_1, if_neg z1]
    dsimp only
    rw [jn_1, jn_1, if_neg z1, jn_1]
    by_cases c1 : z4 < 0
    · rw [if_pos c1, if_pos c1]; rfl
    rw [if_neg c1, if_neg c1]
    by_cases c2 : z4 ≤ v
    · rw [if_pos c2, if_pos c2]; rfl
    · rw [if_neg c2, if_neg c2]; rfl
theorem ro_L {L N M : Nat} {q : Nat → Nat} {st : Nat → Nat → Int32} (hN : N ≤ 9) (hL : 9 ≤ L ∧ L ≤ 30) (hq : ∀ k, q k ≤ 9) (hM : M < 512) (hM2 : M < 2 ^ N) (hf : ∀ k, k < N → st 26 k = nI (q k)) (hg : ∀ K, K < M → K < 2 ^ N → st 27 K = nI (phi (tT L N q K))) (kk : Int32 → (Int32 × (Nat → Nat → Int32))) :
    ∀ (n k : Nat) (w : Int32), k + n = 9 → k ≤ N → isB L N M q k w → ∃ w', isB L N M q N w' ∧ f_X7_ropesOf_L23 (nI N) (nI L) (nI M) st kk n (nI k) w = kk w' := by
  intro n
  induction n with
  | zero =>
    intro k w hk hkN h
    have e : k = N := by omega
    subst e
    exact ⟨w, h, by rw [f_X7_ropesOf_L23]⟩
  | succ n ih =>
    intro k w hk hkN h
    rw [f_X7_ropesOf_L23]
    by_cases c : N ≤ k
    · have e : k = N := by omega
      subst e
      rw [if_pos (nI_le (Nat.le_refl _) (by omega))]
      exact ⟨w, h, rfl⟩
    · have hk9 : k < 9 := by omega
      rw [if_neg (nI_ge (by omega) (by omega)), ro_g (f_X7_ropesOf_L23 (nI N) (nI L) (nI M) st kk n) (nI k) w (nI M) (M.testBit k) (mk_M M hM k hk9), mk_C M hM k hk9, nI_clamp (show k < 2 ^ 31 by omega), hf k (by omega), nI_1]
      cases hb : M.testBit k
      · rw [if_neg (by decide)]
        refine ih (k + 1) w (by omega) (by omega) ?_
        rcases h with ⟨h1, h2⟩ | ⟨m, h1, h2, ⟨j, j1, j2, j3⟩, h4⟩
        · exact Or.inl ⟨h1, fun j hj => by
            by_cases e : j = k
            · rw [e]; exact hb
            · exact h2 j (by omega)⟩
        · exact Or.inr ⟨m, h1, h2, ⟨j, by omega, j2, j3⟩, fun j hj hjb => by
            by_cases e : j = k
            · rw [e, hb] at hjb; cases hjb
            · exact h4 j (by omega) hjb⟩
      · obtain ⟨r1, _, _⟩ := mk_b M hM k hk9 hb
        have er : rmv M k = M - 2 ^ k := by rw [rmv, if_pos hb]
        have hT := tT_lt hN hL (fun k _ => hq k) (M := M - 2 ^ k) (by omega) (by omega)
        have hs := stp_lt (L := L) (v := tT L N q (M - 2 ^ k)) (q := q k) (by omega) (hq k)
        rw [if_pos rfl, er, nI_clamp (by omega), hg (M - 2 ^ k) (by omega) (by omega), cut_M hL.2 (by omega) (hq k)]
        have hphi : phi (stp L (tT L N q (M - 2 ^ k)) (q k)) < 2 ^ 31 := by unfold phi; omega
        rcases h with ⟨h1, h2⟩ | ⟨m, h1, h2, ⟨j, j1, j2, j3⟩, h4⟩
        · rw [h1, if_pos (by decide)]
          refine ih (k + 1) _ (by omega) (by omega) (Or.inr ⟨_, rfl, hs, ⟨k, by omega, hb, rfl⟩, fun j hj hjb => ?_⟩)
          by_cases e : j = k
          · rw [e]; exact Nat.le_refl _
          · rw [h2 j (by omega)] at hjb; cases hjb
        · have hphim : phi m < 2 ^ 31 := by unfold phi; omega
          rw [h1, if_neg (nI_pos hphim)]
          by_cases g : m ≤ stp L (tT L N q (M - 2 ^ k)) (q k)
          · rw [if_pos (nI_le (phi_le g) hphi)]
            refine ih (k + 1) _ (by omega) (by omega) (Or.inr ⟨m, rfl, h2, ⟨j, by omega, j2, j3⟩, fun j hj hjb => ?_⟩)
            by_cases e : j = k
            · rw [e]; exact g
            · exact h4 j (by omega) hjb
          · rw [if_neg (nI_ge (phi_lt (by omega)) hphim)]
            refine ih (k + 1) _ (by omega) (by omega) (Or.inr ⟨_, rfl, hs, ⟨k, by omega, hb, rfl⟩, fun j hj hjb => ?_⟩)
            by_cases e : j = k
            · rw [e]; exact Nat.le_refl _
            · have := h4 j (by omega) hjb
              omega
theorem isB_end {L N M : Nat} {q : Nat → Nat} {w : Int32} (hN : N ≤ 9) (hL : 9 ≤ L ∧ L ≤ 30) (hq : ∀ k, q k ≤ 9) (hM : M < 512) (hM2 : M < 2 ^ N) (h0 : M ≠ 0) (h : isB L N M q N w) : w = nI (phi (tT L N q M)) := by
  obtain ⟨k, hk, hb⟩ := mk_e M hM h0
  have hkN := mk_h N (by omega) M hM hM2 k hk hb
  have hT := tT_lt hN hL (fun k _ => hq k) hM hM2
  rw [tT_s hN hM h0] at hT ⊢
  obtain ⟨a1, a2, a3⟩ := lmO_le (fun k => M.testBit k) (fun k => stp L (tT L N q (M - 2 ^ k)) (q k)) 576 N
  rcases h with ⟨_, h2⟩ | ⟨m, h1, h2, ⟨j, j1, j2, j3⟩, h4⟩
  · rw [h2 k hkN] at hb; cases hb
  · rcases a3 with a | ⟨i, i1, i2, i3⟩
    · omega
    · have l1 := a2 j j1 j2
      have l2 := h4 i i1 i2
      have e : m = lmO (fun k => M.testBit k) (fun k => stp L (tT L N q (M - 2 ^ k)) (q k)) 576 N := by
        have i3' : lmO (fun k => M.testBit k) (fun k => stp L (tT L N q (M - 2 ^ k)) (q k)) 576 N = stp L (tT L N q (M - 2 ^ i)) (q i) := i3
        have l1' : lmO (fun k => M.testBit k) (fun k => stp L (tT L N q (M - 2 ^ k)) (q k)) 576 N ≤ stp L (tT L N q (M - 2 ^ j)) (q j) := l1
        omega
      rw [h1, e]
theorem ro9 {L N : Nat} {q : Nat → Nat} {s0 : Nat → Nat → Int32} (hN : N ≤ 9) (hL : 9 ≤ L ∧ L ≤ 30) (hq : ∀ k, q k ≤ 9) (hf : ∀ k, k < N → s0 26 k = nI (q k)) (k : (Nat → Nat → Int32) → (Int32 × (Nat → Nat → Int32))) :
    ∀ (n M : Nat) (st : Nat → Nat → Int32), M + n = 513 → 1 ≤ M → (∀ r, r ≠ 27 → st r = s0 r) → (∀ K, K < M → K < 2 ^ N → st 27 K = nI (phi (tT L N q K))) → ∃ t, (∀ r, r ≠ 27 → t r = s0 r) ∧ (∀ K, K < 2 ^ N → t 27 K = nI (phi (tT L N q K))) ∧ f_X7_ropesOf_L9 (nI N) (nI L) k n (nI M) st = k t := by
  have h2N : 2 ^ N ≤ 512 := Nat.pow_le_pow_right (n := 2) (by decide) hN
  intro n
  induction n with
  | zero =>
    intro M st hM _ hs hg
    exact ⟨st, hs, fun K hK => hg K (by omega) hK, by rw [f_X7_ropesOf_L9]⟩
  | succ n ih =>
    intro M st hM h1 hs hg
    rw [f_X7_ropesOf_L9, mk_s N (by omega)]
    by_cases c : 2 ^ N ≤ M
    · rw [if_pos (nI_le c (by omega))]
      exact ⟨st, hs, fun K hK => hg K (by omega) hK, rfl⟩
    · have hM5 : M < 512 := by omega
      rw [if_neg (nI_ge (by omega) (by omega))]
      obtain ⟨w', w1, w2⟩ := ro_L hN hL hq hM5 (by omega) (fun k hk => by rw [hs 26 (by decide)]; exact hf k hk) hg (fun (w23_4 : Int32) => lt_ (nI M + (1 : Int32)) (fun (y122 : Int32) => f_X7_ropesOf_L9 (nI N) (nI L) k n y122 (u2 st 27 ((Int32.toNatClampNeg (nI M))) w23_4))) 9 0 (-6) rfl (Nat.zero_le _) (Or.inl ⟨rfl, fun j hj => absurd hj (Nat.not_lt_zero j)⟩)
      rw [nI_0] at w2
      have ew := isB_end hN hL hq hM5 (by omega) (by omega) w1
      rw [w2, lt_1, nI_1, nI_clamp (by omega), ew]
      refine ih (M + 1) _ (by omega) (by omega) (fun r hr => by rw [u2_p _ _ hr, hs r hr]) (fun K hK hK2 => ?_)
      rw [u2_v]
      by_cases e : K = M
      · rw [if_pos e, e]
      · rw [if_neg e]; exact hg K (by omega) hK2
theorem fewest_M {L N : Nat} {q : Nat → Nat} {st : Nat → Nat → Int32} (hN : N ≤ 9) (hL : 9 ≤ L ∧ L ≤ 30) (hq : ∀ k, q k ≤ 9) (hf : ∀ k, k < N → st 26 k = nI (q k)) : ∃ t, (∀ r, r ≠ 27 → t r = st r) ∧ f_X7_ropesOf (nI N) (nI L) st = (nI (tT L N q (2 ^ N - 1) / 64 + 1), t) := by
  have h2N : 2 ^ N ≤ 512 := Nat.pow_le_pow_right (n := 2) (by decide) hN
  have hpos : 0 < 2 ^ N := Nat.two_pow_pos N
  obtain ⟨t, h1, h2, h3⟩ := ro9 (s0 := st) hN hL hq hf (fun (w9_st : Nat → Nat → Int32) => (((1 : Int32) + ((w9_st 27 (Int32.toNatClampNeg ((jshl (1 : Int32) (nI N)) - (1 : Int32)))) / (100 : Int32))), w9_st)) 512 1 (u2 st 27 0 0) rfl (Nat.le_refl 1) (fun r hr => u2_p _ _ hr) (fun K hK _ => by
    have e : K = 0 := by omega
    rw [e, u2_s, tT_0]; rfl)
  have e : f_X7_ropesOf (nI N) (nI L) st = _ := h3
  have eN : nI (2 ^ N) - 1 = nI (2 ^ N - 1) := nI_sub (b := 1) hpos
  have hT := tT_lt hN hL (fun k _ => hq k) (M := 2 ^ N - 1) (by omega) (by omega)
  refine ⟨t, h1, ?_⟩
  rw [e]
  have e100 : nI (phi (tT L N q (2 ^ N - 1))) / 100 = nI (phi (tT L N q (2 ^ N - 1)) / 100) := div_I (u := 100) (by decide) (by decide) (by unfold phi; omega)
  have ep : phi (tT L N q (2 ^ N - 1)) / 100 = tT L N q (2 ^ N - 1) / 64 := by unfold phi; omega
  rw [mk_s N (by omega), eN, nI_clamp (by omega), h2 _ (by omega), e100, ep, show (1 : Int32) = nI 1 from rfl, nI_add, Nat.add_comm]
theorem tT_r {L N : Nat} {p q : Nat → Nat} (hN : N ≤ 9) (hq : ∀ k, k < N → q k = p (N - 1 - k)) : tT L N q (2 ^ N - 1) = tT L N p (2 ^ N - 1) := by
  have h2N : 2 ^ N ≤ 512 := Nat.pow_le_pow_right (n := 2) (by decide) hN
  have hpos : 0 < 2 ^ N := Nat.two_pow_pos N
  refine vT_r hN hq 512 _ _ (by omega) (by omega) (by omega) (by omega) (fun k hk => ?_)
  rw [mk_n N (by omega) k (by omega), mk_n N (by omega) (N - 1 - k) (by omega), decide_eq_true hk, decide_eq_true (by omega)]
