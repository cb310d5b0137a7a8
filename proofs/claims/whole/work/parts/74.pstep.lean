/-! one act: both sides step alike -/
def stOK (lo : Nat → Int64) (i' f v v' : Nat → Int32) (st st' : Nat → Nat → Int32) : Prop :=
  seaR lo i' f st' ∧ (v' 1 = v 1 + 1 ∧ v' 2 = v 2 ∧ v' 3 = v 3) ∧ (v 4 = st 0 17 → v' 4 = st' 0 17) ∧ (v 5 = st 0 18 → v' 5 = st' 0 18) ∧
  ((st' 0 19 = st 0 19 ∧ v' 6 = v 6 ∧ v' 7 = v 7) ∨ (st' 0 19 = st 0 19 + 1 ∧ v' 6 = v 6 + 1 ∧ v' 7 = if v 7 = -6 then v 1 else v 7)) ∧
  (∀ k, 7 < k → k ≠ 17 → k ≠ 18 → k ≠ 19 → st' 0 k = st 0 k) ∧ (∀ q, q ≠ 0 → st' q = st q)
def stepR (lo : Nat → Int64) (i f v : Nat → Int32) (st : Nat → Nat → Int32) (a b b' : Int32) : Prop :=
  (∃ y, 0 < y.toInt ∧ f_X7_whyNot a b' st = y ∧ f_X5_tryAct a b v lo i f = (y, v, i)) ∨
  (f_X7_whyNot a b' st = 0 ∧ ∃ v' i', f_X5_tryAct a b v lo i f = (-6, v', i') ∧ stOK lo i' f v v' st (f_X7_happen a b' st))
theorem fr2 {st : Nat → Nat → Int32} {x y : Nat} {p q : Int32} (hx : x ≤ 7 ∨ x = 17 ∨ x = 18 ∨ x = 19) (hy : y ≤ 7 ∨ y = 17 ∨ y = 18 ∨ y = 19) : (∀ k, 7 < k → k ≠ 17 → k ≠ 18 → k ≠ 19 → u2 (u2 st 0 x p) 0 y q 0 k = st 0 k) ∧ (∀ r, r ≠ 0 → u2 (u2 st 0 x p) 0 y q r = st r) :=
  ⟨fun k h7 h17 h18 h19 => by rw [u2_k _ _ (by omega), u2_k _ _ (by omega)], fun r hr => by rw [u2_p _ _ hr, u2_p _ _ hr]⟩
theorem fr1 {st : Nat → Nat → Int32} {x : Nat} {p : Int32} (hx : x ≤ 7 ∨ x = 17 ∨ x = 18 ∨ x = 19) : (∀ k, 7 < k → k ≠ 17 → k ≠ 18 → k ≠ 19 → u2 st 0 x p 0 k = st 0 k) ∧ (∀ r, r ≠ 0 → u2 st 0 x p r = st r) :=
  ⟨fun k h7 h17 h18 h19 => by rw [u2_k _ _ (by omega)], fun r hr => by rw [u2_p _ _ hr]⟩
theorem step0 {lo : Nat → Int64} {i f v : Nat → Int32} {st : Nat → Nat → Int32} (h : seaR lo i f st) {b : Int32} (hb : 0 ≤ b.toInt ∧ b.toInt < 6) : stepR lo i f v st 0 b b := by
  obtain ⟨hg, ⟨a1, a2, a3, a4, a5, a6, a7⟩, hey, ⟨hp, ⟨hw, hu, ho, hz⟩, hmi, hn⟩, hv, hf⟩ := h
  have hwhy : f_X7_whyNot 0 b st = if st 0 4 = b then 1 else 0 := rfl
  have hhap : f_X7_happen 0 b st = u2 (u2 st 0 4 b) 0 5 0 := rfl
  unfold stepR
  rw [try0, hwhy, hhap, a3]
  by_cases c : st 0 4 = b
  · rw [if_pos c, if_pos c]
    exact Or.inl ⟨1, by decide, rfl, rfl⟩
  · rw [if_neg c, if_neg c]
    refine Or.inr ⟨rfl, _, _, rfl, ⟨hg, ⟨a1, a2, rfl, rfl, a5, a6, a7⟩, hey, ⟨hp, ⟨Or.inr hb, hu, ho, hz⟩, hmi, hn⟩, hv, hf⟩, ⟨rfl, rfl, rfl⟩, fun q => q, fun q => q, Or.inl ⟨rfl, rfl, rfl⟩, fr2 (by decide) (by decide)⟩
theorem step1 {lo : Nat → Int64} {i f v : Nat → Int32} {st : Nat → Nat → Int32} (h : seaR lo i f st) {b : Int32} : stepR lo i f v st 1 b b := by
  obtain ⟨hg, ⟨a1, a2, a3, a4, a5, a6, a7⟩, hey, ⟨hp, ⟨hw, hu, ho, hz⟩, hmi, hn⟩, hv, hf⟩ := h
  have hwhy : f_X7_whyNot 1 b st = if st 0 4 = b then 0 else 1 := rfl
  have hhap : f_X7_happen 1 b st = u2 (u2 st 0 4 (-6)) 0 5 0 := rfl
  unfold stepR
  rw [try1, hwhy, hhap, a3]
  by_cases c : st 0 4 = b
  · rw [if_pos c, if_pos c]
    refine Or.inr ⟨rfl, _, _, rfl, ⟨hg, ⟨a1, a2, rfl, rfl, a5, a6, a7⟩, hey, ⟨hp, ⟨Or.inl rfl, hu, ho, hz⟩, hmi, hn⟩, hv, hf⟩, ⟨rfl, rfl, rfl⟩, fun q => q, fun q => q, Or.inl ⟨rfl, rfl, rfl⟩, fr2 (by decide) (by decide)⟩
  · rw [if_neg c, if_neg c]
    exact Or.inl ⟨1, by decide, rfl, rfl⟩
theorem step3 {lo : Nat → Int64} {i f v : Nat → Int32} {st : Nat → Nat → Int32} (h : seaR lo i f st) {b : Int32} (hb : 0 ≤ b.toInt ∧ b.toInt ≤ 7) : stepR lo i f v st 3 b b := by
  obtain ⟨hg, ⟨a1, a2, a3, a4, a5, a6, a7⟩, hey, ⟨hp, ⟨hw, hu, ho, hz⟩, hmi, hn⟩, hv, hf⟩ := h
  have hwhy : f_X7_whyNot 3 b st = if st 0 6 = b then 5 else 0 := rfl
  have hhap : f_X7_happen 3 b st = u2 st 0 6 b := rfl
  unfold stepR
  rw [try3, hwhy, hhap, a5]
  by_cases c : st 0 6 = b
  · rw [if_pos c, if_pos c]
    exact Or.inl ⟨5, by decide, rfl, rfl⟩
  · rw [if_neg c, if_neg c]
    refine Or.inr ⟨rfl, _, _, rfl, ⟨hg, ⟨a1, a2, a3, a4, rfl, a6, a7⟩, hey, ⟨hp, ⟨hw, hu, ho, hz⟩, hb, hn⟩, hv, hf⟩, ⟨rfl, rfl, rfl⟩, fun q => q, fun q => q, Or.inl ⟨rfl, rfl, rfl⟩, fr1 (by decide)⟩
theorem who_iff {w : Int32} (h : w = -6 ∨ 0 ≤ w.toInt ∧ w.toInt < 6) : (w = -6 ↔ ¬ 0 ≤ w) := by
  constructor
  · intro q
    rw [q]
    decide
  · intro q
    exact h.resolve_right (fun k => q (Int32.le_iff_toInt_le.mpr (by rw [show (0 : Int32).toInt = 0 from by decide]; exact k.1)))
theorem step4 {lo : Nat → Int64} {i f v : Nat → Int32} {st : Nat → Nat → Int32} (h : seaR lo i f st) {b b' : Int32} : stepR lo i f v st 4 b b' := by
  have h' := h
  obtain ⟨hg, ⟨a1, a2, a3, a4, a5, a6, a7⟩, hey, ⟨hp, ⟨hw, hu, ho, hz⟩, hmi, hn⟩, hv, hf⟩ := h
  have hwhy : f_X7_whyNot 4 b' st = if 0 ≤ st 0 4 then 0 else 2 := rfl
  have hhap : f_X7_happen 4 b' st = f_X7_call st := rfl
  have hwi := who_iff hw
  unfold stepR
  rw [try4, hwhy, hhap, a3]
  by_cases c : st 0 4 = -6
  · rw [if_pos c, if_neg (hwi.mp c)]
    exact Or.inl ⟨2, by decide, rfl, rfl⟩
  · have c' : 0 ≤ st 0 4 := Decidable.not_not.mp (fun q => c (hwi.mpr q))
    rw [if_neg c, if_pos c']
    have hs0 := seen0 (seaR_0 (t := u2 st 0 18 (st 0 18 + 1)) h' (fun k hk => u2_k _ _ (by omega)) (fun q hq => u2_p _ _ (by omega))) c
    refine Or.inr ⟨rfl, _, _, rfl, ?_⟩
    unfold f_X7_call f_X5_countCall jn_ lt_
    dsimp only
    by_cases d : f_X4_sighted lo i f = 0
    · rw [if_pos (hs0.mpr d), if_pos ((lg_cmp_eq _ _).mpr d)]
      refine ⟨⟨hg, ⟨a1, a2, a3, a4, a5, a6, a7⟩, hey, ⟨hp, ⟨hw, hu, ho, hz⟩, hmi, hn⟩, hv, hf⟩, ?_, ?_, ?_, Or.inr ⟨rfl, ?_, ?_⟩, fr2 (by decide) (by decide)⟩
      · by_cases g : v 7 = -6
        · rw [if_pos g]; exact ⟨rfl, rfl, rfl⟩
        · rw [if_neg g]; exact ⟨rfl, rfl, rfl⟩
      · intro q
        by_cases g : v 7 = -6
        · rw [if_pos g]; exact q
        · rw [if_neg g]; exact q
      · intro q
        by_cases g : v 7 = -6
        · rw [if_pos g, ← show v 5 + 1 = u2 (u2 st 0 18 (st 0 18 + 1)) 0 19 (st 0 19 + 1) 0 18 from congrArg (· + 1) q]; rfl
        · rw [if_neg g, ← show v 5 + 1 = u2 (u2 st 0 18 (st 0 18 + 1)) 0 19 (st 0 19 + 1) 0 18 from congrArg (· + 1) q]; rfl
      · by_cases g : v 7 = -6
        · rw [if_pos g]; rfl
        · rw [if_neg g]; rfl
      · by_cases g : v 7 = -6
        · rw [if_pos g, if_pos g]; rfl
        · rw [if_neg g, if_neg g]; rfl
    · rw [if_neg (fun q => d (hs0.mp q)), if_neg (fun q => d ((lg_cmp_eq _ _).mp q))]
      refine ⟨⟨hg, ⟨a1, a2, a3, a4, a5, a6, a7⟩, hey, ⟨hp, ⟨hw, hu, ho, hz⟩, hmi, hn⟩, hv, hf⟩, ⟨rfl, rfl, rfl⟩, fun q => q, fun q => ?_, Or.inl ⟨?_, rfl, rfl⟩, fr2 (by decide) (by decide)⟩
      · show v 5 + 1 = st 0 18 + 1
        rw [q]
      · show st 0 19 + 0 = st 0 19
        rw [Int32.add_zero]
theorem mi_dec : ∀ m, m < 8 → jmax 0 (nI m - 1) = nI (m - 1) ∧ (nI m ≤ 0 → nI m - 0 = nI (m - 1)) ∧ (¬ nI m ≤ 0 → nI m - 1 = nI (m - 1)) := by decide +kernel
theorem pass_hour {st : Nat → Nat → Int32} {m : Nat} (hm : m < 8) (em : st 0 6 = nI m) : f_X7_passHour st = u2 (u2 (u2 st 0 5 (if 0 ≤ st 0 4 then st 0 5 + 1 else st 0 5)) 0 6 (nI (m - 1))) 0 7 (st 0 7 + 1) := by
  obtain ⟨_, g2, g3⟩ := mi_dec m hm
  unfold f_X7_passHour jn_ lt_
  dsimp only
  rw [em]
  by_cases c : 0 ≤ st 0 4
  · rw [if_pos c, if_pos c]
    by_cases d : nI m ≤ 0
    · rw [if_pos d, g2 d]
    · rw [if_neg d, g3 d]
  · rw [if_neg c, if_neg c, Int32.add_zero]
    by_cases d : nI m ≤ 0
    · rw [if_pos d, g2 d]
    · rw [if_neg d, g3 d]
theorem step5 {lo : Nat → Int64} {i f v : Nat → Int32} {st : Nat → Nat → Int32} (h : seaR lo i f st) {b b' : Int32} : stepR lo i f v st 5 b b' := by
  obtain ⟨hg, ⟨a1, a2, a3, a4, a5, a6, a7⟩, hey, ⟨hp, ⟨hw, hu, ho, hz⟩, hmi, hn⟩, hv, hf⟩ := h
  have hwhy : f_X7_whyNot 5 b' st = if st 0 7 = 99 then 6 else 0 := rfl
  have hhap : f_X7_happen 5 b' st = f_X7_passHour st := rfl
  have hwi := who_iff hw
  have k99 : (99 : Int32).toInt = 99 := by decide
  obtain ⟨m, hm, em⟩ : ∃ n, n < 8 ∧ st 0 6 = nI n := nI_ofI hmi.1 (by omega) (by decide)
  unfold stepR
  rw [try5, hwhy, hhap, a6]
  by_cases c : st 0 7 = 99
  · rw [if_pos c, if_neg (by rw [c]; decide)]
    exact Or.inl ⟨6, by decide, rfl, rfl⟩
  · have hc := ti_ne c
    rw [k99] at hc
    rw [if_neg c, if_pos (Int32.lt_iff_toInt_lt.mpr (by omega)), pass_hour hm em]
    have ho' : 0 ≤ (st 0 7 + 1).toInt ∧ (st 0 7 + 1).toInt ≤ 99 := by
      have t : (st 0 7 + 1).toInt = (st 0 7).toInt + 1 := ti_add rfl (by omega) (by omega)
      omega
    have hm' : 0 ≤ (nI (m - 1)).toInt ∧ (nI (m - 1)).toInt ≤ 7 := by
      rw [nI_toInt (by omega)]
      omega
    have e5 : jmax 0 (i 5 - 1) = nI (m - 1) := by rw [a5, em, (mi_dec m hm).1]
    refine Or.inr ⟨rfl, _, _, rfl, ?_⟩
    unfold f_X4_passAnHour lt_
    dsimp only
    rw [a3, a4, a6, e5]
    by_cases d : st 0 4 = -6
    · rw [if_pos d, if_neg (hwi.mp d)]
      exact ⟨⟨hg, ⟨a1, a2, a3, a4, rfl, rfl, a7⟩, hey, ⟨hp, ⟨hw, hu, ho', hz⟩, hm', hn⟩, hv, hf⟩, ⟨rfl, rfl, rfl⟩, fun q => q, fun q => q, Or.inl ⟨rfl, rfl, rfl⟩, fun k h7 h17 h18 h19 => by rw [u2_k _ _ (by omega), u2_k _ _ (by omega), u2_k _ _ (by omega)], fun r hr => by rw [u2_p _ _ hr, u2_p _ _ hr, u2_p _ _ hr]⟩
    · rw [if_neg d, if_pos (Decidable.not_not.mp (fun q => d (hwi.mpr q)))]
      exact ⟨⟨hg, ⟨a1, a2, a3, rfl, rfl, rfl, a7⟩, hey, ⟨hp, ⟨hw, hu, ho', hz⟩, hm', hn⟩, hv, hf⟩, ⟨rfl, rfl, rfl⟩, fun q => q, fun q => q, Or.inl ⟨rfl, rfl, rfl⟩, fun k h7 h17 h18 h19 => by rw [u2_k _ _ (by omega), u2_k _ _ (by omega), u2_k _ _ (by omega)], fun r hr => by rw [u2_p _ _ hr, u2_p _ _ hr, u2_p _ _ hr]⟩
theorem step2 {lo : Nat → Int64} {i f v : Nat → Int32} {st : Nat → Nat → Int32} (h : seaR lo i f st) {b : Int32} (hb : 0 ≤ b.toInt ∧ b.toInt < 8) : stepR lo i f v st 2 b b := by
  obtain ⟨hg, ⟨a1, a2, a3, a4, a5, a6, a7⟩, hey, ⟨hp, ⟨hw, hu, ho, hz⟩, hmi, hn⟩, hv, hf⟩ := h
  have hwhy : f_X7_whyNot 2 b st = if 0 ≤ st 0 4 then if st 0 2 = 0 then 3 else if 0 ≤ f_X7_ahead (st 0 1) b then 0 else 4 else 2 := rfl
  have hhap : f_X7_happen 2 b st = f_X7_sail b st := rfl
  have hwi := who_iff hw
  obtain ⟨p, hp6, ep⟩ : ∃ n, n < 64 ∧ st 0 1 = nI n := nI_ofI hp.1 (by omega) (by decide)
  obtain ⟨d, hd, ed⟩ : ∃ n, n < 8 ∧ b = nI n := nI_ofI hb.1 (by omega) (by decide)
  have en : f_X0_next (i 1) b = f_X7_ahead (st 0 1) b := by rw [a1, ep, ed]; exact next_eq p hp6 d hd
  have k0 : (0 : Int32).toInt = 0 := by decide
  unfold stepR
  rw [try2, hwhy, hhap, a3, a2, en]
  by_cases c1 : st 0 4 = -6
  · rw [if_pos c1, if_neg (hwi.mp c1)]
    exact Or.inl ⟨2, by decide, rfl, rfl⟩
  rw [if_neg c1, if_pos (Decidable.not_not.mp (fun q => c1 (hwi.mpr q)))]
  by_cases c2 : st 0 2 = 0
  · rw [if_pos c2, if_neg (by rw [c2]; decide)]
    exact Or.inl ⟨3, by decide, rfl, rfl⟩
  have hc2 := ti_ne c2
  rw [k0] at hc2
  rw [if_neg c2, if_pos (Int32.lt_iff_toInt_lt.mpr (by omega))]
  have hrng : f_X7_ahead (st 0 1) b = -6 ∨ (0 ≤ (f_X7_ahead (st 0 1) b).toInt ∧ (f_X7_ahead (st 0 1) b).toInt < 64) := beside_rng _ _ _
  by_cases c3 : f_X7_ahead (st 0 1) b = -6
  · rw [if_pos c3, if_neg (by rw [c3]; decide)]
    exact Or.inl ⟨4, by decide, rfl, rfl⟩
  have hr := hrng.resolve_left c3
  rw [if_neg c3, if_pos (Int32.le_iff_toInt_le.mpr (by omega))]
  obtain ⟨z, hz6, ez⟩ : ∃ n, n < 64 ∧ f_X7_ahead (st 0 1) b = nI n := nI_ofI hr.1 (by omega) (by decide)
  have e2 : st 1 (f_X7_ahead (st 0 1) b).toNatClampNeg = bI (lb (lo 0) z) := by rw [ez, nI_clamp (by omega)]; exact hg z hz6
  unfold f_X7_sail lt_
  dsimp only
  rw [e2]
  have e1 : f_X0_holds (lo 0) (f_X7_ahead (st 0 1) b) = bI (lb (lo 0) z) := by rw [ez]; exact hold_b _ hz6
  rw [e1]
  cases hb2 : lb (lo 0) z
  · rw [if_pos (show bI false = 0 from rfl), if_neg (show ¬ bI false = 1 by decide)]
    have e3 : st 1 (f_X7_ahead (st 0 1) b).toNatClampNeg = 0 := by rw [e2, hb2]; rfl
    exact Or.inr ⟨rfl, _, _, rfl, ⟨hg, ⟨rfl, a2, a3, a4, a5, a6, a7⟩, hey, ⟨hr, ⟨hw, hu, ho, e3⟩, hmi, hn⟩, hv, hf⟩, ⟨rfl, rfl, rfl⟩, fun q => q, fun q => q, Or.inl ⟨rfl, rfl, rfl⟩, fr1 (by decide)⟩
  · rw [if_neg (show ¬ bI true = 0 by decide), if_pos (show bI true = 1 from rfl)]
    have hu' : 0 ≤ (st 0 2 - 1).toInt ∧ (st 0 2 - 1).toInt ≤ 9 := by
      have t : (st 0 2 - 1).toInt = (st 0 2).toInt - 1 := ti_sub rfl (by omega) (by omega)
      omega
    exact Or.inr ⟨rfl, _, _, rfl, ⟨hg, ⟨a1, rfl, a3, a4, a5, a6, a7⟩, hey, ⟨hp, ⟨hw, hu', ho, hz⟩, hmi, hn⟩, hv, hf⟩, ⟨rfl, rfl, rfl⟩, fun q => congrArg (· + 1) q, fun q => q, Or.inl ⟨rfl, rfl, rfl⟩, fr2 (by decide) (by decide)⟩
def actV (a b b' : Int32) : Prop := (a = 0 ∧ b = b' ∧ 0 ≤ b.toInt ∧ b.toInt < 6) ∨ (a = 1 ∧ b = b') ∨ (a = 2 ∧ b = b' ∧ 0 ≤ b.toInt ∧ b.toInt < 8) ∨ (a = 3 ∧ b = b' ∧ 0 ≤ b.toInt ∧ b.toInt ≤ 7) ∨ a = 4 ∨ a = 5
theorem step {lo : Nat → Int64} {i f v : Nat → Int32} {st : Nat → Nat → Int32} (h : seaR lo i f st) {a b b' : Int32} (hv : actV a b b') : stepR lo i f v st a b b' := by
  rcases hv with ⟨rfl, rfl, hb⟩ | ⟨rfl, rfl⟩ | ⟨rfl, rfl, hb⟩ | ⟨rfl, rfl, hb⟩ | rfl | rfl
  · exact step0 h hb
  · exact step1 h
  · exact step2 h hb
  · exact step3 h hb
  · exact step4 h
  · exact step5 h
