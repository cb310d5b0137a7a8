/-! voyages: what is seen -/
def seaR (lo : Nat → Int64) (i f : Nat → Int32) (st : Nat → Nat → Int32) : Prop := rSea lo i f (st 0) (st 1) (st 4) (st 9) (st 10) (st 11)
theorem seaR_0 {lo : Nat → Int64} {i f : Nat → Int32} {s t : Nat → Nat → Int32} (h : seaR lo i f s) (hk : ∀ k, k = 1 ∨ k = 2 ∨ k = 4 ∨ k = 5 ∨ k = 6 ∨ k = 7 ∨ k = 11 → t 0 k = s 0 k) (hq : ∀ q, q = 1 ∨ q = 4 ∨ q = 9 ∨ q = 10 ∨ q = 11 → t q = s q) : seaR lo i f t :=
  sea_congr h ⟨rfl, rfl, fun _ _ _ => rfl, fun _ _ => rfl⟩ ⟨⟨hk _ (by decide), hk _ (by decide), hk _ (by decide), hk _ (by decide), hk _ (by decide), hk _ (by decide), hk _ (by decide)⟩, fun c _ => congrFun (hq 1 (by decide)) c, fun c _ => congrFun (hq 4 (by decide)) c, fun c _ => congrFun (hq 9 (by decide)) c, fun c _ => congrFun (hq 10 (by decide)) c, fun c _ => congrFun (hq 11 (by decide)) c⟩
theorem gl_dec : ∀ y, y < 8 → ∀ m, m < 8 → jmax 0 (nI y - nI m) = nI (y - m) ∧ (nI m ≤ nI y → nI y - nI m = nI (y - m)) ∧ (¬ nI m ≤ nI y → (0 : Int32) = nI (y - m)) ∧ nI (y - m) / 2 = nI ((y - m) / 2) := by decide +kernel
theorem glass_eq {lo : Nat → Int64} {i f : Nat → Int32} {st : Nat → Nat → Int32} (h : seaR lo i f st) (hw : ¬ st 0 4 = -6) : ∃ e, e < 8 ∧ f_X4_glass lo i f = nI e ∧ f_X7_glass st = nI e := by
  obtain ⟨_, ⟨_, _, a3, a4, a5, _, _⟩, hey, ⟨_, hwh, hmi, _⟩, _, _⟩ := h
  have hw2 := hwh.1.resolve_left hw
  obtain ⟨a, ha, ea⟩ : ∃ n, n < 6 ∧ st 0 4 = nI n := nI_ofI hw2.1 hw2.2 (by decide)
  obtain ⟨m, hm, em⟩ : ∃ n, n < 8 ∧ st 0 6 = nI n := nI_ofI hmi.1 (by omega) (by decide)
  obtain ⟨e1, e2, e3⟩ := hey a ha
  obtain ⟨y, hy, ey⟩ : ∃ n, n < 8 ∧ st 4 a = nI n := nI_ofI (by omega) (by omega) (by decide)
  obtain ⟨g1, g2, g3, g4⟩ := gl_dec y hy m hm
  have c6 : ¬ (6 : Int32) ≤ nI a := nI_ge (b := 6) ha (by decide)
  have k1 : f_X4_glass lo i f = if st 0 5 ≤ (2 : Int32) then nI (y - m) else nI ((y - m) / 2) := by
    unfold f_X4_glass jn_ lt_
    dsimp only
    rw [a3, ea, if_neg (nI_pos (by omega)), if_neg c6, nI_clamp (by omega), e1, ey, a5, em, a4, g1, g4]
  have k2 : f_X7_glass st = if st 0 5 ≤ (2 : Int32) then nI (y - m) else nI ((y - m) / 2) := by
    unfold f_X7_glass jn_
    dsimp only
    rw [ea, nI_clamp (by omega), ey, em]
    by_cases c : nI m ≤ nI y
    · rw [if_pos c, g2 c, g4]
    · rw [if_neg c, g3 c, g4]
  rw [k1, k2]
  by_cases c : st 0 5 ≤ (2 : Int32)
  · exact ⟨y - m, by omega, if_pos c, if_pos c⟩
  · exact ⟨(y - m) / 2, by omega, if_neg c, if_neg c⟩
theorem sgt_eq {lo : Nat → Int64} {i f : Nat → Int32} {st : Nat → Nat → Int32} (h : seaR lo i f st) (hw : ¬ st 0 4 = -6) : ∃ e p, e < 8 ∧ p < 64 ∧ st 0 1 = nI p ∧ i 1 = nI p ∧ f_X7_glass st = nI e ∧ f_X4_sighted lo i f = (lo 0 &&& f_X0_around (nI p) (nI e)) := by
  obtain ⟨e, he, g1, g2⟩ := glass_eq h hw
  obtain ⟨_, ⟨a1, _, a3, _⟩, _, ⟨hp, _⟩, _⟩ := h
  obtain ⟨p, hp, ep⟩ : ∃ n, n < 64 ∧ st 0 1 = nI n := nI_ofI hp.1 (by omega) (by decide)
  refine ⟨e, p, he, hp, ep, a1.trans ep, g2, ?_⟩
  unfold f_X4_sighted
  rw [if_neg (by rw [a3]; exact hw), g1, a1, ep]
theorem isSeen_eq {lo : Nat → Int64} {i f : Nat → Int32} {st : Nat → Nat → Int32} (h : seaR lo i f st) (hw : ¬ st 0 4 = -6) {c : Nat} (hc : c < 64) : f_X7_isSeen (nI c) st = bI (lb (f_X4_sighted lo i f) c) := by
  obtain ⟨e, p, he, hp, ep, _, hg, hs⟩ := sgt_eq h hw
  rw [hs, lb_and, around_b p hp e he c hc]
  unfold f_X7_isSeen
  rw [nI_clamp (by omega), h.1 c hc, hg, ep]
  cases lb (lo 0) c
  · rw [if_neg (by decide), Bool.false_and]; rfl
  · rw [if_pos (show bI true = 1 from rfl), Bool.true_and]
    by_cases q : nI e < f_X7_far (nI c) (nI p)
    · rw [if_pos q, decide_eq_false (fun h => by have := ti_lt q; have := ti_le h; omega)]; rfl
    · rw [if_neg q, decide_eq_true (Int32.le_iff_toInt_le.mpr (ti_nlt q))]; rfl
theorem sm_L {st : Nat → Nat → Int32} {x : Int64} (hs : ∀ c, c < 64 → f_X7_isSeen (nI c) st = bI (lb x c)) (k : Int32 → Int32) : ∀ (n i : Nat), i + n = 64 → f_X7_seenMany_L4 st k n (nI i) (nI (popB x i)) = k (nI (popB x 64)) := by
  intro n
  induction n with
  | zero =>
    intro i h
    have e : i = 64 := by omega
    rw [f_X7_seenMany_L4, e]
  | succ n ih =>
    intro i h
    have h2 := ih (i + 1) (by omega)
    rw [popB] at h2
    rw [f_X7_seenMany_L4, if_neg (ge64 (by omega)), hs i (by omega)]
    unfold jn_ lt_
    dsimp only
    cases hb : lb x i
    · rw [hb, if_neg (by decide), Nat.add_zero] at h2
      rw [bI_f, if_pos rfl, nI_1, Int32.add_zero]
      exact h2
    · rw [hb, if_pos rfl] at h2
      rw [bI_t, if_neg (by decide), nI_1, nI_1]
      exact h2
theorem seenMany_eq {lo : Nat → Int64} {i f : Nat → Int32} {st : Nat → Nat → Int32} (h : seaR lo i f st) (hw : ¬ st 0 4 = -6) : f_X7_seenMany st = nI (popB (f_X4_sighted lo i f) 64) := by
  have t := sm_L (x := f_X4_sighted lo i f) (fun c hc => isSeen_eq h hw hc) (fun w => w) 64 0 (by omega)
  exact t
theorem seen0 {lo : Nat → Int64} {i f : Nat → Int32} {st : Nat → Nat → Int32} (h : seaR lo i f st) (hw : ¬ st 0 4 = -6) : f_X7_seenMany st = 0 ↔ f_X4_sighted lo i f = 0 := by
  have hle := popB_le (f_X4_sighted lo i f) 64
  rw [seenMany_eq h hw]
  constructor
  · intro q
    exact pop_0 ((nI_eq (b := 0) (by omega) (by decide)).mp q)
  · intro q
    rw [q, popB_z]
    rfl
/-! one act: the class's try -/
theorem try0 (b : Int32) (v : Nat → Int32) (lo : Nat → Int64) (i f : Nat → Int32) : f_X5_tryAct 0 b v lo i f = if i 3 = b then ((1 : Int32), v, i) else ((-6 : Int32), u1 v 1 (v 1 + 1), u1 (u1 i 3 b) 4 0) := by
  have n2 : ¬ (0 : Int32) = 2 := by decide
  have n4 : ¬ (0 : Int32) = 4 := by decide
  have n1 : ¬ (1 : Int32) = -6 := by decide
  unfold f_X5_tryAct f_X4_reasonAgainst f_X4_perform jn_ lt_
  dsimp only
  by_cases c : i 3 = b
  · simp only [reduceIte, n2, n4, if_pos c, n1]
  · simp only [reduceIte, n2, n4, if_neg c]
theorem try1 (b : Int32) (v : Nat → Int32) (lo : Nat → Int64) (i f : Nat → Int32) : f_X5_tryAct 1 b v lo i f = if i 3 = b then ((-6 : Int32), u1 v 1 (v 1 + 1), u1 (u1 i 3 (-6)) 4 0) else ((1 : Int32), v, i) := by
  have n0 : ¬ (1 : Int32) = 0 := by decide
  have n2 : ¬ (1 : Int32) = 2 := by decide
  have n4 : ¬ (1 : Int32) = 4 := by decide
  have n1 : ¬ (1 : Int32) = -6 := by decide
  unfold f_X5_tryAct f_X4_reasonAgainst f_X4_perform jn_ lt_
  dsimp only
  by_cases c : i 3 = b
  · simp only [reduceIte, n2, n4, n0, if_pos c]
  · simp only [reduceIte, n2, n4, n0, if_neg c, n1]
theorem try2 (b : Int32) (v : Nat → Int32) (lo : Nat → Int64) (i f : Nat → Int32) : f_X5_tryAct 2 b v lo i f = if i 3 = -6 then ((2 : Int32), v, i) else if 0 < i 2 then if f_X0_next (i 1) b = -6 then ((4 : Int32), v, i) else if f_X0_holds (lo 0) (f_X0_next (i 1) b) = 0 then ((-6 : Int32), u1 v 1 (v 1 + 1), u1 i 1 (f_X0_next (i 1) b)) else ((-6 : Int32), u1 (u1 v 4 (v 4 + 1)) 1 (v 1 + 1), u1 i 2 (i 2 - 1)) else ((3 : Int32), v, i) := by
  have n0 : ¬ (2 : Int32) = 0 := by decide
  have n1 : ¬ (2 : Int32) = 1 := by decide
  have n4 : ¬ (2 : Int32) = 4 := by decide
  have m2 : ¬ (2 : Int32) = -6 := by decide
  have m3 : ¬ (3 : Int32) = -6 := by decide
  have m4 : ¬ (4 : Int32) = -6 := by decide
  unfold f_X5_tryAct f_X4_reasonAgainst f_X4_reasonAgainstSailing f_X4_perform f_X4_goOrStrike f_X4_isLand jn_ lt_
  dsimp only
  simp only [reduceIte, n0, n1, n4]
  by_cases c1 : i 3 = -6
  · simp only [reduceIte, if_pos c1, m2]
  by_cases c2 : 0 < i 2
  · by_cases c3 : f_X0_next (i 1) b = -6
    · simp only [reduceIte, if_neg c1, if_pos c2, if_pos c3, m4]
    · by_cases c4 : f_X0_holds (lo 0) (f_X0_next (i 1) b) = 0
      · simp only [reduceIte, if_neg c1, if_pos c2, if_neg c3, if_pos c4]
      · simp only [reduceIte, if_neg c1, if_pos c2, if_neg c3, if_neg c4]
        rfl
  · simp only [reduceIte, if_neg c1, if_neg c2, m3]
theorem try3 (b : Int32) (v : Nat → Int32) (lo : Nat → Int64) (i f : Nat → Int32) : f_X5_tryAct 3 b v lo i f = if i 5 = b then ((5 : Int32), v, i) else ((-6 : Int32), u1 v 1 (v 1 + 1), u1 i 5 b) := by
  have n0 : ¬ (3 : Int32) = 0 := by decide
  have n1 : ¬ (3 : Int32) = 1 := by decide
  have n2 : ¬ (3 : Int32) = 2 := by decide
  have n4 : ¬ (3 : Int32) = 4 := by decide
  have m5 : ¬ (5 : Int32) = -6 := by decide
  unfold f_X5_tryAct f_X4_reasonAgainst f_X4_perform jn_ lt_
  dsimp only
  by_cases c : i 5 = b
  · simp only [reduceIte, n2, n4, n0, n1, if_pos c, m5]
  · simp only [reduceIte, n2, n4, n0, n1, if_neg c]
theorem try4 (b : Int32) (v : Nat → Int32) (lo : Nat → Int64) (i f : Nat → Int32) : f_X5_tryAct 4 b v lo i f = if i 3 = -6 then ((2 : Int32), v, i) else ((-6 : Int32), u1 (f_X5_countCall (f_X4_sighted lo i f) v lo i f) 1 (f_X5_countCall (f_X4_sighted lo i f) v lo i f 1 + 1), i) := by
  have n0 : ¬ (4 : Int32) = 0 := by decide
  have n1 : ¬ (4 : Int32) = 1 := by decide
  have n2 : ¬ (4 : Int32) = 2 := by decide
  have n3 : ¬ (4 : Int32) = 3 := by decide
  have m2 : ¬ (2 : Int32) = -6 := by decide
  unfold f_X5_tryAct f_X4_reasonAgainst f_X4_perform jn_ lt_
  dsimp only
  by_cases c : i 3 = -6
  · simp only [reduceIte, n2, n3, n0, n1, if_pos c, m2]
  · simp only [reduceIte, n2, n3, n0, n1, if_neg c]
theorem try5 (b : Int32) (v : Nat → Int32) (lo : Nat → Int64) (i f : Nat → Int32) : f_X5_tryAct 5 b v lo i f = if i 6 < 99 then ((-6 : Int32), u1 v 1 (v 1 + 1), f_X4_passAnHour lo i f) else ((6 : Int32), v, i) := by
  have n0 : ¬ (5 : Int32) = 0 := by decide
  have n1 : ¬ (5 : Int32) = 1 := by decide
  have n2 : ¬ (5 : Int32) = 2 := by decide
  have n3 : ¬ (5 : Int32) = 3 := by decide
  have n4 : ¬ (5 : Int32) = 4 := by decide
  have m6 : ¬ (6 : Int32) = -6 := by decide
  unfold f_X5_tryAct f_X4_reasonAgainst f_X4_perform jn_ lt_
  dsimp only
  by_cases c : i 6 < 99
  · simp only [reduceIte, n2, n3, n0, n1, n4, if_pos c]
  · simp only [reduceIte, n2, n3, n0, n1, n4, if_neg c, m6]
