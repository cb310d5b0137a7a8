/-! the voyage by the text -/
def frS (s t : Nat → Nat → Int32) : Prop := (∀ k, 7 < k → k ≠ 17 → k ≠ 18 → k ≠ 19 → k ≠ 21 → k ≠ 22 → k ≠ 23 → t 0 k = s 0 k) ∧ (∀ q, q ≠ 0 → t q = s q)
def vI (lo : Nat → Int64) (f : Nat → Int32) (s0 : Nat → Nat → Int32) (m : Nat) (v i : Nat → Int32) (st : Nat → Nat → Int32) : Prop :=
  seaR lo i f st ∧ (v 1 = nI m ∧ v 2 = -6 ∧ v 3 = -6) ∧ (v 4 = st 0 17 ∧ v 5 = st 0 18 ∧ v 6 = st 0 19 ∧ v 7 = st 0 23) ∧ (st 0 21 = -6 ∧ st 0 22 = -6) ∧
  (∃ c, c ≤ m ∧ st 0 19 = nI c ∧ (c = 0 → st 0 23 = -6) ∧ (0 < c → 0 ≤ st 0 23)) ∧ frS s0 st
def vE (lo : Nat → Int64) (f : Nat → Int32) (s0 : Nat → Nat → Int32) (M : Nat) (v i : Nat → Int32) (st : Nat → Nat → Int32) : Prop :=
  seaR lo i f st ∧ (v 2 = st 0 21 ∧ v 3 = st 0 22) ∧ (v 4 = st 0 17 ∧ v 5 = st 0 18 ∧ v 6 = st 0 19 ∧ v 7 = st 0 23) ∧ (v 2 = -6 ∧ v 1 = nI M ∨ 0 ≤ (v 2).toInt) ∧ frS s0 st
theorem vE_of {lo : Nat → Int64} {f : Nat → Int32} {s0 : Nat → Nat → Int32} {M : Nat} {v i : Nat → Int32} {st : Nat → Nat → Int32} (h : vI lo f s0 M v i st) : vE lo f s0 M v i st := by
  obtain ⟨h1, ⟨h2, h3, h4⟩, h5, ⟨h6, h7⟩, h8, h9⟩ := h
  exact ⟨h1, ⟨h3.trans h6.symm, h4.trans h7.symm⟩, h5, Or.inl ⟨h3, h2⟩, h9⟩
theorem gv_end {st : Nat → Nat → Int32} {k : (Nat → Nat → Int32) → (Nat → Nat → Int32)} {z : Int32} (h : st 0 16 ≤ z ∨ 0 ≤ st 0 21) : ∀ N, f_X7_goVoyages_L35 k N z st = k st
  | 0 => by rw [f_X7_goVoyages_L35]
  | N + 1 => by
    rw [f_X7_goVoyages_L35]
    by_cases c : st 0 16 ≤ z
    · rw [if_pos c]
    · rw [if_neg c, if_pos (h.resolve_left c)]
theorem why_21 (a b : Int32) (st : Nat → Nat → Int32) (x y : Int32) : f_X7_whyNot a b (u2 (u2 st 0 21 x) 0 22 y) = f_X7_whyNot a b st := rfl
def fstS (st : Nat → Nat → Int32) (z : Int32) : Int32 := if st 0 19 ≤ 0 then st 0 23 else if 0 ≤ st 0 23 then st 0 23 else z
theorem gv_step {st : Nat → Nat → Int32} {k : (Nat → Nat → Int32) → (Nat → Nat → Int32)} {N : Nat} {z a b y : Int32} (h16 : ¬ st 0 16 ≤ z) (h21 : ¬ 0 ≤ st 0 21) (ha : st 15 z.toNatClampNeg = a) (hb : st 16 z.toNatClampNeg = b) (hy : f_X7_whyNot a b st = y) :
    f_X7_goVoyages_L35 k (N + 1) z st = if y = 0 then f_X7_goVoyages_L35 k N (z + 1) (u2 (f_X7_happen a b (u2 (u2 st 0 21 (-6)) 0 22 (-6))) 0 23 (fstS (f_X7_happen a b (u2 (u2 st 0 21 (-6)) 0 22 (-6))) z)) else if y ≤ 0 then f_X7_goVoyages_L35 k N (z + 1) (u2 (u2 (u2 st 0 21 (-6)) 0 22 (-6)) 0 23 (fstS (u2 (u2 st 0 21 (-6)) 0 22 (-6)) z)) else f_X7_goVoyages_L35 k N (z + 1) (u2 (u2 (u2 st 0 21 z) 0 22 y) 0 23 (fstS (u2 (u2 st 0 21 z) 0 22 y) z)) := by
  have key : ∀ w : Nat → Nat → Int32, (jn_ (fun (z138_s0 : Int32) => lt_ (z + (1 : Int32)) (fun (y141 : Int32) => f_X7_goVoyages_L35 k N y141 (u2 w 0 23 z138_s0))) (fun j138 => jn_ (fun (_ : Unit) => j138 (w 0 23)) (fun j134 => if (w 0 19) ≤ 0 then j134 () else if 0 ≤ (w 0 23) then j134 () else j138 z))) = f_X7_goVoyages_L35 k N (z + 1) (u2 w 0 23 (fstS w z)) := by
    intro w
    rw [jn_1, jn_1]
    unfold fstS
    by_cases c : w 0 19 ≤ 0
    · rw [if_pos c, if_pos c]; rfl
    rw [if_neg c, if_neg c]
    by_cases d : 0 ≤ w 0 23
    · rw [if_pos d, if_pos d]; rfl
    · rw [if_neg d, if_neg d]; rfl
  rw [f_X7_goVoyages_L35, if_neg h16, if_neg h21, ha, hb, hy, lt_1, jn_1]
  by_cases c : y ≤ 0
  · rw [if_pos c]
    dsimp only
    rw [jn_1, if_pos c]
    dsimp only
    rw [jn_1]
    by_cases d : y = 0
    · rw [if_pos d, if_pos d, lt_1]
      exact key _
    · rw [if_neg d, if_neg d, if_pos c]
      exact key _
  · have d : ¬ y = 0 := fun q => c (by rw [q]; decide)
    rw [if_neg c]
    dsimp only
    rw [jn_1, if_neg c]
    dsimp only
    rw [jn_1, if_neg d, if_neg d, if_neg c]
    exact key _
theorem sb_end {i3 f3 : Nat → Int32} {q2 : (Nat → Int32) × (Nat → Int64) × (Nat → Int32) × (Nat → Int32)} {k : (Nat → Int32) → (Nat → Int32) → ((Nat → Int32) × (Nat → Int64) × (Nat → Int32) × (Nat → Int32))} {n p m : Nat} {v i : Nat → Int32} (hi : i3 1 = nI n) (hp : n ≤ p) (hp2 : p < 2 ^ 31) : ∀ N, f_X5_sailByText_L10 i3 f3 q2 k N (nI m) (nI p) v i = k v i
  | 0 => by rw [f_X5_sailByText_L10]
  | N + 1 => by
    rw [f_X5_sailByText_L10, hi, if_pos (nI_le hp hp2)]
    by_cases c : nI n ≤ nI m
    · rw [if_pos c]
    · rw [if_neg c]
theorem sail_L {i3 f3 : Nat → Int32} {lo : Nat → Int64} {f : Nat → Int32} {s0 : Nat → Nat → Int32} {n M : Nat} {q2 : (Nat → Int32) × (Nat → Int64) × (Nat → Int32) × (Nat → Int32)} (e1 : q2.2.1 = lo) (e2 : q2.2.2.2 = f) (hn : n ≤ 60) (hi : i3 1 = nI n) (hM : posF i3 f3 M = n) (hpar : parI i3 f3 n M s0) :
    ∀ (N m : Nat) (v i : Nat → Int32) (st : Nat → Nat → Int32), m + N = M → vI lo f s0 m v i st →
      ∃ v' i' st', f_X5_sailByText_L10 i3 f3 q2 (fun (w10_v : Nat → Int32) (w10_i : Nat → Int32) => (w10_v, lo, w10_i, f)) (60 - m) (nI m) (nI (posF i3 f3 m)) v i = (v', lo, i', f) ∧ f_X7_goVoyages_L35 (fun w => w) (60 - m) (nI m) st = st' ∧ vE lo f s0 M v' i' st' := by
  obtain ⟨p1, p2, p3, p4⟩ := hpar
  have hM60 : M ≤ 60 := by omega
  intro N
  induction N with
  | zero =>
    intro m v i st hm hv
    have em : m = M := by omega
    subst em
    refine ⟨v, i, st, ?_, gv_end (Or.inl (by rw [hv.2.2.2.2.2.1 16 (by decide) (by decide) (by decide) (by decide) (by decide) (by decide) (by decide), p1]; exact nI_le (Nat.le_refl _) (by omega))) _, vE_of hv⟩
    rw [sb_end hi (by omega) (by omega)]
  | succ N ih =>
    intro m v i st hm hv
    have hv0 := hv
    obtain ⟨h1, ⟨h2, h3, h4⟩, ⟨h5a, h5b, h5c, h5d⟩, ⟨h6, h7⟩, ⟨c, hc, hc19, hc0, hc1⟩, h9⟩ := hv
    obtain ⟨g1, g2, g3, g4⟩ := p4 m (by omega)
    have hpm : m ≤ posF i3 f3 m := by
      have hx : ∀ j, j ≤ posF i3 f3 j := fun j => by
        induction j with
        | zero => exact Nat.zero_le _
        | succ j ihj =>
          rw [posF]
          have hs : 1 ≤ sgN (f_X2_actAt (nI (posF i3 f3 j)) i3 f3) := by
            unfold sgN
            repeat' split
            all_goals omega
          omega
      exact hx m
    have f16 : st 0 16 = nI M := by rw [h9.1 16 (by decide) (by decide) (by decide) (by decide) (by decide) (by decide) (by decide), p1]
    have f15 : st 15 (nI m).toNatClampNeg = f_X2_actAt (nI (posF i3 f3 m)) i3 f3 := by rw [nI_clamp (by omega), h9.2 15 (by decide), g3]
    have f16b : st 16 (nI m).toNatClampNeg = s0 16 m := by rw [nI_clamp (by omega), h9.2 16 (by decide)]
    have hs1 : seaR lo i f (u2 (u2 st 0 21 (-6)) 0 22 (-6)) := seaR_0 h1 (fun k hk => by rw [u2_k _ _ (by omega), u2_k _ _ (by omega)]) (fun q hq => by rw [u2_p _ _ (by omega), u2_p _ _ (by omega)])
    have hstep := step (v := v) hs1 g4
    rw [show 60 - m = (60 - (m + 1)) + 1 by omega, f_X5_sailByText_L10, hi, if_neg (nI_ge (by omega) (by omega)), if_neg (nI_ge g1 (by omega)), lt_1, e1, e2, lt_1]
    have hn16 : ¬ st 0 16 ≤ nI m := by rw [f16]; exact nI_ge (by omega) (by omega)
    have hn21 : ¬ 0 ≤ st 0 21 := by rw [h6]; decide
    rcases hstep with ⟨y, y1, y2, y3⟩ | ⟨y2, v', i', y3, y4⟩
    · rw [why_21] at y2
      have n0 : ¬ y = 0 := fun q => by rw [q] at y1; exact absurd y1 (by decide)
      have nle : ¬ y ≤ 0 := fun q => by
        have := ti_le q
        rw [show (0 : Int32).toInt = 0 from by decide] at this
        omega
      have n6 : ¬ y = -6 := fun q => by rw [q] at y1; exact absurd y1 (by decide)
      rw [gv_step hn16 hn21 f15 f16b y2, if_neg n0, if_neg nle, y3]
      dsimp only
      rw [if_neg n6, lt_1]
      have efs : fstS (u2 (u2 st 0 21 (nI m)) 0 22 y) (nI m) = st 0 23 := by
        show (if st 0 19 ≤ 0 then st 0 23 else if 0 ≤ st 0 23 then st 0 23 else nI m) = st 0 23
        rcases Nat.eq_zero_or_pos c with q | q
        · rw [hc19, q, if_pos (by decide)]
        · rw [hc19, if_neg (nI_nle q (by omega)), if_pos (hc1 q)]
      rw [efs]
      refine ⟨_, i, _, rfl, gv_end (Or.inr (by show 0 ≤ nI m; exact nI_pos' (by omega))) _, ?_⟩
      refine ⟨seaR_0 h1 (fun k hk => by rw [u2_k _ _ (by omega), u2_k _ _ (by omega), u2_k _ _ (by omega)]) (fun q hq => by rw [u2_p _ _ (by omega), u2_p _ _ (by omega), u2_p _ _ (by omega)]), ⟨?_, rfl⟩, ⟨h5a, h5b, h5c, h5d⟩, Or.inr ?_, ⟨fun k k7 k17 k18 k19 k21 k22 k23 => ?_, fun q hq => ?_⟩⟩
      · show v 1 = nI m
        exact h2
      · show 0 ≤ (v 1).toInt
        rw [h2]
        exact nI_nn (by omega)
      · rw [u2_k _ _ k23, u2_k _ _ k22, u2_k _ _ k21]
        exact h9.1 k k7 k17 k18 k19 k21 k22 k23
      · rw [u2_p _ _ hq, u2_p _ _ hq, u2_p _ _ hq]
        exact h9.2 q hq
    · rw [why_21] at y2
      rw [gv_step hn16 hn21 f15 f16b y2, if_pos rfl, y3]
      dsimp only
      rw [if_pos rfl, lt_1, lt_1, nI_1, signs_eq, nI_add]
      obtain ⟨t1, ⟨t2a, t2b, t2c⟩, t3, t4, t5, t6, t7⟩ := y4
      generalize f_X7_happen (f_X2_actAt (nI (posF i3 f3 m)) i3 f3) (s0 16 m) (u2 (u2 st 0 21 (-6)) 0 22 (-6)) = w at *
      have w23 : w 0 23 = st 0 23 := t6 23 (by decide) (by decide) (by decide) (by decide)
      have w21 : w 0 21 = -6 := t6 21 (by decide) (by decide) (by decide) (by decide)
      have w22 : w 0 22 = -6 := t6 22 (by decide) (by decide) (by decide) (by decide)
      refine ih (m + 1) (u1 v' 3 (-6)) i' (u2 w 0 23 (fstS w (nI m))) (by omega) ⟨?_, ⟨?_, ?_, rfl⟩, ⟨?_, ?_, ?_, ?_⟩, ⟨w21, w22⟩, ?_, ⟨fun k k7 k17 k18 k19 k21 k22 k23 => ?_, fun q hq => ?_⟩⟩
      · exact seaR_0 t1 (fun k hk => u2_k _ _ (by omega)) (fun q hq => u2_p _ _ (by omega))
      · show v' 1 = nI (m + 1)
        rw [t2a, h2, nI_1]
      · show v' 2 = -6
        rw [t2b, h3]
      · exact t3 h5a
      · exact t4 h5b
      · show v' 6 = w 0 19
        rcases t5 with ⟨u1, u2, u3⟩ | ⟨u1, u2, u3⟩
        · rw [u1, u2]; exact h5c
        · rw [u1, u2]; exact congrArg (· + 1) h5c
      · show v' 7 = fstS w (nI m)
        unfold fstS
        rw [w23]
        rcases t5 with ⟨u1, u2, u3⟩ | ⟨u1, u2, u3⟩
        · have e19 : w 0 19 = nI c := u1.trans hc19
          rw [u3, h5d]
          rcases Nat.eq_zero_or_pos c with q | q
          · rw [e19, q, if_pos (by decide)]
          · rw [e19, if_neg (nI_nle q (by omega)), if_pos (hc1 q)]
        · have e19 : w 0 19 = nI (c + 1) := by rw [u1, ← nI_1]; exact congrArg (· + 1) hc19
          rw [u3, e19, if_neg (nI_nle (by omega) (by omega)), h5d, h2]
          rcases Nat.eq_zero_or_pos c with q | q
          · rw [hc0 q, if_pos rfl, if_neg (by decide)]
          · rw [if_neg (fun z => by have := hc1 q; rw [z] at this; exact absurd this (by decide)), if_pos (hc1 q)]
      · rcases t5 with ⟨u1, u2, u3⟩ | ⟨u1, u2, u3⟩
        · have e19 : w 0 19 = nI c := u1.trans hc19
          refine ⟨c, by omega, e19, fun q => ?_, fun q => ?_⟩
          · show fstS w (nI m) = -6
            unfold fstS
            rw [e19, q, if_pos (by decide), w23, hc0 q]
          · show 0 ≤ fstS w (nI m)
            unfold fstS
            rw [e19, if_neg (nI_nle q (by omega)), w23, if_pos (hc1 q)]
            exact hc1 q
        · have e19 : w 0 19 = nI (c + 1) := by rw [u1, ← nI_1]; exact congrArg (· + 1) hc19
          refine ⟨c + 1, by omega, e19, fun q => by omega, fun q => ?_⟩
          show 0 ≤ fstS w (nI m)
          unfold fstS
          rw [e19, if_neg (nI_nle (by omega) (by omega))]
          by_cases g : 0 ≤ w 0 23
          · rw [if_pos g]; exact g
          · rw [if_neg g]; exact nI_pos' (by omega)
      · rw [u2_k _ _ k23, t6 k k7 k17 k18 k19, u2_k _ _ k22, u2_k _ _ k21]
        exact h9.1 k k7 k17 k18 k19 k21 k22 k23
      · rw [u2_p _ _ hq, t7 q hq, u2_p _ _ hq, u2_p _ _ hq]
        exact h9.2 q hq
