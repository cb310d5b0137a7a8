/-! judge, behind, seen, silence, done -/
theorem up_n {x : Int32} {n : Int32} {k : Nat} (hn : n.toInt = k) (hk : k + 1 < 2 ^ 31) (h : ¬ f_X6_within x 0 n = 0) : ∃ j, j ≤ k ∧ x = nI j := by
  have t := within_nz h
  rw [show (0 : Int32).toInt = 0 from by decide, hn] at t
  obtain ⟨j, hj, e⟩ : ∃ j, j < k + 1 ∧ x = nI j := nI_ofI t.1 (by omega) hk
  exact ⟨j, by omega, e⟩
theorem judge_C (x1 : Int32) (L : Nat → Nat → Int64) (I : Nat → Nat → Int32) : f_X6_judge x1 L I = (fun (q13 : Int32 × (Nat → Nat → Int64) × (Nat → Nat → Int32)) => if q13.1 = 0 then if x1 = (0 : Int32) then ((q13.2.2 7 2), q13.2.1, q13.2.2) else if x1 = (1 : Int32) then ((q13.2.2 7 3), q13.2.1, q13.2.2) else ((q13.2.2 7 4), q13.2.1, q13.2.2) else (q13.1, q13.2.1, q13.2.2)) (f_X6_sailTheText x1 2 (if x1 = 2 then 1 else 0) L I) := by
  unfold f_X6_judge
  rw [jn_1]
  by_cases d : x1 = 2
  · rw [if_pos d, if_pos d]; rfl
  · rw [if_neg d, if_neg d]; rfl
theorem st_no (x1 x2 x3 : Int32) (L : Nat → Nat → Int64) (I : Nat → Nat → Int32) (h : f_X6_within x1 0 x2 = 0) : f_X6_sailTheText x1 x2 x3 L I = ((-2 : Int32), L, I) := by
  unfold f_X6_sailTheText
  rw [if_pos h]
theorem judge_M (x1 : Int32) (st : Nat → Nat → Int32) (h : ¬ f_X7_in (Int32.toInt64 x1) (0 : Int64) (2 : Int64) = 0) : f_X7_judge x1 st = (fun (b : Int32 × (Nat → Nat → Int32)) => if b.1 = -5 then b else if x1 ≤ 1 then (if x1 = 0 then (b.2 0 21, b.2) else if x1 = 1 then (b.2 0 22, b.2) else (b.2 0 17, b.2)) else if b.1 = -3 then b else (if x1 = 0 then (b.2 0 21, b.2) else if x1 = 1 then (b.2 0 22, b.2) else (b.2 0 17, b.2))) (f_X7_back (f_X7_refusal st).1 (f_X7_refusal st).2) := by
  unfold f_X7_judge
  rw [if_neg h]
  rfl
set_option maxHeartbeats 1000000 in
set_option maxRecDepth 4000 in
theorem s_judge : lwS7 InvR := by
  intro L I st x1 hR
  have ei := in_eq x1 (a := 0) (b := 2) (a' := 0) (b' := 2) (by decide) (by decide)
  by_cases c1 : f_X6_within x1 0 2 = 0
  · unfold f_X7_judge
    rw [judge_C, st_no _ _ _ _ _ c1, ei, if_pos c1]
    exact ⟨rfl, hR⟩
  rw [judge_C, st_eq _ _ _ _ _ c1, judge_M x1 st (by rw [ei]; exact c1)]
  obtain ⟨x, hx, rfl⟩ := up_n (k := 2) (by decide) (by decide) c1
  rcases ref_both hR with ⟨r1, r2, r3⟩ | ⟨r1, r2, r3, ⟨v2, v3, v4, v5, v7⟩, r5⟩
  · have hb := ref_back hR r3 (-5)
    rw [if_neg r1, r2]
    generalize f_X7_back (-5) (f_X7_refusal st).2 = b at hb ⊢
    dsimp only
    rw [hb.1, if_neg (by decide), if_pos rfl]
    exact ⟨hb.1.symm, hb.2⟩
  · rw [if_pos r1]
    have ka : ∀ z, (f_X7_back z (f_X7_refusal st).2).2 0 21 = (sbT L I).1 2 := fun z => (back_k z _ (by decide)).trans v2.symm
    have kb : ∀ z, (f_X7_back z (f_X7_refusal st).2).2 0 22 = (sbT L I).1 3 := fun z => (back_k z _ (by decide)).trans v3.symm
    have kc : ∀ z, (f_X7_back z (f_X7_refusal st).2).2 0 17 = (sbT L I).1 4 := fun z => (back_k z _ (by decide)).trans v4.symm
    have hb := ref_back hR r2
    rcases r5 with ⟨s1, s2, _⟩ | ⟨s1, s2⟩
    · rw [s2, if_pos s1, ite_self]
      have hb6 := hb (-6)
      have k1 := ka (-6)
      have k2 := kb (-6)
      have k3 := kc (-6)
      generalize f_X7_back (-6) (f_X7_refusal st).2 = b at hb6 k1 k2 k3 ⊢
      dsimp only
      rw [hb6.1, if_neg (show ¬ (-6 : Int32) = -5 by decide), if_neg (show ¬ (-6 : Int32) = -3 by decide), ite_self, if_pos (show (stT L I 0).1 = 0 from rfl), k1, k2, k3]
      rcases (show x = 0 ∨ x = 1 ∨ x = 2 by omega) with rfl | rfl | rfl
      · rw [if_pos (show nI 0 = 0 from rfl), if_pos (show nI 0 = 0 from rfl)]
        exact ⟨rfl, inv_stT hb6.2 0⟩
      · rw [if_neg (show ¬ nI 1 = 0 by decide), if_neg (show ¬ nI 1 = 0 by decide), if_pos (show nI 1 = 1 from rfl), if_pos (show nI 1 = 1 from rfl)]
        exact ⟨rfl, inv_stT hb6.2 0⟩
      · rw [if_neg (show ¬ nI 2 = 0 by decide), if_neg (show ¬ nI 2 = 0 by decide), if_neg (show ¬ nI 2 = 1 by decide), if_neg (show ¬ nI 2 = 1 by decide)]
        exact ⟨rfl, inv_stT hb6.2 0⟩
    · rw [s2, if_neg s1]
      have hb6 := hb (-3)
      have k1 := ka (-3)
      have k2 := kb (-3)
      have k3 := kc (-3)
      generalize f_X7_back (-3) (f_X7_refusal st).2 = b at hb6 k1 k2 k3 ⊢
      dsimp only
      rw [hb6.1, if_neg (show ¬ (-3 : Int32) = -5 by decide), if_pos (show (-3 : Int32) = -3 from rfl), k1, k2, k3]
      rcases (show x = 0 ∨ x = 1 ∨ x = 2 by omega) with rfl | rfl | rfl
      · rw [if_neg (show ¬ nI 0 = 2 by decide), if_pos (show (0 : Int32) = 0 from rfl), if_pos (show (stT L I 0).1 = 0 from rfl), if_pos (show nI 0 ≤ 1 by decide), if_pos (show nI 0 = 0 from rfl), if_pos (show nI 0 = 0 from rfl)]
        exact ⟨rfl, inv_stT hb6.2 0⟩
      · rw [if_neg (show ¬ nI 1 = 2 by decide), if_pos (show (0 : Int32) = 0 from rfl), if_pos (show (stT L I 0).1 = 0 from rfl), if_pos (show nI 1 ≤ 1 by decide), if_neg (show ¬ nI 1 = 0 by decide), if_neg (show ¬ nI 1 = 0 by decide), if_pos (show nI 1 = 1 from rfl), if_pos (show nI 1 = 1 from rfl)]
        exact ⟨rfl, inv_stT hb6.2 0⟩
      · rw [if_pos (show nI 2 = 2 from rfl), if_neg (show ¬ (1 : Int32) = 0 by decide), if_neg (show ¬ (stT L I (-3)).1 = 0 from (by decide : ¬ (-3 : Int32) = 0)), if_neg (show ¬ nI 2 ≤ 1 by decide)]
        exact ⟨hb6.1.symm, inv_stT hb6.2 (-3)⟩
theorem saw2 {lo : Nat → Int64} {i f : Nat → Int32} {st : Nat → Nat → Int32} (h : seaR lo i f st) (y : Int32) : f_X6_shipAndWatch y lo i f = f_X7_ofShip y st := by
  obtain ⟨_, ⟨a1, a2, a3, a4, a5, a6, a7⟩, _, ⟨_, hw, _, _⟩, _, _⟩ := h
  have hwi := who_iff hw.1
  unfold f_X6_shipAndWatch f_X7_ofShip
  rw [a1, a2, a3, a4, a5, a6]
  by_cases c3 : st 0 4 = -6
  · rw [if_pos c3, if_neg (hwi.mp c3)]
  · rw [if_neg c3, if_pos (Decidable.not_not.mp (fun q => c3 (hwi.mpr q)))]
/-- behind and seen share their frame -/
theorem beh_C (g : (Nat → Int64) → (Nat → Int32) → (Nat → Int32) → Int32) {L : Nat → Nat → Int64} {I st : Nat → Nat → Int32} (hR : InvR L I st) {x1 x2 : Int32} (hx : ¬ f_X6_within x1 0 x2 = 0) (gm : (Nat → Nat → Int32) → Int32) (hg : ∀ lo i f t, seaR lo i f t → g lo i f = gm t) :
    ((fun (q4 : Int32 × (Nat → Nat → Int64) × (Nat → Nat → Int32)) => if q4.1 = 0 then (g (q4.2.1 8) (q4.2.2 8) (q4.2.2 9), q4.2.1, q4.2.2) else (q4.1, q4.2.1, q4.2.2)) (f_X6_sailTheText x1 x2 1 L I)).1 = (f_X7_back (if (f_X7_refusal st).1 = -6 then gm (f_X7_refusal st).2 else (f_X7_refusal st).1) (f_X7_refusal st).2).1 ∧
    InvR ((fun (q4 : Int32 × (Nat → Nat → Int64) × (Nat → Nat → Int32)) => if q4.1 = 0 then (g (q4.2.1 8) (q4.2.2 8) (q4.2.2 9), q4.2.1, q4.2.2) else (q4.1, q4.2.1, q4.2.2)) (f_X6_sailTheText x1 x2 1 L I)).2.1 ((fun (q4 : Int32 × (Nat → Nat → Int64) × (Nat → Nat → Int32)) => if q4.1 = 0 then (g (q4.2.1 8) (q4.2.2 8) (q4.2.2 9), q4.2.1, q4.2.2) else (q4.1, q4.2.1, q4.2.2)) (f_X6_sailTheText x1 x2 1 L I)).2.2 (f_X7_back (if (f_X7_refusal st).1 = -6 then gm (f_X7_refusal st).2 else (f_X7_refusal st).1) (f_X7_refusal st).2).2 := by
  rw [st_eq _ _ _ _ _ hx]
  rcases ref_both hR with ⟨r1, r2, r3⟩ | ⟨r1, r2, r3, _, r5⟩
  · have hb := ref_back hR r3
    rw [if_neg r1, r2, if_neg (show ¬ (-5 : Int32) = -6 by decide)]
    dsimp only
    rw [if_neg (show ¬ (-5 : Int32) = 0 by decide)]
    exact ⟨(hb _).1.symm, (hb _).2⟩
  · have hb := ref_back hR r2
    rw [if_pos r1, if_neg (show ¬ (1 : Int32) = 0 by decide)]
    rcases r5 with ⟨s1, s2, _⟩ | ⟨s1, s2⟩
    · rw [if_pos s1, s2, if_pos rfl]
      have e := hg _ _ _ _ r3
      refine ⟨?_, inv_stT (hb _).2 0⟩
      rw [(hb _).1, ← e]
      rfl
    · rw [if_neg s1, s2, if_neg (show ¬ (-3 : Int32) = -6 by decide)]
      refine ⟨?_, inv_stT (hb _).2 (-3)⟩
      rw [(hb _).1]
      rfl
set_option maxRecDepth 4000 in
theorem s_behind : lwS8 InvR := by
  intro L I st x1 hR
  have ei := in_eq x1 (a := 0) (b := 5) (a' := 0) (b' := 5) (by decide) (by decide)
  by_cases c1 : f_X6_within x1 0 5 = 0
  · unfold f_X6_behind f_X7_behind
    rw [lt_1, st_no _ _ _ _ _ c1, ei, if_pos c1]
    exact ⟨rfl, hR⟩
  have eM : f_X7_behind x1 st = f_X7_back (if (f_X7_refusal st).1 = -6 then f_X7_ofShip x1 (f_X7_refusal st).2 else (f_X7_refusal st).1) (f_X7_refusal st).2 := by
    unfold f_X7_behind
    rw [ei, if_neg c1, lt_1, jn_1]
    by_cases d : (f_X7_refusal st).1 = -6
    · rw [if_pos d, if_pos d]; rfl
    · rw [if_neg d, if_neg d]; rfl
  rw [eM]
  have hz := beh_C (fun lo i f => f_X6_shipAndWatch x1 lo i f) hR c1 (fun t => f_X7_ofShip x1 t) (fun lo i f t h => saw2 h x1)
  exact hz
set_option maxRecDepth 4000 in
theorem s_silence : lwS10 InvR := by
  intro L I st x1 hR
  have ei := in_eq x1 (a := 0) (b := 1) (a' := 0) (b' := 1) (by decide) (by decide)
  by_cases c1 : f_X6_within x1 0 1 = 0
  · unfold f_X6_silence f_X7_silence
    rw [lt_1, st_no _ _ _ _ _ c1, ei, if_pos c1]
    exact ⟨rfl, hR⟩
  have eM : f_X7_silence x1 st = (fun (b : Int32 × (Nat → Nat → Int32)) => if b.1 = -6 then (if x1 = 0 then (b.2 0 23, b.2) else (b.2 0 18, b.2)) else b) (f_X7_back (f_X7_refusal st).1 (f_X7_refusal st).2) := by
    unfold f_X7_silence
    rw [ei, if_neg c1]
    rfl
  unfold f_X6_silence
  rw [eM, lt_1, st_eq _ _ _ _ _ c1]
  rcases ref_both hR with ⟨r1, r2, r3⟩ | ⟨r1, r2, r3, ⟨v2, v3, v4, v5, v7⟩, r5⟩
  · have hb := ref_back hR r3 (-5)
    rw [if_neg r1, r2]
    generalize f_X7_back (-5) (f_X7_refusal st).2 = b at hb ⊢
    dsimp only
    rw [hb.1, if_neg (show ¬ (-5 : Int32) = -6 by decide)]
    exact ⟨hb.1.symm, hb.2⟩
  · have hb := ref_back hR r2
    have ka : ∀ z, (f_X7_back z (f_X7_refusal st).2).2 0 23 = (sbT L I).1 7 := fun z => (back_k z _ (by decide)).trans v7.symm
    have kb : ∀ z, (f_X7_back z (f_X7_refusal st).2).2 0 18 = (sbT L I).1 5 := fun z => (back_k z _ (by decide)).trans v5.symm
    rw [if_pos r1, if_neg (show ¬ (1 : Int32) = 0 by decide)]
    rcases r5 with ⟨s1, s2, _⟩ | ⟨s1, s2⟩
    · rw [if_pos s1, s2]
      have hb6 := hb (-6)
      have k1 := ka (-6)
      have k2 := kb (-6)
      generalize f_X7_back (-6) (f_X7_refusal st).2 = b at hb6 k1 k2 ⊢
      dsimp only
      rw [hb6.1, if_pos rfl, k1, k2]
      by_cases d : x1 = 0
      · rw [if_pos d, if_pos d]; exact ⟨rfl, inv_stT hb6.2 0⟩
      · rw [if_neg d, if_neg d]; exact ⟨rfl, inv_stT hb6.2 0⟩
    · rw [if_neg s1, s2]
      have hb6 := hb (-3)
      generalize f_X7_back (-3) (f_X7_refusal st).2 = b at hb6 ⊢
      dsimp only
      rw [hb6.1, if_neg (show ¬ (-3 : Int32) = -6 by decide)]
      exact ⟨hb6.1.symm, inv_stT hb6.2 (-3)⟩
set_option maxRecDepth 4000 in
theorem s_done : lwS11 InvR := by
  intro L I st hR
  have c1 : ¬ f_X6_within 0 0 0 = 0 := by decide
  unfold f_X6_done f_X7_done
  rw [lt_1, lt_1, lt_1, st_eq _ _ _ _ _ c1]
  have hR0 := hR
  obtain ⟨_, hpad, hi0, hi1⟩ := hR0
  rcases ref_both hR with ⟨r1, r2, r3⟩ | ⟨r1, r2, r3, ⟨v2, v3, v4, v5, v7⟩, r5⟩
  · have hb := ref_back hR r3 (-5)
    rw [if_neg r1, r2]
    generalize f_X7_back (-5) (f_X7_refusal st).2 = b at hb ⊢
    dsimp only
    rw [if_neg (show ¬ (-5 : Int32) = 0 by decide), if_neg (show ¬ (-5 : Int32) = -6 by decide), lt_1]
    exact ⟨hb.1.symm, hb.2⟩
  · rw [if_pos r1, if_neg (show ¬ (1 : Int32) = 0 by decide)]
    rcases r5 with ⟨s1, s2, s3⟩ | ⟨s1, s2⟩
    · rw [if_pos s1, s2, if_pos rfl]
      obtain ⟨k1, k2, k3, k4⟩ := r2
      generalize (f_X7_refusal st).2 = t at *
      have hc := over (L 3) (sbT L I).2.1 (I 3) (I 4) (sbT L I).2.2.1 (sbT L I).2.2.2
      have e8 : f_X4_takeOver ((stT L I 0).2.1 3) ((stT L I 0).2.2 3) ((stT L I 0).2.2 4) ((stT L I 0).2.1 8) ((stT L I 0).2.2 8) ((stT L I 0).2.2 9) = f_X4_takeOver (L 3) (I 3) (I 4) (sbT L I).2.1 (sbT L I).2.2.1 (sbT L I).2.2.2 := rfl
      rw [if_pos (show (stT L I 0).1 = 0 from rfl), e8]
      generalize f_X4_takeOver (L 3) (I 3) (I 4) (sbT L I).2.1 (sbT L I).2.2.1 (sbT L I).2.2.2 = w at hc ⊢
      have hs : seaR w.1 w.2.1 w.2.2 t := sea_congr r3 hc ⟨⟨rfl, rfl, rfl, rfl, rfl, rfl, rfl⟩, fun _ _ => rfl, fun _ _ => rfl, fun _ _ => rfl, fun _ _ => rfl, fun _ _ => rfl⟩
      have hs2 : seaR w.1 w.2.1 w.2.2 (u2 t 0 13 0) := seaR_0 hs (fun k hk => u2_k _ _ (by omega)) (fun q hq => u2_p _ _ (by omega))
      have hp2 : rPad 0 (I 6) 0 (t 13) := ⟨rfl, by decide, fun j hj => absurd hj (Nat.not_lt_zero j)⟩
      have e31 := k4 31 (by decide)
      have e32 := k4 32 (by decide)
      rw [← e31, ← e32] at hi0 hi1
      refine ⟨s3, hs2, hp2, ?_, ?_⟩
      · exact hi0
      · exact hi1
    · have hb := ref_back hR r2 (-3)
      rw [if_neg s1, s2, if_neg (show ¬ (-3 : Int32) = -6 by decide), if_neg (show ¬ (stT L I (-3)).1 = 0 from (by decide : ¬ (-3 : Int32) = 0)), lt_1]
      exact ⟨hb.1.symm, inv_stT hb.2 (-3)⟩
