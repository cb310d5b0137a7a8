/-! told -/
theorem sub_w (x k : Int32) (h0 : 0 ≤ k.toInt) (h1 : k.toInt ≤ 100) : (x - k).toInt = x.toInt - k.toInt ∨ (x.toInt - k.toInt < -2147483648 ∧ (x - k).toInt = x.toInt - k.toInt + 4294967296) := by
  have r := ti_rng x
  rcases (show -2147483648 ≤ x.toInt - k.toInt ∨ x.toInt - k.toInt < -2147483648 by omega) with q | q
  · exact Or.inl (ti_sub rfl q (by omega))
  · refine Or.inr ⟨q, ?_⟩
    rw [Int32.toInt_sub, ← ti_bmod (z := x.toInt - k.toInt + 4294967296) (by omega) (by omega)]
    exact (Int.add_bmod_right (x.toInt - k.toInt) (2 ^ 32)).symm
theorem watcher_val (x : Int32) (lo : Nat → Int64) (i f : Nat → Int32) : f_X4_isWatcher x lo i f = if x.toInt < 0 then 0 else if 5 < x.toInt then 0 else 1 := by
  rw [watcher_eq, in_val, toI64, show (0 : Int64).toInt = 0 from by decide, show (5 : Int64).toInt = 5 from by decide]
theorem in3 (x : Int32) {a b : Int64} (h : x.toInt < a.toInt ∨ b.toInt < x.toInt) : f_X7_in (Int32.toInt64 x) a b = 0 := by
  rw [in_val, toI64]
  rcases h with h | h
  · rw [if_pos h]
  · by_cases q : x.toInt < a.toInt
    · rw [if_pos q]
    · rw [if_neg q, if_pos h]
theorem in1 (x : Int32) {a b : Int64} (h : a.toInt ≤ x.toInt) (h2 : x.toInt ≤ b.toInt) : ¬ f_X7_in (Int32.toInt64 x) a b = 0 := by
  rw [in_val, toI64, if_neg (by omega), if_neg (by omega)]
  decide
theorem saw_eq {L : Nat → Nat → Int64} {I st : Nat → Nat → Int32} (hR : InvR L I st) (y : Int32) : f_X6_shipAndWatch y (L 3) (I 3) (I 4) = f_X7_ofShip y st := by
  obtain ⟨⟨_, ⟨a1, a2, a3, a4, a5, a6, a7⟩, _, ⟨_, hw, _, _⟩, _, _⟩, _⟩ := hR
  unfold f_X6_shipAndWatch f_X7_ofShip
  rw [a1, a2, a3, a4, a5, a6]
  by_cases c3 : st 0 4 = -6
  · rw [if_pos c3, if_neg (show ¬ 0 ≤ st 0 4 by rw [c3]; decide)]
  · have hw : 0 ≤ st 0 4 := by
      rcases hw.1 with q | q
      · exact absurd q c3
      · exact Int32.le_iff_toInt_le.mpr (by rw [show (0 : Int32).toInt = 0 from by decide]; exact q.1)
    rw [if_neg c3, if_pos hw]
set_option maxHeartbeats 1000000 in
theorem s_told : lwS24 InvR := by
  intro L I st x hR
  refine ⟨?_, hR⟩
  have hs := saw_eq hR
  obtain ⟨⟨hg, ⟨a1, a2, a3, a4, a5, a6, a7⟩, he, _, _, _⟩, ⟨hp, _⟩, _⟩ := hR
  have r := ti_rng x
  have k10 : (10 : Int32).toInt = 10 := by decide
  have k100 : (100 : Int32).toInt = 100 := by decide
  have w10 := sub_w x 10 (by decide) (by decide)
  have w100 := sub_w x 100 (by decide) (by decide)
  rw [k10] at w10
  rw [k100] at w100
  have j2 : (2 : Int64).toInt = 2 := by decide
  have j6 : (6 : Int64).toInt = 6 := by decide
  have j10 : (10 : Int64).toInt = 10 := by decide
  have j15 : (15 : Int64).toInt = 15 := by decide
  have j100 : (100 : Int64).toInt = 100 := by decide
  have j163 : (163 : Int64).toInt = 163 := by decide
  unfold f_X6_told f_X7_told jn_
  dsimp only
  rw [within_val, watcher_val, cell_val, show (2 : Int32).toInt = 2 from by decide, show (7 : Int32).toInt = 7 from by decide]
  by_cases c1 : 100 ≤ x.toInt ∧ x.toInt ≤ 163
  · rw [if_neg (in1 x (by omega) (by omega)), if_neg (show ¬ x.toInt < 2 by omega), if_pos (show 7 < x.toInt by omega), if_pos rfl, if_neg (show ¬ (x - 10).toInt < 0 by omega), if_pos (show 5 < (x - 10).toInt by omega), if_pos rfl, if_neg (show ¬ (x - 100).toInt < 0 by omega), if_neg (show ¬ 63 < (x - 100).toInt by omega), if_neg (show ¬ (1 : Int32) = 0 by decide)]
    obtain ⟨n, hn, en⟩ : ∃ n, n < 64 ∧ x - 100 = nI n := nI_ofI (by omega) (by omega) (by decide)
    rw [en, nI_clamp (by omega), hg n hn]
    have e1 : f_X4_isLand (nI n) (L 3) (I 3) (I 4) = bI (lb (L 3 0) n) := hold_b _ hn
    rw [e1]
    cases lb (L 3 0) n <;> rfl
  · rw [in3 x (a := 100) (b := 163) (by omega), if_pos (show (0 : Int32) = 0 from rfl)]
    by_cases c2 : 10 ≤ x.toInt ∧ x.toInt ≤ 15
    · rw [if_neg (in1 x (a := 10) (b := 15) (by omega) (by omega)), if_neg (show ¬ x.toInt < 2 by omega), if_pos (show 7 < x.toInt by omega), if_pos rfl, if_neg (show ¬ (x - 10).toInt < 0 by omega), if_neg (show ¬ 5 < (x - 10).toInt by omega), if_neg (show ¬ (1 : Int32) = 0 by decide)]
      obtain ⟨n, hn, en⟩ : ∃ n, n < 6 ∧ x - 10 = nI n := nI_ofI (by omega) (by omega) (by decide)
      have k6 : ¬ (6 : Int32) ≤ nI n := fun q => by
        have := ti_le q
        rw [show (6 : Int32).toInt = 6 from by decide, nI_toInt (by omega)] at this
        omega
      unfold f_X4_eyesOf
      rw [en, if_neg (nI_pos (by omega)), if_neg k6, nI_clamp (by omega)]
      exact (he n hn).1
    · rw [in3 x (a := 10) (b := 15) (by omega), if_pos (show (0 : Int32) = 0 from rfl)]
      by_cases c3 : 2 ≤ x.toInt ∧ x.toInt ≤ 7
      · rw [if_neg (show ¬ x.toInt < 2 by omega), if_neg (show ¬ 7 < x.toInt by omega), if_neg (show ¬ (1 : Int32) = 0 by decide), hs]
        rcases (show x.toInt = 2 ∨ x.toInt = 3 ∨ x.toInt = 4 ∨ x.toInt = 5 ∨ x.toInt = 6 ∨ x.toInt = 7 by omega) with q | q | q | q | q | q
        · rw [tiq 2 q (by decide)]; rfl
        · rw [tiq 3 q (by decide)]; rfl
        · rw [tiq 4 q (by decide)]; rfl
        · rw [tiq 5 q (by decide)]; rfl
        · rw [tiq 6 q (by decide)]; rfl
        · rw [tiq 7 q (by decide)]; rfl
      · have h0 : (if x.toInt < 2 then (0 : Int32) else if 7 < x.toInt then 0 else 1) = 0 := by
          by_cases q : x.toInt < 2
          · rw [if_pos q]
          · rw [if_neg q, if_pos (by omega)]
        have h1 : (if (x - 10).toInt < 0 then (0 : Int32) else if 5 < (x - 10).toInt then 0 else 1) = 0 := by
          by_cases q : (x - 10).toInt < 0
          · rw [if_pos q]
          · rw [if_neg q, if_pos (by omega)]
        have h2 : (if (x - 100).toInt < 0 then (0 : Int32) else if 63 < (x - 100).toInt then 0 else 1) = 0 := by
          by_cases q : (x - 100).toInt < 0
          · rw [if_pos q]
          · rw [if_neg q, if_pos (by omega)]
        rw [h0, h1, h2, if_pos rfl, if_pos rfl, if_pos rfl, in3 x (a := 2) (b := 6) (by omega), if_pos (show (0 : Int32) = 0 from rfl)]
        have ne : ∀ {k : Int32}, x.toInt ≠ k.toInt → ¬ x = k := fun h q => h (by rw [q])
        by_cases d0 : x = 0
        · rw [if_pos d0, if_pos d0]; exact hp
        by_cases d1 : x = 1
        · rw [if_neg d0, if_neg d0, if_pos d1, if_pos d1]; exact (lm_eq hg).symm
        have n2 : ¬ x = 2 := fun q => c3 (by rw [q]; decide)
        have n3 : ¬ x = 3 := fun q => c3 (by rw [q]; decide)
        have n4 : ¬ x = 4 := fun q => c3 (by rw [q]; decide)
        have n5 : ¬ x = 5 := fun q => c3 (by rw [q]; decide)
        have n6 : ¬ x = 6 := fun q => c3 (by rw [q]; decide)
        have n7 : ¬ x = 7 := fun q => c3 (by rw [q]; decide)
        by_cases d8 : x = 8
        · rw [if_neg d0, if_neg d0, if_neg d1, if_neg d1, if_pos d8, if_neg n2, if_neg n3, if_neg n4, if_neg n5, if_neg n6, if_neg n7, if_pos d8]; exact a7
        · rw [if_neg d0, if_neg d0, if_neg d1, if_neg d1, if_neg d8, if_neg n2, if_neg n3, if_neg n4, if_neg n5, if_neg n6, if_neg n7, if_neg d8]
