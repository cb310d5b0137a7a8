/-! the steps that move a number: ship, watcher, fog, say, wipe, forget -/
theorem cell_n {x : Int32} (h : ¬ f_X0_isCell x = 0) : ∃ n, n < 64 ∧ x = nI n := nI_ofI (xcell_nz h).1 (xcell_nz h).2 (by decide)
set_option maxHeartbeats 1000000 in
theorem s_ship : lwS1 InvR := by
  intro L I st x1 x2 hR
  have hR' := hR
  obtain ⟨⟨hg, ⟨a1, a2, a3, a4, a5, a6, a7⟩, he, ⟨hp, hw, hm, hn⟩, hv, hf⟩, hpad, hi0, hi1⟩ := hR
  unfold f_X6_ship f_X7_ship
  rw [cell_eq, in_eq x2 (a' := 0) (b' := 9) (by decide) (by decide)]
  by_cases c1 : f_X0_isCell x1 = 0
  · rw [if_pos c1, if_pos c1]; exact ⟨rfl, hR'⟩
  rw [if_neg c1, if_neg c1]
  by_cases c2 : f_X6_within x2 0 9 = 0
  · rw [if_pos c2, if_pos c2]; exact ⟨rfl, hR'⟩
  rw [if_neg c2, if_neg c2]
  have hx := xcell_nz c1
  have h2 := within_nz c2
  rw [show (0 : Int32).toInt = 0 from by decide, show (9 : Int32).toInt = 9 from by decide] at h2
  obtain ⟨n, hn6, rfl⟩ := cell_n c1
  have e1 : f_X4_isLand (nI n) (L 3) (I 3) (I 4) = bI (lb (L 3 0) n) := hold_b _ hn6
  have e2 : st 1 (nI n).toNatClampNeg = bI (lb (L 3 0) n) := by rw [nI_clamp (by omega)]; exact hg n hn6
  rw [e1]
  by_cases c3 : lb (L 3 0) n = true
  · rw [e2, c3, if_neg (show ¬ bI true = 0 by decide), if_pos (show bI true = 1 from rfl)]; exact ⟨rfl, hR'⟩
  · rw [e2, ts_nt c3, if_pos (show bI false = 0 from rfl), if_neg (show ¬ bI false = 1 by decide)]
    have e3 : st 1 (nI n).toNatClampNeg = 0 := by rw [e2, ts_nt c3]; rfl
    exact ⟨a1, ⟨hg, ⟨rfl, rfl, a3, a4, a5, a6, a7⟩, he, ⟨hx, ⟨hw.1, h2, hw.2.2.1, e3⟩, hm, hn⟩, hv, hf⟩, hpad, hi0, hi1⟩
set_option maxHeartbeats 1000000 in
theorem s_watcher : lwS2 InvR := by
  intro L I st x1 x2 hR
  have hR' := hR
  obtain ⟨⟨hg, ⟨a1, a2, a3, a4, a5, a6, a7⟩, he, ⟨hp, hw, hm, hn⟩, hv, hf⟩, hpad, hi0, hi1⟩ := hR
  unfold f_X6_watcher f_X7_watcher
  rw [watcher_eq, in_eq x2 (a' := 1) (b' := 7) (by decide) (by decide)]
  by_cases c1 : f_X7_in (Int32.toInt64 x1) 0 5 = 0
  · rw [if_pos c1, if_pos c1]; exact ⟨rfl, hR'⟩
  rw [if_neg c1, if_neg c1]
  by_cases c2 : f_X6_within x2 1 7 = 0
  · rw [if_pos c2, if_pos c2]; exact ⟨rfl, hR'⟩
  rw [if_neg c2, if_neg c2]
  have hx := in_nz c1
  rw [show (0 : Int64).toInt = 0 from by decide, show (5 : Int64).toInt = 5 from by decide] at hx
  have h2 := within_nz c2
  rw [show (1 : Int32).toInt = 1 from by decide, show (7 : Int32).toInt = 7 from by decide] at h2
  obtain ⟨n, hn6, rfl⟩ : ∃ n, n < 6 ∧ x1 = nI n := nI_ofI hx.1 (by omega) (by decide)
  have k6 : ¬ (6 : Int32) ≤ nI n := fun q => by
    have := ti_le q
    rw [show (6 : Int32).toInt = 6 from by decide] at this
    omega
  have e1 : f_X4_eyesOf (nI n) (L 3) (I 3) (I 4) = I 4 n := by
    unfold f_X4_eyesOf
    rw [if_neg (nI_pos (by omega)), if_neg k6, nI_clamp (by omega)]
  have e2 : f_X4_giveEyes (nI n) x2 (L 3) (I 3) (I 4) = u1 (I 4) n x2 := by
    unfold f_X4_giveEyes
    rw [if_neg (nI_pos (by omega)), if_neg k6, nI_clamp (by omega)]
  rw [e1, e2, nI_clamp (by omega)]
  refine ⟨(he n hn6).1, ⟨hg, ⟨a1, a2, a3, a4, a5, a6, a7⟩, ?_, ⟨hp, hw, hm, hn⟩, hv, hf⟩, hpad, hi0, hi1⟩
  intro k hk
  show u1 (I 4) n x2 k = u1 (st 4) n x2 k ∧ 1 ≤ (u1 (st 4) n x2 k).toInt ∧ (u1 (st 4) n x2 k).toInt ≤ 7
  unfold u1
  by_cases q : k = n
  · rw [if_pos q, if_pos q]; exact ⟨rfl, h2⟩
  · rw [if_neg q, if_neg q]; exact he k hk
set_option maxHeartbeats 1000000 in
theorem s_fog : lwS3 InvR := by
  intro L I st x1 hR
  have hR' := hR
  obtain ⟨⟨hg, ⟨a1, a2, a3, a4, a5, a6, a7⟩, he, ⟨hp, hw, hm, hn⟩, hv, hf⟩, hpad, hi0, hi1⟩ := hR
  unfold f_X6_fog f_X7_fog
  rw [in_eq x1 (a' := 0) (b' := 7) (by decide) (by decide)]
  by_cases c2 : f_X6_within x1 0 7 = 0
  · rw [if_pos c2, if_pos c2]; exact ⟨rfl, hR'⟩
  rw [if_neg c2, if_neg c2]
  have h2 := within_nz c2
  rw [show (0 : Int32).toInt = 0 from by decide, show (7 : Int32).toInt = 7 from by decide] at h2
  exact ⟨a5, ⟨hg, ⟨a1, a2, a3, a4, rfl, a6, a7⟩, he, ⟨hp, hw, h2, hn⟩, hv, hf⟩, hpad, hi0, hi1⟩
set_option maxHeartbeats 1000000 in
theorem s_say : lwS4 InvR := by
  intro L I st x1 hR
  have hR' := hR
  obtain ⟨hs, ⟨p1, p2, p3⟩, hi0, hi1⟩ := hR
  unfold f_X6_say f_X7_say f_X2_write
  rw [in_eq x1 (a' := 33) (b' := 126) (by decide) (by decide)]
  by_cases c2 : f_X6_within x1 33 126 = 0
  · rw [if_pos c2, if_pos c2]; exact ⟨rfl, hR'⟩
  rw [if_neg c2, if_neg c2, p1]
  obtain ⟨n, hn, en⟩ : ∃ n, n < 61 ∧ st 0 13 = nI n := nI_ofI p2.1 (by omega) (by decide)
  rw [en] at p1 p3
  rw [en, nI_clamp (by omega)]
  rw [nI_clamp (by omega)] at p3
  have h0 : ¬ nI n < 0 := nI_pos (by omega)
  by_cases c3 : n = 60
  · subst c3
    rw [if_neg h0, if_neg (show ¬ nI 60 < (60 : Int32) by decide), if_pos (show nI 60 = (60 : Int32) by decide)]
    exact ⟨rfl, hs, ⟨p1.trans en.symm, p2, fun j hj => p3 j (by have hj : j < (st 0 13).toNatClampNeg := hj; rw [en, nI_clamp (by omega)] at hj; exact hj)⟩, hi0, hi1⟩
  · have c4 : nI n < (60 : Int32) := by
      rw [show (60 : Int32) = nI 60 from by decide]
      exact nI_lt (by omega) (by omega)
    have c5 : ¬ nI n = (60 : Int32) := fun q => by rw [q] at c4; exact absurd c4 (by decide)
    rw [if_neg h0, if_pos c4, if_neg c5]
    refine ⟨rfl, hs, ⟨rfl, ?_, ?_⟩, hi0, hi1⟩
    · show 0 ≤ (nI n + 1).toInt ∧ (nI n + 1).toInt ≤ 60
      rw [nI_1, nI_toInt (by omega)]
      omega
    · intro j hj
      have hj : j < (nI n + 1).toNatClampNeg := hj
      rw [nI_1, nI_clamp (by omega)] at hj
      show u1 (I 6) n x1 j = u1 (st 13) n x1 j
      unfold u1
      by_cases q : j = n
      · rw [if_pos q, if_pos q]
      · rw [if_neg q, if_neg q]; exact p3 j (by omega)
theorem s_wipe : lwS5 InvR := by
  intro L I st hR
  obtain ⟨hs, ⟨p1, p2, p3⟩, hi0, hi1⟩ := hR
  exact ⟨p1, hs, ⟨rfl, (by decide : 0 ≤ (0 : Int32).toInt ∧ (0 : Int32).toInt ≤ 60), fun j hj => absurd hj (Nat.not_lt_zero j)⟩, hi0, hi1⟩
theorem s_forget : lwS16 InvR := by
  intro L I st hR
  obtain ⟨⟨hg, ⟨a1, a2, a3, a4, a5, a6, a7⟩, he, ⟨hp, hw, hm, hn⟩, hv, hf⟩, hpad, hi0, hi1⟩ := hR
  exact ⟨a7, ⟨hg, ⟨a1, a2, a3, a4, a5, a6, rfl⟩, he, ⟨hp, hw, hm, (by decide : 0 ≤ (0 : Int32).toInt ∧ (0 : Int32).toInt ≤ 8)⟩, fun j hj => absurd hj (Nat.not_lt_zero j), fun c hc => lb_m1 hc⟩, hpad, hi0, hi1⟩
