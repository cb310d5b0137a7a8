/-! land: the count of the reference is the count of bits -/
theorem nI_bI (p : Nat) (b : Bool) : nI p + bI b = nI (p + (if b then 1 else 0)) := by
  cases b
  · show nI p + 0 = nI (p + 0)
    exact nI_add p 0
  · exact nI_add p 1
theorem lm_L {st : Nat → Nat → Int32} {x : Int64} (hg : ∀ c, c < 64 → st 1 c = bI (lb x c)) (k : Int32 → Int32) : ∀ (n i : Nat), i + n = 64 → f_X7_landMany_L4 st k n (nI i) (nI (popB x i)) = k (nI (popB x 64))
  | 0, i, h => by
    have : i = 64 := by omega
    subst this
    rfl
  | n + 1, i, h => by
    have hi : i < 64 := by omega
    have c : ¬ (64 : Int32) ≤ nI i := fun q => by
      have := ti_le q
      rw [show (64 : Int32).toInt = 64 from by decide, nI_toInt (by omega)] at this
      omega
    have ih := lm_L hg k n (i + 1) (by omega)
    rw [f_X7_landMany_L4, if_neg c]
    show f_X7_landMany_L4 st k n (nI i + 1) (nI (popB x i) + st 1 (nI i).toNatClampNeg) = _
    rw [nI_clamp (by omega), hg i hi, nI_bI, nI_1]
    exact ih
theorem lm_eq {st : Nat → Nat → Int32} {x : Int64} (hg : ∀ c, c < 64 → st 1 c = bI (lb x c)) : f_X7_landMany st = f_J13_bitCount_95d88 x := by
  rw [bc_pop]
  exact lm_L hg (fun w => w) 64 0 rfl
theorem land_end {L : Nat → Nat → Int64} {I st : Nat → Nat → Int32} (hR : InvR L I st) {n : Nat} {x2 : Int32} {new : Int64} {b : Bool} (hne : (st 0 1).toNatClampNeg = n → x2 = 0) (hx : x2 = bI b) (hb : ∀ c, c < 64 → lb new c = if c = n then b else lb (L 3 0) c) : f_J13_bitCount_95d88 new = f_X7_landMany (u2 st 1 n x2) ∧ InvR (u2 L 3 0 new) I (u2 st 1 n x2) := by
  obtain ⟨⟨hg, ha, he, ⟨hp, hw, hm, hn⟩, hv, hf⟩, hpad, hi0, hi1⟩ := hR
  have hg' : ∀ c, c < 64 → u2 st 1 n x2 1 c = bI (lb new c) := by
    intro c hc
    show (if c = n then x2 else st 1 c) = _
    rw [hb c hc]
    by_cases q : c = n
    · rw [if_pos q, if_pos q, hx]
    · rw [if_neg q, if_neg q, hg c hc]
  have hz : u2 st 1 n x2 1 (st 0 1).toNatClampNeg = 0 := by
    show (if (st 0 1).toNatClampNeg = n then x2 else st 1 (st 0 1).toNatClampNeg) = 0
    by_cases q : (st 0 1).toNatClampNeg = n
    · rw [if_pos q]; exact hne q
    · rw [if_neg q]; exact hw.2.2.2
  exact ⟨(lm_eq hg').symm, ⟨hg', ha, he, ⟨hp, ⟨hw.1, hw.2.1, hw.2.2.1, hz⟩, hm, hn⟩, hv, hf⟩, hpad, hi0, hi1⟩
set_option maxHeartbeats 1000000 in
set_option maxRecDepth 4000 in
theorem s_land : lwS0 InvR := by
  intro L I st x1 x2 hR
  have a1 : I 3 1 = st 0 1 := hR.1.2.1.1
  unfold f_X6_land f_X7_land
  rw [cell_eq, in_eq x2 (a' := 0) (b' := 1) (by decide) (by decide)]
  by_cases c1 : f_X0_isCell x1 = 0
  · rw [if_pos c1, if_pos c1]; exact ⟨rfl, hR⟩
  rw [if_neg c1, if_neg c1]
  by_cases c2 : f_X6_within x2 0 1 = 0
  · rw [if_pos c2, if_pos c2]; exact ⟨rfl, hR⟩
  rw [if_neg c2, if_neg c2]
  obtain ⟨n, hn6, rfl⟩ := cell_n c1
  have h2 := within_nz c2
  rw [show (0 : Int32).toInt = 0 from by decide, show (1 : Int32).toInt = 1 from by decide] at h2
  unfold jn_ lt_
  dsimp only
  rw [nI_clamp (by omega)]
  by_cases c3 : x2 = 1
  · subst c3
    rw [if_pos rfl, if_pos rfl]
    by_cases c4 : nI n = I 3 1
    · rw [if_pos c4, if_pos (c4.trans a1).symm]; exact ⟨rfl, hR⟩
    · rw [if_neg c4, if_neg (fun q : st 0 1 = nI n => c4 (q.symm.trans a1.symm)), if_pos rfl]
      have hz := land_end hR (n := n) (x2 := 1) (new := L 3 0 ||| f_X0_only (nI n)) (b := true) (fun q => absurd (by
        have hp := hR.1.2.2.2.1.1
        rw [a1, ← q]
        exact Int32.toInt_inj.mp (by rw [nI_toInt (by have := clampI hp.1; omega), clampI hp.1])) c4) rfl (fun c hc => by
        rw [lb_or, only_b n hn6 c hc]
        by_cases q : c = n
        · rw [if_pos q, decide_eq_true q, Bool.or_true]
        · rw [if_neg q, decide_eq_false q, Bool.or_false])
      exact hz
  · have c0 : x2 = 0 := Int32.toInt_inj.mp (by
      have q := ti_ne c3
      rw [show (1 : Int32).toInt = 1 from by decide] at q
      rw [show (0 : Int32).toInt = 0 from by decide]
      omega)
    subst c0
    rw [if_neg c3, if_neg c3, if_neg c3]
    have hz := land_end hR (n := n) (x2 := 0) (new := L 3 0 &&& (f_X0_only (nI n) ^^^ (-1 : Int64))) (b := false) (fun _ => rfl) rfl (fun c hc => by
        rw [lb_and, lb_not _ hc, only_b n hn6 c hc]
        by_cases q : c = n
        · rw [if_pos q, decide_eq_true q, Bool.not_true, Bool.and_false]
        · rw [if_neg q, decide_eq_false q, Bool.not_false, Bool.and_true])
    exact hz
