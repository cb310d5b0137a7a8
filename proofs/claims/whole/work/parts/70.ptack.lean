/-! tack -/
theorem inv_pt {L : Nat → Nat → Int64} {I st t : Nat → Nat → Int32} (hR : InvR L I st) (hk : ∀ k, k = 1 ∨ k = 2 ∨ k = 4 ∨ k = 5 ∨ k = 6 ∨ k = 7 ∨ k = 11 ∨ k = 13 → t 0 k = st 0 k) (hq : ∀ q, q = 1 ∨ q = 4 ∨ q = 9 ∨ q = 10 ∨ q = 11 ∨ q = 13 ∨ q = 31 ∨ q = 32 → ∀ j, t q j = st q j) : InvR L I t := by
  obtain ⟨hs, hpad, hi0, hi1⟩ := hR
  have e32 : t 32 = st 32 := funext (hq 32 (by decide))
  have e31 : t 31 = st 31 := funext (hq 31 (by decide))
  refine ⟨?_, ?_, ?_, ?_⟩
  · exact sea_congr hs ⟨rfl, rfl, fun _ _ _ => rfl, fun _ _ => rfl⟩ ⟨⟨hk _ (by decide), hk _ (by decide), hk _ (by decide), hk _ (by decide), hk _ (by decide), hk _ (by decide), hk _ (by decide)⟩, fun c _ => hq 1 (by decide) c, fun c _ => hq 4 (by decide) c, fun c _ => hq 9 (by decide) c, fun c _ => hq 10 (by decide) c, fun c _ => hq 11 (by decide) c⟩
  · exact pad_congr hpad (hk 13 (by decide)) (hq 13 (by decide))
  · rw [e31, e32]; exact hi0
  · rw [e31, e32]; exact hi1
def losL : Int64 := -9223315742718414029
theorem los_eq : f_X0_cellsWhereTackingLoses = losL := by decide +kernel
def tst : Nat → Nat → Int32 := fun _ c => bI (!(lb losL c))
theorem ltk_L {x1 : Int32} {s t : Nat → Nat → Int32} (h : ∀ w, ¬ f_X7_tackTo x1 w < 0 → s 30 (f_X7_tackTo x1 w).toNatClampNeg = t 30 (f_X7_tackTo x1 w).toNatClampNeg) (k : Int32 → Int32) : ∀ (n : Nat) (z3 z2 : Int32), f_X7_leastTack_L5 x1 s k n z3 z2 = f_X7_leastTack_L5 x1 t k n z3 z2 := by
  intro n
  induction n with
  | zero =>
    intro z3 z2
    rw [f_X7_leastTack_L5, f_X7_leastTack_L5]
  | succ n ih =>
    intro z3 z2
    rw [f_X7_leastTack_L5, f_X7_leastTack_L5]
    by_cases c : (4 : Int32) ≤ z3
    · rw [if_pos c, if_pos c]
    · rw [if_neg c, if_neg c]
      unfold jn_ lt_
      dsimp only
      by_cases q : f_X7_tackTo x1 z3 < 0
      · simp only [if_pos q, ih]
      · rw [h z3 q]
        simp only [if_neg q, ih]
theorem ltk_eq {x1 : Int32} {s t : Nat → Nat → Int32} (h : ∀ w, ¬ f_X7_tackTo x1 w < 0 → s 30 (f_X7_tackTo x1 w).toNatClampNeg = t 30 (f_X7_tackTo x1 w).toNatClampNeg) : f_X7_leastTack x1 s = f_X7_leastTack x1 t := ltk_L h _ _ _ _
theorem tk_t (x t : Int32) : ∃ j, j < 4 ∧ f_X7_tackTo x t = f_X7_tackTo x (nI j) := by
  by_cases h0 : t = 0
  · exact ⟨0, by decide, by rw [h0, nI_0]⟩
  by_cases h1 : t = 1
  · exact ⟨1, by decide, by rw [h1]; rfl⟩
  by_cases h2 : t = 2
  · exact ⟨2, by decide, by rw [h2]; rfl⟩
  refine ⟨3, by decide, ?_⟩
  unfold f_X7_tackTo
  rw [if_neg h0, if_neg h1, if_neg h2, if_neg (by decide), if_neg (by decide), if_neg (by decide)]
theorem tk3 : ∀ c, c < 64 → ∀ t, t < 4 → f_X7_tackTo (nI c) (nI t) < 0 ∨ ((f_X7_tackTo (nI c) (nI t)).toNatClampNeg < 64 ∧ (f_X7_tackTo (nI c) (nI t)).toNatClampNeg / 8 + (f_X7_tackTo (nI c) (nI t)).toNatClampNeg % 8 < c / 8 + c % 8) := by decide +kernel
theorem tk1 : ∀ c, c < 64 → (f_X7_leastTack (nI c) tst < 0 ↔ lb losL c = true) := by decide +kernel
theorem tk4 : ∀ c, c < 64 → (f_X7_leastTack (nI c) tst = -6 ↔ lb losL c = true) := by decide +kernel
theorem tk2 : ∀ c, c < 64 → f_X0_least (f_X0_tacksFrom (nI c) &&& losL) = f_X7_leastTack (nI c) tst := by decide +kernel
theorem tk_s : ∀ c, c < 64 → nI c / 8 + jr (nI c) 8 = nI (c / 8 + c % 8) := by decide +kernel
theorem tk_of {c : Nat} (hc : c < 64) {s : Nat → Nat → Int32} (h : ∀ d, d < 64 → d / 8 + d % 8 < c / 8 + c % 8 → s 30 d = tst 30 d) : f_X7_leastTack (nI c) s = f_X7_leastTack (nI c) tst := by
  refine ltk_eq (fun w hw => ?_)
  obtain ⟨j, hj, e⟩ := tk_t (nI c) w
  rw [e] at hw ⊢
  obtain ⟨h1, h2⟩ := (tk3 c hc j hj).resolve_left hw
  exact h _ h1 h2
def tkP (s i : Nat) (s0 t : Nat → Nat → Int32) : Prop := (∀ q, q ≠ 30 → t q = s0 q) ∧ ∀ d, d < 64 → (d / 8 + d % 8 < s ∨ d / 8 + d % 8 = s ∧ d < i) → t 30 d = tst 30 d
theorem tk33 {s : Nat} (hs : s < 15) {s0 : Nat → Nat → Int32} (k : (Nat → Nat → Int32) → (Int32 × (Nat → Nat → Int32))) : ∀ (n i : Nat) (t : Nat → Nat → Int32), i + n = 64 → tkP s i s0 t → ∃ t', tkP s 64 s0 t' ∧ f_X7_tack_L33 (nI s) k n (nI i) t = k t' := by
  intro n
  induction n with
  | zero =>
    intro i t hi h
    have e : i = 64 := by omega
    subst e
    exact ⟨t, h, by rw [f_X7_tack_L33]⟩
  | succ n ih =>
    intro i t hi h
    obtain ⟨h1, h2⟩ := h
    rw [f_X7_tack_L33, if_neg (ge64 (by omega)), jn_1, tk_s i (by omega)]
    by_cases c : i / 8 + i % 8 = s
    · have hb := tk_of (c := i) (by omega) (s := t) (fun d hd hlt => h2 d hd (Or.inl (by omega)))
      have ht := tk1 i (by omega)
      have hstep : ∀ v, v = tst 30 i → ∃ t', tkP s 64 s0 t' ∧ f_X7_tack_L33 (nI s) k n (nI i + 1) (u2 t 30 (nI i).toNatClampNeg v) = k t' := fun v hv => by
        rw [nI_1, nI_clamp (by omega)]
        refine ih (i + 1) _ (by omega) ⟨fun q hq => ?_, fun d hd hc => ?_⟩
        · rw [u2_p _ _ hq, h1 q hq]
        · rw [u2_v]
          by_cases e : d = i
          · rw [if_pos e, hv, e]
          · rw [if_neg e]
            exact h2 d hd (by omega)
      rw [if_pos (by rw [c]), jn_1, hb]
      dsimp only
      by_cases g : f_X7_leastTack (nI i) tst < 0
      · rw [if_pos g, lt_1]
        exact hstep 0 (by unfold tst; rw [ht.mp g]; rfl)
      · rw [if_neg g, lt_1]
        exact hstep 1 (by unfold tst; rw [ts_nt (fun q => g (ht.mpr q))]; rfl)
    · rw [if_neg (fun q => c ((nI_eq (by omega) (by omega)).mp q))]
      dsimp only
      rw [lt_1, nI_1]
      exact ih (i + 1) t (by omega) ⟨h1, fun d hd hc => h2 d hd (by
        rcases hc with hc | ⟨hc, hl⟩
        · exact Or.inl hc
        · refine Or.inr ⟨hc, ?_⟩
          have : d ≠ i := fun e => c (by rw [← e]; exact hc)
          omega)⟩
theorem tk24 {s0 : Nat → Nat → Int32} (k : (Nat → Nat → Int32) → (Int32 × (Nat → Nat → Int32))) : ∀ (n s : Nat) (t : Nat → Nat → Int32), s + n = 15 → tkP s 0 s0 t → ∃ t', tkP 15 0 s0 t' ∧ f_X7_tack_L24 k n (nI s) t = k t' := by
  intro n
  induction n with
  | zero =>
    intro s t hs h
    have e : s = 15 := by omega
    subst e
    exact ⟨t, h, by rw [f_X7_tack_L24]⟩
  | succ n ih =>
    intro s t hs h
    rw [f_X7_tack_L24, if_neg (ge15 (by omega))]
    obtain ⟨t1, h1, h2⟩ := tk33 (s := s) (by omega) (fun (w33_st : Nat → Nat → Int32) => lt_ (nI s + (1 : Int32)) (fun (y82 : Int32) => f_X7_tack_L24 k n y82 w33_st)) 64 0 t (by omega) h
    rw [nI_0] at h2
    rw [h2, lt_1, nI_1]
    exact ih (s + 1) t1 (by omega) ⟨h1.1, fun d hd hc => h1.2 d hd (by omega)⟩
set_option maxHeartbeats 1000000 in
set_option maxRecDepth 4000 in
theorem s_tack : lwS19 InvR := by
  intro L I st x1 x2 hR
  unfold f_X6_tack f_X7_tack
  rw [cell_eq, in_eq x2 (a' := 0) (b' := 1) (by decide) (by decide)]
  by_cases c1 : f_X0_isCell x1 = 0
  · rw [if_pos c1, if_pos c1]; exact ⟨rfl, hR⟩
  rw [if_neg c1, if_neg c1]
  by_cases c2 : f_X6_within x2 0 1 = 0
  · rw [if_pos c2, if_pos c2]; exact ⟨rfl, hR⟩
  rw [if_neg c2, if_neg c2, lt_1, los_eq]
  obtain ⟨c, hc, rfl⟩ := cell_n c1
  obtain ⟨t, h1, h2⟩ := tk24 (s0 := st) (fun (w24_st : Nat → Nat → Int32) => if x2 = (1 : Int32) then ((f_X7_leastTack (nI c) w24_st), w24_st) else if (w24_st 30 (Int32.toNatClampNeg (nI c))) = 0 then ((0 : Int32), w24_st) else ((1 : Int32), w24_st)) 15 0 st (by omega) ⟨fun _ _ => rfl, fun d _ hd => by omega⟩
  rw [nI_0] at h2
  have hR' : InvR L I t := inv_pt hR (fun k _ => by rw [h1.1 0 (by decide)]) (fun q hq j => by rw [h1.1 q (by omega)])
  have ht : ∀ d, d < 64 → t 30 d = tst 30 d := fun d hd => h1.2 d hd (Or.inl (by omega))
  have hl := tk_of hc (s := t) (fun d hd _ => ht d hd)
  rw [h2, tk2 c hc]
  generalize hg : f_X7_leastTack (nI c) tst = g at *
  rw [hl, nI_clamp (by omega), ht c hc]
  by_cases c3 : x2 = 1
  · rw [if_pos c3, if_pos c3]; exact ⟨rfl, hR'⟩
  rw [if_neg c3, if_neg c3]
  have h4 := tk4 c hc
  rw [hg] at h4
  by_cases c4 : lb losL c = true
  · rw [if_pos (h4.mpr c4), if_pos (show tst 30 c = 0 by unfold tst; rw [c4]; rfl)]; exact ⟨rfl, hR'⟩
  · rw [if_neg (fun q => c4 (h4.mp q)), if_neg (show ¬ tst 30 c = 0 by unfold tst; rw [ts_nt c4]; decide)]; exact ⟨rfl, hR'⟩
