/-! seen -/
def aD (a b : Nat) : Nat := if a ≤ b then b - a else a - b
def dN (c p : Nat) : Nat := if aD (c / 8) (p / 8) ≤ aD (c % 8) (p % 8) then aD (c % 8) (p % 8) else aD (c / 8) (p / 8)
theorem far_dN : ∀ c, c < 64 → ∀ p, p < 64 → f_X7_far (nI c) (nI p) = nI (dN c p) ∧ dN c p ≤ 7 ∧ (dN c p = 0 → c = p) := by decide +kernel
def nearI (S : Int64) (p j : Nat) (w : Int32) : Prop := (w = -6 ∧ ∀ c, j ≤ c → c < 64 → lb S c = false) ∨ ∃ b, w = nI b ∧ j ≤ b ∧ b < 64 ∧ lb S b = true ∧ ∀ c, j ≤ c → c < 64 → lb S c = true → dN b p ≤ dN c p ∧ (dN c p = dN b p → b ≤ c)
theorem near_L {S : Int64} {p : Nat} {st : Nat → Nat → Int32} (hp : p < 64) (ep : st 0 1 = nI p) (hs : ∀ c, c < 64 → f_X7_isSeen (nI c) st = bI (lb S c)) : ∀ (j : Nat) (w : Int32), j ≤ 64 → nearI S p j w → ∃ w', nearI S p 0 w' ∧ f_X7_nearest_L6 st (fun w => w) j (nI j + (-1 : Int32)) w = w' := by
  intro j
  induction j with
  | zero =>
    intro w _ h
    exact ⟨w, h, by rw [f_X7_nearest_L6]⟩
  | succ j ih =>
    intro w hj h
    have hj6 : j < 64 := by omega
    obtain ⟨e1, e2, e3⟩ := far_dN j hj6 p hp
    rw [nI_m1, f_X7_nearest_L6, if_neg (nI_pos (by omega)), hs j hj6, jn_1, jn_1, jn_1]
    have keep : nearI S p j w → ∃ w', nearI S p 0 w' ∧ (lt_ (nI j + (-1 : Int32)) (fun (y47 : Int32) => f_X7_nearest_L6 st (fun w => w) j y47 w)) = w' := fun hw => ih w (by omega) hw
    have take : nearI S p j (nI j) → ∃ w', nearI S p 0 w' ∧ (lt_ (nI j + (-1 : Int32)) (fun (y47 : Int32) => f_X7_nearest_L6 st (fun w => w) j y47 (nI j))) = w' := fun hw => ih (nI j) (by omega) hw
    cases hb : lb S j
    · rw [bI_f, if_pos rfl]
      refine keep ?_
      rcases h with ⟨h1, h2⟩ | ⟨b, h1, h2, h3, h4, h5⟩
      · refine Or.inl ⟨h1, fun c hc hc6 => ?_⟩
        by_cases q : c = j
        · rw [q]; exact hb
        · exact h2 c (by omega) hc6
      · refine Or.inr ⟨b, h1, by omega, h3, h4, fun c hc hc6 hcb => ?_⟩
        by_cases q : c = j
        · rw [q, hb] at hcb; cases hcb
        · exact h5 c (by omega) hc6 hcb
    · rw [bI_t, if_neg (show ¬ (1 : Int32) = 0 by decide)]
      rcases h with ⟨h1, h2⟩ | ⟨b, h1, h2, h3, h4, h5⟩
      · rw [h1, if_pos (by decide)]
        refine take (Or.inr ⟨j, rfl, Nat.le_refl j, hj6, hb, fun c hc hc6 hcb => ?_⟩)
        by_cases q : c = j
        · rw [q]; exact ⟨Nat.le_refl _, fun _ => Nat.le_refl _⟩
        · rw [h2 c (by omega) hc6] at hcb; cases hcb
      · obtain ⟨f1, f2, f3⟩ := far_dN b h3 p hp
        rw [h1] at keep
        rw [h1, if_neg (nI_pos (by omega)), ep, f1, e1]
        by_cases g : dN b p < dN j p
        · rw [if_pos (nI_lt g (by omega))]
          refine keep (Or.inr ⟨b, rfl, by omega, h3, h4, fun c hc hc6 hcb => ?_⟩)
          by_cases q : c = j
          · rw [q]; exact ⟨by omega, fun _ => by omega⟩
          · exact h5 c (by omega) hc6 hcb
        · rw [if_neg (nI_nlt (by omega) (by omega))]
          refine take (Or.inr ⟨j, rfl, Nat.le_refl j, hj6, hb, fun c hc hc6 hcb => ?_⟩)
          by_cases q : c = j
          · rw [q]; exact ⟨Nat.le_refl _, fun _ => Nat.le_refl _⟩
          · have := h5 c (by omega) hc6 hcb
            exact ⟨by omega, fun _ => by omega⟩
theorem nf_b {S : Int64} {i : Nat → Int32} {p b : Nat} (hp : p < 64) (ei : i 1 = nI p) (hb : b < 64) (h4 : lb S b = true) (h5 : ∀ c, c < 64 → lb S c = true → dN b p ≤ dN c p) (k : Unit → Int32) : ∀ (n r : Nat), r + n = 8 → r ≤ dN b p → f_X4_nearestFar_L7 i S k n (nI r) = nI (dN b p) := by
  obtain ⟨f1, f2, f3⟩ := far_dN b hb p hp
  intro n
  induction n with
  | zero => intro r hr h; omega
  | succ n ih =>
    intro r hr h
    rw [f_X4_nearestFar_L7, if_neg (ge8 (by omega)), ei]
    by_cases q : r = dN b p
    · have ne : ¬ (S &&& f_X0_around (nI p) (nI r)) = 0 := fun z => by
        have t : lb (S &&& f_X0_around (nI p) (nI r)) b = true := by
          rw [lb_and, h4, around_b p hp r (by omega) b hb, f1, decide_eq_true (nI_le (by omega) (by omega))]
          rfl
        rw [z, lb_0] at t
        cases t
      rw [if_neg (fun z => ne ((lg_cmp_eq _ _).mp z)), q]
    · have e0 : (S &&& f_X0_around (nI p) (nI r)) = 0 := lb_ext (fun c hc => by
        obtain ⟨g1, g2, g3⟩ := far_dN c hc p hp
        rw [lb_and, lb_0, around_b p hp r (by omega) c hc, g1]
        cases hcb : lb S c
        · rfl
        · have := h5 c hc hcb
          rw [decide_eq_false (nI_ge (by omega) (by omega))]
          rfl)
      rw [if_pos ((lg_cmp_eq _ _).mpr e0), lt_1, nI_1]
      exact ih (r + 1) (by omega) (by omega)
theorem and_0l (x : Int64) : (0 : Int64) &&& x = 0 := lb_ext (fun c _ => by rw [lb_and, lb_0, Bool.false_and])
theorem nf_0 {i : Nat → Int32} (k : Unit → Int32) : ∀ (n : Nat) (r : Int32), f_X4_nearestFar_L7 i 0 k n r = k ()
  | 0, _ => by rw [f_X4_nearestFar_L7]
  | n + 1, r => by
    rw [f_X4_nearestFar_L7, and_0l, if_pos ((lg_cmp_eq _ _).mpr rfl), lt_1, nf_0 k n, ite_self]
theorem seen_eq {lo : Nat → Int64} {i f : Nat → Int32} {st : Nat → Nat → Int32} (h : seaR lo i f st) (x : Nat) (hx : x ≤ 2) :
    (if i 3 = -6 then (-6 : Int32) else if nI x = 0 then f_J13_bitCount_95d88 (f_X4_sighted lo i f) else if nI x = 1 then f_X4_nearestFar lo i f else f_X4_nearestLand lo i f) = f_X7_ofSeen (nI x) st := by
  have hwi := who_iff h.2.2.2.1.2.1.1
  have a3 : i 3 = st 0 4 := h.2.1.2.2.1
  unfold f_X7_ofSeen
  rw [a3, lt_1]
  by_cases c : st 0 4 = -6
  · rw [if_pos c, if_neg (hwi.mp c)]
  have c' : 0 ≤ st 0 4 := Decidable.not_not.mp (fun q => c (hwi.mpr q))
  rw [if_neg c, if_pos c']
  obtain ⟨e, p, he, hp, ep, ei, hg, hs⟩ := sgt_eq h c
  have hsee := fun d (hd : d < 64) => isSeen_eq h c hd
  have hsm := seenMany_eq h c
  have hpl : lb (f_X4_sighted lo i f) p = false := by
    have hz := h.2.2.2.1.2.1.2.2.2
    rw [ep, nI_clamp (by omega), h.1 p hp] at hz
    rw [hs, lb_and, bI_0.mp hz, Bool.false_and]
  obtain ⟨w, hw, ew⟩ := near_L (S := f_X4_sighted lo i f) hp ep hsee 64 (-6) (Nat.le_refl 64) (Or.inl ⟨rfl, fun c h1 h2 => by omega⟩)
  have enr : f_X7_nearest st = w := ew
  rw [enr, hsm, bc_pop]
  unfold f_X4_nearestLand
  have enf : f_X4_nearestFar lo i f = f_X4_nearestFar_L7 i (f_X4_sighted lo i f) (fun (_ : Unit) => (-6 : Int32)) 7 (nI 1) := rfl
  rw [lt_1, enf, ei]
  generalize f_X4_sighted lo i f = S at *
  by_cases d0 : x = 0
  · subst d0
    rw [if_pos nI_0, if_pos nI_0]
  have n0 : ¬ nI x = 0 := nI_ne0 (by omega) (by omega)
  rw [if_neg n0, if_neg n0]
  rcases hw with ⟨h1, h2⟩ | ⟨b, h1, _, h3, h4, h5⟩
  · have e0 : S = 0 := lb_ext (fun c hc => by rw [h2 c (Nat.zero_le _) hc, lb_0])
    rw [e0, nf_0, if_pos rfl, ite_self, h1, if_neg (show ¬ 0 ≤ (-6 : Int32) by decide), ite_self]
  · obtain ⟨f1, f2, f3⟩ := far_dN b h3 p hp
    have hpos : 1 ≤ dN b p := by
      rcases Nat.eq_zero_or_pos (dN b p) with q | q
      · rw [f3 q, hpl] at h4; cases h4
      · exact q
    have enf2 := nf_b hp ei h3 h4 (fun c hc hcb => (h5 c (Nat.zero_le _) hc hcb).1) (fun (_ : Unit) => (-6 : Int32)) 7 1 rfl hpos
    rw [enf2, if_neg (ne6 (by omega)), h1, if_pos (nI_pos' (by omega)), ep, f1]
    by_cases d1 : x = 1
    · subst d1
      rw [if_pos (show nI 1 = 1 from rfl), if_neg (show ¬ nI 1 = 2 by decide)]
    · have d2 : x = 2 := by omega
      subst d2
      rw [if_neg (show ¬ nI 2 = 1 by decide), if_pos (show nI 2 = 2 from rfl)]
      refine least_k h3 ?_ (fun c hc => ?_)
      · rw [lb_and, h4, around_b p hp _ (by omega) b h3, f1, decide_eq_true (nI_le (Nat.le_refl _) (by omega))]; rfl
      · obtain ⟨g1, g2, g3⟩ := far_dN c (by omega) p hp
        rw [lb_and, around_b p hp _ (by omega) c (by omega), g1]
        cases hcb : lb S c
        · rfl
        · have := h5 c (Nat.zero_le _) (by omega) hcb
          rw [decide_eq_false (nI_ge (by omega) (by omega))]
          rfl
set_option maxRecDepth 4000 in
theorem s_seen : lwS9 InvR := by
  intro L I st x1 hR
  have ei := in_eq x1 (a := 0) (b := 2) (a' := 0) (b' := 2) (by decide) (by decide)
  by_cases c1 : f_X6_within x1 0 2 = 0
  · unfold f_X6_seen f_X7_seen
    rw [lt_1, st_no _ _ _ _ _ c1, ei, if_pos c1]
    exact ⟨rfl, hR⟩
  have eM : f_X7_seen x1 st = f_X7_back (if (f_X7_refusal st).1 = -6 then f_X7_ofSeen x1 (f_X7_refusal st).2 else (f_X7_refusal st).1) (f_X7_refusal st).2 := by
    unfold f_X7_seen
    rw [ei, if_neg c1, lt_1, jn_1]
    by_cases d : (f_X7_refusal st).1 = -6
    · rw [if_pos d, if_pos d]; rfl
    · rw [if_neg d, if_neg d]; rfl
  have eC : f_X6_seen x1 L I = (fun (q4 : Int32 × (Nat → Nat → Int64) × (Nat → Nat → Int32)) => if q4.1 = 0 then ((if q4.2.2 8 3 = -6 then (-6 : Int32) else if x1 = 0 then f_J13_bitCount_95d88 (f_X4_sighted (q4.2.1 8) (q4.2.2 8) (q4.2.2 9)) else if x1 = 1 then f_X4_nearestFar (q4.2.1 8) (q4.2.2 8) (q4.2.2 9) else f_X4_nearestLand (q4.2.1 8) (q4.2.2 8) (q4.2.2 9)), q4.2.1, q4.2.2) else (q4.1, q4.2.1, q4.2.2)) (f_X6_sailTheText x1 2 1 L I) := by
    unfold f_X6_seen
    rw [lt_1]
    generalize f_X6_sailTheText x1 2 1 L I = q4
    dsimp only
    by_cases a : q4.1 = 0
    · rw [if_pos a, if_pos a]
      by_cases b : q4.2.2 8 3 = -6
      · rw [if_pos b, if_pos b]
      rw [if_neg b, if_neg b]
      by_cases c : x1 = 0
      · rw [if_pos c, if_pos c]
      rw [if_neg c, if_neg c]
      by_cases d : x1 = 1
      · rw [if_pos d, if_pos d]
      · rw [if_neg d, if_neg d]
    · rw [if_neg a, if_neg a]
  rw [eM, eC]
  obtain ⟨x, hx, rfl⟩ := up_n (k := 2) (by decide) (by decide) c1
  have hz := beh_C (fun lo i f => if i 3 = -6 then (-6 : Int32) else if nI x = 0 then f_J13_bitCount_95d88 (f_X4_sighted lo i f) else if nI x = 1 then f_X4_nearestFar lo i f else f_X4_nearestLand lo i f) hR c1 (fun t => f_X7_ofSeen (nI x) t) (fun lo i f t h => seen_eq h x hx)
  exact hz
