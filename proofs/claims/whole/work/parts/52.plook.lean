/-! look -/
theorem u1_s {α : Type} (f : Nat → α) (k : Nat) (v : α) : u1 f k v k = v := if_pos rfl
theorem u1_n {α : Type} (f : Nat → α) {k j : Nat} (v : α) (h : ¬ j = k) : u1 f k v j = f j := if_neg h
theorem fit_old {a b d : Nat → Int32} {c m : Nat} {x y z : Int32} : ∀ n, n ≤ m → fitB (u1 a m x) (u1 b m y) (u1 d m z) c n = fitB a b d c n
  | 0, _ => rfl
  | n + 1, h => by
    rw [fitB, fitB, fit_old n (by omega), u1_n _ _ (by omega), u1_n _ _ (by omega), u1_n _ _ (by omega)]
theorem fit_step (a b d : Nat → Int32) (c m : Nat) (x y z : Int32) : fitB (u1 a m x) (u1 b m y) (u1 d m z) c (m + 1) = (fitB a b d c m && (decide (f_X7_far (nI c) x ≤ y) == decide (z = 1))) := by
  rw [fitB, fit_old m (Nat.le_refl m), u1_s, u1_s, u1_s]
theorem look_end {L : Nat → Nat → Int64} {I st : Nat → Nat → Int32} (hR : InvR L I st) {p e m : Nat} (hp : p < 64) (he : e < 8) (hm : m < 8) (em : st 0 11 = nI m) {new : Int64} {z : Int32} (hz : z = 0 ∨ z = 1)
    (hb : ∀ c, c < 64 → lb new c = (lb (L 3 8) c && (decide (f_X7_far (nI c) (nI p) ≤ nI e) == decide (z = 1)))) :
    InvR (u2 L 3 8 new) (u2 I 3 7 (nI m + 1)) (u2 (u2 (u2 (u2 st 9 m (nI p)) 10 m (nI e)) 11 m z) 0 11 (nI m + 1)) := by
  obtain ⟨⟨hg, ⟨a1, a2, a3, a4, a5, a6, a7⟩, hey, ⟨hpl, hw, hmi, hn⟩, hv, hf⟩, hpad, hi0, hi1⟩ := hR
  rw [em, nI_clamp (by omega)] at hv hf
  refine ⟨⟨hg, ⟨a1, a2, a3, a4, a5, a6, rfl⟩, hey, ⟨hpl, hw, hmi, ?_⟩, ?_, ?_⟩, hpad, hi0, hi1⟩
  · show 0 ≤ (nI m + 1).toInt ∧ (nI m + 1).toInt ≤ 8
    rw [nI_1, nI_toInt (by omega)]
    omega
  · intro j hj
    have hj : j < (nI m + 1).toNatClampNeg := hj
    rw [nI_1, nI_clamp (by omega)] at hj
    show (0 ≤ (u1 (st 9) m (nI p) j).toInt ∧ (u1 (st 9) m (nI p) j).toInt < 64) ∧ (0 ≤ (u1 (st 10) m (nI e) j).toInt ∧ (u1 (st 10) m (nI e) j).toInt ≤ 7) ∧ (u1 (st 11) m z j = 0 ∨ u1 (st 11) m z j = 1)
    by_cases q : j = m
    · subst q
      rw [u1_s, u1_s, u1_s, nI_toInt (by omega), nI_toInt (by omega)]
      exact ⟨by omega, by omega, hz⟩
    · rw [u1_n _ _ q, u1_n _ _ q, u1_n _ _ q]
      exact hv j (by omega)
  · intro c hc
    show lb new c = fitB (u1 (st 9) m (nI p)) (u1 (st 10) m (nI e)) (u1 (st 11) m z) c (nI m + 1).toNatClampNeg
    rw [nI_1, nI_clamp (by omega), fit_step, hb c hc, hf c hc]
set_option maxHeartbeats 1000000 in
set_option maxRecDepth 4000 in
theorem s_look : lwS15 InvR := by
  intro L I st x1 x2 hR v hv
  have a7 : I 3 7 = st 0 11 := hR.1.2.1.2.2.2.2.2.2
  have hn := hR.1.2.2.2.1.2.2.2
  unfold f_X6_look f_X7_look
  rw [cell_eq, in_eq x2 (a' := 0) (b' := 7) (by decide) (by decide)]
  by_cases c1 : f_X0_isCell x1 = 0
  · rw [if_pos c1, if_pos c1]; exact ⟨rfl, hR⟩
  rw [if_neg c1, if_neg c1]
  by_cases c2 : f_X6_within x2 0 7 = 0
  · rw [if_pos c2, if_pos c2]; exact ⟨rfl, hR⟩
  rw [if_neg c2, if_neg c2]
  obtain ⟨p, hp, rfl⟩ := cell_n c1
  have h2 := within_nz c2
  rw [show (0 : Int32).toInt = 0 from by decide, show (7 : Int32).toInt = 7 from by decide] at h2
  obtain ⟨e, he, rfl⟩ : ∃ n, n < 8 ∧ x2 = nI n := nI_ofI h2.1 (by omega) (by decide)
  obtain ⟨m, hm, em⟩ : ∃ n, n < 9 ∧ st 0 11 = nI n := nI_ofI hn.1 (by omega) (by decide)
  rw [a7, em]
  by_cases c3 : m = 8
  · subst c3
    rw [if_neg (show ¬ nI 8 < (8 : Int32) by decide), if_pos (show nI 8 = (8 : Int32) by decide)]
    exact ⟨rfl, hR⟩
  · have c4 : nI m < (8 : Int32) := by
      rw [show (8 : Int32) = nI 8 from by decide]
      exact nI_lt (by omega) (by omega)
    have c5 : ¬ nI m = (8 : Int32) := fun q => by rw [q] at c4; exact absurd c4 (by decide)
    rw [if_pos c4, if_neg c5, nI_clamp (by omega)]
    unfold jn_ lt_
    dsimp only
    rcases hv with rfl | rfl
    · rw [if_pos rfl, if_pos rfl]
      have hz := look_end hR hp he (by omega) em (new := L 3 8 &&& (f_X0_around (nI p) (nI e) ^^^ (-1 : Int64))) (z := 0) (Or.inl rfl) (fun c hc => by
        rw [lb_and, lb_not _ hc, around_b p hp e he c hc, decide_eq_false (show ¬ (0 : Int32) = 1 by decide)]
        cases decide (f_X7_far (nI c) (nI p) ≤ nI e) <;> rfl)
      exact ⟨rfl, hz⟩
    · rw [if_neg (show ¬ (1 : Int32) = 0 by decide), if_neg (show ¬ (1 : Int32) = 0 by decide)]
      have hz := look_end hR hp he (by omega) em (new := L 3 8 &&& f_X0_around (nI p) (nI e)) (z := 1) (Or.inr rfl) (fun c hc => by
        rw [lb_and, around_b p hp e he c hc, decide_eq_true (show (1 : Int32) = 1 from rfl)]
        cases decide (f_X7_far (nI c) (nI p) ≤ nI e) <;> rfl)
      exact ⟨rfl, hz⟩
