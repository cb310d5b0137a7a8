/-! the cells that fit: the reference's list is the set's bits in order -/
theorem ge64 {c : Nat} (h : c < 64) : ¬ (64 : Int32) ≤ nI c := nI_ge (b := 64) h (by decide)
theorem ge15 {c : Nat} (h : c < 15) : ¬ (15 : Int32) ≤ nI c := nI_ge (b := 15) h (by decide)
theorem ge640 {c : Nat} (h : c < 640) : ¬ (640 : Int32) ≤ nI c := nI_ge (b := 640) h (by decide)
theorem ge8 {c : Nat} (h : c < 8) : ¬ (8 : Int32) ≤ nI c := nI_ge (b := 8) h (by decide)
theorem ge9 {c : Nat} (h : c < 9) : ¬ (9 : Int32) ≤ nI c := nI_ge (b := 9) h (by decide)
theorem ge10 {c : Nat} (h : c < 10) : ¬ (10 : Int32) ≤ nI c := nI_ge (b := 10) h (by decide)
theorem ge16 {c : Nat} (h : c < 16) : ¬ (16 : Int32) ≤ nI c := nI_ge (b := 16) h (by decide)
theorem ge512 {c : Nat} (h : c < 512) : ¬ (512 : Int32) ≤ nI c := nI_ge (b := 512) h (by decide)
theorem ge60 {c : Nat} (h : c < 60) : ¬ (60 : Int32) ≤ nI c := nI_ge (b := 60) h (by decide)
theorem le8 {c : Nat} (h : 8 ≤ c) (h2 : c < 2 ^ 31) : (8 : Int32) ≤ nI c := nI_le (a := 8) h h2
theorem nlt7 {c : Nat} (h : c ≤ 7) : ¬ (7 : Int32) < nI c := nI_nlt (a := 7) h (by decide)
theorem nlt9 {c : Nat} (h : c ≤ 9) : ¬ (9 : Int32) < nI c := nI_nlt (a := 9) h (by decide)
theorem fit1_L {st : Nat → Nat → Int32} {c m : Nat} (hm : st 0 11 = nI m) (hm8 : m ≤ 8) (hv : ∀ j, j < m → st 11 j = 0 ∨ st 11 j = 1) (k : Int32 → Int32) : ∀ (n j : Nat) (b : Bool), j + n = 8 → j ≤ m → b = fitB (st 9) (st 10) (st 11) c j → f_X7_isFit_L4 (nI c) st k n (nI j) (bI b) = k (bI (fitB (st 9) (st 10) (st 11) c m)) := by
  intro n
  induction n with
  | zero =>
    intro j b hj hjm hb
    have e : j = m := by omega
    rw [f_X7_isFit_L4, hb, e]
  | succ n ih =>
    intro j b hj hjm hb
    rw [f_X7_isFit_L4, hm]
    by_cases q : m ≤ j
    · have e : j = m := by omega
      rw [if_pos (nI_le q (by omega)), hb, e]
    · rw [if_neg (nI_ge (by omega) (by omega)), jn_1, nI_clamp (by omega), nI_1]
      have hi := ih (j + 1) (b && (decide (f_X7_far (nI c) (st 9 j) ≤ st 10 j) == decide (st 11 j = 1))) (by omega) (by omega) (by rw [fitB, hb])
      have hs : ∀ z36 : Int32, z36 = bI (decide (f_X7_far (nI c) (st 9 j) ≤ st 10 j)) → (jn_ (fun (z67_s0 : Int32) => lt_ (nI (j + 1)) (fun (y68 : Int32) => f_X7_isFit_L4 (nI c) st k n y68 z67_s0)) (fun j67 => jn_ (fun (_ : Unit) => j67 (0 : Int32)) (fun j66 => if (bI b) = 0 then j66 () else jn_ (fun (z59_s0 : Int32) => if z36 = z59_s0 then j67 (1 : Int32) else j66 ()) (fun j59 => if (st 11 j) = (1 : Int32) then j59 (1 : Int32) else j59 (0 : Int32))))) = k (bI (fitB (st 9) (st 10) (st 11) c m)) := by
        intro z36 hz
        unfold jn_ lt_
        dsimp only
        rw [hz]
        cases b
        · rw [bI_f, if_pos rfl]
          exact hi
        · rw [bI_t, if_neg (show ¬ (1 : Int32) = 0 by decide)]
          rcases hv j (by omega) with e | e
          · rw [e, if_neg (show ¬ (0 : Int32) = 1 by decide)]
            rw [e, decide_eq_false (show ¬ (0 : Int32) = 1 by decide)] at hi
            cases hd : decide (f_X7_far (nI c) (st 9 j) ≤ st 10 j)
            · rw [hd] at hi
              rw [bI_f, if_pos rfl]
              exact hi
            · rw [hd] at hi
              rw [bI_t, if_neg (show ¬ (1 : Int32) = 0 by decide)]
              exact hi
          · rw [e, if_pos rfl]
            rw [e, decide_eq_true (show (1 : Int32) = 1 from rfl)] at hi
            cases hd : decide (f_X7_far (nI c) (st 9 j) ≤ st 10 j)
            · rw [hd] at hi
              rw [bI_f, if_neg (show ¬ (0 : Int32) = 1 by decide)]
              exact hi
            · rw [hd] at hi
              rw [bI_t, if_pos rfl]
              exact hi
      by_cases hf : st 10 j < f_X7_far (nI c) (st 9 j)
      · rw [if_pos hf]
        exact hs 0 (by rw [decide_eq_false (fun h => by have := ti_lt hf; have := ti_le h; omega)]; rfl)
      · rw [if_neg hf]
        exact hs 1 (by rw [decide_eq_true (Int32.le_iff_toInt_le.mpr (ti_nlt hf))]; rfl)
theorem fit1 {st : Nat → Nat → Int32} {c m : Nat} (hm : st 0 11 = nI m) (hm8 : m ≤ 8) (hv : ∀ j, j < m → st 11 j = 0 ∨ st 11 j = 1) : f_X7_isFit (nI c) st = bI (fitB (st 9) (st 10) (st 11) c m) := by
  have h := fit1_L (c := c) hm hm8 hv (fun w => w) 8 0 true (by omega) (by omega) rfl
  exact h
theorem popB_mono (x : Int64) : ∀ n k, popB x n ≤ popB x (n + k)
  | _, 0 => Nat.le_refl _
  | n, k + 1 => by
    have h := popB_mono x n k
    rw [← Nat.add_assoc, popB]
    omega
theorem popB_lt {x : Int64} {c d : Nat} (h : lb x c = true) (hd : c < d) : popB x c < popB x d := by
  have e : popB x (c + 1) = popB x c + 1 := by rw [popB, h, if_pos rfl]
  have m := popB_mono x (c + 1) (d - (c + 1))
  rw [show c + 1 + (d - (c + 1)) = d by omega] at m
  omega
theorem popB_inj {x : Int64} {c d : Nat} (h : lb x c = true) (h2 : lb x d = true) (e : popB x c = popB x d) : c = d := by
  rcases Nat.lt_trichotomy c d with q | q | q
  · have := popB_lt h q; omega
  · exact q
  · have := popB_lt h2 q; omega
theorem popB_ex (x : Int64) : ∀ n j, j < popB x n → ∃ c, c < n ∧ lb x c = true ∧ popB x c = j
  | 0, j, h => absurd h (Nat.not_lt_zero j)
  | n + 1, j, h => by
    by_cases q : j < popB x n
    · obtain ⟨c, h1, h2, h3⟩ := popB_ex x n j q
      exact ⟨c, by omega, h2, h3⟩
    · rw [popB] at h
      by_cases hb : lb x n = true
      · rw [hb, if_pos rfl] at h
        exact ⟨n, by omega, hb, by omega⟩
      · rw [ts_nt hb, if_neg (by decide)] at h
        omega
/-- the list's state: the first c cells are through -/
def fitP (x : Int64) (c : Nat) (s t : Nat → Nat → Int32) : Prop :=
  t 0 28 = nI (popB x c) ∧ (∀ k, k ≠ 28 → t 0 k = s 0 k) ∧ (∀ q, q ≠ 0 → q ≠ 28 → t q = s q) ∧ ∀ d, d < c → lb x d = true → t 28 (popB x d) = nI d
theorem fits_go {s : Nat → Nat → Int32} {m : Nat} {x : Int64} (hm : s 0 11 = nI m) (hm8 : m ≤ 8) (hv : ∀ j, j < m → s 11 j = 0 ∨ s 11 j = 1) (hx : ∀ c, c < 64 → lb x c = fitB (s 9) (s 10) (s 11) c m) (k : (Nat → Nat → Int32) → (Nat → Nat → Int32)) : ∀ (n c : Nat) (t : Nat → Nat → Int32), c + n = 64 → fitP x c s t → ∃ t', fitP x 64 s t' ∧ f_X7_findFits_L7 k n (nI c) t = k t' := by
  intro n
  induction n with
  | zero =>
    intro c t hc h
    have e : c = 64 := by omega
    subst e
    exact ⟨t, h, by rw [f_X7_findFits_L7]⟩
  | succ n ih =>
    intro c t hc h
    obtain ⟨h1, h2, h3, h4⟩ := h
    rw [f_X7_findFits_L7, if_neg (ge64 (by omega)), jn_1]
    have e9 := h3 9 (by decide) (by decide)
    have e10 := h3 10 (by decide) (by decide)
    have e11 := h3 11 (by decide) (by decide)
    have hf : f_X7_isFit (nI c) t = bI (lb x c) := by
      rw [fit1 (m := m) ((h2 11 (by decide)).trans hm) hm8 (by rw [e11]; exact hv), e9, e10, e11, hx c (by omega)]
    have hle := popB_le x c
    rw [hf]
    by_cases hb : lb x c = true
    · have ep : popB x (c + 1) = popB x c + 1 := by rw [popB, hb, if_pos rfl]
      rw [hb, bI_t, if_neg (show ¬ (1 : Int32) = 0 by decide), lt_1]
      dsimp only
      rw [lt_1, nI_1, h1, nI_1, nI_clamp (by omega)]
      refine ih (c + 1) _ (by omega) ⟨?_, fun j hj => ?_, fun q q0 q28 => ?_, fun d hd hbd => ?_⟩
      · rw [u2_s, ep]
      · rw [u2_k _ _ hj, u2_p _ _ (by decide), h2 j hj]
      · rw [u2_p _ _ q0, u2_p _ _ q28, h3 q q0 q28]
      · rw [u2_p _ _ (by decide), u2_v]
        by_cases e : d = c
        · rw [e, if_pos rfl]
        · rw [if_neg (fun q => e (popB_inj hbd hb q)), h4 d (by omega) hbd]
    · have ep : popB x (c + 1) = popB x c := by rw [popB, ts_nt hb, if_neg (by decide), Nat.add_zero]
      rw [ts_nt hb, bI_f, if_pos rfl]
      dsimp only
      rw [lt_1, nI_1]
      refine ih (c + 1) _ (by omega) ⟨by rw [ep, h1], h2, h3, fun d hd hbd => ?_⟩
      by_cases e : d = c
      · rw [e] at hbd; exact absurd hbd hb
      · exact h4 d (by omega) hbd
theorem fits_all {L : Nat → Nat → Int64} {I st : Nat → Nat → Int32} (hR : InvR L I st) : fitP (L 3 8) 64 st (f_X7_findFits st) := by
  obtain ⟨⟨_, _, _, ⟨_, _, _, hn⟩, hv, hf⟩, _⟩ := hR
  obtain ⟨m, hm, em⟩ : ∃ n, n < 9 ∧ st 0 11 = nI n := nI_ofI hn.1 (by omega) (by decide)
  rw [em, nI_clamp (by omega)] at hv hf
  obtain ⟨t', h1, h2⟩ := fits_go (s := st) (m := m) (x := L 3 8) em (by omega) (fun j hj => (hv j hj).2.2) hf (fun w => w) 64 0 (u2 st 0 28 0) (by omega) ⟨by rw [u2_s]; rfl, fun k hk => u2_k _ _ hk, fun q q0 _ => u2_p _ _ q0, fun d hd => absurd hd (Nat.not_lt_zero d)⟩
  have e : f_X7_findFits st = t' := h2
  rw [e]
  exact h1
theorem fits_inv {L : Nat → Nat → Int64} {I st t : Nat → Nat → Int32} (hR : InvR L I st) (h : fitP (L 3 8) 64 st t) : InvR L I t := by
  obtain ⟨_, h2, h3, _⟩ := h
  obtain ⟨hs, hpad, hi0, hi1⟩ := hR
  have e31 := h3 31 (by decide) (by decide)
  have e32 := h3 32 (by decide) (by decide)
  have e13 := h3 13 (by decide) (by decide)
  refine ⟨?_, ?_, ?_, ?_⟩
  · exact sea_congr hs ⟨rfl, rfl, fun _ _ _ => rfl, fun _ _ => rfl⟩ ⟨⟨h2 _ (by decide), h2 _ (by decide), h2 _ (by decide), h2 _ (by decide), h2 _ (by decide), h2 _ (by decide), h2 _ (by decide)⟩, fun c _ => congrFun (h3 1 (by decide) (by decide)) c, fun c _ => congrFun (h3 4 (by decide) (by decide)) c, fun c _ => congrFun (h3 9 (by decide) (by decide)) c, fun c _ => congrFun (h3 10 (by decide) (by decide)) c, fun c _ => congrFun (h3 11 (by decide) (by decide)) c⟩
  · rw [e13, h2 13 (by decide)]; exact hpad
  · rw [e31, e32]; exact hi0
  · rw [e31, e32]; exact hi1
