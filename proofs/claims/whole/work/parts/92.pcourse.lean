/-! course: the sets and the steps -/
theorem lbv {v : Nat} (hv : v < 2 ^ 64) (j : Nat) : lb (lN v) j = v.testBit j := by
  by_cases h : j < 64
  · exact lb_lN h
  · unfold lb
    rw [BitVec.getLsbD_of_ge _ _ (by omega)]
    exact (Nat.testBit_lt_two_pow (Nat.lt_of_lt_of_le hv (Nat.pow_le_pow_right (by decide) (by omega)))).symm
theorem shr_b (x : Int64) {k : Nat} (hk : k < 64) (c : Nat) : lb (jushrL x (nI k)) c = lb x (c + k) := by
  obtain ⟨v, hv, rfl⟩ := wb_of x
  have e : jushrL (lN v) (nI k) = lN (v / 2 ^ k) := wb_shr hv hk
  rw [e, lbv (Nat.lt_of_le_of_lt (Nat.div_le_self _ _) hv), lbv hv, Nat.testBit_div_two_pow]
theorem shl_b (x : Int64) {k : Nat} (hk : k < 64) {c : Nat} (hc : c < 64) : lb (jshlL x (nI k)) c = (decide (k ≤ c) && lb x (c - k)) := by
  obtain ⟨v, hv, rfl⟩ := wb_of x
  have e : jshlL (lN v) (nI k) = lN (v * 2 ^ k) := wb_shl v hk
  rw [e, lb_lN hc, lbv hv, Nat.mul_comm, Nat.testBit_two_pow_mul]
theorem m1_b : ∀ c, c < 64 → lb (-72340172838076674 : Int64) c = decide (c % 8 ≠ 0) := by decide +kernel
def hR (j d : Nat) : Bool := decide (d = j) || (decide (d = j + 1) && decide ((j + 1) % 8 ≠ 0)) || (decide (j % 8 ≠ 0) && decide (d + 1 = j))
def rel (c d : Nat) : Bool := hR c d || (decide (8 ≤ c) && hR (c - 8) d) || (decide (c + 8 < 64) && hR (c + 8) d)
theorem rel_dN : ∀ c, c < 64 → ∀ d, d < 64 → rel c d = decide (dN c d ≤ 1) := by decide +kernel
def midS (x : Int64) : Int64 := (x ||| jushrL (x &&& (-72340172838076674 : Int64)) (1 : Int32)) ||| (jshlL x (1 : Int32)) &&& (-72340172838076674 : Int64)
theorem mid_b (x : Int64) {c : Nat} (hc : c < 64) : lb (midS x) c = true ↔ ∃ d, d < 64 ∧ lb x d = true ∧ hR c d = true := by
  have e1 := shr_b (x &&& (-72340172838076674 : Int64)) (k := 1) (by decide) c
  have e2 := shl_b x (k := 1) (by decide) hc
  have hx : ∀ d, 64 ≤ d → lb x d = false := fun d hd => BitVec.getLsbD_of_ge _ _ hd
  have e : lb (midS x) c = (lb x c || (lb x (c + 1) && lb (-72340172838076674 : Int64) (c + 1)) || ((decide (1 ≤ c) && lb x (c - 1)) && decide (c % 8 ≠ 0))) := by
    unfold midS
    rw [lb_or, lb_or, lb_and, m1_b c hc]
    have e1' : lb (jushrL (x &&& (-72340172838076674 : Int64)) (1 : Int32)) c = (lb x (c + 1) && lb (-72340172838076674 : Int64) (c + 1)) := by rw [← lb_and]; exact e1
    have e2' : lb (jshlL x (1 : Int32)) c = (decide (1 ≤ c) && lb x (c - 1)) := e2
    rw [e1', e2']
  rw [e]
  unfold hR
  constructor
  · intro h
    rw [Bool.or_eq_true, Bool.or_eq_true, Bool.and_eq_true, Bool.and_eq_true, Bool.and_eq_true] at h
    rcases h with (h | ⟨h, g⟩) | ⟨⟨h1, h⟩, g⟩
    · exact ⟨c, hc, h, by rw [decide_eq_true rfl]; rfl⟩
    · by_cases q : c + 1 < 64
      · rw [m1_b _ q] at g
        exact ⟨c + 1, q, h, by rw [decide_eq_true rfl, g, Bool.and_self, Bool.or_true, Bool.true_or]⟩
      · rw [hx _ (by omega)] at h; cases h
    · have h1 := of_decide_eq_true h1
      exact ⟨c - 1, by omega, h, by rw [g, decide_eq_true (show c - 1 + 1 = c by omega), Bool.and_self, Bool.or_true]⟩
  · rintro ⟨d, hd, h, g⟩
    rw [Bool.or_eq_true, Bool.or_eq_true, Bool.and_eq_true, Bool.and_eq_true] at g
    rcases g with (g | ⟨g1, g2⟩) | ⟨g1, g2⟩
    · have := of_decide_eq_true g
      subst this
      rw [h, Bool.true_or, Bool.true_or]
    · have := of_decide_eq_true g1
      subst this
      rw [h, m1_b _ hd, g2, Bool.and_self, Bool.or_true, Bool.true_or]
    · have := of_decide_eq_true g2
      rw [decide_eq_true (show 1 ≤ c by omega), show c - 1 = d by omega, h, g1, Bool.and_self, Bool.and_self, Bool.or_true]
theorem spread_b (x : Int64) {c : Nat} (hc : c < 64) : lb (f_X0_spread x) c = true ↔ ∃ d, d < 64 ∧ lb x d = true ∧ dN c d ≤ 1 := by
  have e0 : f_X0_spread x = (midS x ||| jshlL (midS x) (8 : Int32)) ||| jushrL (midS x) (8 : Int32) := rfl
  have e1 : lb (jushrL (midS x) (8 : Int32)) c = lb (midS x) (c + 8) := shr_b (midS x) (k := 8) (by decide) c
  have e2 : lb (jshlL (midS x) (8 : Int32)) c = (decide (8 ≤ c) && lb (midS x) (c - 8)) := shl_b (midS x) (k := 8) (by decide) hc
  have hx : ∀ d, 64 ≤ d → lb (midS x) d = false := fun d hd => BitVec.getLsbD_of_ge _ _ hd
  rw [e0, lb_or, lb_or, e1, e2, Bool.or_eq_true, Bool.or_eq_true, Bool.and_eq_true]
  have key : ∀ d, d < 64 → (rel c d = true ↔ dN c d ≤ 1) := fun d hd => by rw [rel_dN c hc d hd, decide_eq_true_iff]
  constructor
  · intro h
    rcases h with (h | ⟨h1, h⟩) | h
    · obtain ⟨d, hd, g1, g2⟩ := (mid_b x hc).mp h
      exact ⟨d, hd, g1, (key d hd).mp (by unfold rel; rw [g2, Bool.true_or, Bool.true_or])⟩
    · obtain ⟨d, hd, g1, g2⟩ := (mid_b x (by omega)).mp h
      exact ⟨d, hd, g1, (key d hd).mp (by unfold rel; rw [g2, h1, Bool.and_self, Bool.or_true, Bool.true_or])⟩
    · by_cases q : c + 8 < 64
      · obtain ⟨d, hd, g1, g2⟩ := (mid_b x q).mp h
        exact ⟨d, hd, g1, (key d hd).mp (by unfold rel; rw [g2, decide_eq_true q, Bool.and_self, Bool.or_true])⟩
      · rw [hx _ (by omega)] at h; cases h
  · rintro ⟨d, hd, g1, g2⟩
    have g := (key d hd).mpr g2
    unfold rel at g
    rw [Bool.or_eq_true, Bool.or_eq_true, Bool.and_eq_true, Bool.and_eq_true] at g
    rcases g with (g | ⟨h1, g⟩) | ⟨h1, g⟩
    · exact Or.inl (Or.inl ((mid_b x hc).mpr ⟨d, hd, g1, g⟩))
    · exact Or.inl (Or.inr ⟨h1, (mid_b x (by omega)).mpr ⟨d, hd, g1, g⟩⟩)
    · exact Or.inr ((mid_b x (of_decide_eq_true h1)).mpr ⟨d, hd, g1, g⟩)
/-! the sets from the end backwards -/
def cZ (A : Int64) (t : Nat) : Nat → Int64
  | 0 => if lb A t = true then 0 else f_X0_only (nI t)
  | n + 1 => f_X0_spread (cZ A t n) &&& (A ^^^ (-1 : Int64))
theorem zb_0 {A : Int64} {t : Nat} (ht : t < 64) {c : Nat} (hc : c < 64) : lb (cZ A t 0) c = true ↔ c = t ∧ lb A t = false := by
  unfold cZ
  by_cases h : lb A t = true
  · rw [if_pos h, lb_0, h]
    exact ⟨(fun q => by cases q), (fun q => by cases q.2)⟩
  · rw [if_neg h, only_b t ht c hc, decide_eq_true_iff]
    exact ⟨fun q => ⟨q, ts_nt h⟩, fun q => q.1⟩
theorem zb_s {A : Int64} {t n : Nat} {c : Nat} (hc : c < 64) : lb (cZ A t (n + 1)) c = true ↔ lb A c = false ∧ ∃ d, d < 64 ∧ lb (cZ A t n) d = true ∧ dN c d ≤ 1 := by
  rw [cZ, lb_and, lb_not _ hc, Bool.and_eq_true, spread_b _ hc, Bool.not_eq_true', and_comm]
theorem dN_self (c : Nat) : dN c c = 0 := by simp [dN, aD]
theorem zb_land {A : Int64} {t : Nat} (ht : t < 64) {c : Nat} (hc : c < 64) : ∀ n, lb (cZ A t n) c = true → lb A c = false
  | 0, h => by
    obtain ⟨e, h2⟩ := (zb_0 ht hc).mp h
    rw [e]; exact h2
  | n + 1, h => ((zb_s hc).mp h).1
theorem zb_up {A : Int64} {t : Nat} (ht : t < 64) {c : Nat} (hc : c < 64) {n : Nat} (h : lb (cZ A t n) c = true) : lb (cZ A t (n + 1)) c = true :=
  (zb_s hc).mpr ⟨zb_land ht hc n h, c, hc, h, by rw [dN_self]; omega⟩
theorem zb_le {A : Int64} {t : Nat} (ht : t < 64) {c : Nat} (hc : c < 64) {n : Nat} (h : lb (cZ A t n) c = true) : ∀ k, lb (cZ A t (n + k)) c = true
  | 0 => h
  | k + 1 => zb_up ht hc (zb_le ht hc h k)
theorem zb_le2 {A : Int64} {t : Nat} (ht : t < 64) {c : Nat} (hc : c < 64) {n m : Nat} (hnm : n ≤ m) (h : lb (cZ A t n) c = true) : lb (cZ A t m) c = true := by
  have e := zb_le ht hc h (m - n)
  rw [show n + (m - n) = m by omega] at e
  exact e
theorem zb_next {A : Int64} {t n m c d : Nat} (ht : t < 64) (hc : c < 64) (hd : d < 64) (hA : lb A c = false) (h : lb (cZ A t n) d = true) (hdn : dN c d ≤ 1) (hm : n + 1 ≤ m) : lb (cZ A t m) c = true :=
  zb_le2 ht hc hm ((zb_s hc).mpr ⟨hA, d, hd, h, hdn⟩)
theorem zb_eq {A : Int64} {t n : Nat} (h : ∀ c, c < 64 → lb (cZ A t (n + 1)) c = lb (cZ A t n) c) : ∀ k, cZ A t (n + k) = cZ A t n
  | 0 => rfl
  | k + 1 => by
    have e1 : cZ A t (n + (k + 1)) = f_X0_spread (cZ A t (n + k)) &&& (A ^^^ (-1 : Int64)) := rfl
    have e2 : cZ A t (n + 1) = f_X0_spread (cZ A t n) &&& (A ^^^ (-1 : Int64)) := rfl
    rw [e1, zb_eq h k, ← e2]
    exact lb_ext h
theorem popB_sub {x y : Int64} : ∀ n, (∀ c, c < n → lb x c = true → lb y c = true) → popB x n ≤ popB y n
  | 0, _ => Nat.le_refl 0
  | n + 1, h => by
    have ih := popB_sub n (fun c hc => h c (by omega))
    have hn := h n (by omega)
    rw [popB, popB]
    cases hx : lb x n
    · rw [if_neg (by decide)]; omega
    · rw [hn hx]; omega
theorem popB_sublt {x y : Int64} {k : Nat} (hy : lb y k = true) (hx : lb x k = false) : ∀ n, k < n → (∀ c, c < n → lb x c = true → lb y c = true) → popB x n < popB y n
  | 0, hk, _ => absurd hk (Nat.not_lt_zero k)
  | n + 1, hk, h => by
    have hn := h n (by omega)
    rw [popB, popB]
    by_cases q : k = n
    · have ih := popB_sub n (fun c hc => h c (by omega))
      rw [← q, hx, hy, if_neg (by decide), if_pos rfl, q]
      omega
    · have ih := popB_sublt hy hx n (by omega) (fun c hc => h c (by omega))
      cases hxn : lb x n
      · rw [if_neg (by decide)]; omega
      · rw [hn hxn]; omega
theorem zb_pop {A : Int64} {t : Nat} (ht : t < 64) (hA : lb A t = false) : ∀ n, (∃ j, j < n ∧ ∀ c, c < 64 → lb (cZ A t (j + 1)) c = lb (cZ A t j) c) ∨ n + 1 ≤ popB (cZ A t n) 64
  | 0 => Or.inr (by
    have hz0 : lb (cZ A t 0) t = true := (zb_0 ht ht).mpr ⟨rfl, hA⟩
    have := popB_lt hz0 ht
    omega)
  | n + 1 => by
    rcases zb_pop ht hA n with ⟨j, hj, h⟩ | h
    · exact Or.inl ⟨j, by omega, h⟩
    · by_cases q : ∀ c, c < 64 → lb (cZ A t (n + 1)) c = lb (cZ A t n) c
      · exact Or.inl ⟨n, by omega, q⟩
      · have : ∃ c, c < 64 ∧ ¬ lb (cZ A t (n + 1)) c = lb (cZ A t n) c := by
          apply Classical.byContradiction
          intro g
          exact q (fun c hc => Classical.byContradiction (fun z => g ⟨c, hc, z⟩))
        obtain ⟨c, hc, hne⟩ := this
        have hx : lb (cZ A t n) c = false := by
          cases hx : lb (cZ A t n) c
          · rfl
          · exact absurd (by rw [hx, zb_up ht hc hx]) hne
        have hy : lb (cZ A t (n + 1)) c = true := by
          cases hy : lb (cZ A t (n + 1)) c
          · exact absurd (by rw [hx, hy]) hne
          · rfl
        have hl := popB_sublt hy hx 64 hc (fun d hd hdx => zb_up ht hd hdx)
        exact Or.inr (by omega)
theorem zb_none {A : Int64} {t : Nat} (ht : t < 64) (hA : lb A t = true) : ∀ n c, c < 64 → lb (cZ A t n) c = false
  | 0, c, hc => by
    cases h : lb (cZ A t 0) c
    · rfl
    · have := ((zb_0 ht hc).mp h).2
      rw [hA] at this; cases this
  | n + 1, c, hc => by
    cases h : lb (cZ A t (n + 1)) c
    · rfl
    · obtain ⟨_, d, hd, h2, _⟩ := (zb_s hc).mp h
      rw [zb_none ht hA n d hd] at h2; cases h2
/-- all that is reached is reached by the sixty-third -/
theorem zb_63 {A : Int64} {t : Nat} (ht : t < 64) {c : Nat} (hc : c < 64) {n : Nat} (h : lb (cZ A t n) c = true) : lb (cZ A t 63) c = true := by
  cases hA : lb A t
  · rcases zb_pop ht hA 64 with ⟨j, hj, hs⟩ | h65
    · by_cases q : n ≤ 63
      · exact zb_le2 ht hc q h
      · have e1 := zb_eq hs (n - j)
        rw [show j + (n - j) = n by omega] at e1
        rw [e1] at h
        exact zb_le2 ht hc (by omega) h
    · have := popB_le (cZ A t 64) 64
      omega
  · rw [zb_none ht hA n c hc] at h; cases h
/-! the steps that the reference writes -/
def cD (A : Int64) (t : Nat) : Nat → Nat → Int32
  | 0, c => if lb (cZ A t 0) c = true then nI 0 else -6
  | k + 1, c => if lb (cZ A t k) c = true then cD A t k c else if lb (cZ A t (k + 1)) c = true then nI (k + 1) else -6
theorem cD_no {A : Int64} {t : Nat} (ht : t < 64) {c : Nat} (hc : c < 64) : ∀ k, lb (cZ A t k) c = false → cD A t k c = -6
  | 0, h => by rw [cD, h, if_neg (by decide)]
  | k + 1, h => by
    have h0 : lb (cZ A t k) c = false := by
      cases q : lb (cZ A t k) c
      · rfl
      · rw [zb_up ht hc q] at h; cases h
    rw [cD, h0, h, if_neg (by decide), if_neg (by decide)]
theorem cD_yes {A : Int64} {t : Nat} (ht : t < 64) {c : Nat} (hc : c < 64) : ∀ k, lb (cZ A t k) c = true → ∃ d, d ≤ k ∧ cD A t k c = nI d ∧ lb (cZ A t d) c = true ∧ ∀ e, e < d → lb (cZ A t e) c = false
  | 0, h => ⟨0, Nat.le_refl 0, by rw [cD, h, if_pos rfl], h, fun e he => absurd he (Nat.not_lt_zero e)⟩
  | k + 1, h => by
    cases q : lb (cZ A t k) c
    · refine ⟨k + 1, Nat.le_refl _, by rw [cD, q, h, if_neg (by decide), if_pos rfl], h, fun e he => ?_⟩
      cases g : lb (cZ A t e) c
      · rfl
      · rw [zb_le2 ht hc (show e ≤ k by omega) g] at q; cases q
    · obtain ⟨d, h1, h2, h3, h4⟩ := cD_yes ht hc k q
      exact ⟨d, by omega, by rw [cD, q, if_pos rfl, h2], h3, h4⟩
/-- a cell's number is d exactly when it is first reached at d -/
theorem cD_iff {A : Int64} {t : Nat} (ht : t < 64) {c : Nat} (hc : c < 64) {k d : Nat} (hk : k < 2 ^ 30) (hd : d ≤ k) : cD A t k c = nI d ↔ lb (cZ A t d) c = true ∧ ∀ e, e < d → lb (cZ A t e) c = false := by
  constructor
  · intro h
    cases q : lb (cZ A t k) c
    · rw [cD_no ht hc k q] at h
      exact absurd h.symm (ne6 (by omega))
    · obtain ⟨d2, h1, h2, h3, h4⟩ := cD_yes ht hc k q
      rw [h2] at h
      have := (nI_eq (by omega) (by omega)).mp h
      subst this
      exact ⟨h3, h4⟩
  · rintro ⟨h1, h2⟩
    obtain ⟨d2, g1, g2, g3, g4⟩ := cD_yes ht hc k (zb_le2 ht hc hd h1)
    rw [g2]
    rcases Nat.lt_trichotomy d d2 with q | q | q
    · rw [g4 d q] at h1; cases h1
    · rw [q]
    · rw [h2 d2 q] at g3; cases g3
/-! the ways -/
theorem ah_1 : ∀ c, c < 64 → ∀ w, w < 8 → f_X7_ahead (nI c) (nI w) = -6 ∨ ((f_X7_ahead (nI c) (nI w)).toNatClampNeg < 64 ∧ f_X7_ahead (nI c) (nI w) = nI (f_X7_ahead (nI c) (nI w)).toNatClampNeg ∧ dN c (f_X7_ahead (nI c) (nI w)).toNatClampNeg ≤ 1) := by decide +kernel
theorem ah_2 : ∀ c, c < 64 → ∀ d, d < 64 → dN c d = 1 → ∃ w, w < 8 ∧ f_X7_ahead (nI c) (nI w) = nI d := by decide +kernel
def lowW (P : Nat → Bool) : Nat → Int32 → Int32
  | 0, f => f
  | i + 1, f => lowW P i (sI (P i) (nI i) f)
theorem lowW_no {P : Nat → Bool} : ∀ (i : Nat) (f : Int32), (∀ j, j < i → P j = false) → lowW P i f = f
  | 0, _, _ => rfl
  | i + 1, f, h => by
    rw [lowW, h i (by omega), lowW_no i _ (fun j hj => h j (by omega))]
    rfl
theorem lowW_k {P : Nat → Bool} {k : Nat} (h1 : P k = true) (h0 : ∀ j, j < k → P j = false) : ∀ (i : Nat) (f : Int32), k < i → lowW P i f = nI k
  | 0, _, h => absurd h (Nat.not_lt_zero k)
  | i + 1, f, h => by
    rw [lowW]
    by_cases q : k = i
    · subst q
      rw [h1, lowW_no _ _ h0]
      rfl
    · exact lowW_k h1 h0 i _ (by omega)
theorem low_exW (P : Nat → Bool) : ∀ n, (∀ j, j < n → P j = false) ∨ ∃ k, k < n ∧ P k = true ∧ ∀ j, j < k → P j = false
  | 0 => Or.inl (fun j h => absurd h (Nat.not_lt_zero j))
  | n + 1 => by
    rcases low_exW P n with h | ⟨k, h1, h2, h3⟩
    · by_cases q : P n = true
      · exact Or.inr ⟨n, by omega, q, h⟩
      · exact Or.inl (fun j hj => by
          by_cases e : j = n
          · rw [e]; exact ts_nt q
          · exact h j (by omega))
    · exact Or.inr ⟨k, by omega, h2, h3⟩
theorem lowW_cg {P Q : Nat → Bool} : ∀ (i : Nat) (f : Int32), (∀ j, j < i → P j = Q j) → lowW P i f = lowW Q i f
  | 0, _, _ => rfl
  | i + 1, f, h => by rw [lowW, lowW, h i (by omega), lowW_cg i _ (fun j hj => h j (by omega))]
def wP (st : Nat → Nat → Int32) (c : Nat) (x : Int32) (w : Nat) : Bool := if f_X7_ahead (nI c) (nI w) < 0 then false else decide (st 25 (f_X7_ahead (nI c) (nI w)).toNatClampNeg = x)
theorem wt_g (G : Int32 → Int32 → Int32) (y w f u x : Int32) (b : Bool) (hb : (if y < 0 then false else decide (u = x)) = b) :
    (jn_ (fun (z42_s0 : Int32) => lt_ (w + (-1 : Int32)) (fun (y43 : Int32) => G y43 z42_s0)) (fun j42 => jn_ (fun (_ : Unit) => j42 f) (fun j41 => if y < 0 then j41 () else if u = x then j42 w else j41 ()))) = G (w + (-1 : Int32)) (sI b w f) := by
  rw [jn_1, jn_1]
  by_cases q1 : y < 0
  · rw [if_pos q1] at hb
    rw [← hb, if_pos q1]
    dsimp only
    rw [lt_1, sI]
  · rw [if_neg q1] at hb
    rw [if_neg q1]
    by_cases q2 : u = x
    · rw [decide_eq_true q2] at hb
      rw [← hb, if_pos q2]
      dsimp only
      rw [lt_1, sI]
    · rw [decide_eq_false q2] at hb
      rw [← hb, if_neg q2]
      dsimp only
      rw [lt_1, sI]
theorem wt_L {st : Nat → Nat → Int32} {c : Nat} {x : Int32} (k : Int32 → Int32) : ∀ (n : Nat) (f : Int32), n ≤ 8 → f_X7_wayTo_L7 (nI c) x st k n (nI n + (-1 : Int32)) f = k (lowW (wP st c x) n f) := by
  intro n
  induction n with
  | zero =>
    intro f _
    rw [f_X7_wayTo_L7, lowW]
  | succ n ih =>
    intro f hn
    rw [nI_m1, f_X7_wayTo_L7, if_neg (nI_pos (by omega)), lt_1]
    refine (wt_g (f_X7_wayTo_L7 (nI c) x st k n) (f_X7_ahead (nI c) (nI n)) (nI n) f (st 25 (f_X7_ahead (nI c) (nI n)).toNatClampNeg) x (wP st c x n) rfl).trans ?_
    rw [ih _ (by omega), lowW]
theorem wt_eq (st : Nat → Nat → Int32) (c : Nat) (x : Int32) : f_X7_wayTo (nI c) x st = lowW (wP st c x) 8 (-6) := wt_L (fun w => w) 8 (-6) (Nat.le_refl 8)
theorem lw_L {S : Int64} {c : Nat} (hc : c < 64) (k : Unit → Int32) (hk : k () = -6) : ∀ (n j : Nat), j + n = 8 → (∀ i, i < j → (if f_X0_holds S (f_X0_next (nI c) (nI i)) = 0 then false else true) = false) → f_X0_leastWayInto_L2 (nI c) S k n (nI j) = lowW (fun i => if f_X0_holds S (f_X0_next (nI c) (nI i)) = 0 then false else true) 8 (-6) := by
  intro n
  induction n with
  | zero =>
    intro j hj h
    have e : j = 8 := by omega
    subst e
    rw [f_X0_leastWayInto_L2, hk, lowW_no 8 _ h]
  | succ n ih =>
    intro j hj h
    rw [f_X0_leastWayInto_L2, if_neg (ge8 (by omega))]
    by_cases q : f_X0_holds S (f_X0_next (nI c) (nI j)) = 0
    · rw [if_pos q, lt_1, nI_1]
      refine ih (j + 1) (by omega) (fun i hi => ?_)
      by_cases e : i = j
      · rw [e, if_pos q]
      · exact h i (by omega)
    · rw [if_neg q]
      exact (lowW_k (P := fun i => if f_X0_holds S (f_X0_next (nI c) (nI i)) = 0 then false else true) (if_neg q) h 8 _ (by omega)).symm
