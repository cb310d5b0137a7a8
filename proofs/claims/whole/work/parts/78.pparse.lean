/-! reading the text: the class's acts, the reference's list -/
def txt (i f : Nat → Int32) (n : Nat) (st : Nat → Nat → Int32) : Prop := n ≤ 60 ∧ i 1 = nI n ∧ st 0 13 = nI n ∧ ∀ j, j < n → st 13 j = f j
theorem sign_in {i f : Nat → Int32} {n p : Nat} (hn : n ≤ 60) (hi : i 1 = nI n) (h : p < n) : f_X2_signAt (nI p) i f = f p := by
  unfold f_X2_signAt
  rw [if_neg (nI_pos (by omega)), hi, if_neg (nI_ge h (by omega)), if_neg (ge60 (by omega)), nI_clamp (by omega)]
theorem sign_out {i f : Nat → Int32} {n p : Nat} (hi : i 1 = nI n) (h : n ≤ p) (hp : p < 2 ^ 31) : f_X2_signAt (nI p) i f = -6 := by
  unfold f_X2_signAt
  rw [if_neg (nI_pos hp), hi, if_pos (nI_le h hp)]
def aF (c d : Int32) : Int32 := if c = 99 then 4 else if c = 46 then 5 else if f_X6_within c 65 70 = 0 then (if c = 119 then (if f_X6_within d 48 55 = 0 then -6 else 2) else if c = 102 then (if f_X6_within d 48 55 = 0 then -6 else 3) else -6) else (if d = 94 then 0 else if d = 95 then 1 else -6)
theorem letter_n {c : Int32} (h : ¬ f_X6_within c 65 70 = 0) : 65 ≤ c.toInt ∧ c.toInt ≤ 70 := by
  have t := within_nz h
  rw [show (65 : Int32).toInt = 65 from by decide, show (70 : Int32).toInt = 70 from by decide] at t
  exact t
theorem ne_of {c d : Int32} (h : c.toInt ≠ d.toInt) : ¬ c = d := fun q => h (by rw [q])
theorem act_eq (x : Int32) (i f : Nat → Int32) : f_X2_actAt x i f = aF (f_X2_signAt x i f) (f_X2_signAt (x + 1) i f) := by
  unfold f_X2_actAt jn_ lt_ aF
  dsimp only
  generalize f_X2_signAt x i f = c
  generalize f_X2_signAt (x + 1) i f = d
  by_cases c1 : c = 99
  · rw [if_pos c1, if_pos c1]
  rw [if_neg c1, if_neg c1]
  by_cases c2 : c = 46
  · rw [if_pos c2, if_pos c2]
  rw [if_neg c2, if_neg c2]
  have eL : f_X2_isLetter c = f_X6_within c 65 70 := rfl
  have eD : f_X2_isDigit d = f_X6_within d 48 55 := rfl
  rw [eL, eD]
  by_cases c3 : f_X6_within c 65 70 = 0
  · rw [if_pos c3, if_pos c3, if_pos c3]
    by_cases c4 : c = 119
    · rw [if_pos c4, if_pos c4]
      by_cases c5 : f_X6_within d 48 55 = 0
      · rw [if_pos c5, if_neg (by rw [c4]; decide), if_pos c5]
      · rw [if_neg c5, if_neg c5]
    · rw [if_neg c4, if_neg c4]
  · have hl := letter_n c3
    rw [if_neg c3, if_neg c3, if_neg c3]
    by_cases d4 : d = 94
    · rw [if_pos d4, if_pos d4]
    rw [if_neg d4, if_neg d4]
    by_cases d5 : d = 95
    · rw [if_pos d5, if_pos d5]
    rw [if_neg d5, if_neg d5, if_neg (ne_of (by rw [show (119 : Int32).toInt = 119 from by decide]; omega)), if_neg (ne_of (by rw [show (102 : Int32).toInt = 102 from by decide]; omega))]
def wF (c d : Int32) : Int32 := if f_X6_within c 65 70 = 0 then d - 48 else c - 65
theorem with_eq (x : Int32) (i f : Nat → Int32) : f_X2_withAt x i f = wF (f_X2_signAt x i f) (f_X2_signAt (x + 1) i f) := rfl
def nF (c : Int32) : Int32 := if f_X6_within c 65 70 = 0 then (if c = 119 then 1 else if c = 102 then 1 else 0) else 1
theorem need_eq (c : Int32) : f_X2_needsASecond c = nF c := rfl
def sgN (a : Int32) : Nat := if a = 4 then 1 else if a = 5 then 1 else 2
theorem signs_eq (a : Int32) : f_X2_signsOf a = nI (sgN a) := by
  unfold f_X2_signsOf jn_ sgN
  dsimp only
  by_cases c : a = 4
  · rw [if_pos c, if_pos c]; rfl
  · rw [if_neg c, if_neg c]
    by_cases d : a = 5
    · rw [if_pos d, if_pos d]; rfl
    · rw [if_neg d, if_neg d]; rfl
def posF (i f : Nat → Int32) : Nat → Nat
  | 0 => 0
  | j + 1 => posF i f j + sgN (f_X2_actAt (nI (posF i f j)) i f)
def parI (i f : Nat → Int32) (n m : Nat) (st : Nat → Nat → Int32) : Prop :=
  st 0 16 = nI m ∧ posF i f m ≤ n ∧ m ≤ posF i f m ∧ ∀ j, j < m → posF i f j < n ∧ f_X2_actAt (nI (posF i f j)) i f ≠ -6 ∧ st 15 j = f_X2_actAt (nI (posF i f j)) i f ∧ actV (f_X2_actAt (nI (posF i f j)) i f) (f_X2_withAt (nI (posF i f j)) i f) (st 16 j)
/-! the reference's signs -/
theorem close_eq (w : Int32) (t : Nat → Nat → Int32) : f_X7_close w t = (0, u2 (u2 t 15 (t 0 16).toNatClampNeg w) 0 16 (t 0 16 + 1)) := rfl
theorem beg_n {c : Int32} (st : Nat → Nat → Int32) (h : f_X6_within c 65 70 = 0) : f_X7_readOn 0 c st = if c = 46 then f_X7_close 5 (mch st 0) else if c = 99 then f_X7_close 4 (mch st 0) else if c = 102 then (3, mch st 0) else if c = 119 then (2, mch st 0) else (-6, mch st 0) := by
  unfold f_X7_readOn f_X7_begin
  rw [if_pos rfl, lt_1, lt_1, jn_1, in_eq c (a' := 65) (b' := 70) (by decide) (by decide), h, if_pos rfl]
  dsimp only
  by_cases c1 : c = 46
  · rw [if_pos c1, if_pos c1]; rfl
  rw [if_neg c1, if_neg c1]
  by_cases c2 : c = 99
  · rw [if_pos c2, if_pos c2]; rfl
  rw [if_neg c2, if_neg c2]
  by_cases c3 : c = 102
  · rw [if_pos c3, if_pos c3]; rfl
  rw [if_neg c3, if_neg c3]
  by_cases c4 : c = 119
  · rw [if_pos c4, if_pos c4]; rfl
  rw [if_neg c4, if_neg c4, if_pos rfl]
  rfl
theorem beg_l {c : Int32} (st : Nat → Nat → Int32) (h : ¬ f_X6_within c 65 70 = 0) : f_X7_readOn 0 c st = (1, mch st (c - 65)) := by
  have hl := letter_n h
  unfold f_X7_readOn f_X7_begin
  rw [if_pos rfl, lt_1, lt_1, jn_1, in_eq c (a' := 65) (b' := 70) (by decide) (by decide), if_neg h]
  dsimp only
  rw [if_neg (ne_of (by rw [show (46 : Int32).toInt = 46 from by decide]; omega)), if_neg (ne_of (by rw [show (99 : Int32).toInt = 99 from by decide]; omega)), if_neg (ne_of (by rw [show (102 : Int32).toInt = 102 from by decide]; omega)), if_neg (ne_of (by rw [show (119 : Int32).toInt = 119 from by decide]; omega)), if_neg h]
  rfl
theorem sec_1 (d : Int32) (st : Nat → Nat → Int32) : f_X7_readOn 1 d st = if d = 94 then f_X7_close 0 st else if d = 95 then f_X7_close 1 st else (-6, st) := by
  unfold f_X7_readOn
  rw [if_neg (show ¬ (1 : Int32) = 0 by decide), if_pos (show (1 : Int32) = 1 from rfl)]
  rfl
theorem sec_d {u : Int32} (hu : u = 2 ∨ u = 3) (d : Int32) (st : Nat → Nat → Int32) : f_X7_readOn u d st = if f_X6_within d 48 55 = 0 then (-6, mch st (d - 48)) else f_X7_close u (mch st (d - 48)) := by
  have h0 : ¬ u = 0 := by rcases hu with rfl | rfl <;> decide
  have h1 : ¬ u = 1 := by rcases hu with rfl | rfl <;> decide
  unfold f_X7_readOn f_X7_digit
  rw [if_neg h0, if_neg h1, lt_1, lt_1, in_eq d (a' := 48) (b' := 55) (by decide) (by decide)]
  by_cases c : f_X6_within d 48 55 = 0
  · rw [if_pos c, if_pos c]; rfl
  · rw [if_neg c, if_neg c, jn_1]
    rcases hu with rfl | rfl
    · rw [if_pos rfl]; rfl
    · rw [if_neg (by decide)]; rfl
/-! the loop's steps -/
theorem fl_ok {k : Int32 → (Nat → Nat → Int32) → (Int32 × (Nat → Nat → Int32))} {n p N : Nat} {due r : Int32} {st st' : Nat → Nat → Int32} (hn : n ≤ 60) (h13 : st 0 13 = nI n) (hp : p < n) (hr : f_X7_readOn due (st 13 p) st = (r, st')) (h0 : 0 ≤ r) : f_X7_fault_L9 k (N + 1) (nI p) due st = f_X7_fault_L9 k N (nI (p + 1)) r st' := by
  rw [f_X7_fault_L9, h13, if_neg (nI_ge hp (by omega)), nI_clamp (by omega), hr, lt_1]
  dsimp only
  rw [if_pos h0, lt_1, nI_1]
theorem fl_bad {k : Int32 → (Nat → Nat → Int32) → (Int32 × (Nat → Nat → Int32))} {n p N : Nat} {due : Int32} {st st' : Nat → Nat → Int32} (hn : n ≤ 60) (h13 : st 0 13 = nI n) (hp : p < n) (hr : f_X7_readOn due (st 13 p) st = (-6, st')) : f_X7_fault_L9 k (N + 1) (nI p) due st = (nI p, st') := by
  rw [f_X7_fault_L9, h13, if_neg (nI_ge hp (by omega)), nI_clamp (by omega), hr, lt_1]
  dsimp only
  rw [if_neg (by decide)]
theorem fl_end {k : Int32 → (Nat → Nat → Int32) → (Int32 × (Nat → Nat → Int32))} {n p : Nat} {due : Int32} {st : Nat → Nat → Int32} (h13 : st 0 13 = nI n) (hp : n ≤ p) (hp2 : p < 2 ^ 31) : ∀ N, f_X7_fault_L9 k N (nI p) due st = k due st
  | 0 => by rw [f_X7_fault_L9]
  | N + 1 => by rw [f_X7_fault_L9, h13, if_pos (nI_le hp hp2)]
theorem ff_end {i f : Nat → Int32} {k : Unit → Int32} {n p m : Nat} (hi : i 1 = nI n) (hp : n ≤ p) (hp2 : p < 2 ^ 31) : ∀ N, f_X2_firstFault_L4 i f k N (nI m) (nI p) = k ()
  | 0 => by rw [f_X2_firstFault_L4]
  | N + 1 => by
    rw [f_X2_firstFault_L4, hi, if_pos (nI_le hp hp2)]
    by_cases c : nI n ≤ nI m
    · rw [if_pos c]
    · rw [if_neg c]
theorem ff_1 {i f : Nat → Int32} {k : Unit → Int32} {n p m N : Nat} (hn : n ≤ 60) (hi : i 1 = nI n) (hp : p < n) (hm : m < n) : f_X2_firstFault_L4 i f k (N + 1) (nI m) (nI p) = if f_X2_actAt (nI p) i f = -6 then (if nF (f p) = 0 then nI p else nI (p + 1)) else f_X2_firstFault_L4 i f k N (nI (m + 1)) (nI (p + sgN (f_X2_actAt (nI p) i f))) := by
  rw [f_X2_firstFault_L4, hi, if_neg (nI_ge hm (by omega)), if_neg (nI_ge hp (by omega)), lt_1, need_eq, sign_in hn hi hp, lt_1, lt_1, signs_eq, nI_add, nI_1, nI_1]
theorem par_close {i f : Nat → Int32} {n m : Nat} {st t : Nat → Nat → Int32} (hn : n ≤ 60) (h : parI i f n m st) (hp : posF i f m < n) (hA : f_X2_actAt (nI (posF i f m)) i f ≠ -6) (hq : posF i f m + sgN (f_X2_actAt (nI (posF i f m)) i f) ≤ n) (t0 : t 0 16 = st 0 16) (t15 : ∀ j, t 15 j = st 15 j) (t16 : ∀ j, j < m → t 16 j = st 16 j) (hv : actV (f_X2_actAt (nI (posF i f m)) i f) (f_X2_withAt (nI (posF i f m)) i f) (t 16 m)) :
    parI i f n (m + 1) (f_X7_close (f_X2_actAt (nI (posF i f m)) i f) t).2 := by
  obtain ⟨h1, h2, h3, h4⟩ := h
  rw [close_eq, t0, h1, nI_clamp (by omega), nI_1]
  have hs : 1 ≤ sgN (f_X2_actAt (nI (posF i f m)) i f) := by
    unfold sgN
    repeat' split
    all_goals omega
  dsimp only
  refine ⟨u2_s _ _ _ _, hq, ?_, fun j hj => ?_⟩
  · rw [posF]
    omega
  · rw [u2_p (q := 15) (p := 0) _ _ (by decide), u2_v, u2_p (q := 16) (p := 0) _ _ (by decide), u2_p (q := 16) (p := 15) _ _ (by decide)]
    by_cases e : j = m
    · subst e
      rw [if_pos rfl]
      exact ⟨hp, hA, rfl, hv⟩
    · obtain ⟨g1, g2, g3, g4⟩ := h4 j (by omega)
      rw [if_neg e, t15, t16 j (by omega)]
      exact ⟨g1, g2, g3, g4⟩
