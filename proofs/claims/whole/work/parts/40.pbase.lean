/-! bits of an Int64: the families ts_ and wb_ of kit/laws/BITS.to-paste, then ours -/
theorem ts_nf {x : Bool} (h : ¬ x = false) : x = true := by cases x <;> first | rfl | exact absurd rfl h
theorem ts_nt {x : Bool} (h : ¬ x = true) : x = false := by cases x <;> first | rfl | exact absurd rfl h
theorem ts_bit {w : Int64} {s : UInt64} {j : Nat} (hj : j < 64) (hs : s.toNat = j) : ((w.toUInt64 >>> s).toInt64 &&& 1) = 0 ↔ w.toBitVec.getLsbD j = false := by
  have e : (w.toUInt64 >>> s).toInt64.toBitVec = w.toBitVec >>> j := by
    apply BitVec.eq_of_toNat_eq
    show (w.toUInt64 >>> s).toNat = _
    rw [UInt64.toNat_shiftRight, hs, Nat.mod_eq_of_lt hj, BitVec.toNat_ushiftRight]
    rfl
  rw [← Int64.toBitVec_inj, Int64.toBitVec_and, e]
  show w.toBitVec >>> j &&& 1#64 = 0#64 ↔ _
  constructor
  · intro h
    have t := congrArg (fun x => x.getLsbD 0) h
    simpa using t
  · intro h
    apply BitVec.eq_of_getLsbD_eq
    intro i hi
    cases i with
    | zero => simp [h]
    | succ i => simp
theorem ts_or {w m : Int64} {j : Nat} (hj : j < 64) (hm : m.toBitVec = BitVec.twoPow 64 j) : (w ||| m) = w ↔ w.toBitVec.getLsbD j = true := by
  rw [← Int64.toBitVec_inj, Int64.toBitVec_or, hm]
  constructor
  · intro h
    have t := congrArg (fun x => x.getLsbD j) h
    simp only [BitVec.getLsbD_or, BitVec.getLsbD_twoPow] at t
    simpa [hj] using t.symm
  · intro h
    apply BitVec.eq_of_getLsbD_eq
    intro i hi
    rw [BitVec.getLsbD_or, BitVec.getLsbD_twoPow]
    by_cases e : j = i
    · subst e; rw [h, Bool.true_or]
    · simp [e]
theorem ts_and {w m : Int64} {j : Nat} (hj : j < 64) (hm : m.toBitVec = BitVec.twoPow 64 j) : (w &&& (m ^^^ (-1))) = w ↔ w.toBitVec.getLsbD j = false := by
  have ha : (-1 : Int64).toBitVec = BitVec.allOnes 64 := by decide
  rw [← Int64.toBitVec_inj, Int64.toBitVec_and, Int64.toBitVec_xor, hm, ha]
  constructor
  · intro h
    have t := congrArg (fun x => x.getLsbD j) h
    simp only [BitVec.getLsbD_and, BitVec.getLsbD_xor, BitVec.getLsbD_twoPow, BitVec.getLsbD_allOnes] at t
    simpa [hj] using t.symm
  · intro h
    apply BitVec.eq_of_getLsbD_eq
    intro i hi
    rw [BitVec.getLsbD_and, BitVec.getLsbD_xor, BitVec.getLsbD_twoPow, BitVec.getLsbD_allOnes]
    by_cases e : j = i
    · subst e; rw [h, Bool.false_and]
    · simp [e, hi]
theorem wb_tb (n : Nat) : (lN n).toBitVec = BitVec.ofNat 64 n := rfl
theorem wb_inj {a b : Int64} (h : a.toBitVec = b.toBitVec) : a = b := Int64.toBitVec_inj.mp h
theorem wb_tn {n : Nat} (h : n < 2 ^ 64) : (lN n).toBitVec.toNat = n := by rw [wb_tb, BitVec.toNat_ofNat, Nat.mod_eq_of_lt h]
theorem wb_of (x : Int64) : ∃ n, n < 2 ^ 64 ∧ x = lN n := ⟨x.toBitVec.toNat, x.toBitVec.isLt, wb_inj (by rw [wb_tb]; simp)⟩
theorem wb_of32 (x : Int32) : ∃ n, n < 2 ^ 32 ∧ x = nI n := ⟨x.toBitVec.toNat, x.toBitVec.isLt, Int32.toBitVec_inj.mp (by show _ = BitVec.ofNat 32 _; simp)⟩
theorem wb_c : ∀ k, k < 64 → ((nI k).toInt64 &&& 63) = lN k := by decide +kernel
theorem wb_cu : ∀ k, k < 64 → ((nI k).toInt64.toUInt64 &&& Int64.toUInt64 63) = UInt64.ofNat k := by decide +kernel
theorem wb_sm : ∀ k, k < 64 → (BitVec.ofNat 64 k).smod 64 = BitVec.ofNat 64 k := by decide +kernel
theorem wb_pw {a b : Nat} (h : a ≤ b) : 2 ^ b = 2 ^ a * 2 ^ (b - a) := by rw [← Nat.pow_add]; congr 1; omega
theorem wb_lt2 {a b : Nat} (h : a < b) : 2 ^ a < 2 ^ b := Nat.pow_lt_pow_right (by decide) h
theorem wb_mod (n : Nat) : lN n = lN (n % 2 ^ 64) := wb_inj (by rw [wb_tb, wb_tb]; apply BitVec.eq_of_toNat_eq; rw [BitVec.toNat_ofNat, BitVec.toNat_ofNat, Nat.mod_mod])
theorem wb_shr {n k : Nat} (hn : n < 2 ^ 64) (hk : k < 64) : ((lN n).toUInt64 >>> ((nI k).toInt64.toUInt64 &&& Int64.toUInt64 63)).toInt64 = lN (n / 2 ^ k) := by
  rw [wb_cu k hk]
  apply wb_inj
  apply BitVec.eq_of_toNat_eq
  show ((lN n).toUInt64 >>> UInt64.ofNat k).toNat = (BitVec.ofNat 64 _).toNat
  have h1 : (UInt64.ofNat k).toNat = k := by
    show (BitVec.ofNat 64 k).toNat = k
    rw [BitVec.toNat_ofNat, Nat.mod_eq_of_lt (by omega)]
  have h2 : (lN n).toUInt64.toNat = n := wb_tn hn
  rw [UInt64.toNat_shiftRight, h1, h2, Nat.mod_eq_of_lt hk, Nat.shiftRight_eq_div_pow, BitVec.toNat_ofNat, Nat.mod_eq_of_lt (Nat.lt_of_le_of_lt (Nat.div_le_self _ _) hn)]
theorem wb_shl (n : Nat) {k : Nat} (hk : k < 64) : lN n <<< ((nI k).toInt64 &&& 63) = lN (n * 2 ^ k) := by
  rw [wb_c k hk]
  apply wb_inj
  rw [Int64.toBitVec_shiftLeft, wb_tb, wb_tb, wb_tb, wb_sm k hk]
  apply BitVec.eq_of_toNat_eq
  rw [BitVec.shiftLeft_eq', BitVec.toNat_shiftLeft, BitVec.toNat_ofNat, BitVec.toNat_ofNat, BitVec.toNat_ofNat, Nat.mod_eq_of_lt (show k < 2 ^ 64 by omega), Nat.shiftLeft_eq, Nat.mul_mod, Nat.mod_mod, ← Nat.mul_mod]
theorem wb_and {a b : Nat} (ha : a < 2 ^ 64) (hb : b < 2 ^ 64) : lN a &&& lN b = lN (a &&& b) := by
  apply wb_inj
  rw [Int64.toBitVec_and, wb_tb, wb_tb, wb_tb]
  apply BitVec.eq_of_toNat_eq
  rw [BitVec.toNat_and, BitVec.toNat_ofNat, BitVec.toNat_ofNat, BitVec.toNat_ofNat, Nat.mod_eq_of_lt ha, Nat.mod_eq_of_lt hb, Nat.mod_eq_of_lt (Nat.and_lt_two_pow _ hb)]
theorem wb_or {a b : Nat} (ha : a < 2 ^ 64) (hb : b < 2 ^ 64) : lN a ||| lN b = lN (a ||| b) := by
  apply wb_inj
  rw [Int64.toBitVec_or, wb_tb, wb_tb, wb_tb]
  apply BitVec.eq_of_toNat_eq
  rw [BitVec.toNat_or, BitVec.toNat_ofNat, BitVec.toNat_ofNat, BitVec.toNat_ofNat, Nat.mod_eq_of_lt ha, Nat.mod_eq_of_lt hb, Nat.mod_eq_of_lt (Nat.or_lt_two_pow ha hb)]
theorem wb_mask {n k : Nat} (hn : n < 2 ^ 64) (hk : k < 64) : lN n &&& lN (2 ^ k - 1) = lN (n % 2 ^ k) := by
  rw [wb_and hn (by have := wb_lt2 hk; omega), Nat.and_two_pow_sub_one_eq_mod]
theorem wb_a1 {n : Nat} (hn : n < 2 ^ 64) : lN n &&& 1 = lN (n % 2) := wb_mask (k := 1) hn (by decide)
theorem wb_bit {n k : Nat} (hn : n < 2 ^ 64) (hk : k < 64) : ((lN n).toUInt64 >>> ((nI k).toInt64.toUInt64 &&& Int64.toUInt64 63)).toInt64 &&& 1 = lN (n / 2 ^ k % 2) := by
  rw [wb_shr hn hk, wb_a1 (Nat.lt_of_le_of_lt (Nat.div_le_self _ _) hn)]
theorem u_tn {n : Nat} (h : n < 2 ^ 64) : (UInt64.ofNat n).toNat = n := Nat.mod_eq_of_lt h
def lb (x : Int64) (c : Nat) : Bool := x.toBitVec.getLsbD c
def bI (b : Bool) : Int32 := if b then 1 else 0
theorem lb_ext {x y : Int64} (h : ∀ c, c < 64 → lb x c = lb y c) : x = y := wb_inj (BitVec.eq_of_getLsbD_eq (fun i hi => h i hi))
theorem lb_or (x y : Int64) (c : Nat) : lb (x ||| y) c = (lb x c || lb y c) := by unfold lb; rw [Int64.toBitVec_or, BitVec.getLsbD_or]
theorem lb_and (x y : Int64) (c : Nat) : lb (x &&& y) c = (lb x c && lb y c) := by unfold lb; rw [Int64.toBitVec_and, BitVec.getLsbD_and]
theorem lb_not (x : Int64) {c : Nat} (h : c < 64) : lb (x ^^^ (-1 : Int64)) c = !(lb x c) := by
  unfold lb
  rw [Int64.toBitVec_xor, BitVec.getLsbD_xor, show (-1 : Int64).toBitVec = BitVec.allOnes 64 from by decide, BitVec.getLsbD_allOnes, decide_eq_true h, Bool.xor_true]
theorem lb_m1 {c : Nat} (h : c < 64) : lb (-1 : Int64) c = true := by
  unfold lb
  rw [show (-1 : Int64).toBitVec = BitVec.allOnes 64 from by decide, BitVec.getLsbD_allOnes, decide_eq_true h]
theorem lb_0 (c : Nat) : lb (0 : Int64) c = false := BitVec.getLsbD_zero
theorem hold_b (x : Int64) {n : Nat} (hn : n < 64) : f_X0_holds x (nI n) = bI (lb x n) := by
  have t : (nI n).toInt = n := nI_toInt (by omega)
  have h0 : ¬ nI n < 0 := nI_pos (by omega)
  have h1 : ¬ (64 : Int32) ≤ nI n := fun h => by
    have q := ti_le h
    have k : (64 : Int32).toInt = 64 := by decide
    omega
  unfold f_X0_holds
  rw [if_neg h0, if_neg h1]
  have e : jushrL x (nI n) &&& 1 = 0 ↔ lb x n = false := ts_bit hn (by rw [wb_cu n hn]; exact u_tn (by omega))
  by_cases hb : lb x n = true
  · rw [if_neg (fun h => by have q := e.mp ((lg_cmp_eq _ _).mp h); rw [hb] at q; cases q), hb]; rfl
  · have hb : lb x n = false := ts_nt hb
    rw [if_pos ((lg_cmp_eq _ _).mpr (e.mpr hb)), hb]; rfl
theorem only_b : ∀ n, n < 64 → ∀ c, c < 64 → lb (f_X0_only (nI n)) c = decide (c = n) := by decide +kernel
theorem bI_0 {b : Bool} : bI b = 0 ↔ b = false := by cases b <;> decide
theorem bI_1 {b : Bool} : bI b = 1 ↔ b = true := by cases b <;> decide
theorem bI_01 (b : Bool) : bI b = 0 ∨ bI b = 1 := by cases b <;> decide
/-! tests of numbers: the two sides' are one -/
theorem cmp_lt {x y : Int64} (h : x.toInt < y.toInt) : lg_cmp x y = -1 := by
  unfold lg_cmp
  rw [if_neg (fun q : x > y => by have := tl_lt q; omega), if_neg (fun q => by rw [q] at h; omega)]
theorem cmp_gt {x y : Int64} (h : y.toInt < x.toInt) : lg_cmp x y = 1 := by
  unfold lg_cmp
  rw [if_pos (show x > y from Int64.lt_iff_toInt_lt.mpr h)]
theorem in_val (x a b : Int64) : f_X7_in x a b = if x.toInt < a.toInt then 0 else if b.toInt < x.toInt then 0 else 1 := by
  unfold f_X7_in
  by_cases h1 : x.toInt < a.toInt
  · rw [if_pos h1, if_pos (by rw [cmp_lt h1]; decide)]
  · rw [if_neg h1, if_neg (fun q => by
      rcases (show a.toInt < x.toInt ∨ x.toInt ≤ a.toInt by omega) with k | k
      · rw [cmp_gt k] at q; exact absurd q (by decide)
      · rw [show x = a from Int64.toInt_inj.mp (by omega), lcmp_self] at q; exact absurd q (by decide))]
    by_cases h2 : b.toInt < x.toInt
    · rw [if_pos h2, if_pos (by rw [cmp_gt h2]; decide)]
    · rw [if_neg h2, if_neg (fun q => by
        rcases (show x.toInt < b.toInt ∨ b.toInt ≤ x.toInt by omega) with k | k
        · rw [cmp_lt k] at q; exact absurd q (by decide)
        · rw [show x = b from Int64.toInt_inj.mp (by omega), lcmp_self] at q; exact absurd q (by decide))]
theorem within_val (x a b : Int32) : f_X6_within x a b = if x.toInt < a.toInt then 0 else if b.toInt < x.toInt then 0 else 1 := by
  unfold f_X6_within
  by_cases h1 : x.toInt < a.toInt
  · rw [if_pos h1, if_pos (Int32.lt_iff_toInt_lt.mpr h1)]
  · rw [if_neg h1, if_neg (fun q => h1 (ti_lt q))]
    by_cases h2 : b.toInt < x.toInt
    · rw [if_pos h2, if_pos (Int32.lt_iff_toInt_lt.mpr h2)]
    · rw [if_neg h2, if_neg (fun q => h2 (ti_lt q))]
theorem in_eq (x : Int32) {a b : Int64} {a' b' : Int32} (ha : a.toInt = a'.toInt) (hb : b.toInt = b'.toInt) : f_X7_in (Int32.toInt64 x) a b = f_X6_within x a' b' := by
  rw [in_val, within_val, toI64, ha, hb]
theorem cell_val (x : Int32) : f_X0_isCell x = if x.toInt < 0 then 0 else if 63 < x.toInt then 0 else 1 := by
  unfold f_X0_isCell
  have k : (64 : Int32).toInt = 64 := by decide
  have k0 : (0 : Int32).toInt = 0 := by decide
  by_cases h1 : x.toInt < 0
  · rw [if_pos h1, if_pos (Int32.lt_iff_toInt_lt.mpr (by omega))]
  · rw [if_neg h1, if_neg (fun q => h1 (by have := ti_lt q; omega))]
    by_cases h2 : 63 < x.toInt
    · rw [if_pos h2, if_pos (Int32.le_iff_toInt_le.mpr (by omega))]
    · rw [if_neg h2, if_neg (fun q => h2 (by have := ti_le q; omega))]
theorem cell_eq (x : Int32) : f_X7_isCell x = f_X0_isCell x := by
  unfold f_X7_isCell
  rw [in_val, cell_val, toI64, show (0 : Int64).toInt = 0 from by decide, show (63 : Int64).toInt = 63 from by decide]
theorem way_val (x : Int32) : f_X0_isWay x = if x.toInt < 0 then 0 else if 7 < x.toInt then 0 else 1 := by
  unfold f_X0_isWay
  have k : (8 : Int32).toInt = 8 := by decide
  have k0 : (0 : Int32).toInt = 0 := by decide
  by_cases h1 : x.toInt < 0
  · rw [if_pos h1, if_pos (Int32.lt_iff_toInt_lt.mpr (by omega))]
  · rw [if_neg h1, if_neg (fun q => h1 (by have := ti_lt q; omega))]
    by_cases h2 : 7 < x.toInt
    · rw [if_pos h2, if_pos (Int32.le_iff_toInt_le.mpr (by omega))]
    · rw [if_neg h2, if_neg (fun q => h2 (by have := ti_le q; omega))]
theorem way_eq (x : Int32) : f_X7_isWay x = f_X0_isWay x := by
  unfold f_X7_isWay
  rw [in_val, way_val, toI64, show (0 : Int64).toInt = 0 from by decide, show (7 : Int64).toInt = 7 from by decide]
theorem watcher_eq (x : Int32) (lo : Nat → Int64) (i f : Nat → Int32) : f_X4_isWatcher x lo i f = f_X7_in (Int32.toInt64 x) 0 5 := by
  unfold f_X4_isWatcher
  rw [in_val, toI64, show (0 : Int64).toInt = 0 from by decide, show (5 : Int64).toInt = 5 from by decide]
  have k : (6 : Int32).toInt = 6 := by decide
  have k0 : (0 : Int32).toInt = 0 := by decide
  by_cases h1 : x.toInt < 0
  · rw [if_pos h1, if_pos (Int32.lt_iff_toInt_lt.mpr (by omega))]
  · rw [if_neg h1, if_neg (fun q => h1 (by have := ti_lt q; omega))]
    by_cases h2 : 5 < x.toInt
    · rw [if_pos h2, if_pos (Int32.le_iff_toInt_le.mpr (by omega))]
    · rw [if_neg h2, if_neg (fun q => h2 (by have := ti_le q; omega))]
/-! the chart: both sides' tables are one -/
theorem next_eq : ∀ c, c < 64 → ∀ w, w < 8 → f_X0_next (nI c) (nI w) = f_X7_ahead (nI c) (nI w) := by decide +kernel
/-! the relation of the two states -/
def fitB (a b d : Nat → Int32) (c : Nat) : Nat → Bool
  | 0 => true
  | n + 1 => fitB a b d c n && (decide (f_X7_far (nI c) (a n) ≤ b n) == decide (d n = 1))
def rSea (lo : Nat → Int64) (i f q g e a b d : Nat → Int32) : Prop :=
  (∀ c, c < 64 → g c = bI (lb (lo 0) c)) ∧ (i 1 = q 1 ∧ i 2 = q 2 ∧ i 3 = q 4 ∧ i 4 = q 5 ∧ i 5 = q 6 ∧ i 6 = q 7 ∧ i 7 = q 11) ∧
  (∀ k, k < 6 → f k = e k ∧ 1 ≤ (e k).toInt ∧ (e k).toInt ≤ 7) ∧
  ((0 ≤ (q 1).toInt ∧ (q 1).toInt < 64) ∧ ((q 4 = -6 ∨ 0 ≤ (q 4).toInt ∧ (q 4).toInt < 6) ∧ (0 ≤ (q 2).toInt ∧ (q 2).toInt ≤ 9) ∧ (0 ≤ (q 7).toInt ∧ (q 7).toInt ≤ 99) ∧ g (q 1).toNatClampNeg = 0) ∧ (0 ≤ (q 6).toInt ∧ (q 6).toInt ≤ 7) ∧ (0 ≤ (q 11).toInt ∧ (q 11).toInt ≤ 8)) ∧
  (∀ j, j < (q 11).toNatClampNeg → (0 ≤ (a j).toInt ∧ (a j).toInt < 64) ∧ (0 ≤ (b j).toInt ∧ (b j).toInt ≤ 7) ∧ (d j = 0 ∨ d j = 1)) ∧
  (∀ c, c < 64 → lb (lo 8) c = fitB a b d c (q 11).toNatClampNeg)
def rPad (n : Int32) (f : Nat → Int32) (m : Int32) (g : Nat → Int32) : Prop := n = m ∧ (0 ≤ m.toInt ∧ m.toInt ≤ 60) ∧ ∀ j, j < m.toNatClampNeg → f j = g j
/-- an image's numbers, read as the sea's are -/
def imQ (s : Nat → Int32) (o : Nat) : Nat → Int32 := fun k => s (o + (if k = 1 then 0 else if k = 2 then 1 else if k = 4 then 2 else if k = 5 then 3 else if k = 6 then 4 else if k = 7 then 5 else 6))
def rImg (lo : Nat → Int64) (i f s : Nat → Int32) (o : Nat) : Prop := rSea lo i f (imQ s o) (fun j => s (o + 7 + j)) (fun j => s (o + 71 + j)) (fun j => s (o + 77 + j)) (fun j => s (o + 85 + j)) (fun j => s (o + 93 + j))
def InvR (L : Nat → Nat → Int64) (I st : Nat → Nat → Int32) : Prop :=
  rSea (L 3) (I 3) (I 4) (st 0) (st 1) (st 4) (st 9) (st 10) (st 11) ∧ rPad (I 5 1) (I 6) (st 0 13) (st 13) ∧
  (I 2 0 = st 32 0 ∧ (st 32 0 = 0 ∨ st 32 0 = 1 ∧ rImg (L 14) (I 14) (I 15) (st 31) 0)) ∧ (I 2 1 = st 32 1 ∧ (st 32 1 = 0 ∨ st 32 1 = 1 ∧ rImg (L 16) (I 16) (I 17) (st 31) 110)) ∧ I 12 0 = 0
theorem inv_pre (L : Nat → Nat → Int64) (I st : Nat → Nat → Int32) (h : InvR L I st) : lwPre I st := by
  obtain ⟨⟨_, _, _, ⟨_, hw, _, hs⟩, _, _⟩, ⟨hp1, hp2, _⟩, _⟩ := h
  refine ⟨by rw [hp1]; exact hp2.2, hp2, ?_, hs⟩
  rcases hw.1 with hw | hw
  · rw [hw]; decide
  · exact hw.2
theorem inv_start : InvR xL0 xI0 mS0 := by
  refine ⟨⟨?_, ⟨rfl, rfl, rfl, rfl, rfl, rfl, rfl⟩, ?_, ⟨by decide, ⟨Or.inl rfl, by decide, by decide, by decide⟩, by decide, by decide⟩, ?_, ?_⟩, ⟨rfl, by decide, ?_⟩, ⟨by decide, Or.inl rfl⟩, ⟨by decide, Or.inl rfl⟩, by decide⟩
  · decide +kernel
  · decide +kernel
  · exact fun j hj => absurd hj (Nat.not_lt_zero j)
  · decide +kernel
  · exact fun j hj => absurd hj (Nat.not_lt_zero j)
