/-! first: numbers as naturals -/
theorem tl_lN {n : Nat} (h : n < 2 ^ 63) : (lN n).toInt = n := by
  have e : (lN n).toInt = (lN n).toBitVec.toInt := rfl
  have t := wb_tn (show n < 2 ^ 64 by omega)
  rw [e, BitVec.toInt_eq_toNat_of_lt (by rw [t]; omega), t]
theorem l_of {x : Int64} (h : 0 ≤ x.toInt) : ∃ n, n < 2 ^ 63 ∧ x = lN n ∧ x.toInt = n := by
  have b := Int64.toInt_lt x
  refine ⟨x.toInt.toNat, by omega, Int64.toInt_inj.mp ?_, by omega⟩
  rw [tl_lN (by omega)]
  omega
theorem lN_inj {a b : Nat} (ha : a < 2 ^ 63) (hb : b < 2 ^ 63) (h : lN a = lN b) : a = b := by
  have t := congrArg Int64.toInt h
  rw [tl_lN ha, tl_lN hb] at t
  omega
theorem rem_N {u v : Nat} (hu : 0 < u) (hu2 : u < 2 ^ 63) (hv : v < 2 ^ 63) : jrL (lN v) (lN u) = lN (v % u) := by
  have t := jrL_rng (a := lN v) (b := lN u) (by rw [tl_lN hv]; omega) (by rw [tl_lN hu2]; omega)
  have b : v % u < u := Nat.mod_lt _ hu
  apply Int64.toInt_inj.mp
  rw [t.1, tl_lN hv, tl_lN hu2, tl_lN (by omega), Int.natCast_emod]
theorem div_N {u v : Nat} (hu : 0 < u) (hu2 : u < 2 ^ 63) (hv : v < 2 ^ 63) : lN v / lN u = lN (v / u) := by
  have t := tl_div (x := lN v) (y := lN u) (by rw [tl_lN hv]; omega) (by rw [tl_lN hu2]; omega)
  have b : v / u ≤ v := Nat.div_le_self _ _
  apply Int64.toInt_inj.mp
  rw [t, tl_lN hv, tl_lN hu2, tl_lN (by omega), Int.natCast_ediv]
theorem cmp_0N {n : Nat} (h : n < 2 ^ 63) : lg_cmp (lN n) 0 = 0 ↔ n = 0 := by
  rw [lg_cmp_eq]
  constructor
  · intro q
    exact lN_inj h (by decide) q
  · intro q
    rw [q]; rfl
/-! the reference: Euclid -/
theorem gcd_L (k : Int64 → Int64) : ∀ (n u v : Nat), u < n → u < 2 ^ 63 → v < 2 ^ 63 → f_X7_lowest_L6 k n (lN u) (lN v) = k (lN (Nat.gcd u v)) := by
  intro n
  induction n with
  | zero => intro u v h; omega
  | succ n ih =>
    intro u v h hu hv
    rw [f_X7_lowest_L6]
    by_cases q : u = 0
    · rw [if_pos ((cmp_0N hu).mpr q), q, Nat.gcd_zero_left]
    · have hm : v % u < u := Nat.mod_lt _ (by omega)
      rw [if_neg (fun z => q ((cmp_0N hu).mp z)), rem_N (by omega) hu hv, lt_1, ih (v % u) u (by omega) (by omega) hu, ← Nat.gcd_rec]
theorem lowest_eq {u v : Nat} (hu : u < 2 ^ 63) (hv : v < 2 ^ 63) (hv0 : 0 < v) (x : Int32) : f_X7_lowest (lN u) (lN v) x = if x = 0 then lN (u / Nat.gcd u v) else lN (v / Nat.gcd u v) := by
  have hg : 0 < Nat.gcd u v := Nat.gcd_pos_of_pos_right _ hv0
  have hgl : Nat.gcd u v ≤ v := Nat.gcd_le_right _ hv0
  have hn : (Int64.toInt (lN u)).toNat + 1 = u + 1 := by rw [tl_lN hu]; omega
  have t := gcd_L (fun (w6_5 : Int64) => if x = 0 then (lN u / w6_5) else (lN v / w6_5)) (u + 1) u v (by omega) hu hv
  unfold f_X7_lowest
  rw [hn, t, div_N hg (by omega) hu, div_N hg (by omega) hv]
/-! the class: twos and fives -/
theorem p5_odd : ∀ j, 5 ^ j % 2 = 1
  | 0 => rfl
  | j + 1 => by have := p5_odd j; rw [Nat.pow_succ]; omega
theorem p2_5 : ∀ i, 2 ^ i % 5 ≠ 0
  | 0 => by decide
  | i + 1 => by have := p2_5 i; rw [Nat.pow_succ]; omega
theorem odd_dvd {d w : Nat} (hd : d % 2 = 1) (h : d ∣ 2 * w) : d ∣ w := by
  have e : d * w = d / 2 * (2 * w) + w := by
    have : d = 2 * (d / 2) + 1 := by omega
    have h2 : d * w = (2 * (d / 2) + 1) * w := congrArg (· * w) this
    rw [h2, Nat.add_mul, Nat.one_mul, Nat.mul_comm 2 (d / 2), Nat.mul_assoc]
  have h1 : d ∣ d / 2 * (2 * w) + w := by rw [← e]; exact Nat.dvd_mul_right d w
  exact (Nat.dvd_add_right (Nat.dvd_trans h (Nat.dvd_mul_left (2 * w) (d / 2)))).mp h1
theorem five_dvd {d w : Nat} (hd : d % 5 ≠ 0) (h : d ∣ 5 * w) : d ∣ w := by
  have e : d * w = d / 5 * (5 * w) + d % 5 * w := by
    have : d = 5 * (d / 5) + d % 5 := by omega
    have h2 : d * w = (5 * (d / 5) + d % 5) * w := congrArg (· * w) this
    rw [h2, Nat.add_mul, Nat.mul_comm 5 (d / 5), Nat.mul_assoc]
  have h1 : d ∣ d / 5 * (5 * w) + d % 5 * w := by rw [← e]; exact Nat.dvd_mul_right d w
  have hr : d ∣ d % 5 * w := (Nat.dvd_add_right (Nat.dvd_trans h (Nat.dvd_mul_left (5 * w) (d / 5)))).mp h1
  rcases (show d % 5 = 1 ∨ d % 5 = 2 ∨ d % 5 = 3 ∨ d % 5 = 4 by omega) with q | q | q | q
  · rw [q, Nat.one_mul] at hr; exact hr
  · rw [q] at hr
    have g : 5 * w = 2 * (2 * w) + w := by omega
    rw [g] at h
    exact (Nat.dvd_add_right (Nat.dvd_trans hr (Nat.dvd_mul_left (2 * w) 2))).mp h
  · rw [q] at hr
    have g : 2 * (3 * w) = 5 * w + w := by omega
    have h2 : d ∣ 2 * (3 * w) := Nat.dvd_trans hr (Nat.dvd_mul_left (3 * w) 2)
    rw [g] at h2
    exact (Nat.dvd_add_right h).mp h2
  · rw [q] at hr
    have g : 5 * w = 4 * w + w := by omega
    rw [g] at h
    exact (Nat.dvd_add_right hr).mp h
theorem dvd_p5 {d : Nat} (h5 : d % 5 ≠ 0) : ∀ j, d ∣ 5 ^ j → d = 1
  | 0, h => Nat.dvd_one.mp h
  | j + 1, h => by
    rw [Nat.pow_succ, Nat.mul_comm] at h
    exact dvd_p5 h5 j (five_dvd h5 h)
theorem dvd_p2 {d : Nat} (h2 : d % 2 = 1) (w : Nat) : ∀ i, d ∣ 2 ^ i * w → d ∣ w
  | 0, h => by rw [Nat.pow_zero, Nat.one_mul] at h; exact h
  | i + 1, h => by
    rw [Nat.pow_succ, Nat.mul_comm (2 ^ i) 2, Nat.mul_assoc] at h
    exact dvd_p2 h2 w i (odd_dvd h2 h)
theorem mod_dvd {d u p : Nat} (h : d ∣ u) (hu : u % p ≠ 0) : d % p ≠ 0 := fun q => by
  obtain ⟨c, rfl⟩ := h
  obtain ⟨e, rfl⟩ := Nat.dvd_of_mod_eq_zero q
  exact hu (by rw [Nat.mul_assoc]; exact Nat.mul_mod_right p (e * c))
theorem gcd_1 {u i j : Nat} (hi : i = 0 ∨ u % 2 ≠ 0) (hj : j = 0 ∨ u % 5 ≠ 0) : Nat.gcd u (2 ^ i * 5 ^ j) = 1 := by
  have d1 := Nat.gcd_dvd_left u (2 ^ i * 5 ^ j)
  have d2 := Nat.gcd_dvd_right u (2 ^ i * 5 ^ j)
  generalize Nat.gcd u (2 ^ i * 5 ^ j) = d at d1 d2
  have d3 : d ∣ 5 ^ j := by
    rcases hi with rfl | hi
    · rw [Nat.pow_zero, Nat.one_mul] at d2; exact d2
    · have := mod_dvd d1 hi
      exact dvd_p2 (by omega) _ i d2
  rcases hj with rfl | hj
  · exact Nat.dvd_one.mp d3
  · exact dvd_p5 (mod_dvd d1 hj) j d3
def ptI (X Y r u v : Nat) : Prop := ∃ P i j, 0 < P ∧ X = P * u ∧ Y = P * v ∧ v = 2 ^ i * 5 ^ j ∧ (i ≤ r ∨ u % 2 ≠ 0) ∧ (j ≤ r ∨ u % 5 ≠ 0)
theorem pt_end {X Y u v : Nat} (h : ptI X Y 0 u v) : X / Nat.gcd X Y = u ∧ Y / Nat.gcd X Y = v := by
  obtain ⟨P, i, j, hP, hX, hY, hv, hi, hj⟩ := h
  have g : Nat.gcd u v = 1 := by
    rw [hv]
    exact gcd_1 (hi.imp (fun q => by omega) id) (hj.imp (fun q => by omega) id)
  have e : Nat.gcd X Y = P := by rw [hX, hY, Nat.gcd_mul_left, g, Nat.mul_one]
  rw [e, hX, hY]
  exact ⟨Nat.mul_div_cancel_left u hP, Nat.mul_div_cancel_left v hP⟩
theorem pt_2 {X Y r u v : Nat} (h : ∃ P i j, 0 < P ∧ X = P * u ∧ Y = P * v ∧ v = 2 ^ i * 5 ^ j ∧ (i ≤ r + 1 ∨ u % 2 ≠ 0) ∧ (j ≤ r + 1 ∨ u % 5 ≠ 0)) :
    if u % 2 = 0 ∧ v % 2 = 0 then (∃ P i j, 0 < P ∧ X = P * (u / 2) ∧ Y = P * (v / 2) ∧ v / 2 = 2 ^ i * 5 ^ j ∧ (i ≤ r ∨ u / 2 % 2 ≠ 0) ∧ (j ≤ r + 1 ∨ u / 2 % 5 ≠ 0))
    else (∃ P i j, 0 < P ∧ X = P * u ∧ Y = P * v ∧ v = 2 ^ i * 5 ^ j ∧ (i ≤ r ∨ u % 2 ≠ 0) ∧ (j ≤ r + 1 ∨ u % 5 ≠ 0)) := by
  obtain ⟨P, i, j, hP, hX, hY, hv, hi, hj⟩ := h
  by_cases q : u % 2 = 0 ∧ v % 2 = 0
  · rw [if_pos q]
    have hu : u = 2 * (u / 2) := by omega
    have hv2 : v = 2 * (v / 2) := by omega
    cases i with
    | zero =>
      rw [Nat.pow_zero, Nat.one_mul] at hv
      have := p5_odd j
      rw [← hv] at this
      omega
    | succ i =>
      refine ⟨P * 2, i, j, by omega, ?_, ?_, ?_, Or.inl ?_, ?_⟩
      · rw [Nat.mul_assoc, ← hu]; exact hX
      · rw [Nat.mul_assoc, ← hv2]; exact hY
      · rw [Nat.pow_succ, Nat.mul_comm (2 ^ i) 2, Nat.mul_assoc] at hv
        omega
      · rcases hi with h | h
        · omega
        · exact absurd q.1 h
      · rcases hj with h | h
        · exact Or.inl h
        · exact Or.inr (by omega)
  · rw [if_neg q]
    refine ⟨P, i, j, hP, hX, hY, hv, ?_, hj⟩
    by_cases g : u % 2 = 0
    · refine Or.inl ?_
      cases i with
      | zero => omega
      | succ i =>
        exfalso
        apply q
        refine ⟨g, ?_⟩
        rw [hv, Nat.pow_succ, Nat.mul_comm (2 ^ i) 2, Nat.mul_assoc]
        omega
    · exact Or.inr g
theorem pt_5 {X Y r u v : Nat} (h : ∃ P i j, 0 < P ∧ X = P * u ∧ Y = P * v ∧ v = 2 ^ i * 5 ^ j ∧ (i ≤ r ∨ u % 2 ≠ 0) ∧ (j ≤ r + 1 ∨ u % 5 ≠ 0)) :
    if u % 5 = 0 ∧ v % 5 = 0 then ptI X Y r (u / 5) (v / 5) else ptI X Y r u v := by
  obtain ⟨P, i, j, hP, hX, hY, hv, hi, hj⟩ := h
  by_cases q : u % 5 = 0 ∧ v % 5 = 0
  · rw [if_pos q]
    have hu : u = 5 * (u / 5) := by omega
    have hv2 : v = 5 * (v / 5) := by omega
    cases j with
    | zero =>
      rw [Nat.pow_zero, Nat.mul_one] at hv
      have := p2_5 i
      rw [← hv] at this
      omega
    | succ j =>
      refine ⟨P * 5, i, j, by omega, ?_, ?_, ?_, ?_, Or.inl ?_⟩
      · rw [Nat.mul_assoc, ← hu]; exact hX
      · rw [Nat.mul_assoc, ← hv2]; exact hY
      · rw [Nat.pow_succ, ← Nat.mul_assoc] at hv
        omega
      · rcases hi with h | h
        · exact Or.inl h
        · exact Or.inr (by omega)
      · rcases hj with h | h
        · omega
        · exact absurd q.1 h
  · rw [if_neg q]
    refine ⟨P, i, j, hP, hX, hY, hv, hi, ?_⟩
    by_cases g : u % 5 = 0
    · refine Or.inl ?_
      cases j with
      | zero => omega
      | succ j =>
        exfalso
        apply q
        refine ⟨g, ?_⟩
        rw [hv, Nat.pow_succ, ← Nat.mul_assoc]
        omega
    · exact Or.inr g
theorem pt_g (G : Int64 → Int64 → Int64) (p : Int64) (q : Nat) (hp : p = lN q) (hq : 0 < q) (hq2 : q < 2 ^ 63) {u v : Nat} (hu : u < 2 ^ 63) (hv : v < 2 ^ 63) :
    (jn_ (fun (z6 : Int64) (z4 : Int64) => G z6 z4) (fun j57 => if (lg_cmp (jrL (lN u) p) (0 : Int64)) = 0 then if (lg_cmp (jrL (lN v) p) (0 : Int64)) = 0 then lt_ (lN u / p) (fun (y47 : Int64) => lt_ (lN v / p) (fun (y55 : Int64) => j57 y55 y47)) else j57 (lN v) (lN u) else j57 (lN v) (lN u))) = if u % q = 0 ∧ v % q = 0 then G (lN (v / q)) (lN (u / q)) else G (lN v) (lN u) := by
  have mu : u % q < q := Nat.mod_lt _ hq
  have mv : v % q < q := Nat.mod_lt _ hq
  rw [jn_1, hp, rem_N hq hq2 hu, rem_N hq hq2 hv, div_N hq hq2 hu, div_N hq hq2 hv]
  by_cases a : u % q = 0
  · rw [if_pos ((cmp_0N (by omega)).mpr a)]
    by_cases b : v % q = 0
    · rw [if_pos ((cmp_0N (by omega)).mpr b), if_pos ⟨a, b⟩]; rfl
    · rw [if_neg (fun z => b ((cmp_0N (by omega)).mp z)), if_neg (fun z => b z.2)]
  · rw [if_neg (fun z => a ((cmp_0N (by omega)).mp z)), if_neg (fun z => a z.1)]
theorem pt_L {X Y : Nat} (k : Int64 → Int64 → Int64) : ∀ (n j u v : Nat), j + n = 16 → u < 2 ^ 63 → v < 2 ^ 63 → ptI X Y n u v → ∃ u' v', ptI X Y 0 u' v' ∧ f_X1_partOf_L12 k n (nI j) (lN v) (lN u) = k (lN v') (lN u') := by
  intro n
  induction n with
  | zero =>
    intro j u v hj hu hv h
    exact ⟨u, v, h, by rw [f_X1_partOf_L12]⟩
  | succ n ih =>
    intro j u v hj hu hv h
    rw [f_X1_partOf_L12, if_neg (ge16 (by omega))]
    have step5 : ∀ u v : Nat, u < 2 ^ 63 → v < 2 ^ 63 → (∃ P i j, 0 < P ∧ X = P * u ∧ Y = P * v ∧ v = 2 ^ i * 5 ^ j ∧ (i ≤ n ∨ u % 2 ≠ 0) ∧ (j ≤ n + 1 ∨ u % 5 ≠ 0)) → ∃ u' v', ptI X Y 0 u' v' ∧ (jn_ (fun (z95_6 : Int64) (z95_4 : Int64) => lt_ (nI j + (1 : Int32)) (fun (y95 : Int32) => f_X1_partOf_L12 k n y95 z95_6 z95_4)) (fun j95 => if (lg_cmp (jrL (lN u) (5 : Int64)) (0 : Int64)) = 0 then if (lg_cmp (jrL (lN v) (5 : Int64)) (0 : Int64)) = 0 then lt_ (lN u / (5 : Int64)) (fun (y85 : Int64) => lt_ (lN v / (5 : Int64)) (fun (y93 : Int64) => j95 y93 y85)) else j95 (lN v) (lN u) else j95 (lN v) (lN u))) = k (lN v') (lN u') := by
      intro u v hu hv h
      have t := pt_5 h
      have e := pt_g (fun (z95_6 : Int64) (z95_4 : Int64) => lt_ (nI j + (1 : Int32)) (fun (y95 : Int32) => f_X1_partOf_L12 k n y95 z95_6 z95_4)) (5 : Int64) 5 rfl (by decide) (by decide) hu hv
      rw [e]
      have du : u / 5 ≤ u := Nat.div_le_self _ _
      have dv : v / 5 ≤ v := Nat.div_le_self _ _
      by_cases q : u % 5 = 0 ∧ v % 5 = 0
      · rw [if_pos q] at t ⊢
        rw [lt_1, nI_1]
        exact ih (j + 1) (u / 5) (v / 5) (by omega) (by omega) (by omega) t
      · rw [if_neg q] at t ⊢
        rw [lt_1, nI_1]
        exact ih (j + 1) u v (by omega) hu hv t
    have t := pt_2 h
    have e := pt_g (fun (z57_6 : Int64) (z57_4 : Int64) => jn_ (fun (z95_6 : Int64) (z95_4 : Int64) => lt_ (nI j + (1 : Int32)) (fun (y95 : Int32) => f_X1_partOf_L12 k n y95 z95_6 z95_4)) (fun j95 => if (lg_cmp (jrL z57_4 (5 : Int64)) (0 : Int64)) = 0 then if (lg_cmp (jrL z57_6 (5 : Int64)) (0 : Int64)) = 0 then lt_ (z57_4 / (5 : Int64)) (fun (y85 : Int64) => lt_ (z57_6 / (5 : Int64)) (fun (y93 : Int64) => j95 y93 y85)) else j95 z57_6 z57_4 else j95 z57_6 z57_4)) (2 : Int64) 2 rfl (by decide) (by decide) hu hv
    rw [e]
    have du : u / 2 ≤ u := Nat.div_le_self _ _
    have dv : v / 2 ≤ v := Nat.div_le_self _ _
    by_cases q : u % 2 = 0 ∧ v % 2 = 0
    · rw [if_pos q] at t ⊢
      exact step5 (u / 2) (v / 2) (by omega) (by omega) t
    · rw [if_neg q] at t ⊢
      exact step5 u v hu hv t
theorem p10_25 (n : Nat) : 10 ^ n = 2 ^ n * 5 ^ n := by rw [← Nat.mul_pow]
theorem p10_lt {n : Nat} (h : n ≤ 16) : 10 ^ n < 2 ^ 63 := Nat.lt_of_le_of_lt (Nat.pow_le_pow_right (by decide) h) (by decide)
/-- one part: both sides' -/
theorem part_eq {X n : Nat} (hn : n ≤ 16) (hX : X ≤ 10 ^ n) (x : Int32) {lo : Nat → Int64} (h3 : lo 3 = lN (10 ^ n)) : f_X1_partOf (lN X) x lo = f_X7_lowest (lN X) (lN (10 ^ n)) x := by
  have hp := p10_lt hn
  have hpos : 0 < 10 ^ n := Nat.pow_pos (by decide)
  obtain ⟨u', v', h1, h2⟩ := pt_L (X := X) (Y := 10 ^ n) (fun (w12_6 : Int64) (w12_4 : Int64) => if x = 0 then w12_4 else w12_6) 16 0 X (10 ^ n) rfl (by omega) hp ⟨1, n, n, by decide, by omega, by omega, p10_25 n, Or.inl hn, Or.inl hn⟩
  obtain ⟨e1, e2⟩ := pt_end h1
  rw [lowest_eq (by omega) hp hpos, e1, e2]
  unfold f_X1_partOf
  rw [h3, lt_1]
  rw [nI_0] at h2
  exact h2
