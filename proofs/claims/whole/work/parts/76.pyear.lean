/-! year -/
theorem lcg_eq {x : Int32} (h : 0 ≤ x.toInt ∧ x.toInt < 65537) : Int64.toInt32 (jrL (((75 : Int64) * (Int32.toInt64 x)) + (74 : Int64)) (65537 : Int64)) = jr (((75 : Int32) * x) + (74 : Int32)) (65537 : Int32) := by
  have k75 : (75 : Int64).toInt = 75 := by decide
  have k74 : (74 : Int64).toInt = 74 := by decide
  have k65 : (65537 : Int64).toInt = 65537 := by decide
  have j75 : (75 : Int32).toInt = 75 := by decide
  have j74 : (74 : Int32).toInt = 74 := by decide
  have j65 : (65537 : Int32).toInt = 65537 := by decide
  have e0 := toI64 x
  have e1 : ((75 : Int64) * (Int32.toInt64 x)).toInt = 75 * x.toInt := tl_mul (by rw [k75, e0]) (by omega) (by omega)
  have e2 : ((75 : Int64) * (Int32.toInt64 x) + 74).toInt = 75 * x.toInt + 74 := tl_add (by rw [e1, k74]) (by omega) (by omega)
  have d1 : ((75 : Int32) * x).toInt = 75 * x.toInt := ti_mul (by rw [j75]) (by omega) (by omega)
  have d2 : ((75 : Int32) * x + 74).toInt = 75 * x.toInt + 74 := ti_add (by rw [d1, j74]) (by omega) (by omega)
  have g := jrL_rng (a := (75 : Int64) * (Int32.toInt64 x) + 74) (b := 65537) (by omega) (by omega)
  have g2 := jr_rng (a := (75 : Int32) * x + 74) (b := 65537) (by omega) (by omega)
  apply Int32.toInt_inj.mp
  rw [Int64.toInt_toInt32, ti_bmod (by omega) (by omega), g.1, g2.1, e2, d2, k65, j65]
theorem da_eq (x : Int32) : f_X5_drawnAct x = f_X7_actBy x := rfl
theorem actBy_c (x : Int32) : f_X7_actBy x = 0 ∨ f_X7_actBy x = 2 ∨ f_X7_actBy x = 3 ∨ f_X7_actBy x = 4 ∨ f_X7_actBy x = 5 := by
  unfold f_X7_actBy
  repeat' split
  all_goals decide
theorem year_V {a y : Int32} (ha : a = 0 ∨ a = 2 ∨ a = 3 ∨ a = 4 ∨ a = 5) (hy : 0 ≤ y.toInt) : actV a (if a = 0 then jr (y / 8) 6 else jr (y / 8) 8) (if a = 0 then jr (y / 8) 6 else jr (y / 8) 8) := by
  have k8 : (8 : Int32).toInt = 8 := by decide
  have k6 : (6 : Int32).toInt = 6 := by decide
  have hd : (y / 8).toInt = y.toInt / 8 := by rw [ti_div hy (by omega), k8]
  have h6 := jr_rng (a := y / 8) (b := 6) (by omega) (by omega)
  have h8 := jr_rng (a := y / 8) (b := 8) (by omega) (by omega)
  rcases ha with rfl | rfl | rfl | rfl | rfl
  · rw [if_pos rfl]
    exact Or.inl ⟨rfl, rfl, h6.2.1, by omega⟩
  · rw [if_neg (by decide)]
    exact Or.inr (Or.inr (Or.inl ⟨rfl, rfl, h8.2.1, by omega⟩))
  · rw [if_neg (by decide)]
    exact Or.inr (Or.inr (Or.inr (Or.inl ⟨rfl, rfl, h8.2.1, by omega⟩)))
  · exact Or.inr (Or.inr (Or.inr (Or.inr (Or.inl rfl))))
  · exact Or.inr (Or.inr (Or.inr (Or.inr (Or.inr rfl))))
def frV (s t : Nat → Nat → Int32) : Prop := (∀ k, 7 < k → k ≠ 17 → k ≠ 18 → k ≠ 19 → t 0 k = s 0 k) ∧ (∀ q, q ≠ 0 → t q = s q)
theorem year_L {lo : Nat → Int64} {f : Nat → Int32} {m : Int32} {s0 : Nat → Nat → Int32} {q2 : (Nat → Int32) × (Nat → Int64) × (Nat → Int32) × (Nat → Int32)} (e1 : q2.2.1 = lo) (e2 : q2.2.2.2 = f) (kc : (Nat → Int32) → (Nat → Int32) → ((Nat → Int32) × (Nat → Int64) × (Nat → Int32) × (Nat → Int32))) (km : (Nat → Nat → Int32) → (Int32 × (Nat → Nat → Int32))) :
    ∀ (n : Nat) (j z : Int32) (v i : Nat → Int32) (st : Nat → Nat → Int32), (0 ≤ z.toInt ∧ z.toInt < 65537) → seaR lo i f st → v 6 = st 0 19 → frV s0 st →
      ∃ v' i' st', f_X5_sailByDraws_L11 m q2 kc n j z v i = kc v' i' ∧ f_X7_year_L54 m km n j z st = km st' ∧ seaR lo i' f st' ∧ v' 6 = st' 0 19 ∧ frV s0 st' := by
  intro n
  induction n with
  | zero =>
    intro j z v i st hz hs hv hf
    exact ⟨v, i, st, by rw [f_X5_sailByDraws_L11], by rw [f_X7_year_L54], hs, hv, hf⟩
  | succ n ih =>
    intro j z v i st hz hs hv hf
    rw [f_X5_sailByDraws_L11, f_X7_year_L54]
    by_cases c : m ≤ j
    · rw [if_pos c, if_pos c]
      exact ⟨v, i, st, rfl, rfl, hs, hv, hf⟩
    rw [if_neg c, if_neg c, lt_1, lt_1, lt_1, lt_1, lt_1, lcg_eq hz, da_eq]
    have hz' := lcg_rng hz
    rw [lcg_eq hz] at hz'
    generalize jr (((75 : Int32) * z) + (74 : Int32)) (65537 : Int32) = y at hz' ⊢
    have hact := actBy_c (jr y 8)
    generalize f_X7_actBy (jr y 8) = a at hact ⊢
    have hV := year_V hact hz'.1
    have hc : (jn_ (fun (z68_s0 : Int32) => lt_ (f_X5_tryAct a z68_s0 v q2.2.1 i q2.2.2.2) (fun (q68 : Int32 × (Nat → Int32) × (Nat → Int32)) => lt_ (j + (1 : Int32)) (fun (y72 : Int32) => f_X5_sailByDraws_L11 m q2 kc n y72 y q68.2.1 q68.2.2))) (fun j68 => if a = 0 then j68 (jr (y / 8) (6 : Int32)) else j68 (jr (y / 8) (8 : Int32)))) = f_X5_sailByDraws_L11 m q2 kc n (j + 1) y (f_X5_tryAct a (if a = 0 then jr (y / 8) 6 else jr (y / 8) 8) v lo i f).2.1 (f_X5_tryAct a (if a = 0 then jr (y / 8) 6 else jr (y / 8) 8) v lo i f).2.2 := by
      rw [jn_1, e1, e2]
      by_cases d : a = 0
      · rw [if_pos d, if_pos d]; rfl
      · rw [if_neg d, if_neg d]; rfl
    have hm : (jn_ (fun (z105_s0 : Int32) => lt_ (jr (y / (8 : Int32)) z105_s0) (fun (y106 : Int32) => jn_ (fun (z127_st : Nat → Nat → Int32) => lt_ (j + (1 : Int32)) (fun (y127 : Int32) => f_X7_year_L54 m km n y127 y z127_st)) (fun j127 => if (f_X7_whyNot a y106 st) = 0 then lt_ (f_X7_happen a y106 st) (fun (q124 : (Nat → Nat → Int32)) => j127 q124) else j127 st))) (fun j105 => if a = 0 then j105 (6 : Int32) else j105 (8 : Int32))) = f_X7_year_L54 m km n (j + 1) y (if f_X7_whyNot a (if a = 0 then jr (y / 8) 6 else jr (y / 8) 8) st = 0 then f_X7_happen a (if a = 0 then jr (y / 8) 6 else jr (y / 8) 8) st else st) := by
      rw [jn_1]
      by_cases d : a = 0
      · rw [if_pos d, if_pos d]
        dsimp only
        rw [lt_1, jn_1]
        by_cases g : f_X7_whyNot a (jr (y / 8) 6) st = 0
        · rw [if_pos g, if_pos g]; rfl
        · rw [if_neg g, if_neg g]; rfl
      · rw [if_neg d, if_neg d]
        dsimp only
        rw [lt_1, jn_1]
        by_cases g : f_X7_whyNot a (jr (y / 8) 8) st = 0
        · rw [if_pos g, if_pos g]; rfl
        · rw [if_neg g, if_neg g]; rfl
    rw [hc, hm]
    generalize (if a = 0 then jr (y / 8) 6 else jr (y / 8) 8) = b at hV ⊢
    rcases step (v := v) hs hV with ⟨r, r1, r2, r3⟩ | ⟨r2, v', i', r3, r4⟩
    · rw [r3, r2, if_neg (fun q => by rw [q] at r1; exact absurd r1 (by decide))]
      exact ih _ _ v i st hz' hs hv hf
    · rw [r3, r2, if_pos rfl]
      obtain ⟨t1, _, _, _, t5, t6, t7⟩ := r4
      refine ih _ _ v' i' _ hz' t1 ?_ ⟨fun k h7 h17 h18 h19 => ?_, fun q hq => ?_⟩
      · rcases t5 with ⟨u1, u2, _⟩ | ⟨u1, u2, _⟩
        · rw [u1, u2, hv]
        · rw [u1, u2, hv]
      · rw [t6 k h7 h17 h18 h19, hf.1 k h7 h17 h18 h19]
      · rw [t7 q hq, hf.2 q hq]
/-! what was kept comes back -/
theorem cl_0 : (0 : Int32).toNatClampNeg = 0 := by decide
theorem cl_1 : (1 : Int32).toNatClampNeg = 1 := by decide
theorem cl_2 : (2 : Int32).toNatClampNeg = 2 := by decide
theorem cl_3 : (3 : Int32).toNatClampNeg = 3 := by decide
theorem cl_4 : (4 : Int32).toNatClampNeg = 4 := by decide
theorem cl_5 : (5 : Int32).toNatClampNeg = 5 := by decide
def kept (s t : Nat → Nat → Int32) : Prop := t 21 0 = s 0 1 ∧ t 21 1 = s 0 2 ∧ t 21 2 = s 0 4 ∧ t 21 3 = s 0 5 ∧ t 21 4 = s 0 6 ∧ t 21 5 = s 0 7
theorem keep_k (s : Nat → Nat → Int32) : kept s (f_X7_keepNow s) := ⟨rfl, rfl, rfl, rfl, rfl, rfl⟩
theorem back_eq (z : Int32) (t : Nat → Nat → Int32) : f_X7_back z t = (z, u2 (u2 (u2 (u2 (u2 (u2 t 0 1 (t 21 0)) 0 2 (t 21 1)) 0 4 (t 21 2)) 0 5 (t 21 3)) 0 6 (t 21 4)) 0 7 (t 21 5)) := by
  unfold f_X7_back lt_
  rw [cl_0, cl_1, cl_2, cl_3, cl_4, cl_5]
theorem back_k (z : Int32) (t : Nat → Nat → Int32) {k : Nat} (h : 7 < k) : (f_X7_back z t).2 0 k = t 0 k := by
  rw [back_eq]
  dsimp only
  rw [u2_k _ _ (by omega), u2_k _ _ (by omega), u2_k _ _ (by omega), u2_k _ _ (by omega), u2_k _ _ (by omega), u2_k _ _ (by omega)]
theorem back_q (z : Int32) (t : Nat → Nat → Int32) {q : Nat} (h : q ≠ 0) : (f_X7_back z t).2 q = t q := by
  rw [back_eq]
  dsimp only
  rw [u2_p _ _ h, u2_p _ _ h, u2_p _ _ h, u2_p _ _ h, u2_p _ _ h, u2_p _ _ h]
theorem back_inv {L : Nat → Nat → Int64} {I st t : Nat → Nat → Int32} (hR : InvR L I st) (z : Int32) (hk : kept st t) (h11 : t 0 11 = st 0 11) (h13 : t 0 13 = st 0 13) (hq : ∀ q, q = 1 ∨ q = 4 ∨ q = 9 ∨ q = 10 ∨ q = 11 ∨ q = 13 ∨ q = 31 ∨ q = 32 → t q = st q) : (f_X7_back z t).1 = z ∧ InvR L I (f_X7_back z t).2 := by
  obtain ⟨k1, k2, k3, k4, k5, k6⟩ := hk
  refine ⟨by rw [back_eq], inv_pt hR (fun k hk => ?_) (fun q hq' j => ?_)⟩
  · rcases hk with rfl | rfl | rfl | rfl | rfl | rfl | rfl | rfl
    · rw [back_eq]; exact k1
    · rw [back_eq]; exact k2
    · rw [back_eq]; exact k3
    · rw [back_eq]; exact k4
    · rw [back_eq]; exact k5
    · rw [back_eq]; exact k6
    · rw [back_k _ _ (by decide)]; exact h11
    · rw [back_k _ _ (by decide)]; exact h13
  · rw [back_q _ _ (by omega), hq q hq']
theorem inv_cls {L : Nat → Nat → Int64} {I t : Nat → Nat → Int32} (h : InvR L I t) (x : Nat → Int64) (a b c : Nat → Int32) : InvR (rw2 L 8 x) (rw2 (rw2 (rw2 I 7 a) 8 b) 9 c) t := h
theorem year_end {L : Nat → Nat → Int64} {I st : Nat → Nat → Int32} (hR : InvR L I st) (x1 x2 : Int32) (h1 : 0 ≤ x1.toInt ∧ x1.toInt < 65537) (km : (Nat → Nat → Int32) → (Int32 × (Nat → Nat → Int32))) :
    ∃ t, f_X7_year_L54 x2 km 99 0 x1 (u2 (f_X7_keepNow st) 0 19 0) = km t ∧ seaR (f_X5_sailByDraws x1 x2 (I 7) (L 8) (I 8) (I 9) (L 3) (I 3) (I 4)).2.1 (f_X5_sailByDraws x1 x2 (I 7) (L 8) (I 8) (I 9) (L 3) (I 3) (I 4)).2.2.1 (f_X5_sailByDraws x1 x2 (I 7) (L 8) (I 8) (I 9) (L 3) (I 3) (I 4)).2.2.2 t ∧
      (f_X5_sailByDraws x1 x2 (I 7) (L 8) (I 8) (I 9) (L 3) (I 3) (I 4)).1 6 = t 0 19 ∧ frV (u2 (f_X7_keepNow st) 0 19 0) t := by
  have hc := over (L 8) (L 3) (I 8) (I 9) (I 3) (I 4)
  unfold f_X5_sailByDraws f_X5_setOut
  rw [lt_1, lt_1]
  generalize f_X4_takeOver (L 8) (I 8) (I 9) (L 3) (I 3) (I 4) = r at hc ⊢
  have hs : seaR r.1 r.2.1 r.2.2 (u2 (f_X7_keepNow st) 0 19 0) := by
    refine sea_congr hR.1 hc ⟨⟨rfl, rfl, rfl, rfl, rfl, rfl, rfl⟩, fun _ _ => rfl, fun _ _ => rfl, fun _ _ => rfl, fun _ _ => rfl, fun _ _ => rfl⟩
  generalize hq : ((u1 (u1 (u1 (u1 (u1 (u1 (u1 (I 7) 1 (0 : Int32)) 2 (-6 : Int32)) 3 (-6 : Int32)) 4 (0 : Int32)) 5 (0 : Int32)) 6 (0 : Int32)) 7 (-6 : Int32)), r.1, r.2.1, r.2.2) = q2
  obtain ⟨v', i', t, h1, h2, h3, h4, h5⟩ := year_L (m := x2) (s0 := u2 (f_X7_keepNow st) 0 19 0) (q2 := q2) (lo := r.1) (f := r.2.2) (by rw [← hq]) (by rw [← hq]) (fun (w11_v : Nat → Int32) (w11_i : Nat → Int32) => (w11_v, q2.2.1, w11_i, q2.2.2.2)) km 99 0 x1 q2.1 q2.2.2.1 (u2 (f_X7_keepNow st) 0 19 0) h1 (by rw [← hq]; exact hs) (by rw [← hq]; rfl) ⟨fun _ _ _ _ _ => rfl, fun _ _ => rfl⟩
  have g1 : q2.2.1 = r.1 := by rw [← hq]
  have g2 : q2.2.2.2 = r.2.2 := by rw [← hq]
  refine ⟨t, h2, ?_, ?_, h5⟩
  · rw [h1]
    dsimp only
    rw [g1, g2]
    exact h3
  · rw [h1]
    exact h4
set_option maxHeartbeats 1000000 in
set_option maxRecDepth 4000 in
theorem s_year : lwS21 InvR := by
  intro L I st x1 x2 x3 hR
  unfold f_X6_year f_X7_year
  rw [in_eq x1 (a' := 0) (b' := 9999) (by decide) (by decide), in_eq x2 (a' := 1) (b' := 99) (by decide) (by decide), in_eq x3 (a' := 0) (b' := 2) (by decide) (by decide)]
  by_cases c1 : f_X6_within x1 0 9999 = 0
  · rw [if_pos c1, if_pos c1]; exact ⟨rfl, hR⟩
  rw [if_neg c1, if_neg c1]
  by_cases c2 : f_X6_within x2 1 99 = 0
  · rw [if_pos c2, if_pos c2]; exact ⟨rfl, hR⟩
  rw [if_neg c2, if_neg c2]
  by_cases c3 : f_X6_within x3 0 2 = 0
  · rw [if_pos c3, if_pos c3]; exact ⟨rfl, hR⟩
  rw [if_neg c3, if_neg c3, lt_1, lt_1]
  have w1 := within_nz c1
  rw [show (0 : Int32).toInt = 0 from by decide, show (9999 : Int32).toInt = 9999 from by decide] at w1
  obtain ⟨t, h1, h2, h3, h4⟩ := year_end hR x1 x2 (by omega) (fun (w54_st : Nat → Nat → Int32) => jn_ (fun (z161_s0 : Int32) => lt_ (f_X7_back z161_s0 w54_st) (fun (q161 : Int32 × (Nat → Nat → Int32)) => (q161.1, q161.2))) (fun j161 => if x3 = 0 then j161 (w54_st 0 1) else if x3 = (1 : Int32) then j161 (w54_st 0 2) else j161 (w54_st 0 19)))
  rw [h1]
  generalize f_X5_sailByDraws x1 x2 (I 7) (L 8) (I 8) (I 9) (L 3) (I 3) (I 4) = r at h2 h3 ⊢
  have hk : kept st t := by
    have e : t 21 = f_X7_keepNow st 21 := (h4.2 21 (by decide)).trans (u2_p _ _ (by decide))
    unfold kept
    rw [e]
    exact keep_k st
  have hb := fun z => back_inv hR z hk ((h4.1 11 (by decide) (by decide) (by decide) (by decide)).trans rfl) ((h4.1 13 (by decide) (by decide) (by decide) (by decide)).trans rfl) (fun q hq => (h4.2 q (by omega)).trans ((u2_p _ _ (by omega)).trans (keep_fr st q (by omega))))
  have e1 : r.2.2.1 1 = t 0 1 := h2.2.1.1
  have e2 : r.2.2.1 2 = t 0 2 := h2.2.1.2.1
  rw [jn_1]
  by_cases d0 : x3 = 0
  · rw [if_pos d0, if_pos d0]
    exact ⟨e1.trans (hb _).1.symm, inv_cls (hb _).2 _ _ _ _⟩
  rw [if_neg d0, if_neg d0]
  by_cases d1 : x3 = 1
  · rw [if_pos d1, if_pos d1]
    exact ⟨e2.trans (hb _).1.symm, inv_cls (hb _).2 _ _ _ _⟩
  rw [if_neg d1, if_neg d1]
  exact ⟨h3.trans (hb _).1.symm, inv_cls (hb _).2 _ _ _ _⟩
