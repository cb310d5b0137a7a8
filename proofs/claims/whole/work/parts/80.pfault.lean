/-! fault -/
def kF : Int32 → (Nat → Nat → Int32) → (Int32 × (Nat → Nat → Int32)) := fun (w9_1 : Int32) (w9_st : Nat → Nat → Int32) => if w9_1 = 0 then ((-6 : Int32), w9_st) else ((w9_st 0 13), w9_st)
theorem mch_0 (st : Nat → Nat → Int32) (v : Int32) (k : Nat) : mch st v 0 k = st 0 k := rfl
theorem mch_j {st : Nat → Nat → Int32} {m : Nat} (h : st 0 16 = nI m) (hm : m < 2 ^ 31) (v : Int32) (j : Nat) : mch st v 16 j = if j = m then v else st 16 j := by
  unfold mch
  rw [h, nI_clamp hm, u2_v]
theorem mch_q (st : Nat → Nat → Int32) (v : Int32) {q : Nat} (h : q ≠ 16) (j : Nat) : mch st v q j = st q j := by
  unfold mch
  rw [u2_p _ _ h]
theorem txt_mch {i f : Nat → Int32} {n : Nat} {st : Nat → Nat → Int32} (h : txt i f n st) (v : Int32) : txt i f n (mch st v) :=
  ⟨h.1, h.2.1, h.2.2.1, fun j hj => by rw [mch_q _ _ (by decide)]; exact h.2.2.2 j hj⟩
theorem txt_close {i f : Nat → Int32} {n : Nat} {st : Nat → Nat → Int32} (h : txt i f n st) (w : Int32) : txt i f n (f_X7_close w st).2 := by
  rw [close_eq]
  exact ⟨h.1, h.2.1, h.2.2.1, fun j hj => by dsimp only; rw [u2_p _ _ (by decide), u2_p _ _ (by decide)]; exact h.2.2.2 j hj⟩
/-- what the simulation of the reading says -/
def fsR (i f : Nat → Int32) (n m p : Nat) (st : Nat → Nat → Int32) : Prop :=
  ∃ r st', f_X7_fault_L9 kF (60 - p) (nI p) 0 st = (r, st') ∧ f_X2_firstFault_L4 i f (fun (_ : Unit) => (-6 : Int32)) (60 - m) (nI m) (nI p) = r ∧ (r = -6 ∧ (∃ M, posF i f M = n ∧ parI i f n M st') ∨ 0 ≤ r.toInt)
theorem nI_nn {a : Nat} (h : a < 2 ^ 31) : 0 ≤ (nI a).toInt := by rw [nI_toInt h]; omega
theorem ne6 {a : Nat} (h : a < 2 ^ 31) : ¬ nI a = -6 := fun q => by
  have t := nI_toInt h
  rw [q, show (-6 : Int32).toInt = -6 from by decide] at t
  omega
theorem fs_one {i f : Nat → Int32} {n m : Nat} {st : Nat → Nat → Int32} {a : Int32} (ht : txt i f n st) (h : parI i f n m st) (hp : posF i f m < n) (hA : f_X2_actAt (nI (posF i f m)) i f = a) (ha : a = 4 ∨ a = 5) (hr : f_X7_readOn 0 (st 13 (posF i f m)) st = f_X7_close a (mch st 0))
    (ih : ∀ st', txt i f n st' → parI i f n (m + 1) st' → fsR i f n (m + 1) (posF i f (m + 1)) st') : fsR i f n m (posF i f m) st := by
  have hn := ht.1
  have hm : m ≤ posF i f m := h.2.2.1
  have sg1 : sgN a = 1 := by rcases ha with rfl | rfl <;> decide
  have ne : ¬ a = -6 := by rcases ha with rfl | rfl <;> decide
  have ep : posF i f (m + 1) = posF i f m + 1 := by rw [posF, hA, sg1]
  have hpar := par_close (t := mch st 0) hn h hp (by rw [hA]; exact ne) (by rw [hA, sg1]; omega) (mch_0 _ _ _) (fun j => mch_q _ _ (by decide) j) (fun j hj => by rw [mch_j h.1 (by omega), if_neg (by omega)]) (by rw [hA]; exact Or.inr (Or.inr (Or.inr (Or.inr ha))))
  rw [hA] at hpar
  obtain ⟨r, st', g1, g2, g3⟩ := ih _ (txt_close (txt_mch ht 0) a) hpar
  refine ⟨r, st', ?_, ?_, g3⟩
  · rw [show 60 - posF i f m = (60 - (posF i f m + 1)) + 1 by omega, fl_ok hn ht.2.2.1 hp (r := 0) (st' := (f_X7_close a (mch st 0)).2) (by rw [hr, close_eq]) (by decide), ← ep, g1]
  · rw [show 60 - m = (60 - (m + 1)) + 1 by omega, ff_1 hn ht.2.1 hp (by omega), hA, if_neg ne, sg1, ← ep, g2]
theorem fs_two {i f : Nat → Int32} {n m : Nat} {st t1 t2 : Nat → Nat → Int32} {a u : Int32} (ht : txt i f n st) (h : parI i f n m st) (hp : posF i f m < n) (hp2 : posF i f m + 1 < n) (hA : f_X2_actAt (nI (posF i f m)) i f = a) (ha : sgN a = 2) (ne : ¬ a = -6) (hu : 0 ≤ u) (hr : f_X7_readOn 0 (st 13 (posF i f m)) st = (u, t1)) (ht1 : txt i f n t1)
    (hr2 : f_X7_readOn u (t1 13 (posF i f m + 1)) t1 = f_X7_close a t2) (ht2 : txt i f n t2) (e0 : t2 0 16 = st 0 16) (e15 : ∀ j, t2 15 j = st 15 j) (e16 : ∀ j, j < m → t2 16 j = st 16 j) (hv : actV a (f_X2_withAt (nI (posF i f m)) i f) (t2 16 m))
    (ih : ∀ st', txt i f n st' → parI i f n (m + 1) st' → fsR i f n (m + 1) (posF i f (m + 1)) st') : fsR i f n m (posF i f m) st := by
  have hn := ht.1
  have hm : m ≤ posF i f m := h.2.2.1
  have ep : posF i f (m + 1) = posF i f m + 1 + 1 := by rw [posF, hA, ha]
  have hpar := par_close (t := t2) hn h hp (by rw [hA]; exact ne) (by rw [hA, ha]; omega) e0 e15 e16 (by rw [hA]; exact hv)
  rw [hA] at hpar
  obtain ⟨r, st', g1, g2, g3⟩ := ih _ (txt_close ht2 a) hpar
  refine ⟨r, st', ?_, ?_, g3⟩
  · rw [show 60 - posF i f m = (60 - (posF i f m + 1 + 1)) + 1 + 1 by omega, fl_ok hn ht.2.2.1 hp hr hu, fl_ok hn ht1.2.2.1 hp2 (r := 0) (st' := (f_X7_close a t2).2) (by rw [hr2, close_eq]) (by decide), ← ep, g1]
  · rw [show 60 - m = (60 - (m + 1)) + 1 by omega, ff_1 hn ht.2.1 hp (by omega), hA, if_neg ne, ha, show posF i f m + 2 = posF i f m + 1 + 1 from rfl, ← ep, g2]
theorem fs_bad1 {i f : Nat → Int32} {n m : Nat} {st t1 : Nat → Nat → Int32} (ht : txt i f n st) (h : parI i f n m st) (hp : posF i f m < n) (hA : f_X2_actAt (nI (posF i f m)) i f = -6) (hN : nF (f (posF i f m)) = 0) (hr : f_X7_readOn 0 (st 13 (posF i f m)) st = (-6, t1)) : fsR i f n m (posF i f m) st := by
  have hn := ht.1
  have hm : m ≤ posF i f m := h.2.2.1
  refine ⟨nI (posF i f m), t1, ?_, ?_, Or.inr (nI_nn (by omega))⟩
  · rw [show 60 - posF i f m = (60 - (posF i f m + 1)) + 1 by omega, fl_bad hn ht.2.2.1 hp hr]
  · rw [show 60 - m = (60 - (m + 1)) + 1 by omega, ff_1 hn ht.2.1 hp (by omega), hA, if_pos rfl, hN, if_pos rfl]
theorem fs_bad2 {i f : Nat → Int32} {n m : Nat} {st t1 : Nat → Nat → Int32} {u : Int32} (ht : txt i f n st) (h : parI i f n m st) (hp : posF i f m < n) (hA : f_X2_actAt (nI (posF i f m)) i f = -6) (hN : nF (f (posF i f m)) = 1) (hu : 0 ≤ u) (hu2 : ¬ u = 0) (hr : f_X7_readOn 0 (st 13 (posF i f m)) st = (u, t1)) (ht1 : txt i f n t1)
    (hr2 : posF i f m + 1 < n → ∃ t2, f_X7_readOn u (t1 13 (posF i f m + 1)) t1 = (-6, t2)) : fsR i f n m (posF i f m) st := by
  have hn := ht.1
  have hm : m ≤ posF i f m := h.2.2.1
  have hC : f_X2_firstFault_L4 i f (fun (_ : Unit) => (-6 : Int32)) (60 - m) (nI m) (nI (posF i f m)) = nI (posF i f m + 1) := by
    rw [show 60 - m = (60 - (m + 1)) + 1 by omega, ff_1 hn ht.2.1 hp (by omega), hA, if_pos rfl, hN, if_neg (by decide)]
  by_cases c : posF i f m + 1 < n
  · obtain ⟨t2, e2⟩ := hr2 c
    refine ⟨nI (posF i f m + 1), t2, ?_, hC, Or.inr (nI_nn (by omega))⟩
    rw [show 60 - posF i f m = (60 - (posF i f m + 1 + 1)) + 1 + 1 by omega, fl_ok hn ht.2.2.1 hp hr hu, fl_bad hn ht1.2.2.1 c e2]
  · refine ⟨nI (posF i f m + 1), t1, ?_, hC, Or.inr (nI_nn (by omega))⟩
    rw [show 60 - posF i f m = (60 - (posF i f m + 1)) + 1 by omega, fl_ok hn ht.2.2.1 hp hr hu, fl_end ht1.2.2.1 (by omega) (by omega)]
    unfold kF
    rw [if_neg hu2, ht1.2.2.1, show n = posF i f m + 1 by omega]
theorem digit_n {d : Int32} (h : ¬ f_X6_within d 48 55 = 0) : 0 ≤ (d - 48).toInt ∧ (d - 48).toInt ≤ 7 := by
  have t := within_nz h
  rw [show (48 : Int32).toInt = 48 from by decide, show (55 : Int32).toInt = 55 from by decide] at t
  have e : (d - 48).toInt = d.toInt - 48 := ti_sub rfl (by omega) (by omega)
  omega
theorem fsim {i f : Nat → Int32} {n : Nat} : ∀ (N m : Nat) (st : Nat → Nat → Int32), n - posF i f m ≤ N → txt i f n st → parI i f n m st → fsR i f n m (posF i f m) st := by
  intro N
  induction N with
  | zero =>
    intro m st hN ht h
    have hp : posF i f m = n := by have := h.2.1; omega
    have hn := ht.1
    refine ⟨-6, st, ?_, ff_end ht.2.1 (by omega) (by omega) _, Or.inl ⟨rfl, m, hp, h⟩⟩
    rw [fl_end ht.2.2.1 (by omega) (by omega)]
    rfl
  | succ N ihN =>
    intro m st hN ht h
    have hn := ht.1
    by_cases hpn : posF i f m = n
    · refine ⟨-6, st, ?_, ff_end ht.2.1 (by omega) (by omega) _, Or.inl ⟨rfl, m, hpn, h⟩⟩
      rw [fl_end ht.2.2.1 (by omega) (by omega)]
      rfl
    have hp : posF i f m < n := by have := h.2.1; omega
    have hm : m ≤ posF i f m := h.2.2.1
    have hsg : 1 ≤ sgN (f_X2_actAt (nI (posF i f m)) i f) := by
      unfold sgN
      repeat' split
      all_goals omega
    have ih : ∀ st', txt i f n st' → parI i f n (m + 1) st' → fsR i f n (m + 1) (posF i f (m + 1)) st' := fun st' h1 h2 => ihN (m + 1) st' (by rw [posF]; omega) h1 h2
    have ec := ht.2.2.2 _ hp
    have hA := act_eq (nI (posF i f m)) i f
    have hW := with_eq (nI (posF i f m)) i f
    rw [sign_in hn ht.2.1 hp, nI_1] at hA hW
    by_cases k1 : f (posF i f m) = 99
    · refine fs_one (a := 4) ht h hp (by rw [hA, k1]; rfl) (Or.inl rfl) ?_ ih
      rw [ec, k1, beg_n _ (by decide)]; rfl
    by_cases k2 : f (posF i f m) = 46
    · refine fs_one (a := 5) ht h hp (by rw [hA, k2]; rfl) (Or.inr rfl) ?_ ih
      rw [ec, k2, beg_n _ (by decide)]; rfl
    by_cases k3 : f_X6_within (f (posF i f m)) 65 70 = 0
    · by_cases k4 : f (posF i f m) = 119 ∨ f (posF i f m) = 102
      · have hN1 : nF (f (posF i f m)) = 1 := by
          rcases k4 with k | k <;> rw [k] <;> rfl
        obtain ⟨u, hu, hr, hA2⟩ : ∃ u : Int32, (u = 2 ∨ u = 3) ∧ f_X7_readOn 0 (st 13 (posF i f m)) st = (u, mch st 0) ∧ f_X2_actAt (nI (posF i f m)) i f = if f_X6_within (f_X2_signAt (nI (posF i f m + 1)) i f) 48 55 = 0 then -6 else u := by
          rcases k4 with k | k
          · exact ⟨2, Or.inl rfl, by rw [ec, k, beg_n _ (by decide)]; rfl, by rw [hA, k]; rfl⟩
          · exact ⟨3, Or.inr rfl, by rw [ec, k, beg_n _ (by decide)]; rfl, by rw [hA, k]; rfl⟩
        have hu0 : 0 ≤ u := by rcases hu with rfl | rfl <;> decide
        have hu1 : ¬ u = 0 := by rcases hu with rfl | rfl <;> decide
        have ht1 := txt_mch ht 0
        by_cases c : posF i f m + 1 < n
        · have ed := ht1.2.2.2 _ c
          rw [sign_in hn ht.2.1 c] at hA2 hW
          have hs := sec_d hu (f (posF i f m + 1)) (mch st 0)
          by_cases g : f_X6_within (f (posF i f m + 1)) 48 55 = 0
          · rw [if_pos g] at hA2 hs
            exact fs_bad2 ht h hp hA2 hN1 hu0 hu1 hr ht1 (fun _ => ⟨_, by rw [ed]; exact hs⟩)
          · rw [if_neg g] at hA2 hs
            have hd := digit_n g
            have eW : f_X2_withAt (nI (posF i f m)) i f = f (posF i f m + 1) - 48 := by
              rw [hW, wF, if_pos k3]
            refine fs_two (t2 := mch (mch st 0) (f (posF i f m + 1) - 48)) ht h hp c hA2 (by rcases hu with rfl | rfl <;> rfl) (by rcases hu with rfl | rfl <;> decide) hu0 hr ht1 (by rw [ed]; exact hs) (txt_mch ht1 _) rfl (fun j => by rw [mch_q _ _ (by decide), mch_q _ _ (by decide)]) (fun j hj => by rw [mch_j (by exact h.1) (by omega), if_neg (by omega), mch_j h.1 (by omega), if_neg (by omega)]) ?_ ih
            rw [mch_j (by exact h.1) (by omega), if_pos rfl, eW]
            rcases hu with rfl | rfl
            · exact Or.inr (Or.inr (Or.inl ⟨rfl, rfl, hd.1, by omega⟩))
            · exact Or.inr (Or.inr (Or.inr (Or.inl ⟨rfl, rfl, hd.1, by omega⟩)))
        · rw [sign_out ht.2.1 (by omega) (by omega), if_pos (by decide)] at hA2
          exact fs_bad2 ht h hp hA2 hN1 hu0 hu1 hr ht1 (fun q => absurd q c)
      · have k5 : ¬ f (posF i f m) = 119 := fun q => k4 (Or.inl q)
        have k6 : ¬ f (posF i f m) = 102 := fun q => k4 (Or.inr q)
        refine fs_bad1 (t1 := mch st 0) ht h hp ?_ ?_ ?_
        · rw [hA, aF, if_neg k1, if_neg k2, if_pos k3, if_neg k5, if_neg k6]
        · rw [nF, if_pos k3, if_neg k5, if_neg k6]
        · rw [ec, beg_n _ k3, if_neg k2, if_neg k1, if_neg k6, if_neg k5]
    · have hl := letter_n k3
      have hA2 : f_X2_actAt (nI (posF i f m)) i f = if f_X2_signAt (nI (posF i f m + 1)) i f = 94 then 0 else if f_X2_signAt (nI (posF i f m + 1)) i f = 95 then 1 else -6 := by
        rw [hA, aF, if_neg k1, if_neg k2, if_neg k3]
      have hN1 : nF (f (posF i f m)) = 1 := by rw [nF, if_neg k3]
      have hr := beg_l st k3
      rw [← ec] at hr
      have ht1 := txt_mch ht (st 13 (posF i f m) - 65)
      have eW : f_X2_withAt (nI (posF i f m)) i f = st 13 (posF i f m) - 65 := by rw [hW, wF, if_neg k3, ec]
      have hb : 0 ≤ (st 13 (posF i f m) - 65).toInt ∧ (st 13 (posF i f m) - 65).toInt < 6 := by
        rw [ec]
        have e : (f (posF i f m) - 65).toInt = (f (posF i f m)).toInt - 65 := ti_sub rfl (by omega) (by omega)
        omega
      have hM : mch st (st 13 (posF i f m) - 65) 16 m = st 13 (posF i f m) - 65 := by rw [mch_j h.1 (by omega), if_pos rfl]
      by_cases c : posF i f m + 1 < n
      · have ed := ht1.2.2.2 _ c
        rw [sign_in hn ht.2.1 c] at hA2
        have hs := sec_1 (f (posF i f m + 1)) (mch st (st 13 (posF i f m) - 65))
        by_cases g : f (posF i f m + 1) = 94
        · rw [if_pos g] at hA2 hs
          refine fs_two (t2 := mch st (st 13 (posF i f m) - 65)) ht h hp c hA2 rfl (by decide) (by decide) hr ht1 (by rw [ed]; exact hs) ht1 rfl (fun j => mch_q _ _ (by decide) j) (fun j hj => by rw [mch_j h.1 (by omega), if_neg (by omega)]) ?_ ih
          rw [hM, eW]
          exact Or.inl ⟨rfl, rfl, hb⟩
        · rw [if_neg g] at hA2 hs
          by_cases g2 : f (posF i f m + 1) = 95
          · rw [if_pos g2] at hA2 hs
            refine fs_two (t2 := mch st (st 13 (posF i f m) - 65)) ht h hp c hA2 rfl (by decide) (by decide) hr ht1 (by rw [ed]; exact hs) ht1 rfl (fun j => mch_q _ _ (by decide) j) (fun j hj => by rw [mch_j h.1 (by omega), if_neg (by omega)]) ?_ ih
            rw [hM, eW]
            exact Or.inr (Or.inl ⟨rfl, rfl⟩)
          · rw [if_neg g2] at hA2 hs
            exact fs_bad2 ht h hp hA2 hN1 (by decide) (by decide) hr ht1 (fun _ => ⟨_, by rw [ed]; exact hs⟩)
      · rw [sign_out ht.2.1 (by omega) (by omega), if_neg (by decide), if_neg (by decide)] at hA2
        exact fs_bad2 ht h hp hA2 hN1 (by decide) (by decide) hr ht1 (fun q => absurd q c)
/-- the reading from the start -/
theorem fault_both {i f : Nat → Int32} {n : Nat} {st : Nat → Nat → Int32} (ht : txt i f n st) : f_X2_firstFault i f = (f_X7_fault st).1 ∧ ((f_X7_fault st).1 = -6 ∧ (∃ M, posF i f M = n ∧ parI i f n M (f_X7_fault st).2) ∨ 0 ≤ (f_X7_fault st).1.toInt) := by
  have hs := fsim (i := i) (f := f) n 0 (u2 st 0 16 0) (by omega) ⟨ht.1, ht.2.1, ht.2.2.1, ht.2.2.2⟩ ⟨rfl, Nat.zero_le _, Nat.le_refl _, fun j hj => absurd hj (Nat.not_lt_zero j)⟩
  obtain ⟨r, st', g1, g2, g3⟩ := hs
  have e : f_X7_fault st = (r, st') := g1
  have e2 : f_X2_firstFault i f = r := g2
  rw [e, e2]
  exact ⟨rfl, g3⟩
theorem inv_txt {L : Nat → Nat → Int64} {I st : Nat → Nat → Int32} (hR : InvR L I st) : ∃ n, txt (I 5) (I 6) n st := by
  obtain ⟨_, ⟨p1, p2, p3⟩, _⟩ := hR
  obtain ⟨n, hn, en⟩ : ∃ n, n < 61 ∧ st 0 13 = nI n := nI_ofI p2.1 (by omega) (by decide)
  rw [en, nI_clamp (by omega)] at p3
  exact ⟨n, by omega, p1.trans en, en, fun j hj => (p3 j hj).symm⟩
theorem fault_inv {L : Nat → Nat → Int64} {I st : Nat → Nat → Int32} (hR : InvR L I st) : InvR L I (f_X7_fault st).2 := by
  obtain ⟨_, _, _, h4, h5⟩ := fault_post st hR.2.1.2.1
  exact inv_pt hR (fun k hk => h4 k (by omega)) (fun q hq j => by rw [h5 q (by omega) (by omega) (by omega)])
theorem s_fault : lwS6 InvR := by
  intro L I st hR
  obtain ⟨n, ht⟩ := inv_txt hR
  exact ⟨(fault_both ht).1, fault_inv hR⟩
