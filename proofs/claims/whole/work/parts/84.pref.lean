/-! refusal and sailing by the text -/
def sbT (L : Nat → Nat → Int64) (I : Nat → Nat → Int32) : (Nat → Int32) × (Nat → Int64) × (Nat → Int32) × (Nat → Int32) := f_X5_sailByText (I 7) (L 8) (I 8) (I 9) (L 3) (I 3) (I 4) (I 5) (I 6)
def refF (st t : Nat → Nat → Int32) : Prop := kept st t ∧ t 0 11 = st 0 11 ∧ t 0 13 = st 0 13 ∧ (∀ q, q = 1 ∨ q = 4 ∨ q = 9 ∨ q = 10 ∨ q = 11 ∨ q = 13 ∨ q = 31 ∨ q = 32 → t q = st q)
theorem ref_both {L : Nat → Nat → Int64} {I st : Nat → Nat → Int32} (hR : InvR L I st) :
    (¬ f_X2_firstFault (I 5) (I 6) = -6 ∧ (f_X7_refusal st).1 = -5 ∧ refF st (f_X7_refusal st).2) ∨
    (f_X2_firstFault (I 5) (I 6) = -6 ∧ refF st (f_X7_refusal st).2 ∧ seaR (sbT L I).2.1 (sbT L I).2.2.1 (sbT L I).2.2.2 (f_X7_refusal st).2 ∧
      ((sbT L I).1 2 = (f_X7_refusal st).2 0 21 ∧ (sbT L I).1 3 = (f_X7_refusal st).2 0 22 ∧ (sbT L I).1 4 = (f_X7_refusal st).2 0 17 ∧ (sbT L I).1 5 = (f_X7_refusal st).2 0 18 ∧ (sbT L I).1 7 = (f_X7_refusal st).2 0 23) ∧
      ((sbT L I).1 2 = -6 ∧ (f_X7_refusal st).1 = -6 ∧ (sbT L I).1 1 = (f_X7_refusal st).2 0 16 ∨ ¬ (sbT L I).1 2 = -6 ∧ (f_X7_refusal st).1 = -3)) := by
  obtain ⟨n, ht⟩ := inv_txt hR
  have hkt : txt (I 5) (I 6) n (f_X7_keepNow st) := ⟨ht.1, ht.2.1, by rw [keep_fr st 0 (by decide)]; exact ht.2.2.1, fun j hj => by rw [keep_fr st 13 (by decide)]; exact ht.2.2.2 j hj⟩
  obtain ⟨b1, b2⟩ := fault_both hkt
  have h13 : 0 ≤ Int32.toInt (f_X7_keepNow st 0 13) ∧ Int32.toInt (f_X7_keepNow st 0 13) ≤ 60 := by rw [keep_fr st 0 (by decide)]; exact hR.2.1.2.1
  obtain ⟨_, _, _, p4, p5⟩ := fault_post (f_X7_keepNow st) h13
  have e : f_X7_refusal st = if (f_X7_fault (f_X7_keepNow st)).1 < 0 then (if (f_X7_goVoyages (f_X7_fault (f_X7_keepNow st)).2 0 21) < 0 then ((-6 : Int32), f_X7_goVoyages (f_X7_fault (f_X7_keepNow st)).2) else ((-3 : Int32), f_X7_goVoyages (f_X7_fault (f_X7_keepNow st)).2)) else ((-5 : Int32), (f_X7_fault (f_X7_keepNow st)).2) := rfl
  rw [e, b1]
  generalize f_X7_fault (f_X7_keepNow st) = r at b1 b2 p4 p5 ⊢
  have fr0 : refF st r.2 := by
    refine ⟨?_, ?_, ?_, fun q hq => ?_⟩
    · unfold kept
      rw [p5 21 (by decide) (by decide) (by decide)]
      exact keep_k st
    · rw [p4 11 (by decide), keep_fr st 0 (by decide)]
    · rw [p4 13 (by decide), keep_fr st 0 (by decide)]
    · rw [p5 q (by omega) (by omega) (by omega), keep_fr st q (by omega)]
  rcases b2 with ⟨c1, M, c2, c3⟩ | c1
  · refine Or.inr ⟨c1, ?_⟩
    rw [c1, if_pos (by decide)]
    have hc := over (L 8) (L 3) (I 8) (I 9) (I 3) (I 4)
    have esb : sbT L I = lt_ (f_X5_setOut (I 7) (L 8) (I 8) (I 9) (L 3) (I 3) (I 4)) (fun (q2 : (Nat → Int32) × (Nat → Int64) × (Nat → Int32) × (Nat → Int32)) => f_X5_sailByText_L10 (I 5) (I 6) q2 (fun (w10_v : Nat → Int32) (w10_i : Nat → Int32) => (w10_v, q2.2.1, w10_i, q2.2.2.2)) (60) (0 : Int32) (0 : Int32) q2.1 q2.2.2.1) := rfl
    rw [esb, lt_1]
    unfold f_X5_setOut
    rw [lt_1]
    generalize f_X4_takeOver (L 8) (I 8) (I 9) (L 3) (I 3) (I 4) = w at hc ⊢
    have egv : f_X7_goVoyages r.2 = f_X7_goVoyages_L35 (fun w => w) 60 0 (u2 (u2 (u2 (u2 (u2 (u2 r.2 0 21 (-6 : Int32)) 0 22 (-6 : Int32)) 0 23 (-6 : Int32)) 0 17 (0 : Int32)) 0 18 (0 : Int32)) 0 19 (0 : Int32)) := rfl
    have hs : seaR w.1 w.2.1 w.2.2 (u2 (u2 (u2 (u2 (u2 (u2 r.2 0 21 (-6 : Int32)) 0 22 (-6 : Int32)) 0 23 (-6 : Int32)) 0 17 (0 : Int32)) 0 18 (0 : Int32)) 0 19 (0 : Int32)) := by
      have hs0 : seaR (L 3) (I 3) (I 4) (f_X7_keepNow st) := seaR_0 (s := st) hR.1 (fun k _ => by rw [keep_fr st 0 (by decide)]) (fun q hq => keep_fr st q (by omega))
      have hs1 : seaR (L 3) (I 3) (I 4) r.2 := seaR_0 hs0 (fun k hk => p4 k (by omega)) (fun q hq => p5 q (by omega) (by omega) (by omega))
      have hs2 : seaR w.1 w.2.1 w.2.2 r.2 := sea_congr hs1 hc ⟨⟨rfl, rfl, rfl, rfl, rfl, rfl, rfl⟩, fun _ _ => rfl, fun _ _ => rfl, fun _ _ => rfl, fun _ _ => rfl, fun _ _ => rfl⟩
      exact seaR_0 hs2 (fun k hk => by rw [u2_k _ _ (by omega), u2_k _ _ (by omega), u2_k _ _ (by omega), u2_k _ _ (by omega), u2_k _ _ (by omega), u2_k _ _ (by omega)]) (fun q hq => by rw [u2_p _ _ (by omega), u2_p _ _ (by omega), u2_p _ _ (by omega), u2_p _ _ (by omega), u2_p _ _ (by omega), u2_p _ _ (by omega)])
    generalize hq : ((u1 (u1 (u1 (u1 (u1 (u1 (u1 (I 7) 1 (0 : Int32)) 2 (-6 : Int32)) 3 (-6 : Int32)) 4 (0 : Int32)) 5 (0 : Int32)) 6 (0 : Int32)) 7 (-6 : Int32)), w.1, w.2.1, w.2.2) = q2
    have g1 : q2.2.1 = w.1 := by rw [← hq]
    have g2 : q2.2.2.2 = w.2.2 := by rw [← hq]
    have g3 : q2.2.2.1 = w.2.1 := by rw [← hq]
    obtain ⟨v', i', t, k1, k2, k3⟩ := sail_L (s0 := r.2) (q2 := q2) g1 g2 ht.1 ht.2.1 c2 c3 M 0 q2.1 q2.2.2.1 (u2 (u2 (u2 (u2 (u2 (u2 r.2 0 21 (-6 : Int32)) 0 22 (-6 : Int32)) 0 23 (-6 : Int32)) 0 17 (0 : Int32)) 0 18 (0 : Int32)) 0 19 (0 : Int32)) (by omega) (by
      refine ⟨by rw [g3]; exact hs, ?_, ?_, ⟨rfl, rfl⟩, ⟨0, Nat.le_refl 0, rfl, fun _ => rfl, fun q => absurd q (Nat.lt_irrefl 0)⟩, ⟨fun k k7 k17 k18 k19 k21 k22 k23 => ?_, fun q hq => ?_⟩⟩
      · rw [← hq]; exact ⟨rfl, rfl, rfl⟩
      · rw [← hq]; exact ⟨rfl, rfl, rfl, rfl⟩
      · rw [u2_k _ _ (by omega), u2_k _ _ (by omega), u2_k _ _ (by omega), u2_k _ _ (by omega), u2_k _ _ (by omega), u2_k _ _ (by omega)]
      · rw [u2_p _ _ hq, u2_p _ _ hq, u2_p _ _ hq, u2_p _ _ hq, u2_p _ _ hq, u2_p _ _ hq])
    have k1' : f_X5_sailByText_L10 (I 5) (I 6) q2 (fun (w10_v : Nat → Int32) (w10_i : Nat → Int32) => (w10_v, q2.2.1, w10_i, q2.2.2.2)) (60) (0 : Int32) (0 : Int32) q2.1 q2.2.2.1 = (v', w.1, i', w.2.2) := by
      rw [g1, g2]
      exact k1
    have k2' : f_X7_goVoyages r.2 = t := egv.trans k2
    rw [k1', k2']
    obtain ⟨m1, ⟨m2, m3⟩, ⟨m4, m5, m6, m7⟩, m8, m9⟩ := k3
    have hfr : refF st t := by
      obtain ⟨f1, f2, f3, f4⟩ := fr0
      refine ⟨?_, ?_, ?_, fun q hq => ?_⟩
      · unfold kept
        rw [m9.2 21 (by decide)]
        exact f1
      · rw [m9.1 11 (by decide) (by decide) (by decide) (by decide) (by decide) (by decide) (by decide), f2]
      · rw [m9.1 13 (by decide) (by decide) (by decide) (by decide) (by decide) (by decide) (by decide), f3]
      · rw [m9.2 q (by omega), f4 q hq]
    dsimp only
    rcases m8 with ⟨n1, n2⟩ | n1
    · have l1 : t 0 21 < 0 := by rw [← m2, n1]; decide
      rw [if_pos l1]
      exact ⟨hfr, m1, ⟨m2, m3, m4, m5, m7⟩, Or.inl ⟨n1, rfl, n2.trans ((m9.1 16 (by decide) (by decide) (by decide) (by decide) (by decide) (by decide) (by decide)).trans c3.1).symm⟩⟩
    · have l1 : ¬ t 0 21 < 0 := fun q => by
        rw [← m2] at q
        have := ti_lt q
        rw [show (0 : Int32).toInt = 0 from by decide] at this
        omega
      rw [if_neg l1]
      exact ⟨hfr, m1, ⟨m2, m3, m4, m5, m7⟩, Or.inr ⟨fun q => by rw [q] at n1; exact absurd n1 (by decide), rfl⟩⟩
  · refine Or.inl ⟨fun q => by rw [q] at c1; exact absurd c1 (by decide), ?_⟩
    rw [if_neg (fun q => by
      have := ti_lt q
      rw [show (0 : Int32).toInt = 0 from by decide] at this
      omega)]
    exact ⟨rfl, fr0⟩
theorem ref_back {L : Nat → Nat → Int64} {I st t : Nat → Nat → Int32} (hR : InvR L I st) (h : refF st t) (z : Int32) : (f_X7_back z t).1 = z ∧ InvR L I (f_X7_back z t).2 := back_inv hR z h.1 h.2.1 h.2.2.1 h.2.2.2
/-- the class's sailing of the text -/
def stT (L : Nat → Nat → Int64) (I : Nat → Nat → Int32) (a : Int32) : Int32 × (Nat → Nat → Int64) × (Nat → Nat → Int32) := (a, rw2 L 8 (sbT L I).2.1, rw2 (rw2 (rw2 I 7 (sbT L I).1) 8 (sbT L I).2.2.1) 9 (sbT L I).2.2.2)
theorem st_eq (x1 x2 x3 : Int32) (L : Nat → Nat → Int64) (I : Nat → Nat → Int32) (h : ¬ f_X6_within x1 0 x2 = 0) : f_X6_sailTheText x1 x2 x3 L I = if f_X2_firstFault (I 5) (I 6) = -6 then (if x3 = 0 then stT L I 0 else if (sbT L I).1 2 = -6 then stT L I 0 else stT L I (-3)) else ((-5 : Int32), L, I) := by
  unfold f_X6_sailTheText
  rw [if_neg h]
  rfl
theorem inv_stT {L : Nat → Nat → Int64} {I t : Nat → Nat → Int32} (h : InvR L I t) (a : Int32) : InvR (stT L I a).2.1 (stT L I a).2.2 t := inv_cls h _ _ _ _
