/-! facts on the reference's pure functions that its walks ask for: what stays, what stays in range -/
theorem toI64 (x : Int32) : (Int32.toInt64 x).toInt = x.toInt := Int32.toInt_toInt64 x
theorem c8div {x : Int32} : True := trivial
theorem beside_rng (c d r : Int32) : f_X7_beside c d r = -6 ∨ (0 ≤ (f_X7_beside c d r).toInt ∧ (f_X7_beside c d r).toInt < 64) := by
  unfold f_X7_beside
  simp only [lt_]
  split
  · exact Or.inl rfl
  · split
    · exact Or.inl rfl
    · rename_i h1 h2
      have a := in_nz h1
      have b := in_nz h2
      have k0 : (0 : Int64).toInt = 0 := by decide
      have k7 : (7 : Int64).toInt = 7 := by decide
      have k8 : (8 : Int32).toInt = 8 := by decide
      right
      have e1 : ((8 : Int32) * (c / 8 + d)).toInt = 8 * (c / 8 + d).toInt := ti_mul (by rw [k8]) (by omega) (by omega)
      have e2 : ((8 : Int32) * (c / 8 + d) + (jr c 8 + r)).toInt = 8 * (c / 8 + d).toInt + (jr c 8 + r).toInt := ti_add (by rw [e1]) (by omega) (by omega)
      rw [e2]
      omega
theorem ahead_in {c w y : Int32} (e : y = f_X7_ahead c w) (h : 0 ≤ y.toInt) : vp_in y 64 := by
  have r := beside_rng c (f_X7_downwards w) (f_X7_across w)
  have e' : y = f_X7_beside c (f_X7_downwards w) (f_X7_across w) := e
  rw [← e'] at r
  rcases r with r | r
  · rw [r] at h; exact absurd h (by decide)
  · exact vin r.1 (by omega)
theorem tackTo_in {c w y : Int32} (e : y = f_X7_tackTo c w) (h : 0 ≤ y.toInt) : vp_in y 64 := by
  have key : ∀ d r : Int32, y = f_X7_beside c d r → vp_in y 64 := by
    intro d r e'
    have q := beside_rng c d r
    rw [← e'] at q
    rcases q with q | q
    · rw [q] at h; exact absurd h (by decide)
    · exact vin q.1 (by omega)
  unfold f_X7_tackTo at e
  split at e
  · exact key _ _ e
  · split at e
    · exact key _ _ e
    · split at e
      · exact key _ _ e
      · exact key _ _ e
theorem why_sail {a v : Int32} {st : Nat → Nat → Int32} (h : f_X7_whyNot a v st = 0) : a = 2 → vp_in (f_X7_ahead (st 0 1) v) 64 := by
  intro e
  subst e
  have h' : f_X7_whyNoSail v st = 0 := h
  unfold f_X7_whyNoSail at h'
  split at h'
  · split at h'
    · exact absurd h' (by decide)
    · split at h'
      · rename_i q
        exact ahead_in rfl (by have := ti_le q; exact this)
      · exact absurd h' (by decide)
  · exact absurd h' (by decide)
theorem why_call {a v : Int32} {st : Nat → Nat → Int32} (h : f_X7_whyNot a v st = 0) : a = 4 → 0 ≤ (st 0 4).toInt := by
  intro e
  subst e
  have h' : (if 0 ≤ (st 0 4) then (0 : Int32) else (2 : Int32)) = 0 := h
  split at h'
  · rename_i q
    exact ti_le q
  · exact absurd h' (by decide)
/-- what an act leaves as it was -/
theorem happen_fr (a v : Int32) (st : Nat → Nat → Int32) : (∀ p, p ≠ 0 → f_X7_happen a v st p = st p) ∧ f_X7_happen a v st 0 16 = st 0 16 ∧ f_X7_happen a v st 0 13 = st 0 13 ∧ (f_X7_happen a v st 0 4 = st 0 4 ∨ (a = 0 ∧ f_X7_happen a v st 0 4 = v) ∨ f_X7_happen a v st 0 4 = -6) := by
  unfold f_X7_happen
  simp only [lt_]
  split
  · rename_i e
    exact ⟨fun p hp => by simp [f_X7_climb, u2, hp], rfl, rfl, Or.inr (Or.inl ⟨e, rfl⟩)⟩
  · split
    · exact ⟨fun p hp => by simp [f_X7_climb, u2, hp], rfl, rfl, Or.inr (Or.inr rfl)⟩
    · split
      · unfold f_X7_sail
        simp only [lt_]
        split
        · exact ⟨fun p hp => by simp [u2, hp], rfl, rfl, Or.inl rfl⟩
        · exact ⟨fun p hp => by simp [u2, hp], rfl, rfl, Or.inl rfl⟩
      · split
        · exact ⟨fun p hp => by simp [u2, hp], rfl, rfl, Or.inl rfl⟩
        · split
          · unfold f_X7_call
            simp only [lt_, jn_]
            split
            · exact ⟨fun p hp => by simp [u2, hp], rfl, rfl, Or.inl rfl⟩
            · exact ⟨fun p hp => by simp [u2, hp], rfl, rfl, Or.inl rfl⟩
          · unfold f_X7_passHour
            simp only [lt_, jn_]
            split <;> split <;> exact ⟨fun p hp => by simp [u2, hp], rfl, rfl, Or.inl rfl⟩
theorem close_fr (w : Int32) (st : Nat → Nat → Int32) : (f_X7_close w st).1 = 0 ∧ (f_X7_close w st).2 0 16 = st 0 16 + 1 ∧ (∀ k, k ≠ 16 → (f_X7_close w st).2 0 k = st 0 k) ∧ (∀ j, (f_X7_close w st).2 15 j = if j = Int32.toNatClampNeg (st 0 16) then w else st 15 j) ∧ ∀ p, p ≠ 0 → p ≠ 15 → (f_X7_close w st).2 p = st p := by
  unfold f_X7_close
  simp only [lt_]
  exact ⟨trivial, rfl, fun k hk => by simp [u2, hk], fun j => by simp [u2], fun p h0 h15 => by simp [u2, h0, h15]⟩
/-- a sign read: pad and ship stay, at most one act more, and a climb's watcher is one -/
def rdOK (due : Int32) (st : Nat → Nat → Int32) : Prop := (∀ j : Nat, (j : Int) < (st 0 16).toInt → st 15 j = 0 → 0 ≤ (st 16 j).toInt ∧ (st 16 j).toInt < 6) ∧ (due = 1 → 0 ≤ (st 16 (st 0 16).toNatClampNeg).toInt ∧ (st 16 (st 0 16).toNatClampNeg).toInt < 6)
theorem clampI {x : Int32} (h : 0 ≤ x.toInt) : ((x.toNatClampNeg : Nat) : Int) = x.toInt := by
  unfold Int32.toNatClampNeg
  omega
theorem close_OK (w : Int32) (st : Nat → Nat → Int32) (h0 : 0 ≤ (st 0 16).toInt) (h1 : (st 0 16).toInt < 60) (hw : w = 0 → 0 ≤ (st 16 (st 0 16).toNatClampNeg).toInt ∧ (st 16 (st 0 16).toNatClampNeg).toInt < 6) (h : rdOK 0 st) : rdOK 0 (f_X7_close w st).2 := by
  obtain ⟨c1, c2, c3, c4, c5⟩ := close_fr w st
  have k1 : (1 : Int32).toInt = 1 := by decide
  have ea : ((f_X7_close w st).2 0 16).toInt = (st 0 16).toInt + 1 := by rw [c2]; exact ti_add (by rw [k1]) (by omega) (by omega)
  refine ⟨fun j hj hz => ?_, fun q => absurd q (by decide)⟩
  rw [ea] at hj
  rw [c4 j] at hz
  rw [c5 16 (by decide) (by decide)]
  have cl := clampI h0
  by_cases e : j = Int32.toNatClampNeg (st 0 16)
  · rw [if_pos e] at hz
    rw [e]
    exact hw hz
  · rw [if_neg e] at hz
    exact h.1 j (by omega) hz
/-- a joint, for a property of what comes out -/
theorem jnP {J β : Type} {P : β → Prop} {j : J} {b : J → β} (C : J → Prop) (hj : C j) (hb : ∀ j0, C j0 → P (b j0)) : P (jn_ j b) := hb j hj
def rdP (st : Nat → Nat → Int32) (r : Int32 × (Nat → Nat → Int32)) : Prop := r.2 0 13 = st 0 13 ∧ r.2 0 4 = st 0 4 ∧ (∀ k, k ≠ 16 → r.2 0 k = st 0 k) ∧ (∀ p, p ≠ 0 → p ≠ 15 → p ≠ 16 → r.2 p = st p) ∧ (r.2 0 16 = st 0 16 ∨ r.2 0 16 = st 0 16 + 1) ∧ rdOK r.1 r.2
theorem rd_close (st : Nat → Nat → Int32) (h0 : 0 ≤ (st 0 16).toInt) (h1 : (st 0 16).toInt < 60) (w : Int32) (t : Nat → Nat → Int32) (ht : ∀ k, t 0 k = st 0 k) (hp : ∀ p, p ≠ 0 → p ≠ 15 → p ≠ 16 → t p = st p) (hr : rdOK 0 t) (hw : w = 0 → 0 ≤ (t 16 (t 0 16).toNatClampNeg).toInt ∧ (t 16 (t 0 16).toNatClampNeg).toInt < 6) : rdP st (f_X7_close w t) := by
  obtain ⟨c1, c2, c3, c4, c5⟩ := close_fr w t
  refine ⟨by rw [c3 13 (by decide), ht], by rw [c3 4 (by decide), ht], fun k hk => by rw [c3 k hk, ht], fun p p0 p15 p16 => by rw [c5 p p0 p15, hp p p0 p15 p16], Or.inr (by rw [c2, ht]), ?_⟩
  rw [c1]
  exact close_OK w t (by rw [ht]; exact h0) (by rw [ht]; exact h1) hw hr
def mch (st : Nat → Nat → Int32) (v : Int32) : Nat → Nat → Int32 := u2 st 16 (Int32.toNatClampNeg (st 0 16)) v
theorem mch_s (st : Nat → Nat → Int32) (v : Int32) (k : Nat) : mch st v 0 k = st 0 k := rfl
theorem mch_p (st : Nat → Nat → Int32) (v : Int32) (p : Nat) (h : p ≠ 16) : mch st v p = st p := by simp [mch, u2, h]
theorem mch_m (st : Nat → Nat → Int32) (v : Int32) : mch st v 16 (mch st v 0 16).toNatClampNeg = v := by simp [mch, u2]
theorem mch_OK {due : Int32} {st : Nat → Nat → Int32} (h0 : 0 ≤ (st 0 16).toInt) (h : rdOK due st) (v : Int32) : rdOK 0 (mch st v) := by
  refine ⟨fun j hj hz => ?_, fun q => absurd q (by decide)⟩
  have hcl := clampI h0
  have hj' : (j : Int) < (st 0 16).toInt := hj
  have hz' : st 15 j = 0 := by rw [mch_p st v 15 (by decide)] at hz; exact hz
  have ne : ¬ j = Int32.toNatClampNeg (st 0 16) := by omega
  have e : mch st v 16 j = st 16 j := by simp [mch, u2, ne]
  rw [e]
  exact h.1 j hj' hz'
theorem rd_same {due : Int32} {st : Nat → Nat → Int32} (h0 : 0 ≤ (st 0 16).toInt) (h : rdOK due st) (r v : Int32) (hr : r = 1 → 0 ≤ v.toInt ∧ v.toInt < 6) : rdP st (r, mch st v) :=
  ⟨rfl, rfl, fun k _ => rfl, fun p _ _ q => mch_p st v p q, Or.inl rfl, (mch_OK h0 h v).1, fun e => by show 0 ≤ (mch st v 16 (mch st v 0 16).toNatClampNeg).toInt ∧ (mch st v 16 (mch st v 0 16).toNatClampNeg).toInt < 6; rw [mch_m]; exact hr e⟩
theorem begin_rd {due : Int32} (c : Int32) (st : Nat → Nat → Int32) (h0 : 0 ≤ (st 0 16).toInt) (h1 : (st 0 16).toInt < 60) (h : rdOK due st) : rdP st (f_X7_begin c st) := by
  unfold f_X7_begin
  simp only [lt_]
  refine jnP (fun j => ∀ v : Int32, (¬ f_X7_in (Int32.toInt64 c) 65 70 = 0 → 0 ≤ v.toInt ∧ v.toInt < 6) → rdP st (j v)) (fun v hv => ?_) (fun j hj => ?_)
  · split
    · exact rd_close st h0 h1 5 (mch st v) (mch_s st v) (fun p _ _ q => mch_p st v p q) (mch_OK h0 h v) (fun q => absurd q (by decide))
    · split
      · exact rd_close st h0 h1 4 (mch st v) (mch_s st v) (fun p _ _ q => mch_p st v p q) (mch_OK h0 h v) (fun q => absurd q (by decide))
      · split
        · exact rd_same h0 h 3 v (fun q => absurd q (by decide))
        · split
          · exact rd_same h0 h 2 v (fun q => absurd q (by decide))
          · split
            · exact rd_same h0 h (-6) v (fun q => absurd q (by decide))
            · rename_i hy
              exact rd_same h0 h 1 v (fun _ => hv hy)
  · split
    · rename_i hy
      exact hj 0 (fun q => absurd hy q)
    · rename_i hy
      have a := in_nz hy
      have k65 : (65 : Int64).toInt = 65 := by decide
      have k70 : (70 : Int64).toInt = 70 := by decide
      have k65' : (65 : Int32).toInt = 65 := by decide
      have ec : (c - 65).toInt = c.toInt - 65 := ti_sub (by rw [k65']) (by omega) (by omega)
      exact hj (c - 65) (fun _ => by rw [ec]; omega)
theorem digit_rd {due : Int32} (d c : Int32) (st : Nat → Nat → Int32) (h0 : 0 ≤ (st 0 16).toInt) (h1 : (st 0 16).toInt < 60) (h : rdOK due st) : rdP st (f_X7_digit d c st) := by
  unfold f_X7_digit
  simp only [lt_]
  split
  · exact rd_same h0 h (-6) _ (fun q => absurd q (by decide))
  · refine jnP (fun j => ∀ w : Int32, ¬ w = 0 → rdP st (j w)) (fun w hw => ?_) (fun j hj => ?_)
    · exact rd_close st h0 h1 w (mch st (c - 48)) (mch_s st _) (fun p _ _ q => mch_p st _ p q) (mch_OK h0 h _) (fun q => absurd q hw)
    · split
      · exact hj 2 (by decide)
      · exact hj 3 (by decide)
theorem readOn_fr (due c : Int32) (st : Nat → Nat → Int32) (h0 : 0 ≤ (st 0 16).toInt) (h1 : (st 0 16).toInt < 60) (h : rdOK due st) : rdP st (f_X7_readOn due c st) := by
  unfold f_X7_readOn
  split
  · exact begin_rd c st h0 h1 h
  · split
    · rename_i hd
      split
      · exact rd_close st h0 h1 0 st (fun _ => rfl) (fun _ _ _ _ => rfl) ⟨h.1, fun q => absurd q (by decide)⟩ (fun _ => h.2 hd)
      · split
        · exact rd_close st h0 h1 1 st (fun _ => rfl) (fun _ _ _ _ => rfl) ⟨h.1, fun q => absurd q (by decide)⟩ (fun q => absurd q (by decide))
        · exact ⟨rfl, rfl, fun _ _ => rfl, fun _ _ _ _ => rfl, Or.inl rfl, h.1, fun q => absurd (show (-6 : Int32) = 1 from q) (by decide)⟩
    · exact digit_rd due c st h0 h1 h
theorem rdOK_0 (st : Nat → Nat → Int32) : rdOK 0 (u2 st 0 16 0) := by
  refine ⟨fun j hj _ => ?_, fun q => absurd q (by decide)⟩
  have e : Int32.toInt (u2 st 0 16 (0 : Int32) 0 16) = 0 := by show Int32.toInt (0 : Int32) = 0; decide
  omega
theorem keep_fr (st : Nat → Nat → Int32) : ∀ p, p ≠ 21 → f_X7_keepNow st p = st p := by
  intro p hp
  simp [f_X7_keepNow, lt_, u2, hp]
/-- behind a text that is read: the acts, each climb's watcher -/
def fltP (st : Nat → Nat → Int32) (r : Int32 × (Nat → Nat → Int32)) : Prop := (0 ≤ Int32.toInt (r.2 0 16) ∧ Int32.toInt (r.2 0 16) ≤ 60) ∧ r.2 0 4 = st 0 4 ∧ (∀ j : Nat, (j : Int) < Int32.toInt (r.2 0 16) → r.2 15 j = 0 → 0 ≤ Int32.toInt (r.2 16 j) ∧ Int32.toInt (r.2 16 j) < 6) ∧ (∀ k, k ≠ 16 → r.2 0 k = st 0 k) ∧ ∀ p, p ≠ 0 → p ≠ 15 → p ≠ 16 → r.2 p = st p
theorem fault_L_post (st0 : Nat → Nat → Int32) (k : Int32 → (Nat → Nat → Int32) → (Int32 × (Nat → Nat → Int32))) (hk : ∀ due st, fltP st0 (0, st) → fltP st0 (k due st)) : ∀ (n : Nat) (i due : Int32) (st : Nat → Nat → Int32), 0 ≤ i.toInt → Int32.toInt (st 0 13) ≤ 60 → (0 ≤ Int32.toInt (st 0 16) ∧ Int32.toInt (st 0 16) ≤ i.toInt) → rdOK due st → i.toInt ≤ 60 → st 0 4 = st0 0 4 → (∀ k, k ≠ 16 → st 0 k = st0 0 k) → (∀ p, p ≠ 0 → p ≠ 15 → p ≠ 16 → st p = st0 p) → fltP st0 (f_X7_fault_L9 k n i due st) := by
  intro n
  have k1 : (1 : Int32).toInt = 1 := by decide
  induction n with
  | zero =>
    intro i due st h0 hp ha hr hi h4 h5 h6
    exact hk due st ⟨⟨ha.1, by show Int32.toInt (st 0 16) ≤ 60; omega⟩, h4, hr.1, h5, h6⟩
  | succ n ih =>
    intro i due st h0 hp ha hr hi h4 h5 h6
    unfold f_X7_fault_L9
    simp only [lt_]
    split
    · exact hk due st ⟨⟨ha.1, by show Int32.toInt (st 0 16) ≤ 60; omega⟩, h4, hr.1, h5, h6⟩
    · rename_i hc
      have hc' := ti_nle hc
      have g := readOn_fr due (st 13 (Int32.toNatClampNeg i)) st ha.1 (by omega) hr
      have ga : 0 ≤ Int32.toInt ((f_X7_readOn due (st 13 (Int32.toNatClampNeg i)) st).2 0 16) ∧ Int32.toInt ((f_X7_readOn due (st 13 (Int32.toNatClampNeg i)) st).2 0 16) ≤ i.toInt + 1 := by
        rcases g.2.2.2.2.1 with q | q
        · rw [q]; omega
        · rw [q, show Int32.toInt (st 0 16 + (1 : Int32)) = Int32.toInt (st 0 16) + 1 from ti_add (by rw [k1]) (by omega) (by omega)]; omega
      split
      · have ei : Int32.toInt (i + 1) = i.toInt + 1 := ti_add (by rw [k1]) (by omega) (by omega)
        exact ih (i + 1) _ _ (by omega) (by rw [g.1]; exact hp) (by omega) g.2.2.2.2.2 (by omega) (by rw [g.2.1]; exact h4) (fun k hk => (g.2.2.1 k hk).trans (h5 k hk)) (fun p p0 p15 p16 => (g.2.2.2.1 p p0 p15 p16).trans (h6 p p0 p15 p16))
      · exact ⟨⟨ga.1, by have := ga.2; show Int32.toInt ((f_X7_readOn due (st 13 (Int32.toNatClampNeg i)) st).2 0 16) ≤ 60; omega⟩, by show (f_X7_readOn due (st 13 (Int32.toNatClampNeg i)) st).2 0 4 = _; rw [g.2.1]; exact h4, g.2.2.2.2.2.1, fun k hk => (g.2.2.1 k hk).trans (h5 k hk), fun p p0 p15 p16 => (g.2.2.2.1 p p0 p15 p16).trans (h6 p p0 p15 p16)⟩
theorem fault_post (st : Nat → Nat → Int32) (h : 0 ≤ Int32.toInt (st 0 13) ∧ Int32.toInt (st 0 13) ≤ 60) : fltP st (f_X7_fault st) := by
  unfold f_X7_fault
  have e : Int32.toInt (u2 st 0 16 (0 : Int32) 0 16) = 0 := by show Int32.toInt (0 : Int32) = 0; decide
  refine fault_L_post st _ ?_ 60 0 0 _ (by decide) h.2 (by rw [e]; decide) (rdOK_0 st) (by decide) rfl (fun k hk => by simp [u2, hk]) (fun p p0 _ _ => by simp [u2, p0])
  intro due s1 hs
  split
  · exact hs
  · exact hs
theorem goV_post (k : (Nat → Nat → Int32) → (Nat → Nat → Int32)) (hk : ∀ st : Nat → Nat → Int32, Int32.toInt (st 0 4) < 6 → Int32.toInt (k st 0 4) < 6) (N : Int) (a15 a16 : Nat → Int32) (hcl : ∀ j : Nat, (j : Int) < N → a15 j = 0 → 0 ≤ Int32.toInt (a16 j) ∧ Int32.toInt (a16 j) < 6) : ∀ (n : Nat) (e : Int32) (st : Nat → Nat → Int32), 0 ≤ e.toInt → e.toInt ≤ 60 → Int32.toInt (st 0 16) = N → N ≤ 60 → Int32.toInt (st 0 4) < 6 → st 15 = a15 → st 16 = a16 → Int32.toInt (f_X7_goVoyages_L35 k n e st 0 4) < 6 := by
  intro n
  have k1 : (1 : Int32).toInt = 1 := by decide
  induction n with
  | zero => intro e st _ _ _ _ hw _ _; exact hk st hw
  | succ n ih =>
    intro e st h0 h60 hN hN6 hw h15 h16
    unfold f_X7_goVoyages_L35
    split
    · exact hk st hw
    · rename_i hc
      have hc' := ti_nle hc
      split
      · exact hk st hw
      · have ee : Int32.toInt (e + 1) = e.toInt + 1 := ti_add (by rw [k1]) (by omega) (by omega)
        have fin : ∀ t : Nat → Nat → Int32, Int32.toInt (t 0 16) = N → Int32.toInt (t 0 4) < 6 → t 15 = a15 → t 16 = a16 → ∀ v : Int32, Int32.toInt (f_X7_goVoyages_L35 k n (e + 1) (u2 t 0 23 v) 0 4) < 6 := fun t t1 t2 t3 t4 v => ih (e + 1) (u2 t 0 23 v) (by omega) (by omega) t1 hN6 t2 t3 t4
        have hap : ∀ v1 v2 : Int32, Int32.toInt (f_X7_happen (st 15 (Int32.toNatClampNeg e)) (st 16 (Int32.toNatClampNeg e)) (u2 (u2 st 0 21 v1) 0 22 v2) 0 16) = N ∧ Int32.toInt (f_X7_happen (st 15 (Int32.toNatClampNeg e)) (st 16 (Int32.toNatClampNeg e)) (u2 (u2 st 0 21 v1) 0 22 v2) 0 4) < 6 ∧ f_X7_happen (st 15 (Int32.toNatClampNeg e)) (st 16 (Int32.toNatClampNeg e)) (u2 (u2 st 0 21 v1) 0 22 v2) 15 = a15 ∧ f_X7_happen (st 15 (Int32.toNatClampNeg e)) (st 16 (Int32.toNatClampNeg e)) (u2 (u2 st 0 21 v1) 0 22 v2) 16 = a16 := by
          intro v1 v2
          have g := happen_fr (st 15 (Int32.toNatClampNeg e)) (st 16 (Int32.toNatClampNeg e)) (u2 (u2 st 0 21 v1) 0 22 v2)
          refine ⟨by rw [g.2.1]; exact hN, ?_, (g.1 15 (by decide)).trans h15, (g.1 16 (by decide)).trans h16⟩
          rcases g.2.2.2 with q | ⟨q0, q⟩ | q
          · rw [q]; exact hw
          · rw [q, h16]; rw [h15] at q0
            exact (hcl _ (by rw [clampI h0]; omega) q0).2
          · rw [q]; decide
        simp only [lt_]
        refine jnP (P := fun r : Nat → Nat → Int32 => Int32.toInt (r 0 4) < 6) (fun j => ∀ z78 : Int32, Int32.toInt (j z78 0 4) < 6) (fun z78 => ?_) (fun j78 h78 => ?_)
        · refine jnP (P := fun r : Nat → Nat → Int32 => Int32.toInt (r 0 4) < 6) (fun j => ∀ z92 : Int32, Int32.toInt (j z92 0 4) < 6) (fun z92 => ?_) (fun j92 h92 => ?_)
          · refine jnP (P := fun r : Nat → Nat → Int32 => Int32.toInt (r 0 4) < 6) (fun j => ∀ t : Nat → Nat → Int32, Int32.toInt (t 0 16) = N → Int32.toInt (t 0 4) < 6 → t 15 = a15 → t 16 = a16 → Int32.toInt (j t 0 4) < 6) (fun t t1 t2 t3 t4 => ?_) (fun j115 h115 => ?_)
            · refine jnP (P := fun r : Nat → Nat → Int32 => Int32.toInt (r 0 4) < 6) (fun j => ∀ z : Int32, Int32.toInt (j z 0 4) < 6) (fun z => fin t t1 t2 t3 t4 z) (fun j138 h138 => ?_)
              refine jnP (P := fun r : Nat → Nat → Int32 => Int32.toInt (r 0 4) < 6) (fun j => Int32.toInt (j () 0 4) < 6) (h138 _) (fun j134 h134 => ?_)
              show Int32.toInt ((ite _ _ _ : Nat → Nat → Int32) 0 4) < 6
              split
              · exact h134
              · split
                · exact h134
                · exact h138 _
            · show Int32.toInt ((ite _ _ _ : Nat → Nat → Int32) 0 4) < 6
              split
              · exact h115 _ (hap z78 z92).1 (hap z78 z92).2.1 (hap z78 z92).2.2.1 (hap z78 z92).2.2.2
              · exact h115 _ hN hw h15 h16
          · show Int32.toInt ((ite _ _ _ : Nat → Nat → Int32) 0 4) < 6
            split
            · exact h92 _
            · exact h92 _
        · show Int32.toInt ((ite _ _ _ : Nat → Nat → Int32) 0 4) < 6
          split
          · exact h78 _
          · exact h78 _
theorem refusal_post (st : Nat → Nat → Int32) (h : 0 ≤ Int32.toInt (st 0 13) ∧ Int32.toInt (st 0 13) ≤ 60) (hw : Int32.toInt (st 0 4) < 6) : Int32.toInt ((f_X7_refusal st).2 0 4) < 6 := by
  have g1 := keep_fr st
  have g := fault_post (f_X7_keepNow st) (by rw [g1 0 (by decide)]; exact h)
  have hw5 : Int32.toInt ((f_X7_fault (f_X7_keepNow st)).2 0 4) < 6 := by rw [g.2.1, g1 0 (by decide)]; exact hw
  unfold f_X7_refusal
  simp only [lt_]
  have go : Int32.toInt (f_X7_goVoyages (f_X7_fault (f_X7_keepNow st)).2 0 4) < 6 := by
    unfold f_X7_goVoyages
    exact goV_post _ (fun _ h => h) _ _ _ g.2.2.1 60 0 _ (by decide) (by decide) rfl g.1.2 hw5 rfl rfl
  split
  · split
    · exact go
    · exact go
  · exact hw5
/-- cells that no step has reached -/
def ucnt (st : Nat → Nat → Int32) : Nat → Nat | 0 => 0 | k + 1 => ucnt st k + (if st 25 k < 0 then 1 else 0)
theorem ucnt_le (st : Nat → Nat → Int32) : ∀ k, ucnt st k ≤ k
  | 0 => Nat.le_refl 0
  | k + 1 => by
    have := ucnt_le st k
    unfold ucnt
    split <;> omega
theorem ucnt_same {st st' : Nat → Nat → Int32} : ∀ {k : Nat}, (∀ j, j < k → st' 25 j = st 25 j) → ucnt st' k = ucnt st k
  | 0, _ => rfl
  | k + 1, h => by
    have a := ucnt_same (st := st) (st' := st') (k := k) (fun j hj => h j (by omega))
    unfold ucnt
    rw [a, h k (by omega)]
theorem ucnt_upd {st : Nat → Nat → Int32} {c : Nat} {v : Int32} : ∀ {k : Nat}, c < k → ucnt (u2 st 25 c v) k + (if st 25 c < 0 then 1 else 0) = ucnt st k + (if v < 0 then 1 else 0)
  | 0, h => absurd h (Nat.not_lt_zero _)
  | k + 1, h => by
    unfold ucnt
    by_cases e : c = k
    · subst e
      have a : ucnt (u2 st 25 c v) c = ucnt st c := ucnt_same (fun j hj => by simp [u2, Nat.ne_of_lt hj])
      have b : u2 st 25 c v 25 c = v := by simp [u2]
      rw [a, b]
      omega
    · have a := ucnt_upd (st := st) (c := c) (v := v) (k := k) (by omega)
      have b : u2 st 25 c v 25 k = st 25 k := by simp [u2, Ne.symm e]
      rw [b]
      omega
theorem osm_L (many : Int32) (hm : ¬ many < 0) (st0 : Nat → Nat → Int32) (k : Int32 → (Nat → Nat → Int32) → (Int32 × (Nat → Nat → Int32))) (hk : ∀ any st, (any = 0 ∨ ucnt st 64 < ucnt st0 64) → ((k any st).1 = 0 ∨ ucnt (k any st).2 64 < ucnt st0 64)) : ∀ (n : Nat) (c any : Int32) (st : Nat → Nat → Int32), 0 ≤ c.toInt → ucnt st 64 ≤ ucnt st0 64 → (any = 0 ∨ ucnt st 64 < ucnt st0 64) → ((f_X7_oneStepMore_L4 many k n c any st).1 = 0 ∨ ucnt (f_X7_oneStepMore_L4 many k n c any st).2 64 < ucnt st0 64) := by
  intro n
  have k1 : (1 : Int32).toInt = 1 := by decide
  have k64 : (64 : Int32).toInt = 64 := by decide
  induction n with
  | zero => intro c any st _ _ h; exact hk any st h
  | succ n ih =>
    intro c any st h0 hle h
    unfold f_X7_oneStepMore_L4
    split
    · exact hk any st h
    · rename_i hc
      have hc' := ti_nle hc
      have ec : Int32.toInt (c + 1) = c.toInt + 1 := ti_add (by rw [k1]) (by omega) (by omega)
      have hcl : Int32.toNatClampNeg c < 64 := by have := clampI h0; omega
      simp only [lt_, jn_]
      have keep : ∀ a : Int32, (a = 0 ∨ ucnt st 64 < ucnt st0 64) → ((f_X7_oneStepMore_L4 many k n (c + 1) a (u2 st 25 (Int32.toNatClampNeg c) (st 25 (Int32.toNatClampNeg c)))).1 = 0 ∨ ucnt (f_X7_oneStepMore_L4 many k n (c + 1) a (u2 st 25 (Int32.toNatClampNeg c) (st 25 (Int32.toNatClampNeg c)))).2 64 < ucnt st0 64) := by
        intro a ha
        have u := ucnt_upd (st := st) (c := Int32.toNatClampNeg c) (v := st 25 (Int32.toNatClampNeg c)) hcl
        exact ih (c + 1) a _ (by omega) (by omega) (by rcases ha with q | q; exact Or.inl q; exact Or.inr (by omega))
      have grow : st 25 (Int32.toNatClampNeg c) < 0 → ∀ a : Int32, ((f_X7_oneStepMore_L4 many k n (c + 1) a (u2 st 25 (Int32.toNatClampNeg c) many)).1 = 0 ∨ ucnt (f_X7_oneStepMore_L4 many k n (c + 1) a (u2 st 25 (Int32.toNatClampNeg c) many)).2 64 < ucnt st0 64) := by
        intro hneg a
        have u := ucnt_upd (st := st) (c := Int32.toNatClampNeg c) (v := many) hcl
        rw [if_pos hneg, if_neg hm] at u
        exact ih (c + 1) a _ (by omega) (by omega) (Or.inr (by omega))
      have neg : ¬ 0 ≤ st 25 (Int32.toNatClampNeg c) → st 25 (Int32.toNatClampNeg c) < 0 := by
        intro q
        have := ti_nle q
        exact Int32.lt_iff_toInt_lt.mpr this
      by_cases q1 : 0 ≤ st 25 (Int32.toNatClampNeg c)
      · simp only [if_pos q1]
        by_cases q2 : any = 0
        · simp only [if_pos q2, if_true]
          exact keep 0 (Or.inl rfl)
        · simp only [if_neg q2, if_true]
          exact keep 1 (by rcases h with w | w; exact absurd w q2; exact Or.inr w)
      · simp only [if_neg q1]
        by_cases q3 : st 1 (Int32.toNatClampNeg c) = 0
        · simp only [if_pos q3]
          by_cases q4 : f_X7_wayTo c (many - 1) st < 0
          · simp only [if_pos q4]
            by_cases q2 : any = 0
            · simp only [if_pos q2, if_true]
              exact keep 0 (Or.inl rfl)
            · simp only [if_neg q2, if_true]
              exact keep 1 (by rcases h with w | w; exact absurd w q2; exact Or.inr w)
          · simp only [if_neg q4]
            have e1 : ¬ (1 : Int32) = 0 := by decide
            by_cases q2 : any = 0
            · simp only [if_pos q2, if_neg e1]
              exact grow (neg q1) 1
            · simp only [if_neg q2, if_neg e1]
              exact grow (neg q1) 1
        · simp only [if_neg q3]
          by_cases q2 : any = 0
          · simp only [if_pos q2, if_true]
            exact keep 0 (Or.inl rfl)
          · simp only [if_neg q2, if_true]
            exact keep 1 (by rcases h with w | w; exact absurd w q2; exact Or.inr w)
theorem osm_post (many : Int32) (st : Nat → Nat → Int32) (hm : 1 ≤ many.toInt) : (f_X7_oneStepMore many st).1 = 0 ∨ ucnt (f_X7_oneStepMore many st).2 64 < ucnt st 64 := by
  unfold f_X7_oneStepMore
  refine osm_L many (fun q => ?_) st _ (fun any s1 h => h) 64 0 0 st (by decide) (Nat.le_refl _) (Or.inl rfl)
  have := ti_lt q
  have k0 : (0 : Int32).toInt = 0 := by decide
  omega
/-- a ray leaves the sea -/
def offA : Nat → Int32 → Int32 → Bool | 0, c, _ => decide (c < 0) | n + 1, c, w => decide (c < 0) || offA n (f_X7_ahead c w) w
theorem off_0 {z w : Int32} (h : offA 0 z w = true) : z < 0 := of_decide_eq_true h
theorem off_s {n : Nat} {z w y : Int32} (h : offA (n + 1) z w = true) (hz : ¬ z < 0) (e : y = f_X7_ahead z w) : offA n y w = true := by
  rw [e]
  unfold offA at h
  rw [Bool.or_eq_true] at h
  rcases h with h | h
  · exact absurd (of_decide_eq_true h) hz
  · exact h
theorem off_dec : ∀ c, c < 64 → ∀ w, w < 8 → offA 8 (f_X7_ahead (nI c) (nI w)) (nI w) = true := by decide +kernel
theorem nI_ofI {x : Int32} {n : Nat} (h0 : 0 ≤ x.toInt) (h1 : x.toInt < n) (hn : n < 2 ^ 31) : ∃ j : Nat, j < n ∧ x = nI j := vp_in_of (vin h0 h1) hn
theorem off_8 {x w y : Int32} (hc : 0 ≤ x.toInt ∧ x.toInt < 64) (hw : 0 ≤ w.toInt ∧ w.toInt < 8) (e : y = f_X7_ahead x w) : offA 8 y w = true := by
  obtain ⟨c, hc1, rfl⟩ := nI_ofI (n := 64) hc.1 (by omega) (by decide)
  obtain ⟨v, hv1, rfl⟩ := nI_ofI (n := 8) hw.1 (by omega) (by decide)
  rw [e]
  exact off_dec c hc1 v hv1
theorem shl_dec : ∀ n, n < 10 → 1 ≤ n → 1 ≤ Int32.toInt (jshl 1 (nI n)) ∧ Int32.toInt (jshl 1 (nI n)) ≤ 512 := by decide +kernel
theorem shl_rng {x : Int32} (h : 1 ≤ x.toInt ∧ x.toInt ≤ 9) : 1 ≤ Int32.toInt (jshl 1 x) ∧ Int32.toInt (jshl 1 x) ≤ 512 := by
  obtain ⟨n, hn, rfl⟩ := nI_ofI (x := x) (n := 10) (by omega) (by omega) (by decide)
  have := nI_toInt (n := n) (by omega)
  exact shl_dec n hn (by omega)
theorem nI_and (a b : Nat) : nI a &&& nI b = nI (a &&& b) := by
  apply Int32.toBitVec_inj.mp
  apply BitVec.eq_of_toNat_eq
  rw [Int32.toBitVec_and, BitVec.toNat_and]
  show (BitVec.ofNat 32 a).toNat &&& (BitVec.ofNat 32 b).toNat = (BitVec.ofNat 32 (a &&& b)).toNat
  simp only [BitVec.toNat_ofNat]
  exact (Nat.and_mod_two_pow).symm
theorem and_in {a b : Int32} (h0 : 0 ≤ a.toInt) (h1 : a.toInt < 512) : vp_in (a &&& b) 512 := by
  obtain ⟨n, hn, rfl⟩ := nI_ofI (n := 512) h0 (by omega) (by decide)
  have hb : b = nI b.toBitVec.toNat := by
    apply Int32.toBitVec_inj.mp
    apply BitVec.eq_of_toNat_eq
    rw [pk_tn (by have := b.toBitVec.isLt; omega)]
  rw [hb, nI_and]
  have hle : n &&& b.toBitVec.toNat ≤ n := Nat.and_le_left
  exact vp_in_nI (by omega) (by decide)
theorem fits_L (k : (Nat → Nat → Int32) → (Nat → Nat → Int32)) (P : (Nat → Nat → Int32) → Prop) (hk : ∀ st : Nat → Nat → Int32, 0 ≤ Int32.toInt (st 0 28) ∧ Int32.toInt (st 0 28) ≤ 64 → P (k st)) : ∀ (n : Nat) (c : Int32) (st : Nat → Nat → Int32), 0 ≤ c.toInt → c.toInt ≤ 64 → 0 ≤ Int32.toInt (st 0 28) ∧ Int32.toInt (st 0 28) ≤ c.toInt → P (f_X7_findFits_L7 k n c st) := by
  intro n
  have k1 : (1 : Int32).toInt = 1 := by decide
  have k64 : (64 : Int32).toInt = 64 := by decide
  induction n with
  | zero => intro c st h0 h64 h; exact hk st (by omega)
  | succ n ih =>
    intro c st h0 h64 h
    unfold f_X7_findFits_L7
    split
    · exact hk st (by omega)
    · rename_i hc
      have hc' := ti_nle hc
      have ec : Int32.toInt (c + 1) = c.toInt + 1 := ti_add (by rw [k1]) (by omega) (by omega)
      simp only [lt_, jn_]
      split
      · exact ih (c + 1) st (by omega) (by omega) (by omega)
      · refine ih (c + 1) _ (by omega) (by omega) ?_
        have e : Int32.toInt (st 0 28 + 1) = Int32.toInt (st 0 28) + 1 := ti_add (by rw [k1]) (by omega) (by omega)
        show 0 ≤ Int32.toInt (st 0 28 + 1) ∧ Int32.toInt (st 0 28 + 1) ≤ _
        omega
theorem fits_post (st : Nat → Nat → Int32) (hs : 0 ≤ Int32.toInt (st 0 11) ∧ Int32.toInt (st 0 11) ≤ 8) : 0 ≤ Int32.toInt (f_X7_findFits st 0 28) ∧ Int32.toInt (f_X7_findFits st 0 28) ≤ 64 := by
  unfold f_X7_findFits
  exact fits_L _ (fun r => 0 ≤ Int32.toInt (r 0 28) ∧ Int32.toInt (r 0 28) ≤ 64) (fun _ h => h) 64 0 _ (by decide) (by decide) (by show 0 ≤ Int32.toInt (0 : Int32) ∧ Int32.toInt (0 : Int32) ≤ Int32.toInt (0 : Int32); decide)
theorem i64_tdiv_mod {a b : Int} (ha : 0 ≤ a) (hb : 0 < b) : a - a.tdiv b * b = a % b := by
  rw [Int.tdiv_eq_ediv_of_nonneg ha]
  have := Int.emod_add_mul_ediv a b
  have e : a / b * b = b * (a / b) := Int.mul_comm _ _
  omega
theorem bmod64 {z : Int} (h1 : -9223372036854775808 ≤ z) (h2 : z < 9223372036854775808) : z.bmod (2 ^ 64) = z := by rw [Int.bmod_eq_of_le] <;> omega
theorem tl_add {x y : Int64} {z : Int} (h : x.toInt + y.toInt = z) (h1 : -9223372036854775808 ≤ z) (h2 : z < 9223372036854775808) : (x + y).toInt = z := by rw [Int64.toInt_add, h, bmod64 h1 h2]
theorem tl_sub {x y : Int64} {z : Int} (h : x.toInt - y.toInt = z) (h1 : -9223372036854775808 ≤ z) (h2 : z < 9223372036854775808) : (x - y).toInt = z := by rw [Int64.toInt_sub, h, bmod64 h1 h2]
theorem tl_mul {x y : Int64} {z : Int} (h : x.toInt * y.toInt = z) (h1 : -9223372036854775808 ≤ z) (h2 : z < 9223372036854775808) : (x * y).toInt = z := by rw [Int64.toInt_mul, h, bmod64 h1 h2]
theorem tl_div {x y : Int64} (h0 : 0 ≤ x.toInt) (h1 : 0 < y.toInt) : (x / y).toInt = x.toInt / y.toInt := by
  rw [Int64.toInt_div, Int.tdiv_eq_ediv_of_nonneg h0]
  have a := Int64.toInt_lt x
  have b : x.toInt / y.toInt ≤ x.toInt := Int.ediv_le_self _ h0
  have c : 0 ≤ x.toInt / y.toInt := Int.ediv_nonneg h0 (by omega)
  exact bmod64 (by omega) (by omega)
theorem jrL_rng {a b : Int64} (ha : 0 ≤ a.toInt) (hb : 0 < b.toInt) : (jrL a b).toInt = a.toInt % b.toInt ∧ 0 ≤ (jrL a b).toInt ∧ (jrL a b).toInt < b.toInt := by
  have e1 := tl_div ha hb
  have q0 : 0 ≤ a.toInt / b.toInt := Int.ediv_nonneg ha (by omega)
  have m := Int.emod_add_mul_ediv a.toInt b.toInt
  have m0 := Int.emod_nonneg a.toInt (show b.toInt ≠ 0 by omega)
  have m1 := Int.emod_lt_of_pos a.toInt hb
  have al := Int64.toInt_lt a
  have c1 : a.toInt / b.toInt * b.toInt = b.toInt * (a.toInt / b.toInt) := Int.mul_comm _ _
  have p0 : 0 ≤ b.toInt * (a.toInt / b.toInt) := Int.mul_nonneg (by omega) q0
  have e2 : (a / b * b).toInt = a.toInt / b.toInt * b.toInt := tl_mul (by rw [e1]) (by omega) (by omega)
  have e3 : (a - a / b * b).toInt = a.toInt % b.toInt := tl_sub (by rw [e2]; omega) (by omega) (by omega)
  exact ⟨e3, by rw [show (jrL a b).toInt = (a - a / b * b).toInt from rfl, e3]; exact m0, by rw [show (jrL a b).toInt = (a - a / b * b).toInt from rfl, e3]; exact m1⟩
theorem jr_rng {a b : Int32} (ha : 0 ≤ a.toInt) (hb : 0 < b.toInt) : (jr a b).toInt = a.toInt % b.toInt ∧ 0 ≤ (jr a b).toInt ∧ (jr a b).toInt < b.toInt := by
  have al := ti_rng a
  have b1 : a.toInt / b.toInt ≤ a.toInt := Int.ediv_le_self _ ha
  have q0 : 0 ≤ a.toInt / b.toInt := Int.ediv_nonneg ha (by omega)
  have e1 : (a / b).toInt = a.toInt / b.toInt := by
    rw [Int32.toInt_div, Int.tdiv_eq_ediv_of_nonneg ha]
    exact ti_bmod (by omega) (by omega)
  have m := Int.emod_add_mul_ediv a.toInt b.toInt
  have m0 := Int.emod_nonneg a.toInt (show b.toInt ≠ 0 by omega)
  have m1 := Int.emod_lt_of_pos a.toInt hb
  have c1 : a.toInt / b.toInt * b.toInt = b.toInt * (a.toInt / b.toInt) := Int.mul_comm _ _
  have p0 : 0 ≤ b.toInt * (a.toInt / b.toInt) := Int.mul_nonneg (by omega) q0
  have e2 : (a / b * b).toInt = a.toInt / b.toInt * b.toInt := ti_mul (by rw [e1]) (by omega) (by omega)
  have e3 : (a - a / b * b).toInt = a.toInt % b.toInt := ti_sub (by rw [e2]; omega) (by omega) (by omega)
  exact ⟨e3, by rw [show (jr a b).toInt = (a - a / b * b).toInt from rfl, e3]; exact m0, by rw [show (jr a b).toInt = (a - a / b * b).toInt from rfl, e3]; exact m1⟩
theorem ti_div {a b : Int32} (ha : 0 ≤ a.toInt) (hb : 0 < b.toInt) : (a / b).toInt = a.toInt / b.toInt := by
  have al := ti_rng a
  have b1 : a.toInt / b.toInt ≤ a.toInt := Int.ediv_le_self _ ha
  have q0 : 0 ≤ a.toInt / b.toInt := Int.ediv_nonneg ha (by omega)
  rw [Int32.toInt_div, Int.tdiv_eq_ediv_of_nonneg ha]
  exact ti_bmod (by omega) (by omega)
/-- a remainder by 6 is less than 6, whatever the sign -/
theorem jr6_lt (x : Int32) : Int32.toInt (jr x 6) < 6 := by
  have k6 : (6 : Int32).toInt = 6 := by decide
  have r := ti_rng x
  by_cases q : 0 ≤ x.toInt
  · have := jr_rng (a := x) (b := 6) q (by omega)
    omega
  · have h : x.toInt.tdiv 6 = -((-x.toInt) / 6) := by
      rw [← Int.tdiv_eq_ediv_of_nonneg (by omega), ← Int.neg_tdiv, Int.neg_neg]
    have e1 : (x / 6).toInt = -((-x.toInt) / 6) := by
      rw [Int32.toInt_div, k6, h]
      exact ti_bmod (by omega) (by omega)
    have e2 : (x / 6 * 6).toInt = -((-x.toInt) / 6) * 6 := ti_mul (by rw [e1, k6]) (by omega) (by omega)
    have e3 : (x - x / 6 * 6).toInt = x.toInt - -((-x.toInt) / 6) * 6 := ti_sub (by rw [e2]) (by omega) (by omega)
    show (x - x / 6 * 6).toInt < 6
    rw [e3]; omega
theorem lcg_rng {x : Int32} (h : 0 ≤ x.toInt ∧ x.toInt < 65537) : 0 ≤ Int32.toInt (Int64.toInt32 (jrL (((75 : Int64) * (Int32.toInt64 x)) + (74 : Int64)) (65537 : Int64))) ∧ Int32.toInt (Int64.toInt32 (jrL (((75 : Int64) * (Int32.toInt64 x)) + (74 : Int64)) (65537 : Int64))) < 65537 := by
  have k75 : (75 : Int64).toInt = 75 := by decide
  have k74 : (74 : Int64).toInt = 74 := by decide
  have k65 : (65537 : Int64).toInt = 65537 := by decide
  have e0 := toI64 x
  have e1 : ((75 : Int64) * (Int32.toInt64 x)).toInt = 75 * x.toInt := tl_mul (by rw [k75, e0]) (by omega) (by omega)
  have e2 : ((75 : Int64) * (Int32.toInt64 x) + 74).toInt = 75 * x.toInt + 74 := tl_add (by rw [e1, k74]) (by omega) (by omega)
  have g := jrL_rng (a := (75 : Int64) * (Int32.toInt64 x) + 74) (b := 65537) (by omega) (by omega)
  rw [Int64.toInt_toInt32, ti_bmod (by omega) (by omega)]
  omega
/-- three who share what comes to ten to the so manieth -/
def fI (e : Int32) (one other nob : Int64) : Prop := ∃ j : Nat, j ≤ 16 ∧ e.toInt = j ∧ 0 ≤ one.toInt ∧ 0 ≤ other.toInt ∧ 0 ≤ nob.toInt ∧ one.toInt + other.toInt + nob.toInt = 10 ^ j
def fJ (one other nob : Int64) : Prop := 0 ≤ one.toInt ∧ 0 ≤ other.toInt ∧ 0 ≤ nob.toInt ∧ 0 < ((one + other) + nob).toInt
theorem fI_0 : fI 0 0 0 1 := ⟨0, by decide, by decide, by decide, by decide, by decide, by decide⟩
theorem p10_le {j : Nat} (h : j ≤ 16) : (0 : Int) < 10 ^ j ∧ (10 : Int) ^ j ≤ 10 ^ 16 := ⟨Int.pow_pos (by decide), by
  have : (10 : Nat) ^ j ≤ 10 ^ 16 := Nat.pow_le_pow_right (by decide) h
  exact_mod_cast this⟩
theorem fJ_of {e : Int32} {one other nob : Int64} (h : fI e one other nob) : fJ one other nob := by
  obtain ⟨j, hj, -, h1, h2, h3, hs⟩ := h
  obtain ⟨p0, p1⟩ := p10_le hj
  have P : (10 : Int) ^ 16 = 10000000000000000 := by decide
  have e1 : (one + other).toInt = one.toInt + other.toInt := tl_add rfl (by omega) (by omega)
  have e2 : (one + other + nob).toInt = one.toInt + other.toInt + nob.toInt := tl_add (by rw [e1]) (by omega) (by omega)
  exact ⟨h1, h2, h3, by rw [e2]; omega⟩
theorem fI_step {e a b : Int32} {one other nob z1 z2 : Int64} {t : Int32} (hI : fI e one other nob) (ha : 0 ≤ a.toInt ∧ a.toInt ≤ 10) (hb : 0 ≤ b.toInt ∧ b.toInt ≤ 10) (he : e.toInt < 16)
    (h1 : (jr e (2 : Int32) = 0 ∧ z1 = Int32.toInt64 a * nob) ∨ (¬ jr e (2 : Int32) = 0 ∧ z1 = 0)) (h2 : (jr e (2 : Int32) = 0 ∧ z2 = 0) ∨ (¬ jr e (2 : Int32) = 0 ∧ z2 = Int32.toInt64 b * nob)) (h3 : (jr e (2 : Int32) = 0 ∧ t = a) ∨ (¬ jr e (2 : Int32) = 0 ∧ t = b)) :
    fI (e + 1) (((10 : Int64) * one) + z1) (((10 : Int64) * other) + z2) (nob * (Int32.toInt64 ((10 : Int32) - t))) := by
  obtain ⟨j, hj, ej, g1, g2, g3, hs⟩ := hI
  have hj' : j + 1 ≤ 16 := by omega
  obtain ⟨p0, p1⟩ := p10_le hj
  obtain ⟨p2, p3⟩ := p10_le hj'
  have P : (10 : Int) ^ 16 = 10000000000000000 := by decide
  have hp : (10 : Int) ^ (j + 1) = 10 ^ j * 10 := Int.pow_succ 10 j
  have k1 : (1 : Int32).toInt = 1 := by decide
  have k10 : (10 : Int32).toInt = 10 := by decide
  have l10 : (10 : Int64).toInt = 10 := by decide
  have l0 : (0 : Int64).toInt = 0 := by decide
  have e10 : ∀ x : Int64, 0 ≤ x.toInt → x.toInt ≤ 10 ^ j → ((10 : Int64) * x).toInt = 10 * x.toInt := fun x q0 q1 => tl_mul (by rw [l10]) (by omega) (by omega)
  have o1 := e10 one g1 (by omega)
  have o2 := e10 other g2 (by omega)
  have key : ∀ (t x y : Int), 0 ≤ t → t ≤ 10 → x = t * y → 0 ≤ y → 0 ≤ x ∧ x ≤ 10 * y := by
    intro t x y t0 t1 hx y0
    constructor
    · rw [hx]; exact Int.mul_nonneg t0 y0
    · rw [hx]; exact Int.mul_le_mul_of_nonneg_right t1 y0
  have mulI : ∀ s : Int32, 0 ≤ s.toInt → s.toInt ≤ 10 → (Int32.toInt64 s * nob).toInt = s.toInt * nob.toInt := by
    intro s s0 s1
    have := key s.toInt _ nob.toInt s0 s1 rfl g3
    exact tl_mul (by rw [toI64]) (by omega) (by omega)
  have subI : ∀ s : Int32, 0 ≤ s.toInt → s.toInt ≤ 10 → (nob * (Int32.toInt64 ((10 : Int32) - s))).toInt = nob.toInt * (10 - s.toInt) := by
    intro s s0 s1
    have e1 : ((10 : Int32) - s).toInt = 10 - s.toInt := ti_sub (by rw [k10]) (by omega) (by omega)
    have := key (10 - s.toInt) _ nob.toInt (by omega) (by omega) rfl g3
    have c := Int.mul_comm nob.toInt (10 - s.toInt)
    exact tl_mul (by rw [toI64, e1]) (by omega) (by omega)
  have fin : ∀ (s : Int32) (za zb : Int64), 0 ≤ s.toInt → s.toInt ≤ 10 → t = s → za.toInt + zb.toInt = s.toInt * nob.toInt → 0 ≤ za.toInt → 0 ≤ zb.toInt → z1 = za → z2 = zb → fI (e + 1) (((10 : Int64) * one) + z1) (((10 : Int64) * other) + z2) (nob * (Int32.toInt64 ((10 : Int32) - t))) := by
    intro s za zb s0 s1 ht hz z0 w0 q1 q2
    subst ht; subst q1; subst q2
    have e1 : (e + 1).toInt = e.toInt + 1 := ti_add (by rw [k1]) (by omega) (by omega)
    have kk := key t.toInt _ nob.toInt s0 s1 rfl g3
    have e3 := subI t s0 s1
    have dist : nob.toInt * (10 - t.toInt) = 10 * nob.toInt - t.toInt * nob.toInt := by
      rw [Int.mul_sub, Int.mul_comm nob.toInt 10, Int.mul_comm nob.toInt t.toInt]
    have f1 : (((10 : Int64) * one) + z1).toInt = 10 * one.toInt + z1.toInt := tl_add (by rw [o1]) (by omega) (by omega)
    have f2 : (((10 : Int64) * other) + z2).toInt = 10 * other.toInt + z2.toInt := tl_add (by rw [o2]) (by omega) (by omega)
    refine ⟨j + 1, hj', by rw [e1, ej]; rfl, by rw [f1]; omega, by rw [f2]; omega, by rw [e3, dist]; omega, ?_⟩
    rw [f1, f2, e3, dist, hp]
    omega
  rcases h1 with ⟨c, q1⟩ | ⟨c, q1⟩
  · rcases h2 with ⟨_, q2⟩ | ⟨c2, _⟩
    · rcases h3 with ⟨_, q3⟩ | ⟨c3, _⟩
      · have := key a.toInt _ nob.toInt ha.1 ha.2 rfl g3
        exact fin a _ _ ha.1 ha.2 q3 (by rw [mulI a ha.1 ha.2, l0]; omega) (by rw [mulI a ha.1 ha.2]; omega) (by rw [l0]; exact Int.le_refl 0) q1 q2
      · exact absurd c c3
    · exact absurd c c2
  · rcases h2 with ⟨c2, _⟩ | ⟨_, q2⟩
    · exact absurd c2 c
    · rcases h3 with ⟨c3, _⟩ | ⟨_, q3⟩
      · exact absurd c3 c
      · have := key b.toInt _ nob.toInt hb.1 hb.2 rfl g3
        exact fin b _ _ hb.1 hb.2 q3 (by rw [mulI b hb.1 hb.2, l0]; omega) (by rw [l0]; exact Int.le_refl 0) (by rw [mulI b hb.1 hb.2]; omega) q1 q2
/-- the image's place goes on by one -/
theorem pass_at (v : Int32) (st : Nat → Nat → Int32) (h : 0 ≤ Int32.toInt (st 0 32) ∧ Int32.toInt (st 0 32) < 220) : Int32.toInt ((f_X7_pass v st).2 0 32) = Int32.toInt (st 0 32) + 1 := by
  have k1 : (1 : Int32).toInt = 1 := by decide
  have e : Int32.toInt (st 0 32 + 1) = Int32.toInt (st 0 32) + 1 := ti_add (by rw [k1]) (by omega) (by omega)
  unfold f_X7_pass
  simp only [lt_, jn_]
  split
  · exact e
  · exact e
theorem passRow_1_L (m : Int32) (hm : m.toInt ≤ 64) (k : (Nat → Nat → Int32) → (Nat → Nat → Int32)) (z : Int) (P : (Nat → Nat → Int32) → Prop) (hk : ∀ st : Nat → Nat → Int32, Int32.toInt (st 0 32) = z + m.toInt → P (k st)) (hz : 0 ≤ z ∧ z + m.toInt ≤ 220) : ∀ (n : Nat) (i : Int32) (st : Nat → Nat → Int32), 0 ≤ i.toInt → i.toInt ≤ m.toInt → m.toInt ≤ i.toInt + n → Int32.toInt (st 0 32) = z + i.toInt → P (f_X7_passRow_1_L2 m k n i st) := by
  intro n
  have k1 : (1 : Int32).toInt = 1 := by decide
  induction n with
  | zero => intro i st h0 h1 h2 h; exact hk st (by omega)
  | succ n ih =>
    intro i st h0 h1 h2 h
    unfold f_X7_passRow_1_L2
    split
    · rename_i hc
      have := ti_le hc
      exact hk st (by omega)
    · rename_i hc
      have := ti_nle hc
      have ei : Int32.toInt (i + 1) = i.toInt + 1 := ti_add (by rw [k1]) (by omega) (by omega)
      have g := pass_at (st 1 (Int32.toNatClampNeg i)) st (by omega)
      simp only [lt_]
      refine ih (i + 1) _ (by omega) (by omega) (by omega) ?_
      show Int32.toInt ((f_X7_pass (st 1 (Int32.toNatClampNeg i)) st).2 0 32) = _
      omega
theorem passRow_1_at (st : Nat → Nat → Int32) (h : 0 ≤ Int32.toInt (st 0 32) ∧ Int32.toInt (st 0 32) + 64 ≤ 220) : Int32.toInt (f_X7_passRow_1 (64 : Int32) st 0 32) = Int32.toInt (st 0 32) + 64 := by
  have kn : (64 : Int32).toInt = 64 := by decide
  have k0 : (0 : Int32).toInt = 0 := by decide
  unfold f_X7_passRow_1
  exact passRow_1_L 64 (by omega) _ (Int32.toInt (st 0 32)) (fun r => Int32.toInt (r 0 32) = Int32.toInt (st 0 32) + 64) (fun _ h => by omega) (by omega) 64 0 st (by omega) (by omega) (by omega) (by omega)
theorem passRow_2_L (m : Int32) (hm : m.toInt ≤ 64) (k : (Nat → Nat → Int32) → (Nat → Nat → Int32)) (z : Int) (P : (Nat → Nat → Int32) → Prop) (hk : ∀ st : Nat → Nat → Int32, Int32.toInt (st 0 32) = z + m.toInt → P (k st)) (hz : 0 ≤ z ∧ z + m.toInt ≤ 220) : ∀ (n : Nat) (i : Int32) (st : Nat → Nat → Int32), 0 ≤ i.toInt → i.toInt ≤ m.toInt → m.toInt ≤ i.toInt + n → Int32.toInt (st 0 32) = z + i.toInt → P (f_X7_passRow_2_L2 m k n i st) := by
  intro n
  have k1 : (1 : Int32).toInt = 1 := by decide
  induction n with
  | zero => intro i st h0 h1 h2 h; exact hk st (by omega)
  | succ n ih =>
    intro i st h0 h1 h2 h
    unfold f_X7_passRow_2_L2
    split
    · rename_i hc
      have := ti_le hc
      exact hk st (by omega)
    · rename_i hc
      have := ti_nle hc
      have ei : Int32.toInt (i + 1) = i.toInt + 1 := ti_add (by rw [k1]) (by omega) (by omega)
      have g := pass_at (st 4 (Int32.toNatClampNeg i)) st (by omega)
      simp only [lt_]
      refine ih (i + 1) _ (by omega) (by omega) (by omega) ?_
      show Int32.toInt ((f_X7_pass (st 4 (Int32.toNatClampNeg i)) st).2 0 32) = _
      omega
theorem passRow_2_at (st : Nat → Nat → Int32) (h : 0 ≤ Int32.toInt (st 0 32) ∧ Int32.toInt (st 0 32) + 6 ≤ 220) : Int32.toInt (f_X7_passRow_2 (6 : Int32) st 0 32) = Int32.toInt (st 0 32) + 6 := by
  have kn : (6 : Int32).toInt = 6 := by decide
  have k0 : (0 : Int32).toInt = 0 := by decide
  unfold f_X7_passRow_2
  exact passRow_2_L 6 (by omega) _ (Int32.toInt (st 0 32)) (fun r => Int32.toInt (r 0 32) = Int32.toInt (st 0 32) + 6) (fun _ h => by omega) (by omega) 6 0 st (by omega) (by omega) (by omega) (by omega)
theorem passRow_3_L (m : Int32) (hm : m.toInt ≤ 64) (k : (Nat → Nat → Int32) → (Nat → Nat → Int32)) (z : Int) (P : (Nat → Nat → Int32) → Prop) (hk : ∀ st : Nat → Nat → Int32, Int32.toInt (st 0 32) = z + m.toInt → P (k st)) (hz : 0 ≤ z ∧ z + m.toInt ≤ 220) : ∀ (n : Nat) (i : Int32) (st : Nat → Nat → Int32), 0 ≤ i.toInt → i.toInt ≤ m.toInt → m.toInt ≤ i.toInt + n → Int32.toInt (st 0 32) = z + i.toInt → P (f_X7_passRow_3_L2 m k n i st) := by
  intro n
  have k1 : (1 : Int32).toInt = 1 := by decide
  induction n with
  | zero => intro i st h0 h1 h2 h; exact hk st (by omega)
  | succ n ih =>
    intro i st h0 h1 h2 h
    unfold f_X7_passRow_3_L2
    split
    · rename_i hc
      have := ti_le hc
      exact hk st (by omega)
    · rename_i hc
      have := ti_nle hc
      have ei : Int32.toInt (i + 1) = i.toInt + 1 := ti_add (by rw [k1]) (by omega) (by omega)
      have g := pass_at (st 9 (Int32.toNatClampNeg i)) st (by omega)
      simp only [lt_]
      refine ih (i + 1) _ (by omega) (by omega) (by omega) ?_
      show Int32.toInt ((f_X7_pass (st 9 (Int32.toNatClampNeg i)) st).2 0 32) = _
      omega
theorem passRow_3_at (st : Nat → Nat → Int32) (h : 0 ≤ Int32.toInt (st 0 32) ∧ Int32.toInt (st 0 32) + 8 ≤ 220) : Int32.toInt (f_X7_passRow_3 (8 : Int32) st 0 32) = Int32.toInt (st 0 32) + 8 := by
  have kn : (8 : Int32).toInt = 8 := by decide
  have k0 : (0 : Int32).toInt = 0 := by decide
  unfold f_X7_passRow_3
  exact passRow_3_L 8 (by omega) _ (Int32.toInt (st 0 32)) (fun r => Int32.toInt (r 0 32) = Int32.toInt (st 0 32) + 8) (fun _ h => by omega) (by omega) 8 0 st (by omega) (by omega) (by omega) (by omega)
theorem passRow_4_L (m : Int32) (hm : m.toInt ≤ 64) (k : (Nat → Nat → Int32) → (Nat → Nat → Int32)) (z : Int) (P : (Nat → Nat → Int32) → Prop) (hk : ∀ st : Nat → Nat → Int32, Int32.toInt (st 0 32) = z + m.toInt → P (k st)) (hz : 0 ≤ z ∧ z + m.toInt ≤ 220) : ∀ (n : Nat) (i : Int32) (st : Nat → Nat → Int32), 0 ≤ i.toInt → i.toInt ≤ m.toInt → m.toInt ≤ i.toInt + n → Int32.toInt (st 0 32) = z + i.toInt → P (f_X7_passRow_4_L2 m k n i st) := by
  intro n
  have k1 : (1 : Int32).toInt = 1 := by decide
  induction n with
  | zero => intro i st h0 h1 h2 h; exact hk st (by omega)
  | succ n ih =>
    intro i st h0 h1 h2 h
    unfold f_X7_passRow_4_L2
    split
    · rename_i hc
      have := ti_le hc
      exact hk st (by omega)
    · rename_i hc
      have := ti_nle hc
      have ei : Int32.toInt (i + 1) = i.toInt + 1 := ti_add (by rw [k1]) (by omega) (by omega)
      have g := pass_at (st 10 (Int32.toNatClampNeg i)) st (by omega)
      simp only [lt_]
      refine ih (i + 1) _ (by omega) (by omega) (by omega) ?_
      show Int32.toInt ((f_X7_pass (st 10 (Int32.toNatClampNeg i)) st).2 0 32) = _
      omega
theorem passRow_4_at (st : Nat → Nat → Int32) (h : 0 ≤ Int32.toInt (st 0 32) ∧ Int32.toInt (st 0 32) + 8 ≤ 220) : Int32.toInt (f_X7_passRow_4 (8 : Int32) st 0 32) = Int32.toInt (st 0 32) + 8 := by
  have kn : (8 : Int32).toInt = 8 := by decide
  have k0 : (0 : Int32).toInt = 0 := by decide
  unfold f_X7_passRow_4
  exact passRow_4_L 8 (by omega) _ (Int32.toInt (st 0 32)) (fun r => Int32.toInt (r 0 32) = Int32.toInt (st 0 32) + 8) (fun _ h => by omega) (by omega) 8 0 st (by omega) (by omega) (by omega) (by omega)
theorem passRow_5_L (m : Int32) (hm : m.toInt ≤ 64) (k : (Nat → Nat → Int32) → (Nat → Nat → Int32)) (z : Int) (P : (Nat → Nat → Int32) → Prop) (hk : ∀ st : Nat → Nat → Int32, Int32.toInt (st 0 32) = z + m.toInt → P (k st)) (hz : 0 ≤ z ∧ z + m.toInt ≤ 220) : ∀ (n : Nat) (i : Int32) (st : Nat → Nat → Int32), 0 ≤ i.toInt → i.toInt ≤ m.toInt → m.toInt ≤ i.toInt + n → Int32.toInt (st 0 32) = z + i.toInt → P (f_X7_passRow_5_L2 m k n i st) := by
  intro n
  have k1 : (1 : Int32).toInt = 1 := by decide
  induction n with
  | zero => intro i st h0 h1 h2 h; exact hk st (by omega)
  | succ n ih =>
    intro i st h0 h1 h2 h
    unfold f_X7_passRow_5_L2
    split
    · rename_i hc
      have := ti_le hc
      exact hk st (by omega)
    · rename_i hc
      have := ti_nle hc
      have ei : Int32.toInt (i + 1) = i.toInt + 1 := ti_add (by rw [k1]) (by omega) (by omega)
      have g := pass_at (st 11 (Int32.toNatClampNeg i)) st (by omega)
      simp only [lt_]
      refine ih (i + 1) _ (by omega) (by omega) (by omega) ?_
      show Int32.toInt ((f_X7_pass (st 11 (Int32.toNatClampNeg i)) st).2 0 32) = _
      omega
theorem passRow_5_at (st : Nat → Nat → Int32) (h : 0 ≤ Int32.toInt (st 0 32) ∧ Int32.toInt (st 0 32) + 8 ≤ 220) : Int32.toInt (f_X7_passRow_5 (8 : Int32) st 0 32) = Int32.toInt (st 0 32) + 8 := by
  have kn : (8 : Int32).toInt = 8 := by decide
  have k0 : (0 : Int32).toInt = 0 := by decide
  unfold f_X7_passRow_5
  exact passRow_5_L 8 (by omega) _ (Int32.toInt (st 0 32)) (fun r => Int32.toInt (r 0 32) = Int32.toInt (st 0 32) + 8) (fun _ h => by omega) (by omega) 8 0 st (by omega) (by omega) (by omega) (by omega)
