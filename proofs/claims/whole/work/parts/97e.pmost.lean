/-! ropes: the most from one -/
def tk (L s : Nat) (x : Nat × Nat) : Nat × Nat := if L < x.1 + s then x else (x.1 + s, x.2 + 1)
def itk (L s : Nat) : Nat → Nat × Nat → Nat × Nat
  | 0, x => x
  | n + 1, x => itk L s n (tk L s x)
def cntS (P : Nat → Bool) : Nat → Nat → Nat
  | _, 0 => 0
  | k, n + 1 => (if P k = true then 1 else 0) + cntS P (k + 1) n
theorem cntS_F (P : Nat → Bool) : ∀ n k, cntS P k n + cntF P k = cntF P (k + n)
  | 0, k => by rw [cntS, Nat.zero_add, Nat.add_zero]
  | n + 1, k => by
    have ih := cntS_F P n (k + 1)
    rw [cntF] at ih
    rw [cntS, show k + (n + 1) = k + 1 + n by omega, ← ih]
    omega
theorem cntF_r {P Q : Nat → Bool} {N : Nat} (h : ∀ k, k < N → Q k = P (N - 1 - k)) : ∀ j, j ≤ N → cntF Q j + cntF P (N - j) = cntF P N
  | 0, _ => by rw [cntF, Nat.zero_add, Nat.sub_zero]
  | j + 1, hj => by
    have ih := cntF_r h j (by omega)
    have e : N - j = (N - (j + 1)) + 1 := by omega
    rw [e, cntF, show N - (j + 1) = N - 1 - j by omega, ← h j (by omega)] at ih
    rw [cntF, show N - (j + 1) = N - 1 - j by omega]
    omega
theorem cnt_r {P Q : Nat → Bool} {N : Nat} (h : ∀ k, k < N → Q k = P (N - 1 - k)) : cntS Q 0 N = cntS P 0 N := by
  have a := cntS_F Q N 0
  have b := cntS_F P N 0
  have c := cntF_r h N (Nat.le_refl N)
  rw [Nat.sub_self] at c
  rw [Nat.zero_add] at a b
  have z1 : cntF Q 0 = 0 := rfl
  have z2 : cntF P 0 = 0 := rfl
  omega
theorem tk_le {L s : Nat} {x : Nat × Nat} (h : x.1 ≤ L ∧ x.2 ≤ 100000) (hs : 1 ≤ s) (h2 : x.2 ≤ x.1) : (tk L s x).1 ≤ L ∧ (tk L s x).2 ≤ (tk L s x).1 := by
  unfold tk
  split
  · exact ⟨h.1, h2⟩
  · exact ⟨by show x.1 + s ≤ L; omega, by show x.2 + 1 ≤ x.1 + s; omega⟩
theorem itk_le {L s : Nat} (hL : L ≤ 30) (hs : 1 ≤ s) : ∀ (n : Nat) (x : Nat × Nat), x.1 ≤ L → x.2 ≤ x.1 → (itk L s n x).1 ≤ L ∧ (itk L s n x).2 ≤ (itk L s n x).1
  | 0, x, h1, h2 => ⟨h1, h2⟩
  | n + 1, x, h1, h2 => by
    obtain ⟨a, b⟩ := tk_le (s := s) ⟨h1, by omega⟩ hs h2
    rw [itk]
    exact itk_le hL hs n _ a b
theorem mc_L {L N s : Nat} {p : Nat → Nat} {i f : Nat → Int32} (hN : N ≤ 9) (hL : L ≤ 30) (hs : 1 ≤ s ∧ s ≤ 9) (hp : ∀ k, p k ≤ 9) (hi : i 2 = nI N) (hf : ∀ k, k < N → f k = nI (p k)) (kk : Int32 → Int32 → Int32) :
    ∀ (n k : Nat) (x : Nat × Nat), k + n = 9 → k ≤ N → x.1 ≤ L → x.2 ≤ x.1 → f_X3_mostFromOne_L17 i f (nI s) kk n (nI k) (nI x.2) (nI (L - x.1)) = kk (nI (itk L s (cntS (fun j => decide (p j = s)) k (N - k)) x).2) (nI (L - (itk L s (cntS (fun j => decide (p j = s)) k (N - k)) x).1)) := by
  intro n
  induction n with
  | zero =>
    intro k x hk hkN _ _
    have e : N - k = 0 := by omega
    rw [f_X3_mostFromOne_L17, e, cntS, itk]
  | succ n ih =>
    intro k x hk hkN h1 h2
    rw [f_X3_mostFromOne_L17, hi]
    by_cases c : N ≤ k
    · have e : N - k = 0 := by omega
      rw [if_pos (nI_le c (by omega)), e, cntS, itk]
    · rw [if_neg (nI_ge (by omega) (by omega)), if_neg (ge9 (by omega)), nI_clamp (by omega), hf k (by omega), jn_1, show N - k = (N - (k + 1)) + 1 by omega, cntS]
      have hpk := hp k
      by_cases g : p k = s
      · rw [if_pos (by rw [g]), decide_eq_true g, if_pos rfl, Nat.add_comm 1, itk]
        by_cases d : L < x.1 + s
        · have et : tk L s x = x := if_pos d
          rw [if_pos (nI_lt (by omega) (by omega)), et]
          dsimp only
          rw [lt_1, nI_1]
          exact ih (k + 1) x (by omega) (by omega) h1 h2
        · have et : tk L s x = (x.1 + s, x.2 + 1) := if_neg d
          have hle := tk_le (s := s) ⟨h1, by omega⟩ hs.1 h2
          rw [if_neg (nI_nlt (by omega) (by omega)), lt_1, lt_1, nI_sub (by omega), nI_1, show L - x.1 - s = L - (x.1 + s) by omega]
          dsimp only
          rw [lt_1, nI_1]
          rw [et] at hle ⊢
          exact ih (k + 1) (x.1 + s, x.2 + 1) (by omega) (by omega) hle.1 hle.2
      · rw [if_neg (fun q => g ((nI_eq (by omega) (by omega)).mp q)), decide_eq_false g, if_neg (by decide), Nat.zero_add]
        dsimp only
        rw [lt_1, nI_1]
        exact ih (k + 1) x (by omega) (by omega) h1 h2
theorem mm_L {L N s : Nat} {q : Nat → Nat} {st : Nat → Nat → Int32} (hN : N ≤ 9) (hL : L ≤ 30) (hs : 1 ≤ s ∧ s ≤ 9) (hp : ∀ k, q k ≤ 9) (hf : ∀ k, k < N → st 26 k = nI (q k)) (kk : Int32 → Int32 → Int32) :
    ∀ (n k : Nat) (x : Nat × Nat), k + n = 9 → k ≤ N → x.1 ≤ L → x.2 ≤ x.1 → f_X7_mostPieces_L18 (nI N) (nI L) st (nI s) kk n (nI k) (nI x.1) (nI x.2) = kk (nI (itk L s (cntS (fun j => decide (q j = s)) k (N - k)) x).1) (nI (itk L s (cntS (fun j => decide (q j = s)) k (N - k)) x).2) := by
  intro n
  induction n with
  | zero =>
    intro k x hk hkN _ _
    have e : N - k = 0 := by omega
    rw [f_X7_mostPieces_L18, e, cntS, itk]
  | succ n ih =>
    intro k x hk hkN h1 h2
    rw [f_X7_mostPieces_L18]
    by_cases c : N ≤ k
    · have e : N - k = 0 := by omega
      rw [if_pos (nI_le c (by omega)), e, cntS, itk]
    · rw [if_neg (nI_ge (by omega) (by omega)), nI_clamp (by omega), hf k (by omega), jn_1, show N - k = (N - (k + 1)) + 1 by omega, cntS]
      have hpk := hp k
      by_cases g : q k = s
      · rw [if_pos (by rw [g]), decide_eq_true g, if_pos rfl, Nat.add_comm 1, itk, nI_add]
        by_cases d : L < x.1 + s
        · have et : tk L s x = x := if_pos d
          rw [if_pos (nI_lt d (by omega)), et]
          dsimp only
          rw [lt_1, nI_1]
          exact ih (k + 1) x (by omega) (by omega) h1 h2
        · have et : tk L s x = (x.1 + s, x.2 + 1) := if_neg d
          have hle := tk_le (s := s) ⟨h1, by omega⟩ hs.1 h2
          rw [if_neg (nI_nlt (by omega) (by omega)), lt_1, lt_1, nI_1]
          dsimp only
          rw [lt_1, nI_1]
          rw [et] at hle ⊢
          exact ih (k + 1) (x.1 + s, x.2 + 1) (by omega) (by omega) hle.1 hle.2
      · rw [if_neg (fun z => g ((nI_eq (by omega) (by omega)).mp z)), decide_eq_false g, if_neg (by decide), Nat.zero_add]
        dsimp only
        rw [lt_1, nI_1]
        exact ih (k + 1) x (by omega) (by omega) h1 h2
def fo (L : Nat) (C : Nat → Nat) : Nat → Nat → Nat × Nat → Nat × Nat
  | 0, _, x => x
  | n + 1, s, x => fo L C n (s + 1) (itk L s (C s) x)
theorem oc_L {L N : Nat} {p : Nat → Nat} {i f : Nat → Int32} (hN : N ≤ 9) (hL : L ≤ 30) (hp : ∀ k, p k ≤ 9) (hi : i 2 = nI N) (hf : ∀ k, k < N → f k = nI (p k)) :
    ∀ (n s : Nat) (x : Nat × Nat), s + n = 10 → 1 ≤ s → x.1 ≤ L → x.2 ≤ x.1 → f_X3_mostFromOne_L7 i f (fun (w7_3 : Int32) => w7_3) n (nI s) (nI x.2) (nI (L - x.1)) = nI (fo L (fun s => cntS (fun j => decide (p j = s)) 0 N) n s x).2 := by
  intro n
  induction n with
  | zero =>
    intro s x hs h1 _ _
    rw [f_X3_mostFromOne_L7, fo]
  | succ n ih =>
    intro s x hs h1 h2 h3
    have t := mc_L (s := s) hN hL ⟨h1, by omega⟩ hp hi hf (fun (w17_3 : Int32) (w17_2 : Int32) => lt_ (nI s + (1 : Int32)) (fun (y68 : Int32) => f_X3_mostFromOne_L7 i f (fun (w7_3 : Int32) => w7_3) n y68 w17_3 w17_2)) 9 0 x rfl (Nat.zero_le _) h2 h3
    rw [nI_0, Nat.sub_zero] at t
    obtain ⟨a, b⟩ := itk_le (s := s) hL h1 (cntS (fun j => decide (p j = s)) 0 N) x h2 h3
    rw [f_X3_mostFromOne_L7, if_neg (nlt9 (by omega)), t, lt_1, nI_1, ih (s + 1) _ (by omega) (by omega) a b, fo]
theorem om_L {L N : Nat} {q : Nat → Nat} {st : Nat → Nat → Int32} (hN : N ≤ 9) (hL : L ≤ 30) (hp : ∀ k, q k ≤ 9) (hf : ∀ k, k < N → st 26 k = nI (q k)) :
    ∀ (n s : Nat) (x : Nat × Nat), s + n = 10 → 1 ≤ s → x.1 ≤ L → x.2 ≤ x.1 → f_X7_mostPieces_L8 (nI N) (nI L) st (fun (w8_3 : Int32) => w8_3) n (nI s) (nI x.1) (nI x.2) = nI (fo L (fun s => cntS (fun j => decide (q j = s)) 0 N) n s x).2 := by
  intro n
  induction n with
  | zero =>
    intro s x hs h1 _ _
    rw [f_X7_mostPieces_L8, fo]
  | succ n ih =>
    intro s x hs h1 h2 h3
    have t := mm_L (s := s) hN hL ⟨h1, by omega⟩ hp hf (fun (w18_4 : Int32) (w18_3 : Int32) => lt_ (nI s + (1 : Int32)) (fun (y61 : Int32) => f_X7_mostPieces_L8 (nI N) (nI L) st (fun (w8_3 : Int32) => w8_3) n y61 w18_4 w18_3)) 9 0 x rfl (Nat.zero_le _) h2 h3
    rw [nI_0, Nat.sub_zero] at t
    obtain ⟨a, b⟩ := itk_le (s := s) hL h1 (cntS (fun j => decide (q j = s)) 0 N) x h2 h3
    rw [f_X7_mostPieces_L8, if_neg (ge10 (by omega)), t, lt_1, nI_1, ih (s + 1) _ (by omega) (by omega) a b, fo]
theorem most_both {L N : Nat} {p q : Nat → Nat} {i f g : Nat → Int32} {st : Nat → Nat → Int32} (hN : N ≤ 9) (hL : L ≤ 30) (hp : ∀ k, p k ≤ 9) (hq : ∀ k, q k ≤ 9) (hr : ∀ k, k < N → q k = p (N - 1 - k)) (hi : i 2 = nI N) (hf : ∀ k, k < N → f k = nI (p k)) (hg : ∀ k, k < N → st 26 k = nI (q k)) : f_X3_mostFromOne (nI L) i f g = f_X7_mostPieces (nI N) (nI L) st := by
  have a := oc_L hN hL hp hi hf 9 1 (0, 0) rfl (Nat.le_refl 1) (Nat.zero_le _) (Nat.le_refl 0)
  have b := om_L hN hL hq hg 9 1 (0, 0) rfl (Nat.le_refl 1) (Nat.zero_le _) (Nat.le_refl 0)
  have e : (fun s => cntS (fun j => decide (q j = s)) 0 N) = (fun s => cntS (fun j => decide (p j = s)) 0 N) := funext (fun s => cnt_r (fun k hk => by rw [hr k hk]))
  rw [e] at b
  have a' : f_X3_mostFromOne (nI L) i f g = _ := a
  have b' : f_X7_mostPieces (nI N) (nI L) st = _ := b
  rw [a', b']
set_option maxHeartbeats 1000000 in
set_option maxRecDepth 4000 in
theorem s_ropes : lwS14 InvR := by
  intro L I st x1 x2 x3 x4 hR
  unfold f_X6_ropes f_X7_ropes
  rw [in_eq x2 (a' := 1) (b' := 9) (by decide) (by decide)]
  by_cases c2 : f_X6_within x2 1 9 = 0
  · rw [if_pos c2, if_pos c2]; exact ⟨rfl, hR⟩
  rw [if_neg c2, if_neg c2, lt_1, lt_1, lt_1]
  have w2 := within_nz c2
  rw [show (1 : Int32).toInt = 1 from by decide, show (9 : Int32).toInt = 9 from by decide] at w2
  obtain ⟨N, hN, rfl⟩ : ∃ n, n < 10 ∧ x2 = nI n := nI_ofI (by omega) (by omega) (by decide)
  have hN1 : 1 ≤ N := by
    have := w2.1
    rw [nI_toInt (by omega)] at this
    omega
  obtain ⟨i', f', t, a1, a2, a3, a4⟩ := take_both hN1 (show N ≤ 9 by omega) x1 (I 10) (I 11) (I 12) st
  generalize f_X3_takePieces x1 (nI N) (I 10) (I 11) (I 12) = rc at a1 a4 ⊢
  generalize f_X7_readPieces x1 (nI N) st = rm at a2 a4 ⊢
  have hR' : InvR L I rm.2 := inv_pt hR (fun k _ => by rw [a2, a3 0 (by decide)]) (fun q hq j => by rw [a2, a3 q (by omega)])
  rcases a4 with ⟨b1, b2⟩ | ⟨b1, b2, b3, p, b4, b5, b6⟩
  · rw [if_pos b1, if_pos b2]
    exact ⟨rfl, hR'⟩
  rw [b1, b2, if_neg (show ¬ (1 : Int32) = 0 by decide), if_neg (show ¬ (1 : Int32) = 0 by decide), in_eq x3 (a' := 9) (b' := 30) (by decide) (by decide)]
  by_cases c3 : f_X6_within x3 9 30 = 0
  · rw [if_pos c3, if_pos c3]; exact ⟨rfl, hR'⟩
  rw [if_neg c3, if_neg c3, in_eq x4 (a' := 0) (b' := 1) (by decide) (by decide)]
  by_cases c4 : f_X6_within x4 0 1 = 0
  · rw [if_pos c4, if_pos c4]; exact ⟨rfl, hR'⟩
  rw [if_neg c4, if_neg c4]
  have w3 := within_nz c3
  rw [show (9 : Int32).toInt = 9 from by decide, show (30 : Int32).toInt = 30 from by decide] at w3
  obtain ⟨M, hM, rfl⟩ : ∃ n, n < 31 ∧ x3 = nI n := nI_ofI (by omega) (by omega) (by decide)
  have hM9 : 9 ≤ M := by
    have := w3.1
    rw [nI_toInt (by omega)] at this
    omega
  have e21 : rc.2.1 = i' := by rw [a1]
  have e22 : rc.2.2 = f' := by rw [a1]
  have hq : ∀ k, k < N → rm.2 26 k = nI (p (N - 1 - k)) := fun k hk => by
    have h := b6 (N - 1 - k) (by omega)
    rw [show N - 1 - (N - 1 - k) = k by omega] at h
    rw [a2, h]
  rw [e21, e22]
  by_cases c5 : x4 = 0
  · rw [if_pos c5, if_pos c5, lt_1]
    obtain ⟨f1, f0⟩ := fewest_C (L := M) (N := N) (p := p) (i := i') (f := f') (I 12) (by omega) ⟨hM9, by omega⟩ b4 b3 b5 hR.2.2.2.2
    obtain ⟨t2, f2, f3⟩ := fewest_M (L := M) (N := N) (q := fun k => p (N - 1 - k)) (st := rm.2) (by omega) ⟨hM9, by omega⟩ (fun k => b4 _) hq
    have hr := tT_r (L := M) (N := N) (p := p) (q := fun k => p (N - 1 - k)) (by omega) (fun k _ => rfl)
    have hR2 : InvR L I t2 := inv_pt hR' (fun k _ => by rw [f2 0 (by decide)]) (fun q hq j => by rw [f2 q (by omega)])
    generalize f_X3_fewestRopes (nI M) i' f' (I 12) = r12 at f1 f0 ⊢
    rw [f3, hr]
    exact ⟨f1, hR2.1, hR2.2.1, hR2.2.2.1, hR2.2.2.2.1, f0⟩
  · rw [if_neg c5, if_neg c5]
    have f1 := most_both (L := M) (N := N) (p := p) (q := fun k => p (N - 1 - k)) (i := i') (f := f') (g := I 12) (st := rm.2) (by omega) (by omega) b4 (fun k => b4 _) (fun k _ => rfl) b3 b5 hq
    exact ⟨f1, hR'⟩
