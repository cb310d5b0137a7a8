/-! image, restore: the relation goes on -/
theorem fit_congr {a b d a' b' d' : Nat → Int32} {c : Nat} : ∀ n, (∀ j, j < n → a' j = a j ∧ b' j = b j ∧ d' j = d j) → fitB a' b' d' c n = fitB a b d c n
  | 0, _ => rfl
  | n + 1, h => by
    obtain ⟨h1, h2, h3⟩ := h n (by omega)
    rw [fitB, fitB, fit_congr n (fun j hj => h j (by omega)), h1, h2, h3]
def copC (lo lo' : Nat → Int64) (i i' f f' : Nat → Int32) : Prop := lo' 0 = lo 0 ∧ lo' 8 = lo 8 ∧ (∀ k, 1 ≤ k → k ≤ 7 → i' k = i k) ∧ ∀ k, k < 6 → f' k = f k
def copM (q q' g g' e e' a a' b b' d d' : Nat → Int32) : Prop := (q' 1 = q 1 ∧ q' 2 = q 2 ∧ q' 4 = q 4 ∧ q' 5 = q 5 ∧ q' 6 = q 6 ∧ q' 7 = q 7 ∧ q' 11 = q 11) ∧
  (∀ c, c < 64 → g' c = g c) ∧ (∀ k, k < 6 → e' k = e k) ∧ (∀ j, j < 8 → a' j = a j) ∧ (∀ j, j < 8 → b' j = b j) ∧ ∀ j, j < 8 → d' j = d j
theorem clamp8 {x : Int32} (h : 0 ≤ x.toInt ∧ x.toInt ≤ 8) {j : Nat} (hj : j < x.toNatClampNeg) : j < 8 := by
  have := clampI h.1
  omega
theorem sea_congr {lo lo' : Nat → Int64} {i i' f f' q q' g g' e e' a a' b b' d d' : Nat → Int32} (h : rSea lo i f q g e a b d) (hc : copC lo lo' i i' f f') (hm : copM q q' g g' e e' a a' b b' d d') : rSea lo' i' f' q' g' e' a' b' d' := by
  obtain ⟨hg, ⟨a1, a2, a3, a4, a5, a6, a7⟩, hey, ⟨hp, hw, hmi, hn⟩, hv, hf⟩ := h
  obtain ⟨c0, c8, ci, cf⟩ := hc
  obtain ⟨⟨m1, m2, m4, m5, m6, m7, m11⟩, mg, me, ma, mb, md⟩ := hm
  refine ⟨fun c hc => ?_, ⟨?_, ?_, ?_, ?_, ?_, ?_, ?_⟩, fun k hk => ?_, ?_, fun j hj => ?_, fun c hc => ?_⟩
  · rw [mg c hc, c0, hg c hc]
  · rw [ci 1 (by decide) (by decide), m1, a1]
  · rw [ci 2 (by decide) (by decide), m2, a2]
  · rw [ci 3 (by decide) (by decide), m4, a3]
  · rw [ci 4 (by decide) (by decide), m5, a4]
  · rw [ci 5 (by decide) (by decide), m6, a5]
  · rw [ci 6 (by decide) (by decide), m7, a6]
  · rw [ci 7 (by decide) (by decide), m11, a7]
  · rw [cf k hk, me k hk]; exact hey k hk
  · rw [m1, m2, m4, m6, m7, m11]
    exact ⟨hp, ⟨hw.1, hw.2.1, hw.2.2.1, by rw [mg _ (by have := clampI hp.1; omega)]; exact hw.2.2.2⟩, hmi, hn⟩
  · rw [m11] at hj
    have h8 := clamp8 hn hj
    rw [ma j h8, mb j h8, md j h8]
    exact hv j hj
  · rw [c8, hf c hc, m11]
    exact (fit_congr _ (fun j hj => ⟨ma j (clamp8 hn hj), mb j (clamp8 hn hj), md j (clamp8 hn hj)⟩)).symm
theorem over_L (f2 : Nat → Int32) (k : (Nat → Int32) → ((Nat → Int64) × (Nat → Int32) × (Nat → Int32))) : ∀ (n i : Nat) (f : Nat → Int32), i + n = 6 → (∀ j, j < i → f j = f2 j) → ∃ f', (∀ j, j < 6 → f' j = f2 j) ∧ f_X4_takeOver_L74 f2 k n (nI i) f = k f' := by
  intro n
  induction n with
  | zero =>
    intro i f hi h
    exact ⟨f, fun j hj => h j (by omega), by rw [f_X4_takeOver_L74]⟩
  | succ n ih =>
    intro i f hi h
    obtain ⟨f', h1, h2⟩ := ih (i + 1) (u1 f i (f2 i)) (by omega) (fun j hj => by
      by_cases e : j = i
      · rw [e, u1_s]
      · rw [u1_n _ _ e]; exact h j (by omega))
    refine ⟨f', h1, ?_⟩
    have c6 : ¬ (6 : Int32) ≤ nI i := nI_ge (b := 6) (by omega) (by decide)
    rw [f_X4_takeOver_L74, if_neg c6, if_neg c6]
    unfold lt_
    dsimp only
    rw [nI_clamp (by omega), nI_1, h2]
theorem over (lo lo2 : Nat → Int64) (i f i2 f2 : Nat → Int32) : copC lo2 (f_X4_takeOver lo i f lo2 i2 f2).1 i2 (f_X4_takeOver lo i f lo2 i2 f2).2.1 f2 (f_X4_takeOver lo i f lo2 i2 f2).2.2 := by
  unfold f_X4_takeOver lt_
  dsimp only
  obtain ⟨f', h1, h2⟩ := over_L f2 (fun (w74_f : Nat → Int32) => ((u1 (u1 lo 0 (lo2 0)) 8 (lo2 8)), (u1 (u1 (u1 (u1 (u1 (u1 (u1 i 1 (i2 1)) 2 (i2 2)) 3 (i2 3)) 4 (i2 4)) 5 (i2 5)) 6 (i2 6)) 7 (i2 7)), w74_f)) 6 0 f (by omega) (fun j hj => absurd hj (Nat.not_lt_zero j))
  rw [nI_0] at h2
  rw [h2]
  refine ⟨rfl, rfl, fun k k1 k7 => ?_, h1⟩
  rcases (show k = 1 ∨ k = 2 ∨ k = 3 ∨ k = 4 ∨ k = 5 ∨ k = 6 ∨ k = 7 by omega) with q | q | q | q | q | q | q <;> subst q <;> rfl
theorem img_keep {lo : Nat → Int64} {i f : Nat → Int32} {s t : Nat → Int32} {o : Nat} (h : rImg lo i f s o) (ht : ∀ j, o ≤ j → j < o + 110 → t j = s j) : rImg lo i f t o := by
  refine sea_congr h ⟨rfl, rfl, fun _ _ _ => rfl, fun _ _ => rfl⟩ ⟨⟨?_, ?_, ?_, ?_, ?_, ?_, ?_⟩, fun c hc => ?_, fun c hc => ?_, fun c hc => ?_, fun c hc => ?_, fun c hc => ?_⟩
  · exact ht (o + 0) (by omega) (by omega)
  · exact ht (o + 1) (by omega) (by omega)
  · exact ht (o + 2) (by omega) (by omega)
  · exact ht (o + 3) (by omega) (by omega)
  · exact ht (o + 4) (by omega) (by omega)
  · exact ht (o + 5) (by omega) (by omega)
  · exact ht (o + 6) (by omega) (by omega)
  · exact ht (o + 7 + c) (by omega) (by omega)
  · exact ht (o + 71 + c) (by omega) (by omega)
  · exact ht (o + 77 + c) (by omega) (by omega)
  · exact ht (o + 85 + c) (by omega) (by omega)
  · exact ht (o + 93 + c) (by omega) (by omega)
/-- an image taken -/
theorem img_new {lo lo' : Nat → Int64} {i i' f f' : Nat → Int32} {s t : Nat → Nat → Int32} {o : Nat} (h : rSea lo i f (s 0) (s 1) (s 4) (s 9) (s 10) (s 11)) (hc : copC lo lo' i i' f f') (ht : allP true o s t) : rImg lo' i' f' (t 31) o := by
  obtain ⟨_, _, _, ⟨t0, t1, t2, t3, t4, t5, t6⟩, tg, te, ta, tb, td⟩ := ht.2.2.1 rfl
  exact sea_congr h hc ⟨⟨t0, t1, t2, t3, t4, t5, t6⟩, tg, te, ta, tb, td⟩
/-- an image brought back -/
theorem img_old {lo lo' : Nat → Int64} {i i' f f' : Nat → Int32} {s t : Nat → Nat → Int32} {o : Nat} (h : rImg lo i f (s 31) o) (hc : copC lo lo' i i' f f') (ht : allP false o s t) : rSea lo' i' f' (t 0) (t 1) (t 4) (t 9) (t 10) (t 11) := by
  obtain ⟨_, ⟨t0, t1, t2, t3, t4, t5, t6⟩, tg, te, ta, tb, td⟩ := ht.2.2.2 rfl
  exact sea_congr h hc ⟨⟨t0, t1, t2, t3, t4, t5, t6⟩, tg, te, ta, tb, td⟩
theorem sea_same {lo : Nat → Int64} {i f : Nat → Int32} {s t : Nat → Nat → Int32} (h : rSea lo i f (s 0) (s 1) (s 4) (s 9) (s 10) (s 11)) (h0 : ∀ k, k ≠ 32 → t 0 k = s 0 k) (hq : ∀ q, q ≠ 0 → q ≠ 31 → ∀ j, t q j = s q j) : rSea lo i f (t 0) (t 1) (t 4) (t 9) (t 10) (t 11) :=
  sea_congr h ⟨rfl, rfl, fun _ _ _ => rfl, fun _ _ => rfl⟩ ⟨⟨h0 _ (by decide), h0 _ (by decide), h0 _ (by decide), h0 _ (by decide), h0 _ (by decide), h0 _ (by decide), h0 _ (by decide)⟩, fun c _ => hq 1 (by decide) (by decide) c, fun c _ => hq 4 (by decide) (by decide) c, fun c _ => hq 9 (by decide) (by decide) c, fun c _ => hq 10 (by decide) (by decide) c, fun c _ => hq 11 (by decide) (by decide) c⟩
theorem pad_congr {n : Int32} {f g g' : Nat → Int32} {m m' : Int32} (h : rPad n f m g) (hm : m' = m) (hg : ∀ j, g' j = g j) : rPad n f m' g' := by
  obtain ⟨h1, h2, h3⟩ := h
  subst hm
  exact ⟨h1, h2, fun j hj => by rw [hg, h3 j hj]⟩
theorem isIm (x : Int32) (L : Nat → Nat → Int64) (I : Nat → Nat → Int32) : f_X6_isImage x L I = f_X7_in (Int32.toInt64 x) (0 : Int64) (1 : Int64) := by
  unfold f_X6_isImage
  rw [in_val, toI64, show (0 : Int64).toInt = 0 from by decide, show (1 : Int64).toInt = 1 from by decide]
  have k : (2 : Int32).toInt = 2 := by decide
  have k0 : (0 : Int32).toInt = 0 := by decide
  by_cases h1 : x.toInt < 0
  · rw [if_pos h1, if_pos (Int32.lt_iff_toInt_lt.mpr (by omega))]
  · rw [if_neg h1, if_neg (fun q => h1 (by have := ti_lt q; omega))]
    by_cases h2 : 1 < x.toInt
    · rw [if_pos h2, if_pos (Int32.le_iff_toInt_le.mpr (by omega))]
    · have h3 : ¬ (2 : Int32) ≤ x := fun q => h2 (by have := ti_le q; omega)
      rw [if_neg h2, if_neg h3, if_neg h3, ite_self]
theorem two_n {x : Int32} (h : ¬ f_X7_in (Int32.toInt64 x) (0 : Int64) (1 : Int64) = 0) : x = 0 ∨ x = 1 := by
  have t := in_nz h
  rw [show (0 : Int64).toInt = 0 from by decide, show (1 : Int64).toInt = 1 from by decide] at t
  rcases (show x.toInt = 0 ∨ x.toInt = 1 by omega) with q | q
  · exact Or.inl (tiq 0 q (by decide))
  · exact Or.inr (tiq 1 q (by decide))
theorem all_s {s : Nat → Nat → Int32} {keep : Bool} {o : Nat} {t : Nat → Nat → Int32} (h : allP keep o s t) : t 0 13 = s 0 13 ∧ (∀ j, t 13 j = s 13 j) ∧ ∀ j, t 32 j = s 32 j :=
  ⟨h.1 13 (by decide) (by decide) (by decide) (by decide) (by decide) (by decide) (by decide) (by decide), h.2.1 13 (by decide) (by decide) (by decide) (by decide) (by decide) (by decide) (by decide), h.2.1 32 (by decide) (by decide) (by decide) (by decide) (by decide) (by decide) (by decide)⟩
set_option maxHeartbeats 2000000 in
set_option maxRecDepth 4000 in
theorem s_image : lwS22 InvR := by
  intro L I st x1 hR
  unfold f_X6_image f_X7_image
  rw [isIm]
  by_cases c1 : f_X7_in (Int32.toInt64 x1) (0 : Int64) (1 : Int64) = 0
  · rw [if_pos c1, if_pos c1]; exact ⟨rfl, hR⟩
  rw [if_neg c1, if_neg c1]
  obtain ⟨hs, hpad, ⟨i0, hi0⟩, ⟨i1, hi1⟩, hct⟩ := hR
  rcases two_n c1 with rfl | rfl
  · have z : (0 : Int32).toNatClampNeg = 0 := by decide
    rw [if_pos rfl, lt_1, lt_1, lt_1, z]
    have hk := all_k (keep := true) (o := 0) (s := u2 (u2 st 0 32 ((110 : Int32) * 0)) 0 33 (1 : Int32)) rfl (by rw [u2_k _ _ (by decide), u2_s]; decide) (by decide)
    generalize f_X7_passAll (u2 (u2 st 0 32 ((110 : Int32) * 0)) 0 33 (1 : Int32)) = t at hk ⊢
    have hc := over (L 14) (L 3) (I 14) (I 15) (I 3) (I 4)
    generalize f_X4_takeOver (L 14) (I 14) (I 15) (L 3) (I 3) (I 4) = r at hc ⊢
    obtain ⟨s13, s13', s32⟩ := all_s hk
    have k := hk.2.2.1 rfl
    have hs' : rSea (L 3) (I 3) (I 4) (u2 (u2 st 0 32 ((110 : Int32) * 0)) 0 33 (1 : Int32) 0) (st 1) (st 4) (st 9) (st 10) (st 11) := hs
    have A1 : rSea (L 3) (I 3) (I 4) (t 0) (t 1) (t 4) (t 9) (t 10) (t 11) := sea_same hs' k.1 k.2.1
    have A2 : rPad (I 5 1) (I 6) (t 0 13) (t 13) := pad_congr hpad s13 s13'
    have A3 : rImg r.1 r.2.1 r.2.2 (t 31) 0 := img_new hs' hc hk
    refine ⟨rfl, A1, A2, ⟨?_, Or.inr ⟨?_, A3⟩⟩, ⟨?_, ?_⟩, hct⟩
    · rfl
    · rfl
    · show I 2 1 = t 32 1
      rw [s32]
      exact i1
    · show t 32 1 = 0 ∨ t 32 1 = 1 ∧ rImg (L 16) (I 16) (I 17) (t 31) 110
      rw [s32]
      exact hi1.imp id (fun h => ⟨h.1, img_keep h.2 (fun j j1 j2 => k.2.2.1 j (Or.inr (by omega)))⟩)
  · have z : (1 : Int32).toNatClampNeg = 1 := by decide
    rw [if_neg (show ¬ (1 : Int32) = 0 by decide), lt_1, lt_1, lt_1, z]
    have hk := all_k (keep := true) (o := 110) (s := u2 (u2 st 0 32 ((110 : Int32) * 1)) 0 33 (1 : Int32)) rfl (by rw [u2_k _ _ (by decide), u2_s]; decide) (by decide)
    generalize f_X7_passAll (u2 (u2 st 0 32 ((110 : Int32) * 1)) 0 33 (1 : Int32)) = t at hk ⊢
    have hc := over (L 16) (L 3) (I 16) (I 17) (I 3) (I 4)
    generalize f_X4_takeOver (L 16) (I 16) (I 17) (L 3) (I 3) (I 4) = r at hc ⊢
    obtain ⟨s13, s13', s32⟩ := all_s hk
    have k := hk.2.2.1 rfl
    have hs' : rSea (L 3) (I 3) (I 4) (u2 (u2 st 0 32 ((110 : Int32) * 1)) 0 33 (1 : Int32) 0) (st 1) (st 4) (st 9) (st 10) (st 11) := hs
    have A1 : rSea (L 3) (I 3) (I 4) (t 0) (t 1) (t 4) (t 9) (t 10) (t 11) := sea_same hs' k.1 k.2.1
    have A2 : rPad (I 5 1) (I 6) (t 0 13) (t 13) := pad_congr hpad s13 s13'
    have A3 : rImg r.1 r.2.1 r.2.2 (t 31) 110 := img_new hs' hc hk
    refine ⟨rfl, A1, A2, ⟨?_, ?_⟩, ⟨?_, Or.inr ⟨?_, A3⟩⟩, hct⟩
    · show I 2 0 = t 32 0
      rw [s32]
      exact i0
    · show t 32 0 = 0 ∨ t 32 0 = 1 ∧ rImg (L 14) (I 14) (I 15) (t 31) 0
      rw [s32]
      exact hi0.imp id (fun h => ⟨h.1, img_keep h.2 (fun j j1 j2 => k.2.2.1 j (Or.inl (by omega)))⟩)
    · rfl
    · rfl
set_option maxHeartbeats 2000000 in
set_option maxRecDepth 4000 in
theorem s_restore : lwS23 InvR := by
  intro L I st x1 hR
  unfold f_X6_restore f_X7_restore
  rw [isIm]
  by_cases c1 : f_X7_in (Int32.toInt64 x1) (0 : Int64) (1 : Int64) = 0
  · rw [if_pos c1, if_pos c1]; exact ⟨rfl, hR⟩
  rw [if_neg c1, if_neg c1]
  have hR' := hR
  obtain ⟨hs, hpad, ⟨i0, hi0⟩, ⟨i1, hi1⟩, hct⟩ := hR
  rcases two_n c1 with rfl | rfl
  · have z : (0 : Int32).toNatClampNeg = 0 := by decide
    rw [z, i0]
    by_cases c2 : st 32 0 = 0
    · rw [if_pos c2, if_pos c2]; exact ⟨rfl, hR'⟩
    rw [if_neg c2, if_neg c2, if_pos rfl, lt_1, lt_1, lt_1]
    obtain ⟨_, him⟩ := hi0.resolve_left c2
    have hk := all_k (keep := false) (o := 0) (s := u2 (u2 st 0 32 ((110 : Int32) * 0)) 0 33 (0 : Int32)) rfl (by rw [u2_k _ _ (by decide), u2_s]; decide) (by decide)
    generalize f_X7_passAll (u2 (u2 st 0 32 ((110 : Int32) * 0)) 0 33 (0 : Int32)) = t at hk ⊢
    have hc := over (L 3) (L 14) (I 3) (I 4) (I 14) (I 15)
    generalize f_X4_takeOver (L 3) (I 3) (I 4) (L 14) (I 14) (I 15) = r at hc ⊢
    obtain ⟨s13, s13', s32⟩ := all_s hk
    have k := hk.2.2.2 rfl
    have him' : rImg (L 14) (I 14) (I 15) (u2 (u2 st 0 32 ((110 : Int32) * 0)) 0 33 (0 : Int32) 31) 0 := him
    have A1 : rSea r.1 r.2.1 r.2.2 (t 0) (t 1) (t 4) (t 9) (t 10) (t 11) := img_old him' hc hk
    have A2 : rPad (I 5 1) (I 6) (t 0 13) (t 13) := pad_congr hpad s13 s13'
    refine ⟨rfl, A1, A2, ⟨?_, ?_⟩, ⟨?_, ?_⟩, hct⟩
    · show I 2 0 = t 32 0
      rw [s32]
      exact i0
    · show t 32 0 = 0 ∨ t 32 0 = 1 ∧ rImg (L 14) (I 14) (I 15) (t 31) 0
      rw [s32]
      exact hi0.imp id (fun h => ⟨h.1, img_keep h.2 (fun j _ _ => k.1 j)⟩)
    · show I 2 1 = t 32 1
      rw [s32]
      exact i1
    · show t 32 1 = 0 ∨ t 32 1 = 1 ∧ rImg (L 16) (I 16) (I 17) (t 31) 110
      rw [s32]
      exact hi1.imp id (fun h => ⟨h.1, img_keep h.2 (fun j _ _ => k.1 j)⟩)
  · have z : (1 : Int32).toNatClampNeg = 1 := by decide
    rw [z, i1]
    by_cases c2 : st 32 1 = 0
    · rw [if_pos c2, if_pos c2]; exact ⟨rfl, hR'⟩
    rw [if_neg c2, if_neg c2, if_neg (show ¬ (1 : Int32) = 0 by decide), lt_1, lt_1, lt_1]
    obtain ⟨_, him⟩ := hi1.resolve_left c2
    have hk := all_k (keep := false) (o := 110) (s := u2 (u2 st 0 32 ((110 : Int32) * 1)) 0 33 (0 : Int32)) rfl (by rw [u2_k _ _ (by decide), u2_s]; decide) (by decide)
    generalize f_X7_passAll (u2 (u2 st 0 32 ((110 : Int32) * 1)) 0 33 (0 : Int32)) = t at hk ⊢
    have hc := over (L 3) (L 16) (I 3) (I 4) (I 16) (I 17)
    generalize f_X4_takeOver (L 3) (I 3) (I 4) (L 16) (I 16) (I 17) = r at hc ⊢
    obtain ⟨s13, s13', s32⟩ := all_s hk
    have k := hk.2.2.2 rfl
    have him' : rImg (L 16) (I 16) (I 17) (u2 (u2 st 0 32 ((110 : Int32) * 1)) 0 33 (0 : Int32) 31) 110 := him
    have A1 : rSea r.1 r.2.1 r.2.2 (t 0) (t 1) (t 4) (t 9) (t 10) (t 11) := img_old him' hc hk
    have A2 : rPad (I 5 1) (I 6) (t 0 13) (t 13) := pad_congr hpad s13 s13'
    refine ⟨rfl, A1, A2, ⟨?_, ?_⟩, ⟨?_, ?_⟩, hct⟩
    · show I 2 0 = t 32 0
      rw [s32]
      exact i0
    · show t 32 0 = 0 ∨ t 32 0 = 1 ∧ rImg (L 14) (I 14) (I 15) (t 31) 0
      rw [s32]
      exact hi0.imp id (fun h => ⟨h.1, img_keep h.2 (fun j _ _ => k.1 j)⟩)
    · show I 2 1 = t 32 1
      rw [s32]
      exact i1
    · show t 32 1 = 0 ∨ t 32 1 = 1 ∧ rImg (L 16) (I 16) (I 17) (t 31) 110
      rw [s32]
      exact hi1.imp id (fun h => ⟨h.1, img_keep h.2 (fun j _ _ => k.1 j)⟩)
