/-! course: the loops -/
theorem os_h {S R : Type} (G : Int32 → Int32 → S → R) (V : Int32 → S) (z3 z2 x1 u : Int32) (b : Bool) (hz : z2 = 0 ∨ z2 = 1) :
    (jn_ (fun (z66_s0 : Int32) => jn_ (fun (z81_s0 : Int32) => lt_ (z3 + (1 : Int32)) (fun (y82 : Int32) => G y82 z81_s0 (V z66_s0))) (fun j81 => jn_ (fun (_ : Unit) => j81 (1 : Int32)) (fun j76 => if z2 = 0 then if bI b = 0 then j81 (0 : Int32) else j76 () else j76 ()))) (fun j66 => if bI b = 0 then j66 u else j66 x1)) = G (z3 + 1) (sI b 1 z2) (V (sI b x1 u)) := by
  have z0 : bI false = 0 := rfl
  have z1 : ¬ bI true = 0 := by decide
  rw [jn_1]
  cases b
  · rw [if_pos z0]
    dsimp only
    rw [jn_1, jn_1, if_pos z0]
    rcases hz with rfl | rfl
    · rw [if_pos rfl]; rfl
    · rw [if_neg (by decide)]; rfl
  · rw [if_neg z1]
    dsimp only
    rw [jn_1, jn_1, if_neg z1]
    rw [ite_self]
    rfl
theorem os_g {S R : Type} (G : Int32 → Int32 → S → R) (V : Int32 → S) (z3 z2 x1 u g wv : Int32) (b : Bool) (hz : z2 = 0 ∨ z2 = 1) (hb : (if 0 ≤ u then false else if g = 0 then (if wv < 0 then false else true) else false) = b) :
    (jn_ (fun (z44_s0 : Int32) => jn_ (fun (z66_s0 : Int32) => jn_ (fun (z81_s0 : Int32) => lt_ (z3 + (1 : Int32)) (fun (y82 : Int32) => G y82 z81_s0 (V z66_s0))) (fun j81 => jn_ (fun (_ : Unit) => j81 (1 : Int32)) (fun j76 => if z2 = 0 then if z44_s0 = 0 then j81 (0 : Int32) else j76 () else j76 ()))) (fun j66 => if z44_s0 = 0 then j66 u else j66 x1)) (fun j44 => jn_ (fun (_ : Unit) => j44 (0 : Int32)) (fun j43 => if 0 ≤ u then j43 () else if g = 0 then if wv < 0 then j43 () else j44 (1 : Int32) else j43 ()))) = G (z3 + 1) (sI b 1 z2) (V (sI b x1 u)) := by
  have hf := os_h G V z3 z2 x1 u false hz
  have ht := os_h G V z3 z2 x1 u true hz
  rw [jn_1, jn_1]
  by_cases q1 : 0 ≤ u
  · rw [if_pos q1] at hb
    rw [← hb, if_pos q1]
    exact hf
  rw [if_neg q1] at hb
  rw [if_neg q1]
  by_cases q2 : g = 0
  · rw [if_pos q2] at hb
    rw [if_pos q2]
    by_cases q3 : wv < 0
    · rw [if_pos q3] at hb
      rw [← hb, if_pos q3]
      exact hf
    · rw [if_neg q3] at hb
      rw [← hb, if_neg q3]
      exact ht
  · rw [if_neg q2] at hb
    rw [← hb, if_neg q2]
    exact hf
def osI (A : Int64) (tt m i : Nat) (s0 t : Nat → Nat → Int32) (any : Int32) : Prop :=
  (∀ q, q ≠ 25 → t q = s0 q) ∧ (∀ c, c < 64 → t 25 c = if c < i then cD A tt (m + 1) c else cD A tt m c) ∧ (any = 0 ∧ (∀ c, c < i → lb (cZ A tt (m + 1)) c = lb (cZ A tt m) c) ∨ any = 1)
theorem reach {A : Int64} {tt m i : Nat} {s0 t : Nat → Nat → Int32} {any : Int32} (ht : tt < 64) (hm : m < 2 ^ 20) (hi : i < 64) (h : osI A tt m i s0 t any) (h0 : lb (cZ A tt m) i = false) (hA : lb A i = false) : (∃ w, w < 8 ∧ wP t i (nI m) w = true) ↔ lb (cZ A tt (m + 1)) i = true := by
  obtain ⟨_, h2, _⟩ := h
  constructor
  · rintro ⟨w, hw, hp⟩
    unfold wP at hp
    rcases ah_1 i hi w hw with e | ⟨e1, e2, e3⟩
    · rw [e, if_pos (by decide)] at hp; cases hp
    · generalize (f_X7_ahead (nI i) (nI w)).toNatClampNeg = y at e1 e2 e3 hp
      rw [e2, if_neg (nI_pos (by omega))] at hp
      have hp := of_decide_eq_true hp
      rw [h2 y e1] at hp
      have hz : lb (cZ A tt m) y = true := by
        by_cases q : y < i
        · rw [if_pos q] at hp
          exact ((cD_iff ht e1 (by omega) (by omega)).mp hp).1
        · rw [if_neg q] at hp
          exact ((cD_iff ht e1 (by omega) (Nat.le_refl m)).mp hp).1
      exact (zb_s hi).mpr ⟨hA, y, e1, hz, e3⟩
  · intro hz
    obtain ⟨_, d, hd, hdz, hdn⟩ := (zb_s hi).mp hz
    have ne : d ≠ i := fun q => by rw [q, h0] at hdz; cases hdz
    have d1 : dN i d = 1 := by
      obtain ⟨_, _, g⟩ := far_dN i hi d hd
      rcases Nat.eq_zero_or_pos (dN i d) with q | q
      · exact absurd (g q).symm ne
      · omega
    obtain ⟨w, hw, hah⟩ := ah_2 i hi d hd d1
    have hfirst : ∀ e, e < m → lb (cZ A tt e) d = false := fun e he => by
      cases g : lb (cZ A tt e) d
      · rfl
      · rw [zb_next ht hi hd hA g hdn (by omega)] at h0; cases h0
    refine ⟨w, hw, ?_⟩
    unfold wP
    rw [hah, if_neg (nI_pos (by omega)), nI_clamp (by omega), h2 d hd]
    apply decide_eq_true
    by_cases q : d < i
    · rw [if_pos q]
      exact (cD_iff ht hd (by omega) (by omega)).mpr ⟨hdz, hfirst⟩
    · rw [if_neg q]
      exact (cD_iff ht hd (by omega) (Nat.le_refl m)).mpr ⟨hdz, hfirst⟩
theorem os_L {A : Int64} {tt m : Nat} {s0 : Nat → Nat → Int32} (ht : tt < 64) (hm : m < 2 ^ 20) (hg : ∀ c, c < 64 → s0 1 c = bI (lb A c)) (k : Int32 → (Nat → Nat → Int32) → (Int32 × (Nat → Nat → Int32))) : ∀ (n i : Nat) (t : Nat → Nat → Int32) (any : Int32), i + n = 64 → osI A tt m i s0 t any → ∃ t' any', osI A tt m 64 s0 t' any' ∧ f_X7_oneStepMore_L4 (nI (m + 1)) k n (nI i) any t = k any' t' := by
  intro n
  induction n with
  | zero =>
    intro i t any hi h
    have e : i = 64 := by omega
    subst e
    exact ⟨t, any, h, by rw [f_X7_oneStepMore_L4]⟩
  | succ n ih =>
    intro i t any hi h
    have hi6 : i < 64 := by omega
    have h' := h
    obtain ⟨h1, h2, h3⟩ := h
    have hany : any = 0 ∨ any = 1 := h3.imp (fun q => q.1) id
    have eu : t 25 i = cD A tt m i := by rw [h2 i hi6, if_neg (Nat.lt_irrefl i)]
    have eg : t 1 i = bI (lb A i) := by rw [h1 1 (by decide)]; exact hg i hi6
    rw [f_X7_oneStepMore_L4, if_neg (ge64 hi6), nI_clamp (by omega), nI_pred, eu, eg]
    -- the new cell
    have fin : ∀ b : Bool, (if 0 ≤ cD A tt m i then false else if bI (lb A i) = 0 then (if f_X7_wayTo (nI i) (nI m) t < 0 then false else true) else false) = b → sI b (nI (m + 1)) (cD A tt m i) = cD A tt (m + 1) i → (b = false → lb (cZ A tt (m + 1)) i = lb (cZ A tt m) i) →
        ∃ t' any', osI A tt m 64 s0 t' any' ∧ (jn_ (fun (z44_s0 : Int32) => jn_ (fun (z66_s0 : Int32) => jn_ (fun (z81_s0 : Int32) => lt_ (nI i + (1 : Int32)) (fun (y82 : Int32) => f_X7_oneStepMore_L4 (nI (m + 1)) k n y82 z81_s0 (u2 t 25 i z66_s0))) (fun j81 => jn_ (fun (_ : Unit) => j81 (1 : Int32)) (fun j76 => if any = 0 then if z44_s0 = 0 then j81 (0 : Int32) else j76 () else j76 ()))) (fun j66 => if z44_s0 = 0 then j66 (cD A tt m i) else j66 (nI (m + 1)))) (fun j44 => jn_ (fun (_ : Unit) => j44 (0 : Int32)) (fun j43 => if 0 ≤ cD A tt m i then j43 () else if bI (lb A i) = 0 then if f_X7_wayTo (nI i) (nI m) t < 0 then j43 () else j44 (1 : Int32) else j43 ()))) = k any' t' := by
      intro b hb hv hs
      obtain ⟨t', any', g1, g2⟩ := ih (i + 1) (u2 t 25 i (cD A tt (m + 1) i)) (sI b 1 any) (by omega) ⟨fun q hq => by rw [u2_p _ _ hq, h1 q hq], fun c hc => by
        rw [u2_v]
        by_cases e : c = i
        · rw [if_pos e, if_pos (by omega), e]
        · rw [if_neg e, h2 c hc]
          by_cases g : c < i
          · rw [if_pos g, if_pos (by omega)]
          · rw [if_neg g, if_neg (by omega)], by
        cases b
        · rcases h3 with ⟨a1, a2⟩ | a1
          · exact Or.inl ⟨a1, fun c hc => by
              by_cases e : c = i
              · rw [e]; exact hs rfl
              · exact a2 c (by omega)⟩
          · exact Or.inr a1
        · exact Or.inr rfl⟩
      refine ⟨t', any', g1, ?_⟩
      rw [os_g (f_X7_oneStepMore_L4 (nI (m + 1)) k n) (fun z => u2 t 25 i z) (nI i) any (nI (m + 1)) (cD A tt m i) (bI (lb A i)) (f_X7_wayTo (nI i) (nI m) t) b hany hb, hv, nI_1]
      exact g2
    cases hz : lb (cZ A tt m) i
    · have e6 := cD_no ht hi6 m hz
      cases hA : lb A i
      · have hr := reach ht hm hi6 h' hz hA
        have hw := wt_eq t i (nI m)
        rcases low_exW (wP t i (nI m)) 8 with hn | ⟨w, w1, w2, w3⟩
        · have hno : lb (cZ A tt (m + 1)) i = false := by
            cases q : lb (cZ A tt (m + 1)) i
            · rfl
            · obtain ⟨w, hw, hp⟩ := hr.mpr q
              rw [hn w hw] at hp; cases hp
          rw [lowW_no 8 _ hn] at hw
          rw [hA] at fin
          exact fin false (by rw [e6, hw, if_neg (by decide), if_pos (show bI false = 0 from rfl), if_pos (by decide)]) (by rw [sI, e6, cD_no ht hi6 _ hno]) (fun _ => by rw [hno, hz])
        · have hyes := hr.mp ⟨w, w1, w2⟩
          rw [lowW_k w2 w3 8 _ w1] at hw
          rw [hA] at fin
          exact fin true (by rw [e6, hw, if_neg (by decide), if_pos (show bI false = 0 from rfl), if_neg (nI_pos (by omega))]) (by rw [sI, cD, hz, if_neg (by decide), hyes, if_pos rfl]) (fun q => by cases q)
      · have hno : lb (cZ A tt (m + 1)) i = false := by
          cases q : lb (cZ A tt (m + 1)) i
          · rfl
          · rw [zb_land ht hi6 _ q] at hA; cases hA
        rw [hA] at fin
        exact fin false (by rw [e6, if_neg (by decide), if_neg (by decide)]) (by rw [sI, e6, cD_no ht hi6 _ hno]) (fun _ => by rw [hno, hz])
    · obtain ⟨d, d1, d2, _, _⟩ := cD_yes ht hi6 m hz
      exact fin false (by rw [d2, if_pos (nI_pos' (by omega))]) (by rw [sI, cD, hz, if_pos rfl]) (fun _ => by rw [zb_up ht hi6 hz, hz])
theorem cD_same {A : Int64} {tt m c : Nat} (ht : tt < 64) (hc : c < 64) (hm : m ≤ 65) (h : lb (cZ A tt m) c = lb (cZ A tt 65) c) : cD A tt m c = cD A tt 65 c := by
  cases q : lb (cZ A tt m) c
  · rw [q] at h
    rw [cD_no ht hc _ q, cD_no ht hc _ h.symm]
  · obtain ⟨d, d1, d2, d3, d4⟩ := cD_yes ht hc m q
    rw [d2]
    exact ((cD_iff ht hc (by decide) (by omega)).mpr ⟨d3, d4⟩).symm
theorem c80 {A : Int64} {tt : Nat} {s0 : Nat → Nat → Int32} (ht : tt < 64) (hg : ∀ c, c < 64 → s0 1 c = bI (lb A c)) (k : (Nat → Nat → Int32) → (Int32 × (Nat → Nat → Int32))) : ∀ (n m : Nat) (t : Nat → Nat → Int32) (any : Int32), m + n = 65 → (∀ q, q ≠ 25 → t q = s0 q) → (∀ c, c < 64 → t 25 c = cD A tt m c) → (any = 0 ∧ (∃ j, m = j + 1 ∧ ∀ c, c < 64 → lb (cZ A tt (j + 1)) c = lb (cZ A tt j) c) ∨ any = 1) →
    ∃ t', (∀ q, q ≠ 25 → t' q = s0 q) ∧ (∀ c, c < 64 → t' 25 c = cD A tt 65 c) ∧ f_X7_course_L80 k n (nI (m + 1)) any t = k t' := by
  intro n
  induction n with
  | zero =>
    intro m t any hm h1 h2 h3
    have e : m = 65 := by omega
    subst e
    exact ⟨t, h1, h2, by rw [f_X7_course_L80]⟩
  | succ n ih =>
    intro m t any hm h1 h2 h3
    rw [f_X7_course_L80]
    rcases h3 with ⟨a1, j, a2, a3⟩ | a1
    · rw [if_pos a1]
      refine ⟨t, h1, fun c hc => ?_, rfl⟩
      rw [h2 c hc]
      have e := zb_eq a3 (65 - j)
      have e2 := zb_eq a3 1
      rw [show j + (65 - j) = 65 by omega] at e
      exact cD_same ht hc (by omega) (by rw [a2, e2, e])
    · rw [if_neg (by rw [a1]; decide), lt_1, lt_1]
      obtain ⟨t', any', g1, g2⟩ := os_L (m := m) ht (by omega) hg (fun (w4_2 : Int32) (w4_st : Nat → Nat → Int32) => (w4_2, w4_st)) 64 0 t 0 (by omega) ⟨h1, fun c hc => by rw [if_neg (Nat.not_lt_zero c)]; exact h2 c hc, Or.inl ⟨rfl, fun c hc => absurd hc (Nat.not_lt_zero c)⟩⟩
      have e : f_X7_oneStepMore (nI (m + 1)) t = (any', t') := g2
      rw [e]
      dsimp only
      rw [nI_1]
      exact ih (m + 1) t' any' (by omega) g1.1 (fun c hc => by rw [g1.2.1 c hc, if_pos hc]) (g1.2.2.imp (fun q => ⟨q.1, m, rfl, q.2⟩) id)
theorem c32_g {R : Type} (G : Int32 → (Nat → Nat → Int32) → R) (V : Int32 → (Nat → Nat → Int32)) (z x2 g : Int32) (b : Bool) (hb : (if z = x2 then (if g = 0 then true else false) else false) = b) :
    (jn_ (fun (z67_s0 : Int32) => lt_ (z + (1 : Int32)) (fun (y68 : Int32) => G y68 (V z67_s0))) (fun j67 => jn_ (fun (_ : Unit) => j67 (-6 : Int32)) (fun j65 => if z = x2 then if g = 0 then j67 (0 : Int32) else j65 () else j65 ()))) = G (z + 1) (V (sI b 0 (-6))) := by
  rw [jn_1, jn_1]
  by_cases q1 : z = x2
  · rw [if_pos q1] at hb
    rw [if_pos q1]
    by_cases q2 : g = 0
    · rw [if_pos q2] at hb
      rw [← hb, if_pos q2]; rfl
    · rw [if_neg q2] at hb
      rw [← hb, if_neg q2]; rfl
  · rw [if_neg q1] at hb
    rw [← hb, if_neg q1]; rfl
theorem c32 {A : Int64} {tt : Nat} {s0 : Nat → Nat → Int32} (ht : tt < 64) (hg : ∀ c, c < 64 → s0 1 c = bI (lb A c)) (k : (Nat → Nat → Int32) → (Int32 × (Nat → Nat → Int32))) : ∀ (n i : Nat) (t : Nat → Nat → Int32), i + n = 64 → (∀ q, q ≠ 25 → t q = s0 q) → (∀ c, c < i → t 25 c = cD A tt 0 c) → ∃ t', (∀ q, q ≠ 25 → t' q = s0 q) ∧ (∀ c, c < 64 → t' 25 c = cD A tt 0 c) ∧ f_X7_course_L32 (nI tt) k n (nI i) t = k t' := by
  intro n
  induction n with
  | zero =>
    intro i t hi h1 h2
    have e : i = 64 := by omega
    subst e
    exact ⟨t, h1, h2, by rw [f_X7_course_L32]⟩
  | succ n ih =>
    intro i t hi h1 h2
    have hi6 : i < 64 := by omega
    have eg : t 1 i = bI (lb A i) := by rw [h1 1 (by decide)]; exact hg i hi6
    have hv : ∀ b : Bool, (if nI i = nI tt then (if bI (lb A i) = 0 then true else false) else false) = b → sI b 0 (-6) = cD A tt 0 i := by
      intro b hb
      have hz := zb_0 (A := A) ht hi6
      by_cases q : i = tt
      · subst q
        rw [if_pos rfl] at hb
        cases hA : lb A i
        · rw [hA, if_pos (show bI false = 0 from rfl)] at hb
          rw [← hb, sI, cD, hz.mpr ⟨rfl, hA⟩, if_pos rfl, nI_0]
        · rw [hA, if_neg (show ¬ bI true = 0 by decide)] at hb
          rw [← hb, sI, cD, zb_none ht hA 0 i hi6, if_neg (by decide)]
      · rw [if_neg (fun z => q ((nI_eq (by omega) (by omega)).mp z))] at hb
        have hno : lb (cZ A tt 0) i = false := by
          cases g : lb (cZ A tt 0) i
          · rfl
          · exact absurd (hz.mp g).1 q
        rw [← hb, sI, cD, hno, if_neg (by decide)]
    obtain ⟨t', g1, g2, g3⟩ := ih (i + 1) (u2 t 25 i (cD A tt 0 i)) (by omega) (fun q hq => by rw [u2_p _ _ hq, h1 q hq]) (fun c hc => by
      rw [u2_v]
      by_cases e : c = i
      · rw [if_pos e, e]
      · rw [if_neg e]; exact h2 c (by omega))
    refine ⟨t', g1, g2, ?_⟩
    rw [f_X7_course_L32, if_neg (ge64 hi6), nI_clamp (by omega), eg, c32_g (f_X7_course_L32 (nI tt) k n) (fun z => u2 t 25 i z) (nI i) (nI tt) (bI (lb A i)) _ rfl, hv _ rfl, nI_1]
    exact g3
theorem c50 {L : Nat → Nat → Int64} {x3 : Int32} {a tt : Nat} (ha : a < 64) (k : Unit → Int32) : ∀ (n i : Nat), i + 1 + n = 64 →
    ((lb (cZ (L 3 0) tt 63) a = false → (∀ e, e ≤ 63 → lb (cZ (L 3 0) tt e) a = false) → f_X6_fewestSteps_L50 (nI a) x3 L k n (nI (i + 1)) (cZ (L 3 0) tt i) = k ()) ∧
    (∀ d, lb (cZ (L 3 0) tt d) a = true → (∀ e, e < d → lb (cZ (L 3 0) tt e) a = false) → i < d → d ≤ 63 → f_X6_fewestSteps_L50 (nI a) x3 L k n (nI (i + 1)) (cZ (L 3 0) tt i) = if x3 = 0 then nI d else f_X0_leastWayInto (nI a) (cZ (L 3 0) tt (d - 1)))) := by
  intro n
  induction n with
  | zero =>
    intro i hi
    refine ⟨fun _ _ => by rw [f_X6_fewestSteps_L50], fun d _ _ h1 h2 => by omega⟩
  | succ n ih =>
    intro i hi
    have e : (f_X0_spread (cZ (L 3 0) tt i)) &&& ((L 3 0) ^^^ (-1 : Int64)) = cZ (L 3 0) tt (i + 1) := rfl
    obtain ⟨ih1, ih2⟩ := ih (i + 1) (by omega)
    have hu : f_X6_fewestSteps_L50 (nI a) x3 L k (n + 1) (nI (i + 1)) (cZ (L 3 0) tt i) = if bI (lb (cZ (L 3 0) tt (i + 1)) a) = 0 then f_X6_fewestSteps_L50 (nI a) x3 L k n (nI (i + 1 + 1)) (cZ (L 3 0) tt (i + 1)) else if x3 = 0 then nI (i + 1) else f_X0_leastWayInto (nI a) (cZ (L 3 0) tt i) := by
      rw [f_X6_fewestSteps_L50, if_neg (ge64 (by omega)), lt_1, e, hold_b _ ha, lt_1, nI_1]
    rw [hu]
    refine ⟨fun h1 h2 => ?_, fun d h1 h2 h3 h4 => ?_⟩
    · rw [h2 (i + 1) (by omega), if_pos (show bI false = 0 from rfl)]
      exact ih1 h1 h2
    · by_cases q : d = i + 1
      · subst q
        rw [h1, if_neg (by decide), Nat.add_sub_cancel]
      · rw [h2 (i + 1) (by omega), if_pos (show bI false = 0 from rfl)]
        exact ih2 d h1 h2 (by omega) h4
set_option maxHeartbeats 1000000 in
set_option maxRecDepth 4000 in
theorem s_course : lwS12 InvR := by
  intro L I st x1 x2 x3 hR
  have hg : ∀ c, c < 64 → st 1 c = bI (lb (L 3 0) c) := hR.1.1
  unfold f_X6_course f_X7_course
  rw [cell_eq, cell_eq, in_eq x3 (a' := 0) (b' := 1) (by decide) (by decide)]
  by_cases c1 : f_X0_isCell x1 = 0
  · rw [if_pos c1, if_pos c1]; exact ⟨rfl, hR⟩
  rw [if_neg c1, if_neg c1]
  by_cases c2 : f_X0_isCell x2 = 0
  · rw [if_pos c2, if_pos c2]; exact ⟨rfl, hR⟩
  rw [if_neg c2, if_neg c2]
  by_cases c3 : f_X6_within x3 0 1 = 0
  · rw [if_pos c3, if_pos c3]; exact ⟨rfl, hR⟩
  rw [if_neg c3, if_neg c3]
  obtain ⟨a, ha, rfl⟩ := cell_n c1
  obtain ⟨tt, ht, rfl⟩ := cell_n c2
  obtain ⟨t1, f1, f2, f3⟩ := c32 (A := L 3 0) ht hg (fun (w32_st : Nat → Nat → Int32) => f_X7_course_L80  (fun (w80_st : Nat → Nat → Int32) => if x3 = 0 then ((w80_st 25 (Int32.toNatClampNeg (nI a))), w80_st) else if (1 : Int32) ≤ (w80_st 25 (Int32.toNatClampNeg (nI a))) then ((f_X7_wayTo (nI a) ((w80_st 25 (Int32.toNatClampNeg (nI a))) - (1 : Int32)) w80_st), w80_st) else ((-6 : Int32), w80_st)) (65) (1 : Int32) (1 : Int32) w32_st) 64 0 st (by omega) (fun _ _ => rfl) (fun c hc => absurd hc (Nat.not_lt_zero c))
  obtain ⟨t, g1, g2, g3⟩ := c80 (A := L 3 0) (s0 := st) ht hg (fun (w80_st : Nat → Nat → Int32) => if x3 = 0 then ((w80_st 25 (Int32.toNatClampNeg (nI a))), w80_st) else if (1 : Int32) ≤ (w80_st 25 (Int32.toNatClampNeg (nI a))) then ((f_X7_wayTo (nI a) ((w80_st 25 (Int32.toNatClampNeg (nI a))) - (1 : Int32)) w80_st), w80_st) else ((-6 : Int32), w80_st)) 65 0 t1 1 (by omega) f1 f2 (Or.inr rfl)
  rw [nI_0] at f3
  have hM := f3.trans g3
  rw [hM]
  have hR' : InvR L I t := inv_pt hR (fun k _ => by rw [g1 0 (by decide)]) (fun q hq j => by rw [g1 q (by omega)])
  rw [nI_clamp (by omega), g2 a ha]
  unfold f_X6_fewestSteps
  have ea : f_X4_isLand (nI a) (L 3) (I 3) (I 4) = bI (lb (L 3 0) a) := hold_b _ ha
  have et : f_X4_isLand (nI tt) (L 3) (I 3) (I 4) = bI (lb (L 3 0) tt) := hold_b _ ht
  rw [ea, et, lt_1]
  have hno : cD (L 3 0) tt 65 a = -6 → ((-6 : Int32) = (if x3 = 0 then (cD (L 3 0) tt 65 a, t) else if (1 : Int32) ≤ cD (L 3 0) tt 65 a then (f_X7_wayTo (nI a) (cD (L 3 0) tt 65 a - 1) t, t) else ((-6 : Int32), t)).1 ∧ InvR L I (if x3 = 0 then (cD (L 3 0) tt 65 a, t) else if (1 : Int32) ≤ cD (L 3 0) tt 65 a then (f_X7_wayTo (nI a) (cD (L 3 0) tt 65 a - 1) t, t) else ((-6 : Int32), t)).2) := fun e => by
    rw [e]
    by_cases q : x3 = 0
    · rw [if_pos q]; exact ⟨rfl, hR'⟩
    · rw [if_neg q, if_neg (by decide)]; exact ⟨rfl, hR'⟩
  cases hA : lb (L 3 0) a
  · rw [if_pos (show bI false = 0 from rfl)]
    cases hT : lb (L 3 0) tt
    · rw [if_pos (show bI false = 0 from rfl)]
      by_cases q : a = tt
      · subst q
        have e0 : cD (L 3 0) a 65 a = nI 0 := (cD_iff ht ht (by decide) (by decide)).mpr ⟨(zb_0 ht ht).mpr ⟨rfl, hA⟩, fun e he => absurd he (Nat.not_lt_zero e)⟩
        rw [if_pos rfl, e0]
        by_cases z : x3 = 0
        · rw [if_pos z, if_pos z]; exact ⟨rfl, hR'⟩
        · rw [if_neg z, if_neg z, if_neg (by decide)]; exact ⟨rfl, hR'⟩
      · have h0 : lb (cZ (L 3 0) tt 0) a = false := by
          cases g : lb (cZ (L 3 0) tt 0) a
          · rfl
          · exact absurd ((zb_0 ht ha).mp g).1 q
        have ez : f_X0_only (nI tt) = cZ (L 3 0) tt 0 := by rw [cZ, hT, if_neg (by decide)]
        rw [if_neg (fun z => q ((nI_eq (by omega) (by omega)).mp z)), ez]
        obtain ⟨k1, k2⟩ := c50 (L := L) (x3 := x3) (tt := tt) ha (fun (_ : Unit) => (-6 : Int32)) 63 0 rfl
        cases h65 : lb (cZ (L 3 0) tt 65) a
        · have hall : ∀ e, e ≤ 63 → lb (cZ (L 3 0) tt e) a = false := fun e he => by
            cases g : lb (cZ (L 3 0) tt e) a
            · rfl
            · rw [zb_le2 ht ha (show e ≤ 65 by omega) g] at h65; cases h65
          have e50 := k1 (hall 63 (Nat.le_refl 63)) hall
          have e50' : f_X6_fewestSteps_L50 (nI a) x3 L (fun (_ : Unit) => (-6 : Int32)) (63) (1 : Int32) (cZ (L 3 0) tt 0) = -6 := e50
          rw [e50']
          exact hno (cD_no ht ha 65 h65)
        · obtain ⟨d, d1, d2, d3, d4⟩ := cD_yes ht ha 65 h65
          have hd0 : 0 < d := by
            rcases Nat.eq_zero_or_pos d with z | z
            · rw [z, h0] at d3; cases d3
            · exact z
          have hd63 : d ≤ 63 := by
            by_cases z : d ≤ 63
            · exact z
            · have := d4 63 (by omega)
              rw [zb_63 ht ha h65] at this; cases this
          have e50 := k2 d d3 d4 hd0 hd63
          have e50' : f_X6_fewestSteps_L50 (nI a) x3 L (fun (_ : Unit) => (-6 : Int32)) (63) (1 : Int32) (cZ (L 3 0) tt 0) = if x3 = 0 then nI d else f_X0_leastWayInto (nI a) (cZ (L 3 0) tt (d - 1)) := e50
          rw [e50', d2]
          by_cases z : x3 = 0
          · rw [if_pos z, if_pos z]; exact ⟨rfl, hR'⟩
          · obtain ⟨d', rfl⟩ : ∃ d', d = d' + 1 := ⟨d - 1, by omega⟩
            rw [if_neg z, if_neg z, if_pos (show (1 : Int32) ≤ nI (d' + 1) from nI_le (a := 1) (by omega) (by omega)), nI_pred, wt_eq, Nat.add_sub_cancel]
            refine ⟨?_, hR'⟩
            have el : f_X0_leastWayInto (nI a) (cZ (L 3 0) tt d') = lowW (fun i => if f_X0_holds (cZ (L 3 0) tt d') (f_X0_next (nI a) (nI i)) = 0 then false else true) 8 (-6) := lw_L ha (fun (_ : Unit) => (-6 : Int32)) rfl 8 0 rfl (fun i hi => absurd hi (Nat.not_lt_zero i))
            dsimp only
            rw [el]
            refine lowW_cg 8 (-6) (fun w hw => ?_)
            unfold wP
            rw [next_eq a ha w hw]
            rcases ah_1 a ha w hw with e | ⟨e1, e2, e3⟩
            · rw [e, if_pos (show (-6 : Int32) < 0 by decide)]
              unfold f_X0_holds
              rw [if_pos (show (-6 : Int32) < 0 by decide), if_pos rfl]
            · generalize (f_X7_ahead (nI a) (nI w)).toNatClampNeg = y at e1 e2 e3
              rw [e2, if_neg (nI_pos (by omega)), hold_b _ e1, g2 y e1]
              cases hy : lb (cZ (L 3 0) tt d') y
              · rw [if_pos (show bI false = 0 from rfl), decide_eq_false (fun g => by rw [((cD_iff ht e1 (by decide) (by omega)).mp g).1] at hy; cases hy)]
              · rw [if_neg (by decide), decide_eq_true ((cD_iff ht e1 (by decide) (by omega)).mpr ⟨hy, fun e he => by
                  cases g : lb (cZ (L 3 0) tt e) y
                  · rfl
                  · have := d4 d' (by omega)
                    rw [zb_next ht ha e1 hA g e3 (by omega)] at this; cases this⟩)]
    · rw [if_neg (show ¬ bI true = 0 by decide)]
      exact hno (cD_no ht ha 65 (zb_none ht hT 65 a ha))
  · rw [if_neg (show ¬ bI true = 0 by decide)]
    refine hno (cD_no ht ha 65 ?_)
    cases g : lb (cZ (L 3 0) tt 65) a
    · rfl
    · rw [zb_land ht ha _ g] at hA; cases hA
