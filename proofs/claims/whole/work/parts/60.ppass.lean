/-! image, restore -/
theorem u2_s {α : Type} (f : Nat → Nat → α) (p k : Nat) (v : α) : u2 f p k v p k = v := by
  show (if p = p then (fun j => if j = k then v else f p j) else f p) k = v
  rw [if_pos rfl]
  exact if_pos rfl
theorem u2_k {α : Type} (f : Nat → Nat → α) {p k j : Nat} (v : α) (h : ¬ j = k) : u2 f p k v p j = f p j := by
  show (if p = p then (fun j => if j = k then v else f p j) else f p) j = _
  rw [if_pos rfl]
  exact if_neg h
theorem u2_p {α : Type} (f : Nat → Nat → α) {p k q : Nat} (v : α) (h : ¬ q = p) : u2 f p k v q = f q := if_neg h
theorem u2_v {α : Type} (f : Nat → Nat → α) (p k j : Nat) (v : α) : u2 f p k v p j = if j = k then v else f p j := by
  by_cases h : j = k
  · rw [h, u2_s, if_pos rfl]
  · rw [u2_k _ _ h, if_neg h]
/-- what one pass of a number leaves: keep writes it, the other way reads it -/
theorem pass_k {st : Nat → Nat → Int32} {keep : Bool} {p : Nat} (v : Int32) (hm : st 0 33 = bI keep) (hp : st 0 32 = nI p) (hl : p < 220) :
    f_X7_pass v st = (sI keep v (st 31 p), u2 (u2 st 31 p (sI keep v (st 31 p))) 0 32 (nI (p + 1))) := by
  unfold f_X7_pass jn_ lt_
  dsimp only
  rw [hm, hp, nI_clamp (by omega), nI_1]
  cases keep
  · rw [bI_f, if_pos rfl, sI]
  · rw [bI_t, if_neg (show ¬ (1 : Int32) = 0 by decide), sI]
/-- the state behind a number of passes: A the array (or 0), n numbers from p on -/
def rowP (keep : Bool) (A n p : Nat) (s t : Nat → Nat → Int32) : Prop :=
  (∀ k, k ≠ 32 → t 0 k = s 0 k) ∧ t 0 32 = nI (p + n) ∧ (∀ q, q ≠ 0 → q ≠ 31 → q ≠ A → ∀ j, t q j = s q j) ∧
  (∀ j, t 31 j = if keep = true ∧ p ≤ j ∧ j < p + n then s A (j - p) else s 31 j) ∧ (∀ j, t A j = if keep = false ∧ j < n then s 31 (p + j) else s A j)
theorem row_0 {keep : Bool} {A p : Nat} {s : Nat → Nat → Int32} (hp : s 0 32 = nI p) : rowP keep A 0 p s s := by
  refine ⟨fun _ _ => rfl, hp, fun _ _ _ _ _ => rfl, fun j => ?_, fun j => ?_⟩
  · rw [if_neg (fun h => by omega)]
  · rw [if_neg (fun h => by omega)]
theorem row_1 {keep : Bool} {A i p : Nat} {s t : Nat → Nat → Int32} (hA : A ≠ 0) (hB : A ≠ 31) (hm : s 0 33 = bI keep) (hl : p + i < 220) (h : rowP keep A i p s t) :
    rowP keep A (i + 1) p s (u2 (f_X7_pass (t A i) t).2 A i (f_X7_pass (t A i) t).1) := by
  obtain ⟨h1, h2, h3, h4, h5⟩ := h
  rw [pass_k (keep := keep) (p := p + i) (t A i) ((h1 33 (by decide)).trans hm) h2 hl]
  dsimp only
  generalize hv : sI keep (t A i) (t 31 (p + i)) = v
  have ev : v = if keep = true then s A i else s 31 (p + i) := by
    rw [← hv]
    cases keep
    · show t 31 (p + i) = _
      rw [h4, if_neg (fun h => by cases h.1), if_neg (by decide)]
    · show t A i = _
      rw [h5, if_neg (fun h => by cases h.1), if_pos rfl]
  refine ⟨fun k hk => ?_, ?_, fun q q0 q31 qA j => ?_, fun j => ?_, fun j => ?_⟩
  · rw [u2_p _ _ (fun e => hA e.symm), u2_k _ _ hk, u2_p _ _ (by decide), h1 k hk]
  · rw [u2_p _ _ (fun e => hA e.symm), u2_s, Nat.add_assoc]
  · rw [u2_p _ _ qA, u2_p _ _ q0, u2_p _ _ q31, h3 q q0 q31 qA]
  · rw [u2_p _ _ (fun e => hB e.symm), u2_p _ _ (by decide), u2_v, h4, ev]
    by_cases e : j = p + i
    · subst e
      rw [if_pos rfl]
      cases keep
      · rw [if_neg (by decide), if_neg (fun h => by cases h.1)]
      · rw [if_pos rfl, if_pos ⟨rfl, by omega, by omega⟩, Nat.add_sub_cancel_left]
    · rw [if_neg e]
      by_cases c : keep = true ∧ p ≤ j ∧ j < p + i
      · rw [if_pos c, if_pos ⟨c.1, c.2.1, by omega⟩]
      · rw [if_neg c, if_neg (fun h => c ⟨h.1, h.2.1, by omega⟩)]
  · rw [u2_v, u2_p _ _ hA, u2_p _ _ hB, h5, ev]
    by_cases e : j = i
    · subst e
      rw [if_pos rfl]
      cases keep
      · rw [if_neg (by decide), if_pos ⟨rfl, by omega⟩]
      · rw [if_pos rfl, if_neg (fun h => by cases h.1)]
    · rw [if_neg e]
      by_cases c : keep = false ∧ j < i
      · rw [if_pos c, if_pos ⟨c.1, by omega⟩]
      · rw [if_neg c, if_neg (fun h => c ⟨h.1, by omega⟩)]
/-- one field of the object -/
def fldP (keep : Bool) (F p : Nat) (s t : Nat → Nat → Int32) : Prop :=
  t 0 32 = nI (p + 1) ∧ (∀ k, k ≠ 32 → t 0 k = if keep = false ∧ k = F then s 31 p else s 0 k) ∧ (∀ q, q ≠ 0 → q ≠ 31 → t q = s q) ∧ (∀ j, t 31 j = if keep = true ∧ j = p then s 0 F else s 31 j)
theorem fld_1 {keep : Bool} {F p : Nat} {s : Nat → Nat → Int32} (hF : F ≠ 32) (hm : s 0 33 = bI keep) (hp : s 0 32 = nI p) (hl : p < 220) :
    fldP keep F p s (u2 (f_X7_pass (s 0 F) s).2 0 F (f_X7_pass (s 0 F) s).1) := by
  rw [pass_k (keep := keep) (p := p) (s 0 F) hm hp hl]
  dsimp only
  refine ⟨?_, fun k hk => ?_, fun q q0 q31 => ?_, fun j => ?_⟩
  · rw [u2_k _ _ (fun e => hF e.symm), u2_s]
  · rw [u2_v, u2_k _ _ hk, u2_p _ _ (by decide)]
    cases keep
    · by_cases e : k = F
      · rw [if_pos e, if_pos ⟨rfl, e⟩]; rfl
      · rw [if_neg e, if_neg (fun h => e h.2)]
    · rw [if_neg (fun h : true = false ∧ k = F => by cases h.1)]
      by_cases e : k = F
      · rw [if_pos e, e]; rfl
      · rw [if_neg e]
  · rw [u2_p _ _ q0, u2_p _ _ q0, u2_p _ _ q31]
  · rw [u2_p _ _ (by decide), u2_p _ _ (by decide), u2_v]
    cases keep
    · rw [if_neg (fun h : false = true ∧ j = p => by cases h.1)]
      by_cases e : j = p
      · rw [if_pos e, e]; rfl
      · rw [if_neg e]
    · by_cases e : j = p
      · rw [if_pos e, if_pos ⟨rfl, e⟩]; rfl
      · rw [if_neg e, if_neg (fun h => e h.2)]

theorem row1_L (keep : Bool) (p : Nat) (s : Nat → Nat → Int32) (hm : s 0 33 = bI keep) (hl : p + 64 ≤ 220) (k : (Nat → Nat → Int32) → (Nat → Nat → Int32)) : ∀ (n i : Nat) (t : Nat → Nat → Int32), i + n = 64 → rowP keep 1 i p s t → ∃ t', rowP keep 1 64 p s t' ∧ f_X7_passRow_1_L2 (nI 64) k n (nI i) t = k t' := by
  intro n
  induction n with
  | zero =>
    intro i t hi h
    have e : i = 64 := by omega
    subst e
    exact ⟨t, h, by rw [f_X7_passRow_1_L2]⟩
  | succ n ih =>
    intro i t hi h
    obtain ⟨t', h1, h2⟩ := ih (i + 1) _ (by omega) (row_1 (by decide) (by decide) hm (by omega) h)
    refine ⟨t', h1, ?_⟩
    rw [f_X7_passRow_1_L2, if_neg (nI_ge (by omega) (by decide))]
    unfold lt_
    dsimp only
    rw [nI_clamp (by omega), nI_1, h2]
theorem row1 {keep : Bool} {p : Nat} {s : Nat → Nat → Int32} (hm : s 0 33 = bI keep) (hp : s 0 32 = nI p) (hl : p + 64 ≤ 220) : rowP keep 1 64 p s (f_X7_passRow_1 (64 : Int32) s) := by
  obtain ⟨t', h1, h2⟩ := row1_L keep p s hm hl (fun w => w) 64 0 s (by omega) (row_0 hp)
  have e : f_X7_passRow_1 (64 : Int32) s = t' := h2
  rw [e]
  exact h1
theorem row2_L (keep : Bool) (p : Nat) (s : Nat → Nat → Int32) (hm : s 0 33 = bI keep) (hl : p + 6 ≤ 220) (k : (Nat → Nat → Int32) → (Nat → Nat → Int32)) : ∀ (n i : Nat) (t : Nat → Nat → Int32), i + n = 6 → rowP keep 4 i p s t → ∃ t', rowP keep 4 6 p s t' ∧ f_X7_passRow_2_L2 (nI 6) k n (nI i) t = k t' := by
  intro n
  induction n with
  | zero =>
    intro i t hi h
    have e : i = 6 := by omega
    subst e
    exact ⟨t, h, by rw [f_X7_passRow_2_L2]⟩
  | succ n ih =>
    intro i t hi h
    obtain ⟨t', h1, h2⟩ := ih (i + 1) _ (by omega) (row_1 (by decide) (by decide) hm (by omega) h)
    refine ⟨t', h1, ?_⟩
    rw [f_X7_passRow_2_L2, if_neg (nI_ge (by omega) (by decide))]
    unfold lt_
    dsimp only
    rw [nI_clamp (by omega), nI_1, h2]
theorem row2 {keep : Bool} {p : Nat} {s : Nat → Nat → Int32} (hm : s 0 33 = bI keep) (hp : s 0 32 = nI p) (hl : p + 6 ≤ 220) : rowP keep 4 6 p s (f_X7_passRow_2 (6 : Int32) s) := by
  obtain ⟨t', h1, h2⟩ := row2_L keep p s hm hl (fun w => w) 6 0 s (by omega) (row_0 hp)
  have e : f_X7_passRow_2 (6 : Int32) s = t' := h2
  rw [e]
  exact h1
theorem row3_L (keep : Bool) (p : Nat) (s : Nat → Nat → Int32) (hm : s 0 33 = bI keep) (hl : p + 8 ≤ 220) (k : (Nat → Nat → Int32) → (Nat → Nat → Int32)) : ∀ (n i : Nat) (t : Nat → Nat → Int32), i + n = 8 → rowP keep 9 i p s t → ∃ t', rowP keep 9 8 p s t' ∧ f_X7_passRow_3_L2 (nI 8) k n (nI i) t = k t' := by
  intro n
  induction n with
  | zero =>
    intro i t hi h
    have e : i = 8 := by omega
    subst e
    exact ⟨t, h, by rw [f_X7_passRow_3_L2]⟩
  | succ n ih =>
    intro i t hi h
    obtain ⟨t', h1, h2⟩ := ih (i + 1) _ (by omega) (row_1 (by decide) (by decide) hm (by omega) h)
    refine ⟨t', h1, ?_⟩
    rw [f_X7_passRow_3_L2, if_neg (nI_ge (by omega) (by decide))]
    unfold lt_
    dsimp only
    rw [nI_clamp (by omega), nI_1, h2]
theorem row3 {keep : Bool} {p : Nat} {s : Nat → Nat → Int32} (hm : s 0 33 = bI keep) (hp : s 0 32 = nI p) (hl : p + 8 ≤ 220) : rowP keep 9 8 p s (f_X7_passRow_3 (8 : Int32) s) := by
  obtain ⟨t', h1, h2⟩ := row3_L keep p s hm hl (fun w => w) 8 0 s (by omega) (row_0 hp)
  have e : f_X7_passRow_3 (8 : Int32) s = t' := h2
  rw [e]
  exact h1
theorem row4_L (keep : Bool) (p : Nat) (s : Nat → Nat → Int32) (hm : s 0 33 = bI keep) (hl : p + 8 ≤ 220) (k : (Nat → Nat → Int32) → (Nat → Nat → Int32)) : ∀ (n i : Nat) (t : Nat → Nat → Int32), i + n = 8 → rowP keep 10 i p s t → ∃ t', rowP keep 10 8 p s t' ∧ f_X7_passRow_4_L2 (nI 8) k n (nI i) t = k t' := by
  intro n
  induction n with
  | zero =>
    intro i t hi h
    have e : i = 8 := by omega
    subst e
    exact ⟨t, h, by rw [f_X7_passRow_4_L2]⟩
  | succ n ih =>
    intro i t hi h
    obtain ⟨t', h1, h2⟩ := ih (i + 1) _ (by omega) (row_1 (by decide) (by decide) hm (by omega) h)
    refine ⟨t', h1, ?_⟩
    rw [f_X7_passRow_4_L2, if_neg (nI_ge (by omega) (by decide))]
    unfold lt_
    dsimp only
    rw [nI_clamp (by omega), nI_1, h2]
theorem row4 {keep : Bool} {p : Nat} {s : Nat → Nat → Int32} (hm : s 0 33 = bI keep) (hp : s 0 32 = nI p) (hl : p + 8 ≤ 220) : rowP keep 10 8 p s (f_X7_passRow_4 (8 : Int32) s) := by
  obtain ⟨t', h1, h2⟩ := row4_L keep p s hm hl (fun w => w) 8 0 s (by omega) (row_0 hp)
  have e : f_X7_passRow_4 (8 : Int32) s = t' := h2
  rw [e]
  exact h1
theorem row5_L (keep : Bool) (p : Nat) (s : Nat → Nat → Int32) (hm : s 0 33 = bI keep) (hl : p + 8 ≤ 220) (k : (Nat → Nat → Int32) → (Nat → Nat → Int32)) : ∀ (n i : Nat) (t : Nat → Nat → Int32), i + n = 8 → rowP keep 11 i p s t → ∃ t', rowP keep 11 8 p s t' ∧ f_X7_passRow_5_L2 (nI 8) k n (nI i) t = k t' := by
  intro n
  induction n with
  | zero =>
    intro i t hi h
    have e : i = 8 := by omega
    subst e
    exact ⟨t, h, by rw [f_X7_passRow_5_L2]⟩
  | succ n ih =>
    intro i t hi h
    obtain ⟨t', h1, h2⟩ := ih (i + 1) _ (by omega) (row_1 (by decide) (by decide) hm (by omega) h)
    refine ⟨t', h1, ?_⟩
    rw [f_X7_passRow_5_L2, if_neg (nI_ge (by omega) (by decide))]
    unfold lt_
    dsimp only
    rw [nI_clamp (by omega), nI_1, h2]
theorem row5 {keep : Bool} {p : Nat} {s : Nat → Nat → Int32} (hm : s 0 33 = bI keep) (hp : s 0 32 = nI p) (hl : p + 8 ≤ 220) : rowP keep 11 8 p s (f_X7_passRow_5 (8 : Int32) s) := by
  obtain ⟨t', h1, h2⟩ := row5_L keep p s hm hl (fun w => w) 8 0 s (by omega) (row_0 hp)
  have e : f_X7_passRow_5 (8 : Int32) s = t' := h2
  rw [e]
  exact h1
/-- what passAll leaves -/
def allP (keep : Bool) (o : Nat) (s t : Nat → Nat → Int32) : Prop :=
  (∀ k, k ≠ 32 → k ≠ 1 → k ≠ 2 → k ≠ 4 → k ≠ 5 → k ≠ 6 → k ≠ 7 → k ≠ 11 → t 0 k = s 0 k) ∧
  (∀ q, q ≠ 0 → q ≠ 31 → q ≠ 1 → q ≠ 4 → q ≠ 9 → q ≠ 10 → q ≠ 11 → ∀ j, t q j = s q j) ∧
  (keep = true → (∀ k, k ≠ 32 → t 0 k = s 0 k) ∧ (∀ q, q ≠ 0 → q ≠ 31 → ∀ j, t q j = s q j) ∧ (∀ j, j < o ∨ o + 101 ≤ j → t 31 j = s 31 j) ∧
    (t 31 o = s 0 1 ∧ t 31 (o + 1) = s 0 2 ∧ t 31 (o + 2) = s 0 4 ∧ t 31 (o + 3) = s 0 5 ∧ t 31 (o + 4) = s 0 6 ∧ t 31 (o + 5) = s 0 7 ∧ t 31 (o + 6) = s 0 11) ∧
    (∀ j, j < 64 → t 31 (o + 7 + j) = s 1 j) ∧ (∀ j, j < 6 → t 31 (o + 71 + j) = s 4 j) ∧ (∀ j, j < 8 → t 31 (o + 77 + j) = s 9 j) ∧ (∀ j, j < 8 → t 31 (o + 85 + j) = s 10 j) ∧ (∀ j, j < 8 → t 31 (o + 93 + j) = s 11 j)) ∧
  (keep = false → (∀ j, t 31 j = s 31 j) ∧
    (t 0 1 = s 31 o ∧ t 0 2 = s 31 (o + 1) ∧ t 0 4 = s 31 (o + 2) ∧ t 0 5 = s 31 (o + 3) ∧ t 0 6 = s 31 (o + 4) ∧ t 0 7 = s 31 (o + 5) ∧ t 0 11 = s 31 (o + 6)) ∧
    (∀ j, j < 64 → t 1 j = s 31 (o + 7 + j)) ∧ (∀ j, j < 6 → t 4 j = s 31 (o + 71 + j)) ∧ (∀ j, j < 8 → t 9 j = s 31 (o + 77 + j)) ∧ (∀ j, j < 8 → t 10 j = s 31 (o + 85 + j)) ∧ (∀ j, j < 8 → t 11 j = s 31 (o + 93 + j)))
set_option maxHeartbeats 2000000 in
theorem all_t {o : Nat} {s0 s1 s2 s3 s4 s5 s6 s7 s8 s9 s10 s11 s12 : Nat → Nat → Int32} (f0 : fldP true 1 (o + 0) s0 s1) (f1 : fldP true 2 (o + 1) s1 s2) (f2 : fldP true 4 (o + 2) s2 s3) (f3 : fldP true 5 (o + 3) s3 s4) (f4 : fldP true 6 (o + 4) s4 s5) (f5 : fldP true 7 (o + 5) s5 s6) (f6 : fldP true 11 (o + 6) s6 s7) (r0 : rowP true 1 64 (o + 7) s7 s8) (r1 : rowP true 4 6 (o + 71) s8 s9) (r2 : rowP true 9 8 (o + 77) s9 s10) (r3 : rowP true 10 8 (o + 85) s10 s11) (r4 : rowP true 11 8 (o + 93) s11 s12) : allP true o s0 s12 := by
  have a0 : ∀ k, k ≠ 32 → s1 0 k = s0 0 k := fun k hk => by rw [f0.2.1 k hk, if_neg (fun h => by cases h.1)]
  have b0 : ∀ j, j ≠ o + 0 → s1 31 j = s0 31 j := fun j hj => by rw [f0.2.2.2 j, if_neg (fun h => hj h.2)]
  have c0 : s1 31 (o + 0) = s0 0 1 := by rw [f0.2.2.2, if_pos ⟨rfl, rfl⟩]
  have a1 : ∀ k, k ≠ 32 → s2 0 k = s1 0 k := fun k hk => by rw [f1.2.1 k hk, if_neg (fun h => by cases h.1)]
  have b1 : ∀ j, j ≠ o + 1 → s2 31 j = s1 31 j := fun j hj => by rw [f1.2.2.2 j, if_neg (fun h => hj h.2)]
  have c1 : s2 31 (o + 1) = s1 0 2 := by rw [f1.2.2.2, if_pos ⟨rfl, rfl⟩]
  have a2 : ∀ k, k ≠ 32 → s3 0 k = s2 0 k := fun k hk => by rw [f2.2.1 k hk, if_neg (fun h => by cases h.1)]
  have b2 : ∀ j, j ≠ o + 2 → s3 31 j = s2 31 j := fun j hj => by rw [f2.2.2.2 j, if_neg (fun h => hj h.2)]
  have c2 : s3 31 (o + 2) = s2 0 4 := by rw [f2.2.2.2, if_pos ⟨rfl, rfl⟩]
  have a3 : ∀ k, k ≠ 32 → s4 0 k = s3 0 k := fun k hk => by rw [f3.2.1 k hk, if_neg (fun h => by cases h.1)]
  have b3 : ∀ j, j ≠ o + 3 → s4 31 j = s3 31 j := fun j hj => by rw [f3.2.2.2 j, if_neg (fun h => hj h.2)]
  have c3 : s4 31 (o + 3) = s3 0 5 := by rw [f3.2.2.2, if_pos ⟨rfl, rfl⟩]
  have a4 : ∀ k, k ≠ 32 → s5 0 k = s4 0 k := fun k hk => by rw [f4.2.1 k hk, if_neg (fun h => by cases h.1)]
  have b4 : ∀ j, j ≠ o + 4 → s5 31 j = s4 31 j := fun j hj => by rw [f4.2.2.2 j, if_neg (fun h => hj h.2)]
  have c4 : s5 31 (o + 4) = s4 0 6 := by rw [f4.2.2.2, if_pos ⟨rfl, rfl⟩]
  have a5 : ∀ k, k ≠ 32 → s6 0 k = s5 0 k := fun k hk => by rw [f5.2.1 k hk, if_neg (fun h => by cases h.1)]
  have b5 : ∀ j, j ≠ o + 5 → s6 31 j = s5 31 j := fun j hj => by rw [f5.2.2.2 j, if_neg (fun h => hj h.2)]
  have c5 : s6 31 (o + 5) = s5 0 7 := by rw [f5.2.2.2, if_pos ⟨rfl, rfl⟩]
  have a6 : ∀ k, k ≠ 32 → s7 0 k = s6 0 k := fun k hk => by rw [f6.2.1 k hk, if_neg (fun h => by cases h.1)]
  have b6 : ∀ j, j ≠ o + 6 → s7 31 j = s6 31 j := fun j hj => by rw [f6.2.2.2 j, if_neg (fun h => hj h.2)]
  have c6 : s7 31 (o + 6) = s6 0 11 := by rw [f6.2.2.2, if_pos ⟨rfl, rfl⟩]
  have d0 : ∀ q, q ≠ 0 → q ≠ 31 → ∀ j, s8 q j = s7 q j := fun q q0 q31 j => by
    by_cases e : q = 1
    · rw [e, r0.2.2.2.2 j, if_neg (fun h => by cases h.1)]
    · exact r0.2.2.1 q q0 q31 e j
  have e0 : ∀ j, (j < o + 7 ∨ o + 7 + 64 ≤ j) → s8 31 j = s7 31 j := fun j hj => by rw [r0.2.2.2.1 j, if_neg (fun h => by omega)]
  have g0 : ∀ j, j < 64 → s8 31 (o + 7 + j) = s7 1 j := fun j hj => by rw [r0.2.2.2.1, if_pos ⟨rfl, by omega, by omega⟩, Nat.add_sub_cancel_left]
  have d1 : ∀ q, q ≠ 0 → q ≠ 31 → ∀ j, s9 q j = s8 q j := fun q q0 q31 j => by
    by_cases e : q = 4
    · rw [e, r1.2.2.2.2 j, if_neg (fun h => by cases h.1)]
    · exact r1.2.2.1 q q0 q31 e j
  have e1 : ∀ j, (j < o + 71 ∨ o + 71 + 6 ≤ j) → s9 31 j = s8 31 j := fun j hj => by rw [r1.2.2.2.1 j, if_neg (fun h => by omega)]
  have g1 : ∀ j, j < 6 → s9 31 (o + 71 + j) = s8 4 j := fun j hj => by rw [r1.2.2.2.1, if_pos ⟨rfl, by omega, by omega⟩, Nat.add_sub_cancel_left]
  have d2 : ∀ q, q ≠ 0 → q ≠ 31 → ∀ j, s10 q j = s9 q j := fun q q0 q31 j => by
    by_cases e : q = 9
    · rw [e, r2.2.2.2.2 j, if_neg (fun h => by cases h.1)]
    · exact r2.2.2.1 q q0 q31 e j
  have e2 : ∀ j, (j < o + 77 ∨ o + 77 + 8 ≤ j) → s10 31 j = s9 31 j := fun j hj => by rw [r2.2.2.2.1 j, if_neg (fun h => by omega)]
  have g2 : ∀ j, j < 8 → s10 31 (o + 77 + j) = s9 9 j := fun j hj => by rw [r2.2.2.2.1, if_pos ⟨rfl, by omega, by omega⟩, Nat.add_sub_cancel_left]
  have d3 : ∀ q, q ≠ 0 → q ≠ 31 → ∀ j, s11 q j = s10 q j := fun q q0 q31 j => by
    by_cases e : q = 10
    · rw [e, r3.2.2.2.2 j, if_neg (fun h => by cases h.1)]
    · exact r3.2.2.1 q q0 q31 e j
  have e3 : ∀ j, (j < o + 85 ∨ o + 85 + 8 ≤ j) → s11 31 j = s10 31 j := fun j hj => by rw [r3.2.2.2.1 j, if_neg (fun h => by omega)]
  have g3 : ∀ j, j < 8 → s11 31 (o + 85 + j) = s10 10 j := fun j hj => by rw [r3.2.2.2.1, if_pos ⟨rfl, by omega, by omega⟩, Nat.add_sub_cancel_left]
  have d4 : ∀ q, q ≠ 0 → q ≠ 31 → ∀ j, s12 q j = s11 q j := fun q q0 q31 j => by
    by_cases e : q = 11
    · rw [e, r4.2.2.2.2 j, if_neg (fun h => by cases h.1)]
    · exact r4.2.2.1 q q0 q31 e j
  have e4 : ∀ j, (j < o + 93 ∨ o + 93 + 8 ≤ j) → s12 31 j = s11 31 j := fun j hj => by rw [r4.2.2.2.1 j, if_neg (fun h => by omega)]
  have g4 : ∀ j, j < 8 → s12 31 (o + 93 + j) = s11 11 j := fun j hj => by rw [r4.2.2.2.1, if_pos ⟨rfl, by omega, by omega⟩, Nat.add_sub_cancel_left]
  have A7 : ∀ k, k ≠ 32 → s12 0 k = s0 0 k := fun k hk => by rw [r4.1 k hk, r3.1 k hk, r2.1 k hk, r1.1 k hk, r0.1 k hk, a6 k hk, a5 k hk, a4 k hk, a3 k hk, a2 k hk, a1 k hk, a0 k hk]
  have B7 : ∀ q, q ≠ 0 → q ≠ 31 → s7 q = s0 q := fun q q0 q31 => by rw [f6.2.2.1 q q0 q31, f5.2.2.1 q q0 q31, f4.2.2.1 q q0 q31, f3.2.2.1 q q0 q31, f2.2.2.1 q q0 q31, f1.2.2.1 q q0 q31, f0.2.2.1 q q0 q31]
  have B12 : ∀ q, q ≠ 0 → q ≠ 31 → ∀ j, s12 q j = s0 q j := fun q q0 q31 j => by rw [d4 q q0 q31 j, d3 q q0 q31 j, d2 q q0 q31 j, d1 q q0 q31 j, d0 q q0 q31 j, B7 q q0 q31]
  have R : ∀ j, (j < o + 7 ∨ o + 101 ≤ j) → s12 31 j = s7 31 j := fun j hj => by rw [e4 j (by omega), e3 j (by omega), e2 j (by omega), e1 j (by omega), e0 j (by omega)]
  refine ⟨fun k hk _ _ _ _ _ _ _ => A7 k hk, fun q q0 q31 _ _ _ _ _ j => B12 q q0 q31 j, fun _ => ⟨A7, B12, fun j hj => ?_, ⟨?_, ?_, ?_, ?_, ?_, ?_, ?_⟩, fun j hj => ?_, fun j hj => ?_, fun j hj => ?_, fun j hj => ?_, fun j hj => ?_⟩, fun h => by cases h⟩
  · rw [R j (by omega), b6 j (by omega), b5 j (by omega), b4 j (by omega), b3 j (by omega), b2 j (by omega), b1 j (by omega), b0 j (by omega)]
  · rw [R _ (by omega), b6 _ (by omega), b5 _ (by omega), b4 _ (by omega), b3 _ (by omega), b2 _ (by omega), b1 _ (by omega), show o = o + 0 from rfl, c0]
  · rw [R _ (by omega), b6 _ (by omega), b5 _ (by omega), b4 _ (by omega), b3 _ (by omega), b2 _ (by omega), c1, a0 _ (by decide)]
  · rw [R _ (by omega), b6 _ (by omega), b5 _ (by omega), b4 _ (by omega), b3 _ (by omega), c2, a1 _ (by decide), a0 _ (by decide)]
  · rw [R _ (by omega), b6 _ (by omega), b5 _ (by omega), b4 _ (by omega), c3, a2 _ (by decide), a1 _ (by decide), a0 _ (by decide)]
  · rw [R _ (by omega), b6 _ (by omega), b5 _ (by omega), c4, a3 _ (by decide), a2 _ (by decide), a1 _ (by decide), a0 _ (by decide)]
  · rw [R _ (by omega), b6 _ (by omega), c5, a4 _ (by decide), a3 _ (by decide), a2 _ (by decide), a1 _ (by decide), a0 _ (by decide)]
  · rw [R _ (by omega),  c6, a5 _ (by decide), a4 _ (by decide), a3 _ (by decide), a2 _ (by decide), a1 _ (by decide), a0 _ (by decide)]
  · rw [e4 _ (by omega), e3 _ (by omega), e2 _ (by omega), e1 _ (by omega), g0 j hj, B7 _ (by decide) (by decide)]
  · rw [e4 _ (by omega), e3 _ (by omega), e2 _ (by omega), g1 j hj, d0 _ (by decide) (by decide), B7 _ (by decide) (by decide)]
  · rw [e4 _ (by omega), e3 _ (by omega), g2 j hj, d1 _ (by decide) (by decide), d0 _ (by decide) (by decide), B7 _ (by decide) (by decide)]
  · rw [e4 _ (by omega), g3 j hj, d2 _ (by decide) (by decide), d1 _ (by decide) (by decide), d0 _ (by decide) (by decide), B7 _ (by decide) (by decide)]
  · rw [g4 j hj, d3 _ (by decide) (by decide), d2 _ (by decide) (by decide), d1 _ (by decide) (by decide), d0 _ (by decide) (by decide), B7 _ (by decide) (by decide)]
set_option maxHeartbeats 2000000 in
theorem all_f {o : Nat} {s0 s1 s2 s3 s4 s5 s6 s7 s8 s9 s10 s11 s12 : Nat → Nat → Int32} (f0 : fldP false 1 (o + 0) s0 s1) (f1 : fldP false 2 (o + 1) s1 s2) (f2 : fldP false 4 (o + 2) s2 s3) (f3 : fldP false 5 (o + 3) s3 s4) (f4 : fldP false 6 (o + 4) s4 s5) (f5 : fldP false 7 (o + 5) s5 s6) (f6 : fldP false 11 (o + 6) s6 s7) (r0 : rowP false 1 64 (o + 7) s7 s8) (r1 : rowP false 4 6 (o + 71) s8 s9) (r2 : rowP false 9 8 (o + 77) s9 s10) (r3 : rowP false 10 8 (o + 85) s10 s11) (r4 : rowP false 11 8 (o + 93) s11 s12) : allP false o s0 s12 := by
  have a0 : ∀ k, k ≠ 32 → k ≠ 1 → s1 0 k = s0 0 k := fun k hk hf => by rw [f0.2.1 k hk, if_neg (fun h => hf h.2)]
  have b0 : ∀ j, s1 31 j = s0 31 j := fun j => by rw [f0.2.2.2 j, if_neg (fun h => by cases h.1)]
  have c0 : s1 0 1 = s0 31 (o + 0) := by rw [f0.2.1 _ (by decide), if_pos ⟨rfl, rfl⟩]
  have a1 : ∀ k, k ≠ 32 → k ≠ 2 → s2 0 k = s1 0 k := fun k hk hf => by rw [f1.2.1 k hk, if_neg (fun h => hf h.2)]
  have b1 : ∀ j, s2 31 j = s1 31 j := fun j => by rw [f1.2.2.2 j, if_neg (fun h => by cases h.1)]
  have c1 : s2 0 2 = s1 31 (o + 1) := by rw [f1.2.1 _ (by decide), if_pos ⟨rfl, rfl⟩]
  have a2 : ∀ k, k ≠ 32 → k ≠ 4 → s3 0 k = s2 0 k := fun k hk hf => by rw [f2.2.1 k hk, if_neg (fun h => hf h.2)]
  have b2 : ∀ j, s3 31 j = s2 31 j := fun j => by rw [f2.2.2.2 j, if_neg (fun h => by cases h.1)]
  have c2 : s3 0 4 = s2 31 (o + 2) := by rw [f2.2.1 _ (by decide), if_pos ⟨rfl, rfl⟩]
  have a3 : ∀ k, k ≠ 32 → k ≠ 5 → s4 0 k = s3 0 k := fun k hk hf => by rw [f3.2.1 k hk, if_neg (fun h => hf h.2)]
  have b3 : ∀ j, s4 31 j = s3 31 j := fun j => by rw [f3.2.2.2 j, if_neg (fun h => by cases h.1)]
  have c3 : s4 0 5 = s3 31 (o + 3) := by rw [f3.2.1 _ (by decide), if_pos ⟨rfl, rfl⟩]
  have a4 : ∀ k, k ≠ 32 → k ≠ 6 → s5 0 k = s4 0 k := fun k hk hf => by rw [f4.2.1 k hk, if_neg (fun h => hf h.2)]
  have b4 : ∀ j, s5 31 j = s4 31 j := fun j => by rw [f4.2.2.2 j, if_neg (fun h => by cases h.1)]
  have c4 : s5 0 6 = s4 31 (o + 4) := by rw [f4.2.1 _ (by decide), if_pos ⟨rfl, rfl⟩]
  have a5 : ∀ k, k ≠ 32 → k ≠ 7 → s6 0 k = s5 0 k := fun k hk hf => by rw [f5.2.1 k hk, if_neg (fun h => hf h.2)]
  have b5 : ∀ j, s6 31 j = s5 31 j := fun j => by rw [f5.2.2.2 j, if_neg (fun h => by cases h.1)]
  have c5 : s6 0 7 = s5 31 (o + 5) := by rw [f5.2.1 _ (by decide), if_pos ⟨rfl, rfl⟩]
  have a6 : ∀ k, k ≠ 32 → k ≠ 11 → s7 0 k = s6 0 k := fun k hk hf => by rw [f6.2.1 k hk, if_neg (fun h => hf h.2)]
  have b6 : ∀ j, s7 31 j = s6 31 j := fun j => by rw [f6.2.2.2 j, if_neg (fun h => by cases h.1)]
  have c6 : s7 0 11 = s6 31 (o + 6) := by rw [f6.2.1 _ (by decide), if_pos ⟨rfl, rfl⟩]
  have d0 : ∀ q, q ≠ 0 → q ≠ 1 → ∀ j, s8 q j = s7 q j := fun q q0 qA j => by
    by_cases e : q = 31
    · rw [e, r0.2.2.2.1 j, if_neg (fun h => by cases h.1)]
    · exact r0.2.2.1 q q0 e qA j
  have g0 : ∀ j, j < 64 → s8 1 j = s7 31 (o + 7 + j) := fun j hj => by rw [r0.2.2.2.2, if_pos ⟨rfl, hj⟩]
  have d1 : ∀ q, q ≠ 0 → q ≠ 4 → ∀ j, s9 q j = s8 q j := fun q q0 qA j => by
    by_cases e : q = 31
    · rw [e, r1.2.2.2.1 j, if_neg (fun h => by cases h.1)]
    · exact r1.2.2.1 q q0 e qA j
  have g1 : ∀ j, j < 6 → s9 4 j = s8 31 (o + 71 + j) := fun j hj => by rw [r1.2.2.2.2, if_pos ⟨rfl, hj⟩]
  have d2 : ∀ q, q ≠ 0 → q ≠ 9 → ∀ j, s10 q j = s9 q j := fun q q0 qA j => by
    by_cases e : q = 31
    · rw [e, r2.2.2.2.1 j, if_neg (fun h => by cases h.1)]
    · exact r2.2.2.1 q q0 e qA j
  have g2 : ∀ j, j < 8 → s10 9 j = s9 31 (o + 77 + j) := fun j hj => by rw [r2.2.2.2.2, if_pos ⟨rfl, hj⟩]
  have d3 : ∀ q, q ≠ 0 → q ≠ 10 → ∀ j, s11 q j = s10 q j := fun q q0 qA j => by
    by_cases e : q = 31
    · rw [e, r3.2.2.2.1 j, if_neg (fun h => by cases h.1)]
    · exact r3.2.2.1 q q0 e qA j
  have g3 : ∀ j, j < 8 → s11 10 j = s10 31 (o + 85 + j) := fun j hj => by rw [r3.2.2.2.2, if_pos ⟨rfl, hj⟩]
  have d4 : ∀ q, q ≠ 0 → q ≠ 11 → ∀ j, s12 q j = s11 q j := fun q q0 qA j => by
    by_cases e : q = 31
    · rw [e, r4.2.2.2.1 j, if_neg (fun h => by cases h.1)]
    · exact r4.2.2.1 q q0 e qA j
  have g4 : ∀ j, j < 8 → s12 11 j = s11 31 (o + 93 + j) := fun j hj => by rw [r4.2.2.2.2, if_pos ⟨rfl, hj⟩]
  have R0 : ∀ k, k ≠ 32 → s12 0 k = s7 0 k := fun k hk => by rw [r4.1 k hk, r3.1 k hk, r2.1 k hk, r1.1 k hk, r0.1 k hk]
  have B7 : ∀ q, q ≠ 0 → q ≠ 31 → s7 q = s0 q := fun q q0 q31 => by rw [f6.2.2.1 q q0 q31, f5.2.2.1 q q0 q31, f4.2.2.1 q q0 q31, f3.2.2.1 q q0 q31, f2.2.2.1 q q0 q31, f1.2.2.1 q q0 q31, f0.2.2.1 q q0 q31]
  have S7 : ∀ j, s7 31 j = s0 31 j := fun j => by rw [b6, b5, b4, b3, b2, b1, b0]
  refine ⟨fun k hk h1 h2 h4 h5 h6 h7 h11 => ?_, fun q q0 q31 q1 q4 q9 q10 q11 j => ?_, (fun h => by cases h), fun _ => ⟨fun j => ?_, ⟨?_, ?_, ?_, ?_, ?_, ?_, ?_⟩, fun j hj => ?_, fun j hj => ?_, fun j hj => ?_, fun j hj => ?_, fun j hj => ?_⟩⟩
  · rw [R0 k hk, a6 k hk h11, a5 k hk h7, a4 k hk h6, a3 k hk h5, a2 k hk h4, a1 k hk h2, a0 k hk h1]
  · rw [d4 q q0 q11 j, d3 q q0 q10 j, d2 q q0 q9 j, d1 q q0 q4 j, d0 q q0 q1 j, B7 q q0 q31]
  · rw [d4 _ (by decide) (by decide), d3 _ (by decide) (by decide), d2 _ (by decide) (by decide), d1 _ (by decide) (by decide), d0 _ (by decide) (by decide), S7]
  · rw [R0 _ (by decide), a6 _ (by decide) (by decide), a5 _ (by decide) (by decide), a4 _ (by decide) (by decide), a3 _ (by decide) (by decide), a2 _ (by decide) (by decide), a1 _ (by decide) (by decide), c0]; rfl
  · rw [R0 _ (by decide), a6 _ (by decide) (by decide), a5 _ (by decide) (by decide), a4 _ (by decide) (by decide), a3 _ (by decide) (by decide), a2 _ (by decide) (by decide), c1, b0]
  · rw [R0 _ (by decide), a6 _ (by decide) (by decide), a5 _ (by decide) (by decide), a4 _ (by decide) (by decide), a3 _ (by decide) (by decide), c2, b1, b0]
  · rw [R0 _ (by decide), a6 _ (by decide) (by decide), a5 _ (by decide) (by decide), a4 _ (by decide) (by decide), c3, b2, b1, b0]
  · rw [R0 _ (by decide), a6 _ (by decide) (by decide), a5 _ (by decide) (by decide), c4, b3, b2, b1, b0]
  · rw [R0 _ (by decide), a6 _ (by decide) (by decide), c5, b4, b3, b2, b1, b0]
  · rw [R0 _ (by decide),  c6, b5, b4, b3, b2, b1, b0]
  · rw [d4 _ (by decide) (by decide), d3 _ (by decide) (by decide), d2 _ (by decide) (by decide), d1 _ (by decide) (by decide), g0 j hj,  S7]
  · rw [d4 _ (by decide) (by decide), d3 _ (by decide) (by decide), d2 _ (by decide) (by decide), g1 j hj, d0 _ (by decide) (by decide), S7]
  · rw [d4 _ (by decide) (by decide), d3 _ (by decide) (by decide), g2 j hj, d1 _ (by decide) (by decide), d0 _ (by decide) (by decide), S7]
  · rw [d4 _ (by decide) (by decide), g3 j hj, d2 _ (by decide) (by decide), d1 _ (by decide) (by decide), d0 _ (by decide) (by decide), S7]
  · rw [ g4 j hj, d3 _ (by decide) (by decide), d2 _ (by decide) (by decide), d1 _ (by decide) (by decide), d0 _ (by decide) (by decide), S7]
theorem fld_m {keep : Bool} {F p : Nat} {s t : Nat → Nat → Int32} (hF : F ≠ 33) (h : fldP keep F p s t) (hm : s 0 33 = bI keep) : t 0 33 = bI keep := by rw [h.2.1 33 (by decide), if_neg (fun e => hF e.2.symm), hm]
theorem row_m {keep : Bool} {A n p : Nat} {s t : Nat → Nat → Int32} (h : rowP keep A n p s t) (hm : s 0 33 = bI keep) : t 0 33 = bI keep := by rw [h.1 33 (by decide), hm]
theorem all_k {keep : Bool} {o : Nat} {s : Nat → Nat → Int32} (hm : s 0 33 = bI keep) (hp : s 0 32 = nI o) (hl : o + 101 ≤ 220) : allP keep o s (f_X7_passAll s) := by
  unfold f_X7_passAll
  have f0 := fld_1 (keep := keep) (F := 1) (p := o + 0) (s := s) (by decide) hm hp (by omega)
  have m1 := fld_m (by decide) f0 hm
  rw [lt_1]
  have n0 : (f_X7_pass (s 0 1) s).2 0 2 = (u2 (f_X7_pass (s 0 1) s).2 0 1 (f_X7_pass (s 0 1) s).1) 0 2 := rfl
  rw [n0]
  clear n0
  generalize u2 (f_X7_pass (s 0 1) s).2 0 1 (f_X7_pass (s 0 1) s).1 = t1 at f0 m1 ⊢
  have f1 := fld_1 (keep := keep) (F := 2) (p := o + 1) (s := t1) (by decide) m1 f0.1 (by omega)
  have m2 := fld_m (by decide) f1 m1
  rw [lt_1]
  have n1 : (f_X7_pass (t1 0 2) t1).2 0 4 = (u2 (f_X7_pass (t1 0 2) t1).2 0 2 (f_X7_pass (t1 0 2) t1).1) 0 4 := rfl
  rw [n1]
  clear n1
  generalize u2 (f_X7_pass (t1 0 2) t1).2 0 2 (f_X7_pass (t1 0 2) t1).1 = t2 at f1 m2 ⊢
  have f2 := fld_1 (keep := keep) (F := 4) (p := o + 2) (s := t2) (by decide) m2 f1.1 (by omega)
  have m3 := fld_m (by decide) f2 m2
  rw [lt_1]
  have n2 : (f_X7_pass (t2 0 4) t2).2 0 5 = (u2 (f_X7_pass (t2 0 4) t2).2 0 4 (f_X7_pass (t2 0 4) t2).1) 0 5 := rfl
  rw [n2]
  clear n2
  generalize u2 (f_X7_pass (t2 0 4) t2).2 0 4 (f_X7_pass (t2 0 4) t2).1 = t3 at f2 m3 ⊢
  have f3 := fld_1 (keep := keep) (F := 5) (p := o + 3) (s := t3) (by decide) m3 f2.1 (by omega)
  have m4 := fld_m (by decide) f3 m3
  rw [lt_1]
  have n3 : (f_X7_pass (t3 0 5) t3).2 0 6 = (u2 (f_X7_pass (t3 0 5) t3).2 0 5 (f_X7_pass (t3 0 5) t3).1) 0 6 := rfl
  rw [n3]
  clear n3
  generalize u2 (f_X7_pass (t3 0 5) t3).2 0 5 (f_X7_pass (t3 0 5) t3).1 = t4 at f3 m4 ⊢
  have f4 := fld_1 (keep := keep) (F := 6) (p := o + 4) (s := t4) (by decide) m4 f3.1 (by omega)
  have m5 := fld_m (by decide) f4 m4
  rw [lt_1]
  have n4 : (f_X7_pass (t4 0 6) t4).2 0 7 = (u2 (f_X7_pass (t4 0 6) t4).2 0 6 (f_X7_pass (t4 0 6) t4).1) 0 7 := rfl
  rw [n4]
  clear n4
  generalize u2 (f_X7_pass (t4 0 6) t4).2 0 6 (f_X7_pass (t4 0 6) t4).1 = t5 at f4 m5 ⊢
  have f5 := fld_1 (keep := keep) (F := 7) (p := o + 5) (s := t5) (by decide) m5 f4.1 (by omega)
  have m6 := fld_m (by decide) f5 m5
  rw [lt_1]
  have n5 : (f_X7_pass (t5 0 7) t5).2 0 11 = (u2 (f_X7_pass (t5 0 7) t5).2 0 7 (f_X7_pass (t5 0 7) t5).1) 0 11 := rfl
  rw [n5]
  clear n5
  generalize u2 (f_X7_pass (t5 0 7) t5).2 0 7 (f_X7_pass (t5 0 7) t5).1 = t6 at f5 m6 ⊢
  have f6 := fld_1 (keep := keep) (F := 11) (p := o + 6) (s := t6) (by decide) m6 f5.1 (by omega)
  have m7 := fld_m (by decide) f6 m6
  rw [lt_1]
  generalize u2 (f_X7_pass (t6 0 11) t6).2 0 11 (f_X7_pass (t6 0 11) t6).1 = t7 at f6 m7 ⊢
  have r0 := row1 (keep := keep) (p := o + 7) (s := t7) m7 f6.1 (by omega)
  have m8 := row_m r0 m7
  rw [lt_1]
  generalize f_X7_passRow_1 (64 : Int32) t7 = t8 at r0 m8 ⊢
  have r1 := row2 (keep := keep) (p := o + 71) (s := t8) m8 r0.2.1 (by omega)
  have m9 := row_m r1 m8
  rw [lt_1]
  generalize f_X7_passRow_2 (6 : Int32) t8 = t9 at r1 m9 ⊢
  have r2 := row3 (keep := keep) (p := o + 77) (s := t9) m9 r1.2.1 (by omega)
  have m10 := row_m r2 m9
  rw [lt_1]
  generalize f_X7_passRow_3 (8 : Int32) t9 = t10 at r2 m10 ⊢
  have r3 := row4 (keep := keep) (p := o + 85) (s := t10) m10 r2.2.1 (by omega)
  have m11 := row_m r3 m10
  rw [lt_1]
  generalize f_X7_passRow_4 (8 : Int32) t10 = t11 at r3 m11 ⊢
  have r4 := row5 (keep := keep) (p := o + 93) (s := t11) m11 r3.2.1 (by omega)
  have m12 := row_m r4 m11
  rw [lt_1]
  generalize f_X7_passRow_5 (8 : Int32) t11 = t12 at r4 m12 ⊢
  cases keep
  · exact all_f f0 f1 f2 f3 f4 f5 f6 r0 r1 r2 r3 r4
  · exact all_t f0 f1 f2 f3 f4 f5 f6 r0 r1 r2 r3 r4
