/-! small facts on the pure functions that the walks ask for -/
theorem kfst {α β : Type} {r : α × β} {a : α} {b : β} (h : r = (a, b)) : a = r.1 := by rw [h]
theorem jmin_r (x y : Int32) : (jmin x y).toInt ≤ y.toInt := by
  unfold jmin; split
  · exact Int.le_refl _
  · exact ti_nlt (by assumption)
theorem jmax_l (x y : Int32) : x.toInt ≤ (jmax x y).toInt := by
  unfold jmax; split
  · have := ti_lt (by assumption : x < y); omega
  · exact Int.le_refl _
theorem within_nz {x a b : Int32} (h : ¬ f_X6_within x a b = 0) : a.toInt ≤ x.toInt ∧ x.toInt ≤ b.toInt := by
  unfold f_X6_within at h
  split at h
  · exact absurd rfl h
  · split at h
    · exact absurd rfl h
    · exact ⟨ti_nlt (by assumption), ti_nlt (by assumption)⟩
theorem xcell_nz {x : Int32} (h : ¬ f_X0_isCell x = 0) : 0 ≤ x.toInt ∧ x.toInt < 64 := by
  unfold f_X0_isCell at h
  split at h
  · exact absurd rfl h
  · split at h
    · exact absurd rfl h
    · rename_i h1 h2
      have a := ti_nlt h1; have b := ti_nle h2
      exact ⟨a, b⟩
theorem xway_nz {x : Int32} (h : ¬ f_X0_isWay x = 0) : 0 ≤ x.toInt ∧ x.toInt < 8 := by
  unfold f_X0_isWay at h
  split at h
  · exact absurd rfl h
  · split at h
    · exact absurd rfl h
    · rename_i h1 h2
      have a := ti_nlt h1; have b := ti_nle h2
      exact ⟨a, b⟩
theorem cmp_nlt0 {x y : Int64} (h : ¬ lg_cmp x y < 0) : y.toInt ≤ x.toInt := by
  unfold lg_cmp at h
  simp only [gt_iff_lt, Int64.lt_iff_toInt_lt, ← Int64.toInt_inj] at h
  split at h
  · omega
  · split at h
    · omega
    · exact absurd (by decide) h
theorem cmp_ngt0 {x y : Int64} (h : ¬ 0 < lg_cmp x y) : x.toInt ≤ y.toInt := by
  unfold lg_cmp at h
  simp only [gt_iff_lt, Int64.lt_iff_toInt_lt, ← Int64.toInt_inj] at h
  split at h
  · exact absurd (by decide) h
  · omega
theorem in_nzL {x a b : Int64} (h : ¬ f_X7_in x a b = 0) : a.toInt ≤ x.toInt ∧ x.toInt ≤ b.toInt := by
  unfold f_X7_in at h
  split at h
  · exact absurd rfl h
  · split at h
    · exact absurd rfl h
    · exact ⟨cmp_nlt0 (by assumption), cmp_ngt0 (by assumption)⟩
theorem in_nz {x : Int32} {a b : Int64} (h : ¬ f_X7_in (Int32.toInt64 x) a b = 0) : a.toInt ≤ x.toInt ∧ x.toInt ≤ b.toInt := by
  have h1 := in_nzL h
  rw [Int32.toInt_toInt64] at h1
  exact h1
theorem in_nz2 {x y : Int32} {a : Int64} (h : ¬ f_X7_in (Int32.toInt64 x) a (Int32.toInt64 y) = 0) : a.toInt ≤ x.toInt ∧ x.toInt ≤ y.toInt := by
  have h1 := in_nz h
  rw [Int32.toInt_toInt64] at h1
  exact h1
theorem lgc_ne {x y : Int64} (h : ¬ lg_cmp x y = 0) : x.toInt ≠ y.toInt := fun q => h ((lg_cmp_eq x y).mpr (Int64.toInt_inj.mp q))
theorem mcell_nz {x : Int32} (h : ¬ f_X7_isCell x = 0) : 0 ≤ x.toInt ∧ x.toInt < 64 := by
  have h1 := in_nzL (show ¬ f_X7_in (Int32.toInt64 x) 0 63 = 0 from h)
  rw [Int32.toInt_toInt64] at h1
  have a : (0 : Int64).toInt = 0 := by decide
  have b : (63 : Int64).toInt = 63 := by decide
  omega
theorem mway_nz {x : Int32} (h : ¬ f_X7_isWay x = 0) : 0 ≤ x.toInt ∧ x.toInt < 8 := by
  have h1 := in_nzL (show ¬ f_X7_in (Int32.toInt64 x) 0 7 = 0 from h)
  rw [Int32.toInt_toInt64] at h1
  have a : (0 : Int64).toInt = 0 := by decide
  have b : (7 : Int64).toInt = 7 := by decide
  omega
theorem isImage_nz {x : Int32} {L : Nat → Nat → Int64} {I : Nat → Nat → Int32} (h : ¬ f_X6_isImage x L I = 0) : 0 ≤ x.toInt ∧ x.toInt < 2 := by
  unfold f_X6_isImage at h
  split at h
  · exact absurd rfl h
  · split at h
    · exact absurd rfl h
    · rename_i h1 h2
      exact ⟨ti_nlt h1, ti_nle h2⟩
theorem bc_rng (x : Int64) : 0 ≤ (f_J13_bitCount_95d88 x).toInt ∧ (f_J13_bitCount_95d88 x).toInt ≤ 127 := by
  unfold f_J13_bitCount_95d88
  simp only [lt_]
  rw [pk_and _ 7 (by decide)]
  rw [nI_toInt (by omega)]
  omega
theorem z_X0_holds (x0 : Int64) (x2 : Int32) : f_X0_holds x0 x2 = 0 ∨ f_X0_holds x0 x2 = 1 := by
  unfold f_X0_holds
  try simp only [jn_, lt_]
  (repeat' split) <;> first | exact Or.inl rfl | exact Or.inr rfl
theorem z_X7_in (x0 x2 x4 : Int64) : f_X7_in x0 x2 x4 = 0 ∨ f_X7_in x0 x2 x4 = 1 := by
  unfold f_X7_in
  (repeat' split) <;> first | exact Or.inl rfl | exact Or.inr rfl
