/-! cross -/
theorem lt_1 {α β : Type} (e : α) (b : α → β) : lt_ e b = b e := rfl
theorem jn_1 {J β : Type} (j : J) (b : J → β) : jn_ j b = b j := rfl
def sI (b : Bool) (x y : Int32) : Int32 := match b with | true => x | false => y
theorem bI_t : bI true = 1 := rfl
theorem bI_f : bI false = 0 := rfl
theorem nI_m1 (i : Nat) : nI (i + 1) + (-1 : Int32) = nI i := by
  have h := nI_pred i
  rw [Int32.sub_eq_add_neg] at h
  exact h
def lowF (x : Int64) : Nat → Int32 → Int32
  | 0, f => f
  | i + 1, f => lowF x i (sI (lb x i) (nI i) f)
theorem lowF_no {x : Int64} : ∀ (i : Nat) (f : Int32), (∀ j, j < i → lb x j = false) → lowF x i f = f
  | 0, _, _ => rfl
  | i + 1, f, h => by
    rw [lowF, h i (by omega), lowF_no i _ (fun j hj => h j (by omega))]
    rfl
theorem lowF_k {x : Int64} {k : Nat} (h1 : lb x k = true) (h0 : ∀ j, j < k → lb x j = false) : ∀ (i : Nat) (f : Int32), k < i → lowF x i f = nI k
  | 0, _, h => absurd h (Nat.not_lt_zero k)
  | i + 1, f, h => by
    rw [lowF]
    by_cases q : k = i
    · subst q
      rw [h1, lowF_no _ _ h0]
      rfl
    · exact lowF_k h1 h0 i _ (by omega)
theorem low_ex (x : Int64) : ∀ n, (∀ j, j < n → lb x j = false) ∨ ∃ k, k < n ∧ lb x k = true ∧ ∀ j, j < k → lb x j = false
  | 0 => Or.inl (fun j h => absurd h (Nat.not_lt_zero j))
  | n + 1 => by
    rcases low_ex x n with h | ⟨k, h1, h2, h3⟩
    · by_cases q : lb x n = true
      · exact Or.inr ⟨n, by omega, q, h⟩
      · exact Or.inl (fun j hj => by
          by_cases e : j = n
          · rw [e]; exact ts_nt q
          · exact h j (by omega))
    · exact Or.inr ⟨k, by omega, h2, h3⟩
theorem least_0 : f_X0_least 0 = (-6 : Int32) := by decide +kernel
theorem lowF_least (x : Int64) : lowF x 64 (-6) = f_X0_least x := by
  rcases low_ex x 64 with h | ⟨k, h1, h2, h3⟩
  · have e : x = 0 := lb_ext (fun c hc => by rw [h c hc, lb_0])
    rw [lowF_no 64 _ h, e, least_0]
  · rw [lowF_k h2 h3 64 _ h1, least_k h1 h2 h3]
