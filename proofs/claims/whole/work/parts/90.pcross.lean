/-! cross, the walk -/
theorem cross_g (G : Int32 → Int32 → Int32 → Int32) (u u' w f m : Int32) (b : Bool) (hb : (if u = 0 then false else if u' = 0 then false else true) = b) :
    (jn_ (fun (z87_s0 : Int32) => jn_ (fun (z101_s0 : Int32) => lt_ (m + z101_s0) (fun (y102 : Int32) => jn_ (fun (z116_s0 : Int32) => lt_ (w + (-1 : Int32)) (fun (y118 : Int32) => G y118 z116_s0 y102)) (fun j116 => if z87_s0 = 0 then j116 f else j116 w))) (fun j101 => if z87_s0 = 0 then j101 (0 : Int32) else j101 (1 : Int32))) (fun j87 => jn_ (fun (_ : Unit) => j87 (0 : Int32)) (fun j86 => if u = 0 then j86 () else if u' = 0 then j86 () else j87 (1 : Int32)))) = G (w + (-1 : Int32)) (sI b w f) (m + bI b) := by
  have z0 : (0 : Int32) = 0 := rfl
  have z1 : ¬ (1 : Int32) = 0 := by decide
  rw [jn_1, jn_1]
  by_cases q1 : u = 0
  · rw [if_pos q1] at hb
    rw [← hb, if_pos q1]
    dsimp only
    rw [jn_1, if_pos z0]
    dsimp only
    rw [lt_1, jn_1, if_pos z0]
    dsimp only
    rw [lt_1, bI_f, sI]
  · rw [if_neg q1] at hb
    by_cases q2 : u' = 0
    · rw [if_pos q2] at hb
      rw [← hb, if_neg q1, if_pos q2]
      dsimp only
      rw [jn_1, if_pos z0]
      dsimp only
      rw [lt_1, jn_1, if_pos z0]
      dsimp only
      rw [lt_1, bI_f, sI]
    · rw [if_neg q2] at hb
      rw [← hb, if_neg q1, if_neg q2]
      dsimp only
      rw [jn_1, if_neg z1]
      dsimp only
      rw [lt_1, jn_1, if_neg z1]
      dsimp only
      rw [lt_1, bI_t, sI]
theorem cross_u {x1 x2 x3 x4 : Int32} {k : Int32 → Int32 → Int32} {n : Nat} {w f m : Int32} : f_X7_cross_L56 x1 x2 x3 x4 k (n + 1) w f m = if w < 0 then k f m else (jn_ (fun (z87_s0 : Int32) => jn_ (fun (z101_s0 : Int32) => lt_ (m + z101_s0) (fun (y102 : Int32) => jn_ (fun (z116_s0 : Int32) => lt_ (w + (-1 : Int32)) (fun (y118 : Int32) => f_X7_cross_L56 x1 x2 x3 x4 k n y118 z116_s0 y102)) (fun j116 => if z87_s0 = 0 then j116 f else j116 w))) (fun j101 => if z87_s0 = 0 then j101 (0 : Int32) else j101 (1 : Int32))) (fun j87 => jn_ (fun (_ : Unit) => j87 (0 : Int32)) (fun j86 => if (f_X7_bears w x1 x2) = 0 then j86 () else if (f_X7_bears w x3 x4) = 0 then j86 () else j87 (1 : Int32)))) := by
  rw [f_X7_cross_L56]
theorem cross_1 {x1 x2 x3 x4 : Int32} {k : Int32 → Int32 → Int32} {n : Nat} {w f m : Int32} {b : Bool} (h0 : ¬ w < 0) (hb : (if f_X7_bears w x1 x2 = 0 then false else if f_X7_bears w x3 x4 = 0 then false else true) = b) :
    f_X7_cross_L56 x1 x2 x3 x4 k (n + 1) w f m = f_X7_cross_L56 x1 x2 x3 x4 k n (w + (-1 : Int32)) (sI b w f) (m + bI b) := by
  rw [cross_u, if_neg h0]
  exact cross_g (f_X7_cross_L56 x1 x2 x3 x4 k n) _ _ w f m b hb
theorem bI_add (p : Nat) (b : Bool) (n : Int32) : n + bI b + nI p = n + nI (p + (if b then 1 else 0)) := by
  rw [← nI_bI, Int32.add_comm (nI p) (bI b), Int32.add_assoc]
theorem cross_L {x1 x2 x3 x4 : Int32} {x : Int64} (hb : ∀ c, c < 64 → (if f_X7_bears (nI c) x1 x2 = 0 then false else if f_X7_bears (nI c) x3 x4 = 0 then false else true) = lb x c) (k : Int32 → Int32 → Int32) : ∀ (i : Nat), i ≤ 64 → ∀ (f n : Int32), f_X7_cross_L56 x1 x2 x3 x4 k i (nI i + (-1 : Int32)) f n = k (lowF x i f) (n + nI (popB x i)) := by
  intro i
  induction i with
  | zero =>
    intro _ f n
    rw [f_X7_cross_L56, lowF, popB, nI_0, Int32.add_zero]
  | succ i ih =>
    intro h f n
    rw [nI_m1, cross_1 (nI_pos (by omega)) (hb i (by omega)), ih (by omega), lowF, popB, bI_add]
set_option maxHeartbeats 1000000 in
theorem s_cross : lwS13 InvR := by
  intro L I st x1 x2 x3 x4 x5 hR
  refine ⟨?_, hR⟩
  unfold f_X6_cross f_X7_cross
  rw [cell_eq, cell_eq, way_eq, way_eq, in_eq x5 (a' := 0) (b' := 1) (by decide) (by decide)]
  by_cases c1 : f_X0_isCell x1 = 0
  · rw [if_pos c1, if_pos c1]
  rw [if_neg c1, if_neg c1]
  by_cases c3 : f_X0_isCell x3 = 0
  · rw [if_pos c3, if_pos c3]
  rw [if_neg c3, if_neg c3]
  by_cases c2 : f_X0_isWay x2 = 0
  · rw [if_pos c2, if_pos c2]
  rw [if_neg c2, if_neg c2]
  by_cases c4 : f_X0_isWay x4 = 0
  · rw [if_pos c4, if_pos c4]
  rw [if_neg c4, if_neg c4]
  by_cases c5 : f_X6_within x5 0 1 = 0
  · rw [if_pos c5, if_pos c5]
  rw [if_neg c5, if_neg c5]
  obtain ⟨a, ha, rfl⟩ := cell_n c1
  obtain ⟨b, hb, rfl⟩ := cell_n c3
  obtain ⟨d, hd, rfl⟩ : ∃ n, n < 8 ∧ x2 = nI n := nI_ofI (xway_nz c2).1 (xway_nz c2).2 (by decide)
  obtain ⟨e, he, rfl⟩ : ∃ n, n < 8 ∧ x4 = nI n := nI_ofI (xway_nz c4).1 (xway_nz c4).2 (by decide)
  have t := cross_L (x1 := nI a) (x2 := nI d) (x3 := nI b) (x4 := nI e) (x := f_X0_ray (nI a) (nI d) &&& f_X0_ray (nI b) (nI e)) (fun c hc => by
    rw [ray_b a ha d hd c hc, ray_b b hb e he c hc, lb_and]
    cases lb (f_X0_ray (nI a) (nI d)) c <;> cases lb (f_X0_ray (nI b) (nI e)) c <;> rfl) (fun (w7 : Int32) (w6 : Int32) => if x5 = 0 then w6 else w7) 64 (Nat.le_refl 64) (-6) 0
  have e63 : (63 : Int32) = nI 64 + (-1 : Int32) := by decide
  rw [e63, t, lowF_least, lt_1, bc_pop, Int32.zero_add]
