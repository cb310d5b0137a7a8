/-! the law from its entry, by program (wip/whole/start.py) -/
set_option maxHeartbeats 4000000 in
set_option maxRecDepth 100000 in
theorem law_start (Inv : (Nat → Nat → Int64) → (Nat → Nat → Int32) → (Nat → Nat → Int32) → Prop) (hInv : ∀ L I st, Inv L I st → lwPre I st) (h0 : lwS0 Inv) (h1 : lwS1 Inv) (h2 : lwS2 Inv) (h3 : lwS3 Inv) (h4 : lwS4 Inv) (h5 : lwS5 Inv) (h6 : lwS6 Inv) (h7 : lwS7 Inv) (h8 : lwS8 Inv) (h9 : lwS9 Inv) (h10 : lwS10 Inv) (h11 : lwS11 Inv) (h12 : lwS12 Inv) (h13 : lwS13 Inv) (h14 : lwS14 Inv) (h15 : lwS15 Inv) (h16 : lwS16 Inv) (h17 : lwS17 Inv) (h18 : lwS18 Inv) (h19 : lwS19 Inv) (h20 : lwS20 Inv) (h21 : lwS21 Inv) (h22 : lwS22 Inv) (h23 : lwS23 Inv) (h24 : lwS24 Inv) (hI0 : Inv xL0 xI0 mS0) {p : Program} {e : Env} {s : State} {m : MethodId} {below : List Frame} {meth : Method} {c : Code} (l : Launch) {b L : Nat} {xs : Nat → Int32} (hL : L ≤ 384) (C0 : lw_At p s m meth c b L xs) : W p l e room_1 s m #[Value.ref b] below meth c s.heap [] 0 0 (lw_Z below #[Value.ref b] s) (entryFrame m ([Value.ref b] : List Value).toArray 4) := by
  have C1 := C0
  obtain ⟨hx, hb, hr, hml, hown, hts0, hX, hbl, hlocks, hgv⟩ := C1
  have hts : ∀ w ∈ wsL_law, w.before #[Value.ref b] s = true := fun w h => hts0 w (wsL_law_in w h)
  have hA : ∀ q : Nat, s.heap.size ≤ q → (fun q : Nat => s.heap.size ≤ q) q := fun _ h => h
  have hnA : ∀ a : Nat, a < s.heap.size → ¬ (fun q : Nat => s.heap.size ≤ q) a := fun a h => Nat.not_le.mpr h
  have hfl := flat_of_before _ hgv
  obtain ⟨c0, i0, k0⟩ := u_known (C := RX1) (T := TX1) (N := 4) (n := 4) hts0 wsX10_inT (hts (Cond.instantiable RX1 4) (List.mem_of_getElem? (i := 29) (by decide +kernel)))
  obtain ⟨c1, i1, k1⟩ := u_known (C := RX2) (T := TX2) (N := 2) (n := 2) hts0 wsX20_inT (hts (Cond.instantiable RX2 2) (List.mem_of_getElem? (i := 17) (by decide +kernel)))
  obtain ⟨c2, i2, k2⟩ := u_known (C := RX3) (T := TX3) (N := 3) (n := 3) hts0 wsX30_inT (hts (Cond.instantiable RX3 3) (List.mem_of_getElem? (i := 25) (by decide +kernel)))
  obtain ⟨c3, i3, k3⟩ := u_known (C := RX4) (T := TX4) (N := 10) (n := 10) hts0 wsX40_inT (hts (Cond.instantiable RX4 10) (List.mem_of_getElem? (i := 13) (by decide +kernel)))
  obtain ⟨c4, i4, k4⟩ := u_known (C := RX5) (T := TX5) (N := 8) (n := 8) hts0 wsX50_inT (hts (Cond.instantiable RX5 8) (List.mem_of_getElem? (i := 21) (by decide +kernel)))
  obtain ⟨c5, i5, k5⟩ := u_known (C := RX6) (T := TX6) (N := 7) (n := 7) hts0 wsX60_inT (hts (Cond.instantiable RX6 7) (List.mem_of_getElem? (i := 1) (by decide +kernel)))
  obtain ⟨c6, i6, k6⟩ := u_known (C := RX7) (T := TX7) (N := 34) (n := 34) hts0 wsX70_inT (hts (Cond.instantiable RX7 34) (List.mem_of_getElem? (i := 4) (by decide +kernel)))
  obtain ⟨D, hKc⟩ : ∃ D : va_G, ∀ (k : Nat) (q : vw_C), vwCl[k]? = some q → u_Kn s q.1 q.2.1 q.2.2 (D.1 k) (D.2 k) := by
    refine ⟨(fun k => match k with | 0 => c0 | 1 => c1 | 2 => c2 | 3 => c3 | 4 => c4 | 5 => c5 | _ => c6, fun k => match k with | 0 => i0 | 1 => i1 | 2 => i2 | 3 => i3 | 4 => i4 | 5 => i5 | _ => i6), ?_⟩
    intro k q hq
    match k, hq with
    | 0, hq => cases hq; exact k0
    | 1, hq => cases hq; exact k1
    | 2, hq => cases hq; exact k2
    | 3, hq => cases hq; exact k3
    | 4, hq => cases hq; exact k4
    | 5, hq => cases hq; exact k5
    | 6, hq => cases hq; exact k6
    | k + 7, hq => simp [vwCl] at hq
  obtain ⟨cI, kI1, compI, a1, a2, a3⟩ := Cond.arrayClass_spec (hts (Cond.arrayClass .int) (List.mem_of_getElem? (i := 48) (by decide +kernel)))
  obtain ⟨cZ, kZ1, compZ, z1, z2, z3⟩ := Cond.arrayClass_spec (hts (Cond.arrayClass .boolean) (List.mem_of_getElem? (i := 33) (by decide +kernel)))
  have hAO : va_AO "MastPulpits$Sea" s := va_AO.of (hts0 (Cond.arrayOver (.object "MastPulpits$Sea")) (List.mem_of_getElem? (i := 205) (by decide +kernel)))
  obtain ⟨compS, cS, kS1, f1, f2, f3, f4, f5⟩ := Cond.arrayOver_spec (n := "MastPulpits$Sea") hAO
  have hK0 : va_K D vwCl (kTy (cI, cZ, cS)) s := by
    refine ⟨hKc, fun k q hq => ?_⟩
    match k, hq with
    | 0, hq => cases hq; exact ⟨fun n z => ⟨(fun k h => by cases h), kI1, a2, compI, a3⟩, a1⟩
    | 1, hq => cases hq; exact ⟨fun n z => ⟨(fun k h => by cases h), kZ1, z2, compZ, z3⟩, z1⟩
    | 2, hq => cases hq; exact ⟨fun n z => ⟨(fun k h => by cases h), kS1, f3, compS, f4⟩, kS1, compS, f3, f4, f1, f5⟩
    | k + 3, hq => simp [kTy] at hq
  have he0 : ∀ j : Nat, j < 8 → (Term.elem (Term.static RX0 "ROWS_OF_WAY" "[I") (.int (Int32.ofNat j))).eval #[Value.ref b] s none [] s = some (rowsF j) := by
    intro j hj
    rcases (show j = 0 ∨ j = 1 ∨ j = 2 ∨ j = 3 ∨ j = 4 ∨ j = 5 ∨ j = 6 ∨ j = 7 by omega) with rfl | rfl | rfl | rfl | rfl | rfl | rfl | rfl
    · exact va_eqt (hfl (Cond.eq (Term.elem (Term.static RX0 "ROWS_OF_WAY" "[I") (.int (0 : Int32))) (.int (-1 : Int32))) (by decide +kernel))
    · exact va_eqt (hfl (Cond.eq (Term.elem (Term.static RX0 "ROWS_OF_WAY" "[I") (.int (1 : Int32))) (.int (-1 : Int32))) (by decide +kernel))
    · exact va_eqt (hfl (Cond.eq (Term.elem (Term.static RX0 "ROWS_OF_WAY" "[I") (.int (2 : Int32))) (.int (0 : Int32))) (by decide +kernel))
    · exact va_eqt (hfl (Cond.eq (Term.elem (Term.static RX0 "ROWS_OF_WAY" "[I") (.int (3 : Int32))) (.int (1 : Int32))) (by decide +kernel))
    · exact va_eqt (hfl (Cond.eq (Term.elem (Term.static RX0 "ROWS_OF_WAY" "[I") (.int (4 : Int32))) (.int (1 : Int32))) (by decide +kernel))
    · exact va_eqt (hfl (Cond.eq (Term.elem (Term.static RX0 "ROWS_OF_WAY" "[I") (.int (5 : Int32))) (.int (1 : Int32))) (by decide +kernel))
    · exact va_eqt (hfl (Cond.eq (Term.elem (Term.static RX0 "ROWS_OF_WAY" "[I") (.int (6 : Int32))) (.int (0 : Int32))) (by decide +kernel))
    · exact va_eqt (hfl (Cond.eq (Term.elem (Term.static RX0 "ROWS_OF_WAY" "[I") (.int (7 : Int32))) (.int (-1 : Int32))) (by decide +kernel))
  obtain ⟨zr, v0, w0⟩ := va_Tof (f := rowsF) (A := (fun q : Nat => s.heap.size ≤ q)) (N := 8) (by decide) (hfl (Cond.arrayOf (Term.static RX0 "ROWS_OF_WAY" "[I") .int) (by decide +kernel)) (va_eqt (hfl (Cond.eq (Term.length (Term.static RX0 "ROWS_OF_WAY" "[I")) (.int (8 : Int32))) (by decide +kernel))) he0 hnA
  have Z0 : va_Z RX0 "ROWS_OF_WAY" "[I" (.ref zr) (fun q : Nat => s.heap.size ≤ q) s s.heap := va_Zof (hts0 (Cond.laysStatic RX0 "ROWS_OF_WAY" "[I") (List.mem_of_getElem? (i := 354) (by decide +kernel))) (hts0 (Cond.initialized RX0) (List.mem_of_getElem? (i := 54) (by decide +kernel))) v0 hnA
  have he1 : ∀ j : Nat, j < 8 → (Term.elem (Term.static RX0 "COLUMNS_OF_WAY" "[I") (.int (Int32.ofNat j))).eval #[Value.ref b] s none [] s = some (colsF j) := by
    intro j hj
    rcases (show j = 0 ∨ j = 1 ∨ j = 2 ∨ j = 3 ∨ j = 4 ∨ j = 5 ∨ j = 6 ∨ j = 7 by omega) with rfl | rfl | rfl | rfl | rfl | rfl | rfl | rfl
    · exact va_eqt (hfl (Cond.eq (Term.elem (Term.static RX0 "COLUMNS_OF_WAY" "[I") (.int (0 : Int32))) (.int (0 : Int32))) (by decide +kernel))
    · exact va_eqt (hfl (Cond.eq (Term.elem (Term.static RX0 "COLUMNS_OF_WAY" "[I") (.int (1 : Int32))) (.int (1 : Int32))) (by decide +kernel))
    · exact va_eqt (hfl (Cond.eq (Term.elem (Term.static RX0 "COLUMNS_OF_WAY" "[I") (.int (2 : Int32))) (.int (1 : Int32))) (by decide +kernel))
    · exact va_eqt (hfl (Cond.eq (Term.elem (Term.static RX0 "COLUMNS_OF_WAY" "[I") (.int (3 : Int32))) (.int (1 : Int32))) (by decide +kernel))
    · exact va_eqt (hfl (Cond.eq (Term.elem (Term.static RX0 "COLUMNS_OF_WAY" "[I") (.int (4 : Int32))) (.int (0 : Int32))) (by decide +kernel))
    · exact va_eqt (hfl (Cond.eq (Term.elem (Term.static RX0 "COLUMNS_OF_WAY" "[I") (.int (5 : Int32))) (.int (-1 : Int32))) (by decide +kernel))
    · exact va_eqt (hfl (Cond.eq (Term.elem (Term.static RX0 "COLUMNS_OF_WAY" "[I") (.int (6 : Int32))) (.int (-1 : Int32))) (by decide +kernel))
    · exact va_eqt (hfl (Cond.eq (Term.elem (Term.static RX0 "COLUMNS_OF_WAY" "[I") (.int (7 : Int32))) (.int (-1 : Int32))) (by decide +kernel))
  obtain ⟨zc, v1, w1⟩ := va_Tof (f := colsF) (A := (fun q : Nat => s.heap.size ≤ q)) (N := 8) (by decide) (hfl (Cond.arrayOf (Term.static RX0 "COLUMNS_OF_WAY" "[I") .int) (by decide +kernel)) (va_eqt (hfl (Cond.eq (Term.length (Term.static RX0 "COLUMNS_OF_WAY" "[I")) (.int (8 : Int32))) (by decide +kernel))) he1 hnA
  have Z1 : va_Z RX0 "COLUMNS_OF_WAY" "[I" (.ref zc) (fun q : Nat => s.heap.size ≤ q) s s.heap := va_Zof (hts0 (Cond.laysStatic RX0 "COLUMNS_OF_WAY" "[I") (List.mem_of_getElem? (i := 356) (by decide +kernel))) (hts0 (Cond.initialized RX0) (List.mem_of_getElem? (i := 54) (by decide +kernel))) v1 hnA
  have hK : kK D (cI, cZ, cS) (zr, zc) (fun q : Nat => s.heap.size ≤ q) s := ⟨hK0, Z0, w0, Z1, w1⟩
  have hO : kOW s := ⟨hAO, va_Nw.of rfl (hts0 (Cond.methodLinkNest RX6 9 yX4_init RX6) (List.mem_of_getElem? (i := 67) (by decide +kernel))), va_Nw.of rfl (hts0 (Cond.methodLinkNest RX6 18 yX2_init RX6) (List.mem_of_getElem? (i := 116) (by decide +kernel))), va_Nw.of rfl (hts0 (Cond.methodLinkNest RX6 25 yX5_init RX6) (List.mem_of_getElem? (i := 131) (by decide +kernel))), va_Nw.of rfl (hts0 (Cond.methodLinkNest RX5 11 yX4_init RX6) (List.mem_of_getElem? (i := 136) (by decide +kernel))), va_Nw.of rfl (hts0 (Cond.methodLinkNest RX6 32 yX3_init RX6) (List.mem_of_getElem? (i := 172) (by decide +kernel))), va_Nw.of rfl (hts0 (Cond.methodLinkNest RX6 39 yX1_init RX6) (List.mem_of_getElem? (i := 188) (by decide +kernel)))⟩
  obtain ⟨ct, hct⟩ : ∃ t : ClassId × ClassId × ClassId, t = (cI, cZ, cS) := ⟨_, rfl⟩
  rw [← hct] at hK
  have hS : va_S (fun q : Nat => s.heap.size ≤ q) s.heap s.heap [] := va_S.rf
  have hP : va_P D vwCl [] s.heap := fun k q h => by simp at h
  have hD : va_D (fun q : Nat => s.heap.size ≤ q) [] := ⟨fun i j p q h => by simp at h, fun k q h => by simp at h⟩
  have hl := lv_entry ([.ref b]) (n := 4) (Nat.le_of_ble_eq_true rfl)
  rw [lg_entry_eq]
  generalize (lg_sl ([.ref b]) ++ List.replicate (4 - (lg_sl ([.ref b])).length) Slot.unset).toArray = ls at hl ⊢
  have hl : lv_has ls 4 [(0, .ref b)] := hl
  refine kNewO (ci := 5) (C := RX6) (T := TX6) (N := 7) (fs := [.null, .null, .null, .null, .null, .null, .null]) (W1 := fun q => [(q, .inr (5, [.null, .null, .null, .null, .null, .null, .null]))]) (k2 := 1) (s2 := 7) hx hb hts0 wsX60_inT tyX6 tyX6_ok hown (hts (Cond.classLink RL 7 RX6) (List.mem_of_getElem? (i := 0) (by decide +kernel))) (hts (Cond.instantiable RX6 7) (List.mem_of_getElem? (i := 1) (by decide +kernel))) (hts (Cond.initialized RX6) (List.mem_of_getElem? (i := 2) (by decide +kernel))) hK hP hD hS hA rfl (fun j hj => by rcases (show j = 0 ∨ j = 1 ∨ j = 2 ∨ j = 3 ∨ j = 4 ∨ j = 5 ∨ j = 6 by omega) with rfl | rfl | rfl | rfl | rfl | rfl | rfl <;> rfl) (fun _ => rfl) rfl rfl (Nat.le_of_ble_eq_true rfl) (Nat.le_of_ble_eq_true rfl) dL_law_0 (fun q H hP hD hS => ?_)
  refine lv_dup hx hb dL_law_3 rfl ?_
  have hM := k_X6_init l D ct (zr, zc) q
  refine kI (wsy' := wsX6_init.tail) (st0 := [.ref q, .ref q]) (rest := [.ref q]) (W1 := fun u => xW (x0A q u) ct xL0 xI0) (k2 := 18) (s2 := 673) ⟨hx, hb, hml, hown, hts⟩ hM gL_law_X6_init kyX6_init rfl (hts (Cond.initialized RX6) (List.mem_of_getElem? (i := 2) (by decide +kernel))) (hts (Cond.methodLink RL 9 yX6_init) (List.mem_of_getElem? (i := 6) (by decide +kernel))) (hts (Cond.instanceMethod yX6_init) (List.mem_of_getElem? (i := 7) (by decide +kernel))) ⟨(Nat.le_of_ble_eq_true rfl), (Nat.le_of_ble_eq_true rfl)⟩ hK hO hP hD hS hA [0] [] rfl rfl ⟨rfl, rfl⟩ (by decide) (fun _ => rfl) hl.1 rfl rfl rfl rfl (Nat.le_of_ble_eq_true rfl) (Nat.le_of_ble_eq_true rfl) dL_law_4 (fun u H locs hP hD hS => ?_)
  refine lv_astore_n (lv' := [(1, .ref q), (0, .ref b)]) hx hb dL_law_7 rfl hl (by decide) rfl (fun ls hl => ?_)
  refine kNewO (ci := 6) (C := RX7) (T := TX7) (N := 34) (fs := [.null, .int 0, .int 0, .null, .int 0, .int 0, .int 0, .int 0, .null, .null, .null, .int 0, .null, .int 0, .null, .null, .int 0, .int 0, .int 0, .int 0, .null, .int 0, .int 0, .int 0, .null, .null, .null, .null, .int 0, .null, .null, .null, .int 0, .int 0]) (W1 := fun h => xW (x0A q u) ct xL0 xI0 ++ [(h, .inr (6, [.null, .int 0, .int 0, .null, .int 0, .int 0, .int 0, .int 0, .null, .null, .null, .int 0, .null, .int 0, .null, .null, .int 0, .int 0, .int 0, .int 0, .null, .int 0, .int 0, .int 0, .null, .null, .null, .null, .int 0, .null, .null, .null, .int 0, .int 0]))]) (k2 := 19) (s2 := 707) hx hb hts0 wsX70_inT tyX7 tyX7_ok hown (hts (Cond.classLink RL 10 RX7) (List.mem_of_getElem? (i := 3) (by decide +kernel))) (hts (Cond.instantiable RX7 34) (List.mem_of_getElem? (i := 4) (by decide +kernel))) (hts (Cond.initialized RX7) (List.mem_of_getElem? (i := 5) (by decide +kernel))) hK hP hD hS hA rfl (fun j hj => by rcases (show j = 0 ∨ j = 1 ∨ j = 2 ∨ j = 3 ∨ j = 4 ∨ j = 5 ∨ j = 6 ∨ j = 7 ∨ j = 8 ∨ j = 9 ∨ j = 10 ∨ j = 11 ∨ j = 12 ∨ j = 13 ∨ j = 14 ∨ j = 15 ∨ j = 16 ∨ j = 17 ∨ j = 18 ∨ j = 19 ∨ j = 20 ∨ j = 21 ∨ j = 22 ∨ j = 23 ∨ j = 24 ∨ j = 25 ∨ j = 26 ∨ j = 27 ∨ j = 28 ∨ j = 29 ∨ j = 30 ∨ j = 31 ∨ j = 32 ∨ j = 33 by omega) with rfl | rfl | rfl | rfl | rfl | rfl | rfl | rfl | rfl | rfl | rfl | rfl | rfl | rfl | rfl | rfl | rfl | rfl | rfl | rfl | rfl | rfl | rfl | rfl | rfl | rfl | rfl | rfl | rfl | rfl | rfl | rfl | rfl | rfl <;> rfl) (fun _ => rfl) rfl rfl (Nat.le_of_ble_eq_true rfl) (Nat.le_of_ble_eq_true rfl) dL_law_8 (fun h H hP hD hS => ?_)
  refine lv_dup hx hb dL_law_11 rfl ?_
  have hM := k_X7_init l D ct (zr, zc) h
  refine kI (wsy' := wsX7_init.tail) (st0 := [.ref h, .ref h]) (rest := [.ref h]) (W1 := fun a => xW (x0A q u) ct xL0 xI0 ++ mW h a ct mS0) (k2 := 35) (s2 := 1922) ⟨hx, hb, hml, hown, hts⟩ hM gL_law_X7_init kyX7_init rfl (hts (Cond.initialized RX7) (List.mem_of_getElem? (i := 5) (by decide +kernel))) (hts (Cond.methodLink RL 12 yX7_init) (List.mem_of_getElem? (i := 69) (by decide +kernel))) (hts (Cond.instanceMethod yX7_init) (List.mem_of_getElem? (i := 70) (by decide +kernel))) ⟨(Nat.le_of_ble_eq_true rfl), (Nat.le_of_ble_eq_true rfl)⟩ hK hO hP hD hS hA [18] [0, 1, 2, 3, 4, 5, 6, 7, 8, 9, 10, 11, 12, 13, 14, 15, 16, 17] rfl rfl ⟨rfl, rfl⟩ (by decide) (fun _ => rfl) hl.1 rfl rfl rfl rfl (Nat.le_of_ble_eq_true rfl) (Nat.le_of_ble_eq_true rfl) dL_law_12 (fun a H locs hP hD hS => ?_)
  refine lv_astore_n (lv' := [(2, .ref h), (1, .ref q), (0, .ref b)]) hx hb dL_law_15 rfl hl (by decide) rfl (fun ls hl => ?_)
  refine lv_iconst (v := nI 0) hx hb dL_law_16 (by decide) ?_
  refine lv_istore_n (lv' := [(3, .int (nI 0)), (2, .ref h), (1, .ref q), (0, .ref b)]) hx hb dL_law_17 rfl hl (by decide) rfl (fun ls hl => ?_)
  exact law_loop (cd := x0A q u) (ad := a) Inv hInv h0 h1 h2 h3 h4 h5 h6 h7 h8 h9 h10 h11 h12 h13 h14 h15 h16 h17 h18 h19 h20 h21 h22 h23 h24 hL C0 hK (L + 1) 0 xL0 xI0 mS0 (Nat.zero_le _) (by omega) hI0 H locs ls hl hP hD hS
