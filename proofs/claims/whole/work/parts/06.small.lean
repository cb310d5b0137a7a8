/-! contracts, laid by program (wip/whole/gen.py, ann.py) -/
theorem kyX1_watchByTurns : kY yX1_watchByTurns cX1_watchByTurns 7 none wsX1_watchByTurns wsX1_watchByTurns.tail 3 := ⟨rfl, by decide, by decide, by decide +kernel⟩
set_option maxHeartbeats 4000000 in
set_option maxRecDepth 100000 in
theorem k_X1_watchByTurns (l : Launch) (D : va_G) (ct : ClassId × ClassId × ClassId) (z : Nat × Nat) (a : Nat) (x1 : Int32) (x2 : Int32) (x3 : Int32) (lo : Nat → Int64) (hn : x3.toInt ≤ 16) : kC l D ct z yX1_watchByTurns wsX1_watchByTurns 0 0 [.ref a, .int x1, .int x2, .int x3] (loW a lo) (none) (loW a (f_X1_watchByTurns x1 x2 x3 lo)) := by
  refine kHead (cc := cX1_watchByTurns) (maxL := 7) (ret := none) [(0, .ref a), (1, .int x1), (2, .int x2), (3, .int x3)] (by decide) rfl (Nat.le_of_ble_eq_true rfl) rfl ?_
  intro p e s m args below meth c A ls R Q hRf hRl hQ hx hb hr hlk hml hown hts hA hS hK hP hD hl
  have inX1 : ∀ w ∈ wsX10, w ∈ wsX1_watchByTurns := fun w h => (List.mem_cons_of_mem _ (List.mem_append_right _ h))
  have hw1 := hts (Cond.fieldLink RX1 7 "MastPulpits$Lookouts" "byFirst" "J") (List.mem_of_getElem? (i := 1) (by decide +kernel))
  have hw2 := hts (Cond.fieldLink RX1 13 "MastPulpits$Lookouts" "byOther" "J") (List.mem_of_getElem? (i := 2) (by decide +kernel))
  have hw3 := hts (Cond.fieldLink RX1 16 "MastPulpits$Lookouts" "byNobody" "J") (List.mem_of_getElem? (i := 3) (by decide +kernel))
  have hw4 := hts (Cond.fieldLink RX1 19 "MastPulpits$Lookouts" "outOf" "J") (List.mem_of_getElem? (i := 4) (by decide +kernel))
  have hw5 := hts (Cond.constantLong RX1 22 (10)) (List.mem_of_getElem? (i := 5) (by decide +kernel))
  have kc0 : (0 : Int32).toInt = 0 := by decide
  have kc1 : (1 : Int32).toInt = 1 := by decide
  have kc2 : (2 : Int32).toInt = 2 := by decide
  have kc10 : (10 : Int32).toInt = 10 := by decide
  have kl0 : (0 : Int64).toInt = 0 := by decide
  have kl1 : (1 : Int64).toInt = 1 := by decide
  have kl10 : (10 : Int64).toInt = 10 := by decide
  have hf : f_X1_watchByTurns x1 x2 x3 lo = f_X1_watchByTurns x1 x2 x3 lo := rfl
  refine lv_aload_n hx hb dX1_watchByTurns_0 rfl (lv_at hl 0 rfl) ?_
  refine lv_lconst (v := (0 : Int64)) hx hb dX1_watchByTurns_1 (by decide) ?_
  refine kPut (ci := 0) (C := RX1) (T := TX1) (N := 4) (ty := .long) (v := .long (0 : Int64)) (W1 := loW a (u1 lo 0 (0 : Int64))) hx hb hts inX1 tyX1 tyX1_ok nmX1 hown hK hP hD hS 0 rfl rfl 0 (by decide) hw1 (fun _ h => h) rfl (by decide +kernel) rfl rfl (Nat.le_of_ble_eq_true rfl) rfl dX1_watchByTurns_2 (fun H locs hP hD hS => ?_)
  refine lv_aload_n hx hb dX1_watchByTurns_5 rfl (lv_at hl 0 rfl) ?_
  refine lv_lconst (v := (0 : Int64)) hx hb dX1_watchByTurns_6 (by decide) ?_
  refine kPut (ci := 0) (C := RX1) (T := TX1) (N := 4) (ty := .long) (v := .long (0 : Int64)) (W1 := loW a (u1 (u1 lo 0 (0 : Int64)) 1 (0 : Int64))) hx hb hts inX1 tyX1 tyX1_ok nmX1 hown hK hP hD hS 0 rfl rfl 1 (by decide) hw2 (fun _ h => h) rfl (by decide +kernel) rfl rfl (Nat.le_of_ble_eq_true rfl) rfl dX1_watchByTurns_7 (fun H locs hP hD hS => ?_)
  refine lv_aload_n hx hb dX1_watchByTurns_10 rfl (lv_at hl 0 rfl) ?_
  refine lv_lconst (v := (1 : Int64)) hx hb dX1_watchByTurns_11 (by decide) ?_
  refine kPut (ci := 0) (C := RX1) (T := TX1) (N := 4) (ty := .long) (v := .long (1 : Int64)) (W1 := loW a (u1 (u1 (u1 lo 0 (0 : Int64)) 1 (0 : Int64)) 2 (1 : Int64))) hx hb hts inX1 tyX1 tyX1_ok nmX1 hown hK hP hD hS 0 rfl rfl 2 (by decide) hw3 (fun _ h => h) rfl (by decide +kernel) rfl rfl (Nat.le_of_ble_eq_true rfl) rfl dX1_watchByTurns_12 (fun H locs hP hD hS => ?_)
  refine lv_aload_n hx hb dX1_watchByTurns_15 rfl (lv_at hl 0 rfl) ?_
  refine lv_lconst (v := (1 : Int64)) hx hb dX1_watchByTurns_16 (by decide) ?_
  refine kPut (ci := 0) (C := RX1) (T := TX1) (N := 4) (ty := .long) (v := .long (1 : Int64)) (W1 := loW a (u1 (u1 (u1 (u1 lo 0 (0 : Int64)) 1 (0 : Int64)) 2 (1 : Int64)) 3 (1 : Int64))) hx hb hts inX1 tyX1 tyX1_ok nmX1 hown hK hP hD hS 0 rfl rfl 3 (by decide) hw4 (fun _ h => h) rfl (by decide +kernel) rfl rfl (Nat.le_of_ble_eq_true rfl) rfl dX1_watchByTurns_17 (fun H locs hP hD hS => ?_)
  refine lv_iconst (v := (0 : Int32)) hx hb dX1_watchByTurns_20 (by decide) ?_
  refine lv_istore (lv' := [(4, .int (0 : Int32)), (0, .ref a), (1, .int x1), (2, .int x2), (3, .int x3)]) hx hb dX1_watchByTurns_21 hl (by decide) rfl (fun ls hl => ?_)
  have lp23 : ∀ (K : (Nat → Int64) → (Nat → Int64)), (∀ (z23_lo : Nat → Int64), ∀ (H : Heap) (locs : List Loc) (ls : Array Slot), va_P D vwCl (loW a z23_lo) H → va_D A (loW a z23_lo) → va_S A s.heap H locs → lv_has ls 7 [] → f_X1_watchByTurns x1 x2 x3 lo = K z23_lo → W p l e R s m args below meth c H locs 0 0 Q (F0 m 148 ls [])) → ∀ (n : Nat) (z23_4 : Int32) (z23_lo : Nat → Int64), ∀ (H : Heap) (locs : List Loc) (ls : Array Slot), (x3.toInt ≤ Int32.toInt z23_4 + (n : Int)) → va_P D vwCl (loW a z23_lo) H → va_D A (loW a z23_lo) → va_S A s.heap H locs → lv_has ls 7 [(4, .int z23_4), (0, .ref a), (1, .int x1), (2, .int x2), (3, .int x3)] → f_X1_watchByTurns x1 x2 x3 lo = f_X1_watchByTurns_L23 x1 x2 x3 K n z23_4 z23_lo → W p l e R s m args below meth c H locs 0 0 Q (F0 m 23 ls []) := by
    intro K hk n
    induction n with
    | zero =>
      intro z23_4 z23_lo  H locs ls hn23 hP hD hS hl hf
      refine lv_iload hx hb dX1_watchByTurns_23 (lv_at hl 0 rfl) ?_
      refine lv_iload_n hx hb dX1_watchByTurns_25 rfl (lv_at hl 4 rfl) ?_
      refine lv_icmp_ge (tgt := 148) hx hb dX1_watchByTurns_26 (by decide) (fun c_6 => ?_) (fun c_6 => ?_)
      · have t_6 := ti_le c_6
        exact hk _ _ _ _  hP hD hS (lv_sub hl [] rfl) hf
      · have t_6 := ti_nle c_6
        exfalso
        omega
    | succ n ih =>
      intro z23_4 z23_lo  H locs ls hn23 hP hD hS hl hf
      refine lv_iload hx hb dX1_watchByTurns_23 (lv_at hl 0 rfl) ?_
      refine lv_iload_n hx hb dX1_watchByTurns_25 rfl (lv_at hl 4 rfl) ?_
      refine lv_icmp_ge (tgt := 148) hx hb dX1_watchByTurns_26 (by decide) (fun c_1 => ?_) (fun c_1 => ?_)
      · have hf := kIt hf c_1
        have t_1 := ti_le c_1
        exact hk _ _ _ _  hP hD hS (lv_sub hl [] rfl) hf
      · have hf := kIf hf c_1
        have t_1 := ti_nle c_1
        refine lv_iload hx hb dX1_watchByTurns_29 (lv_at hl 0 rfl) ?_
        refine lv_iconst (v := (2 : Int32)) hx hb dX1_watchByTurns_31 (by decide) ?_
        refine lv_irem hx hb dX1_watchByTurns_32 (by decide) ?_
        refine kJn hf (fun j0 => ∀ (z41_s0 : Int32), (z41_s0 = 0 ∨ z41_s0 = 1) → f_X1_watchByTurns x1 x2 x3 lo = j0 z41_s0 → ∀ (H : Heap) (locs : List Loc) (ls : Array Slot), va_P D vwCl (loW a z23_lo) H → va_D A (loW a z23_lo) → va_S A s.heap H locs → lv_has ls 7 [(4, .int z23_4), (0, .ref a), (1, .int x1), (2, .int x2), (3, .int x3)] → W p l e R s m args below meth c H locs 0 0 Q (F0 m 41 ls [.int z41_s0])) ?_ ?_
        · intro j0 hj0 z41_s0 b01_z41_s0 hf H locs ls hP hD hS hl
          subst hj0
          refine lv_istore (lv' := [(5, .int z41_s0), (4, .int z23_4), (0, .ref a), (1, .int x1), (2, .int x2), (3, .int x3)]) hx hb dX1_watchByTurns_41 hl (by decide) rfl (fun ls hl => ?_)
          refine lv_iload hx hb dX1_watchByTurns_43 (lv_at hl 0 rfl) ?_
          refine kJn hf (fun j0 => ∀ (z53_s0 : Int32), f_X1_watchByTurns x1 x2 x3 lo = j0 z53_s0 → ∀ (H : Heap) (locs : List Loc) (ls : Array Slot), va_P D vwCl (loW a z23_lo) H → va_D A (loW a z23_lo) → va_S A s.heap H locs → lv_has ls 7 [(5, .int z41_s0), (4, .int z23_4), (0, .ref a), (1, .int x1), (2, .int x2), (3, .int x3)] → W p l e R s m args below meth c H locs 0 0 Q (F0 m 53 ls [.int z53_s0])) ?_ ?_
          · intro j0 hj0 z53_s0  hf H locs ls hP hD hS hl
            subst hj0
            refine lv_istore (lv' := [(6, .int z53_s0), (5, .int z41_s0), (4, .int z23_4), (0, .ref a), (1, .int x1), (2, .int x2), (3, .int x3)]) hx hb dX1_watchByTurns_53 hl (by decide) rfl (fun ls hl => ?_)
            refine lv_aload_n hx hb dX1_watchByTurns_55 rfl (lv_at hl 3 rfl) ?_
            refine lv_aload_n hx hb dX1_watchByTurns_56 rfl (lv_at hl 3 rfl) ?_
            refine va_get (D := D) (cl := vwCl) (ci := 0) (v := .long (z23_lo 0)) (C := RX1) (T := TX1) (N := 4) hx hb hts inX1 hown hK.1 hP 0 rfl rfl 0 (by decide) hw1 (fun _ h => h) rfl dX1_watchByTurns_57 ?_
            refine lv_ldc2 (v := (10 : Int64)) hx hb hown hw5 dX1_watchByTurns_60 ?_
            refine lv_lmul hx hb dX1_watchByTurns_63 ?_
            refine lv_iload hx hb dX1_watchByTurns_64 (lv_at hl 1 rfl) ?_
            refine kJn hf (fun j0 => ∀ (z81_s0 : Int64), f_X1_watchByTurns x1 x2 x3 lo = j0 z81_s0 → ∀ (H : Heap) (locs : List Loc) (ls : Array Slot), va_P D vwCl (loW a z23_lo) H → va_D A (loW a z23_lo) → va_S A s.heap H locs → lv_has ls 7 [(6, .int z53_s0), (5, .int z41_s0), (4, .int z23_4), (0, .ref a), (1, .int x1), (2, .int x2), (3, .int x3)] → W p l e R s m args below meth c H locs 0 0 Q (F0 m 81 ls [.long z81_s0, .long ((z23_lo 0) * (10 : Int64)), .ref a])) ?_ ?_
            · intro j0 hj0 z81_s0  hf H locs ls hP hD hS hl
              subst hj0
              refine lv_ladd hx hb dX1_watchByTurns_81 ?_
              refine lv_topl (fun y82 ey82 => ?_)
              have hf := kLt hf ey82
              refine kPut (ci := 0) (C := RX1) (T := TX1) (N := 4) (ty := .long) (v := .long y82) (W1 := loW a (u1 z23_lo 0 y82)) hx hb hts inX1 tyX1 tyX1_ok nmX1 hown hK hP hD hS 0 rfl rfl 0 (by decide) hw1 (fun _ h => h) rfl (by decide +kernel) rfl rfl (Nat.le_of_ble_eq_true rfl) rfl dX1_watchByTurns_82 (fun H locs hP hD hS => ?_)
              refine lv_aload_n hx hb dX1_watchByTurns_85 rfl (lv_at hl 3 rfl) ?_
              refine lv_aload_n hx hb dX1_watchByTurns_86 rfl (lv_at hl 3 rfl) ?_
              refine va_get (D := D) (cl := vwCl) (ci := 0) (v := .long (z23_lo 1)) (C := RX1) (T := TX1) (N := 4) hx hb hts inX1 hown hK.1 hP 0 rfl rfl 1 (by decide) hw2 (fun _ h => h) rfl dX1_watchByTurns_87 ?_
              refine lv_ldc2 (v := (10 : Int64)) hx hb hown hw5 dX1_watchByTurns_90 ?_
              refine lv_lmul hx hb dX1_watchByTurns_93 ?_
              refine lv_iload hx hb dX1_watchByTurns_94 (lv_at hl 1 rfl) ?_
              refine kJn hf (fun j0 => ∀ (z111_s0 : Int64), f_X1_watchByTurns x1 x2 x3 lo = j0 z111_s0 → ∀ (H : Heap) (locs : List Loc) (ls : Array Slot), va_P D vwCl (loW a (u1 z23_lo 0 y82)) H → va_D A (loW a (u1 z23_lo 0 y82)) → va_S A s.heap H locs → lv_has ls 7 [(6, .int z53_s0), (4, .int z23_4), (0, .ref a), (1, .int x1), (2, .int x2), (3, .int x3)] → W p l e R s m args below meth c H locs 0 0 Q (F0 m 111 ls [.long z111_s0, .long ((z23_lo 1) * (10 : Int64)), .ref a])) ?_ ?_
              · intro j0 hj0 z111_s0  hf H locs ls hP hD hS hl
                subst hj0
                refine lv_ladd hx hb dX1_watchByTurns_111 ?_
                refine lv_topl (fun y112 ey112 => ?_)
                have hf := kLt hf ey112
                refine kPut (ci := 0) (C := RX1) (T := TX1) (N := 4) (ty := .long) (v := .long y112) (W1 := loW a (u1 (u1 z23_lo 0 y82) 1 y112)) hx hb hts inX1 tyX1 tyX1_ok nmX1 hown hK hP hD hS 0 rfl rfl 1 (by decide) hw2 (fun _ h => h) rfl (by decide +kernel) rfl rfl (Nat.le_of_ble_eq_true rfl) rfl dX1_watchByTurns_112 (fun H locs hP hD hS => ?_)
                refine lv_aload_n hx hb dX1_watchByTurns_115 rfl (lv_at hl 2 rfl) ?_
                refine lv_dup hx hb dX1_watchByTurns_116 rfl ?_
                refine va_get (D := D) (cl := vwCl) (ci := 0) (v := .long (z23_lo 2)) (C := RX1) (T := TX1) (N := 4) hx hb hts inX1 hown hK.1 hP 0 rfl rfl 2 (by decide) hw3 (fun _ h => h) rfl dX1_watchByTurns_117 ?_
                refine lv_bipush (v := (10 : Int32)) hx hb dX1_watchByTurns_120 (by decide) ?_
                refine lv_iload hx hb dX1_watchByTurns_122 (lv_at hl 0 rfl) ?_
                refine lv_isub hx hb dX1_watchByTurns_124 ?_
                refine lv_i2l (v := (Int32.toInt64 ((10 : Int32) - z53_s0))) hx hb dX1_watchByTurns_125 rfl ?_
                refine lv_lmul hx hb dX1_watchByTurns_126 ?_
                refine lv_topl (fun y127 ey127 => ?_)
                have hf := kLt hf ey127
                refine kPut (ci := 0) (C := RX1) (T := TX1) (N := 4) (ty := .long) (v := .long y127) (W1 := loW a (u1 (u1 (u1 z23_lo 0 y82) 1 y112) 2 y127)) hx hb hts inX1 tyX1 tyX1_ok nmX1 hown hK hP hD hS 0 rfl rfl 2 (by decide) hw3 (fun _ h => h) rfl (by decide +kernel) rfl rfl (Nat.le_of_ble_eq_true rfl) rfl dX1_watchByTurns_127 (fun H locs hP hD hS => ?_)
                refine lv_aload_n hx hb dX1_watchByTurns_130 rfl (lv_at hl 2 rfl) ?_
                refine lv_dup hx hb dX1_watchByTurns_131 rfl ?_
                refine va_get (D := D) (cl := vwCl) (ci := 0) (v := .long (z23_lo 3)) (C := RX1) (T := TX1) (N := 4) hx hb hts inX1 hown hK.1 hP 0 rfl rfl 3 (by decide) hw4 (fun _ h => h) rfl dX1_watchByTurns_132 ?_
                refine lv_ldc2 (v := (10 : Int64)) hx hb hown hw5 dX1_watchByTurns_135 ?_
                refine lv_lmul hx hb dX1_watchByTurns_138 ?_
                refine lv_topl (fun y139 ey139 => ?_)
                have hf := kLt hf ey139
                refine kPut (ci := 0) (C := RX1) (T := TX1) (N := 4) (ty := .long) (v := .long y139) (W1 := loW a (u1 (u1 (u1 (u1 z23_lo 0 y82) 1 y112) 2 y127) 3 y139)) hx hb hts inX1 tyX1 tyX1_ok nmX1 hown hK hP hD hS 0 rfl rfl 3 (by decide) hw4 (fun _ h => h) rfl (by decide +kernel) rfl rfl (Nat.le_of_ble_eq_true rfl) rfl dX1_watchByTurns_139 (fun H locs hP hD hS => ?_)
                obtain ⟨y142, ey142⟩ : ∃ y : Int32, y = z23_4 + (1 : Int32) := ⟨_, rfl⟩
                have hf := kLt hf ey142
                have a142 : Int32.toInt y142 = Int32.toInt z23_4 + 1 := by have := ti_rng z23_4; rw [ey142]; exact ti_add (by rw [kc1]) (by omega) (by omega)
                refine lv_iinc (v := y142) (lv' := [(4, .int y142), (6, .int z53_s0), (0, .ref a), (1, .int x1), (2, .int x2), (3, .int x3)]) hx hb dX1_watchByTurns_142 hl (k := 1) rfl (by rw [ey142]; rfl) (by decide) rfl (fun ls hl => ?_)
                refine lv_goto (tgt := 23) hx hb dX1_watchByTurns_145 (by decide) ?_
                exact ih y142 (u1 (u1 (u1 (u1 z23_lo 0 y82) 1 y112) 2 y127) 3 y139) _ _ _ (by first | assumption | exact vin (by omega) (by omega) | omega) hP hD hS (lv_sub hl [0, 2, 3, 4, 5] rfl) hf
              · intro j111 hJ111 hf
                refine lv_if_eq (tgt := 103) hx hb dX1_watchByTurns_96 (by decide) (fun c_5 => ?_) (fun c_5 => ?_)
                · have hf := kIt hf c_5
                  have t_5 := ti_eq c_5
                  refine lv_aload_n hx hb dX1_watchByTurns_103 rfl (lv_at hl 3 rfl) ?_
                  refine va_get (D := D) (cl := vwCl) (ci := 0) (v := .long (z23_lo 2)) (C := RX1) (T := TX1) (N := 4) hx hb hts inX1 hown hK.1 hP 0 rfl rfl 2 (by decide) hw3 (fun _ h => h) rfl dX1_watchByTurns_104 ?_
                  refine lv_iload hx hb dX1_watchByTurns_107 (lv_at hl 0 rfl) ?_
                  refine lv_i2l (v := (Int32.toInt64 z53_s0)) hx hb dX1_watchByTurns_109 rfl ?_
                  refine lv_lmul hx hb dX1_watchByTurns_110 ?_
                  exact hJ111 _  hf _ _ _ hP hD hS (lv_sub hl [0, 2, 3, 4, 5, 6] rfl)
                · have hf := kIf hf c_5
                  have t_5 := ti_ne c_5
                  refine lv_lconst (v := (0 : Int64)) hx hb dX1_watchByTurns_99 (by decide) ?_
                  refine lv_goto (tgt := 111) hx hb dX1_watchByTurns_100 (by decide) ?_
                  exact hJ111 _  hf _ _ _ hP hD hS (lv_sub hl [0, 2, 3, 4, 5, 6] rfl)
            · intro j81 hJ81 hf
              refine lv_if_eq (tgt := 80) hx hb dX1_watchByTurns_66 (by decide) (fun c_4 => ?_) (fun c_4 => ?_)
              · have hf := kIt hf c_4
                have t_4 := ti_eq c_4
                refine lv_lconst (v := (0 : Int64)) hx hb dX1_watchByTurns_80 (by decide) ?_
                exact hJ81 _  hf _ _ _ hP hD hS (lv_sub hl [0, 1, 2, 3, 4, 5, 6] rfl)
              · have hf := kIf hf c_4
                have t_4 := ti_ne c_4
                refine lv_aload_n hx hb dX1_watchByTurns_69 rfl (lv_at hl 3 rfl) ?_
                refine va_get (D := D) (cl := vwCl) (ci := 0) (v := .long (z23_lo 2)) (C := RX1) (T := TX1) (N := 4) hx hb hts inX1 hown hK.1 hP 0 rfl rfl 2 (by decide) hw3 (fun _ h => h) rfl dX1_watchByTurns_70 ?_
                refine lv_iload hx hb dX1_watchByTurns_73 (lv_at hl 0 rfl) ?_
                refine lv_i2l (v := (Int32.toInt64 z53_s0)) hx hb dX1_watchByTurns_75 rfl ?_
                refine lv_lmul hx hb dX1_watchByTurns_76 ?_
                refine lv_goto (tgt := 81) hx hb dX1_watchByTurns_77 (by decide) ?_
                exact hJ81 _  hf _ _ _ hP hD hS (lv_sub hl [0, 1, 2, 3, 4, 5, 6] rfl)
          · intro j53 hJ53 hf
            refine lv_if_eq (tgt := 52) hx hb dX1_watchByTurns_45 (by decide) (fun c_3 => ?_) (fun c_3 => ?_)
            · have hf := kIt hf c_3
              have t_3 := ti_eq c_3
              refine lv_iload_n hx hb dX1_watchByTurns_52 rfl (lv_at hl 4 rfl) ?_
              exact hJ53 _  hf _ _ _ hP hD hS (lv_sub hl [0, 1, 2, 3, 4, 5] rfl)
            · have hf := kIf hf c_3
              have t_3 := ti_ne c_3
              refine lv_iload_n hx hb dX1_watchByTurns_48 rfl (lv_at hl 3 rfl) ?_
              refine lv_goto (tgt := 53) hx hb dX1_watchByTurns_49 (by decide) ?_
              exact hJ53 _  hf _ _ _ hP hD hS (lv_sub hl [0, 1, 2, 3, 4, 5] rfl)
        · intro j41 hJ41 hf
          refine lv_if_ne (tgt := 40) hx hb dX1_watchByTurns_33 (by decide) (fun c_2 => ?_) (fun c_2 => ?_)
          · have hf := kIf hf c_2
            have t_2 := ti_ne c_2
            refine lv_iconst (v := (0 : Int32)) hx hb dX1_watchByTurns_40 (by decide) ?_
            exact hJ41 _ (Or.inl rfl)  hf _ _ _ hP hD hS (lv_sub hl [0, 1, 2, 3, 4] rfl)
          · have hf := kIt hf c_2
            have t_2 := ti_eq c_2
            refine lv_iconst (v := (1 : Int32)) hx hb dX1_watchByTurns_36 (by decide) ?_
            refine lv_goto (tgt := 41) hx hb dX1_watchByTurns_37 (by decide) ?_
            exact hJ41 _ (Or.inr rfl)  hf _ _ _ hP hD hS (lv_sub hl [0, 1, 2, 3, 4] rfl)
  refine lp23 _ (fun w23_lo  H locs ls  hP hD hS hl hf => ?_) (16) (0 : Int32) (u1 (u1 (u1 (u1 lo 0 (0 : Int64)) 1 (0 : Int64)) 2 (1 : Int64)) 3 (1 : Int64))  _ _ _ (by first | assumption | exact vin (by omega) (by omega) | omega) hP hD hS (lv_sub hl [0, 1, 2, 3, 4] rfl) hf
  exact kRetV hx hb hr hlk hP hD hS ((congrArg (fun q => loW a q) hf).symm) hQ dX1_watchByTurns_148
theorem kyX1_partOf : kY yX1_partOf cX1_partOf 9 (some .long) wsX1_partOf wsX1_partOf.tail 2 := ⟨rfl, by decide, by decide, by decide +kernel⟩
set_option maxHeartbeats 4000000 in
set_option maxRecDepth 100000 in
theorem k_X1_partOf (l : Launch) (D : va_G) (ct : ClassId × ClassId × ClassId) (z : Nat × Nat) (a : Nat) (x1 : Int64) (x3 : Int32) (lo : Nat → Int64)  : kC l D ct z yX1_partOf wsX1_partOf 0 0 [.ref a, .long x1, .int x3] (loW a lo) (some (.long (f_X1_partOf x1 x3 lo))) (loW a lo) := by
  refine kHead (cc := cX1_partOf) (maxL := 9) (ret := (some .long)) [(0, .ref a), (1, .long x1), (3, .int x3)] (by decide) rfl (Nat.le_of_ble_eq_true rfl) rfl ?_
  intro p e s m args below meth c A ls R Q hRf hRl hQ hx hb hr hlk hml hown hts hA hS hK hP hD hl
  have inX1 : ∀ w ∈ wsX10, w ∈ wsX1_partOf := fun w h => (List.mem_cons_of_mem _ (List.mem_append_right _ h))
  have hw1 := hts (Cond.fieldLink RX1 19 "MastPulpits$Lookouts" "outOf" "J") (List.mem_of_getElem? (i := 1) (by decide +kernel))
  have hw2 := hts (Cond.constantLong RX1 28 (2)) (List.mem_of_getElem? (i := 2) (by decide +kernel))
  have hw3 := hts (Cond.constantLong RX1 30 (5)) (List.mem_of_getElem? (i := 3) (by decide +kernel))
  have kc0 : (0 : Int32).toInt = 0 := by decide
  have kc1 : (1 : Int32).toInt = 1 := by decide
  have kc16 : (16 : Int32).toInt = 16 := by decide
  have kl0 : (0 : Int64).toInt = 0 := by decide
  have kl2 : (2 : Int64).toInt = 2 := by decide
  have kl5 : (5 : Int64).toInt = 5 := by decide
  have hf : f_X1_partOf x1 x3 lo = f_X1_partOf x1 x3 lo := rfl
  refine lv_lload_n hx hb dX1_partOf_0 rfl (lv_at hl 1 rfl) ?_
  refine lv_lstore (lv' := [(4, .long x1), (0, .ref a), (1, .long x1), (3, .int x3)]) hx hb dX1_partOf_1 hl (by decide) rfl (fun ls hl => ?_)
  refine lv_aload_n hx hb dX1_partOf_3 rfl (lv_at hl 1 rfl) ?_
  refine va_get (D := D) (cl := vwCl) (ci := 0) (v := .long (lo 3)) (C := RX1) (T := TX1) (N := 4) hx hb hts inX1 hown hK.1 hP 0 rfl rfl 3 (by decide) hw1 (fun _ h => h) rfl dX1_partOf_4 ?_
  refine lv_topl (fun y7 ey7 => ?_)
  have hf := kLt hf ey7
  refine lv_lstore (lv' := [(6, .long y7), (4, .long x1), (0, .ref a), (1, .long x1), (3, .int x3)]) hx hb dX1_partOf_7 hl (by decide) rfl (fun ls hl => ?_)
  refine lv_iconst (v := (0 : Int32)) hx hb dX1_partOf_9 (by decide) ?_
  refine lv_istore (lv' := [(8, .int (0 : Int32)), (6, .long y7), (4, .long x1), (0, .ref a), (1, .long x1), (3, .int x3)]) hx hb dX1_partOf_10 hl (by decide) rfl (fun ls hl => ?_)
  have lp12 : ∀ (K : Int64 → Int64 → Int64), (∀ (z12_6 : Int64) (z12_4 : Int64), ∀ (H : Heap) (locs : List Loc) (ls : Array Slot), va_P D vwCl (loW a lo) H → va_D A (loW a lo) → va_S A s.heap H locs → lv_has ls 9 [(6, .long z12_6), (4, .long z12_4), (3, .int x3)] → f_X1_partOf x1 x3 lo = K z12_6 z12_4 → W p l e R s m args below meth c H locs 0 0 Q (F0 m 101 ls [])) → ∀ (n : Nat) (z12_8 : Int32) (z12_6 : Int64) (z12_4 : Int64), ∀ (H : Heap) (locs : List Loc) (ls : Array Slot), (16 ≤ Int32.toInt z12_8 + (n : Int)) → va_P D vwCl (loW a lo) H → va_D A (loW a lo) → va_S A s.heap H locs → lv_has ls 9 [(8, .int z12_8), (6, .long z12_6), (4, .long z12_4), (3, .int x3)] → f_X1_partOf x1 x3 lo = f_X1_partOf_L12  K n z12_8 z12_6 z12_4 → W p l e R s m args below meth c H locs 0 0 Q (F0 m 12 ls []) := by
    intro K hk n
    induction n with
    | zero =>
      intro z12_8 z12_6 z12_4  H locs ls hn12 hP hD hS hl hf
      refine lv_iload hx hb dX1_partOf_12 (lv_at hl 0 rfl) ?_
      refine lv_bipush (v := (16 : Int32)) hx hb dX1_partOf_14 (by decide) ?_
      refine lv_icmp_ge (tgt := 101) hx hb dX1_partOf_16 (by decide) (fun c_6 => ?_) (fun c_6 => ?_)
      · have t_6 := ti_le c_6
        exact hk _ _ _ _ _  hP hD hS (lv_sub hl [1, 2, 3] rfl) hf
      · have t_6 := ti_nle c_6
        exfalso
        omega
    | succ n ih =>
      intro z12_8 z12_6 z12_4  H locs ls hn12 hP hD hS hl hf
      refine lv_iload hx hb dX1_partOf_12 (lv_at hl 0 rfl) ?_
      refine lv_bipush (v := (16 : Int32)) hx hb dX1_partOf_14 (by decide) ?_
      refine lv_icmp_ge (tgt := 101) hx hb dX1_partOf_16 (by decide) (fun c_1 => ?_) (fun c_1 => ?_)
      · have hf := kIt hf c_1
        have t_1 := ti_le c_1
        exact hk _ _ _ _ _  hP hD hS (lv_sub hl [1, 2, 3] rfl) hf
      · have hf := kIf hf c_1
        have t_1 := ti_nle c_1
        refine lv_lload hx hb dX1_partOf_19 (lv_at hl 2 rfl) ?_
        refine lv_ldc2 (v := (2 : Int64)) hx hb hown hw2 dX1_partOf_21 ?_
        refine lv_lrem hx hb dX1_partOf_24 (by decide) ?_
        refine lv_lconst (v := (0 : Int64)) hx hb dX1_partOf_25 (by decide) ?_
        refine W.lcmp hx hb dX1_partOf_26 ?_
        refine kJn hf (fun j0 => ∀ (z57_6 : Int64) (z57_4 : Int64), f_X1_partOf x1 x3 lo = j0 z57_6 z57_4 → ∀ (H : Heap) (locs : List Loc) (ls : Array Slot), va_P D vwCl (loW a lo) H → va_D A (loW a lo) → va_S A s.heap H locs → lv_has ls 9 [(8, .int z12_8), (6, .long z57_6), (4, .long z57_4), (3, .int x3)] → W p l e R s m args below meth c H locs 0 0 Q (F0 m 57 ls [])) ?_ ?_
        · intro j0 hj0 z57_6 z57_4  hf H locs ls hP hD hS hl
          subst hj0
          refine lv_lload hx hb dX1_partOf_57 (lv_at hl 2 rfl) ?_
          refine lv_ldc2 (v := (5 : Int64)) hx hb hown hw3 dX1_partOf_59 ?_
          refine lv_lrem hx hb dX1_partOf_62 (by decide) ?_
          refine lv_lconst (v := (0 : Int64)) hx hb dX1_partOf_63 (by decide) ?_
          refine W.lcmp hx hb dX1_partOf_64 ?_
          refine kJn hf (fun j0 => ∀ (z95_6 : Int64) (z95_4 : Int64), f_X1_partOf x1 x3 lo = j0 z95_6 z95_4 → ∀ (H : Heap) (locs : List Loc) (ls : Array Slot), va_P D vwCl (loW a lo) H → va_D A (loW a lo) → va_S A s.heap H locs → lv_has ls 9 [(8, .int z12_8), (6, .long z95_6), (4, .long z95_4), (3, .int x3)] → W p l e R s m args below meth c H locs 0 0 Q (F0 m 95 ls [])) ?_ ?_
          · intro j0 hj0 z95_6 z95_4  hf H locs ls hP hD hS hl
            subst hj0
            obtain ⟨y95, ey95⟩ : ∃ y : Int32, y = z12_8 + (1 : Int32) := ⟨_, rfl⟩
            have hf := kLt hf ey95
            have a95 : Int32.toInt y95 = Int32.toInt z12_8 + 1 := by have := ti_rng z12_8; rw [ey95]; exact ti_add (by rw [kc1]) (by omega) (by omega)
            refine lv_iinc (v := y95) (lv' := [(8, .int y95), (6, .long z95_6), (4, .long z95_4), (3, .int x3)]) hx hb dX1_partOf_95 hl (k := 0) rfl (by rw [ey95]; rfl) (by decide) rfl (fun ls hl => ?_)
            refine lv_goto (tgt := 12) hx hb dX1_partOf_98 (by decide) ?_
            exact ih y95 z95_6 z95_4 _ _ _ (by first | assumption | exact vin (by omega) (by omega) | omega) hP hD hS (lv_sub hl [0, 1, 2, 3] rfl) hf
          · intro j95 hJ95 hf
            refine lv_if_ne (tgt := 95) hx hb dX1_partOf_65 (by decide) (fun c_3 => ?_) (fun c_3 => ?_)
            · have hf := kIf hf c_3
              have t_3 := ti_ne c_3
              exact hJ95 _ _  hf _ _ _ hP hD hS (lv_sub hl [0, 1, 2, 3] rfl)
            · have hf := kIt hf c_3
              have t_3 := ti_eq c_3
              refine lv_lload hx hb dX1_partOf_68 (lv_at hl 1 rfl) ?_
              refine lv_ldc2 (v := (5 : Int64)) hx hb hown hw3 dX1_partOf_70 ?_
              refine lv_lrem hx hb dX1_partOf_73 (by decide) ?_
              refine lv_lconst (v := (0 : Int64)) hx hb dX1_partOf_74 (by decide) ?_
              refine W.lcmp hx hb dX1_partOf_75 ?_
              refine lv_if_ne (tgt := 95) hx hb dX1_partOf_76 (by decide) (fun c_4 => ?_) (fun c_4 => ?_)
              · have hf := kIf hf c_4
                have t_4 := ti_ne c_4
                exact hJ95 _ _  hf _ _ _ hP hD hS (lv_sub hl [0, 1, 2, 3] rfl)
              · have hf := kIt hf c_4
                have t_4 := ti_eq c_4
                refine lv_lload hx hb dX1_partOf_79 (lv_at hl 2 rfl) ?_
                refine lv_ldc2 (v := (5 : Int64)) hx hb hown hw3 dX1_partOf_81 ?_
                refine lv_ldiv hx hb dX1_partOf_84 (by decide) ?_
                refine lv_topl (fun y85 ey85 => ?_)
                have hf := kLt hf ey85
                refine lv_lstore (lv' := [(4, .long y85), (8, .int z12_8), (6, .long z57_6), (3, .int x3)]) hx hb dX1_partOf_85 hl (by decide) rfl (fun ls hl => ?_)
                refine lv_lload hx hb dX1_partOf_87 (lv_at hl 2 rfl) ?_
                refine lv_ldc2 (v := (5 : Int64)) hx hb hown hw3 dX1_partOf_89 ?_
                refine lv_ldiv hx hb dX1_partOf_92 (by decide) ?_
                refine lv_topl (fun y93 ey93 => ?_)
                have hf := kLt hf ey93
                refine lv_lstore (lv' := [(6, .long y93), (4, .long y85), (8, .int z12_8), (3, .int x3)]) hx hb dX1_partOf_93 hl (by decide) rfl (fun ls hl => ?_)
                exact hJ95 _ _  hf _ _ _ hP hD hS (lv_sub hl [2, 0, 1, 3] rfl)
        · intro j57 hJ57 hf
          refine lv_if_ne (tgt := 57) hx hb dX1_partOf_27 (by decide) (fun c_2 => ?_) (fun c_2 => ?_)
          · have hf := kIf hf c_2
            have t_2 := ti_ne c_2
            exact hJ57 _ _  hf _ _ _ hP hD hS (lv_sub hl [0, 1, 2, 3] rfl)
          · have hf := kIt hf c_2
            have t_2 := ti_eq c_2
            refine lv_lload hx hb dX1_partOf_30 (lv_at hl 1 rfl) ?_
            refine lv_ldc2 (v := (2 : Int64)) hx hb hown hw2 dX1_partOf_32 ?_
            refine lv_lrem hx hb dX1_partOf_35 (by decide) ?_
            refine lv_lconst (v := (0 : Int64)) hx hb dX1_partOf_36 (by decide) ?_
            refine W.lcmp hx hb dX1_partOf_37 ?_
            refine lv_if_ne (tgt := 57) hx hb dX1_partOf_38 (by decide) (fun c_5 => ?_) (fun c_5 => ?_)
            · have hf := kIf hf c_5
              have t_5 := ti_ne c_5
              exact hJ57 _ _  hf _ _ _ hP hD hS (lv_sub hl [0, 1, 2, 3] rfl)
            · have hf := kIt hf c_5
              have t_5 := ti_eq c_5
              refine lv_lload hx hb dX1_partOf_41 (lv_at hl 2 rfl) ?_
              refine lv_ldc2 (v := (2 : Int64)) hx hb hown hw2 dX1_partOf_43 ?_
              refine lv_ldiv hx hb dX1_partOf_46 (by decide) ?_
              refine lv_topl (fun y47 ey47 => ?_)
              have hf := kLt hf ey47
              refine lv_lstore (lv' := [(4, .long y47), (8, .int z12_8), (6, .long z12_6), (3, .int x3)]) hx hb dX1_partOf_47 hl (by decide) rfl (fun ls hl => ?_)
              refine lv_lload hx hb dX1_partOf_49 (lv_at hl 2 rfl) ?_
              refine lv_ldc2 (v := (2 : Int64)) hx hb hown hw2 dX1_partOf_51 ?_
              refine lv_ldiv hx hb dX1_partOf_54 (by decide) ?_
              refine lv_topl (fun y55 ey55 => ?_)
              have hf := kLt hf ey55
              refine lv_lstore (lv' := [(6, .long y55), (4, .long y47), (8, .int z12_8), (3, .int x3)]) hx hb dX1_partOf_55 hl (by decide) rfl (fun ls hl => ?_)
              exact hJ57 _ _  hf _ _ _ hP hD hS (lv_sub hl [2, 0, 1, 3] rfl)
  refine lp12 _ (fun w12_6 w12_4  H locs ls  hP hD hS hl hf => ?_) (16) (0 : Int32) y7 x1  _ _ _ (by first | assumption | exact vin (by omega) (by omega) | omega) hP hD hS (lv_sub hl [0, 1, 2, 5] rfl) hf
  refine lv_iload_n hx hb dX1_partOf_101 rfl (lv_at hl 2 rfl) ?_
  refine lv_if_ne (tgt := 110) hx hb dX1_partOf_102 (by decide) (fun c_7 => ?_) (fun c_7 => ?_)
  · have hf := kIf hf c_7
    have t_7 := ti_ne c_7
    refine lv_lload hx hb dX1_partOf_110 (lv_at hl 0 rfl) ?_
    exact kRetL hx hb hr hlk hP hD hS hf.symm rfl hQ dX1_partOf_112
  · have hf := kIt hf c_7
    have t_7 := ti_eq c_7
    refine lv_lload hx hb dX1_partOf_105 (lv_at hl 1 rfl) ?_
    refine lv_goto (tgt := 112) hx hb dX1_partOf_107 (by decide) ?_
    exact kRetL hx hb hr hlk hP hD hS hf.symm rfl hQ dX1_partOf_112
theorem kyX1_chance : kY yX1_chance cX1_chance 3 (some .long) wsX1_chance wsX1_chance.tail 2 := ⟨rfl, by decide, by decide, by decide +kernel⟩
set_option maxHeartbeats 4000000 in
set_option maxRecDepth 100000 in
theorem k_X1_chance (l : Launch) (D : va_G) (ct : ClassId × ClassId × ClassId) (z : Nat × Nat) (a : Nat) (x1 : Int32) (x2 : Int32) (lo : Nat → Int64)  : kC l D ct z yX1_chance wsX1_chance 1 28 [.ref a, .int x1, .int x2] (loW a lo) (some (.long (f_X1_chance x1 x2 lo))) (loW a lo) := by
  refine kHead (cc := cX1_chance) (maxL := 3) (ret := (some .long)) [(0, .ref a), (1, .int x1), (2, .int x2)] (by decide) rfl (Nat.le_of_ble_eq_true rfl) rfl ?_
  intro p e s m args below meth c A ls R Q hRf hRl hQ hx hb hr hlk hml hown hts hA hS hK hP hD hl
  have inX1 : ∀ w ∈ wsX10, w ∈ wsX1_chance := fun w h => (List.mem_cons_of_mem _ (List.mem_append_right _ h))
  have hw1 := hts (Cond.fieldLink RX1 7 "MastPulpits$Lookouts" "byFirst" "J") (List.mem_of_getElem? (i := 1) (by decide +kernel))
  have hw2 := hts (Cond.fieldLink RX1 13 "MastPulpits$Lookouts" "byOther" "J") (List.mem_of_getElem? (i := 2) (by decide +kernel))
  have hw3 := hts (Cond.fieldLink RX1 16 "MastPulpits$Lookouts" "byNobody" "J") (List.mem_of_getElem? (i := 3) (by decide +kernel))
  have kc0 : (0 : Int32).toInt = 0 := by decide
  have kc1 : (1 : Int32).toInt = 1 := by decide
  have hf : f_X1_chance x1 x2 lo = f_X1_chance x1 x2 lo := rfl
  refine lv_iload_n hx hb dX1_chance_0 rfl (lv_at hl 1 rfl) ?_
  refine lv_if_ne (tgt := 14) hx hb dX1_chance_1 (by decide) (fun c_1 => ?_) (fun c_1 => ?_)
  · have hf := kIf hf c_1
    have t_1 := ti_ne c_1
    refine lv_aload_n hx hb dX1_chance_14 rfl (lv_at hl 0 rfl) ?_
    refine lv_iload_n hx hb dX1_chance_15 rfl (lv_at hl 1 rfl) ?_
    refine lv_iconst (v := (1 : Int32)) hx hb dX1_chance_16 (by decide) ?_
    refine kJn hf (fun j0 => ∀ (z31_s0 : Int64), f_X1_chance x1 x2 lo = j0 z31_s0 → ∀ (H : Heap) (locs : List Loc) (ls : Array Slot), va_P D vwCl (loW a lo) H → va_D A (loW a lo) → va_S A s.heap H locs → lv_has ls 3 [(2, .int x2)] → W p l e R s m args below meth c H locs 0 0 Q (F0 m 31 ls [.long z31_s0, .ref a])) ?_ ?_
    · intro j0 hj0 z31_s0  hf H locs ls hP hD hS hl
      subst hj0
      refine lv_iload_n hx hb dX1_chance_31 rfl (lv_at hl 0 rfl) ?_
      have hM : kC l D ct z yX1_partOf wsX1_partOf 0 0 [.ref a, .long z31_s0, .int x2] (loW a lo) (some (.long (f_X1_partOf z31_s0 x2 lo))) (loW a lo) := k_X1_partOf l D ct z a z31_s0 x2 lo
      refine kV1 (As := [.long z31_s0, .int x2]) (rest := []) ⟨hx, hb, hml, hown, hts⟩ hM gX1_chance_X1_partOf kyX1_partOf (by rw [hRf, hRl]; exact ⟨Nat.le_of_ble_eq_true rfl, Nat.le_of_ble_eq_true rfl⟩) hK hP hD hS hA 0 rfl rfl rfl rfl hl.1 rfl (st1 := [.long (f_X1_partOf z31_s0 x2 lo)]) rfl rfl ⟨Nat.zero_le _, Nat.zero_le _⟩ dX1_chance_32 (fun H locs hP hD hS => ?_)
      exact kRetL hx hb hr hlk hP hD hS hf.symm rfl hQ dX1_chance_35
    · intro j31 hJ31 hf
      refine lv_icmp_ne (tgt := 27) hx hb dX1_chance_17 (by decide) (fun c_2 => ?_) (fun c_2 => ?_)
      · have hf := kIf hf c_2
        have t_2 := ti_ne c_2
        refine lv_aload_n hx hb dX1_chance_27 rfl (lv_at hl 0 rfl) ?_
        refine va_get (D := D) (cl := vwCl) (ci := 0) (v := .long (lo 2)) (C := RX1) (T := TX1) (N := 4) hx hb hts inX1 hown hK.1 hP 0 rfl rfl 2 (by decide) hw3 (fun _ h => h) rfl dX1_chance_28 ?_
        exact hJ31 _  hf _ _ _ hP hD hS (lv_sub hl [2] rfl)
      · have hf := kIt hf c_2
        have t_2 := ti_eq c_2
        refine lv_aload_n hx hb dX1_chance_20 rfl (lv_at hl 0 rfl) ?_
        refine va_get (D := D) (cl := vwCl) (ci := 0) (v := .long (lo 1)) (C := RX1) (T := TX1) (N := 4) hx hb hts inX1 hown hK.1 hP 0 rfl rfl 1 (by decide) hw2 (fun _ h => h) rfl dX1_chance_21 ?_
        refine lv_goto (tgt := 31) hx hb dX1_chance_24 (by decide) ?_
        exact hJ31 _  hf _ _ _ hP hD hS (lv_sub hl [2] rfl)
  · have hf := kIt hf c_1
    have t_1 := ti_eq c_1
    refine lv_aload_n hx hb dX1_chance_4 rfl (lv_at hl 0 rfl) ?_
    refine lv_aload_n hx hb dX1_chance_5 rfl (lv_at hl 0 rfl) ?_
    refine va_get (D := D) (cl := vwCl) (ci := 0) (v := .long (lo 0)) (C := RX1) (T := TX1) (N := 4) hx hb hts inX1 hown hK.1 hP 0 rfl rfl 0 (by decide) hw1 (fun _ h => h) rfl dX1_chance_6 ?_
    refine lv_iload_n hx hb dX1_chance_9 rfl (lv_at hl 2 rfl) ?_
    have hM : kC l D ct z yX1_partOf wsX1_partOf 0 0 [.ref a, .long (lo 0), .int x2] (loW a lo) (some (.long (f_X1_partOf (lo 0) x2 lo))) (loW a lo) := k_X1_partOf l D ct z a (lo 0) x2 lo
    refine kV1 (As := [.long (lo 0), .int x2]) (rest := []) ⟨hx, hb, hml, hown, hts⟩ hM gX1_chance_X1_partOf kyX1_partOf (by rw [hRf, hRl]; exact ⟨Nat.le_of_ble_eq_true rfl, Nat.le_of_ble_eq_true rfl⟩) hK hP hD hS hA 0 rfl rfl rfl rfl hl.1 rfl (st1 := [.long (f_X1_partOf (lo 0) x2 lo)]) rfl rfl ⟨Nat.zero_le _, Nat.zero_le _⟩ dX1_chance_10 (fun H locs hP hD hS => ?_)
    exact kRetL hx hb hr hlk hP hD hS hf.symm rfl hQ dX1_chance_13
theorem kyX2_write : kY yX2_write cX2_write 2 (some .boolean) wsX2_write wsX2_write.tail 1 := ⟨rfl, by decide, by decide, by decide +kernel⟩
set_option maxHeartbeats 4000000 in
set_option maxRecDepth 100000 in
theorem k_X2_write (l : Launch) (D : va_G) (ct : ClassId × ClassId × ClassId) (z : Nat × Nat) (a : Nat) (b : Nat) (x1 : Int32) (i : Nat → Int32) (f : Nat → Int32)  : kC l D ct z yX2_write wsX2_write 0 0 [.ref a, .int x1] (paW a b ct i f) (some (.int ((f_X2_write x1 i f).1))) (paW a b ct ((f_X2_write x1 i f).2.1) ((f_X2_write x1 i f).2.2)) := by
  refine kHead (cc := cX2_write) (maxL := 2) (ret := (some .boolean)) [(0, .ref a), (1, .int x1)] (by decide) rfl (Nat.le_of_ble_eq_true rfl) rfl ?_
  intro p e s m args below meth c A ls R Q hRf hRl hQ hx hb hr hlk hml hown hts hA hS hK hP hD hl
  have inX2 : ∀ w ∈ wsX20, w ∈ wsX2_write := fun w h => (List.mem_cons_of_mem _ (List.mem_append_right _ h))
  have hw1 := hts (Cond.fieldLink RX2 15 "MastPulpits$Pad" "length" "I") (List.mem_of_getElem? (i := 1) (by decide +kernel))
  have hw2 := hts (Cond.fieldLink RX2 9 "MastPulpits$Pad" "signs" "[I") (List.mem_of_getElem? (i := 2) (by decide +kernel))
  have kc0 : (0 : Int32).toInt = 0 := by decide
  have kc1 : (1 : Int32).toInt = 1 := by decide
  have kc60 : (60 : Int32).toInt = 60 := by decide
  have hf : f_X2_write x1 i f = f_X2_write x1 i f := rfl
  refine lv_aload_n hx hb dX2_write_0 rfl (lv_at hl 0 rfl) ?_
  refine va_get (D := D) (cl := vwCl) (ci := 1) (v := .int (i 1)) (C := RX2) (T := TX2) (N := 2) hx hb hts inX2 hown hK.1 hP 0 rfl rfl 1 (by decide) hw1 (fun _ h => h) rfl dX2_write_1 ?_
  refine lv_if_lt (tgt := 19) hx hb dX2_write_4 (by decide) (fun c_1 => ?_) (fun c_1 => ?_)
  · have hf := kIt hf c_1
    have t_1 := ti_lt c_1
    refine lv_iconst (v := (0 : Int32)) hx hb dX2_write_19 (by decide) ?_
    exact kRetZ hx hb hr hlk hP hD hS (Or.inl rfl) (kfst hf) ((congrArg (fun q => paW a b ct q.2.1 q.2.2) hf).symm) hQ dX2_write_20
  · have hf := kIf hf c_1
    have t_1 := ti_nlt c_1
    refine lv_aload_n hx hb dX2_write_7 rfl (lv_at hl 0 rfl) ?_
    refine va_get (D := D) (cl := vwCl) (ci := 1) (v := .int (i 1)) (C := RX2) (T := TX2) (N := 2) hx hb hts inX2 hown hK.1 hP 0 rfl rfl 1 (by decide) hw1 (fun _ h => h) rfl dX2_write_8 ?_
    refine lv_aload_n hx hb dX2_write_11 rfl (lv_at hl 0 rfl) ?_
    refine va_get (D := D) (cl := vwCl) (ci := 1) (v := .ref b) (C := RX2) (T := TX2) (N := 2) hx hb hts inX2 hown hK.1 hP 0 rfl rfl 0 (by decide) hw2 (fun _ h => h) rfl dX2_write_12 ?_
    refine va_alen (v := (60 : Int32)) hx hb hK.1 hP 1 0 rfl rfl rfl dX2_write_15 ?_
    refine lv_icmp_lt (tgt := 21) hx hb dX2_write_16 (by decide) (fun c_2 => ?_) (fun c_2 => ?_)
    · have hf := kIt hf c_2
      have t_2 := ti_lt c_2
      refine lv_aload_n hx hb dX2_write_21 rfl (lv_at hl 0 rfl) ?_
      refine va_get (D := D) (cl := vwCl) (ci := 1) (v := .ref b) (C := RX2) (T := TX2) (N := 2) hx hb hts inX2 hown hK.1 hP 0 rfl rfl 0 (by decide) hw2 (fun _ h => h) rfl dX2_write_22 ?_
      refine lv_aload_n hx hb dX2_write_25 rfl (lv_at hl 0 rfl) ?_
      refine va_get (D := D) (cl := vwCl) (ci := 1) (v := .int (i 1)) (C := RX2) (T := TX2) (N := 2) hx hb hts inX2 hown hK.1 hP 0 rfl rfl 1 (by decide) hw1 (fun _ h => h) rfl dX2_write_26 ?_
      refine lv_iload_n hx hb dX2_write_29 rfl (lv_at hl 1 rfl) ?_
      refine kIast (W1 := paW a b ct i (u1 f ((Int32.toNatClampNeg (i 1))) x1)) hx hb hK hP hD hS 1 rfl (by first | assumption | exact vin (by omega) (by omega) | omega) rfl dX2_write_30 (fun H locs hP hD hS => ?_)
      refine lv_aload_n hx hb dX2_write_31 rfl (lv_at hl 0 rfl) ?_
      refine lv_dup hx hb dX2_write_32 rfl ?_
      refine va_get (D := D) (cl := vwCl) (ci := 1) (v := .int (i 1)) (C := RX2) (T := TX2) (N := 2) hx hb hts inX2 hown hK.1 hP 0 rfl rfl 1 (by decide) hw1 (fun _ h => h) rfl dX2_write_33 ?_
      refine lv_iconst (v := (1 : Int32)) hx hb dX2_write_36 (by decide) ?_
      refine lv_iadd hx hb dX2_write_37 ?_
      refine lv_topi (fun y38 ey38 => ?_)
      have hf := kLt hf ey38
      refine kPut (ci := 1) (C := RX2) (T := TX2) (N := 2) (ty := .int) (v := .int y38) (W1 := paW a b ct (u1 i 1 y38) (u1 f ((Int32.toNatClampNeg (i 1))) x1)) hx hb hts inX2 tyX2 tyX2_ok nmX2 hown hK hP hD hS 0 rfl rfl 1 (by decide) hw1 (fun _ h => h) rfl (by decide +kernel) rfl rfl (Nat.le_of_ble_eq_true rfl) rfl dX2_write_38 (fun H locs hP hD hS => ?_)
      refine lv_iconst (v := (1 : Int32)) hx hb dX2_write_41 (by decide) ?_
      exact kRetZ hx hb hr hlk hP hD hS (Or.inr rfl) (kfst hf) ((congrArg (fun q => paW a b ct q.2.1 q.2.2) hf).symm) hQ dX2_write_42
    · have hf := kIf hf c_2
      have t_2 := ti_nlt c_2
      refine lv_iconst (v := (0 : Int32)) hx hb dX2_write_19 (by decide) ?_
      exact kRetZ hx hb hr hlk hP hD hS (Or.inl rfl) (kfst hf) ((congrArg (fun q => paW a b ct q.2.1 q.2.2) hf).symm) hQ dX2_write_20
theorem kyX2_signAt : kY yX2_signAt cX2_signAt 2 (some .int) wsX2_signAt wsX2_signAt.tail 1 := ⟨rfl, by decide, by decide, by decide +kernel⟩
set_option maxHeartbeats 4000000 in
set_option maxRecDepth 100000 in
theorem k_X2_signAt (l : Launch) (D : va_G) (ct : ClassId × ClassId × ClassId) (z : Nat × Nat) (a : Nat) (b : Nat) (x1 : Int32) (i : Nat → Int32) (f : Nat → Int32)  : kC l D ct z yX2_signAt wsX2_signAt 0 0 [.ref a, .int x1] (paW a b ct i f) (some (.int (f_X2_signAt x1 i f))) (paW a b ct i f) := by
  refine kHead (cc := cX2_signAt) (maxL := 2) (ret := (some .int)) [(0, .ref a), (1, .int x1)] (by decide) rfl (Nat.le_of_ble_eq_true rfl) rfl ?_
  intro p e s m args below meth c A ls R Q hRf hRl hQ hx hb hr hlk hml hown hts hA hS hK hP hD hl
  have inX2 : ∀ w ∈ wsX20, w ∈ wsX2_signAt := fun w h => (List.mem_cons_of_mem _ (List.mem_append_right _ h))
  have hw1 := hts (Cond.fieldLink RX2 15 "MastPulpits$Pad" "length" "I") (List.mem_of_getElem? (i := 1) (by decide +kernel))
  have hw2 := hts (Cond.fieldLink RX2 9 "MastPulpits$Pad" "signs" "[I") (List.mem_of_getElem? (i := 2) (by decide +kernel))
  have kcm6 : (-6 : Int32).toInt = -6 := by decide
  have kc0 : (0 : Int32).toInt = 0 := by decide
  have kc60 : (60 : Int32).toInt = 60 := by decide
  have hf : f_X2_signAt x1 i f = f_X2_signAt x1 i f := rfl
  refine lv_iload_n hx hb dX2_signAt_0 rfl (lv_at hl 1 rfl) ?_
  refine lv_if_lt (tgt := 30) hx hb dX2_signAt_1 (by decide) (fun c_1 => ?_) (fun c_1 => ?_)
  · have hf := kIt hf c_1
    have t_1 := ti_lt c_1
    refine lv_bipush (v := (-6 : Int32)) hx hb dX2_signAt_30 (by decide) ?_
    exact kRetI hx hb hr hlk hP hD hS hf.symm rfl hQ dX2_signAt_32
  · have hf := kIf hf c_1
    have t_1 := ti_nlt c_1
    refine lv_iload_n hx hb dX2_signAt_4 rfl (lv_at hl 1 rfl) ?_
    refine lv_aload_n hx hb dX2_signAt_5 rfl (lv_at hl 0 rfl) ?_
    refine va_get (D := D) (cl := vwCl) (ci := 1) (v := .int (i 1)) (C := RX2) (T := TX2) (N := 2) hx hb hts inX2 hown hK.1 hP 0 rfl rfl 1 (by decide) hw1 (fun _ h => h) rfl dX2_signAt_6 ?_
    refine lv_icmp_ge (tgt := 30) hx hb dX2_signAt_9 (by decide) (fun c_2 => ?_) (fun c_2 => ?_)
    · have hf := kIt hf c_2
      have t_2 := ti_le c_2
      refine lv_bipush (v := (-6 : Int32)) hx hb dX2_signAt_30 (by decide) ?_
      exact kRetI hx hb hr hlk hP hD hS hf.symm rfl hQ dX2_signAt_32
    · have hf := kIf hf c_2
      have t_2 := ti_nle c_2
      refine lv_iload_n hx hb dX2_signAt_12 rfl (lv_at hl 1 rfl) ?_
      refine lv_aload_n hx hb dX2_signAt_13 rfl (lv_at hl 0 rfl) ?_
      refine va_get (D := D) (cl := vwCl) (ci := 1) (v := .ref b) (C := RX2) (T := TX2) (N := 2) hx hb hts inX2 hown hK.1 hP 0 rfl rfl 0 (by decide) hw2 (fun _ h => h) rfl dX2_signAt_14 ?_
      refine va_alen (v := (60 : Int32)) hx hb hK.1 hP 1 0 rfl rfl rfl dX2_signAt_17 ?_
      refine lv_icmp_ge (tgt := 30) hx hb dX2_signAt_18 (by decide) (fun c_3 => ?_) (fun c_3 => ?_)
      · have hf := kIt hf c_3
        have t_3 := ti_le c_3
        refine lv_bipush (v := (-6 : Int32)) hx hb dX2_signAt_30 (by decide) ?_
        exact kRetI hx hb hr hlk hP hD hS hf.symm rfl hQ dX2_signAt_32
      · have hf := kIf hf c_3
        have t_3 := ti_nle c_3
        refine lv_aload_n hx hb dX2_signAt_21 rfl (lv_at hl 0 rfl) ?_
        refine va_get (D := D) (cl := vwCl) (ci := 1) (v := .ref b) (C := RX2) (T := TX2) (N := 2) hx hb hts inX2 hown hK.1 hP 0 rfl rfl 0 (by decide) hw2 (fun _ h => h) rfl dX2_signAt_22 ?_
        refine lv_iload_n hx hb dX2_signAt_25 rfl (lv_at hl 1 rfl) ?_
        refine va_iald hx hb hK.1 hP 1 0 rfl rfl (by first | assumption | exact vin (by omega) (by omega) | omega) dX2_signAt_26 ?_
        refine lv_goto (tgt := 32) hx hb dX2_signAt_27 (by decide) ?_
        exact kRetI hx hb hr hlk hP hD hS hf.symm rfl hQ dX2_signAt_32
theorem kyX2_isLetter : kY yX2_isLetter cX2_isLetter 1 (some .boolean) wsX2_isLetter wsX2_isLetter.tail 1 := ⟨rfl, by decide, by decide, by decide +kernel⟩
set_option maxHeartbeats 4000000 in
set_option maxRecDepth 100000 in
theorem k_X2_isLetter (l : Launch) (D : va_G) (ct : ClassId × ClassId × ClassId) (z : Nat × Nat)  (x0 : Int32)  : kC l D ct z yX2_isLetter wsX2_isLetter 0 0 [.int x0] ([]) (some (.int (f_X2_isLetter x0))) ([]) := by
  refine kHead (cc := cX2_isLetter) (maxL := 1) (ret := (some .boolean)) [(0, .int x0)] (by decide) rfl (Nat.le_of_ble_eq_true rfl) rfl ?_
  intro p e s m args below meth c A ls R Q hRf hRl hQ hx hb hr hlk hml hown hts hA hS hK hP hD hl
  have kc0 : (0 : Int32).toInt = 0 := by decide
  have kc1 : (1 : Int32).toInt = 1 := by decide
  have kc65 : (65 : Int32).toInt = 65 := by decide
  have kc70 : (70 : Int32).toInt = 70 := by decide
  have hf : f_X2_isLetter x0 = f_X2_isLetter x0 := rfl
  refine lv_iload_n hx hb dX2_isLetter_0 rfl (lv_at hl 0 rfl) ?_
  refine lv_bipush (v := (65 : Int32)) hx hb dX2_isLetter_1 (by decide) ?_
  refine lv_icmp_lt (tgt := 16) hx hb dX2_isLetter_3 (by decide) (fun c_1 => ?_) (fun c_1 => ?_)
  · have hf := kIt hf c_1
    have t_1 := ti_lt c_1
    refine lv_iconst (v := (0 : Int32)) hx hb dX2_isLetter_16 (by decide) ?_
    exact kRetZ hx hb hr hlk hP hD hS (Or.inl rfl) hf.symm rfl hQ dX2_isLetter_17
  · have hf := kIf hf c_1
    have t_1 := ti_nlt c_1
    refine lv_iload_n hx hb dX2_isLetter_6 rfl (lv_at hl 0 rfl) ?_
    refine lv_bipush (v := (70 : Int32)) hx hb dX2_isLetter_7 (by decide) ?_
    refine lv_icmp_gt (tgt := 16) hx hb dX2_isLetter_9 (by decide) (fun c_2 => ?_) (fun c_2 => ?_)
    · have hf := kIt hf c_2
      have t_2 := ti_lt c_2
      refine lv_iconst (v := (0 : Int32)) hx hb dX2_isLetter_16 (by decide) ?_
      exact kRetZ hx hb hr hlk hP hD hS (Or.inl rfl) hf.symm rfl hQ dX2_isLetter_17
    · have hf := kIf hf c_2
      have t_2 := ti_nlt c_2
      refine lv_iconst (v := (1 : Int32)) hx hb dX2_isLetter_12 (by decide) ?_
      refine lv_goto (tgt := 17) hx hb dX2_isLetter_13 (by decide) ?_
      exact kRetZ hx hb hr hlk hP hD hS (Or.inr rfl) hf.symm rfl hQ dX2_isLetter_17
theorem kyX2_isDigit : kY yX2_isDigit cX2_isDigit 1 (some .boolean) wsX2_isDigit wsX2_isDigit.tail 1 := ⟨rfl, by decide, by decide, by decide +kernel⟩
set_option maxHeartbeats 4000000 in
set_option maxRecDepth 100000 in
theorem k_X2_isDigit (l : Launch) (D : va_G) (ct : ClassId × ClassId × ClassId) (z : Nat × Nat)  (x0 : Int32)  : kC l D ct z yX2_isDigit wsX2_isDigit 0 0 [.int x0] ([]) (some (.int (f_X2_isDigit x0))) ([]) := by
  refine kHead (cc := cX2_isDigit) (maxL := 1) (ret := (some .boolean)) [(0, .int x0)] (by decide) rfl (Nat.le_of_ble_eq_true rfl) rfl ?_
  intro p e s m args below meth c A ls R Q hRf hRl hQ hx hb hr hlk hml hown hts hA hS hK hP hD hl
  have kc0 : (0 : Int32).toInt = 0 := by decide
  have kc1 : (1 : Int32).toInt = 1 := by decide
  have kc48 : (48 : Int32).toInt = 48 := by decide
  have kc55 : (55 : Int32).toInt = 55 := by decide
  have hf : f_X2_isDigit x0 = f_X2_isDigit x0 := rfl
  refine lv_iload_n hx hb dX2_isDigit_0 rfl (lv_at hl 0 rfl) ?_
  refine lv_bipush (v := (48 : Int32)) hx hb dX2_isDigit_1 (by decide) ?_
  refine lv_icmp_lt (tgt := 16) hx hb dX2_isDigit_3 (by decide) (fun c_1 => ?_) (fun c_1 => ?_)
  · have hf := kIt hf c_1
    have t_1 := ti_lt c_1
    refine lv_iconst (v := (0 : Int32)) hx hb dX2_isDigit_16 (by decide) ?_
    exact kRetZ hx hb hr hlk hP hD hS (Or.inl rfl) hf.symm rfl hQ dX2_isDigit_17
  · have hf := kIf hf c_1
    have t_1 := ti_nlt c_1
    refine lv_iload_n hx hb dX2_isDigit_6 rfl (lv_at hl 0 rfl) ?_
    refine lv_bipush (v := (55 : Int32)) hx hb dX2_isDigit_7 (by decide) ?_
    refine lv_icmp_gt (tgt := 16) hx hb dX2_isDigit_9 (by decide) (fun c_2 => ?_) (fun c_2 => ?_)
    · have hf := kIt hf c_2
      have t_2 := ti_lt c_2
      refine lv_iconst (v := (0 : Int32)) hx hb dX2_isDigit_16 (by decide) ?_
      exact kRetZ hx hb hr hlk hP hD hS (Or.inl rfl) hf.symm rfl hQ dX2_isDigit_17
    · have hf := kIf hf c_2
      have t_2 := ti_nlt c_2
      refine lv_iconst (v := (1 : Int32)) hx hb dX2_isDigit_12 (by decide) ?_
      refine lv_goto (tgt := 17) hx hb dX2_isDigit_13 (by decide) ?_
      exact kRetZ hx hb hr hlk hP hD hS (Or.inr rfl) hf.symm rfl hQ dX2_isDigit_17
theorem kyX2_actAt : kY yX2_actAt cX2_actAt 4 (some .int) wsX2_actAt wsX2_actAt.tail 1 := ⟨rfl, by decide, by decide, by decide +kernel⟩
set_option maxHeartbeats 4000000 in
set_option maxRecDepth 100000 in
theorem k_X2_actAt (l : Launch) (D : va_G) (ct : ClassId × ClassId × ClassId) (z : Nat × Nat) (a : Nat) (b : Nat) (x1 : Int32) (i : Nat → Int32) (f : Nat → Int32)  : kC l D ct z yX2_actAt wsX2_actAt 1 21 [.ref a, .int x1] (paW a b ct i f) (some (.int (f_X2_actAt x1 i f))) (paW a b ct i f) := by
  refine kHead (cc := cX2_actAt) (maxL := 4) (ret := (some .int)) [(0, .ref a), (1, .int x1)] (by decide) rfl (Nat.le_of_ble_eq_true rfl) rfl ?_
  intro p e s m args below meth c A ls R Q hRf hRl hQ hx hb hr hlk hml hown hts hA hS hK hP hD hl
  have kcm6 : (-6 : Int32).toInt = -6 := by decide
  have kc0 : (0 : Int32).toInt = 0 := by decide
  have kc1 : (1 : Int32).toInt = 1 := by decide
  have kc2 : (2 : Int32).toInt = 2 := by decide
  have kc3 : (3 : Int32).toInt = 3 := by decide
  have kc4 : (4 : Int32).toInt = 4 := by decide
  have kc5 : (5 : Int32).toInt = 5 := by decide
  have kc46 : (46 : Int32).toInt = 46 := by decide
  have kc94 : (94 : Int32).toInt = 94 := by decide
  have kc95 : (95 : Int32).toInt = 95 := by decide
  have kc99 : (99 : Int32).toInt = 99 := by decide
  have kc102 : (102 : Int32).toInt = 102 := by decide
  have kc119 : (119 : Int32).toInt = 119 := by decide
  have hf : f_X2_actAt x1 i f = f_X2_actAt x1 i f := rfl
  refine lv_aload_n hx hb dX2_actAt_0 rfl (lv_at hl 0 rfl) ?_
  refine lv_iload_n hx hb dX2_actAt_1 rfl (lv_at hl 1 rfl) ?_
  have hM : kC l D ct z yX2_signAt wsX2_signAt 0 0 [.ref a, .int x1] (paW a b ct i f) (some (.int (f_X2_signAt x1 i f))) (paW a b ct i f) := k_X2_signAt l D ct z a b x1 i f
  refine kV1 (As := [.int x1]) (rest := []) ⟨hx, hb, hml, hown, hts⟩ hM gX2_actAt_X2_signAt kyX2_signAt (by rw [hRf, hRl]; exact ⟨Nat.le_of_ble_eq_true rfl, Nat.le_of_ble_eq_true rfl⟩) hK hP hD hS hA 0 rfl rfl rfl rfl hl.1 rfl (st1 := [.int (f_X2_signAt x1 i f)]) rfl rfl ⟨Nat.zero_le _, Nat.zero_le _⟩ dX2_actAt_2 (fun H locs hP hD hS => ?_)
  refine lv_topi (fun y5 ey5 => ?_)
  have hf := kLt hf ey5
  refine lv_istore_n (lv' := [(2, .int y5), (0, .ref a), (1, .int x1)]) hx hb dX2_actAt_5 rfl hl (by decide) rfl (fun ls hl => ?_)
  refine lv_aload_n hx hb dX2_actAt_6 rfl (lv_at hl 1 rfl) ?_
  refine lv_iload_n hx hb dX2_actAt_7 rfl (lv_at hl 2 rfl) ?_
  refine lv_iconst (v := (1 : Int32)) hx hb dX2_actAt_8 (by decide) ?_
  refine lv_iadd hx hb dX2_actAt_9 ?_
  have hM : kC l D ct z yX2_signAt wsX2_signAt 0 0 [.ref a, .int (x1 + (1 : Int32))] (paW a b ct i f) (some (.int (f_X2_signAt (x1 + (1 : Int32)) i f))) (paW a b ct i f) := k_X2_signAt l D ct z a b (x1 + (1 : Int32)) i f
  refine kV1 (As := [.int (x1 + (1 : Int32))]) (rest := []) ⟨hx, hb, hml, hown, hts⟩ hM gX2_actAt_X2_signAt kyX2_signAt (by rw [hRf, hRl]; exact ⟨Nat.le_of_ble_eq_true rfl, Nat.le_of_ble_eq_true rfl⟩) hK hP hD hS hA 0 rfl rfl rfl rfl hl.1 rfl (st1 := [.int (f_X2_signAt (x1 + (1 : Int32)) i f)]) rfl rfl ⟨Nat.zero_le _, Nat.zero_le _⟩ dX2_actAt_10 (fun H locs hP hD hS => ?_)
  refine lv_topi (fun y13 ey13 => ?_)
  have hf := kLt hf ey13
  refine lv_istore_n (lv' := [(3, .int y13), (2, .int y5), (0, .ref a), (1, .int x1)]) hx hb dX2_actAt_13 rfl hl (by decide) rfl (fun ls hl => ?_)
  refine lv_iload_n hx hb dX2_actAt_14 rfl (lv_at hl 1 rfl) ?_
  refine lv_bipush (v := (99 : Int32)) hx hb dX2_actAt_15 (by decide) ?_
  refine lv_icmp_ne (tgt := 22) hx hb dX2_actAt_17 (by decide) (fun c_1 => ?_) (fun c_1 => ?_)
  · have hf := kIf hf c_1
    have t_1 := ti_ne c_1
    refine lv_iload_n hx hb dX2_actAt_22 rfl (lv_at hl 1 rfl) ?_
    refine lv_bipush (v := (46 : Int32)) hx hb dX2_actAt_23 (by decide) ?_
    refine lv_icmp_ne (tgt := 30) hx hb dX2_actAt_25 (by decide) (fun c_2 => ?_) (fun c_2 => ?_)
    · have hf := kIf hf c_2
      have t_2 := ti_ne c_2
      refine lv_iload_n hx hb dX2_actAt_30 rfl (lv_at hl 1 rfl) ?_
      have hM : kC l D ct z yX2_isLetter wsX2_isLetter 0 0 [.int y5] ([]) (some (.int (f_X2_isLetter y5))) ([]) := k_X2_isLetter l D ct z y5
      refine kS0 (As := [.int y5]) (rest := []) ⟨hx, hb, hml, hown, hts⟩ hM gX2_actAt_X2_isLetter kyX2_isLetter (by rw [hRf, hRl]; exact ⟨Nat.le_of_ble_eq_true rfl, Nat.le_of_ble_eq_true rfl⟩) hK hP hD hS hA rfl hl.1 rfl (st1 := [.int (f_X2_isLetter y5)]) rfl rfl ⟨Nat.zero_le _, Nat.zero_le _⟩ dX2_actAt_31 (fun H locs hP hD hS => ?_)
      refine kJn hf (fun j0 => ∀ (u0 : Unit), f_X2_actAt x1 i f = j0 () → ∀ (H : Heap) (locs : List Loc) (ls : Array Slot), va_P D vwCl (paW a b ct i f) H → va_D A (paW a b ct i f) → va_S A s.heap H locs → lv_has ls 4 [(3, .int y13), (2, .int y5)] → W p l e R s m args below meth c H locs 0 0 Q (F0 m 45 ls [])) ?_ ?_
      · intro j0 hj0 u0  hf H locs ls hP hD hS hl
        subst hj0
        refine lv_iload_n hx hb dX2_actAt_45 rfl (lv_at hl 1 rfl) ?_
        have hM : kC l D ct z yX2_isLetter wsX2_isLetter 0 0 [.int y5] ([]) (some (.int (f_X2_isLetter y5))) ([]) := k_X2_isLetter l D ct z y5
        refine kS0 (As := [.int y5]) (rest := []) ⟨hx, hb, hml, hown, hts⟩ hM gX2_actAt_X2_isLetter kyX2_isLetter (by rw [hRf, hRl]; exact ⟨Nat.le_of_ble_eq_true rfl, Nat.le_of_ble_eq_true rfl⟩) hK hP hD hS hA rfl hl.1 rfl (st1 := [.int (f_X2_isLetter y5)]) rfl rfl ⟨Nat.zero_le _, Nat.zero_le _⟩ dX2_actAt_46 (fun H locs hP hD hS => ?_)
        refine kJn hf (fun j0 => ∀ (u0 : Unit), f_X2_actAt x1 i f = j0 () → ∀ (H : Heap) (locs : List Loc) (ls : Array Slot), va_P D vwCl (paW a b ct i f) H → va_D A (paW a b ct i f) → va_S A s.heap H locs → lv_has ls 4 [(3, .int y13), (2, .int y5)] → W p l e R s m args below meth c H locs 0 0 Q (F0 m 60 ls [])) ?_ ?_
        · intro j0 hj0 u0  hf H locs ls hP hD hS hl
          subst hj0
          refine lv_iload_n hx hb dX2_actAt_60 rfl (lv_at hl 1 rfl) ?_
          refine lv_bipush (v := (119 : Int32)) hx hb dX2_actAt_61 (by decide) ?_
          refine kJn hf (fun j0 => ∀ (u0 : Unit), f_X2_actAt x1 i f = j0 () → ∀ (H : Heap) (locs : List Loc) (ls : Array Slot), va_P D vwCl (paW a b ct i f) H → va_D A (paW a b ct i f) → va_S A s.heap H locs → lv_has ls 4 [(3, .int y13), (2, .int y5)] → W p l e R s m args below meth c H locs 0 0 Q (F0 m 75 ls [])) ?_ ?_
          · intro j0 hj0 u0  hf H locs ls hP hD hS hl
            subst hj0
            refine lv_iload_n hx hb dX2_actAt_75 rfl (lv_at hl 1 rfl) ?_
            refine lv_bipush (v := (102 : Int32)) hx hb dX2_actAt_76 (by decide) ?_
            refine lv_icmp_ne (tgt := 92) hx hb dX2_actAt_78 (by decide) (fun c_6 => ?_) (fun c_6 => ?_)
            · have hf := kIf hf c_6
              have t_6 := ti_ne c_6
              refine lv_bipush (v := (-6 : Int32)) hx hb dX2_actAt_92 (by decide) ?_
              exact kRetI hx hb hr hlk hP hD hS hf.symm rfl hQ dX2_actAt_94
            · have hf := kIt hf c_6
              have t_6 := ti_eq c_6
              refine lv_iload_n hx hb dX2_actAt_81 rfl (lv_at hl 0 rfl) ?_
              have hM : kC l D ct z yX2_isDigit wsX2_isDigit 0 0 [.int y13] ([]) (some (.int (f_X2_isDigit y13))) ([]) := k_X2_isDigit l D ct z y13
              refine kS0 (As := [.int y13]) (rest := []) ⟨hx, hb, hml, hown, hts⟩ hM gX2_actAt_X2_isDigit kyX2_isDigit (by rw [hRf, hRl]; exact ⟨Nat.le_of_ble_eq_true rfl, Nat.le_of_ble_eq_true rfl⟩) hK hP hD hS hA rfl hl.1 rfl (st1 := [.int (f_X2_isDigit y13)]) rfl rfl ⟨Nat.zero_le _, Nat.zero_le _⟩ dX2_actAt_82 (fun H locs hP hD hS => ?_)
              refine lv_if_eq (tgt := 92) hx hb dX2_actAt_85 (by decide) (fun c_7 => ?_) (fun c_7 => ?_)
              · have hf := kIt hf c_7
                have t_7 := ti_eq c_7
                refine lv_bipush (v := (-6 : Int32)) hx hb dX2_actAt_92 (by decide) ?_
                exact kRetI hx hb hr hlk hP hD hS hf.symm rfl hQ dX2_actAt_94
              · have hf := kIf hf c_7
                have t_7 := ti_ne c_7
                refine lv_iconst (v := (3 : Int32)) hx hb dX2_actAt_88 (by decide) ?_
                refine lv_goto (tgt := 94) hx hb dX2_actAt_89 (by decide) ?_
                exact kRetI hx hb hr hlk hP hD hS hf.symm rfl hQ dX2_actAt_94
          · intro j75 hJ75 hf
            refine lv_icmp_ne (tgt := 75) hx hb dX2_actAt_63 (by decide) (fun c_5 => ?_) (fun c_5 => ?_)
            · have hf := kIf hf c_5
              have t_5 := ti_ne c_5
              exact hJ75 ()  hf _ _ _ hP hD hS (lv_sub hl [0, 1] rfl)
            · have hf := kIt hf c_5
              have t_5 := ti_eq c_5
              refine lv_iload_n hx hb dX2_actAt_66 rfl (lv_at hl 0 rfl) ?_
              have hM : kC l D ct z yX2_isDigit wsX2_isDigit 0 0 [.int y13] ([]) (some (.int (f_X2_isDigit y13))) ([]) := k_X2_isDigit l D ct z y13
              refine kS0 (As := [.int y13]) (rest := []) ⟨hx, hb, hml, hown, hts⟩ hM gX2_actAt_X2_isDigit kyX2_isDigit (by rw [hRf, hRl]; exact ⟨Nat.le_of_ble_eq_true rfl, Nat.le_of_ble_eq_true rfl⟩) hK hP hD hS hA rfl hl.1 rfl (st1 := [.int (f_X2_isDigit y13)]) rfl rfl ⟨Nat.zero_le _, Nat.zero_le _⟩ dX2_actAt_67 (fun H locs hP hD hS => ?_)
              refine lv_if_eq (tgt := 75) hx hb dX2_actAt_70 (by decide) (fun c_8 => ?_) (fun c_8 => ?_)
              · have hf := kIt hf c_8
                have t_8 := ti_eq c_8
                exact hJ75 ()  hf _ _ _ hP hD hS (lv_sub hl [0, 1] rfl)
              · have hf := kIf hf c_8
                have t_8 := ti_ne c_8
                refine lv_iconst (v := (2 : Int32)) hx hb dX2_actAt_73 (by decide) ?_
                exact kRetI hx hb hr hlk hP hD hS hf.symm rfl hQ dX2_actAt_74
        · intro j60 hJ60 hf
          refine lv_if_eq (tgt := 60) hx hb dX2_actAt_49 (by decide) (fun c_4 => ?_) (fun c_4 => ?_)
          · have hf := kIt hf c_4
            have t_4 := ti_eq c_4
            exact hJ60 ()  hf _ _ _ hP hD hS (lv_sub hl [0, 1] rfl)
          · have hf := kIf hf c_4
            have t_4 := ti_ne c_4
            refine lv_iload_n hx hb dX2_actAt_52 rfl (lv_at hl 0 rfl) ?_
            refine lv_bipush (v := (95 : Int32)) hx hb dX2_actAt_53 (by decide) ?_
            refine lv_icmp_ne (tgt := 60) hx hb dX2_actAt_55 (by decide) (fun c_9 => ?_) (fun c_9 => ?_)
            · have hf := kIf hf c_9
              have t_9 := ti_ne c_9
              exact hJ60 ()  hf _ _ _ hP hD hS (lv_sub hl [0, 1] rfl)
            · have hf := kIt hf c_9
              have t_9 := ti_eq c_9
              refine lv_iconst (v := (1 : Int32)) hx hb dX2_actAt_58 (by decide) ?_
              exact kRetI hx hb hr hlk hP hD hS hf.symm rfl hQ dX2_actAt_59
      · intro j45 hJ45 hf
        refine lv_if_eq (tgt := 45) hx hb dX2_actAt_34 (by decide) (fun c_3 => ?_) (fun c_3 => ?_)
        · have hf := kIt hf c_3
          have t_3 := ti_eq c_3
          exact hJ45 ()  hf _ _ _ hP hD hS (lv_sub hl [0, 1] rfl)
        · have hf := kIf hf c_3
          have t_3 := ti_ne c_3
          refine lv_iload_n hx hb dX2_actAt_37 rfl (lv_at hl 0 rfl) ?_
          refine lv_bipush (v := (94 : Int32)) hx hb dX2_actAt_38 (by decide) ?_
          refine lv_icmp_ne (tgt := 45) hx hb dX2_actAt_40 (by decide) (fun c_10 => ?_) (fun c_10 => ?_)
          · have hf := kIf hf c_10
            have t_10 := ti_ne c_10
            exact hJ45 ()  hf _ _ _ hP hD hS (lv_sub hl [0, 1] rfl)
          · have hf := kIt hf c_10
            have t_10 := ti_eq c_10
            refine lv_iconst (v := (0 : Int32)) hx hb dX2_actAt_43 (by decide) ?_
            exact kRetI hx hb hr hlk hP hD hS hf.symm rfl hQ dX2_actAt_44
    · have hf := kIt hf c_2
      have t_2 := ti_eq c_2
      refine lv_iconst (v := (5 : Int32)) hx hb dX2_actAt_28 (by decide) ?_
      exact kRetI hx hb hr hlk hP hD hS hf.symm rfl hQ dX2_actAt_29
  · have hf := kIt hf c_1
    have t_1 := ti_eq c_1
    refine lv_iconst (v := (4 : Int32)) hx hb dX2_actAt_20 (by decide) ?_
    exact kRetI hx hb hr hlk hP hD hS hf.symm rfl hQ dX2_actAt_21
theorem kyX2_withAt : kY yX2_withAt cX2_withAt 3 (some .int) wsX2_withAt wsX2_withAt.tail 1 := ⟨rfl, by decide, by decide, by decide +kernel⟩
set_option maxHeartbeats 4000000 in
set_option maxRecDepth 100000 in
theorem k_X2_withAt (l : Launch) (D : va_G) (ct : ClassId × ClassId × ClassId) (z : Nat × Nat) (a : Nat) (b : Nat) (x1 : Int32) (i : Nat → Int32) (f : Nat → Int32)  : kC l D ct z yX2_withAt wsX2_withAt 1 21 [.ref a, .int x1] (paW a b ct i f) (some (.int (f_X2_withAt x1 i f))) (paW a b ct i f) := by
  refine kHead (cc := cX2_withAt) (maxL := 3) (ret := (some .int)) [(0, .ref a), (1, .int x1)] (by decide) rfl (Nat.le_of_ble_eq_true rfl) rfl ?_
  intro p e s m args below meth c A ls R Q hRf hRl hQ hx hb hr hlk hml hown hts hA hS hK hP hD hl
  have kc0 : (0 : Int32).toInt = 0 := by decide
  have kc1 : (1 : Int32).toInt = 1 := by decide
  have kc48 : (48 : Int32).toInt = 48 := by decide
  have kc65 : (65 : Int32).toInt = 65 := by decide
  have hf : f_X2_withAt x1 i f = f_X2_withAt x1 i f := rfl
  refine lv_aload_n hx hb dX2_withAt_0 rfl (lv_at hl 0 rfl) ?_
  refine lv_iload_n hx hb dX2_withAt_1 rfl (lv_at hl 1 rfl) ?_
  have hM : kC l D ct z yX2_signAt wsX2_signAt 0 0 [.ref a, .int x1] (paW a b ct i f) (some (.int (f_X2_signAt x1 i f))) (paW a b ct i f) := k_X2_signAt l D ct z a b x1 i f
  refine kV1 (As := [.int x1]) (rest := []) ⟨hx, hb, hml, hown, hts⟩ hM gX2_withAt_X2_signAt kyX2_signAt (by rw [hRf, hRl]; exact ⟨Nat.le_of_ble_eq_true rfl, Nat.le_of_ble_eq_true rfl⟩) hK hP hD hS hA 0 rfl rfl rfl rfl hl.1 rfl (st1 := [.int (f_X2_signAt x1 i f)]) rfl rfl ⟨Nat.zero_le _, Nat.zero_le _⟩ dX2_withAt_2 (fun H locs hP hD hS => ?_)
  refine lv_topi (fun y5 ey5 => ?_)
  have hf := kLt hf ey5
  refine lv_istore_n (lv' := [(2, .int y5), (0, .ref a), (1, .int x1)]) hx hb dX2_withAt_5 rfl hl (by decide) rfl (fun ls hl => ?_)
  refine lv_iload_n hx hb dX2_withAt_6 rfl (lv_at hl 0 rfl) ?_
  have hM : kC l D ct z yX2_isLetter wsX2_isLetter 0 0 [.int y5] ([]) (some (.int (f_X2_isLetter y5))) ([]) := k_X2_isLetter l D ct z y5
  refine kS0 (As := [.int y5]) (rest := []) ⟨hx, hb, hml, hown, hts⟩ hM gX2_withAt_X2_isLetter kyX2_isLetter (by rw [hRf, hRl]; exact ⟨Nat.le_of_ble_eq_true rfl, Nat.le_of_ble_eq_true rfl⟩) hK hP hD hS hA rfl hl.1 rfl (st1 := [.int (f_X2_isLetter y5)]) rfl rfl ⟨Nat.zero_le _, Nat.zero_le _⟩ dX2_withAt_7 (fun H locs hP hD hS => ?_)
  refine lv_if_eq (tgt := 20) hx hb dX2_withAt_10 (by decide) (fun c_1 => ?_) (fun c_1 => ?_)
  · have hf := kIt hf c_1
    have t_1 := ti_eq c_1
    refine lv_aload_n hx hb dX2_withAt_20 rfl (lv_at hl 1 rfl) ?_
    refine lv_iload_n hx hb dX2_withAt_21 rfl (lv_at hl 2 rfl) ?_
    refine lv_iconst (v := (1 : Int32)) hx hb dX2_withAt_22 (by decide) ?_
    refine lv_iadd hx hb dX2_withAt_23 ?_
    have hM : kC l D ct z yX2_signAt wsX2_signAt 0 0 [.ref a, .int (x1 + (1 : Int32))] (paW a b ct i f) (some (.int (f_X2_signAt (x1 + (1 : Int32)) i f))) (paW a b ct i f) := k_X2_signAt l D ct z a b (x1 + (1 : Int32)) i f
    refine kV1 (As := [.int (x1 + (1 : Int32))]) (rest := []) ⟨hx, hb, hml, hown, hts⟩ hM gX2_withAt_X2_signAt kyX2_signAt (by rw [hRf, hRl]; exact ⟨Nat.le_of_ble_eq_true rfl, Nat.le_of_ble_eq_true rfl⟩) hK hP hD hS hA 0 rfl rfl rfl rfl hl.1 rfl (st1 := [.int (f_X2_signAt (x1 + (1 : Int32)) i f)]) rfl rfl ⟨Nat.zero_le _, Nat.zero_le _⟩ dX2_withAt_24 (fun H locs hP hD hS => ?_)
    refine lv_bipush (v := (48 : Int32)) hx hb dX2_withAt_27 (by decide) ?_
    refine lv_isub hx hb dX2_withAt_29 ?_
    exact kRetI hx hb hr hlk hP hD hS hf.symm rfl hQ dX2_withAt_30
  · have hf := kIf hf c_1
    have t_1 := ti_ne c_1
    refine lv_iload_n hx hb dX2_withAt_13 rfl (lv_at hl 0 rfl) ?_
    refine lv_bipush (v := (65 : Int32)) hx hb dX2_withAt_14 (by decide) ?_
    refine lv_isub hx hb dX2_withAt_16 ?_
    refine lv_goto (tgt := 30) hx hb dX2_withAt_17 (by decide) ?_
    exact kRetI hx hb hr hlk hP hD hS hf.symm rfl hQ dX2_withAt_30
theorem kyX2_signsOf : kY yX2_signsOf cX2_signsOf 1 (some .int) wsX2_signsOf wsX2_signsOf.tail 1 := ⟨rfl, by decide, by decide, by decide +kernel⟩
set_option maxHeartbeats 4000000 in
set_option maxRecDepth 100000 in
theorem k_X2_signsOf (l : Launch) (D : va_G) (ct : ClassId × ClassId × ClassId) (z : Nat × Nat)  (x0 : Int32)  : kC l D ct z yX2_signsOf wsX2_signsOf 0 0 [.int x0] ([]) (some (.int (f_X2_signsOf x0))) ([]) := by
  refine kHead (cc := cX2_signsOf) (maxL := 1) (ret := (some .int)) [(0, .int x0)] (by decide) rfl (Nat.le_of_ble_eq_true rfl) rfl ?_
  intro p e s m args below meth c A ls R Q hRf hRl hQ hx hb hr hlk hml hown hts hA hS hK hP hD hl
  have kc0 : (0 : Int32).toInt = 0 := by decide
  have kc1 : (1 : Int32).toInt = 1 := by decide
  have kc2 : (2 : Int32).toInt = 2 := by decide
  have kc4 : (4 : Int32).toInt = 4 := by decide
  have kc5 : (5 : Int32).toInt = 5 := by decide
  have hf : f_X2_signsOf x0 = f_X2_signsOf x0 := rfl
  refine lv_iload_n hx hb dX2_signsOf_0 rfl (lv_at hl 0 rfl) ?_
  refine lv_iconst (v := (4 : Int32)) hx hb dX2_signsOf_1 (by decide) ?_
  refine kJn hf (fun j0 => ∀ (u0 : Unit), f_X2_signsOf x0 = j0 () → ∀ (H : Heap) (locs : List Loc) (ls : Array Slot), va_P D vwCl ([]) H → va_D A ([]) → va_S A s.heap H locs → lv_has ls 1 [] → W p l e R s m args below meth c H locs 0 0 Q (F0 m 10 ls [])) ?_ ?_
  · intro j0 hj0 u0  hf H locs ls hP hD hS hl
    subst hj0
    refine lv_iconst (v := (1 : Int32)) hx hb dX2_signsOf_10 (by decide) ?_
    refine lv_goto (tgt := 15) hx hb dX2_signsOf_11 (by decide) ?_
    exact kRetI hx hb hr hlk hP hD hS hf.symm rfl hQ dX2_signsOf_15
  · intro j10 hJ10 hf
    refine lv_icmp_eq (tgt := 10) hx hb dX2_signsOf_2 (by decide) (fun c_1 => ?_) (fun c_1 => ?_)
    · have hf := kIt hf c_1
      have t_1 := ti_eq c_1
      exact hJ10 ()  hf _ _ _ hP hD hS (lv_sub hl [] rfl)
    · have hf := kIf hf c_1
      have t_1 := ti_ne c_1
      refine lv_iload_n hx hb dX2_signsOf_5 rfl (lv_at hl 0 rfl) ?_
      refine lv_iconst (v := (5 : Int32)) hx hb dX2_signsOf_6 (by decide) ?_
      refine lv_icmp_ne (tgt := 14) hx hb dX2_signsOf_7 (by decide) (fun c_2 => ?_) (fun c_2 => ?_)
      · have hf := kIf hf c_2
        have t_2 := ti_ne c_2
        refine lv_iconst (v := (2 : Int32)) hx hb dX2_signsOf_14 (by decide) ?_
        exact kRetI hx hb hr hlk hP hD hS hf.symm rfl hQ dX2_signsOf_15
      · have hf := kIt hf c_2
        have t_2 := ti_eq c_2
        exact hJ10 ()  hf _ _ _ hP hD hS (lv_sub hl [] rfl)
theorem kyX2_needsASecond : kY yX2_needsASecond cX2_needsASecond 1 (some .boolean) wsX2_needsASecond wsX2_needsASecond.tail 1 := ⟨rfl, by decide, by decide, by decide +kernel⟩
set_option maxHeartbeats 4000000 in
set_option maxRecDepth 100000 in
theorem k_X2_needsASecond (l : Launch) (D : va_G) (ct : ClassId × ClassId × ClassId) (z : Nat × Nat)  (x0 : Int32)  : kC l D ct z yX2_needsASecond wsX2_needsASecond 1 20 [.int x0] ([]) (some (.int (f_X2_needsASecond x0))) ([]) := by
  refine kHead (cc := cX2_needsASecond) (maxL := 1) (ret := (some .boolean)) [(0, .int x0)] (by decide) rfl (Nat.le_of_ble_eq_true rfl) rfl ?_
  intro p e s m args below meth c A ls R Q hRf hRl hQ hx hb hr hlk hml hown hts hA hS hK hP hD hl
  have kc0 : (0 : Int32).toInt = 0 := by decide
  have kc1 : (1 : Int32).toInt = 1 := by decide
  have kc102 : (102 : Int32).toInt = 102 := by decide
  have kc119 : (119 : Int32).toInt = 119 := by decide
  have hf : f_X2_needsASecond x0 = f_X2_needsASecond x0 := rfl
  refine lv_iload_n hx hb dX2_needsASecond_0 rfl (lv_at hl 0 rfl) ?_
  have hM : kC l D ct z yX2_isLetter wsX2_isLetter 0 0 [.int x0] ([]) (some (.int (f_X2_isLetter x0))) ([]) := k_X2_isLetter l D ct z x0
  refine kS0 (As := [.int x0]) (rest := []) ⟨hx, hb, hml, hown, hts⟩ hM gX2_needsASecond_X2_isLetter kyX2_isLetter (by rw [hRf, hRl]; exact ⟨Nat.le_of_ble_eq_true rfl, Nat.le_of_ble_eq_true rfl⟩) hK hP hD hS hA rfl hl.1 rfl (st1 := [.int (f_X2_isLetter x0)]) rfl rfl ⟨Nat.zero_le _, Nat.zero_le _⟩ dX2_needsASecond_1 (fun H locs hP hD hS => ?_)
  refine kJn hf (fun j0 => ∀ (u0 : Unit), f_X2_needsASecond x0 = j0 () → ∀ (H : Heap) (locs : List Loc) (ls : Array Slot), va_P D vwCl ([]) H → va_D A ([]) → va_S A s.heap H locs → lv_has ls 1 [] → W p l e R s m args below meth c H locs 0 0 Q (F0 m 19 ls [])) ?_ ?_
  · intro j0 hj0 u0  hf H locs ls hP hD hS hl
    subst hj0
    refine lv_iconst (v := (1 : Int32)) hx hb dX2_needsASecond_19 (by decide) ?_
    refine lv_goto (tgt := 24) hx hb dX2_needsASecond_20 (by decide) ?_
    exact kRetZ hx hb hr hlk hP hD hS (Or.inr rfl) hf.symm rfl hQ dX2_needsASecond_24
  · intro j19 hJ19 hf
    refine lv_if_ne (tgt := 19) hx hb dX2_needsASecond_4 (by decide) (fun c_1 => ?_) (fun c_1 => ?_)
    · have hf := kIf hf c_1
      have t_1 := ti_ne c_1
      exact hJ19 ()  hf _ _ _ hP hD hS (lv_sub hl [] rfl)
    · have hf := kIt hf c_1
      have t_1 := ti_eq c_1
      refine lv_iload_n hx hb dX2_needsASecond_7 rfl (lv_at hl 0 rfl) ?_
      refine lv_bipush (v := (119 : Int32)) hx hb dX2_needsASecond_8 (by decide) ?_
      refine lv_icmp_eq (tgt := 19) hx hb dX2_needsASecond_10 (by decide) (fun c_2 => ?_) (fun c_2 => ?_)
      · have hf := kIt hf c_2
        have t_2 := ti_eq c_2
        exact hJ19 ()  hf _ _ _ hP hD hS (lv_sub hl [] rfl)
      · have hf := kIf hf c_2
        have t_2 := ti_ne c_2
        refine lv_iload_n hx hb dX2_needsASecond_13 rfl (lv_at hl 0 rfl) ?_
        refine lv_bipush (v := (102 : Int32)) hx hb dX2_needsASecond_14 (by decide) ?_
        refine lv_icmp_ne (tgt := 23) hx hb dX2_needsASecond_16 (by decide) (fun c_3 => ?_) (fun c_3 => ?_)
        · have hf := kIf hf c_3
          have t_3 := ti_ne c_3
          refine lv_iconst (v := (0 : Int32)) hx hb dX2_needsASecond_23 (by decide) ?_
          exact kRetZ hx hb hr hlk hP hD hS (Or.inl rfl) hf.symm rfl hQ dX2_needsASecond_24
        · have hf := kIt hf c_3
          have t_3 := ti_eq c_3
          exact hJ19 ()  hf _ _ _ hP hD hS (lv_sub hl [] rfl)
theorem kyX2_firstFault : kY yX2_firstFault cX2_firstFault 4 (some .int) wsX2_firstFault wsX2_firstFault.tail 0 := ⟨rfl, by decide, by decide, by decide +kernel⟩
set_option maxHeartbeats 4000000 in
set_option maxRecDepth 100000 in
theorem k_X2_firstFault (l : Launch) (D : va_G) (ct : ClassId × ClassId × ClassId) (z : Nat × Nat) (a : Nat) (b : Nat) (i : Nat → Int32) (f : Nat → Int32) (hlen : (i 1).toInt ≤ 60) : kC l D ct z yX2_firstFault wsX2_firstFault 2 44 [.ref a] (paW a b ct i f) (some (.int (f_X2_firstFault i f))) (paW a b ct i f) := by
  refine kHead (cc := cX2_firstFault) (maxL := 4) (ret := (some .int)) [(0, .ref a)] (by decide) rfl (Nat.le_of_ble_eq_true rfl) rfl ?_
  intro p e s m args below meth c A ls R Q hRf hRl hQ hx hb hr hlk hml hown hts hA hS hK hP hD hl
  have inX2 : ∀ w ∈ wsX20, w ∈ wsX2_firstFault := fun w h => (List.mem_cons_of_mem _ (List.mem_append_right _ h))
  have hw1 := hts (Cond.fieldLink RX2 15 "MastPulpits$Pad" "length" "I") (List.mem_of_getElem? (i := 1) (by decide +kernel))
  have kcm6 : (-6 : Int32).toInt = -6 := by decide
  have kc0 : (0 : Int32).toInt = 0 := by decide
  have kc1 : (1 : Int32).toInt = 1 := by decide
  have hf : f_X2_firstFault i f = f_X2_firstFault i f := rfl
  refine lv_iconst (v := (0 : Int32)) hx hb dX2_firstFault_0 (by decide) ?_
  refine lv_istore_n (lv' := [(1, .int (0 : Int32)), (0, .ref a)]) hx hb dX2_firstFault_1 rfl hl (by decide) rfl (fun ls hl => ?_)
  refine lv_iconst (v := (0 : Int32)) hx hb dX2_firstFault_2 (by decide) ?_
  refine lv_istore_n (lv' := [(2, .int (0 : Int32)), (1, .int (0 : Int32)), (0, .ref a)]) hx hb dX2_firstFault_3 rfl hl (by decide) rfl (fun ls hl => ?_)
  have lp4 : ∀ (K : Unit → Int32), (∀ (H : Heap) (locs : List Loc) (ls : Array Slot), va_P D vwCl (paW a b ct i f) H → va_D A (paW a b ct i f) → va_S A s.heap H locs → lv_has ls 4 [] → f_X2_firstFault i f = K () → W p l e R s m args below meth c H locs 0 0 Q (F0 m 64 ls [])) → ∀ (n : Nat) (z4_2 : Int32) (z4_1 : Int32), ∀ (H : Heap) (locs : List Loc) (ls : Array Slot), ((i 1).toInt ≤ Int32.toInt z4_2 + (n : Int)) → va_P D vwCl (paW a b ct i f) H → va_D A (paW a b ct i f) → va_S A s.heap H locs → lv_has ls 4 [(2, .int z4_2), (1, .int z4_1), (0, .ref a)] → f_X2_firstFault i f = f_X2_firstFault_L4 i f K n z4_2 z4_1 → W p l e R s m args below meth c H locs 0 0 Q (F0 m 4 ls []) := by
    intro K hk n
    induction n with
    | zero =>
      intro z4_2 z4_1  H locs ls hn4 hP hD hS hl hf
      refine lv_iload_n hx hb dX2_firstFault_4 rfl (lv_at hl 0 rfl) ?_
      refine lv_aload_n hx hb dX2_firstFault_5 rfl (lv_at hl 2 rfl) ?_
      refine va_get (D := D) (cl := vwCl) (ci := 1) (v := .int (i 1)) (C := RX2) (T := TX2) (N := 2) hx hb hts inX2 hown hK.1 hP 0 rfl rfl 1 (by decide) hw1 (fun _ h => h) rfl dX2_firstFault_6 ?_
      refine lv_icmp_ge (tgt := 64) hx hb dX2_firstFault_9 (by decide) (fun c_5 => ?_) (fun c_5 => ?_)
      · have t_5 := ti_le c_5
        exact hk  _ _ _  hP hD hS (lv_sub hl [] rfl) hf
      · have t_5 := ti_nle c_5
        exfalso
        omega
    | succ n ih =>
      intro z4_2 z4_1  H locs ls hn4 hP hD hS hl hf
      refine lv_iload_n hx hb dX2_firstFault_4 rfl (lv_at hl 0 rfl) ?_
      refine lv_aload_n hx hb dX2_firstFault_5 rfl (lv_at hl 2 rfl) ?_
      refine va_get (D := D) (cl := vwCl) (ci := 1) (v := .int (i 1)) (C := RX2) (T := TX2) (N := 2) hx hb hts inX2 hown hK.1 hP 0 rfl rfl 1 (by decide) hw1 (fun _ h => h) rfl dX2_firstFault_6 ?_
      refine lv_icmp_ge (tgt := 64) hx hb dX2_firstFault_9 (by decide) (fun c_1 => ?_) (fun c_1 => ?_)
      · have hf := kIt hf c_1
        have t_1 := ti_le c_1
        exact hk  _ _ _  hP hD hS (lv_sub hl [] rfl) hf
      · have hf := kIf hf c_1
        have t_1 := ti_nle c_1
        refine lv_iload_n hx hb dX2_firstFault_12 rfl (lv_at hl 1 rfl) ?_
        refine lv_aload_n hx hb dX2_firstFault_13 rfl (lv_at hl 2 rfl) ?_
        refine va_get (D := D) (cl := vwCl) (ci := 1) (v := .int (i 1)) (C := RX2) (T := TX2) (N := 2) hx hb hts inX2 hown hK.1 hP 0 rfl rfl 1 (by decide) hw1 (fun _ h => h) rfl dX2_firstFault_14 ?_
        refine lv_icmp_ge (tgt := 64) hx hb dX2_firstFault_17 (by decide) (fun c_2 => ?_) (fun c_2 => ?_)
        · have hf := kIt hf c_2
          have t_2 := ti_le c_2
          exact hk  _ _ _  hP hD hS (lv_sub hl [] rfl) hf
        · have hf := kIf hf c_2
          have t_2 := ti_nle c_2
          refine lv_aload_n hx hb dX2_firstFault_20 rfl (lv_at hl 2 rfl) ?_
          refine lv_iload_n hx hb dX2_firstFault_21 rfl (lv_at hl 1 rfl) ?_
          have hM : kC l D ct z yX2_actAt wsX2_actAt 1 21 [.ref a, .int z4_1] (paW a b ct i f) (some (.int (f_X2_actAt z4_1 i f))) (paW a b ct i f) := k_X2_actAt l D ct z a b z4_1 i f
          refine kV1 (As := [.int z4_1]) (rest := []) ⟨hx, hb, hml, hown, hts⟩ hM gX2_firstFault_X2_actAt kyX2_actAt (by rw [hRf, hRl]; exact ⟨Nat.le_of_ble_eq_true rfl, Nat.le_of_ble_eq_true rfl⟩) hK hP hD hS hA 0 rfl rfl rfl rfl hl.1 rfl (st1 := [.int (f_X2_actAt z4_1 i f)]) rfl rfl ⟨Nat.zero_le _, Nat.zero_le _⟩ dX2_firstFault_22 (fun H locs hP hD hS => ?_)
          refine lv_topi (fun y25 ey25 => ?_)
          have hf := kLt hf ey25
          refine lv_istore_n (lv' := [(3, .int y25), (2, .int z4_2), (1, .int z4_1), (0, .ref a)]) hx hb dX2_firstFault_25 rfl hl (by decide) rfl (fun ls hl => ?_)
          refine lv_iload_n hx hb dX2_firstFault_26 rfl (lv_at hl 0 rfl) ?_
          refine lv_bipush (v := (-6 : Int32)) hx hb dX2_firstFault_27 (by decide) ?_
          refine lv_icmp_ne (tgt := 51) hx hb dX2_firstFault_29 (by decide) (fun c_3 => ?_) (fun c_3 => ?_)
          · have hf := kIf hf c_3
            have t_3 := ti_ne c_3
            refine lv_iload_n hx hb dX2_firstFault_51 rfl (lv_at hl 2 rfl) ?_
            refine lv_iload_n hx hb dX2_firstFault_52 rfl (lv_at hl 0 rfl) ?_
            have hM : kC l D ct z yX2_signsOf wsX2_signsOf 0 0 [.int y25] ([]) (some (.int (f_X2_signsOf y25))) ([]) := k_X2_signsOf l D ct z y25
            refine kS0 (As := [.int y25]) (rest := [.int z4_1]) ⟨hx, hb, hml, hown, hts⟩ hM gX2_firstFault_X2_signsOf kyX2_signsOf (by rw [hRf, hRl]; exact ⟨Nat.le_of_ble_eq_true rfl, Nat.le_of_ble_eq_true rfl⟩) hK hP hD hS hA rfl hl.1 rfl (st1 := [.int (f_X2_signsOf y25), .int z4_1]) rfl rfl ⟨Nat.zero_le _, Nat.zero_le _⟩ dX2_firstFault_53 (fun H locs hP hD hS => ?_)
            refine lv_iadd hx hb dX2_firstFault_56 ?_
            refine lv_topi (fun y57 ey57 => ?_)
            have hf := kLt hf ey57
            refine lv_istore_n (lv' := [(1, .int y57), (3, .int y25), (2, .int z4_2), (0, .ref a)]) hx hb dX2_firstFault_57 rfl hl (by decide) rfl (fun ls hl => ?_)
            obtain ⟨y58, ey58⟩ : ∃ y : Int32, y = z4_2 + (1 : Int32) := ⟨_, rfl⟩
            have hf := kLt hf ey58
            have a58 : Int32.toInt y58 = Int32.toInt z4_2 + 1 := by have := ti_rng z4_2; rw [ey58]; exact ti_add (by rw [kc1]) (by omega) (by omega)
            refine lv_iinc (v := y58) (lv' := [(2, .int y58), (1, .int y57), (3, .int y25), (0, .ref a)]) hx hb dX2_firstFault_58 hl (k := 2) rfl (by rw [ey58]; rfl) (by decide) rfl (fun ls hl => ?_)
            refine lv_goto (tgt := 4) hx hb dX2_firstFault_61 (by decide) ?_
            exact ih y58 y57 _ _ _ (by first | assumption | exact vin (by omega) (by omega) | omega) hP hD hS (lv_sub hl [0, 1, 3] rfl) hf
          · have hf := kIt hf c_3
            have t_3 := ti_eq c_3
            refine lv_aload_n hx hb dX2_firstFault_32 rfl (lv_at hl 3 rfl) ?_
            refine lv_iload_n hx hb dX2_firstFault_33 rfl (lv_at hl 2 rfl) ?_
            have hM : kC l D ct z yX2_signAt wsX2_signAt 0 0 [.ref a, .int z4_1] (paW a b ct i f) (some (.int (f_X2_signAt z4_1 i f))) (paW a b ct i f) := k_X2_signAt l D ct z a b z4_1 i f
            refine kV1 (As := [.int z4_1]) (rest := []) ⟨hx, hb, hml, hown, hts⟩ hM gX2_firstFault_X2_signAt kyX2_signAt (by rw [hRf, hRl]; exact ⟨Nat.le_of_ble_eq_true rfl, Nat.le_of_ble_eq_true rfl⟩) hK hP hD hS hA 0 rfl rfl rfl rfl hl.1 rfl (st1 := [.int (f_X2_signAt z4_1 i f)]) rfl rfl ⟨Nat.zero_le _, Nat.zero_le _⟩ dX2_firstFault_34 (fun H locs hP hD hS => ?_)
            have hM : kC l D ct z yX2_needsASecond wsX2_needsASecond 1 20 [.int (f_X2_signAt z4_1 i f)] ([]) (some (.int (f_X2_needsASecond (f_X2_signAt z4_1 i f)))) ([]) := k_X2_needsASecond l D ct z (f_X2_signAt z4_1 i f)
            refine kS0 (As := [.int (f_X2_signAt z4_1 i f)]) (rest := []) ⟨hx, hb, hml, hown, hts⟩ hM gX2_firstFault_X2_needsASecond kyX2_needsASecond (by rw [hRf, hRl]; exact ⟨Nat.le_of_ble_eq_true rfl, Nat.le_of_ble_eq_true rfl⟩) hK hP hD hS hA rfl hl.1 rfl (st1 := [.int (f_X2_needsASecond (f_X2_signAt z4_1 i f))]) rfl rfl ⟨Nat.zero_le _, Nat.zero_le _⟩ dX2_firstFault_37 (fun H locs hP hD hS => ?_)
            refine lv_if_eq (tgt := 49) hx hb dX2_firstFault_40 (by decide) (fun c_4 => ?_) (fun c_4 => ?_)
            · have hf := kIt hf c_4
              have t_4 := ti_eq c_4
              refine lv_iload_n hx hb dX2_firstFault_49 rfl (lv_at hl 2 rfl) ?_
              exact kRetI hx hb hr hlk hP hD hS hf.symm rfl hQ dX2_firstFault_50
            · have hf := kIf hf c_4
              have t_4 := ti_ne c_4
              refine lv_iload_n hx hb dX2_firstFault_43 rfl (lv_at hl 2 rfl) ?_
              refine lv_iconst (v := (1 : Int32)) hx hb dX2_firstFault_44 (by decide) ?_
              refine lv_iadd hx hb dX2_firstFault_45 ?_
              refine lv_goto (tgt := 50) hx hb dX2_firstFault_46 (by decide) ?_
              exact kRetI hx hb hr hlk hP hD hS hf.symm rfl hQ dX2_firstFault_50
  refine lp4 _ (fun   H locs ls  hP hD hS hl hf => ?_) (60) (0 : Int32) (0 : Int32)  _ _ _ (by first | assumption | exact vin (by omega) (by omega) | omega) hP hD hS (lv_sub hl [0, 1, 2] rfl) hf
  refine lv_bipush (v := (-6 : Int32)) hx hb dX2_firstFault_64 (by decide) ?_
  exact kRetI hx hb hr hlk hP hD hS hf.symm rfl hQ dX2_firstFault_66
theorem kyX3_takePieces : kY yX3_takePieces cX3_takePieces 5 (some .boolean) wsX3_takePieces wsX3_takePieces.tail 2 := ⟨rfl, by decide, by decide, by decide +kernel⟩
set_option maxHeartbeats 4000000 in
set_option maxRecDepth 100000 in
theorem k_X3_takePieces (l : Launch) (D : va_G) (ct : ClassId × ClassId × ClassId) (z : Nat × Nat) (a : Nat) (b : Nat) (d : Nat) (x1 : Int32) (x2 : Int32) (i : Nat → Int32) (f : Nat → Int32) (g : Nat → Int32)  : kC l D ct z yX3_takePieces wsX3_takePieces 0 0 [.ref a, .int x1, .int x2] (roW a b d ct i f g) (some (.int ((f_X3_takePieces x1 x2 i f g).1))) (roW a b d ct ((f_X3_takePieces x1 x2 i f g).2.1) ((f_X3_takePieces x1 x2 i f g).2.2) g) := by
  refine kHead (cc := cX3_takePieces) (maxL := 5) (ret := (some .boolean)) [(0, .ref a), (1, .int x1), (2, .int x2)] (by decide) rfl (Nat.le_of_ble_eq_true rfl) rfl ?_
  intro p e s m args below meth c A ls R Q hRf hRl hQ hx hb hr hlk hml hown hts hA hS hK hP hD hl
  have inX3 : ∀ w ∈ wsX30, w ∈ wsX3_takePieces := fun w h => (List.mem_cons_of_mem _ (List.mem_append_right _ h))
  have hw1 := hts (Cond.fieldLink RX3 18 "MastPulpits$RopeCutter" "many" "I") (List.mem_of_getElem? (i := 1) (by decide +kernel))
  have hw2 := hts (Cond.fieldLink RX3 11 "MastPulpits$RopeCutter" "pieces" "[I") (List.mem_of_getElem? (i := 2) (by decide +kernel))
  have kc0 : (0 : Int32).toInt = 0 := by decide
  have kc1 : (1 : Int32).toInt = 1 := by decide
  have kc9 : (9 : Int32).toInt = 9 := by decide
  have kc10 : (10 : Int32).toInt = 10 := by decide
  have hf : f_X3_takePieces x1 x2 i f g = f_X3_takePieces x1 x2 i f g := rfl
  refine lv_iload_n hx hb dX3_takePieces_0 rfl (lv_at hl 1 rfl) ?_
  refine lv_istore_n (lv' := [(3, .int x1), (0, .ref a), (1, .int x1), (2, .int x2)]) hx hb dX3_takePieces_1 rfl hl (by decide) rfl (fun ls hl => ?_)
  refine lv_aload_n hx hb dX3_takePieces_2 rfl (lv_at hl 1 rfl) ?_
  refine lv_iconst (v := (0 : Int32)) hx hb dX3_takePieces_3 (by decide) ?_
  refine kPut (ci := 2) (C := RX3) (T := TX3) (N := 3) (ty := .int) (v := .int (0 : Int32)) (W1 := roW a b d ct (u1 i 2 (0 : Int32)) f g) hx hb hts inX3 tyX3 tyX3_ok nmX3 hown hK hP hD hS 0 rfl rfl 2 (by decide) hw1 (fun _ h => h) rfl (by decide +kernel) rfl rfl (Nat.le_of_ble_eq_true rfl) rfl dX3_takePieces_4 (fun H locs hP hD hS => ?_)
  refine lv_iconst (v := (0 : Int32)) hx hb dX3_takePieces_7 (by decide) ?_
  refine lv_istore (lv' := [(4, .int (0 : Int32)), (3, .int x1), (0, .ref a), (1, .int x1), (2, .int x2)]) hx hb dX3_takePieces_8 hl (by decide) rfl (fun ls hl => ?_)
  have lp10 : ∀ (K : Int32 → (Nat → Int32) → (Nat → Int32) → (Int32 × (Nat → Int32) × (Nat → Int32))), (∀ (z10_3 : Int32) (z10_i : Nat → Int32) (z10_f : Nat → Int32), ∀ (H : Heap) (locs : List Loc) (ls : Array Slot), va_P D vwCl (roW a b d ct z10_i z10_f g) H → va_D A (roW a b d ct z10_i z10_f g) → va_S A s.heap H locs → lv_has ls 5 [(3, .int z10_3)] → f_X3_takePieces x1 x2 i f g = K z10_3 z10_i z10_f → W p l e R s m args below meth c H locs 0 0 Q (F0 m 71 ls [])) → ∀ (n : Nat) (z10_4 : Int32) (z10_3 : Int32) (z10_i : Nat → Int32) (z10_f : Nat → Int32), ∀ (H : Heap) (locs : List Loc) (ls : Array Slot), (9 ≤ Int32.toInt z10_4 + (n : Int)) → (0 ≤ Int32.toInt z10_4) → va_P D vwCl (roW a b d ct z10_i z10_f g) H → va_D A (roW a b d ct z10_i z10_f g) → va_S A s.heap H locs → lv_has ls 5 [(4, .int z10_4), (3, .int z10_3), (0, .ref a), (2, .int x2)] → f_X3_takePieces x1 x2 i f g = f_X3_takePieces_L10 x2 K n z10_4 z10_3 z10_i z10_f → W p l e R s m args below meth c H locs 0 0 Q (F0 m 10 ls []) := by
    intro K hk n
    induction n with
    | zero =>
      intro z10_4 z10_3 z10_i z10_f  H locs ls hn10 hz10 hP hD hS hl hf
      refine lv_iload hx hb dX3_takePieces_10 (lv_at hl 0 rfl) ?_
      refine lv_iload_n hx hb dX3_takePieces_12 rfl (lv_at hl 3 rfl) ?_
      refine lv_icmp_ge (tgt := 71) hx hb dX3_takePieces_13 (by decide) (fun c_5 => ?_) (fun c_5 => ?_)
      · have t_5 := ti_le c_5
        exact hk _ _ _ _ _ _  hP hD hS (lv_sub hl [1] rfl) hf
      · have t_5 := ti_nle c_5
        refine lv_iload hx hb dX3_takePieces_16 (lv_at hl 0 rfl) ?_
        refine lv_aload_n hx hb dX3_takePieces_18 rfl (lv_at hl 2 rfl) ?_
        refine va_get (D := D) (cl := vwCl) (ci := 2) (v := .ref b) (C := RX3) (T := TX3) (N := 3) hx hb hts inX3 hown hK.1 hP 0 rfl rfl 0 (by decide) hw2 (fun _ h => h) rfl dX3_takePieces_19 ?_
        refine va_alen (v := (9 : Int32)) hx hb hK.1 hP 1 0 rfl rfl rfl dX3_takePieces_22 ?_
        refine lv_icmp_ge (tgt := 71) hx hb dX3_takePieces_23 (by decide) (fun c_6 => ?_) (fun c_6 => ?_)
        · have t_6 := ti_le c_6
          exact hk _ _ _ _ _ _  hP hD hS (lv_sub hl [1] rfl) hf
        · have t_6 := ti_nle c_6
          exfalso
          omega
    | succ n ih =>
      intro z10_4 z10_3 z10_i z10_f  H locs ls hn10 hz10 hP hD hS hl hf
      refine lv_iload hx hb dX3_takePieces_10 (lv_at hl 0 rfl) ?_
      refine lv_iload_n hx hb dX3_takePieces_12 rfl (lv_at hl 3 rfl) ?_
      refine lv_icmp_ge (tgt := 71) hx hb dX3_takePieces_13 (by decide) (fun c_1 => ?_) (fun c_1 => ?_)
      · have hf := kIt hf c_1
        have t_1 := ti_le c_1
        exact hk _ _ _ _ _ _  hP hD hS (lv_sub hl [1] rfl) hf
      · have hf := kIf hf c_1
        have t_1 := ti_nle c_1
        refine lv_iload hx hb dX3_takePieces_16 (lv_at hl 0 rfl) ?_
        refine lv_aload_n hx hb dX3_takePieces_18 rfl (lv_at hl 2 rfl) ?_
        refine va_get (D := D) (cl := vwCl) (ci := 2) (v := .ref b) (C := RX3) (T := TX3) (N := 3) hx hb hts inX3 hown hK.1 hP 0 rfl rfl 0 (by decide) hw2 (fun _ h => h) rfl dX3_takePieces_19 ?_
        refine va_alen (v := (9 : Int32)) hx hb hK.1 hP 1 0 rfl rfl rfl dX3_takePieces_22 ?_
        refine lv_icmp_ge (tgt := 71) hx hb dX3_takePieces_23 (by decide) (fun c_2 => ?_) (fun c_2 => ?_)
        · have hf := kIt hf c_2
          have t_2 := ti_le c_2
          exact hk _ _ _ _ _ _  hP hD hS (lv_sub hl [1] rfl) hf
        · have hf := kIf hf c_2
          have t_2 := ti_nle c_2
          refine lv_iload_n hx hb dX3_takePieces_26 rfl (lv_at hl 1 rfl) ?_
          refine lv_if_le (tgt := 37) hx hb dX3_takePieces_27 (by decide) (fun c_3 => ?_) (fun c_3 => ?_)
          · have hf := kIt hf c_3
            have t_3 := ti_le c_3
            refine lv_iconst (v := (0 : Int32)) hx hb dX3_takePieces_37 (by decide) ?_
            exact kRetZ hx hb hr hlk hP hD hS (Or.inl rfl) (kfst hf) ((congrArg (fun q => roW a b d ct q.2.1 q.2.2 g) hf).symm) hQ dX3_takePieces_38
          · have hf := kIf hf c_3
            have t_3 := ti_nle c_3
            refine lv_iload_n hx hb dX3_takePieces_30 rfl (lv_at hl 1 rfl) ?_
            refine lv_bipush (v := (10 : Int32)) hx hb dX3_takePieces_31 (by decide) ?_
            refine lv_irem hx hb dX3_takePieces_33 (by decide) ?_
            refine lv_if_ne (tgt := 39) hx hb dX3_takePieces_34 (by decide) (fun c_4 => ?_) (fun c_4 => ?_)
            · have hf := kIf hf c_4
              have t_4 := ti_ne c_4
              refine lv_aload_n hx hb dX3_takePieces_39 rfl (lv_at hl 2 rfl) ?_
              refine va_get (D := D) (cl := vwCl) (ci := 2) (v := .ref b) (C := RX3) (T := TX3) (N := 3) hx hb hts inX3 hown hK.1 hP 0 rfl rfl 0 (by decide) hw2 (fun _ h => h) rfl dX3_takePieces_40 ?_
              refine lv_iload hx hb dX3_takePieces_43 (lv_at hl 0 rfl) ?_
              refine lv_iload_n hx hb dX3_takePieces_45 rfl (lv_at hl 1 rfl) ?_
              refine lv_bipush (v := (10 : Int32)) hx hb dX3_takePieces_46 (by decide) ?_
              refine lv_irem hx hb dX3_takePieces_48 (by decide) ?_
              refine lv_topi (fun y49 ey49 => ?_)
              have hf := kLt hf ey49
              refine kIast (W1 := roW a b d ct z10_i (u1 z10_f ((Int32.toNatClampNeg z10_4)) y49) g) hx hb hK hP hD hS 1 rfl (by first | assumption | exact vin (by omega) (by omega) | omega) rfl dX3_takePieces_49 (fun H locs hP hD hS => ?_)
              refine lv_iload_n hx hb dX3_takePieces_50 rfl (lv_at hl 1 rfl) ?_
              refine lv_bipush (v := (10 : Int32)) hx hb dX3_takePieces_51 (by decide) ?_
              refine lv_idiv hx hb dX3_takePieces_53 (by decide) ?_
              refine lv_topi (fun y54 ey54 => ?_)
              have hf := kLt hf ey54
              refine lv_istore_n (lv' := [(3, .int y54), (4, .int z10_4), (0, .ref a), (2, .int x2)]) hx hb dX3_takePieces_54 rfl hl (by decide) rfl (fun ls hl => ?_)
              refine lv_aload_n hx hb dX3_takePieces_55 rfl (lv_at hl 2 rfl) ?_
              refine lv_dup hx hb dX3_takePieces_56 rfl ?_
              refine va_get (D := D) (cl := vwCl) (ci := 2) (v := .int (z10_i 2)) (C := RX3) (T := TX3) (N := 3) hx hb hts inX3 hown hK.1 hP 0 rfl rfl 2 (by decide) hw1 (fun _ h => h) rfl dX3_takePieces_57 ?_
              refine lv_iconst (v := (1 : Int32)) hx hb dX3_takePieces_60 (by decide) ?_
              refine lv_iadd hx hb dX3_takePieces_61 ?_
              refine lv_topi (fun y62 ey62 => ?_)
              have hf := kLt hf ey62
              refine kPut (ci := 2) (C := RX3) (T := TX3) (N := 3) (ty := .int) (v := .int y62) (W1 := roW a b d ct (u1 z10_i 2 y62) (u1 z10_f ((Int32.toNatClampNeg z10_4)) y49) g) hx hb hts inX3 tyX3 tyX3_ok nmX3 hown hK hP hD hS 0 rfl rfl 2 (by decide) hw1 (fun _ h => h) rfl (by decide +kernel) rfl rfl (Nat.le_of_ble_eq_true rfl) rfl dX3_takePieces_62 (fun H locs hP hD hS => ?_)
              obtain ⟨y65, ey65⟩ : ∃ y : Int32, y = z10_4 + (1 : Int32) := ⟨_, rfl⟩
              have hf := kLt hf ey65
              have a65 : Int32.toInt y65 = Int32.toInt z10_4 + 1 := by have := ti_rng z10_4; rw [ey65]; exact ti_add (by rw [kc1]) (by omega) (by omega)
              refine lv_iinc (v := y65) (lv' := [(4, .int y65), (3, .int y54), (0, .ref a), (2, .int x2)]) hx hb dX3_takePieces_65 hl (k := 1) rfl (by rw [ey65]; rfl) (by decide) rfl (fun ls hl => ?_)
              refine lv_goto (tgt := 10) hx hb dX3_takePieces_68 (by decide) ?_
              exact ih y65 y54 (u1 z10_i 2 y62) (u1 z10_f ((Int32.toNatClampNeg z10_4)) y49) _ _ _ (by first | assumption | exact vin (by omega) (by omega) | omega) (by first | assumption | exact vin (by omega) (by omega) | omega) hP hD hS (lv_sub hl [0, 1, 2, 3] rfl) hf
            · have hf := kIt hf c_4
              have t_4 := ti_eq c_4
              refine lv_iconst (v := (0 : Int32)) hx hb dX3_takePieces_37 (by decide) ?_
              exact kRetZ hx hb hr hlk hP hD hS (Or.inl rfl) (kfst hf) ((congrArg (fun q => roW a b d ct q.2.1 q.2.2 g) hf).symm) hQ dX3_takePieces_38
  refine lp10 _ (fun w10_3 w10_i w10_f  H locs ls  hP hD hS hl hf => ?_) (9) (0 : Int32) x1 (u1 i 2 (0 : Int32)) f  _ _ _ (by first | assumption | exact vin (by omega) (by omega) | omega) (by first | assumption | exact vin (by omega) (by omega) | omega) hP hD hS (lv_sub hl [0, 1, 2, 4] rfl) hf
  refine lv_iload_n hx hb dX3_takePieces_71 rfl (lv_at hl 0 rfl) ?_
  refine lv_if_ne (tgt := 79) hx hb dX3_takePieces_72 (by decide) (fun c_7 => ?_) (fun c_7 => ?_)
  · have hf := kIf hf c_7
    have t_7 := ti_ne c_7
    refine lv_iconst (v := (0 : Int32)) hx hb dX3_takePieces_79 (by decide) ?_
    exact kRetZ hx hb hr hlk hP hD hS (Or.inl rfl) (kfst hf) ((congrArg (fun q => roW a b d ct q.2.1 q.2.2 g) hf).symm) hQ dX3_takePieces_80
  · have hf := kIt hf c_7
    have t_7 := ti_eq c_7
    refine lv_iconst (v := (1 : Int32)) hx hb dX3_takePieces_75 (by decide) ?_
    refine lv_goto (tgt := 80) hx hb dX3_takePieces_76 (by decide) ?_
    exact kRetZ hx hb hr hlk hP hD hS (Or.inr rfl) (kfst hf) ((congrArg (fun q => roW a b d ct q.2.1 q.2.2 g) hf).symm) hQ dX3_takePieces_80
theorem kyX3_cutFurther : kY yX3_cutFurther cX3_cutFurther 3 (some .int) wsX3_cutFurther wsX3_cutFurther.tail 3 := ⟨rfl, by decide, by decide, by decide +kernel⟩
set_option maxHeartbeats 4000000 in
set_option maxRecDepth 100000 in
theorem k_X3_cutFurther (l : Launch) (D : va_G) (ct : ClassId × ClassId × ClassId) (z : Nat × Nat)  (x0 : Int32) (x1 : Int32) (x2 : Int32)  : kC l D ct z yX3_cutFurther wsX3_cutFurther 0 0 [.int x0, .int x1, .int x2] ([]) (some (.int (f_X3_cutFurther x0 x1 x2))) ([]) := by
  refine kHead (cc := cX3_cutFurther) (maxL := 3) (ret := (some .int)) [(0, .int x0), (1, .int x1), (2, .int x2)] (by decide) rfl (Nat.le_of_ble_eq_true rfl) rfl ?_
  intro p e s m args below meth c A ls R Q hRf hRl hQ hx hb hr hlk hml hown hts hA hS hK hP hD hl
  have kc0 : (0 : Int32).toInt = 0 := by decide
  have kc1 : (1 : Int32).toInt = 1 := by decide
  have kc64 : (64 : Int32).toInt = 64 := by decide
  have hf : f_X3_cutFurther x0 x1 x2 = f_X3_cutFurther x0 x1 x2 := rfl
  refine lv_iload_n hx hb dX3_cutFurther_0 rfl (lv_at hl 0 rfl) ?_
  refine lv_bipush (v := (64 : Int32)) hx hb dX3_cutFurther_1 (by decide) ?_
  refine lv_irem hx hb dX3_cutFurther_3 (by decide) ?_
  refine lv_iload_n hx hb dX3_cutFurther_4 rfl (lv_at hl 1 rfl) ?_
  refine lv_iadd hx hb dX3_cutFurther_5 ?_
  refine lv_iload_n hx hb dX3_cutFurther_6 rfl (lv_at hl 2 rfl) ?_
  refine lv_icmp_gt (tgt := 16) hx hb dX3_cutFurther_7 (by decide) (fun c_1 => ?_) (fun c_1 => ?_)
  · have hf := kIt hf c_1
    have t_1 := ti_lt c_1
    refine lv_iload_n hx hb dX3_cutFurther_16 rfl (lv_at hl 0 rfl) ?_
    refine lv_bipush (v := (64 : Int32)) hx hb dX3_cutFurther_17 (by decide) ?_
    refine lv_idiv hx hb dX3_cutFurther_19 (by decide) ?_
    refine lv_iconst (v := (1 : Int32)) hx hb dX3_cutFurther_20 (by decide) ?_
    refine lv_iadd hx hb dX3_cutFurther_21 ?_
    refine lv_bipush (v := (64 : Int32)) hx hb dX3_cutFurther_22 (by decide) ?_
    refine lv_imul hx hb dX3_cutFurther_24 ?_
    refine lv_iload_n hx hb dX3_cutFurther_25 rfl (lv_at hl 1 rfl) ?_
    refine lv_iadd hx hb dX3_cutFurther_26 ?_
    exact kRetI hx hb hr hlk hP hD hS hf.symm rfl hQ dX3_cutFurther_27
  · have hf := kIf hf c_1
    have t_1 := ti_nlt c_1
    refine lv_iload_n hx hb dX3_cutFurther_10 rfl (lv_at hl 0 rfl) ?_
    refine lv_iload_n hx hb dX3_cutFurther_11 rfl (lv_at hl 1 rfl) ?_
    refine lv_iadd hx hb dX3_cutFurther_12 ?_
    refine lv_goto (tgt := 27) hx hb dX3_cutFurther_13 (by decide) ?_
    exact kRetI hx hb hr hlk hP hD hS hf.symm rfl hQ dX3_cutFurther_27
theorem kyX3_leastCut : kY yX3_leastCut cX3_leastCut 6 (some .int) wsX3_leastCut wsX3_leastCut.tail 2 := ⟨rfl, by decide, by decide, by decide +kernel⟩
set_option maxHeartbeats 4000000 in
set_option maxRecDepth 100000 in
theorem k_X3_leastCut (l : Launch) (D : va_G) (ct : ClassId × ClassId × ClassId) (z : Nat × Nat) (a : Nat) (b : Nat) (d : Nat) (x1 : Int32) (x2 : Int32) (i : Nat → Int32) (f : Nat → Int32) (g : Nat → Int32)  : kC l D ct z yX3_leastCut wsX3_leastCut 1 22 [.ref a, .int x1, .int x2] (roW a b d ct i f g) (some (.int (f_X3_leastCut x1 x2 i f g))) (roW a b d ct i f g) := by
  refine kHead (cc := cX3_leastCut) (maxL := 6) (ret := (some .int)) [(0, .ref a), (1, .int x1), (2, .int x2)] (by decide) rfl (Nat.le_of_ble_eq_true rfl) rfl ?_
  intro p e s m args below meth c A ls R Q hRf hRl hQ hx hb hr hlk hml hown hts hA hS hK hP hD hl
  have inX3 : ∀ w ∈ wsX30, w ∈ wsX3_leastCut := fun w h => (List.mem_cons_of_mem _ (List.mem_append_right _ h))
  have hw1 := hts (Cond.fieldLink RX3 18 "MastPulpits$RopeCutter" "many" "I") (List.mem_of_getElem? (i := 1) (by decide +kernel))
  have hw2 := hts (Cond.fieldLink RX3 11 "MastPulpits$RopeCutter" "pieces" "[I") (List.mem_of_getElem? (i := 2) (by decide +kernel))
  have hw3 := hts (Cond.fieldLink RX3 15 "MastPulpits$RopeCutter" "cutOfSet" "[I") (List.mem_of_getElem? (i := 3) (by decide +kernel))
  have hw4 := hts (Cond.methodLink RX3 30 Lib.Math.min.name) (List.mem_of_getElem? (i := 4) (by decide +kernel))
  have hw5 := hts (Cond.static Lib.Math.min.name) (List.mem_of_getElem? (i := 5) (by decide +kernel))
  have hw6 := hts (Cond.initialized "java/lang/Math") (List.mem_of_getElem? (i := 6) (by decide +kernel))
  have hw7 := hts (Cond.code Lib.Math.min.name Lib.Math.min.code 2 (some .int)) (List.mem_of_getElem? (i := 7) (by decide +kernel))
  have kcm1 : (-1 : Int32).toInt = -1 := by decide
  have kc0 : (0 : Int32).toInt = 0 := by decide
  have kc1 : (1 : Int32).toInt = 1 := by decide
  have kc9 : (9 : Int32).toInt = 9 := by decide
  have kc512 : (512 : Int32).toInt = 512 := by decide
  have kc576 : (576 : Int32).toInt = 576 := by decide
  have hf : f_X3_leastCut x1 x2 i f g = f_X3_leastCut x1 x2 i f g := rfl
  refine lv_sipush (v := (576 : Int32)) hx hb dX3_leastCut_0 (by decide) ?_
  refine lv_istore_n (lv' := [(3, .int (576 : Int32)), (0, .ref a), (1, .int x1), (2, .int x2)]) hx hb dX3_leastCut_3 rfl hl (by decide) rfl (fun ls hl => ?_)
  refine lv_iconst (v := (0 : Int32)) hx hb dX3_leastCut_4 (by decide) ?_
  refine lv_istore (lv' := [(4, .int (0 : Int32)), (3, .int (576 : Int32)), (0, .ref a), (1, .int x1), (2, .int x2)]) hx hb dX3_leastCut_5 hl (by decide) rfl (fun ls hl => ?_)
  have lp7 : ∀ (K : Int32 → Int32), (∀ (z7_3 : Int32), ∀ (H : Heap) (locs : List Loc) (ls : Array Slot), va_P D vwCl (roW a b d ct i f g) H → va_D A (roW a b d ct i f g) → va_S A s.heap H locs → lv_has ls 6 [(3, .int z7_3)] → f_X3_leastCut x1 x2 i f g = K z7_3 → W p l e R s m args below meth c H locs 0 0 Q (F0 m 86 ls [])) → ∀ (n : Nat) (z7_4 : Int32) (z7_3 : Int32), ∀ (H : Heap) (locs : List Loc) (ls : Array Slot), (9 ≤ Int32.toInt z7_4 + (n : Int)) → (0 ≤ Int32.toInt z7_4) → va_P D vwCl (roW a b d ct i f g) H → va_D A (roW a b d ct i f g) → va_S A s.heap H locs → lv_has ls 6 [(4, .int z7_4), (3, .int z7_3), (0, .ref a), (1, .int x1), (2, .int x2)] → f_X3_leastCut x1 x2 i f g = f_X3_leastCut_L7 x1 x2 i f g K n z7_4 z7_3 → W p l e R s m args below meth c H locs 0 0 Q (F0 m 7 ls []) := by
    intro K hk n
    induction n with
    | zero =>
      intro z7_4 z7_3  H locs ls hn7 hz7 hP hD hS hl hf
      refine lv_iload hx hb dX3_leastCut_7 (lv_at hl 0 rfl) ?_
      refine lv_aload_n hx hb dX3_leastCut_9 rfl (lv_at hl 2 rfl) ?_
      refine va_get (D := D) (cl := vwCl) (ci := 2) (v := .int (i 2)) (C := RX3) (T := TX3) (N := 3) hx hb hts inX3 hown hK.1 hP 0 rfl rfl 2 (by decide) hw1 (fun _ h => h) rfl dX3_leastCut_10 ?_
      refine lv_icmp_ge (tgt := 86) hx hb dX3_leastCut_13 (by decide) (fun c_6 => ?_) (fun c_6 => ?_)
      · have t_6 := ti_le c_6
        exact hk _ _ _ _  hP hD hS (lv_sub hl [1] rfl) hf
      · have t_6 := ti_nle c_6
        refine lv_iload hx hb dX3_leastCut_16 (lv_at hl 0 rfl) ?_
        refine lv_aload_n hx hb dX3_leastCut_18 rfl (lv_at hl 2 rfl) ?_
        refine va_get (D := D) (cl := vwCl) (ci := 2) (v := .ref b) (C := RX3) (T := TX3) (N := 3) hx hb hts inX3 hown hK.1 hP 0 rfl rfl 0 (by decide) hw2 (fun _ h => h) rfl dX3_leastCut_19 ?_
        refine va_alen (v := (9 : Int32)) hx hb hK.1 hP 1 0 rfl rfl rfl dX3_leastCut_22 ?_
        refine lv_icmp_ge (tgt := 86) hx hb dX3_leastCut_23 (by decide) (fun c_7 => ?_) (fun c_7 => ?_)
        · have t_7 := ti_le c_7
          exact hk _ _ _ _  hP hD hS (lv_sub hl [1] rfl) hf
        · have t_7 := ti_nle c_7
          exfalso
          omega
    | succ n ih =>
      intro z7_4 z7_3  H locs ls hn7 hz7 hP hD hS hl hf
      refine lv_iload hx hb dX3_leastCut_7 (lv_at hl 0 rfl) ?_
      refine lv_aload_n hx hb dX3_leastCut_9 rfl (lv_at hl 2 rfl) ?_
      refine va_get (D := D) (cl := vwCl) (ci := 2) (v := .int (i 2)) (C := RX3) (T := TX3) (N := 3) hx hb hts inX3 hown hK.1 hP 0 rfl rfl 2 (by decide) hw1 (fun _ h => h) rfl dX3_leastCut_10 ?_
      refine lv_icmp_ge (tgt := 86) hx hb dX3_leastCut_13 (by decide) (fun c_1 => ?_) (fun c_1 => ?_)
      · have hf := kIt hf c_1
        have t_1 := ti_le c_1
        exact hk _ _ _ _  hP hD hS (lv_sub hl [1] rfl) hf
      · have hf := kIf hf c_1
        have t_1 := ti_nle c_1
        refine lv_iload hx hb dX3_leastCut_16 (lv_at hl 0 rfl) ?_
        refine lv_aload_n hx hb dX3_leastCut_18 rfl (lv_at hl 2 rfl) ?_
        refine va_get (D := D) (cl := vwCl) (ci := 2) (v := .ref b) (C := RX3) (T := TX3) (N := 3) hx hb hts inX3 hown hK.1 hP 0 rfl rfl 0 (by decide) hw2 (fun _ h => h) rfl dX3_leastCut_19 ?_
        refine va_alen (v := (9 : Int32)) hx hb hK.1 hP 1 0 rfl rfl rfl dX3_leastCut_22 ?_
        refine lv_icmp_ge (tgt := 86) hx hb dX3_leastCut_23 (by decide) (fun c_2 => ?_) (fun c_2 => ?_)
        · have hf := kIt hf c_2
          have t_2 := ti_le c_2
          exact hk _ _ _ _  hP hD hS (lv_sub hl [1] rfl) hf
        · have hf := kIf hf c_2
          have t_2 := ti_nle c_2
          refine lv_iload_n hx hb dX3_leastCut_26 rfl (lv_at hl 3 rfl) ?_
          refine lv_iconst (v := (1 : Int32)) hx hb dX3_leastCut_27 (by decide) ?_
          refine lv_iload hx hb dX3_leastCut_28 (lv_at hl 0 rfl) ?_
          refine lv_ishl hx hb dX3_leastCut_30 ?_
          refine lv_iconst (v := (-1 : Int32)) hx hb dX3_leastCut_31 (by decide) ?_
          refine lv_ixor hx hb dX3_leastCut_32 ?_
          refine lv_iand hx hb dX3_leastCut_33 ?_
          refine lv_topi (fun y34 ey34 => ?_)
          have hf := kLt hf ey34
          refine lv_istore (lv' := [(5, .int y34), (4, .int z7_4), (3, .int z7_3), (0, .ref a), (1, .int x1), (2, .int x2)]) hx hb dX3_leastCut_34 hl (by decide) rfl (fun ls hl => ?_)
          refine lv_iload hx hb dX3_leastCut_36 (lv_at hl 0 rfl) ?_
          refine lv_iload_n hx hb dX3_leastCut_38 rfl (lv_at hl 4 rfl) ?_
          refine kJn hf (fun j0 => ∀ (z80_3 : Int32), f_X3_leastCut x1 x2 i f g = j0 z80_3 → ∀ (H : Heap) (locs : List Loc) (ls : Array Slot), va_P D vwCl (roW a b d ct i f g) H → va_D A (roW a b d ct i f g) → va_S A s.heap H locs → lv_has ls 6 [(4, .int z7_4), (3, .int z80_3), (0, .ref a), (1, .int x1), (2, .int x2)] → W p l e R s m args below meth c H locs 0 0 Q (F0 m 80 ls [])) ?_ ?_
          · intro j0 hj0 z80_3  hf H locs ls hP hD hS hl
            subst hj0
            obtain ⟨y80, ey80⟩ : ∃ y : Int32, y = z7_4 + (1 : Int32) := ⟨_, rfl⟩
            have hf := kLt hf ey80
            have a80 : Int32.toInt y80 = Int32.toInt z7_4 + 1 := by have := ti_rng z7_4; rw [ey80]; exact ti_add (by rw [kc1]) (by omega) (by omega)
            refine lv_iinc (v := y80) (lv' := [(4, .int y80), (3, .int z80_3), (0, .ref a), (1, .int x1), (2, .int x2)]) hx hb dX3_leastCut_80 hl (k := 0) rfl (by rw [ey80]; rfl) (by decide) rfl (fun ls hl => ?_)
            refine lv_goto (tgt := 7) hx hb dX3_leastCut_83 (by decide) ?_
            exact ih y80 z80_3 _ _ _ (by first | assumption | exact vin (by omega) (by omega) | omega) (by first | assumption | exact vin (by omega) (by omega) | omega) hP hD hS (lv_sub hl [0, 1, 2, 3, 4] rfl) hf
          · intro j80 hJ80 hf
            refine lv_icmp_eq (tgt := 80) hx hb dX3_leastCut_39 (by decide) (fun c_3 => ?_) (fun c_3 => ?_)
            · have hf := kIt hf c_3
              have t_3 := ti_eq c_3
              exact hJ80 _  hf _ _ _ hP hD hS (lv_sub hl [1, 2, 3, 4, 5] rfl)
            · have hf := kIf hf c_3
              have t_3 := ti_ne c_3
              refine lv_iload hx hb dX3_leastCut_42 (lv_at hl 0 rfl) ?_
              refine lv_if_lt (tgt := 80) hx hb dX3_leastCut_44 (by decide) (fun c_4 => ?_) (fun c_4 => ?_)
              · have hf := kIt hf c_4
                have t_4 := ti_lt c_4
                exact hJ80 _  hf _ _ _ hP hD hS (lv_sub hl [1, 2, 3, 4, 5] rfl)
              · have hf := kIf hf c_4
                have t_4 := ti_nlt c_4
                refine lv_iload hx hb dX3_leastCut_47 (lv_at hl 0 rfl) ?_
                refine lv_aload_n hx hb dX3_leastCut_49 rfl (lv_at hl 3 rfl) ?_
                refine va_get (D := D) (cl := vwCl) (ci := 2) (v := .ref d) (C := RX3) (T := TX3) (N := 3) hx hb hts inX3 hown hK.1 hP 0 rfl rfl 1 (by decide) hw3 (fun _ h => h) rfl dX3_leastCut_50 ?_
                refine va_alen (v := (512 : Int32)) hx hb hK.1 hP 2 0 rfl rfl rfl dX3_leastCut_53 ?_
                refine lv_icmp_ge (tgt := 80) hx hb dX3_leastCut_54 (by decide) (fun c_5 => ?_) (fun c_5 => ?_)
                · have hf := kIt hf c_5
                  have t_5 := ti_le c_5
                  exact hJ80 _  hf _ _ _ hP hD hS (lv_sub hl [1, 2, 3, 4, 5] rfl)
                · have hf := kIf hf c_5
                  have t_5 := ti_nle c_5
                  refine lv_iload_n hx hb dX3_leastCut_57 rfl (lv_at hl 2 rfl) ?_
                  refine lv_aload_n hx hb dX3_leastCut_58 rfl (lv_at hl 3 rfl) ?_
                  refine va_get (D := D) (cl := vwCl) (ci := 2) (v := .ref d) (C := RX3) (T := TX3) (N := 3) hx hb hts inX3 hown hK.1 hP 0 rfl rfl 1 (by decide) hw3 (fun _ h => h) rfl dX3_leastCut_59 ?_
                  refine lv_iload hx hb dX3_leastCut_62 (lv_at hl 0 rfl) ?_
                  refine va_iald hx hb hK.1 hP 2 0 rfl rfl (by first | assumption | exact vin (by omega) (by omega) | omega) dX3_leastCut_64 ?_
                  refine lv_aload_n hx hb dX3_leastCut_65 rfl (lv_at hl 3 rfl) ?_
                  refine va_get (D := D) (cl := vwCl) (ci := 2) (v := .ref b) (C := RX3) (T := TX3) (N := 3) hx hb hts inX3 hown hK.1 hP 0 rfl rfl 0 (by decide) hw2 (fun _ h => h) rfl dX3_leastCut_66 ?_
                  refine lv_iload hx hb dX3_leastCut_69 (lv_at hl 1 rfl) ?_
                  refine va_iald hx hb hK.1 hP 1 0 rfl rfl (by first | assumption | exact vin (by omega) (by omega) | omega) dX3_leastCut_71 ?_
                  refine lv_iload_n hx hb dX3_leastCut_72 rfl (lv_at hl 5 rfl) ?_
                  have hM : kC l D ct z yX3_cutFurther wsX3_cutFurther 0 0 [.int (g (Int32.toNatClampNeg y34)), .int (f (Int32.toNatClampNeg z7_4)), .int x2] ([]) (some (.int (f_X3_cutFurther (g (Int32.toNatClampNeg y34)) (f (Int32.toNatClampNeg z7_4)) x2))) ([]) := k_X3_cutFurther l D ct z (g (Int32.toNatClampNeg y34)) (f (Int32.toNatClampNeg z7_4)) x2
                  refine kS0 (As := [.int (g (Int32.toNatClampNeg y34)), .int (f (Int32.toNatClampNeg z7_4)), .int x2]) (rest := [.int z7_3]) ⟨hx, hb, hml, hown, hts⟩ hM gX3_leastCut_X3_cutFurther kyX3_cutFurther (by rw [hRf, hRl]; exact ⟨Nat.le_of_ble_eq_true rfl, Nat.le_of_ble_eq_true rfl⟩) hK hP hD hS hA rfl hl.1 rfl (st1 := [.int (f_X3_cutFurther (g (Int32.toNatClampNeg y34)) (f (Int32.toNatClampNeg z7_4)) x2), .int z7_3]) rfl rfl ⟨Nat.zero_le _, Nat.zero_le _⟩ dX3_leastCut_73 (fun H locs hP hD hS => ?_)
                  refine kMin hx hb (hml.trans hl.1.symm) hown hw4 hw5 hw6 hw7 (by rw [hRf]; decide) (by rw [hRl]; exact Nat.le_of_ble_eq_true rfl) (Nat.zero_le _) (Nat.zero_le _) dX3_leastCut_76 ?_
                  refine lv_topi (fun y79 ey79 => ?_)
                  have hf := kLt hf ey79
                  refine lv_istore_n (lv' := [(3, .int y79), (5, .int y34), (4, .int z7_4), (0, .ref a), (1, .int x1), (2, .int x2)]) hx hb dX3_leastCut_79 rfl hl (by decide) rfl (fun ls hl => ?_)
                  exact hJ80 _  hf _ _ _ hP hD hS (lv_sub hl [2, 0, 3, 4, 5] rfl)
  refine lp7 _ (fun w7_3  H locs ls  hP hD hS hl hf => ?_) (9) (0 : Int32) (576 : Int32)  _ _ _ (by first | assumption | exact vin (by omega) (by omega) | omega) (by first | assumption | exact vin (by omega) (by omega) | omega) hP hD hS (lv_sub hl [0, 1, 2, 3, 4] rfl) hf
  refine lv_iload_n hx hb dX3_leastCut_86 rfl (lv_at hl 0 rfl) ?_
  exact kRetI hx hb hr hlk hP hD hS hf.symm rfl hQ dX3_leastCut_87
theorem kyX3_fewestRopes : kY yX3_fewestRopes cX3_fewestRopes 3 (some .int) wsX3_fewestRopes wsX3_fewestRopes.tail 1 := ⟨rfl, by decide, by decide, by decide +kernel⟩
set_option maxHeartbeats 4000000 in
set_option maxRecDepth 100000 in
theorem k_X3_fewestRopes (l : Launch) (D : va_G) (ct : ClassId × ClassId × ClassId) (z : Nat × Nat) (a : Nat) (b : Nat) (d : Nat) (x1 : Int32) (i : Nat → Int32) (f : Nat → Int32) (g : Nat → Int32)  : kC l D ct z yX3_fewestRopes wsX3_fewestRopes 2 47 [.ref a, .int x1] (roW a b d ct i f g) (some (.int ((f_X3_fewestRopes x1 i f g).1))) (roW a b d ct i f ((f_X3_fewestRopes x1 i f g).2)) := by
  refine kHead (cc := cX3_fewestRopes) (maxL := 3) (ret := (some .int)) [(0, .ref a), (1, .int x1)] (by decide) rfl (Nat.le_of_ble_eq_true rfl) rfl ?_
  intro p e s m args below meth c A ls R Q hRf hRl hQ hx hb hr hlk hml hown hts hA hS hK hP hD hl
  have inX3 : ∀ w ∈ wsX30, w ∈ wsX3_fewestRopes := fun w h => (List.mem_cons_of_mem _ (List.mem_append_right _ h))
  have hw1 := hts (Cond.fieldLink RX3 18 "MastPulpits$RopeCutter" "many" "I") (List.mem_of_getElem? (i := 1) (by decide +kernel))
  have hw2 := hts (Cond.fieldLink RX3 15 "MastPulpits$RopeCutter" "cutOfSet" "[I") (List.mem_of_getElem? (i := 2) (by decide +kernel))
  have kcm6 : (-6 : Int32).toInt = -6 := by decide
  have kc0 : (0 : Int32).toInt = 0 := by decide
  have kc1 : (1 : Int32).toInt = 1 := by decide
  have kc64 : (64 : Int32).toInt = 64 := by decide
  have kc512 : (512 : Int32).toInt = 512 := by decide
  have hf : f_X3_fewestRopes x1 i f g = f_X3_fewestRopes x1 i f g := rfl
  refine lv_iconst (v := (1 : Int32)) hx hb dX3_fewestRopes_0 (by decide) ?_
  refine lv_istore_n (lv' := [(2, .int (1 : Int32)), (0, .ref a), (1, .int x1)]) hx hb dX3_fewestRopes_1 rfl hl (by decide) rfl (fun ls hl => ?_)
  have lp2 : ∀ (K : (Nat → Int32) → (Int32 × (Nat → Int32))), (∀ (z2_g : Nat → Int32), ∀ (H : Heap) (locs : List Loc) (ls : Array Slot), va_P D vwCl (roW a b d ct i f z2_g) H → va_D A (roW a b d ct i f z2_g) → va_S A s.heap H locs → lv_has ls 3 [(0, .ref a)] → f_X3_fewestRopes x1 i f g = K z2_g → W p l e R s m args below meth c H locs 0 0 Q (F0 m 39 ls [])) → ∀ (n : Nat) (z2_2 : Int32) (z2_g : Nat → Int32), ∀ (H : Heap) (locs : List Loc) (ls : Array Slot), (512 ≤ Int32.toInt z2_2 + (n : Int)) → (0 ≤ Int32.toInt z2_2) → va_P D vwCl (roW a b d ct i f z2_g) H → va_D A (roW a b d ct i f z2_g) → va_S A s.heap H locs → lv_has ls 3 [(2, .int z2_2), (0, .ref a), (1, .int x1)] → f_X3_fewestRopes x1 i f g = f_X3_fewestRopes_L2 x1 i f K n z2_2 z2_g → W p l e R s m args below meth c H locs 0 0 Q (F0 m 2 ls []) := by
    intro K hk n
    induction n with
    | zero =>
      intro z2_2 z2_g  H locs ls hn2 hz2 hP hD hS hl hf
      refine lv_iload_n hx hb dX3_fewestRopes_2 rfl (lv_at hl 0 rfl) ?_
      refine lv_iconst (v := (1 : Int32)) hx hb dX3_fewestRopes_3 (by decide) ?_
      refine lv_aload_n hx hb dX3_fewestRopes_4 rfl (lv_at hl 1 rfl) ?_
      refine va_get (D := D) (cl := vwCl) (ci := 2) (v := .int (i 2)) (C := RX3) (T := TX3) (N := 3) hx hb hts inX3 hown hK.1 hP 0 rfl rfl 2 (by decide) hw1 (fun _ h => h) rfl dX3_fewestRopes_5 ?_
      refine lv_ishl hx hb dX3_fewestRopes_8 ?_
      refine lv_icmp_ge (tgt := 39) hx hb dX3_fewestRopes_9 (by decide) (fun c_3 => ?_) (fun c_3 => ?_)
      · have t_3 := ti_le c_3
        exact hk _ _ _ _  hP hD hS (lv_sub hl [1] rfl) hf
      · have t_3 := ti_nle c_3
        refine lv_iload_n hx hb dX3_fewestRopes_12 rfl (lv_at hl 0 rfl) ?_
        refine lv_aload_n hx hb dX3_fewestRopes_13 rfl (lv_at hl 1 rfl) ?_
        refine va_get (D := D) (cl := vwCl) (ci := 2) (v := .ref d) (C := RX3) (T := TX3) (N := 3) hx hb hts inX3 hown hK.1 hP 0 rfl rfl 1 (by decide) hw2 (fun _ h => h) rfl dX3_fewestRopes_14 ?_
        refine va_alen (v := (512 : Int32)) hx hb hK.1 hP 2 0 rfl rfl rfl dX3_fewestRopes_17 ?_
        refine lv_icmp_ge (tgt := 39) hx hb dX3_fewestRopes_18 (by decide) (fun c_4 => ?_) (fun c_4 => ?_)
        · have t_4 := ti_le c_4
          exact hk _ _ _ _  hP hD hS (lv_sub hl [1] rfl) hf
        · have t_4 := ti_nle c_4
          exfalso
          omega
    | succ n ih =>
      intro z2_2 z2_g  H locs ls hn2 hz2 hP hD hS hl hf
      refine lv_iload_n hx hb dX3_fewestRopes_2 rfl (lv_at hl 0 rfl) ?_
      refine lv_iconst (v := (1 : Int32)) hx hb dX3_fewestRopes_3 (by decide) ?_
      refine lv_aload_n hx hb dX3_fewestRopes_4 rfl (lv_at hl 1 rfl) ?_
      refine va_get (D := D) (cl := vwCl) (ci := 2) (v := .int (i 2)) (C := RX3) (T := TX3) (N := 3) hx hb hts inX3 hown hK.1 hP 0 rfl rfl 2 (by decide) hw1 (fun _ h => h) rfl dX3_fewestRopes_5 ?_
      refine lv_ishl hx hb dX3_fewestRopes_8 ?_
      refine lv_icmp_ge (tgt := 39) hx hb dX3_fewestRopes_9 (by decide) (fun c_1 => ?_) (fun c_1 => ?_)
      · have hf := kIt hf c_1
        have t_1 := ti_le c_1
        exact hk _ _ _ _  hP hD hS (lv_sub hl [1] rfl) hf
      · have hf := kIf hf c_1
        have t_1 := ti_nle c_1
        refine lv_iload_n hx hb dX3_fewestRopes_12 rfl (lv_at hl 0 rfl) ?_
        refine lv_aload_n hx hb dX3_fewestRopes_13 rfl (lv_at hl 1 rfl) ?_
        refine va_get (D := D) (cl := vwCl) (ci := 2) (v := .ref d) (C := RX3) (T := TX3) (N := 3) hx hb hts inX3 hown hK.1 hP 0 rfl rfl 1 (by decide) hw2 (fun _ h => h) rfl dX3_fewestRopes_14 ?_
        refine va_alen (v := (512 : Int32)) hx hb hK.1 hP 2 0 rfl rfl rfl dX3_fewestRopes_17 ?_
        refine lv_icmp_ge (tgt := 39) hx hb dX3_fewestRopes_18 (by decide) (fun c_2 => ?_) (fun c_2 => ?_)
        · have hf := kIt hf c_2
          have t_2 := ti_le c_2
          exact hk _ _ _ _  hP hD hS (lv_sub hl [1] rfl) hf
        · have hf := kIf hf c_2
          have t_2 := ti_nle c_2
          refine lv_aload_n hx hb dX3_fewestRopes_21 rfl (lv_at hl 1 rfl) ?_
          refine va_get (D := D) (cl := vwCl) (ci := 2) (v := .ref d) (C := RX3) (T := TX3) (N := 3) hx hb hts inX3 hown hK.1 hP 0 rfl rfl 1 (by decide) hw2 (fun _ h => h) rfl dX3_fewestRopes_22 ?_
          refine lv_iload_n hx hb dX3_fewestRopes_25 rfl (lv_at hl 0 rfl) ?_
          refine lv_aload_n hx hb dX3_fewestRopes_26 rfl (lv_at hl 1 rfl) ?_
          refine lv_iload_n hx hb dX3_fewestRopes_27 rfl (lv_at hl 0 rfl) ?_
          refine lv_iload_n hx hb dX3_fewestRopes_28 rfl (lv_at hl 2 rfl) ?_
          have hM : kC l D ct z yX3_leastCut wsX3_leastCut 1 22 [.ref a, .int z2_2, .int x1] (roW a b d ct i f z2_g) (some (.int (f_X3_leastCut z2_2 x1 i f z2_g))) (roW a b d ct i f z2_g) := k_X3_leastCut l D ct z a b d z2_2 x1 i f z2_g
          refine kV1 (As := [.int z2_2, .int x1]) (rest := [.int z2_2, .ref d]) ⟨hx, hb, hml, hown, hts⟩ hM gX3_fewestRopes_X3_leastCut kyX3_leastCut (by rw [hRf, hRl]; exact ⟨Nat.le_of_ble_eq_true rfl, Nat.le_of_ble_eq_true rfl⟩) hK hP hD hS hA 0 rfl rfl rfl rfl hl.1 rfl (st1 := [.int (f_X3_leastCut z2_2 x1 i f z2_g), .int z2_2, .ref d]) rfl rfl ⟨Nat.zero_le _, Nat.zero_le _⟩ dX3_fewestRopes_29 (fun H locs hP hD hS => ?_)
          refine lv_topi (fun y32 ey32 => ?_)
          have hf := kLt hf ey32
          refine kIast (W1 := roW a b d ct i f (u1 z2_g ((Int32.toNatClampNeg z2_2)) y32)) hx hb hK hP hD hS 2 rfl (by first | assumption | exact vin (by omega) (by omega) | omega) rfl dX3_fewestRopes_32 (fun H locs hP hD hS => ?_)
          obtain ⟨y33, ey33⟩ : ∃ y : Int32, y = z2_2 + (1 : Int32) := ⟨_, rfl⟩
          have hf := kLt hf ey33
          have a33 : Int32.toInt y33 = Int32.toInt z2_2 + 1 := by have := ti_rng z2_2; rw [ey33]; exact ti_add (by rw [kc1]) (by omega) (by omega)
          refine lv_iinc (v := y33) (lv' := [(2, .int y33), (0, .ref a), (1, .int x1)]) hx hb dX3_fewestRopes_33 hl (k := 0) rfl (by rw [ey33]; rfl) (by decide) rfl (fun ls hl => ?_)
          refine lv_goto (tgt := 2) hx hb dX3_fewestRopes_36 (by decide) ?_
          exact ih y33 (u1 z2_g ((Int32.toNatClampNeg z2_2)) y32) _ _ _ (by first | assumption | exact vin (by omega) (by omega) | omega) (by first | assumption | exact vin (by omega) (by omega) | omega) hP hD hS (lv_sub hl [0, 1, 2] rfl) hf
  refine lp2 _ (fun w2_g  H locs ls  hP hD hS hl hf => ?_) (512) (1 : Int32) g  _ _ _ (by first | assumption | exact vin (by omega) (by omega) | omega) (by first | assumption | exact vin (by omega) (by omega) | omega) hP hD hS (lv_sub hl [0, 1, 2] rfl) hf
  refine lv_iconst (v := (1 : Int32)) hx hb dX3_fewestRopes_39 (by decide) ?_
  refine lv_aload_n hx hb dX3_fewestRopes_40 rfl (lv_at hl 0 rfl) ?_
  refine va_get (D := D) (cl := vwCl) (ci := 2) (v := .int (i 2)) (C := RX3) (T := TX3) (N := 3) hx hb hts inX3 hown hK.1 hP 0 rfl rfl 2 (by decide) hw1 (fun _ h => h) rfl dX3_fewestRopes_41 ?_
  refine lv_ishl hx hb dX3_fewestRopes_44 ?_
  refine lv_iconst (v := (1 : Int32)) hx hb dX3_fewestRopes_45 (by decide) ?_
  refine lv_isub hx hb dX3_fewestRopes_46 ?_
  refine lv_topi (fun y47 ey47 => ?_)
  have hf := kLt hf ey47
  refine lv_istore_n (lv' := [(2, .int y47), (0, .ref a)]) hx hb dX3_fewestRopes_47 rfl hl (by decide) rfl (fun ls hl => ?_)
  refine lv_iload_n hx hb dX3_fewestRopes_48 rfl (lv_at hl 0 rfl) ?_
  refine kJn hf (fun j0 => ∀ (u0 : Unit), f_X3_fewestRopes x1 i f g = j0 () → ∀ (H : Heap) (locs : List Loc) (ls : Array Slot), va_P D vwCl (roW a b d ct i f w2_g) H → va_D A (roW a b d ct i f w2_g) → va_S A s.heap H locs → lv_has ls 3 [] → W p l e R s m args below meth c H locs 0 0 Q (F0 m 61 ls [])) ?_ ?_
  · intro j0 hj0 u0  hf H locs ls hP hD hS hl
    subst hj0
    refine lv_bipush (v := (-6 : Int32)) hx hb dX3_fewestRopes_61 (by decide) ?_
    refine lv_goto (tgt := 77) hx hb dX3_fewestRopes_63 (by decide) ?_
    exact kRetI hx hb hr hlk hP hD hS (kfst hf) ((congrArg (fun q => roW a b d ct i f q.2) hf).symm) hQ dX3_fewestRopes_77
  · intro j61 hJ61 hf
    refine lv_if_lt (tgt := 61) hx hb dX3_fewestRopes_49 (by decide) (fun c_5 => ?_) (fun c_5 => ?_)
    · have hf := kIt hf c_5
      have t_5 := ti_lt c_5
      exact hJ61 ()  hf _ _ _ hP hD hS (lv_sub hl [] rfl)
    · have hf := kIf hf c_5
      have t_5 := ti_nlt c_5
      refine lv_iload_n hx hb dX3_fewestRopes_52 rfl (lv_at hl 0 rfl) ?_
      refine lv_aload_n hx hb dX3_fewestRopes_53 rfl (lv_at hl 1 rfl) ?_
      refine va_get (D := D) (cl := vwCl) (ci := 2) (v := .ref d) (C := RX3) (T := TX3) (N := 3) hx hb hts inX3 hown hK.1 hP 0 rfl rfl 1 (by decide) hw2 (fun _ h => h) rfl dX3_fewestRopes_54 ?_
      refine va_alen (v := (512 : Int32)) hx hb hK.1 hP 2 0 rfl rfl rfl dX3_fewestRopes_57 ?_
      refine lv_icmp_lt (tgt := 66) hx hb dX3_fewestRopes_58 (by decide) (fun c_6 => ?_) (fun c_6 => ?_)
      · have hf := kIt hf c_6
        have t_6 := ti_lt c_6
        refine lv_aload_n hx hb dX3_fewestRopes_66 rfl (lv_at hl 1 rfl) ?_
        refine va_get (D := D) (cl := vwCl) (ci := 2) (v := .ref d) (C := RX3) (T := TX3) (N := 3) hx hb hts inX3 hown hK.1 hP 0 rfl rfl 1 (by decide) hw2 (fun _ h => h) rfl dX3_fewestRopes_67 ?_
        refine lv_iload_n hx hb dX3_fewestRopes_70 rfl (lv_at hl 0 rfl) ?_
        refine va_iald hx hb hK.1 hP 2 0 rfl rfl (by first | assumption | exact vin (by omega) (by omega) | omega) dX3_fewestRopes_71 ?_
        refine lv_bipush (v := (64 : Int32)) hx hb dX3_fewestRopes_72 (by decide) ?_
        refine lv_idiv hx hb dX3_fewestRopes_74 (by decide) ?_
        refine lv_iconst (v := (1 : Int32)) hx hb dX3_fewestRopes_75 (by decide) ?_
        refine lv_iadd hx hb dX3_fewestRopes_76 ?_
        exact kRetI hx hb hr hlk hP hD hS (kfst hf) ((congrArg (fun q => roW a b d ct i f q.2) hf).symm) hQ dX3_fewestRopes_77
      · have hf := kIf hf c_6
        have t_6 := ti_nlt c_6
        exact hJ61 ()  hf _ _ _ hP hD hS (lv_sub hl [] rfl)
theorem kyX3_mostFromOne : kY yX3_mostFromOne cX3_mostFromOne 6 (some .int) wsX3_mostFromOne wsX3_mostFromOne.tail 1 := ⟨rfl, by decide, by decide, by decide +kernel⟩
set_option maxHeartbeats 4000000 in
set_option maxRecDepth 100000 in
theorem k_X3_mostFromOne (l : Launch) (D : va_G) (ct : ClassId × ClassId × ClassId) (z : Nat × Nat) (a : Nat) (b : Nat) (d : Nat) (x1 : Int32) (i : Nat → Int32) (f : Nat → Int32) (g : Nat → Int32)  : kC l D ct z yX3_mostFromOne wsX3_mostFromOne 0 0 [.ref a, .int x1] (roW a b d ct i f g) (some (.int (f_X3_mostFromOne x1 i f g))) (roW a b d ct i f g) := by
  refine kHead (cc := cX3_mostFromOne) (maxL := 6) (ret := (some .int)) [(0, .ref a), (1, .int x1)] (by decide) rfl (Nat.le_of_ble_eq_true rfl) rfl ?_
  intro p e s m args below meth c A ls R Q hRf hRl hQ hx hb hr hlk hml hown hts hA hS hK hP hD hl
  have inX3 : ∀ w ∈ wsX30, w ∈ wsX3_mostFromOne := fun w h => (List.mem_cons_of_mem _ (List.mem_append_right _ h))
  have hw1 := hts (Cond.fieldLink RX3 18 "MastPulpits$RopeCutter" "many" "I") (List.mem_of_getElem? (i := 1) (by decide +kernel))
  have hw2 := hts (Cond.fieldLink RX3 11 "MastPulpits$RopeCutter" "pieces" "[I") (List.mem_of_getElem? (i := 2) (by decide +kernel))
  have kc0 : (0 : Int32).toInt = 0 := by decide
  have kc1 : (1 : Int32).toInt = 1 := by decide
  have kc9 : (9 : Int32).toInt = 9 := by decide
  have hf : f_X3_mostFromOne x1 i f g = f_X3_mostFromOne x1 i f g := rfl
  refine lv_iload_n hx hb dX3_mostFromOne_0 rfl (lv_at hl 1 rfl) ?_
  refine lv_istore_n (lv' := [(2, .int x1), (0, .ref a), (1, .int x1)]) hx hb dX3_mostFromOne_1 rfl hl (by decide) rfl (fun ls hl => ?_)
  refine lv_iconst (v := (0 : Int32)) hx hb dX3_mostFromOne_2 (by decide) ?_
  refine lv_istore_n (lv' := [(3, .int (0 : Int32)), (2, .int x1), (0, .ref a), (1, .int x1)]) hx hb dX3_mostFromOne_3 rfl hl (by decide) rfl (fun ls hl => ?_)
  refine lv_iconst (v := (1 : Int32)) hx hb dX3_mostFromOne_4 (by decide) ?_
  refine lv_istore (lv' := [(4, .int (1 : Int32)), (3, .int (0 : Int32)), (2, .int x1), (0, .ref a), (1, .int x1)]) hx hb dX3_mostFromOne_5 hl (by decide) rfl (fun ls hl => ?_)
  have lp7 : ∀ (K : Int32 → Int32), (∀ (z7_3 : Int32), ∀ (H : Heap) (locs : List Loc) (ls : Array Slot), va_P D vwCl (roW a b d ct i f g) H → va_D A (roW a b d ct i f g) → va_S A s.heap H locs → lv_has ls 6 [(3, .int z7_3)] → f_X3_mostFromOne x1 i f g = K z7_3 → W p l e R s m args below meth c H locs 0 0 Q (F0 m 74 ls [])) → ∀ (n : Nat) (z7_4 : Int32) (z7_3 : Int32) (z7_2 : Int32), ∀ (H : Heap) (locs : List Loc) (ls : Array Slot), (10 ≤ Int32.toInt z7_4 + (n : Int)) → va_P D vwCl (roW a b d ct i f g) H → va_D A (roW a b d ct i f g) → va_S A s.heap H locs → lv_has ls 6 [(4, .int z7_4), (3, .int z7_3), (2, .int z7_2), (0, .ref a)] → f_X3_mostFromOne x1 i f g = f_X3_mostFromOne_L7 i f K n z7_4 z7_3 z7_2 → W p l e R s m args below meth c H locs 0 0 Q (F0 m 7 ls []) := by
    intro K hk n
    induction n with
    | zero =>
      intro z7_4 z7_3 z7_2  H locs ls hn7 hP hD hS hl hf
      refine lv_iload hx hb dX3_mostFromOne_7 (lv_at hl 0 rfl) ?_
      refine lv_bipush (v := (9 : Int32)) hx hb dX3_mostFromOne_9 (by decide) ?_
      refine lv_icmp_gt (tgt := 74) hx hb dX3_mostFromOne_11 (by decide) (fun c_8 => ?_) (fun c_8 => ?_)
      · have t_8 := ti_lt c_8
        exact hk _ _ _ _  hP hD hS (lv_sub hl [1] rfl) hf
      · have t_8 := ti_nlt c_8
        exfalso
        omega
    | succ n ih =>
      intro z7_4 z7_3 z7_2  H locs ls hn7 hP hD hS hl hf
      refine lv_iload hx hb dX3_mostFromOne_7 (lv_at hl 0 rfl) ?_
      refine lv_bipush (v := (9 : Int32)) hx hb dX3_mostFromOne_9 (by decide) ?_
      refine lv_icmp_gt (tgt := 74) hx hb dX3_mostFromOne_11 (by decide) (fun c_1 => ?_) (fun c_1 => ?_)
      · have hf := kIt hf c_1
        have t_1 := ti_lt c_1
        exact hk _ _ _ _  hP hD hS (lv_sub hl [1] rfl) hf
      · have hf := kIf hf c_1
        have t_1 := ti_nlt c_1
        refine lv_iconst (v := (0 : Int32)) hx hb dX3_mostFromOne_14 (by decide) ?_
        refine lv_istore (lv' := [(5, .int (0 : Int32)), (4, .int z7_4), (3, .int z7_3), (2, .int z7_2), (0, .ref a)]) hx hb dX3_mostFromOne_15 hl (by decide) rfl (fun ls hl => ?_)
        have lp17 : ∀ (K : Int32 → Int32 → Int32), (∀ (z17_3 : Int32) (z17_2 : Int32), ∀ (H : Heap) (locs : List Loc) (ls : Array Slot), va_P D vwCl (roW a b d ct i f g) H → va_D A (roW a b d ct i f g) → va_S A s.heap H locs → lv_has ls 6 [(4, .int z7_4), (3, .int z17_3), (2, .int z17_2), (0, .ref a)] → f_X3_mostFromOne x1 i f g = K z17_3 z17_2 → W p l e R s m args below meth c H locs 0 0 Q (F0 m 68 ls [])) → ∀ (n : Nat) (z17_5 : Int32) (z17_3 : Int32) (z17_2 : Int32), ∀ (H : Heap) (locs : List Loc) (ls : Array Slot), (9 ≤ Int32.toInt z17_5 + (n : Int)) → (0 ≤ Int32.toInt z17_5) → va_P D vwCl (roW a b d ct i f g) H → va_D A (roW a b d ct i f g) → va_S A s.heap H locs → lv_has ls 6 [(5, .int z17_5), (4, .int z7_4), (3, .int z17_3), (2, .int z17_2), (0, .ref a)] → f_X3_mostFromOne x1 i f g = f_X3_mostFromOne_L17 i f z7_4 K n z17_5 z17_3 z17_2 → W p l e R s m args below meth c H locs 0 0 Q (F0 m 17 ls []) := by
          intro K hk n
          induction n with
          | zero =>
            intro z17_5 z17_3 z17_2  H locs ls hn17 hz17 hP hD hS hl hf
            refine lv_iload hx hb dX3_mostFromOne_17 (lv_at hl 0 rfl) ?_
            refine lv_aload_n hx hb dX3_mostFromOne_19 rfl (lv_at hl 4 rfl) ?_
            refine va_get (D := D) (cl := vwCl) (ci := 2) (v := .int (i 2)) (C := RX3) (T := TX3) (N := 3) hx hb hts inX3 hown hK.1 hP 0 rfl rfl 2 (by decide) hw1 (fun _ h => h) rfl dX3_mostFromOne_20 ?_
            refine lv_icmp_ge (tgt := 68) hx hb dX3_mostFromOne_23 (by decide) (fun c_6 => ?_) (fun c_6 => ?_)
            · have t_6 := ti_le c_6
              exact hk _ _ _ _ _  hP hD hS (lv_sub hl [1, 2, 3, 4] rfl) hf
            · have t_6 := ti_nle c_6
              refine lv_iload hx hb dX3_mostFromOne_26 (lv_at hl 0 rfl) ?_
              refine lv_aload_n hx hb dX3_mostFromOne_28 rfl (lv_at hl 4 rfl) ?_
              refine va_get (D := D) (cl := vwCl) (ci := 2) (v := .ref b) (C := RX3) (T := TX3) (N := 3) hx hb hts inX3 hown hK.1 hP 0 rfl rfl 0 (by decide) hw2 (fun _ h => h) rfl dX3_mostFromOne_29 ?_
              refine va_alen (v := (9 : Int32)) hx hb hK.1 hP 1 0 rfl rfl rfl dX3_mostFromOne_32 ?_
              refine lv_icmp_ge (tgt := 68) hx hb dX3_mostFromOne_33 (by decide) (fun c_7 => ?_) (fun c_7 => ?_)
              · have t_7 := ti_le c_7
                exact hk _ _ _ _ _  hP hD hS (lv_sub hl [1, 2, 3, 4] rfl) hf
              · have t_7 := ti_nle c_7
                exfalso
                omega
          | succ n ih =>
            intro z17_5 z17_3 z17_2  H locs ls hn17 hz17 hP hD hS hl hf
            refine lv_iload hx hb dX3_mostFromOne_17 (lv_at hl 0 rfl) ?_
            refine lv_aload_n hx hb dX3_mostFromOne_19 rfl (lv_at hl 4 rfl) ?_
            refine va_get (D := D) (cl := vwCl) (ci := 2) (v := .int (i 2)) (C := RX3) (T := TX3) (N := 3) hx hb hts inX3 hown hK.1 hP 0 rfl rfl 2 (by decide) hw1 (fun _ h => h) rfl dX3_mostFromOne_20 ?_
            refine lv_icmp_ge (tgt := 68) hx hb dX3_mostFromOne_23 (by decide) (fun c_2 => ?_) (fun c_2 => ?_)
            · have hf := kIt hf c_2
              have t_2 := ti_le c_2
              exact hk _ _ _ _ _  hP hD hS (lv_sub hl [1, 2, 3, 4] rfl) hf
            · have hf := kIf hf c_2
              have t_2 := ti_nle c_2
              refine lv_iload hx hb dX3_mostFromOne_26 (lv_at hl 0 rfl) ?_
              refine lv_aload_n hx hb dX3_mostFromOne_28 rfl (lv_at hl 4 rfl) ?_
              refine va_get (D := D) (cl := vwCl) (ci := 2) (v := .ref b) (C := RX3) (T := TX3) (N := 3) hx hb hts inX3 hown hK.1 hP 0 rfl rfl 0 (by decide) hw2 (fun _ h => h) rfl dX3_mostFromOne_29 ?_
              refine va_alen (v := (9 : Int32)) hx hb hK.1 hP 1 0 rfl rfl rfl dX3_mostFromOne_32 ?_
              refine lv_icmp_ge (tgt := 68) hx hb dX3_mostFromOne_33 (by decide) (fun c_3 => ?_) (fun c_3 => ?_)
              · have hf := kIt hf c_3
                have t_3 := ti_le c_3
                exact hk _ _ _ _ _  hP hD hS (lv_sub hl [1, 2, 3, 4] rfl) hf
              · have hf := kIf hf c_3
                have t_3 := ti_nle c_3
                refine lv_aload_n hx hb dX3_mostFromOne_36 rfl (lv_at hl 4 rfl) ?_
                refine va_get (D := D) (cl := vwCl) (ci := 2) (v := .ref b) (C := RX3) (T := TX3) (N := 3) hx hb hts inX3 hown hK.1 hP 0 rfl rfl 0 (by decide) hw2 (fun _ h => h) rfl dX3_mostFromOne_37 ?_
                refine lv_iload hx hb dX3_mostFromOne_40 (lv_at hl 0 rfl) ?_
                refine va_iald hx hb hK.1 hP 1 0 rfl rfl (by first | assumption | exact vin (by omega) (by omega) | omega) dX3_mostFromOne_42 ?_
                refine lv_iload hx hb dX3_mostFromOne_43 (lv_at hl 1 rfl) ?_
                refine kJn hf (fun j0 => ∀ (z62_3 : Int32) (z62_2 : Int32), f_X3_mostFromOne x1 i f g = j0 z62_3 z62_2 → ∀ (H : Heap) (locs : List Loc) (ls : Array Slot), va_P D vwCl (roW a b d ct i f g) H → va_D A (roW a b d ct i f g) → va_S A s.heap H locs → lv_has ls 6 [(5, .int z17_5), (4, .int z7_4), (3, .int z62_3), (2, .int z62_2), (0, .ref a)] → W p l e R s m args below meth c H locs 0 0 Q (F0 m 62 ls [])) ?_ ?_
                · intro j0 hj0 z62_3 z62_2  hf H locs ls hP hD hS hl
                  subst hj0
                  obtain ⟨y62, ey62⟩ : ∃ y : Int32, y = z17_5 + (1 : Int32) := ⟨_, rfl⟩
                  have hf := kLt hf ey62
                  have a62 : Int32.toInt y62 = Int32.toInt z17_5 + 1 := by have := ti_rng z17_5; rw [ey62]; exact ti_add (by rw [kc1]) (by omega) (by omega)
                  refine lv_iinc (v := y62) (lv' := [(5, .int y62), (4, .int z7_4), (3, .int z62_3), (2, .int z62_2), (0, .ref a)]) hx hb dX3_mostFromOne_62 hl (k := 0) rfl (by rw [ey62]; rfl) (by decide) rfl (fun ls hl => ?_)
                  refine lv_goto (tgt := 17) hx hb dX3_mostFromOne_65 (by decide) ?_
                  exact ih y62 z62_3 z62_2 _ _ _ (by first | assumption | exact vin (by omega) (by omega) | omega) (by first | assumption | exact vin (by omega) (by omega) | omega) hP hD hS (lv_sub hl [0, 1, 2, 3, 4] rfl) hf
                · intro j62 hJ62 hf
                  refine lv_icmp_ne (tgt := 62) hx hb dX3_mostFromOne_45 (by decide) (fun c_4 => ?_) (fun c_4 => ?_)
                  · have hf := kIf hf c_4
                    have t_4 := ti_ne c_4
                    exact hJ62 _ _  hf _ _ _ hP hD hS (lv_sub hl [0, 1, 2, 3, 4] rfl)
                  · have hf := kIt hf c_4
                    have t_4 := ti_eq c_4
                    refine lv_iload hx hb dX3_mostFromOne_48 (lv_at hl 1 rfl) ?_
                    refine lv_iload_n hx hb dX3_mostFromOne_50 rfl (lv_at hl 3 rfl) ?_
                    refine lv_icmp_gt (tgt := 62) hx hb dX3_mostFromOne_51 (by decide) (fun c_5 => ?_) (fun c_5 => ?_)
                    · have hf := kIt hf c_5
                      have t_5 := ti_lt c_5
                      exact hJ62 _ _  hf _ _ _ hP hD hS (lv_sub hl [0, 1, 2, 3, 4] rfl)
                    · have hf := kIf hf c_5
                      have t_5 := ti_nlt c_5
                      refine lv_iload_n hx hb dX3_mostFromOne_54 rfl (lv_at hl 3 rfl) ?_
                      refine lv_iload hx hb dX3_mostFromOne_55 (lv_at hl 1 rfl) ?_
                      refine lv_isub hx hb dX3_mostFromOne_57 ?_
                      refine lv_topi (fun y58 ey58 => ?_)
                      have hf := kLt hf ey58
                      refine lv_istore_n (lv' := [(2, .int y58), (5, .int z17_5), (4, .int z7_4), (3, .int z17_3), (0, .ref a)]) hx hb dX3_mostFromOne_58 rfl hl (by decide) rfl (fun ls hl => ?_)
                      obtain ⟨y59, ey59⟩ : ∃ y : Int32, y = z17_3 + (1 : Int32) := ⟨_, rfl⟩
                      have hf := kLt hf ey59
                      refine lv_iinc (v := y59) (lv' := [(3, .int y59), (2, .int y58), (5, .int z17_5), (4, .int z7_4), (0, .ref a)]) hx hb dX3_mostFromOne_59 hl (k := 3) rfl (by rw [ey59]; rfl) (by decide) rfl (fun ls hl => ?_)
                      exact hJ62 _ _  hf _ _ _ hP hD hS (lv_sub hl [2, 3, 0, 1, 4] rfl)
        refine lp17 _ (fun w17_3 w17_2  H locs ls  hP hD hS hl hf => ?_) (9) (0 : Int32) z7_3 z7_2  _ _ _ (by first | assumption | exact vin (by omega) (by omega) | omega) (by first | assumption | exact vin (by omega) (by omega) | omega) hP hD hS (lv_sub hl [0, 1, 2, 3, 4] rfl) hf
        obtain ⟨y68, ey68⟩ : ∃ y : Int32, y = z7_4 + (1 : Int32) := ⟨_, rfl⟩
        have hf := kLt hf ey68
        have a68 : Int32.toInt y68 = Int32.toInt z7_4 + 1 := by have := ti_rng z7_4; rw [ey68]; exact ti_add (by rw [kc1]) (by omega) (by omega)
        refine lv_iinc (v := y68) (lv' := [(4, .int y68), (3, .int w17_3), (2, .int w17_2), (0, .ref a)]) hx hb dX3_mostFromOne_68 hl (k := 0) rfl (by rw [ey68]; rfl) (by decide) rfl (fun ls hl => ?_)
        refine lv_goto (tgt := 7) hx hb dX3_mostFromOne_71 (by decide) ?_
        exact ih y68 w17_3 w17_2 _ _ _ (by first | assumption | exact vin (by omega) (by omega) | omega) hP hD hS (lv_sub hl [0, 1, 2, 3] rfl) hf
  refine lp7 _ (fun w7_3  H locs ls  hP hD hS hl hf => ?_) (9) (1 : Int32) (0 : Int32) x1  _ _ _ (by first | assumption | exact vin (by omega) (by omega) | omega) hP hD hS (lv_sub hl [0, 1, 2, 3] rfl) hf
  refine lv_iload_n hx hb dX3_mostFromOne_74 rfl (lv_at hl 0 rfl) ?_
  exact kRetI hx hb hr hlk hP hD hS hf.symm rfl hQ dX3_mostFromOne_75
