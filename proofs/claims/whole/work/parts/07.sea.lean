/-! contracts, laid by program (wip/whole/gen.py, ann.py) -/
theorem kyX4_takeOver : kY yX4_takeOver cX4_takeOver 3 none wsX4_takeOver wsX4_takeOver.tail 1 := ⟨rfl, by decide, by decide, by decide +kernel⟩
set_option maxHeartbeats 4000000 in
set_option maxRecDepth 100000 in
theorem k_X4_takeOver (l : Launch) (D : va_G) (ct : ClassId × ClassId × ClassId) (z : Nat × Nat) (a : Nat) (b : Nat) (a2 : Nat) (b2 : Nat) (lo : Nat → Int64) (i : Nat → Int32) (f : Nat → Int32) (lo2 : Nat → Int64) (i2 : Nat → Int32) (f2 : Nat → Int32)  : kC l D ct z yX4_takeOver wsX4_takeOver 0 0 [.ref a, .ref a2] (seW2 a b a2 b2 ct lo i f lo2 i2 f2) (none) (seW2 a b a2 b2 ct ((f_X4_takeOver lo i f lo2 i2 f2).1) ((f_X4_takeOver lo i f lo2 i2 f2).2.1) ((f_X4_takeOver lo i f lo2 i2 f2).2.2) lo2 i2 f2) := by
  refine kHead (cc := cX4_takeOver) (maxL := 3) (ret := none) [(0, .ref a), (1, .ref a2)] (by decide) rfl (Nat.le_of_ble_eq_true rfl) rfl ?_
  intro p e s m args below meth c A ls R Q hRf hRl hQ hx hb hr hlk hml hown hts hA hS hK hP hD hl
  have inX4 : ∀ w ∈ wsX40, w ∈ wsX4_takeOver := fun w h => (List.mem_cons_of_mem _ (List.mem_append_right _ h))
  have hw1 := hts (Cond.fieldLink RX4 9 "MastPulpits$Sea" "lands" "J") (List.mem_of_getElem? (i := 1) (by decide +kernel))
  have hw2 := hts (Cond.fieldLink RX4 15 "MastPulpits$Sea" "shipCell" "I") (List.mem_of_getElem? (i := 2) (by decide +kernel))
  have hw3 := hts (Cond.fieldLink RX4 19 "MastPulpits$Sea" "shipHull" "I") (List.mem_of_getElem? (i := 3) (by decide +kernel))
  have hw4 := hts (Cond.fieldLink RX4 22 "MastPulpits$Sea" "up" "I") (List.mem_of_getElem? (i := 4) (by decide +kernel))
  have hw5 := hts (Cond.fieldLink RX4 25 "MastPulpits$Sea" "hoursUp" "I") (List.mem_of_getElem? (i := 5) (by decide +kernel))
  have hw6 := hts (Cond.fieldLink RX4 28 "MastPulpits$Sea" "fogNow" "I") (List.mem_of_getElem? (i := 6) (by decide +kernel))
  have hw7 := hts (Cond.fieldLink RX4 31 "MastPulpits$Sea" "hourNow" "I") (List.mem_of_getElem? (i := 7) (by decide +kernel))
  have hw8 := hts (Cond.fieldLink RX4 34 "MastPulpits$Sea" "sights" "I") (List.mem_of_getElem? (i := 8) (by decide +kernel))
  have hw9 := hts (Cond.fieldLink RX4 41 "MastPulpits$Sea" "fitting" "J") (List.mem_of_getElem? (i := 9) (by decide +kernel))
  have hw10 := hts (Cond.fieldLink RX4 44 "MastPulpits$Sea" "eyes" "[I") (List.mem_of_getElem? (i := 10) (by decide +kernel))
  have kc0 : (0 : Int32).toInt = 0 := by decide
  have kc1 : (1 : Int32).toInt = 1 := by decide
  have kc6 : (6 : Int32).toInt = 6 := by decide
  have hf : f_X4_takeOver lo i f lo2 i2 f2 = f_X4_takeOver lo i f lo2 i2 f2 := rfl
  refine lv_aload_n hx hb dX4_takeOver_0 rfl (lv_at hl 0 rfl) ?_
  refine lv_aload_n hx hb dX4_takeOver_1 rfl (lv_at hl 1 rfl) ?_
  refine va_get (D := D) (cl := vwCl) (ci := 3) (v := .long (lo2 0)) (C := RX4) (T := TX4) (N := 10) hx hb hts inX4 hown hK.1 hP 2 rfl rfl 0 (by decide) hw1 (fun _ h => h) rfl dX4_takeOver_2 ?_
  refine lv_topl (fun y5 ey5 => ?_)
  have hf := kLt hf ey5
  refine kPut (ci := 3) (C := RX4) (T := TX4) (N := 10) (ty := .long) (v := .long y5) (W1 := seW2 a b a2 b2 ct (u1 lo 0 y5) i f lo2 i2 f2) hx hb hts inX4 tyX4 tyX4_ok nmX4 hown hK hP hD hS 0 rfl rfl 0 (by decide) hw1 (fun _ h => h) rfl (by decide +kernel) rfl rfl (Nat.le_of_ble_eq_true rfl) rfl dX4_takeOver_5 (fun H locs hP hD hS => ?_)
  refine lv_aload_n hx hb dX4_takeOver_8 rfl (lv_at hl 0 rfl) ?_
  refine lv_aload_n hx hb dX4_takeOver_9 rfl (lv_at hl 1 rfl) ?_
  refine va_get (D := D) (cl := vwCl) (ci := 3) (v := .int (i2 1)) (C := RX4) (T := TX4) (N := 10) hx hb hts inX4 hown hK.1 hP 2 rfl rfl 1 (by decide) hw2 (fun _ h => h) rfl dX4_takeOver_10 ?_
  refine lv_topi (fun y13 ey13 => ?_)
  have hf := kLt hf ey13
  refine kPut (ci := 3) (C := RX4) (T := TX4) (N := 10) (ty := .int) (v := .int y13) (W1 := seW2 a b a2 b2 ct (u1 lo 0 y5) (u1 i 1 y13) f lo2 i2 f2) hx hb hts inX4 tyX4 tyX4_ok nmX4 hown hK hP hD hS 0 rfl rfl 1 (by decide) hw2 (fun _ h => h) rfl (by decide +kernel) rfl rfl (Nat.le_of_ble_eq_true rfl) rfl dX4_takeOver_13 (fun H locs hP hD hS => ?_)
  refine lv_aload_n hx hb dX4_takeOver_16 rfl (lv_at hl 0 rfl) ?_
  refine lv_aload_n hx hb dX4_takeOver_17 rfl (lv_at hl 1 rfl) ?_
  refine va_get (D := D) (cl := vwCl) (ci := 3) (v := .int (i2 2)) (C := RX4) (T := TX4) (N := 10) hx hb hts inX4 hown hK.1 hP 2 rfl rfl 2 (by decide) hw3 (fun _ h => h) rfl dX4_takeOver_18 ?_
  refine lv_topi (fun y21 ey21 => ?_)
  have hf := kLt hf ey21
  refine kPut (ci := 3) (C := RX4) (T := TX4) (N := 10) (ty := .int) (v := .int y21) (W1 := seW2 a b a2 b2 ct (u1 lo 0 y5) (u1 (u1 i 1 y13) 2 y21) f lo2 i2 f2) hx hb hts inX4 tyX4 tyX4_ok nmX4 hown hK hP hD hS 0 rfl rfl 2 (by decide) hw3 (fun _ h => h) rfl (by decide +kernel) rfl rfl (Nat.le_of_ble_eq_true rfl) rfl dX4_takeOver_21 (fun H locs hP hD hS => ?_)
  refine lv_aload_n hx hb dX4_takeOver_24 rfl (lv_at hl 0 rfl) ?_
  refine lv_aload_n hx hb dX4_takeOver_25 rfl (lv_at hl 1 rfl) ?_
  refine va_get (D := D) (cl := vwCl) (ci := 3) (v := .int (i2 3)) (C := RX4) (T := TX4) (N := 10) hx hb hts inX4 hown hK.1 hP 2 rfl rfl 3 (by decide) hw4 (fun _ h => h) rfl dX4_takeOver_26 ?_
  refine lv_topi (fun y29 ey29 => ?_)
  have hf := kLt hf ey29
  refine kPut (ci := 3) (C := RX4) (T := TX4) (N := 10) (ty := .int) (v := .int y29) (W1 := seW2 a b a2 b2 ct (u1 lo 0 y5) (u1 (u1 (u1 i 1 y13) 2 y21) 3 y29) f lo2 i2 f2) hx hb hts inX4 tyX4 tyX4_ok nmX4 hown hK hP hD hS 0 rfl rfl 3 (by decide) hw4 (fun _ h => h) rfl (by decide +kernel) rfl rfl (Nat.le_of_ble_eq_true rfl) rfl dX4_takeOver_29 (fun H locs hP hD hS => ?_)
  refine lv_aload_n hx hb dX4_takeOver_32 rfl (lv_at hl 0 rfl) ?_
  refine lv_aload_n hx hb dX4_takeOver_33 rfl (lv_at hl 1 rfl) ?_
  refine va_get (D := D) (cl := vwCl) (ci := 3) (v := .int (i2 4)) (C := RX4) (T := TX4) (N := 10) hx hb hts inX4 hown hK.1 hP 2 rfl rfl 4 (by decide) hw5 (fun _ h => h) rfl dX4_takeOver_34 ?_
  refine lv_topi (fun y37 ey37 => ?_)
  have hf := kLt hf ey37
  refine kPut (ci := 3) (C := RX4) (T := TX4) (N := 10) (ty := .int) (v := .int y37) (W1 := seW2 a b a2 b2 ct (u1 lo 0 y5) (u1 (u1 (u1 (u1 i 1 y13) 2 y21) 3 y29) 4 y37) f lo2 i2 f2) hx hb hts inX4 tyX4 tyX4_ok nmX4 hown hK hP hD hS 0 rfl rfl 4 (by decide) hw5 (fun _ h => h) rfl (by decide +kernel) rfl rfl (Nat.le_of_ble_eq_true rfl) rfl dX4_takeOver_37 (fun H locs hP hD hS => ?_)
  refine lv_aload_n hx hb dX4_takeOver_40 rfl (lv_at hl 0 rfl) ?_
  refine lv_aload_n hx hb dX4_takeOver_41 rfl (lv_at hl 1 rfl) ?_
  refine va_get (D := D) (cl := vwCl) (ci := 3) (v := .int (i2 5)) (C := RX4) (T := TX4) (N := 10) hx hb hts inX4 hown hK.1 hP 2 rfl rfl 5 (by decide) hw6 (fun _ h => h) rfl dX4_takeOver_42 ?_
  refine lv_topi (fun y45 ey45 => ?_)
  have hf := kLt hf ey45
  refine kPut (ci := 3) (C := RX4) (T := TX4) (N := 10) (ty := .int) (v := .int y45) (W1 := seW2 a b a2 b2 ct (u1 lo 0 y5) (u1 (u1 (u1 (u1 (u1 i 1 y13) 2 y21) 3 y29) 4 y37) 5 y45) f lo2 i2 f2) hx hb hts inX4 tyX4 tyX4_ok nmX4 hown hK hP hD hS 0 rfl rfl 5 (by decide) hw6 (fun _ h => h) rfl (by decide +kernel) rfl rfl (Nat.le_of_ble_eq_true rfl) rfl dX4_takeOver_45 (fun H locs hP hD hS => ?_)
  refine lv_aload_n hx hb dX4_takeOver_48 rfl (lv_at hl 0 rfl) ?_
  refine lv_aload_n hx hb dX4_takeOver_49 rfl (lv_at hl 1 rfl) ?_
  refine va_get (D := D) (cl := vwCl) (ci := 3) (v := .int (i2 6)) (C := RX4) (T := TX4) (N := 10) hx hb hts inX4 hown hK.1 hP 2 rfl rfl 6 (by decide) hw7 (fun _ h => h) rfl dX4_takeOver_50 ?_
  refine lv_topi (fun y53 ey53 => ?_)
  have hf := kLt hf ey53
  refine kPut (ci := 3) (C := RX4) (T := TX4) (N := 10) (ty := .int) (v := .int y53) (W1 := seW2 a b a2 b2 ct (u1 lo 0 y5) (u1 (u1 (u1 (u1 (u1 (u1 i 1 y13) 2 y21) 3 y29) 4 y37) 5 y45) 6 y53) f lo2 i2 f2) hx hb hts inX4 tyX4 tyX4_ok nmX4 hown hK hP hD hS 0 rfl rfl 6 (by decide) hw7 (fun _ h => h) rfl (by decide +kernel) rfl rfl (Nat.le_of_ble_eq_true rfl) rfl dX4_takeOver_53 (fun H locs hP hD hS => ?_)
  refine lv_aload_n hx hb dX4_takeOver_56 rfl (lv_at hl 0 rfl) ?_
  refine lv_aload_n hx hb dX4_takeOver_57 rfl (lv_at hl 1 rfl) ?_
  refine va_get (D := D) (cl := vwCl) (ci := 3) (v := .int (i2 7)) (C := RX4) (T := TX4) (N := 10) hx hb hts inX4 hown hK.1 hP 2 rfl rfl 7 (by decide) hw8 (fun _ h => h) rfl dX4_takeOver_58 ?_
  refine lv_topi (fun y61 ey61 => ?_)
  have hf := kLt hf ey61
  refine kPut (ci := 3) (C := RX4) (T := TX4) (N := 10) (ty := .int) (v := .int y61) (W1 := seW2 a b a2 b2 ct (u1 lo 0 y5) (u1 (u1 (u1 (u1 (u1 (u1 (u1 i 1 y13) 2 y21) 3 y29) 4 y37) 5 y45) 6 y53) 7 y61) f lo2 i2 f2) hx hb hts inX4 tyX4 tyX4_ok nmX4 hown hK hP hD hS 0 rfl rfl 7 (by decide) hw8 (fun _ h => h) rfl (by decide +kernel) rfl rfl (Nat.le_of_ble_eq_true rfl) rfl dX4_takeOver_61 (fun H locs hP hD hS => ?_)
  refine lv_aload_n hx hb dX4_takeOver_64 rfl (lv_at hl 0 rfl) ?_
  refine lv_aload_n hx hb dX4_takeOver_65 rfl (lv_at hl 1 rfl) ?_
  refine va_get (D := D) (cl := vwCl) (ci := 3) (v := .long (lo2 8)) (C := RX4) (T := TX4) (N := 10) hx hb hts inX4 hown hK.1 hP 2 rfl rfl 8 (by decide) hw9 (fun _ h => h) rfl dX4_takeOver_66 ?_
  refine lv_topl (fun y69 ey69 => ?_)
  have hf := kLt hf ey69
  refine kPut (ci := 3) (C := RX4) (T := TX4) (N := 10) (ty := .long) (v := .long y69) (W1 := seW2 a b a2 b2 ct (u1 (u1 lo 0 y5) 8 y69) (u1 (u1 (u1 (u1 (u1 (u1 (u1 i 1 y13) 2 y21) 3 y29) 4 y37) 5 y45) 6 y53) 7 y61) f lo2 i2 f2) hx hb hts inX4 tyX4 tyX4_ok nmX4 hown hK hP hD hS 0 rfl rfl 8 (by decide) hw9 (fun _ h => h) rfl (by decide +kernel) rfl rfl (Nat.le_of_ble_eq_true rfl) rfl dX4_takeOver_69 (fun H locs hP hD hS => ?_)
  refine lv_iconst (v := (0 : Int32)) hx hb dX4_takeOver_72 (by decide) ?_
  refine lv_istore_n (lv' := [(2, .int (0 : Int32)), (0, .ref a), (1, .ref a2)]) hx hb dX4_takeOver_73 rfl hl (by decide) rfl (fun ls hl => ?_)
  have lp74 : ∀ (K : (Nat → Int32) → ((Nat → Int64) × (Nat → Int32) × (Nat → Int32))), (∀ (z74_f : Nat → Int32), ∀ (H : Heap) (locs : List Loc) (ls : Array Slot), va_P D vwCl (seW2 a b a2 b2 ct (u1 (u1 lo 0 y5) 8 y69) (u1 (u1 (u1 (u1 (u1 (u1 (u1 i 1 y13) 2 y21) 3 y29) 4 y37) 5 y45) 6 y53) 7 y61) z74_f lo2 i2 f2) H → va_D A (seW2 a b a2 b2 ct (u1 (u1 lo 0 y5) 8 y69) (u1 (u1 (u1 (u1 (u1 (u1 (u1 i 1 y13) 2 y21) 3 y29) 4 y37) 5 y45) 6 y53) 7 y61) z74_f lo2 i2 f2) → va_S A s.heap H locs → lv_has ls 3 [] → f_X4_takeOver lo i f lo2 i2 f2 = K z74_f → W p l e R s m args below meth c H locs 0 0 Q (F0 m 110 ls [])) → ∀ (n : Nat) (z74_2 : Int32) (z74_f : Nat → Int32), ∀ (H : Heap) (locs : List Loc) (ls : Array Slot), (6 ≤ Int32.toInt z74_2 + (n : Int)) → (0 ≤ Int32.toInt z74_2) → va_P D vwCl (seW2 a b a2 b2 ct (u1 (u1 lo 0 y5) 8 y69) (u1 (u1 (u1 (u1 (u1 (u1 (u1 i 1 y13) 2 y21) 3 y29) 4 y37) 5 y45) 6 y53) 7 y61) z74_f lo2 i2 f2) H → va_D A (seW2 a b a2 b2 ct (u1 (u1 lo 0 y5) 8 y69) (u1 (u1 (u1 (u1 (u1 (u1 (u1 i 1 y13) 2 y21) 3 y29) 4 y37) 5 y45) 6 y53) 7 y61) z74_f lo2 i2 f2) → va_S A s.heap H locs → lv_has ls 3 [(2, .int z74_2), (0, .ref a), (1, .ref a2)] → f_X4_takeOver lo i f lo2 i2 f2 = f_X4_takeOver_L74 f2 K n z74_2 z74_f → W p l e R s m args below meth c H locs 0 0 Q (F0 m 74 ls []) := by
    intro K hk n
    induction n with
    | zero =>
      intro z74_2 z74_f  H locs ls hn74 hz74 hP hD hS hl hf
      refine lv_iload_n hx hb dX4_takeOver_74 rfl (lv_at hl 0 rfl) ?_
      refine lv_aload_n hx hb dX4_takeOver_75 rfl (lv_at hl 1 rfl) ?_
      refine va_get (D := D) (cl := vwCl) (ci := 3) (v := .ref b) (C := RX4) (T := TX4) (N := 10) hx hb hts inX4 hown hK.1 hP 0 rfl rfl 9 (by decide) hw10 (fun _ h => h) rfl dX4_takeOver_76 ?_
      refine va_alen (v := (6 : Int32)) hx hb hK.1 hP 1 0 rfl rfl rfl dX4_takeOver_79 ?_
      refine lv_icmp_ge (tgt := 110) hx hb dX4_takeOver_80 (by decide) (fun c_3 => ?_) (fun c_3 => ?_)
      · have t_3 := ti_le c_3
        exact hk _ _ _ _  hP hD hS (lv_sub hl [] rfl) hf
      · have t_3 := ti_nle c_3
        exfalso
        omega
    | succ n ih =>
      intro z74_2 z74_f  H locs ls hn74 hz74 hP hD hS hl hf
      refine lv_iload_n hx hb dX4_takeOver_74 rfl (lv_at hl 0 rfl) ?_
      refine lv_aload_n hx hb dX4_takeOver_75 rfl (lv_at hl 1 rfl) ?_
      refine va_get (D := D) (cl := vwCl) (ci := 3) (v := .ref b) (C := RX4) (T := TX4) (N := 10) hx hb hts inX4 hown hK.1 hP 0 rfl rfl 9 (by decide) hw10 (fun _ h => h) rfl dX4_takeOver_76 ?_
      refine va_alen (v := (6 : Int32)) hx hb hK.1 hP 1 0 rfl rfl rfl dX4_takeOver_79 ?_
      refine lv_icmp_ge (tgt := 110) hx hb dX4_takeOver_80 (by decide) (fun c_1 => ?_) (fun c_1 => ?_)
      · have hf := kIt hf c_1
        have t_1 := ti_le c_1
        exact hk _ _ _ _  hP hD hS (lv_sub hl [] rfl) hf
      · have hf := kIf hf c_1
        have t_1 := ti_nle c_1
        refine lv_iload_n hx hb dX4_takeOver_83 rfl (lv_at hl 0 rfl) ?_
        refine lv_aload_n hx hb dX4_takeOver_84 rfl (lv_at hl 2 rfl) ?_
        refine va_get (D := D) (cl := vwCl) (ci := 3) (v := .ref b2) (C := RX4) (T := TX4) (N := 10) hx hb hts inX4 hown hK.1 hP 2 rfl rfl 9 (by decide) hw10 (fun _ h => h) rfl dX4_takeOver_85 ?_
        refine va_alen (v := (6 : Int32)) hx hb hK.1 hP 3 0 rfl rfl rfl dX4_takeOver_88 ?_
        refine lv_icmp_ge (tgt := 110) hx hb dX4_takeOver_89 (by decide) (fun c_2 => ?_) (fun c_2 => ?_)
        · have hf := kIt hf c_2
          have t_2 := ti_le c_2
          exact hk _ _ _ _  hP hD hS (lv_sub hl [] rfl) hf
        · have hf := kIf hf c_2
          have t_2 := ti_nle c_2
          refine lv_aload_n hx hb dX4_takeOver_92 rfl (lv_at hl 1 rfl) ?_
          refine va_get (D := D) (cl := vwCl) (ci := 3) (v := .ref b) (C := RX4) (T := TX4) (N := 10) hx hb hts inX4 hown hK.1 hP 0 rfl rfl 9 (by decide) hw10 (fun _ h => h) rfl dX4_takeOver_93 ?_
          refine lv_iload_n hx hb dX4_takeOver_96 rfl (lv_at hl 0 rfl) ?_
          refine lv_aload_n hx hb dX4_takeOver_97 rfl (lv_at hl 2 rfl) ?_
          refine va_get (D := D) (cl := vwCl) (ci := 3) (v := .ref b2) (C := RX4) (T := TX4) (N := 10) hx hb hts inX4 hown hK.1 hP 2 rfl rfl 9 (by decide) hw10 (fun _ h => h) rfl dX4_takeOver_98 ?_
          refine lv_iload_n hx hb dX4_takeOver_101 rfl (lv_at hl 0 rfl) ?_
          refine va_iald hx hb hK.1 hP 3 0 rfl rfl (by first | assumption | exact vin (by omega) (by omega) | omega) dX4_takeOver_102 ?_
          refine lv_topi (fun y103 ey103 => ?_)
          have hf := kLt hf ey103
          refine kIast (W1 := seW2 a b a2 b2 ct (u1 (u1 lo 0 y5) 8 y69) (u1 (u1 (u1 (u1 (u1 (u1 (u1 i 1 y13) 2 y21) 3 y29) 4 y37) 5 y45) 6 y53) 7 y61) (u1 z74_f ((Int32.toNatClampNeg z74_2)) y103) lo2 i2 f2) hx hb hK hP hD hS 1 rfl (by first | assumption | exact vin (by omega) (by omega) | omega) rfl dX4_takeOver_103 (fun H locs hP hD hS => ?_)
          obtain ⟨y104, ey104⟩ : ∃ y : Int32, y = z74_2 + (1 : Int32) := ⟨_, rfl⟩
          have hf := kLt hf ey104
          have a104 : Int32.toInt y104 = Int32.toInt z74_2 + 1 := by have := ti_rng z74_2; rw [ey104]; exact ti_add (by rw [kc1]) (by omega) (by omega)
          refine lv_iinc (v := y104) (lv' := [(2, .int y104), (0, .ref a), (1, .ref a2)]) hx hb dX4_takeOver_104 hl (k := 0) rfl (by rw [ey104]; rfl) (by decide) rfl (fun ls hl => ?_)
          refine lv_goto (tgt := 74) hx hb dX4_takeOver_107 (by decide) ?_
          exact ih y104 (u1 z74_f ((Int32.toNatClampNeg z74_2)) y103) _ _ _ (by first | assumption | exact vin (by omega) (by omega) | omega) (by first | assumption | exact vin (by omega) (by omega) | omega) hP hD hS (lv_sub hl [0, 1, 2] rfl) hf
  refine lp74 _ (fun w74_f  H locs ls  hP hD hS hl hf => ?_) (6) (0 : Int32) f  _ _ _ (by first | assumption | exact vin (by omega) (by omega) | omega) (by first | assumption | exact vin (by omega) (by omega) | omega) hP hD hS (lv_sub hl [0, 1, 2] rfl) hf
  exact kRetV hx hb hr hlk hP hD hS ((congrArg (fun q => seW2 a b a2 b2 ct q.1 q.2.1 q.2.2 lo2 i2 f2) hf).symm) hQ dX4_takeOver_110
theorem kyX4_isLand : kY yX4_isLand cX4_isLand 2 (some .boolean) wsX4_isLand wsX4_isLand.tail 1 := ⟨rfl, by decide, by decide, by decide +kernel⟩
set_option maxHeartbeats 4000000 in
set_option maxRecDepth 100000 in
theorem k_X4_isLand (l : Launch) (D : va_G) (ct : ClassId × ClassId × ClassId) (z : Nat × Nat) (a : Nat) (b : Nat) (x1 : Int32) (lo : Nat → Int64) (i : Nat → Int32) (f : Nat → Int32)  : kC l D ct z yX4_isLand wsX4_isLand 1 22 [.ref a, .int x1] (seW a b ct lo i f) (some (.int (f_X4_isLand x1 lo i f))) (seW a b ct lo i f) := by
  refine kHead (cc := cX4_isLand) (maxL := 2) (ret := (some .boolean)) [(0, .ref a), (1, .int x1)] (by decide) rfl (Nat.le_of_ble_eq_true rfl) rfl ?_
  intro p e s m args below meth c A ls R Q hRf hRl hQ hx hb hr hlk hml hown hts hA hS hK hP hD hl
  have inX4 : ∀ w ∈ wsX40, w ∈ wsX4_isLand := fun w h => (List.mem_cons_of_mem _ (List.mem_append_right _ h))
  have hw1 := hts (Cond.fieldLink RX4 9 "MastPulpits$Sea" "lands" "J") (List.mem_of_getElem? (i := 1) (by decide +kernel))
  have kc0 : (0 : Int32).toInt = 0 := by decide
  have hf : f_X4_isLand x1 lo i f = f_X4_isLand x1 lo i f := rfl
  refine lv_aload_n hx hb dX4_isLand_0 rfl (lv_at hl 0 rfl) ?_
  refine va_get (D := D) (cl := vwCl) (ci := 3) (v := .long (lo 0)) (C := RX4) (T := TX4) (N := 10) hx hb hts inX4 hown hK.1 hP 0 rfl rfl 0 (by decide) hw1 (fun _ h => h) rfl dX4_isLand_1 ?_
  refine lv_iload_n hx hb dX4_isLand_4 rfl (lv_at hl 1 rfl) ?_
  have hM : kC l D ct z yX0_holds wsX0_holds 0 0 [.long (lo 0), .int x1] ([]) (some (.int (f_X0_holds (lo 0) x1))) ([]) := k_X0_holds l D ct z (lo 0) x1
  refine kS0 (As := [.long (lo 0), .int x1]) (rest := []) ⟨hx, hb, hml, hown, hts⟩ hM gX4_isLand_X0_holds kyX0_holds (by rw [hRf, hRl]; exact ⟨Nat.le_of_ble_eq_true rfl, Nat.le_of_ble_eq_true rfl⟩) hK hP hD hS hA rfl hl.1 rfl (st1 := [.int (f_X0_holds (lo 0) x1)]) rfl rfl ⟨Nat.zero_le _, Nat.zero_le _⟩ dX4_isLand_5 (fun H locs hP hD hS => ?_)
  exact kRetZ hx hb hr hlk hP hD hS (z_X0_holds (lo 0) x1) hf.symm rfl hQ dX4_isLand_8
theorem kyX4_isWatcher : kY yX4_isWatcher cX4_isWatcher 2 (some .boolean) wsX4_isWatcher wsX4_isWatcher.tail 1 := ⟨rfl, by decide, by decide, by decide +kernel⟩
set_option maxHeartbeats 4000000 in
set_option maxRecDepth 100000 in
theorem k_X4_isWatcher (l : Launch) (D : va_G) (ct : ClassId × ClassId × ClassId) (z : Nat × Nat) (a : Nat) (b : Nat) (x1 : Int32) (lo : Nat → Int64) (i : Nat → Int32) (f : Nat → Int32)  : kC l D ct z yX4_isWatcher wsX4_isWatcher 0 0 [.ref a, .int x1] (seW a b ct lo i f) (some (.int (f_X4_isWatcher x1 lo i f))) (seW a b ct lo i f) := by
  refine kHead (cc := cX4_isWatcher) (maxL := 2) (ret := (some .boolean)) [(0, .ref a), (1, .int x1)] (by decide) rfl (Nat.le_of_ble_eq_true rfl) rfl ?_
  intro p e s m args below meth c A ls R Q hRf hRl hQ hx hb hr hlk hml hown hts hA hS hK hP hD hl
  have inX4 : ∀ w ∈ wsX40, w ∈ wsX4_isWatcher := fun w h => (List.mem_cons_of_mem _ (List.mem_append_right _ h))
  have hw1 := hts (Cond.fieldLink RX4 44 "MastPulpits$Sea" "eyes" "[I") (List.mem_of_getElem? (i := 1) (by decide +kernel))
  have kc0 : (0 : Int32).toInt = 0 := by decide
  have kc1 : (1 : Int32).toInt = 1 := by decide
  have kc6 : (6 : Int32).toInt = 6 := by decide
  have hf : f_X4_isWatcher x1 lo i f = f_X4_isWatcher x1 lo i f := rfl
  refine lv_iload_n hx hb dX4_isWatcher_0 rfl (lv_at hl 1 rfl) ?_
  refine lv_if_lt (tgt := 17) hx hb dX4_isWatcher_1 (by decide) (fun c_1 => ?_) (fun c_1 => ?_)
  · have hf := kIt hf c_1
    have t_1 := ti_lt c_1
    refine lv_iconst (v := (0 : Int32)) hx hb dX4_isWatcher_17 (by decide) ?_
    exact kRetZ hx hb hr hlk hP hD hS (Or.inl rfl) hf.symm rfl hQ dX4_isWatcher_18
  · have hf := kIf hf c_1
    have t_1 := ti_nlt c_1
    refine lv_iload_n hx hb dX4_isWatcher_4 rfl (lv_at hl 1 rfl) ?_
    refine lv_aload_n hx hb dX4_isWatcher_5 rfl (lv_at hl 0 rfl) ?_
    refine va_get (D := D) (cl := vwCl) (ci := 3) (v := .ref b) (C := RX4) (T := TX4) (N := 10) hx hb hts inX4 hown hK.1 hP 0 rfl rfl 9 (by decide) hw1 (fun _ h => h) rfl dX4_isWatcher_6 ?_
    refine va_alen (v := (6 : Int32)) hx hb hK.1 hP 1 0 rfl rfl rfl dX4_isWatcher_9 ?_
    refine lv_icmp_ge (tgt := 17) hx hb dX4_isWatcher_10 (by decide) (fun c_2 => ?_) (fun c_2 => ?_)
    · have hf := kIt hf c_2
      have t_2 := ti_le c_2
      refine lv_iconst (v := (0 : Int32)) hx hb dX4_isWatcher_17 (by decide) ?_
      exact kRetZ hx hb hr hlk hP hD hS (Or.inl rfl) hf.symm rfl hQ dX4_isWatcher_18
    · have hf := kIf hf c_2
      have t_2 := ti_nle c_2
      refine lv_iconst (v := (1 : Int32)) hx hb dX4_isWatcher_13 (by decide) ?_
      refine lv_goto (tgt := 18) hx hb dX4_isWatcher_14 (by decide) ?_
      exact kRetZ hx hb hr hlk hP hD hS (Or.inr rfl) hf.symm rfl hQ dX4_isWatcher_18
theorem kyX4_eyesOf : kY yX4_eyesOf cX4_eyesOf 2 (some .int) wsX4_eyesOf wsX4_eyesOf.tail 1 := ⟨rfl, by decide, by decide, by decide +kernel⟩
set_option maxHeartbeats 4000000 in
set_option maxRecDepth 100000 in
theorem k_X4_eyesOf (l : Launch) (D : va_G) (ct : ClassId × ClassId × ClassId) (z : Nat × Nat) (a : Nat) (b : Nat) (x1 : Int32) (lo : Nat → Int64) (i : Nat → Int32) (f : Nat → Int32)  : kC l D ct z yX4_eyesOf wsX4_eyesOf 0 0 [.ref a, .int x1] (seW a b ct lo i f) (some (.int (f_X4_eyesOf x1 lo i f))) (seW a b ct lo i f) := by
  refine kHead (cc := cX4_eyesOf) (maxL := 2) (ret := (some .int)) [(0, .ref a), (1, .int x1)] (by decide) rfl (Nat.le_of_ble_eq_true rfl) rfl ?_
  intro p e s m args below meth c A ls R Q hRf hRl hQ hx hb hr hlk hml hown hts hA hS hK hP hD hl
  have inX4 : ∀ w ∈ wsX40, w ∈ wsX4_eyesOf := fun w h => (List.mem_cons_of_mem _ (List.mem_append_right _ h))
  have hw1 := hts (Cond.fieldLink RX4 44 "MastPulpits$Sea" "eyes" "[I") (List.mem_of_getElem? (i := 1) (by decide +kernel))
  have kc0 : (0 : Int32).toInt = 0 := by decide
  have kc6 : (6 : Int32).toInt = 6 := by decide
  have hf : f_X4_eyesOf x1 lo i f = f_X4_eyesOf x1 lo i f := rfl
  refine lv_iload_n hx hb dX4_eyesOf_0 rfl (lv_at hl 1 rfl) ?_
  refine lv_if_lt (tgt := 22) hx hb dX4_eyesOf_1 (by decide) (fun c_1 => ?_) (fun c_1 => ?_)
  · have hf := kIt hf c_1
    have t_1 := ti_lt c_1
    refine lv_iconst (v := (0 : Int32)) hx hb dX4_eyesOf_22 (by decide) ?_
    exact kRetI hx hb hr hlk hP hD hS hf.symm rfl hQ dX4_eyesOf_23
  · have hf := kIf hf c_1
    have t_1 := ti_nlt c_1
    refine lv_iload_n hx hb dX4_eyesOf_4 rfl (lv_at hl 1 rfl) ?_
    refine lv_aload_n hx hb dX4_eyesOf_5 rfl (lv_at hl 0 rfl) ?_
    refine va_get (D := D) (cl := vwCl) (ci := 3) (v := .ref b) (C := RX4) (T := TX4) (N := 10) hx hb hts inX4 hown hK.1 hP 0 rfl rfl 9 (by decide) hw1 (fun _ h => h) rfl dX4_eyesOf_6 ?_
    refine va_alen (v := (6 : Int32)) hx hb hK.1 hP 1 0 rfl rfl rfl dX4_eyesOf_9 ?_
    refine lv_icmp_ge (tgt := 22) hx hb dX4_eyesOf_10 (by decide) (fun c_2 => ?_) (fun c_2 => ?_)
    · have hf := kIt hf c_2
      have t_2 := ti_le c_2
      refine lv_iconst (v := (0 : Int32)) hx hb dX4_eyesOf_22 (by decide) ?_
      exact kRetI hx hb hr hlk hP hD hS hf.symm rfl hQ dX4_eyesOf_23
    · have hf := kIf hf c_2
      have t_2 := ti_nle c_2
      refine lv_aload_n hx hb dX4_eyesOf_13 rfl (lv_at hl 0 rfl) ?_
      refine va_get (D := D) (cl := vwCl) (ci := 3) (v := .ref b) (C := RX4) (T := TX4) (N := 10) hx hb hts inX4 hown hK.1 hP 0 rfl rfl 9 (by decide) hw1 (fun _ h => h) rfl dX4_eyesOf_14 ?_
      refine lv_iload_n hx hb dX4_eyesOf_17 rfl (lv_at hl 1 rfl) ?_
      refine va_iald hx hb hK.1 hP 1 0 rfl rfl (by first | assumption | exact vin (by omega) (by omega) | omega) dX4_eyesOf_18 ?_
      refine lv_goto (tgt := 23) hx hb dX4_eyesOf_19 (by decide) ?_
      exact kRetI hx hb hr hlk hP hD hS hf.symm rfl hQ dX4_eyesOf_23
theorem kyX4_giveEyes : kY yX4_giveEyes cX4_giveEyes 3 none wsX4_giveEyes wsX4_giveEyes.tail 2 := ⟨rfl, by decide, by decide, by decide +kernel⟩
set_option maxHeartbeats 4000000 in
set_option maxRecDepth 100000 in
theorem k_X4_giveEyes (l : Launch) (D : va_G) (ct : ClassId × ClassId × ClassId) (z : Nat × Nat) (a : Nat) (b : Nat) (x1 : Int32) (x2 : Int32) (lo : Nat → Int64) (i : Nat → Int32) (f : Nat → Int32)  : kC l D ct z yX4_giveEyes wsX4_giveEyes 0 0 [.ref a, .int x1, .int x2] (seW a b ct lo i f) (none) (seW a b ct lo i (f_X4_giveEyes x1 x2 lo i f)) := by
  refine kHead (cc := cX4_giveEyes) (maxL := 3) (ret := none) [(0, .ref a), (1, .int x1), (2, .int x2)] (by decide) rfl (Nat.le_of_ble_eq_true rfl) rfl ?_
  intro p e s m args below meth c A ls R Q hRf hRl hQ hx hb hr hlk hml hown hts hA hS hK hP hD hl
  have inX4 : ∀ w ∈ wsX40, w ∈ wsX4_giveEyes := fun w h => (List.mem_cons_of_mem _ (List.mem_append_right _ h))
  have hw1 := hts (Cond.fieldLink RX4 44 "MastPulpits$Sea" "eyes" "[I") (List.mem_of_getElem? (i := 1) (by decide +kernel))
  have kc0 : (0 : Int32).toInt = 0 := by decide
  have kc6 : (6 : Int32).toInt = 6 := by decide
  have hf : f_X4_giveEyes x1 x2 lo i f = f_X4_giveEyes x1 x2 lo i f := rfl
  refine lv_iload_n hx hb dX4_giveEyes_0 rfl (lv_at hl 1 rfl) ?_
  refine lv_if_lt (tgt := 20) hx hb dX4_giveEyes_1 (by decide) (fun c_1 => ?_) (fun c_1 => ?_)
  · have hf := kIt hf c_1
    have t_1 := ti_lt c_1
    exact kRetV hx hb hr hlk hP hD hS ((congrArg (fun q => seW a b ct lo i q) hf).symm) hQ dX4_giveEyes_20
  · have hf := kIf hf c_1
    have t_1 := ti_nlt c_1
    refine lv_iload_n hx hb dX4_giveEyes_4 rfl (lv_at hl 1 rfl) ?_
    refine lv_aload_n hx hb dX4_giveEyes_5 rfl (lv_at hl 0 rfl) ?_
    refine va_get (D := D) (cl := vwCl) (ci := 3) (v := .ref b) (C := RX4) (T := TX4) (N := 10) hx hb hts inX4 hown hK.1 hP 0 rfl rfl 9 (by decide) hw1 (fun _ h => h) rfl dX4_giveEyes_6 ?_
    refine va_alen (v := (6 : Int32)) hx hb hK.1 hP 1 0 rfl rfl rfl dX4_giveEyes_9 ?_
    refine lv_icmp_ge (tgt := 20) hx hb dX4_giveEyes_10 (by decide) (fun c_2 => ?_) (fun c_2 => ?_)
    · have hf := kIt hf c_2
      have t_2 := ti_le c_2
      exact kRetV hx hb hr hlk hP hD hS ((congrArg (fun q => seW a b ct lo i q) hf).symm) hQ dX4_giveEyes_20
    · have hf := kIf hf c_2
      have t_2 := ti_nle c_2
      refine lv_aload_n hx hb dX4_giveEyes_13 rfl (lv_at hl 0 rfl) ?_
      refine va_get (D := D) (cl := vwCl) (ci := 3) (v := .ref b) (C := RX4) (T := TX4) (N := 10) hx hb hts inX4 hown hK.1 hP 0 rfl rfl 9 (by decide) hw1 (fun _ h => h) rfl dX4_giveEyes_14 ?_
      refine lv_iload_n hx hb dX4_giveEyes_17 rfl (lv_at hl 1 rfl) ?_
      refine lv_iload_n hx hb dX4_giveEyes_18 rfl (lv_at hl 2 rfl) ?_
      refine kIast (W1 := seW a b ct lo i (u1 f ((Int32.toNatClampNeg x1)) x2)) hx hb hK hP hD hS 1 rfl (by first | assumption | exact vin (by omega) (by omega) | omega) rfl dX4_giveEyes_19 (fun H locs hP hD hS => ?_)
      exact kRetV hx hb hr hlk hP hD hS ((congrArg (fun q => seW a b ct lo i q) hf).symm) hQ dX4_giveEyes_20
theorem kyX4_glass : kY yX4_glass cX4_glass 3 (some .int) wsX4_glass wsX4_glass.tail 0 := ⟨rfl, by decide, by decide, by decide +kernel⟩
set_option maxHeartbeats 4000000 in
set_option maxRecDepth 100000 in
theorem k_X4_glass (l : Launch) (D : va_G) (ct : ClassId × ClassId × ClassId) (z : Nat × Nat) (a : Nat) (b : Nat) (lo : Nat → Int64) (i : Nat → Int32) (f : Nat → Int32)  : kC l D ct z yX4_glass wsX4_glass 1 21 [.ref a] (seW a b ct lo i f) (some (.int (f_X4_glass lo i f))) (seW a b ct lo i f) := by
  refine kHead (cc := cX4_glass) (maxL := 3) (ret := (some .int)) [(0, .ref a)] (by decide) rfl (Nat.le_of_ble_eq_true rfl) rfl ?_
  intro p e s m args below meth c A ls R Q hRf hRl hQ hx hb hr hlk hml hown hts hA hS hK hP hD hl
  have inX4 : ∀ w ∈ wsX40, w ∈ wsX4_glass := fun w h => (List.mem_cons_of_mem _ (List.mem_append_right _ h))
  have hw1 := hts (Cond.fieldLink RX4 22 "MastPulpits$Sea" "up" "I") (List.mem_of_getElem? (i := 1) (by decide +kernel))
  have hw2 := hts (Cond.fieldLink RX4 44 "MastPulpits$Sea" "eyes" "[I") (List.mem_of_getElem? (i := 2) (by decide +kernel))
  have hw3 := hts (Cond.fieldLink RX4 28 "MastPulpits$Sea" "fogNow" "I") (List.mem_of_getElem? (i := 3) (by decide +kernel))
  have hw4 := hts (Cond.methodLink RX4 52 Lib.Math.max.name) (List.mem_of_getElem? (i := 4) (by decide +kernel))
  have hw5 := hts (Cond.static Lib.Math.max.name) (List.mem_of_getElem? (i := 5) (by decide +kernel))
  have hw6 := hts (Cond.initialized "java/lang/Math") (List.mem_of_getElem? (i := 6) (by decide +kernel))
  have hw7 := hts (Cond.code Lib.Math.max.name Lib.Math.max.code 2 (some .int)) (List.mem_of_getElem? (i := 7) (by decide +kernel))
  have hw8 := hts (Cond.fieldLink RX4 25 "MastPulpits$Sea" "hoursUp" "I") (List.mem_of_getElem? (i := 8) (by decide +kernel))
  have kc0 : (0 : Int32).toInt = 0 := by decide
  have kc2 : (2 : Int32).toInt = 2 := by decide
  have kc6 : (6 : Int32).toInt = 6 := by decide
  have hf : f_X4_glass lo i f = f_X4_glass lo i f := rfl
  refine lv_aload_n hx hb dX4_glass_0 rfl (lv_at hl 0 rfl) ?_
  refine va_get (D := D) (cl := vwCl) (ci := 3) (v := .int (i 3)) (C := RX4) (T := TX4) (N := 10) hx hb hts inX4 hown hK.1 hP 0 rfl rfl 3 (by decide) hw1 (fun _ h => h) rfl dX4_glass_1 ?_
  refine kJn hf (fun j0 => ∀ (z32_s0 : Int32), f_X4_glass lo i f = j0 z32_s0 → ∀ (H : Heap) (locs : List Loc) (ls : Array Slot), va_P D vwCl (seW a b ct lo i f) H → va_D A (seW a b ct lo i f) → va_S A s.heap H locs → lv_has ls 3 [(0, .ref a)] → W p l e R s m args below meth c H locs 0 0 Q (F0 m 32 ls [.int z32_s0])) ?_ ?_
  · intro j0 hj0 z32_s0  hf H locs ls hP hD hS hl
    subst hj0
    refine lv_istore_n (lv' := [(1, .int z32_s0), (0, .ref a)]) hx hb dX4_glass_32 rfl hl (by decide) rfl (fun ls hl => ?_)
    refine lv_iconst (v := (0 : Int32)) hx hb dX4_glass_33 (by decide) ?_
    refine lv_iload_n hx hb dX4_glass_34 rfl (lv_at hl 0 rfl) ?_
    refine lv_aload_n hx hb dX4_glass_35 rfl (lv_at hl 1 rfl) ?_
    refine va_get (D := D) (cl := vwCl) (ci := 3) (v := .int (i 5)) (C := RX4) (T := TX4) (N := 10) hx hb hts inX4 hown hK.1 hP 0 rfl rfl 5 (by decide) hw3 (fun _ h => h) rfl dX4_glass_36 ?_
    refine lv_isub hx hb dX4_glass_39 ?_
    refine kMax hx hb (hml.trans hl.1.symm) hown hw4 hw5 hw6 hw7 (by rw [hRf]; decide) (by rw [hRl]; exact Nat.le_of_ble_eq_true rfl) (Nat.zero_le _) (Nat.zero_le _) dX4_glass_40 ?_
    refine lv_topi (fun y43 ey43 => ?_)
    have hf := kLt hf ey43
    refine lv_istore_n (lv' := [(2, .int y43), (1, .int z32_s0), (0, .ref a)]) hx hb dX4_glass_43 rfl hl (by decide) rfl (fun ls hl => ?_)
    refine lv_aload_n hx hb dX4_glass_44 rfl (lv_at hl 2 rfl) ?_
    refine va_get (D := D) (cl := vwCl) (ci := 3) (v := .int (i 4)) (C := RX4) (T := TX4) (N := 10) hx hb hts inX4 hown hK.1 hP 0 rfl rfl 4 (by decide) hw8 (fun _ h => h) rfl dX4_glass_45 ?_
    refine lv_iconst (v := (2 : Int32)) hx hb dX4_glass_48 (by decide) ?_
    refine lv_icmp_le (tgt := 58) hx hb dX4_glass_49 (by decide) (fun c_2 => ?_) (fun c_2 => ?_)
    · have hf := kIt hf c_2
      have t_2 := ti_le c_2
      refine lv_iload_n hx hb dX4_glass_58 rfl (lv_at hl 0 rfl) ?_
      exact kRetI hx hb hr hlk hP hD hS hf.symm rfl hQ dX4_glass_59
    · have hf := kIf hf c_2
      have t_2 := ti_nle c_2
      refine lv_iload_n hx hb dX4_glass_52 rfl (lv_at hl 0 rfl) ?_
      refine lv_iconst (v := (2 : Int32)) hx hb dX4_glass_53 (by decide) ?_
      refine lv_idiv hx hb dX4_glass_54 (by decide) ?_
      refine lv_goto (tgt := 59) hx hb dX4_glass_55 (by decide) ?_
      exact kRetI hx hb hr hlk hP hD hS hf.symm rfl hQ dX4_glass_59
  · intro j32 hJ32 hf
    refine kJn hf (fun j0 => ∀ (u0 : Unit), f_X4_glass lo i f = j0 () → ∀ (H : Heap) (locs : List Loc) (ls : Array Slot), va_P D vwCl (seW a b ct lo i f) H → va_D A (seW a b ct lo i f) → va_S A s.heap H locs → lv_has ls 3 [(0, .ref a)] → W p l e R s m args below meth c H locs 0 0 Q (F0 m 31 ls [])) ?_ ?_
    · intro j0 hj0 u0  hf H locs ls hP hD hS hl
      subst hj0
      refine lv_iconst (v := (0 : Int32)) hx hb dX4_glass_31 (by decide) ?_
      exact hJ32 _  hf _ _ _ hP hD hS (lv_sub hl [0] rfl)
    · intro j31 hJ31 hf
      refine lv_if_lt (tgt := 31) hx hb dX4_glass_4 (by decide) (fun c_1 => ?_) (fun c_1 => ?_)
      · have hf := kIt hf c_1
        have t_1 := ti_lt c_1
        exact hJ31 ()  hf _ _ _ hP hD hS (lv_sub hl [0] rfl)
      · have hf := kIf hf c_1
        have t_1 := ti_nlt c_1
        refine lv_aload_n hx hb dX4_glass_7 rfl (lv_at hl 0 rfl) ?_
        refine va_get (D := D) (cl := vwCl) (ci := 3) (v := .int (i 3)) (C := RX4) (T := TX4) (N := 10) hx hb hts inX4 hown hK.1 hP 0 rfl rfl 3 (by decide) hw1 (fun _ h => h) rfl dX4_glass_8 ?_
        refine lv_aload_n hx hb dX4_glass_11 rfl (lv_at hl 0 rfl) ?_
        refine va_get (D := D) (cl := vwCl) (ci := 3) (v := .ref b) (C := RX4) (T := TX4) (N := 10) hx hb hts inX4 hown hK.1 hP 0 rfl rfl 9 (by decide) hw2 (fun _ h => h) rfl dX4_glass_12 ?_
        refine va_alen (v := (6 : Int32)) hx hb hK.1 hP 1 0 rfl rfl rfl dX4_glass_15 ?_
        refine lv_icmp_ge (tgt := 31) hx hb dX4_glass_16 (by decide) (fun c_3 => ?_) (fun c_3 => ?_)
        · have hf := kIt hf c_3
          have t_3 := ti_le c_3
          exact hJ31 ()  hf _ _ _ hP hD hS (lv_sub hl [0] rfl)
        · have hf := kIf hf c_3
          have t_3 := ti_nle c_3
          refine lv_aload_n hx hb dX4_glass_19 rfl (lv_at hl 0 rfl) ?_
          refine va_get (D := D) (cl := vwCl) (ci := 3) (v := .ref b) (C := RX4) (T := TX4) (N := 10) hx hb hts inX4 hown hK.1 hP 0 rfl rfl 9 (by decide) hw2 (fun _ h => h) rfl dX4_glass_20 ?_
          refine lv_aload_n hx hb dX4_glass_23 rfl (lv_at hl 0 rfl) ?_
          refine va_get (D := D) (cl := vwCl) (ci := 3) (v := .int (i 3)) (C := RX4) (T := TX4) (N := 10) hx hb hts inX4 hown hK.1 hP 0 rfl rfl 3 (by decide) hw1 (fun _ h => h) rfl dX4_glass_24 ?_
          refine va_iald hx hb hK.1 hP 1 0 rfl rfl (by first | assumption | exact vin (by omega) (by omega) | omega) dX4_glass_27 ?_
          refine lv_goto (tgt := 32) hx hb dX4_glass_28 (by decide) ?_
          exact hJ32 _  hf _ _ _ hP hD hS (lv_sub hl [0] rfl)
theorem kyX4_sighted : kY yX4_sighted cX4_sighted 1 (some .long) wsX4_sighted wsX4_sighted.tail 0 := ⟨rfl, by decide, by decide, by decide +kernel⟩
set_option maxHeartbeats 4000000 in
set_option maxRecDepth 100000 in
theorem k_X4_sighted (l : Launch) (D : va_G) (ct : ClassId × ClassId × ClassId) (z : Nat × Nat) (a : Nat) (b : Nat) (lo : Nat → Int64) (i : Nat → Int32) (f : Nat → Int32)  : kC l D ct z yX4_sighted wsX4_sighted 2 52 [.ref a] (seW a b ct lo i f) (some (.long (f_X4_sighted lo i f))) (seW a b ct lo i f) := by
  refine kHead (cc := cX4_sighted) (maxL := 1) (ret := (some .long)) [(0, .ref a)] (by decide) rfl (Nat.le_of_ble_eq_true rfl) rfl ?_
  intro p e s m args below meth c A ls R Q hRf hRl hQ hx hb hr hlk hml hown hts hA hS hK hP hD hl
  have inX4 : ∀ w ∈ wsX40, w ∈ wsX4_sighted := fun w h => (List.mem_cons_of_mem _ (List.mem_append_right _ h))
  have hw1 := hts (Cond.fieldLink RX4 22 "MastPulpits$Sea" "up" "I") (List.mem_of_getElem? (i := 1) (by decide +kernel))
  have hw2 := hts (Cond.fieldLink RX4 9 "MastPulpits$Sea" "lands" "J") (List.mem_of_getElem? (i := 2) (by decide +kernel))
  have hw3 := hts (Cond.fieldLink RX4 15 "MastPulpits$Sea" "shipCell" "I") (List.mem_of_getElem? (i := 3) (by decide +kernel))
  have kcm6 : (-6 : Int32).toInt = -6 := by decide
  have kc0 : (0 : Int32).toInt = 0 := by decide
  have kl0 : (0 : Int64).toInt = 0 := by decide
  have hf : f_X4_sighted lo i f = f_X4_sighted lo i f := rfl
  refine lv_aload_n hx hb dX4_sighted_0 rfl (lv_at hl 0 rfl) ?_
  refine va_get (D := D) (cl := vwCl) (ci := 3) (v := .int (i 3)) (C := RX4) (T := TX4) (N := 10) hx hb hts inX4 hown hK.1 hP 0 rfl rfl 3 (by decide) hw1 (fun _ h => h) rfl dX4_sighted_1 ?_
  refine lv_bipush (v := (-6 : Int32)) hx hb dX4_sighted_4 (by decide) ?_
  refine lv_icmp_ne (tgt := 13) hx hb dX4_sighted_6 (by decide) (fun c_1 => ?_) (fun c_1 => ?_)
  · have hf := kIf hf c_1
    have t_1 := ti_ne c_1
    refine lv_aload_n hx hb dX4_sighted_13 rfl (lv_at hl 0 rfl) ?_
    refine va_get (D := D) (cl := vwCl) (ci := 3) (v := .long (lo 0)) (C := RX4) (T := TX4) (N := 10) hx hb hts inX4 hown hK.1 hP 0 rfl rfl 0 (by decide) hw2 (fun _ h => h) rfl dX4_sighted_14 ?_
    refine lv_aload_n hx hb dX4_sighted_17 rfl (lv_at hl 0 rfl) ?_
    refine va_get (D := D) (cl := vwCl) (ci := 3) (v := .int (i 1)) (C := RX4) (T := TX4) (N := 10) hx hb hts inX4 hown hK.1 hP 0 rfl rfl 1 (by decide) hw3 (fun _ h => h) rfl dX4_sighted_18 ?_
    refine lv_aload_n hx hb dX4_sighted_21 rfl (lv_at hl 0 rfl) ?_
    have hM : kC l D ct z yX4_glass wsX4_glass 1 21 [.ref a] (seW a b ct lo i f) (some (.int (f_X4_glass lo i f))) (seW a b ct lo i f) := k_X4_glass l D ct z a b lo i f
    refine kV1 (As := []) (rest := [.int (i 1), .long (lo 0)]) ⟨hx, hb, hml, hown, hts⟩ hM gX4_sighted_X4_glass kyX4_glass (by rw [hRf, hRl]; exact ⟨Nat.le_of_ble_eq_true rfl, Nat.le_of_ble_eq_true rfl⟩) hK hP hD hS hA 0 rfl rfl rfl rfl hl.1 rfl (st1 := [.int (f_X4_glass lo i f), .int (i 1), .long (lo 0)]) rfl rfl ⟨Nat.zero_le _, Nat.zero_le _⟩ dX4_sighted_22 (fun H locs hP hD hS => ?_)
    have hM : kC l D ct z yX0_around wsX0_around 1 21 [.int (i 1), .int (f_X4_glass lo i f)] ([]) (some (.long (f_X0_around (i 1) (f_X4_glass lo i f)))) ([]) := k_X0_around l D ct z (i 1) (f_X4_glass lo i f)
    refine kS0 (As := [.int (i 1), .int (f_X4_glass lo i f)]) (rest := [.long (lo 0)]) ⟨hx, hb, hml, hown, hts⟩ hM gX4_sighted_X0_around kyX0_around (by rw [hRf, hRl]; exact ⟨Nat.le_of_ble_eq_true rfl, Nat.le_of_ble_eq_true rfl⟩) hK hP hD hS hA rfl hl.1 rfl (st1 := [.long (f_X0_around (i 1) (f_X4_glass lo i f)), .long (lo 0)]) rfl rfl ⟨Nat.zero_le _, Nat.zero_le _⟩ dX4_sighted_25 (fun H locs hP hD hS => ?_)
    refine lv_land hx hb dX4_sighted_28 ?_
    exact kRetL hx hb hr hlk hP hD hS hf.symm rfl hQ dX4_sighted_29
  · have hf := kIt hf c_1
    have t_1 := ti_eq c_1
    refine lv_lconst (v := (0 : Int64)) hx hb dX4_sighted_9 (by decide) ?_
    refine lv_goto (tgt := 29) hx hb dX4_sighted_10 (by decide) ?_
    exact kRetL hx hb hr hlk hP hD hS hf.symm rfl hQ dX4_sighted_29
theorem kyX4_nearestFar : kY yX4_nearestFar cX4_nearestFar 4 (some .int) wsX4_nearestFar wsX4_nearestFar.tail 0 := ⟨rfl, by decide, by decide, by decide +kernel⟩
set_option maxHeartbeats 4000000 in
set_option maxRecDepth 100000 in
theorem k_X4_nearestFar (l : Launch) (D : va_G) (ct : ClassId × ClassId × ClassId) (z : Nat × Nat) (a : Nat) (b : Nat) (lo : Nat → Int64) (i : Nat → Int32) (f : Nat → Int32)  : kC l D ct z yX4_nearestFar wsX4_nearestFar 3 72 [.ref a] (seW a b ct lo i f) (some (.int (f_X4_nearestFar lo i f))) (seW a b ct lo i f) := by
  refine kHead (cc := cX4_nearestFar) (maxL := 4) (ret := (some .int)) [(0, .ref a)] (by decide) rfl (Nat.le_of_ble_eq_true rfl) rfl ?_
  intro p e s m args below meth c A ls R Q hRf hRl hQ hx hb hr hlk hml hown hts hA hS hK hP hD hl
  have inX4 : ∀ w ∈ wsX40, w ∈ wsX4_nearestFar := fun w h => (List.mem_cons_of_mem _ (List.mem_append_right _ h))
  have hw1 := hts (Cond.fieldLink RX4 15 "MastPulpits$Sea" "shipCell" "I") (List.mem_of_getElem? (i := 1) (by decide +kernel))
  have kcm6 : (-6 : Int32).toInt = -6 := by decide
  have kc0 : (0 : Int32).toInt = 0 := by decide
  have kc1 : (1 : Int32).toInt = 1 := by decide
  have kc8 : (8 : Int32).toInt = 8 := by decide
  have kl0 : (0 : Int64).toInt = 0 := by decide
  have hf : f_X4_nearestFar lo i f = f_X4_nearestFar lo i f := rfl
  refine lv_aload_n hx hb dX4_nearestFar_0 rfl (lv_at hl 0 rfl) ?_
  have hM : kC l D ct z yX4_sighted wsX4_sighted 2 52 [.ref a] (seW a b ct lo i f) (some (.long (f_X4_sighted lo i f))) (seW a b ct lo i f) := k_X4_sighted l D ct z a b lo i f
  refine kV1 (As := []) (rest := []) ⟨hx, hb, hml, hown, hts⟩ hM gX4_nearestFar_X4_sighted kyX4_sighted (by rw [hRf, hRl]; exact ⟨Nat.le_of_ble_eq_true rfl, Nat.le_of_ble_eq_true rfl⟩) hK hP hD hS hA 0 rfl rfl rfl rfl hl.1 rfl (st1 := [.long (f_X4_sighted lo i f)]) rfl rfl ⟨Nat.zero_le _, Nat.zero_le _⟩ dX4_nearestFar_1 (fun H locs hP hD hS => ?_)
  refine lv_topl (fun y4 ey4 => ?_)
  have hf := kLt hf ey4
  refine lv_lstore_n (lv' := [(1, .long y4), (0, .ref a)]) hx hb dX4_nearestFar_4 rfl hl (by decide) rfl (fun ls hl => ?_)
  refine lv_iconst (v := (1 : Int32)) hx hb dX4_nearestFar_5 (by decide) ?_
  refine lv_istore_n (lv' := [(3, .int (1 : Int32)), (1, .long y4), (0, .ref a)]) hx hb dX4_nearestFar_6 rfl hl (by decide) rfl (fun ls hl => ?_)
  have lp7 : ∀ (K : Unit → Int32), (∀ (H : Heap) (locs : List Loc) (ls : Array Slot), va_P D vwCl (seW a b ct lo i f) H → va_D A (seW a b ct lo i f) → va_S A s.heap H locs → lv_has ls 4 [] → f_X4_nearestFar lo i f = K () → W p l e R s m args below meth c H locs 0 0 Q (F0 m 36 ls [])) → ∀ (n : Nat) (z7_3 : Int32), ∀ (H : Heap) (locs : List Loc) (ls : Array Slot), (8 ≤ Int32.toInt z7_3 + (n : Int)) → va_P D vwCl (seW a b ct lo i f) H → va_D A (seW a b ct lo i f) → va_S A s.heap H locs → lv_has ls 4 [(3, .int z7_3), (1, .long y4), (0, .ref a)] → f_X4_nearestFar lo i f = f_X4_nearestFar_L7 i y4 K n z7_3 → W p l e R s m args below meth c H locs 0 0 Q (F0 m 7 ls []) := by
    intro K hk n
    induction n with
    | zero =>
      intro z7_3  H locs ls hn7 hP hD hS hl hf
      refine lv_iload_n hx hb dX4_nearestFar_7 rfl (lv_at hl 0 rfl) ?_
      refine lv_bipush (v := (8 : Int32)) hx hb dX4_nearestFar_8 (by decide) ?_
      refine lv_icmp_ge (tgt := 36) hx hb dX4_nearestFar_10 (by decide) (fun c_3 => ?_) (fun c_3 => ?_)
      · have t_3 := ti_le c_3
        exact hk  _ _ _  hP hD hS (lv_sub hl [] rfl) hf
      · have t_3 := ti_nle c_3
        exfalso
        omega
    | succ n ih =>
      intro z7_3  H locs ls hn7 hP hD hS hl hf
      refine lv_iload_n hx hb dX4_nearestFar_7 rfl (lv_at hl 0 rfl) ?_
      refine lv_bipush (v := (8 : Int32)) hx hb dX4_nearestFar_8 (by decide) ?_
      refine lv_icmp_ge (tgt := 36) hx hb dX4_nearestFar_10 (by decide) (fun c_1 => ?_) (fun c_1 => ?_)
      · have hf := kIt hf c_1
        have t_1 := ti_le c_1
        exact hk  _ _ _  hP hD hS (lv_sub hl [] rfl) hf
      · have hf := kIf hf c_1
        have t_1 := ti_nle c_1
        refine lv_lload_n hx hb dX4_nearestFar_13 rfl (lv_at hl 1 rfl) ?_
        refine lv_aload_n hx hb dX4_nearestFar_14 rfl (lv_at hl 2 rfl) ?_
        refine va_get (D := D) (cl := vwCl) (ci := 3) (v := .int (i 1)) (C := RX4) (T := TX4) (N := 10) hx hb hts inX4 hown hK.1 hP 0 rfl rfl 1 (by decide) hw1 (fun _ h => h) rfl dX4_nearestFar_15 ?_
        refine lv_iload_n hx hb dX4_nearestFar_18 rfl (lv_at hl 0 rfl) ?_
        have hM : kC l D ct z yX0_around wsX0_around 1 21 [.int (i 1), .int z7_3] ([]) (some (.long (f_X0_around (i 1) z7_3))) ([]) := k_X0_around l D ct z (i 1) z7_3
        refine kS0 (As := [.int (i 1), .int z7_3]) (rest := [.long y4]) ⟨hx, hb, hml, hown, hts⟩ hM gX4_nearestFar_X0_around kyX0_around (by rw [hRf, hRl]; exact ⟨Nat.le_of_ble_eq_true rfl, Nat.le_of_ble_eq_true rfl⟩) hK hP hD hS hA rfl hl.1 rfl (st1 := [.long (f_X0_around (i 1) z7_3), .long y4]) rfl rfl ⟨Nat.zero_le _, Nat.zero_le _⟩ dX4_nearestFar_19 (fun H locs hP hD hS => ?_)
        refine lv_land hx hb dX4_nearestFar_22 ?_
        refine lv_lconst (v := (0 : Int64)) hx hb dX4_nearestFar_23 (by decide) ?_
        refine W.lcmp hx hb dX4_nearestFar_24 ?_
        refine lv_if_eq (tgt := 30) hx hb dX4_nearestFar_25 (by decide) (fun c_2 => ?_) (fun c_2 => ?_)
        · have hf := kIt hf c_2
          have t_2 := ti_eq c_2
          obtain ⟨y30, ey30⟩ : ∃ y : Int32, y = z7_3 + (1 : Int32) := ⟨_, rfl⟩
          have hf := kLt hf ey30
          have a30 : Int32.toInt y30 = Int32.toInt z7_3 + 1 := by have := ti_rng z7_3; rw [ey30]; exact ti_add (by rw [kc1]) (by omega) (by omega)
          refine lv_iinc (v := y30) (lv' := [(3, .int y30), (1, .long y4), (0, .ref a)]) hx hb dX4_nearestFar_30 hl (k := 0) rfl (by rw [ey30]; rfl) (by decide) rfl (fun ls hl => ?_)
          refine lv_goto (tgt := 7) hx hb dX4_nearestFar_33 (by decide) ?_
          exact ih y30 _ _ _ (by first | assumption | exact vin (by omega) (by omega) | omega) hP hD hS (lv_sub hl [0, 1, 2] rfl) hf
        · have hf := kIf hf c_2
          have t_2 := ti_ne c_2
          refine lv_iload_n hx hb dX4_nearestFar_28 rfl (lv_at hl 0 rfl) ?_
          exact kRetI hx hb hr hlk hP hD hS hf.symm rfl hQ dX4_nearestFar_29
  refine lp7 _ (fun   H locs ls  hP hD hS hl hf => ?_) (7) (1 : Int32)  _ _ _ (by first | assumption | exact vin (by omega) (by omega) | omega) hP hD hS (lv_sub hl [0, 1, 2] rfl) hf
  refine lv_bipush (v := (-6 : Int32)) hx hb dX4_nearestFar_36 (by decide) ?_
  exact kRetI hx hb hr hlk hP hD hS hf.symm rfl hQ dX4_nearestFar_38
theorem kyX4_nearestLand : kY yX4_nearestLand cX4_nearestLand 2 (some .int) wsX4_nearestLand wsX4_nearestLand.tail 0 := ⟨rfl, by decide, by decide, by decide +kernel⟩
set_option maxHeartbeats 4000000 in
set_option maxRecDepth 100000 in
theorem k_X4_nearestLand (l : Launch) (D : va_G) (ct : ClassId × ClassId × ClassId) (z : Nat × Nat) (a : Nat) (b : Nat) (lo : Nat → Int64) (i : Nat → Int32) (f : Nat → Int32)  : kC l D ct z yX4_nearestLand wsX4_nearestLand 4 95 [.ref a] (seW a b ct lo i f) (some (.int (f_X4_nearestLand lo i f))) (seW a b ct lo i f) := by
  refine kHead (cc := cX4_nearestLand) (maxL := 2) (ret := (some .int)) [(0, .ref a)] (by decide) rfl (Nat.le_of_ble_eq_true rfl) rfl ?_
  intro p e s m args below meth c A ls R Q hRf hRl hQ hx hb hr hlk hml hown hts hA hS hK hP hD hl
  have inX4 : ∀ w ∈ wsX40, w ∈ wsX4_nearestLand := fun w h => (List.mem_cons_of_mem _ (List.mem_append_right _ h))
  have hw1 := hts (Cond.fieldLink RX4 15 "MastPulpits$Sea" "shipCell" "I") (List.mem_of_getElem? (i := 1) (by decide +kernel))
  have kcm6 : (-6 : Int32).toInt = -6 := by decide
  have kc0 : (0 : Int32).toInt = 0 := by decide
  have hf : f_X4_nearestLand lo i f = f_X4_nearestLand lo i f := rfl
  refine lv_aload_n hx hb dX4_nearestLand_0 rfl (lv_at hl 0 rfl) ?_
  have hM : kC l D ct z yX4_nearestFar wsX4_nearestFar 3 72 [.ref a] (seW a b ct lo i f) (some (.int (f_X4_nearestFar lo i f))) (seW a b ct lo i f) := k_X4_nearestFar l D ct z a b lo i f
  refine kV1 (As := []) (rest := []) ⟨hx, hb, hml, hown, hts⟩ hM gX4_nearestLand_X4_nearestFar kyX4_nearestFar (by rw [hRf, hRl]; exact ⟨Nat.le_of_ble_eq_true rfl, Nat.le_of_ble_eq_true rfl⟩) hK hP hD hS hA 0 rfl rfl rfl rfl hl.1 rfl (st1 := [.int (f_X4_nearestFar lo i f)]) rfl rfl ⟨Nat.zero_le _, Nat.zero_le _⟩ dX4_nearestLand_1 (fun H locs hP hD hS => ?_)
  refine lv_topi (fun y4 ey4 => ?_)
  have hf := kLt hf ey4
  refine lv_istore_n (lv' := [(1, .int y4), (0, .ref a)]) hx hb dX4_nearestLand_4 rfl hl (by decide) rfl (fun ls hl => ?_)
  refine lv_iload_n hx hb dX4_nearestLand_5 rfl (lv_at hl 0 rfl) ?_
  refine lv_bipush (v := (-6 : Int32)) hx hb dX4_nearestLand_6 (by decide) ?_
  refine lv_icmp_ne (tgt := 16) hx hb dX4_nearestLand_8 (by decide) (fun c_1 => ?_) (fun c_1 => ?_)
  · have hf := kIf hf c_1
    have t_1 := ti_ne c_1
    refine lv_aload_n hx hb dX4_nearestLand_16 rfl (lv_at hl 1 rfl) ?_
    have hM : kC l D ct z yX4_sighted wsX4_sighted 2 52 [.ref a] (seW a b ct lo i f) (some (.long (f_X4_sighted lo i f))) (seW a b ct lo i f) := k_X4_sighted l D ct z a b lo i f
    refine kV1 (As := []) (rest := []) ⟨hx, hb, hml, hown, hts⟩ hM gX4_nearestLand_X4_sighted kyX4_sighted (by rw [hRf, hRl]; exact ⟨Nat.le_of_ble_eq_true rfl, Nat.le_of_ble_eq_true rfl⟩) hK hP hD hS hA 0 rfl rfl rfl rfl hl.1 rfl (st1 := [.long (f_X4_sighted lo i f)]) rfl rfl ⟨Nat.zero_le _, Nat.zero_le _⟩ dX4_nearestLand_17 (fun H locs hP hD hS => ?_)
    refine lv_aload_n hx hb dX4_nearestLand_20 rfl (lv_at hl 1 rfl) ?_
    refine va_get (D := D) (cl := vwCl) (ci := 3) (v := .int (i 1)) (C := RX4) (T := TX4) (N := 10) hx hb hts inX4 hown hK.1 hP 0 rfl rfl 1 (by decide) hw1 (fun _ h => h) rfl dX4_nearestLand_21 ?_
    refine lv_iload_n hx hb dX4_nearestLand_24 rfl (lv_at hl 0 rfl) ?_
    have hM : kC l D ct z yX0_around wsX0_around 1 21 [.int (i 1), .int y4] ([]) (some (.long (f_X0_around (i 1) y4))) ([]) := k_X0_around l D ct z (i 1) y4
    refine kS0 (As := [.int (i 1), .int y4]) (rest := [.long (f_X4_sighted lo i f)]) ⟨hx, hb, hml, hown, hts⟩ hM gX4_nearestLand_X0_around kyX0_around (by rw [hRf, hRl]; exact ⟨Nat.le_of_ble_eq_true rfl, Nat.le_of_ble_eq_true rfl⟩) hK hP hD hS hA rfl hl.1 rfl (st1 := [.long (f_X0_around (i 1) y4), .long (f_X4_sighted lo i f)]) rfl rfl ⟨Nat.zero_le _, Nat.zero_le _⟩ dX4_nearestLand_25 (fun H locs hP hD hS => ?_)
    refine lv_land hx hb dX4_nearestLand_28 ?_
    have hM : kC l D ct z yX0_least wsX0_least 1 21 [.long ((f_X4_sighted lo i f) &&& (f_X0_around (i 1) y4))] ([]) (some (.int (f_X0_least ((f_X4_sighted lo i f) &&& (f_X0_around (i 1) y4))))) ([]) := k_X0_least l D ct z ((f_X4_sighted lo i f) &&& (f_X0_around (i 1) y4))
    refine kS0 (As := [.long ((f_X4_sighted lo i f) &&& (f_X0_around (i 1) y4))]) (rest := []) ⟨hx, hb, hml, hown, hts⟩ hM gX4_nearestLand_X0_least kyX0_least (by rw [hRf, hRl]; exact ⟨Nat.le_of_ble_eq_true rfl, Nat.le_of_ble_eq_true rfl⟩) hK hP hD hS hA rfl hl.1 rfl (st1 := [.int (f_X0_least ((f_X4_sighted lo i f) &&& (f_X0_around (i 1) y4)))]) rfl rfl ⟨Nat.zero_le _, Nat.zero_le _⟩ dX4_nearestLand_29 (fun H locs hP hD hS => ?_)
    exact kRetI hx hb hr hlk hP hD hS hf.symm rfl hQ dX4_nearestLand_32
  · have hf := kIt hf c_1
    have t_1 := ti_eq c_1
    refine lv_bipush (v := (-6 : Int32)) hx hb dX4_nearestLand_11 (by decide) ?_
    refine lv_goto (tgt := 32) hx hb dX4_nearestLand_13 (by decide) ?_
    exact kRetI hx hb hr hlk hP hD hS hf.symm rfl hQ dX4_nearestLand_32
theorem kyX4_reasonAgainstSailing : kY yX4_reasonAgainstSailing cX4_reasonAgainstSailing 2 (some .int) wsX4_reasonAgainstSailing wsX4_reasonAgainstSailing.tail 1 := ⟨rfl, by decide, by decide, by decide +kernel⟩
set_option maxHeartbeats 4000000 in
set_option maxRecDepth 100000 in
theorem k_X4_reasonAgainstSailing (l : Launch) (D : va_G) (ct : ClassId × ClassId × ClassId) (z : Nat × Nat) (a : Nat) (b : Nat) (x1 : Int32) (lo : Nat → Int64) (i : Nat → Int32) (f : Nat → Int32)  : kC l D ct z yX4_reasonAgainstSailing wsX4_reasonAgainstSailing 0 0 [.ref a, .int x1] (seW a b ct lo i f) (some (.int (f_X4_reasonAgainstSailing x1 lo i f))) (seW a b ct lo i f) := by
  refine kHead (cc := cX4_reasonAgainstSailing) (maxL := 2) (ret := (some .int)) [(0, .ref a), (1, .int x1)] (by decide) rfl (Nat.le_of_ble_eq_true rfl) rfl ?_
  intro p e s m args below meth c A ls R Q hRf hRl hQ hx hb hr hlk hml hown hts hA hS hK hP hD hl
  have inX4 : ∀ w ∈ wsX40, w ∈ wsX4_reasonAgainstSailing := fun w h => (List.mem_cons_of_mem _ (List.mem_append_right _ h))
  have hw1 := hts (Cond.fieldLink RX4 22 "MastPulpits$Sea" "up" "I") (List.mem_of_getElem? (i := 1) (by decide +kernel))
  have hw2 := hts (Cond.fieldLink RX4 19 "MastPulpits$Sea" "shipHull" "I") (List.mem_of_getElem? (i := 2) (by decide +kernel))
  have kcm6 : (-6 : Int32).toInt = -6 := by decide
  have kc0 : (0 : Int32).toInt = 0 := by decide
  have kc2 : (2 : Int32).toInt = 2 := by decide
  have kc3 : (3 : Int32).toInt = 3 := by decide
  have kc4 : (4 : Int32).toInt = 4 := by decide
  have hf : f_X4_reasonAgainstSailing x1 lo i f = f_X4_reasonAgainstSailing x1 lo i f := rfl
  refine lv_aload_n hx hb dX4_reasonAgainstSailing_0 rfl (lv_at hl 0 rfl) ?_
  refine va_get (D := D) (cl := vwCl) (ci := 3) (v := .int (i 3)) (C := RX4) (T := TX4) (N := 10) hx hb hts inX4 hown hK.1 hP 0 rfl rfl 3 (by decide) hw1 (fun _ h => h) rfl dX4_reasonAgainstSailing_1 ?_
  refine lv_bipush (v := (-6 : Int32)) hx hb dX4_reasonAgainstSailing_4 (by decide) ?_
  refine lv_icmp_ne (tgt := 11) hx hb dX4_reasonAgainstSailing_6 (by decide) (fun c_1 => ?_) (fun c_1 => ?_)
  · have hf := kIf hf c_1
    have t_1 := ti_ne c_1
    refine lv_aload_n hx hb dX4_reasonAgainstSailing_11 rfl (lv_at hl 0 rfl) ?_
    refine va_get (D := D) (cl := vwCl) (ci := 3) (v := .int (i 2)) (C := RX4) (T := TX4) (N := 10) hx hb hts inX4 hown hK.1 hP 0 rfl rfl 2 (by decide) hw2 (fun _ h => h) rfl dX4_reasonAgainstSailing_12 ?_
    refine lv_if_gt (tgt := 20) hx hb dX4_reasonAgainstSailing_15 (by decide) (fun c_2 => ?_) (fun c_2 => ?_)
    · have hf := kIt hf c_2
      have t_2 := ti_lt c_2
      refine lv_iload_n hx hb dX4_reasonAgainstSailing_20 rfl (lv_at hl 1 rfl) ?_
      refine lv_bipush (v := (-6 : Int32)) hx hb dX4_reasonAgainstSailing_21 (by decide) ?_
      refine lv_icmp_ne (tgt := 30) hx hb dX4_reasonAgainstSailing_23 (by decide) (fun c_3 => ?_) (fun c_3 => ?_)
      · have hf := kIf hf c_3
        have t_3 := ti_ne c_3
        refine lv_bipush (v := (-6 : Int32)) hx hb dX4_reasonAgainstSailing_30 (by decide) ?_
        exact kRetI hx hb hr hlk hP hD hS hf.symm rfl hQ dX4_reasonAgainstSailing_32
      · have hf := kIt hf c_3
        have t_3 := ti_eq c_3
        refine lv_iconst (v := (4 : Int32)) hx hb dX4_reasonAgainstSailing_26 (by decide) ?_
        refine lv_goto (tgt := 32) hx hb dX4_reasonAgainstSailing_27 (by decide) ?_
        exact kRetI hx hb hr hlk hP hD hS hf.symm rfl hQ dX4_reasonAgainstSailing_32
    · have hf := kIf hf c_2
      have t_2 := ti_nlt c_2
      refine lv_iconst (v := (3 : Int32)) hx hb dX4_reasonAgainstSailing_18 (by decide) ?_
      exact kRetI hx hb hr hlk hP hD hS hf.symm rfl hQ dX4_reasonAgainstSailing_19
  · have hf := kIt hf c_1
    have t_1 := ti_eq c_1
    refine lv_iconst (v := (2 : Int32)) hx hb dX4_reasonAgainstSailing_9 (by decide) ?_
    exact kRetI hx hb hr hlk hP hD hS hf.symm rfl hQ dX4_reasonAgainstSailing_10
theorem kyX4_reasonAgainst : kY yX4_reasonAgainst cX4_reasonAgainst 4 (some .int) wsX4_reasonAgainst wsX4_reasonAgainst.tail 3 := ⟨rfl, by decide, by decide, by decide +kernel⟩
set_option maxHeartbeats 4000000 in
set_option maxRecDepth 100000 in
theorem k_X4_reasonAgainst (l : Launch) (D : va_G) (ct : ClassId × ClassId × ClassId) (z : Nat × Nat) (a : Nat) (b : Nat) (x1 : Int32) (x2 : Int32) (x3 : Int32) (lo : Nat → Int64) (i : Nat → Int32) (f : Nat → Int32)  : kC l D ct z yX4_reasonAgainst wsX4_reasonAgainst 1 21 [.ref a, .int x1, .int x2, .int x3] (seW a b ct lo i f) (some (.int (f_X4_reasonAgainst x1 x2 x3 lo i f))) (seW a b ct lo i f) := by
  refine kHead (cc := cX4_reasonAgainst) (maxL := 4) (ret := (some .int)) [(0, .ref a), (1, .int x1), (2, .int x2), (3, .int x3)] (by decide) rfl (Nat.le_of_ble_eq_true rfl) rfl ?_
  intro p e s m args below meth c A ls R Q hRf hRl hQ hx hb hr hlk hml hown hts hA hS hK hP hD hl
  have inX4 : ∀ w ∈ wsX40, w ∈ wsX4_reasonAgainst := fun w h => (List.mem_cons_of_mem _ (List.mem_append_right _ h))
  have hw1 := hts (Cond.fieldLink RX4 22 "MastPulpits$Sea" "up" "I") (List.mem_of_getElem? (i := 1) (by decide +kernel))
  have hw2 := hts (Cond.fieldLink RX4 28 "MastPulpits$Sea" "fogNow" "I") (List.mem_of_getElem? (i := 2) (by decide +kernel))
  have hw3 := hts (Cond.fieldLink RX4 31 "MastPulpits$Sea" "hourNow" "I") (List.mem_of_getElem? (i := 3) (by decide +kernel))
  have kcm6 : (-6 : Int32).toInt = -6 := by decide
  have kc0 : (0 : Int32).toInt = 0 := by decide
  have kc1 : (1 : Int32).toInt = 1 := by decide
  have kc2 : (2 : Int32).toInt = 2 := by decide
  have kc5 : (5 : Int32).toInt = 5 := by decide
  have kc6 : (6 : Int32).toInt = 6 := by decide
  have kc99 : (99 : Int32).toInt = 99 := by decide
  have hf : f_X4_reasonAgainst x1 x2 x3 lo i f = f_X4_reasonAgainst x1 x2 x3 lo i f := rfl
  refine lv_iload_n hx hb dX4_reasonAgainst_0 rfl (lv_at hl 1 rfl) ?_
  have kv_1 : (0 : Int32).toInt = 0 := by decide
  refine (Classical.em (x1 = (0 : Int32))).elim (fun c_1 => ?_) (fun c_1 => ?_)
  · have hf := kIt hf c_1
    have t_1 := ti_eq c_1
    refine lv_tableIn (off := 35) (tgt := 36) hx hb dX4_reasonAgainst_1 (by omega) (by omega) (by rw [c_1]; decide) (by decide) ?_
    refine lv_aload_n hx hb dX4_reasonAgainst_36 rfl (lv_at hl 0 rfl) ?_
    refine va_get (D := D) (cl := vwCl) (ci := 3) (v := .int (i 3)) (C := RX4) (T := TX4) (N := 10) hx hb hts inX4 hown hK.1 hP 0 rfl rfl 3 (by decide) hw1 (fun _ h => h) rfl dX4_reasonAgainst_37 ?_
    refine lv_iload_n hx hb dX4_reasonAgainst_40 rfl (lv_at hl 2 rfl) ?_
    refine lv_icmp_ne (tgt := 48) hx hb dX4_reasonAgainst_41 (by decide) (fun c_2 => ?_) (fun c_2 => ?_)
    · have hf := kIf hf c_2
      have t_2 := ti_ne c_2
      refine lv_bipush (v := (-6 : Int32)) hx hb dX4_reasonAgainst_48 (by decide) ?_
      exact kRetI hx hb hr hlk hP hD hS hf.symm rfl hQ dX4_reasonAgainst_50
    · have hf := kIt hf c_2
      have t_2 := ti_eq c_2
      refine lv_iconst (v := (1 : Int32)) hx hb dX4_reasonAgainst_44 (by decide) ?_
      refine lv_goto (tgt := 50) hx hb dX4_reasonAgainst_45 (by decide) ?_
      exact kRetI hx hb hr hlk hP hD hS hf.symm rfl hQ dX4_reasonAgainst_50
  · have hf := kIf hf c_1
    have t_1 := ti_ne c_1
    have kv_3 : (1 : Int32).toInt = 1 := by decide
    refine (Classical.em (x1 = (1 : Int32))).elim (fun c_3 => ?_) (fun c_3 => ?_)
    · have hf := kIt hf c_3
      have t_3 := ti_eq c_3
      refine lv_tableIn (off := 50) (tgt := 51) hx hb dX4_reasonAgainst_1 (by omega) (by omega) (by rw [c_3]; decide) (by decide) ?_
      refine lv_aload_n hx hb dX4_reasonAgainst_51 rfl (lv_at hl 0 rfl) ?_
      refine va_get (D := D) (cl := vwCl) (ci := 3) (v := .int (i 3)) (C := RX4) (T := TX4) (N := 10) hx hb hts inX4 hown hK.1 hP 0 rfl rfl 3 (by decide) hw1 (fun _ h => h) rfl dX4_reasonAgainst_52 ?_
      refine lv_iload_n hx hb dX4_reasonAgainst_55 rfl (lv_at hl 2 rfl) ?_
      refine lv_icmp_ne (tgt := 64) hx hb dX4_reasonAgainst_56 (by decide) (fun c_4 => ?_) (fun c_4 => ?_)
      · have hf := kIf hf c_4
        have t_4 := ti_ne c_4
        refine lv_iconst (v := (1 : Int32)) hx hb dX4_reasonAgainst_64 (by decide) ?_
        exact kRetI hx hb hr hlk hP hD hS hf.symm rfl hQ dX4_reasonAgainst_65
      · have hf := kIt hf c_4
        have t_4 := ti_eq c_4
        refine lv_bipush (v := (-6 : Int32)) hx hb dX4_reasonAgainst_59 (by decide) ?_
        refine lv_goto (tgt := 65) hx hb dX4_reasonAgainst_61 (by decide) ?_
        exact kRetI hx hb hr hlk hP hD hS hf.symm rfl hQ dX4_reasonAgainst_65
    · have hf := kIf hf c_3
      have t_3 := ti_ne c_3
      have kv_5 : (2 : Int32).toInt = 2 := by decide
      refine (Classical.em (x1 = (2 : Int32))).elim (fun c_5 => ?_) (fun c_5 => ?_)
      · have hf := kIt hf c_5
        have t_5 := ti_eq c_5
        refine lv_tableIn (off := 65) (tgt := 66) hx hb dX4_reasonAgainst_1 (by omega) (by omega) (by rw [c_5]; decide) (by decide) ?_
        refine lv_aload_n hx hb dX4_reasonAgainst_66 rfl (lv_at hl 0 rfl) ?_
        refine lv_iload_n hx hb dX4_reasonAgainst_67 rfl (lv_at hl 3 rfl) ?_
        have hM : kC l D ct z yX4_reasonAgainstSailing wsX4_reasonAgainstSailing 0 0 [.ref a, .int x3] (seW a b ct lo i f) (some (.int (f_X4_reasonAgainstSailing x3 lo i f))) (seW a b ct lo i f) := k_X4_reasonAgainstSailing l D ct z a b x3 lo i f
        refine kV1 (As := [.int x3]) (rest := []) ⟨hx, hb, hml, hown, hts⟩ hM gX4_reasonAgainst_X4_reasonAgainstSailing kyX4_reasonAgainstSailing (by rw [hRf, hRl]; exact ⟨Nat.le_of_ble_eq_true rfl, Nat.le_of_ble_eq_true rfl⟩) hK hP hD hS hA 0 rfl rfl rfl rfl hl.1 rfl (st1 := [.int (f_X4_reasonAgainstSailing x3 lo i f)]) rfl rfl ⟨Nat.zero_le _, Nat.zero_le _⟩ dX4_reasonAgainst_68 (fun H locs hP hD hS => ?_)
        exact kRetI hx hb hr hlk hP hD hS hf.symm rfl hQ dX4_reasonAgainst_71
      · have hf := kIf hf c_5
        have t_5 := ti_ne c_5
        have kv_6 : (3 : Int32).toInt = 3 := by decide
        refine (Classical.em (x1 = (3 : Int32))).elim (fun c_6 => ?_) (fun c_6 => ?_)
        · have hf := kIt hf c_6
          have t_6 := ti_eq c_6
          refine lv_tableIn (off := 71) (tgt := 72) hx hb dX4_reasonAgainst_1 (by omega) (by omega) (by rw [c_6]; decide) (by decide) ?_
          refine lv_aload_n hx hb dX4_reasonAgainst_72 rfl (lv_at hl 0 rfl) ?_
          refine va_get (D := D) (cl := vwCl) (ci := 3) (v := .int (i 5)) (C := RX4) (T := TX4) (N := 10) hx hb hts inX4 hown hK.1 hP 0 rfl rfl 5 (by decide) hw2 (fun _ h => h) rfl dX4_reasonAgainst_73 ?_
          refine lv_iload_n hx hb dX4_reasonAgainst_76 rfl (lv_at hl 2 rfl) ?_
          refine lv_icmp_ne (tgt := 84) hx hb dX4_reasonAgainst_77 (by decide) (fun c_7 => ?_) (fun c_7 => ?_)
          · have hf := kIf hf c_7
            have t_7 := ti_ne c_7
            refine lv_bipush (v := (-6 : Int32)) hx hb dX4_reasonAgainst_84 (by decide) ?_
            exact kRetI hx hb hr hlk hP hD hS hf.symm rfl hQ dX4_reasonAgainst_86
          · have hf := kIt hf c_7
            have t_7 := ti_eq c_7
            refine lv_iconst (v := (5 : Int32)) hx hb dX4_reasonAgainst_80 (by decide) ?_
            refine lv_goto (tgt := 86) hx hb dX4_reasonAgainst_81 (by decide) ?_
            exact kRetI hx hb hr hlk hP hD hS hf.symm rfl hQ dX4_reasonAgainst_86
        · have hf := kIf hf c_6
          have t_6 := ti_ne c_6
          have kv_8 : (4 : Int32).toInt = 4 := by decide
          refine (Classical.em (x1 = (4 : Int32))).elim (fun c_8 => ?_) (fun c_8 => ?_)
          · have hf := kIt hf c_8
            have t_8 := ti_eq c_8
            refine lv_tableIn (off := 86) (tgt := 87) hx hb dX4_reasonAgainst_1 (by omega) (by omega) (by rw [c_8]; decide) (by decide) ?_
            refine lv_aload_n hx hb dX4_reasonAgainst_87 rfl (lv_at hl 0 rfl) ?_
            refine va_get (D := D) (cl := vwCl) (ci := 3) (v := .int (i 3)) (C := RX4) (T := TX4) (N := 10) hx hb hts inX4 hown hK.1 hP 0 rfl rfl 3 (by decide) hw1 (fun _ h => h) rfl dX4_reasonAgainst_88 ?_
            refine lv_bipush (v := (-6 : Int32)) hx hb dX4_reasonAgainst_91 (by decide) ?_
            refine lv_icmp_ne (tgt := 100) hx hb dX4_reasonAgainst_93 (by decide) (fun c_9 => ?_) (fun c_9 => ?_)
            · have hf := kIf hf c_9
              have t_9 := ti_ne c_9
              refine lv_bipush (v := (-6 : Int32)) hx hb dX4_reasonAgainst_100 (by decide) ?_
              exact kRetI hx hb hr hlk hP hD hS hf.symm rfl hQ dX4_reasonAgainst_102
            · have hf := kIt hf c_9
              have t_9 := ti_eq c_9
              refine lv_iconst (v := (2 : Int32)) hx hb dX4_reasonAgainst_96 (by decide) ?_
              refine lv_goto (tgt := 102) hx hb dX4_reasonAgainst_97 (by decide) ?_
              exact kRetI hx hb hr hlk hP hD hS hf.symm rfl hQ dX4_reasonAgainst_102
          · have hf := kIf hf c_8
            have t_8 := ti_ne c_8
            refine lv_tableOut (tgt := 103) hx hb dX4_reasonAgainst_1 (by omega) (by decide) ?_
            refine lv_aload_n hx hb dX4_reasonAgainst_103 rfl (lv_at hl 0 rfl) ?_
            refine va_get (D := D) (cl := vwCl) (ci := 3) (v := .int (i 6)) (C := RX4) (T := TX4) (N := 10) hx hb hts inX4 hown hK.1 hP 0 rfl rfl 6 (by decide) hw3 (fun _ h => h) rfl dX4_reasonAgainst_104 ?_
            refine lv_bipush (v := (99 : Int32)) hx hb dX4_reasonAgainst_107 (by decide) ?_
            refine lv_icmp_lt (tgt := 117) hx hb dX4_reasonAgainst_109 (by decide) (fun c_10 => ?_) (fun c_10 => ?_)
            · have hf := kIt hf c_10
              have t_10 := ti_lt c_10
              refine lv_bipush (v := (-6 : Int32)) hx hb dX4_reasonAgainst_117 (by decide) ?_
              exact kRetI hx hb hr hlk hP hD hS hf.symm rfl hQ dX4_reasonAgainst_119
            · have hf := kIf hf c_10
              have t_10 := ti_nlt c_10
              refine lv_bipush (v := (6 : Int32)) hx hb dX4_reasonAgainst_112 (by decide) ?_
              refine lv_goto (tgt := 119) hx hb dX4_reasonAgainst_114 (by decide) ?_
              exact kRetI hx hb hr hlk hP hD hS hf.symm rfl hQ dX4_reasonAgainst_119
theorem kyX4_goOrStrike : kY yX4_goOrStrike cX4_goOrStrike 2 none wsX4_goOrStrike wsX4_goOrStrike.tail 1 := ⟨rfl, by decide, by decide, by decide +kernel⟩
set_option maxHeartbeats 4000000 in
set_option maxRecDepth 100000 in
theorem k_X4_goOrStrike (l : Launch) (D : va_G) (ct : ClassId × ClassId × ClassId) (z : Nat × Nat) (a : Nat) (b : Nat) (x1 : Int32) (lo : Nat → Int64) (i : Nat → Int32) (f : Nat → Int32)  : kC l D ct z yX4_goOrStrike wsX4_goOrStrike 1 22 [.ref a, .int x1] (seW a b ct lo i f) (none) (seW a b ct lo (f_X4_goOrStrike x1 lo i f) f) := by
  refine kHead (cc := cX4_goOrStrike) (maxL := 2) (ret := none) [(0, .ref a), (1, .int x1)] (by decide) rfl (Nat.le_of_ble_eq_true rfl) rfl ?_
  intro p e s m args below meth c A ls R Q hRf hRl hQ hx hb hr hlk hml hown hts hA hS hK hP hD hl
  have inX4 : ∀ w ∈ wsX40, w ∈ wsX4_goOrStrike := fun w h => (List.mem_cons_of_mem _ (List.mem_append_right _ h))
  have hw1 := hts (Cond.fieldLink RX4 9 "MastPulpits$Sea" "lands" "J") (List.mem_of_getElem? (i := 1) (by decide +kernel))
  have hw2 := hts (Cond.fieldLink RX4 19 "MastPulpits$Sea" "shipHull" "I") (List.mem_of_getElem? (i := 2) (by decide +kernel))
  have hw3 := hts (Cond.fieldLink RX4 15 "MastPulpits$Sea" "shipCell" "I") (List.mem_of_getElem? (i := 3) (by decide +kernel))
  have kc0 : (0 : Int32).toInt = 0 := by decide
  have kc1 : (1 : Int32).toInt = 1 := by decide
  have hf : f_X4_goOrStrike x1 lo i f = f_X4_goOrStrike x1 lo i f := rfl
  refine lv_aload_n hx hb dX4_goOrStrike_0 rfl (lv_at hl 0 rfl) ?_
  refine va_get (D := D) (cl := vwCl) (ci := 3) (v := .long (lo 0)) (C := RX4) (T := TX4) (N := 10) hx hb hts inX4 hown hK.1 hP 0 rfl rfl 0 (by decide) hw1 (fun _ h => h) rfl dX4_goOrStrike_1 ?_
  refine lv_iload_n hx hb dX4_goOrStrike_4 rfl (lv_at hl 1 rfl) ?_
  have hM : kC l D ct z yX0_holds wsX0_holds 0 0 [.long (lo 0), .int x1] ([]) (some (.int (f_X0_holds (lo 0) x1))) ([]) := k_X0_holds l D ct z (lo 0) x1
  refine kS0 (As := [.long (lo 0), .int x1]) (rest := []) ⟨hx, hb, hml, hown, hts⟩ hM gX4_goOrStrike_X0_holds kyX0_holds (by rw [hRf, hRl]; exact ⟨Nat.le_of_ble_eq_true rfl, Nat.le_of_ble_eq_true rfl⟩) hK hP hD hS hA rfl hl.1 rfl (st1 := [.int (f_X0_holds (lo 0) x1)]) rfl rfl ⟨Nat.zero_le _, Nat.zero_le _⟩ dX4_goOrStrike_5 (fun H locs hP hD hS => ?_)
  refine lv_if_eq (tgt := 24) hx hb dX4_goOrStrike_8 (by decide) (fun c_1 => ?_) (fun c_1 => ?_)
  · have hf := kIt hf c_1
    have t_1 := ti_eq c_1
    refine lv_aload_n hx hb dX4_goOrStrike_24 rfl (lv_at hl 0 rfl) ?_
    refine lv_iload_n hx hb dX4_goOrStrike_25 rfl (lv_at hl 1 rfl) ?_
    refine kPut (ci := 3) (C := RX4) (T := TX4) (N := 10) (ty := .int) (v := .int x1) (W1 := seW a b ct lo (u1 i 1 x1) f) hx hb hts inX4 tyX4 tyX4_ok nmX4 hown hK hP hD hS 0 rfl rfl 1 (by decide) hw3 (fun _ h => h) rfl (by decide +kernel) rfl rfl (Nat.le_of_ble_eq_true rfl) rfl dX4_goOrStrike_26 (fun H locs hP hD hS => ?_)
    exact kRetV hx hb hr hlk hP hD hS ((congrArg (fun q => seW a b ct lo q f) hf).symm) hQ dX4_goOrStrike_29
  · have hf := kIf hf c_1
    have t_1 := ti_ne c_1
    refine lv_aload_n hx hb dX4_goOrStrike_11 rfl (lv_at hl 0 rfl) ?_
    refine lv_dup hx hb dX4_goOrStrike_12 rfl ?_
    refine va_get (D := D) (cl := vwCl) (ci := 3) (v := .int (i 2)) (C := RX4) (T := TX4) (N := 10) hx hb hts inX4 hown hK.1 hP 0 rfl rfl 2 (by decide) hw2 (fun _ h => h) rfl dX4_goOrStrike_13 ?_
    refine lv_iconst (v := (1 : Int32)) hx hb dX4_goOrStrike_16 (by decide) ?_
    refine lv_isub hx hb dX4_goOrStrike_17 ?_
    refine lv_topi (fun y18 ey18 => ?_)
    have hf := kLt hf ey18
    refine kPut (ci := 3) (C := RX4) (T := TX4) (N := 10) (ty := .int) (v := .int y18) (W1 := seW a b ct lo (u1 i 2 y18) f) hx hb hts inX4 tyX4 tyX4_ok nmX4 hown hK hP hD hS 0 rfl rfl 2 (by decide) hw2 (fun _ h => h) rfl (by decide +kernel) rfl rfl (Nat.le_of_ble_eq_true rfl) rfl dX4_goOrStrike_18 (fun H locs hP hD hS => ?_)
    refine lv_goto (tgt := 29) hx hb dX4_goOrStrike_21 (by decide) ?_
    exact kRetV hx hb hr hlk hP hD hS ((congrArg (fun q => seW a b ct lo q f) hf).symm) hQ dX4_goOrStrike_29
theorem kyX4_passAnHour : kY yX4_passAnHour cX4_passAnHour 1 none wsX4_passAnHour wsX4_passAnHour.tail 0 := ⟨rfl, by decide, by decide, by decide +kernel⟩
set_option maxHeartbeats 4000000 in
set_option maxRecDepth 100000 in
theorem k_X4_passAnHour (l : Launch) (D : va_G) (ct : ClassId × ClassId × ClassId) (z : Nat × Nat) (a : Nat) (b : Nat) (lo : Nat → Int64) (i : Nat → Int32) (f : Nat → Int32)  : kC l D ct z yX4_passAnHour wsX4_passAnHour 1 21 [.ref a] (seW a b ct lo i f) (none) (seW a b ct lo (f_X4_passAnHour lo i f) f) := by
  refine kHead (cc := cX4_passAnHour) (maxL := 1) (ret := none) [(0, .ref a)] (by decide) rfl (Nat.le_of_ble_eq_true rfl) rfl ?_
  intro p e s m args below meth c A ls R Q hRf hRl hQ hx hb hr hlk hml hown hts hA hS hK hP hD hl
  have inX4 : ∀ w ∈ wsX40, w ∈ wsX4_passAnHour := fun w h => (List.mem_cons_of_mem _ (List.mem_append_right _ h))
  have hw1 := hts (Cond.fieldLink RX4 31 "MastPulpits$Sea" "hourNow" "I") (List.mem_of_getElem? (i := 1) (by decide +kernel))
  have hw2 := hts (Cond.fieldLink RX4 28 "MastPulpits$Sea" "fogNow" "I") (List.mem_of_getElem? (i := 2) (by decide +kernel))
  have hw3 := hts (Cond.methodLink RX4 52 Lib.Math.max.name) (List.mem_of_getElem? (i := 3) (by decide +kernel))
  have hw4 := hts (Cond.static Lib.Math.max.name) (List.mem_of_getElem? (i := 4) (by decide +kernel))
  have hw5 := hts (Cond.initialized "java/lang/Math") (List.mem_of_getElem? (i := 5) (by decide +kernel))
  have hw6 := hts (Cond.code Lib.Math.max.name Lib.Math.max.code 2 (some .int)) (List.mem_of_getElem? (i := 6) (by decide +kernel))
  have hw7 := hts (Cond.fieldLink RX4 22 "MastPulpits$Sea" "up" "I") (List.mem_of_getElem? (i := 7) (by decide +kernel))
  have hw8 := hts (Cond.fieldLink RX4 25 "MastPulpits$Sea" "hoursUp" "I") (List.mem_of_getElem? (i := 8) (by decide +kernel))
  have kcm6 : (-6 : Int32).toInt = -6 := by decide
  have kc0 : (0 : Int32).toInt = 0 := by decide
  have kc1 : (1 : Int32).toInt = 1 := by decide
  have hf : f_X4_passAnHour lo i f = f_X4_passAnHour lo i f := rfl
  refine lv_aload_n hx hb dX4_passAnHour_0 rfl (lv_at hl 0 rfl) ?_
  refine lv_dup hx hb dX4_passAnHour_1 rfl ?_
  refine va_get (D := D) (cl := vwCl) (ci := 3) (v := .int (i 6)) (C := RX4) (T := TX4) (N := 10) hx hb hts inX4 hown hK.1 hP 0 rfl rfl 6 (by decide) hw1 (fun _ h => h) rfl dX4_passAnHour_2 ?_
  refine lv_iconst (v := (1 : Int32)) hx hb dX4_passAnHour_5 (by decide) ?_
  refine lv_iadd hx hb dX4_passAnHour_6 ?_
  refine lv_topi (fun y7 ey7 => ?_)
  have hf := kLt hf ey7
  refine kPut (ci := 3) (C := RX4) (T := TX4) (N := 10) (ty := .int) (v := .int y7) (W1 := seW a b ct lo (u1 i 6 y7) f) hx hb hts inX4 tyX4 tyX4_ok nmX4 hown hK hP hD hS 0 rfl rfl 6 (by decide) hw1 (fun _ h => h) rfl (by decide +kernel) rfl rfl (Nat.le_of_ble_eq_true rfl) rfl dX4_passAnHour_7 (fun H locs hP hD hS => ?_)
  refine lv_aload_n hx hb dX4_passAnHour_10 rfl (lv_at hl 0 rfl) ?_
  refine lv_iconst (v := (0 : Int32)) hx hb dX4_passAnHour_11 (by decide) ?_
  refine lv_aload_n hx hb dX4_passAnHour_12 rfl (lv_at hl 0 rfl) ?_
  refine va_get (D := D) (cl := vwCl) (ci := 3) (v := .int (i 5)) (C := RX4) (T := TX4) (N := 10) hx hb hts inX4 hown hK.1 hP 0 rfl rfl 5 (by decide) hw2 (fun _ h => h) rfl dX4_passAnHour_13 ?_
  refine lv_iconst (v := (1 : Int32)) hx hb dX4_passAnHour_16 (by decide) ?_
  refine lv_isub hx hb dX4_passAnHour_17 ?_
  refine kMax hx hb (hml.trans hl.1.symm) hown hw3 hw4 hw5 hw6 (by rw [hRf]; decide) (by rw [hRl]; exact Nat.le_of_ble_eq_true rfl) (Nat.zero_le _) (Nat.zero_le _) dX4_passAnHour_18 ?_
  refine lv_topi (fun y21 ey21 => ?_)
  have hf := kLt hf ey21
  refine kPut (ci := 3) (C := RX4) (T := TX4) (N := 10) (ty := .int) (v := .int y21) (W1 := seW a b ct lo (u1 (u1 i 6 y7) 5 y21) f) hx hb hts inX4 tyX4 tyX4_ok nmX4 hown hK hP hD hS 0 rfl rfl 5 (by decide) hw2 (fun _ h => h) rfl (by decide +kernel) rfl rfl (Nat.le_of_ble_eq_true rfl) rfl dX4_passAnHour_21 (fun H locs hP hD hS => ?_)
  refine lv_aload_n hx hb dX4_passAnHour_24 rfl (lv_at hl 0 rfl) ?_
  refine va_get (D := D) (cl := vwCl) (ci := 3) (v := .int (i 3)) (C := RX4) (T := TX4) (N := 10) hx hb hts inX4 hown hK.1 hP 0 rfl rfl 3 (by decide) hw7 (fun _ h => h) rfl dX4_passAnHour_25 ?_
  refine lv_bipush (v := (-6 : Int32)) hx hb dX4_passAnHour_28 (by decide) ?_
  refine lv_icmp_eq (tgt := 43) hx hb dX4_passAnHour_30 (by decide) (fun c_1 => ?_) (fun c_1 => ?_)
  · have hf := kIt hf c_1
    have t_1 := ti_eq c_1
    exact kRetV hx hb hr hlk hP hD hS ((congrArg (fun q => seW a b ct lo q f) hf).symm) hQ dX4_passAnHour_43
  · have hf := kIf hf c_1
    have t_1 := ti_ne c_1
    refine lv_aload_n hx hb dX4_passAnHour_33 rfl (lv_at hl 0 rfl) ?_
    refine lv_dup hx hb dX4_passAnHour_34 rfl ?_
    refine va_get (D := D) (cl := vwCl) (ci := 3) (v := .int (i 4)) (C := RX4) (T := TX4) (N := 10) hx hb hts inX4 hown hK.1 hP 0 rfl rfl 4 (by decide) hw8 (fun _ h => h) rfl dX4_passAnHour_35 ?_
    refine lv_iconst (v := (1 : Int32)) hx hb dX4_passAnHour_38 (by decide) ?_
    refine lv_iadd hx hb dX4_passAnHour_39 ?_
    refine lv_topi (fun y40 ey40 => ?_)
    have hf := kLt hf ey40
    refine kPut (ci := 3) (C := RX4) (T := TX4) (N := 10) (ty := .int) (v := .int y40) (W1 := seW a b ct lo (u1 (u1 (u1 i 6 y7) 5 y21) 4 y40) f) hx hb hts inX4 tyX4 tyX4_ok nmX4 hown hK hP hD hS 0 rfl rfl 4 (by decide) hw8 (fun _ h => h) rfl (by decide +kernel) rfl rfl (Nat.le_of_ble_eq_true rfl) rfl dX4_passAnHour_40 (fun H locs hP hD hS => ?_)
    exact kRetV hx hb hr hlk hP hD hS ((congrArg (fun q => seW a b ct lo q f) hf).symm) hQ dX4_passAnHour_43
theorem kyX4_perform : kY yX4_perform cX4_perform 4 none wsX4_perform wsX4_perform.tail 3 := ⟨rfl, by decide, by decide, by decide +kernel⟩
set_option maxHeartbeats 4000000 in
set_option maxRecDepth 100000 in
theorem k_X4_perform (l : Launch) (D : va_G) (ct : ClassId × ClassId × ClassId) (z : Nat × Nat) (a : Nat) (b : Nat) (x1 : Int32) (x2 : Int32) (x3 : Int32) (lo : Nat → Int64) (i : Nat → Int32) (f : Nat → Int32)  : kC l D ct z yX4_perform wsX4_perform 2 43 [.ref a, .int x1, .int x2, .int x3] (seW a b ct lo i f) (none) (seW a b ct lo (f_X4_perform x1 x2 x3 lo i f) f) := by
  refine kHead (cc := cX4_perform) (maxL := 4) (ret := none) [(0, .ref a), (1, .int x1), (2, .int x2), (3, .int x3)] (by decide) rfl (Nat.le_of_ble_eq_true rfl) rfl ?_
  intro p e s m args below meth c A ls R Q hRf hRl hQ hx hb hr hlk hml hown hts hA hS hK hP hD hl
  have inX4 : ∀ w ∈ wsX40, w ∈ wsX4_perform := fun w h => (List.mem_cons_of_mem _ (List.mem_append_right _ h))
  have hw1 := hts (Cond.fieldLink RX4 22 "MastPulpits$Sea" "up" "I") (List.mem_of_getElem? (i := 1) (by decide +kernel))
  have hw2 := hts (Cond.fieldLink RX4 25 "MastPulpits$Sea" "hoursUp" "I") (List.mem_of_getElem? (i := 2) (by decide +kernel))
  have hw3 := hts (Cond.fieldLink RX4 28 "MastPulpits$Sea" "fogNow" "I") (List.mem_of_getElem? (i := 3) (by decide +kernel))
  have kcm6 : (-6 : Int32).toInt = -6 := by decide
  have kc0 : (0 : Int32).toInt = 0 := by decide
  have hf : f_X4_perform x1 x2 x3 lo i f = f_X4_perform x1 x2 x3 lo i f := rfl
  refine lv_iload_n hx hb dX4_perform_0 rfl (lv_at hl 1 rfl) ?_
  have kv_1 : (0 : Int32).toInt = 0 := by decide
  refine (Classical.em (x1 = (0 : Int32))).elim (fun c_1 => ?_) (fun c_1 => ?_)
  · have hf := kIt hf c_1
    have t_1 := ti_eq c_1
    refine lv_tableIn (off := 39) (tgt := 40) hx hb dX4_perform_1 (by omega) (by omega) (by rw [c_1]; decide) (by decide) ?_
    refine lv_aload_n hx hb dX4_perform_40 rfl (lv_at hl 0 rfl) ?_
    refine lv_iload_n hx hb dX4_perform_41 rfl (lv_at hl 2 rfl) ?_
    refine kPut (ci := 3) (C := RX4) (T := TX4) (N := 10) (ty := .int) (v := .int x2) (W1 := seW a b ct lo (u1 i 3 x2) f) hx hb hts inX4 tyX4 tyX4_ok nmX4 hown hK hP hD hS 0 rfl rfl 3 (by decide) hw1 (fun _ h => h) rfl (by decide +kernel) rfl rfl (Nat.le_of_ble_eq_true rfl) rfl dX4_perform_42 (fun H locs hP hD hS => ?_)
    refine lv_aload_n hx hb dX4_perform_45 rfl (lv_at hl 0 rfl) ?_
    refine lv_iconst (v := (0 : Int32)) hx hb dX4_perform_46 (by decide) ?_
    refine kPut (ci := 3) (C := RX4) (T := TX4) (N := 10) (ty := .int) (v := .int (0 : Int32)) (W1 := seW a b ct lo (u1 (u1 i 3 x2) 4 (0 : Int32)) f) hx hb hts inX4 tyX4 tyX4_ok nmX4 hown hK hP hD hS 0 rfl rfl 4 (by decide) hw2 (fun _ h => h) rfl (by decide +kernel) rfl rfl (Nat.le_of_ble_eq_true rfl) rfl dX4_perform_47 (fun H locs hP hD hS => ?_)
    refine lv_goto (tgt := 90) hx hb dX4_perform_50 (by decide) ?_
    exact kRetV hx hb hr hlk hP hD hS ((congrArg (fun q => seW a b ct lo q f) hf).symm) hQ dX4_perform_90
  · have hf := kIf hf c_1
    have t_1 := ti_ne c_1
    have kv_2 : (1 : Int32).toInt = 1 := by decide
    refine (Classical.em (x1 = (1 : Int32))).elim (fun c_2 => ?_) (fun c_2 => ?_)
    · have hf := kIt hf c_2
      have t_2 := ti_eq c_2
      refine lv_tableIn (off := 52) (tgt := 53) hx hb dX4_perform_1 (by omega) (by omega) (by rw [c_2]; decide) (by decide) ?_
      refine lv_aload_n hx hb dX4_perform_53 rfl (lv_at hl 0 rfl) ?_
      refine lv_bipush (v := (-6 : Int32)) hx hb dX4_perform_54 (by decide) ?_
      refine kPut (ci := 3) (C := RX4) (T := TX4) (N := 10) (ty := .int) (v := .int (-6 : Int32)) (W1 := seW a b ct lo (u1 i 3 (-6 : Int32)) f) hx hb hts inX4 tyX4 tyX4_ok nmX4 hown hK hP hD hS 0 rfl rfl 3 (by decide) hw1 (fun _ h => h) rfl (by decide +kernel) rfl rfl (Nat.le_of_ble_eq_true rfl) rfl dX4_perform_56 (fun H locs hP hD hS => ?_)
      refine lv_aload_n hx hb dX4_perform_59 rfl (lv_at hl 0 rfl) ?_
      refine lv_iconst (v := (0 : Int32)) hx hb dX4_perform_60 (by decide) ?_
      refine kPut (ci := 3) (C := RX4) (T := TX4) (N := 10) (ty := .int) (v := .int (0 : Int32)) (W1 := seW a b ct lo (u1 (u1 i 3 (-6 : Int32)) 4 (0 : Int32)) f) hx hb hts inX4 tyX4 tyX4_ok nmX4 hown hK hP hD hS 0 rfl rfl 4 (by decide) hw2 (fun _ h => h) rfl (by decide +kernel) rfl rfl (Nat.le_of_ble_eq_true rfl) rfl dX4_perform_61 (fun H locs hP hD hS => ?_)
      refine lv_goto (tgt := 90) hx hb dX4_perform_64 (by decide) ?_
      exact kRetV hx hb hr hlk hP hD hS ((congrArg (fun q => seW a b ct lo q f) hf).symm) hQ dX4_perform_90
    · have hf := kIf hf c_2
      have t_2 := ti_ne c_2
      have kv_3 : (2 : Int32).toInt = 2 := by decide
      refine (Classical.em (x1 = (2 : Int32))).elim (fun c_3 => ?_) (fun c_3 => ?_)
      · have hf := kIt hf c_3
        have t_3 := ti_eq c_3
        refine lv_tableIn (off := 66) (tgt := 67) hx hb dX4_perform_1 (by omega) (by omega) (by rw [c_3]; decide) (by decide) ?_
        refine lv_aload_n hx hb dX4_perform_67 rfl (lv_at hl 0 rfl) ?_
        refine lv_iload_n hx hb dX4_perform_68 rfl (lv_at hl 3 rfl) ?_
        obtain ⟨q69, eq69⟩ : ∃ y, y = f_X4_goOrStrike x3 lo i f := ⟨_, rfl⟩
        have hf := kLt hf eq69
        have hM : kC l D ct z yX4_goOrStrike wsX4_goOrStrike 1 22 [.ref a, .int x3] (seW a b ct lo i f) (none) (seW a b ct lo q69 f) := by rw [eq69]; exact k_X4_goOrStrike l D ct z a b x3 lo i f
        refine kV1 (As := [.int x3]) (rest := []) ⟨hx, hb, hml, hown, hts⟩ hM gX4_perform_X4_goOrStrike kyX4_goOrStrike (by rw [hRf, hRl]; exact ⟨Nat.le_of_ble_eq_true rfl, Nat.le_of_ble_eq_true rfl⟩) hK hP hD hS hA 0 rfl rfl rfl rfl hl.1 rfl (st1 := []) rfl rfl ⟨Nat.zero_le _, Nat.zero_le _⟩ dX4_perform_69 (fun H locs hP hD hS => ?_)
        refine lv_goto (tgt := 90) hx hb dX4_perform_72 (by decide) ?_
        exact kRetV hx hb hr hlk hP hD hS ((congrArg (fun q => seW a b ct lo q f) hf).symm) hQ dX4_perform_90
      · have hf := kIf hf c_3
        have t_3 := ti_ne c_3
        have kv_4 : (3 : Int32).toInt = 3 := by decide
        refine (Classical.em (x1 = (3 : Int32))).elim (fun c_4 => ?_) (fun c_4 => ?_)
        · have hf := kIt hf c_4
          have t_4 := ti_eq c_4
          refine lv_tableIn (off := 74) (tgt := 75) hx hb dX4_perform_1 (by omega) (by omega) (by rw [c_4]; decide) (by decide) ?_
          refine lv_aload_n hx hb dX4_perform_75 rfl (lv_at hl 0 rfl) ?_
          refine lv_iload_n hx hb dX4_perform_76 rfl (lv_at hl 2 rfl) ?_
          refine kPut (ci := 3) (C := RX4) (T := TX4) (N := 10) (ty := .int) (v := .int x2) (W1 := seW a b ct lo (u1 i 5 x2) f) hx hb hts inX4 tyX4 tyX4_ok nmX4 hown hK hP hD hS 0 rfl rfl 5 (by decide) hw3 (fun _ h => h) rfl (by decide +kernel) rfl rfl (Nat.le_of_ble_eq_true rfl) rfl dX4_perform_77 (fun H locs hP hD hS => ?_)
          refine lv_goto (tgt := 90) hx hb dX4_perform_80 (by decide) ?_
          exact kRetV hx hb hr hlk hP hD hS ((congrArg (fun q => seW a b ct lo q f) hf).symm) hQ dX4_perform_90
        · have hf := kIf hf c_4
          have t_4 := ti_ne c_4
          have kv_5 : (4 : Int32).toInt = 4 := by decide
          refine (Classical.em (x1 = (4 : Int32))).elim (fun c_5 => ?_) (fun c_5 => ?_)
          · have hf := kIt hf c_5
            have t_5 := ti_eq c_5
            refine lv_tableIn (off := 89) (tgt := 90) hx hb dX4_perform_1 (by omega) (by omega) (by rw [c_5]; decide) (by decide) ?_
            exact kRetV hx hb hr hlk hP hD hS ((congrArg (fun q => seW a b ct lo q f) hf).symm) hQ dX4_perform_90
          · have hf := kIf hf c_5
            have t_5 := ti_ne c_5
            have kv_6 : (5 : Int32).toInt = 5 := by decide
            refine (Classical.em (x1 = (5 : Int32))).elim (fun c_6 => ?_) (fun c_6 => ?_)
            · have hf := kIt hf c_6
              have t_6 := ti_eq c_6
              refine lv_tableIn (off := 82) (tgt := 83) hx hb dX4_perform_1 (by omega) (by omega) (by rw [c_6]; decide) (by decide) ?_
              refine lv_aload_n hx hb dX4_perform_83 rfl (lv_at hl 0 rfl) ?_
              obtain ⟨q84, eq84⟩ : ∃ y, y = f_X4_passAnHour lo i f := ⟨_, rfl⟩
              have hf := kLt hf eq84
              have hM : kC l D ct z yX4_passAnHour wsX4_passAnHour 1 21 [.ref a] (seW a b ct lo i f) (none) (seW a b ct lo q84 f) := by rw [eq84]; exact k_X4_passAnHour l D ct z a b lo i f
              refine kV1 (As := []) (rest := []) ⟨hx, hb, hml, hown, hts⟩ hM gX4_perform_X4_passAnHour kyX4_passAnHour (by rw [hRf, hRl]; exact ⟨Nat.le_of_ble_eq_true rfl, Nat.le_of_ble_eq_true rfl⟩) hK hP hD hS hA 0 rfl rfl rfl rfl hl.1 rfl (st1 := []) rfl rfl ⟨Nat.zero_le _, Nat.zero_le _⟩ dX4_perform_84 (fun H locs hP hD hS => ?_)
              refine lv_goto (tgt := 90) hx hb dX4_perform_87 (by decide) ?_
              exact kRetV hx hb hr hlk hP hD hS ((congrArg (fun q => seW a b ct lo q f) hf).symm) hQ dX4_perform_90
            · have hf := kIf hf c_6
              have t_6 := ti_ne c_6
              refine lv_tableOut (tgt := 90) hx hb dX4_perform_1 (by omega) (by decide) ?_
              exact kRetV hx hb hr hlk hP hD hS ((congrArg (fun q => seW a b ct lo q f) hf).symm) hQ dX4_perform_90
theorem kyX5_setOut : kY yX5_setOut cX5_setOut 2 none wsX5_setOut wsX5_setOut.tail 1 := ⟨rfl, by decide, by decide, by decide +kernel⟩
set_option maxHeartbeats 4000000 in
set_option maxRecDepth 100000 in
theorem k_X5_setOut (l : Launch) (D : va_G) (ct : ClassId × ClassId × ClassId) (z : Nat × Nat) (a : Nat) (a1 : Nat) (b1 : Nat) (a2 : Nat) (b2 : Nat) (v : Nat → Int32) (lo : Nat → Int64) (i : Nat → Int32) (f : Nat → Int32) (lo2 : Nat → Int64) (i2 : Nat → Int32) (f2 : Nat → Int32)  : kC l D ct z yX5_setOut wsX5_setOut 1 22 [.ref a, .ref a2] (vsW a a1 b1 a2 b2 ct v lo i f lo2 i2 f2) (none) (vsW a a1 b1 a2 b2 ct ((f_X5_setOut v lo i f lo2 i2 f2).1) ((f_X5_setOut v lo i f lo2 i2 f2).2.1) ((f_X5_setOut v lo i f lo2 i2 f2).2.2.1) ((f_X5_setOut v lo i f lo2 i2 f2).2.2.2) lo2 i2 f2) := by
  refine kHead (cc := cX5_setOut) (maxL := 2) (ret := none) [(0, .ref a), (1, .ref a2)] (by decide) rfl (Nat.le_of_ble_eq_true rfl) rfl ?_
  intro p e s m args below meth c A ls R Q hRf hRl hQ hx hb hr hlk hml hown hts hA hS hK hP hD hl
  have inX5 : ∀ w ∈ wsX50, w ∈ wsX5_setOut := fun w h => (List.mem_cons_of_mem _ (List.mem_append_left _ (List.mem_append_right _ h)))
  have hw1 := hts (Cond.fieldLink RX5 12 "MastPulpits$Voyage" "seaThen" "LMastPulpits$Sea;") (List.mem_of_getElem? (i := 1) (by decide +kernel))
  have hw2 := hts (Cond.fieldLink RX5 22 "MastPulpits$Voyage" "acts" "I") (List.mem_of_getElem? (i := 2) (by decide +kernel))
  have hw3 := hts (Cond.fieldLink RX5 26 "MastPulpits$Voyage" "stoppedAt" "I") (List.mem_of_getElem? (i := 3) (by decide +kernel))
  have hw4 := hts (Cond.fieldLink RX5 29 "MastPulpits$Voyage" "reason" "I") (List.mem_of_getElem? (i := 4) (by decide +kernel))
  have hw5 := hts (Cond.fieldLink RX5 32 "MastPulpits$Voyage" "strikes" "I") (List.mem_of_getElem? (i := 5) (by decide +kernel))
  have hw6 := hts (Cond.fieldLink RX5 35 "MastPulpits$Voyage" "calls" "I") (List.mem_of_getElem? (i := 6) (by decide +kernel))
  have hw7 := hts (Cond.fieldLink RX5 38 "MastPulpits$Voyage" "silences" "I") (List.mem_of_getElem? (i := 7) (by decide +kernel))
  have hw8 := hts (Cond.fieldLink RX5 41 "MastPulpits$Voyage" "firstSilence" "I") (List.mem_of_getElem? (i := 8) (by decide +kernel))
  have kcm6 : (-6 : Int32).toInt = -6 := by decide
  have kc0 : (0 : Int32).toInt = 0 := by decide
  have hf : f_X5_setOut v lo i f lo2 i2 f2 = f_X5_setOut v lo i f lo2 i2 f2 := rfl
  refine lv_aload_n hx hb dX5_setOut_0 rfl (lv_at hl 0 rfl) ?_
  refine va_get (D := D) (cl := vwCl) (ci := 4) (v := .ref a1) (C := RX5) (T := TX5) (N := 8) hx hb hts inX5 hown hK.1 hP 0 rfl rfl 0 (by decide) hw1 (fun _ h => h) rfl dX5_setOut_1 ?_
  refine lv_aload_n hx hb dX5_setOut_4 rfl (lv_at hl 1 rfl) ?_
  obtain ⟨q5, eq5⟩ : ∃ y, y = f_X4_takeOver lo i f lo2 i2 f2 := ⟨_, rfl⟩
  have hf := kLt hf eq5
  have hM : kC l D ct z yX4_takeOver wsX4_takeOver 0 0 [.ref a1, .ref a2] (seW2 a1 b1 a2 b2 ct lo i f lo2 i2 f2) (none) (seW2 a1 b1 a2 b2 ct q5.1 q5.2.1 q5.2.2 lo2 i2 f2) := by rw [eq5]; exact k_X4_takeOver l D ct z a1 b1 a2 b2 lo i f lo2 i2 f2
  refine kV (As := [.ref a2]) (rest := []) (W1 := vsW a a1 b1 a2 b2 ct v q5.1 q5.2.1 q5.2.2 lo2 i2 f2) ⟨hx, hb, hml, hown, hts⟩ hM gX5_setOut_X4_takeOver kyX4_takeOver (by rw [hRf, hRl]; exact ⟨Nat.le_of_ble_eq_true rfl, Nat.le_of_ble_eq_true rfl⟩) hK hP hD hS hA [1, 2, 3, 4] [0] [0, 1, 2, 3, 4] 1 rfl rfl rfl rfl rfl ⟨rfl, rfl⟩ (by decide) rfl rfl rfl hl.1 rfl (st1 := []) rfl rfl ⟨Nat.zero_le _, Nat.zero_le _⟩ dX5_setOut_5 (fun H locs hP hD hS => ?_)
  refine lv_aload_n hx hb dX5_setOut_8 rfl (lv_at hl 0 rfl) ?_
  refine lv_iconst (v := (0 : Int32)) hx hb dX5_setOut_9 (by decide) ?_
  refine kPut (ci := 4) (C := RX5) (T := TX5) (N := 8) (ty := .int) (v := .int (0 : Int32)) (W1 := vsW a a1 b1 a2 b2 ct (u1 v 1 (0 : Int32)) q5.1 q5.2.1 q5.2.2 lo2 i2 f2) hx hb hts inX5 tyX5 tyX5_ok nmX5 hown hK hP hD hS 0 rfl rfl 1 (by decide) hw2 (fun _ h => h) rfl (by decide +kernel) rfl rfl (Nat.le_of_ble_eq_true rfl) rfl dX5_setOut_10 (fun H locs hP hD hS => ?_)
  refine lv_aload_n hx hb dX5_setOut_13 rfl (lv_at hl 0 rfl) ?_
  refine lv_bipush (v := (-6 : Int32)) hx hb dX5_setOut_14 (by decide) ?_
  refine kPut (ci := 4) (C := RX5) (T := TX5) (N := 8) (ty := .int) (v := .int (-6 : Int32)) (W1 := vsW a a1 b1 a2 b2 ct (u1 (u1 v 1 (0 : Int32)) 2 (-6 : Int32)) q5.1 q5.2.1 q5.2.2 lo2 i2 f2) hx hb hts inX5 tyX5 tyX5_ok nmX5 hown hK hP hD hS 0 rfl rfl 2 (by decide) hw3 (fun _ h => h) rfl (by decide +kernel) rfl rfl (Nat.le_of_ble_eq_true rfl) rfl dX5_setOut_16 (fun H locs hP hD hS => ?_)
  refine lv_aload_n hx hb dX5_setOut_19 rfl (lv_at hl 0 rfl) ?_
  refine lv_bipush (v := (-6 : Int32)) hx hb dX5_setOut_20 (by decide) ?_
  refine kPut (ci := 4) (C := RX5) (T := TX5) (N := 8) (ty := .int) (v := .int (-6 : Int32)) (W1 := vsW a a1 b1 a2 b2 ct (u1 (u1 (u1 v 1 (0 : Int32)) 2 (-6 : Int32)) 3 (-6 : Int32)) q5.1 q5.2.1 q5.2.2 lo2 i2 f2) hx hb hts inX5 tyX5 tyX5_ok nmX5 hown hK hP hD hS 0 rfl rfl 3 (by decide) hw4 (fun _ h => h) rfl (by decide +kernel) rfl rfl (Nat.le_of_ble_eq_true rfl) rfl dX5_setOut_22 (fun H locs hP hD hS => ?_)
  refine lv_aload_n hx hb dX5_setOut_25 rfl (lv_at hl 0 rfl) ?_
  refine lv_iconst (v := (0 : Int32)) hx hb dX5_setOut_26 (by decide) ?_
  refine kPut (ci := 4) (C := RX5) (T := TX5) (N := 8) (ty := .int) (v := .int (0 : Int32)) (W1 := vsW a a1 b1 a2 b2 ct (u1 (u1 (u1 (u1 v 1 (0 : Int32)) 2 (-6 : Int32)) 3 (-6 : Int32)) 4 (0 : Int32)) q5.1 q5.2.1 q5.2.2 lo2 i2 f2) hx hb hts inX5 tyX5 tyX5_ok nmX5 hown hK hP hD hS 0 rfl rfl 4 (by decide) hw5 (fun _ h => h) rfl (by decide +kernel) rfl rfl (Nat.le_of_ble_eq_true rfl) rfl dX5_setOut_27 (fun H locs hP hD hS => ?_)
  refine lv_aload_n hx hb dX5_setOut_30 rfl (lv_at hl 0 rfl) ?_
  refine lv_iconst (v := (0 : Int32)) hx hb dX5_setOut_31 (by decide) ?_
  refine kPut (ci := 4) (C := RX5) (T := TX5) (N := 8) (ty := .int) (v := .int (0 : Int32)) (W1 := vsW a a1 b1 a2 b2 ct (u1 (u1 (u1 (u1 (u1 v 1 (0 : Int32)) 2 (-6 : Int32)) 3 (-6 : Int32)) 4 (0 : Int32)) 5 (0 : Int32)) q5.1 q5.2.1 q5.2.2 lo2 i2 f2) hx hb hts inX5 tyX5 tyX5_ok nmX5 hown hK hP hD hS 0 rfl rfl 5 (by decide) hw6 (fun _ h => h) rfl (by decide +kernel) rfl rfl (Nat.le_of_ble_eq_true rfl) rfl dX5_setOut_32 (fun H locs hP hD hS => ?_)
  refine lv_aload_n hx hb dX5_setOut_35 rfl (lv_at hl 0 rfl) ?_
  refine lv_iconst (v := (0 : Int32)) hx hb dX5_setOut_36 (by decide) ?_
  refine kPut (ci := 4) (C := RX5) (T := TX5) (N := 8) (ty := .int) (v := .int (0 : Int32)) (W1 := vsW a a1 b1 a2 b2 ct (u1 (u1 (u1 (u1 (u1 (u1 v 1 (0 : Int32)) 2 (-6 : Int32)) 3 (-6 : Int32)) 4 (0 : Int32)) 5 (0 : Int32)) 6 (0 : Int32)) q5.1 q5.2.1 q5.2.2 lo2 i2 f2) hx hb hts inX5 tyX5 tyX5_ok nmX5 hown hK hP hD hS 0 rfl rfl 6 (by decide) hw7 (fun _ h => h) rfl (by decide +kernel) rfl rfl (Nat.le_of_ble_eq_true rfl) rfl dX5_setOut_37 (fun H locs hP hD hS => ?_)
  refine lv_aload_n hx hb dX5_setOut_40 rfl (lv_at hl 0 rfl) ?_
  refine lv_bipush (v := (-6 : Int32)) hx hb dX5_setOut_41 (by decide) ?_
  refine kPut (ci := 4) (C := RX5) (T := TX5) (N := 8) (ty := .int) (v := .int (-6 : Int32)) (W1 := vsW a a1 b1 a2 b2 ct (u1 (u1 (u1 (u1 (u1 (u1 (u1 v 1 (0 : Int32)) 2 (-6 : Int32)) 3 (-6 : Int32)) 4 (0 : Int32)) 5 (0 : Int32)) 6 (0 : Int32)) 7 (-6 : Int32)) q5.1 q5.2.1 q5.2.2 lo2 i2 f2) hx hb hts inX5 tyX5 tyX5_ok nmX5 hown hK hP hD hS 0 rfl rfl 7 (by decide) hw8 (fun _ h => h) rfl (by decide +kernel) rfl rfl (Nat.le_of_ble_eq_true rfl) rfl dX5_setOut_43 (fun H locs hP hD hS => ?_)
  exact kRetV hx hb hr hlk hP hD hS ((congrArg (fun q => vsW a a1 b1 a2 b2 ct q.1 q.2.1 q.2.2.1 q.2.2.2 lo2 i2 f2) hf).symm) hQ dX5_setOut_46
theorem kyX5_countCall : kY yX5_countCall cX5_countCall 3 none wsX5_countCall wsX5_countCall.tail 1 := ⟨rfl, by decide, by decide, by decide +kernel⟩
set_option maxHeartbeats 4000000 in
set_option maxRecDepth 100000 in
theorem k_X5_countCall (l : Launch) (D : va_G) (ct : ClassId × ClassId × ClassId) (z : Nat × Nat) (a : Nat) (a1 : Nat) (b1 : Nat) (x1 : Int64) (v : Nat → Int32) (lo : Nat → Int64) (i : Nat → Int32) (f : Nat → Int32)  : kC l D ct z yX5_countCall wsX5_countCall 0 0 [.ref a, .long x1] (voW a a1 b1 ct v lo i f) (none) (voW a a1 b1 ct (f_X5_countCall x1 v lo i f) lo i f) := by
  refine kHead (cc := cX5_countCall) (maxL := 3) (ret := none) [(0, .ref a), (1, .long x1)] (by decide) rfl (Nat.le_of_ble_eq_true rfl) rfl ?_
  intro p e s m args below meth c A ls R Q hRf hRl hQ hx hb hr hlk hml hown hts hA hS hK hP hD hl
  have inX5 : ∀ w ∈ wsX50, w ∈ wsX5_countCall := fun w h => (List.mem_cons_of_mem _ (List.mem_append_right _ h))
  have hw1 := hts (Cond.fieldLink RX5 35 "MastPulpits$Voyage" "calls" "I") (List.mem_of_getElem? (i := 1) (by decide +kernel))
  have hw2 := hts (Cond.fieldLink RX5 38 "MastPulpits$Voyage" "silences" "I") (List.mem_of_getElem? (i := 2) (by decide +kernel))
  have hw3 := hts (Cond.fieldLink RX5 41 "MastPulpits$Voyage" "firstSilence" "I") (List.mem_of_getElem? (i := 3) (by decide +kernel))
  have hw4 := hts (Cond.fieldLink RX5 22 "MastPulpits$Voyage" "acts" "I") (List.mem_of_getElem? (i := 4) (by decide +kernel))
  have kcm6 : (-6 : Int32).toInt = -6 := by decide
  have kc0 : (0 : Int32).toInt = 0 := by decide
  have kc1 : (1 : Int32).toInt = 1 := by decide
  have kl0 : (0 : Int64).toInt = 0 := by decide
  have hf : f_X5_countCall x1 v lo i f = f_X5_countCall x1 v lo i f := rfl
  refine lv_aload_n hx hb dX5_countCall_0 rfl (lv_at hl 0 rfl) ?_
  refine lv_dup hx hb dX5_countCall_1 rfl ?_
  refine va_get (D := D) (cl := vwCl) (ci := 4) (v := .int (v 5)) (C := RX5) (T := TX5) (N := 8) hx hb hts inX5 hown hK.1 hP 0 rfl rfl 5 (by decide) hw1 (fun _ h => h) rfl dX5_countCall_2 ?_
  refine lv_iconst (v := (1 : Int32)) hx hb dX5_countCall_5 (by decide) ?_
  refine lv_iadd hx hb dX5_countCall_6 ?_
  refine lv_topi (fun y7 ey7 => ?_)
  have hf := kLt hf ey7
  refine kPut (ci := 4) (C := RX5) (T := TX5) (N := 8) (ty := .int) (v := .int y7) (W1 := voW a a1 b1 ct (u1 v 5 y7) lo i f) hx hb hts inX5 tyX5 tyX5_ok nmX5 hown hK hP hD hS 0 rfl rfl 5 (by decide) hw1 (fun _ h => h) rfl (by decide +kernel) rfl rfl (Nat.le_of_ble_eq_true rfl) rfl dX5_countCall_7 (fun H locs hP hD hS => ?_)
  refine lv_lload_n hx hb dX5_countCall_10 rfl (lv_at hl 1 rfl) ?_
  refine lv_lconst (v := (0 : Int64)) hx hb dX5_countCall_11 (by decide) ?_
  refine W.lcmp hx hb dX5_countCall_12 ?_
  refine lv_if_eq (tgt := 17) hx hb dX5_countCall_13 (by decide) (fun c_1 => ?_) (fun c_1 => ?_)
  · have hf := kIt hf c_1
    have t_1 := ti_eq c_1
    refine lv_aload_n hx hb dX5_countCall_17 rfl (lv_at hl 0 rfl) ?_
    refine lv_dup hx hb dX5_countCall_18 rfl ?_
    refine va_get (D := D) (cl := vwCl) (ci := 4) (v := .int (v 6)) (C := RX5) (T := TX5) (N := 8) hx hb hts inX5 hown hK.1 hP 0 rfl rfl 6 (by decide) hw2 (fun _ h => h) rfl dX5_countCall_19 ?_
    refine lv_iconst (v := (1 : Int32)) hx hb dX5_countCall_22 (by decide) ?_
    refine lv_iadd hx hb dX5_countCall_23 ?_
    refine lv_topi (fun y24 ey24 => ?_)
    have hf := kLt hf ey24
    refine kPut (ci := 4) (C := RX5) (T := TX5) (N := 8) (ty := .int) (v := .int y24) (W1 := voW a a1 b1 ct (u1 (u1 v 5 y7) 6 y24) lo i f) hx hb hts inX5 tyX5 tyX5_ok nmX5 hown hK hP hD hS 0 rfl rfl 6 (by decide) hw2 (fun _ h => h) rfl (by decide +kernel) rfl rfl (Nat.le_of_ble_eq_true rfl) rfl dX5_countCall_24 (fun H locs hP hD hS => ?_)
    refine lv_aload_n hx hb dX5_countCall_27 rfl (lv_at hl 0 rfl) ?_
    refine va_get (D := D) (cl := vwCl) (ci := 4) (v := .int (v 7)) (C := RX5) (T := TX5) (N := 8) hx hb hts inX5 hown hK.1 hP 0 rfl rfl 7 (by decide) hw3 (fun _ h => h) rfl dX5_countCall_28 ?_
    refine lv_bipush (v := (-6 : Int32)) hx hb dX5_countCall_31 (by decide) ?_
    refine lv_icmp_ne (tgt := 44) hx hb dX5_countCall_33 (by decide) (fun c_2 => ?_) (fun c_2 => ?_)
    · have hf := kIf hf c_2
      have t_2 := ti_ne c_2
      exact kRetV hx hb hr hlk hP hD hS ((congrArg (fun q => voW a a1 b1 ct q lo i f) hf).symm) hQ dX5_countCall_44
    · have hf := kIt hf c_2
      have t_2 := ti_eq c_2
      refine lv_aload_n hx hb dX5_countCall_36 rfl (lv_at hl 0 rfl) ?_
      refine lv_aload_n hx hb dX5_countCall_37 rfl (lv_at hl 0 rfl) ?_
      refine va_get (D := D) (cl := vwCl) (ci := 4) (v := .int (v 1)) (C := RX5) (T := TX5) (N := 8) hx hb hts inX5 hown hK.1 hP 0 rfl rfl 1 (by decide) hw4 (fun _ h => h) rfl dX5_countCall_38 ?_
      refine lv_topi (fun y41 ey41 => ?_)
      have hf := kLt hf ey41
      refine kPut (ci := 4) (C := RX5) (T := TX5) (N := 8) (ty := .int) (v := .int y41) (W1 := voW a a1 b1 ct (u1 (u1 (u1 v 5 y7) 6 y24) 7 y41) lo i f) hx hb hts inX5 tyX5 tyX5_ok nmX5 hown hK hP hD hS 0 rfl rfl 7 (by decide) hw3 (fun _ h => h) rfl (by decide +kernel) rfl rfl (Nat.le_of_ble_eq_true rfl) rfl dX5_countCall_41 (fun H locs hP hD hS => ?_)
      exact kRetV hx hb hr hlk hP hD hS ((congrArg (fun q => voW a a1 b1 ct q lo i f) hf).symm) hQ dX5_countCall_44
  · have hf := kIf hf c_1
    have t_1 := ti_ne c_1; have w_1 := lgc_ne c_1
    exact kRetV hx hb hr hlk hP hD hS ((congrArg (fun q => voW a a1 b1 ct q lo i f) hf).symm) hQ dX5_countCall_16
theorem kyX5_tryAct : kY yX5_tryAct cX5_tryAct 5 (some .int) wsX5_tryAct wsX5_tryAct.tail 2 := ⟨rfl, by decide, by decide, by decide +kernel⟩
set_option maxHeartbeats 4000000 in
set_option maxRecDepth 100000 in
theorem k_X5_tryAct (l : Launch) (D : va_G) (ct : ClassId × ClassId × ClassId) (z : Nat × Nat) (a : Nat) (a1 : Nat) (b1 : Nat) (x1 : Int32) (x2 : Int32) (v : Nat → Int32) (lo : Nat → Int64) (i : Nat → Int32) (f : Nat → Int32)  : kC l D ct z yX5_tryAct wsX5_tryAct 3 72 [.ref a, .int x1, .int x2] (voW a a1 b1 ct v lo i f) (some (.int ((f_X5_tryAct x1 x2 v lo i f).1))) (voW a a1 b1 ct ((f_X5_tryAct x1 x2 v lo i f).2.1) lo ((f_X5_tryAct x1 x2 v lo i f).2.2) f) := by
  refine kHead (cc := cX5_tryAct) (maxL := 5) (ret := (some .int)) [(0, .ref a), (1, .int x1), (2, .int x2)] (by decide) rfl (Nat.le_of_ble_eq_true rfl) rfl ?_
  intro p e s m args below meth c A ls R Q hRf hRl hQ hx hb hr hlk hml hown hts hA hS hK hP hD hl
  have inX4 : ∀ w ∈ wsX40, w ∈ wsX5_tryAct := fun w h => (List.mem_cons_of_mem _ (List.mem_append_right _ h))
  have inX5 : ∀ w ∈ wsX50, w ∈ wsX5_tryAct := fun w h => (List.mem_cons_of_mem _ (List.mem_append_left _ (List.mem_append_right _ h)))
  have hw1 := hts (Cond.fieldLink RX5 12 "MastPulpits$Voyage" "seaThen" "LMastPulpits$Sea;") (List.mem_of_getElem? (i := 1) (by decide +kernel))
  have hw2 := hts (Cond.fieldLink RX5 70 "MastPulpits$Sea" "shipCell" "I") (List.mem_of_getElem? (i := 2) (by decide +kernel))
  have hw3 := hts (Cond.fieldLink RX5 32 "MastPulpits$Voyage" "strikes" "I") (List.mem_of_getElem? (i := 3) (by decide +kernel))
  have hw4 := hts (Cond.fieldLink RX5 22 "MastPulpits$Voyage" "acts" "I") (List.mem_of_getElem? (i := 4) (by decide +kernel))
  have kcm6 : (-6 : Int32).toInt = -6 := by decide
  have kc0 : (0 : Int32).toInt = 0 := by decide
  have kc1 : (1 : Int32).toInt = 1 := by decide
  have kc2 : (2 : Int32).toInt = 2 := by decide
  have kc4 : (4 : Int32).toInt = 4 := by decide
  have hf : f_X5_tryAct x1 x2 v lo i f = f_X5_tryAct x1 x2 v lo i f := rfl
  refine lv_iload_n hx hb dX5_tryAct_0 rfl (lv_at hl 1 rfl) ?_
  refine lv_iconst (v := (2 : Int32)) hx hb dX5_tryAct_1 (by decide) ?_
  refine kJn hf (fun j0 => ∀ (z21_s0 : Int32), f_X5_tryAct x1 x2 v lo i f = j0 z21_s0 → ∀ (H : Heap) (locs : List Loc) (ls : Array Slot), va_P D vwCl (voW a a1 b1 ct v lo i f) H → va_D A (voW a a1 b1 ct v lo i f) → va_S A s.heap H locs → lv_has ls 5 [(0, .ref a), (1, .int x1), (2, .int x2)] → W p l e R s m args below meth c H locs 0 0 Q (F0 m 21 ls [.int z21_s0])) ?_ ?_
  · intro j0 hj0 z21_s0  hf H locs ls hP hD hS hl
    subst hj0
    refine lv_istore_n (lv' := [(3, .int z21_s0), (0, .ref a), (1, .int x1), (2, .int x2)]) hx hb dX5_tryAct_21 rfl hl (by decide) rfl (fun ls hl => ?_)
    refine lv_aload_n hx hb dX5_tryAct_22 rfl (lv_at hl 1 rfl) ?_
    refine va_get (D := D) (cl := vwCl) (ci := 4) (v := .ref a1) (C := RX5) (T := TX5) (N := 8) hx hb hts inX5 hown hK.1 hP 0 rfl rfl 0 (by decide) hw1 (fun _ h => h) rfl dX5_tryAct_23 ?_
    refine lv_iload_n hx hb dX5_tryAct_26 rfl (lv_at hl 2 rfl) ?_
    refine lv_iload_n hx hb dX5_tryAct_27 rfl (lv_at hl 3 rfl) ?_
    refine lv_iload_n hx hb dX5_tryAct_28 rfl (lv_at hl 0 rfl) ?_
    have hM : kC l D ct z yX4_reasonAgainst wsX4_reasonAgainst 1 21 [.ref a1, .int x1, .int x2, .int z21_s0] (seW a1 b1 ct lo i f) (some (.int (f_X4_reasonAgainst x1 x2 z21_s0 lo i f))) (seW a1 b1 ct lo i f) := k_X4_reasonAgainst l D ct z a1 b1 x1 x2 z21_s0 lo i f
    refine kV (As := [.int x1, .int x2, .int z21_s0]) (rest := []) (W1 := voW a a1 b1 ct v lo i f) ⟨hx, hb, hml, hown, hts⟩ hM gX5_tryAct_X4_reasonAgainst kyX4_reasonAgainst (by rw [hRf, hRl]; exact ⟨Nat.le_of_ble_eq_true rfl, Nat.le_of_ble_eq_true rfl⟩) hK hP hD hS hA [1, 2] [0] [0, 1, 2] 1 rfl rfl rfl rfl rfl ⟨rfl, rfl⟩ (by decide) rfl rfl rfl hl.1 rfl (st1 := [.int (f_X4_reasonAgainst x1 x2 z21_s0 lo i f)]) rfl rfl ⟨Nat.zero_le _, Nat.zero_le _⟩ dX5_tryAct_29 (fun H locs hP hD hS => ?_)
    refine lv_topi (fun y32 ey32 => ?_)
    have hf := kLt hf ey32
    refine lv_istore (lv' := [(4, .int y32), (3, .int z21_s0), (0, .ref a), (1, .int x1), (2, .int x2)]) hx hb dX5_tryAct_32 hl (by decide) rfl (fun ls hl => ?_)
    refine lv_iload hx hb dX5_tryAct_34 (lv_at hl 0 rfl) ?_
    refine lv_bipush (v := (-6 : Int32)) hx hb dX5_tryAct_36 (by decide) ?_
    refine lv_icmp_eq (tgt := 44) hx hb dX5_tryAct_38 (by decide) (fun c_2 => ?_) (fun c_2 => ?_)
    · have hf := kIt hf c_2
      have t_2 := ti_eq c_2
      refine lv_iload_n hx hb dX5_tryAct_44 rfl (lv_at hl 3 rfl) ?_
      refine lv_iconst (v := (4 : Int32)) hx hb dX5_tryAct_45 (by decide) ?_
      refine kJn hf (fun j0 => ∀ (z60_v : Nat → Int32), f_X5_tryAct x1 x2 v lo i f = j0 z60_v → ∀ (H : Heap) (locs : List Loc) (ls : Array Slot), va_P D vwCl (voW a a1 b1 ct z60_v lo i f) H → va_D A (voW a a1 b1 ct z60_v lo i f) → va_S A s.heap H locs → lv_has ls 5 [(3, .int z21_s0), (0, .ref a), (1, .int x1), (2, .int x2)] → W p l e R s m args below meth c H locs 0 0 Q (F0 m 60 ls [])) ?_ ?_
      · intro j0 hj0 z60_v  hf H locs ls hP hD hS hl
        subst hj0
        refine lv_iload_n hx hb dX5_tryAct_60 rfl (lv_at hl 2 rfl) ?_
        refine lv_iconst (v := (2 : Int32)) hx hb dX5_tryAct_61 (by decide) ?_
        refine kJn hf (fun j0 => ∀ (z86_v : Nat → Int32), f_X5_tryAct x1 x2 v lo i f = j0 z86_v → ∀ (H : Heap) (locs : List Loc) (ls : Array Slot), va_P D vwCl (voW a a1 b1 ct z86_v lo i f) H → va_D A (voW a a1 b1 ct z86_v lo i f) → va_S A s.heap H locs → lv_has ls 5 [(3, .int z21_s0), (0, .ref a), (1, .int x1), (2, .int x2)] → W p l e R s m args below meth c H locs 0 0 Q (F0 m 86 ls [])) ?_ ?_
        · intro j0 hj0 z86_v  hf H locs ls hP hD hS hl
          subst hj0
          refine lv_aload_n hx hb dX5_tryAct_86 rfl (lv_at hl 1 rfl) ?_
          refine va_get (D := D) (cl := vwCl) (ci := 4) (v := .ref a1) (C := RX5) (T := TX5) (N := 8) hx hb hts inX5 hown hK.1 hP 0 rfl rfl 0 (by decide) hw1 (fun _ h => h) rfl dX5_tryAct_87 ?_
          refine lv_iload_n hx hb dX5_tryAct_90 rfl (lv_at hl 2 rfl) ?_
          refine lv_iload_n hx hb dX5_tryAct_91 rfl (lv_at hl 3 rfl) ?_
          refine lv_iload_n hx hb dX5_tryAct_92 rfl (lv_at hl 0 rfl) ?_
          obtain ⟨q93, eq93⟩ : ∃ y, y = f_X4_perform x1 x2 z21_s0 lo i f := ⟨_, rfl⟩
          have hf := kLt hf eq93
          have hM : kC l D ct z yX4_perform wsX4_perform 2 43 [.ref a1, .int x1, .int x2, .int z21_s0] (seW a1 b1 ct lo i f) (none) (seW a1 b1 ct lo q93 f) := by rw [eq93]; exact k_X4_perform l D ct z a1 b1 x1 x2 z21_s0 lo i f
          refine kV (As := [.int x1, .int x2, .int z21_s0]) (rest := []) (W1 := voW a a1 b1 ct z86_v lo q93 f) ⟨hx, hb, hml, hown, hts⟩ hM gX5_tryAct_X4_perform kyX4_perform (by rw [hRf, hRl]; exact ⟨Nat.le_of_ble_eq_true rfl, Nat.le_of_ble_eq_true rfl⟩) hK hP hD hS hA [1, 2] [0] [0, 1, 2] 1 rfl rfl rfl rfl rfl ⟨rfl, rfl⟩ (by decide) rfl rfl rfl hl.1 rfl (st1 := []) rfl rfl ⟨Nat.zero_le _, Nat.zero_le _⟩ dX5_tryAct_93 (fun H locs hP hD hS => ?_)
          refine lv_aload_n hx hb dX5_tryAct_96 rfl (lv_at hl 1 rfl) ?_
          refine lv_dup hx hb dX5_tryAct_97 rfl ?_
          refine va_get (D := D) (cl := vwCl) (ci := 4) (v := .int (z86_v 1)) (C := RX5) (T := TX5) (N := 8) hx hb hts inX5 hown hK.1 hP 0 rfl rfl 1 (by decide) hw4 (fun _ h => h) rfl dX5_tryAct_98 ?_
          refine lv_iconst (v := (1 : Int32)) hx hb dX5_tryAct_101 (by decide) ?_
          refine lv_iadd hx hb dX5_tryAct_102 ?_
          refine lv_topi (fun y103 ey103 => ?_)
          have hf := kLt hf ey103
          refine kPut (ci := 4) (C := RX5) (T := TX5) (N := 8) (ty := .int) (v := .int y103) (W1 := voW a a1 b1 ct (u1 z86_v 1 y103) lo q93 f) hx hb hts inX5 tyX5 tyX5_ok nmX5 hown hK hP hD hS 0 rfl rfl 1 (by decide) hw4 (fun _ h => h) rfl (by decide +kernel) rfl rfl (Nat.le_of_ble_eq_true rfl) rfl dX5_tryAct_103 (fun H locs hP hD hS => ?_)
          refine lv_bipush (v := (-6 : Int32)) hx hb dX5_tryAct_106 (by decide) ?_
          exact kRetI hx hb hr hlk hP hD hS (kfst hf) ((congrArg (fun q => voW a a1 b1 ct q.2.1 lo q.2.2 f) hf).symm) hQ dX5_tryAct_108
        · intro j86 hJ86 hf
          refine lv_icmp_ne (tgt := 86) hx hb dX5_tryAct_62 (by decide) (fun c_4 => ?_) (fun c_4 => ?_)
          · have hf := kIf hf c_4
            have t_4 := ti_ne c_4
            exact hJ86 _  hf _ _ _ hP hD hS (lv_sub hl [0, 1, 2, 3] rfl)
          · have hf := kIt hf c_4
            have t_4 := ti_eq c_4
            refine lv_aload_n hx hb dX5_tryAct_65 rfl (lv_at hl 1 rfl) ?_
            refine va_get (D := D) (cl := vwCl) (ci := 4) (v := .ref a1) (C := RX5) (T := TX5) (N := 8) hx hb hts inX5 hown hK.1 hP 0 rfl rfl 0 (by decide) hw1 (fun _ h => h) rfl dX5_tryAct_66 ?_
            refine lv_iload_n hx hb dX5_tryAct_69 rfl (lv_at hl 0 rfl) ?_
            have hM : kC l D ct z yX4_isLand wsX4_isLand 1 22 [.ref a1, .int z21_s0] (seW a1 b1 ct lo i f) (some (.int (f_X4_isLand z21_s0 lo i f))) (seW a1 b1 ct lo i f) := k_X4_isLand l D ct z a1 b1 z21_s0 lo i f
            refine kV (As := [.int z21_s0]) (rest := []) (W1 := voW a a1 b1 ct z60_v lo i f) ⟨hx, hb, hml, hown, hts⟩ hM gX5_tryAct_X4_isLand kyX4_isLand (by rw [hRf, hRl]; exact ⟨Nat.le_of_ble_eq_true rfl, Nat.le_of_ble_eq_true rfl⟩) hK hP hD hS hA [1, 2] [0] [0, 1, 2] 1 rfl rfl rfl rfl rfl ⟨rfl, rfl⟩ (by decide) rfl rfl rfl hl.1 rfl (st1 := [.int (f_X4_isLand z21_s0 lo i f)]) rfl rfl ⟨Nat.zero_le _, Nat.zero_le _⟩ dX5_tryAct_70 (fun H locs hP hD hS => ?_)
            refine lv_if_eq (tgt := 86) hx hb dX5_tryAct_73 (by decide) (fun c_5 => ?_) (fun c_5 => ?_)
            · have hf := kIt hf c_5
              have t_5 := ti_eq c_5
              exact hJ86 _  hf _ _ _ hP hD hS (lv_sub hl [0, 1, 2, 3] rfl)
            · have hf := kIf hf c_5
              have t_5 := ti_ne c_5
              refine lv_aload_n hx hb dX5_tryAct_76 rfl (lv_at hl 1 rfl) ?_
              refine lv_dup hx hb dX5_tryAct_77 rfl ?_
              refine va_get (D := D) (cl := vwCl) (ci := 4) (v := .int (z60_v 4)) (C := RX5) (T := TX5) (N := 8) hx hb hts inX5 hown hK.1 hP 0 rfl rfl 4 (by decide) hw3 (fun _ h => h) rfl dX5_tryAct_78 ?_
              refine lv_iconst (v := (1 : Int32)) hx hb dX5_tryAct_81 (by decide) ?_
              refine lv_iadd hx hb dX5_tryAct_82 ?_
              refine lv_topi (fun y83 ey83 => ?_)
              have hf := kLt hf ey83
              refine kPut (ci := 4) (C := RX5) (T := TX5) (N := 8) (ty := .int) (v := .int y83) (W1 := voW a a1 b1 ct (u1 z60_v 4 y83) lo i f) hx hb hts inX5 tyX5 tyX5_ok nmX5 hown hK hP hD hS 0 rfl rfl 4 (by decide) hw3 (fun _ h => h) rfl (by decide +kernel) rfl rfl (Nat.le_of_ble_eq_true rfl) rfl dX5_tryAct_83 (fun H locs hP hD hS => ?_)
              exact hJ86 _  hf _ _ _ hP hD hS (lv_sub hl [0, 1, 2, 3] rfl)
      · intro j60 hJ60 hf
        refine lv_icmp_ne (tgt := 60) hx hb dX5_tryAct_46 (by decide) (fun c_3 => ?_) (fun c_3 => ?_)
        · have hf := kIf hf c_3
          have t_3 := ti_ne c_3
          exact hJ60 _  hf _ _ _ hP hD hS (lv_sub hl [1, 2, 3, 4] rfl)
        · have hf := kIt hf c_3
          have t_3 := ti_eq c_3
          refine lv_aload_n hx hb dX5_tryAct_49 rfl (lv_at hl 2 rfl) ?_
          refine lv_aload_n hx hb dX5_tryAct_50 rfl (lv_at hl 2 rfl) ?_
          refine va_get (D := D) (cl := vwCl) (ci := 4) (v := .ref a1) (C := RX5) (T := TX5) (N := 8) hx hb hts inX5 hown hK.1 hP 0 rfl rfl 0 (by decide) hw1 (fun _ h => h) rfl dX5_tryAct_51 ?_
          have hM : kC l D ct z yX4_sighted wsX4_sighted 2 52 [.ref a1] (seW a1 b1 ct lo i f) (some (.long (f_X4_sighted lo i f))) (seW a1 b1 ct lo i f) := k_X4_sighted l D ct z a1 b1 lo i f
          refine kV (As := []) (rest := [.ref a]) (W1 := voW a a1 b1 ct v lo i f) ⟨hx, hb, hml, hown, hts⟩ hM gX5_tryAct_X4_sighted kyX4_sighted (by rw [hRf, hRl]; exact ⟨Nat.le_of_ble_eq_true rfl, Nat.le_of_ble_eq_true rfl⟩) hK hP hD hS hA [1, 2] [0] [0, 1, 2] 1 rfl rfl rfl rfl rfl ⟨rfl, rfl⟩ (by decide) rfl rfl rfl hl.1 rfl (st1 := [.long (f_X4_sighted lo i f), .ref a]) rfl rfl ⟨Nat.zero_le _, Nat.zero_le _⟩ dX5_tryAct_54 (fun H locs hP hD hS => ?_)
          obtain ⟨q57, eq57⟩ : ∃ y, y = f_X5_countCall (f_X4_sighted lo i f) v lo i f := ⟨_, rfl⟩
          have hf := kLt hf eq57
          have hM : kC l D ct z yX5_countCall wsX5_countCall 0 0 [.ref a, .long (f_X4_sighted lo i f)] (voW a a1 b1 ct v lo i f) (none) (voW a a1 b1 ct q57 lo i f) := by rw [eq57]; exact k_X5_countCall l D ct z a a1 b1 (f_X4_sighted lo i f) v lo i f
          refine kV1 (As := [.long (f_X4_sighted lo i f)]) (rest := []) ⟨hx, hb, hml, hown, hts⟩ hM gX5_tryAct_X5_countCall kyX5_countCall (by rw [hRf, hRl]; exact ⟨Nat.le_of_ble_eq_true rfl, Nat.le_of_ble_eq_true rfl⟩) hK hP hD hS hA 0 rfl rfl rfl rfl hl.1 rfl (st1 := []) rfl rfl ⟨Nat.zero_le _, Nat.zero_le _⟩ dX5_tryAct_57 (fun H locs hP hD hS => ?_)
          exact hJ60 _  hf _ _ _ hP hD hS (lv_sub hl [1, 2, 3, 4] rfl)
    · have hf := kIf hf c_2
      have t_2 := ti_ne c_2
      refine lv_iload hx hb dX5_tryAct_41 (lv_at hl 0 rfl) ?_
      exact kRetI hx hb hr hlk hP hD hS (kfst hf) ((congrArg (fun q => voW a a1 b1 ct q.2.1 lo q.2.2 f) hf).symm) hQ dX5_tryAct_43
  · intro j21 hJ21 hf
    refine lv_icmp_ne (tgt := 19) hx hb dX5_tryAct_2 (by decide) (fun c_1 => ?_) (fun c_1 => ?_)
    · have hf := kIf hf c_1
      have t_1 := ti_ne c_1
      refine lv_bipush (v := (-6 : Int32)) hx hb dX5_tryAct_19 (by decide) ?_
      exact hJ21 _  hf _ _ _ hP hD hS (lv_sub hl [0, 1, 2] rfl)
    · have hf := kIt hf c_1
      have t_1 := ti_eq c_1
      refine lv_aload_n hx hb dX5_tryAct_5 rfl (lv_at hl 0 rfl) ?_
      refine va_get (D := D) (cl := vwCl) (ci := 4) (v := .ref a1) (C := RX5) (T := TX5) (N := 8) hx hb hts inX5 hown hK.1 hP 0 rfl rfl 0 (by decide) hw1 (fun _ h => h) rfl dX5_tryAct_6 ?_
      refine va_get (D := D) (cl := vwCl) (ci := 3) (v := .int (i 1)) (C := RX4) (T := TX4) (N := 10) hx hb hts inX4 hown hK.1 hP 1 rfl rfl 1 (by decide) hw2 (fun _ h => h) rfl dX5_tryAct_9 ?_
      refine lv_iload_n hx hb dX5_tryAct_12 rfl (lv_at hl 2 rfl) ?_
      have hM : kC l D ct z yX0_next wsX0_next 1 25 [.int (i 1), .int x2] ([]) (some (.int (f_X0_next (i 1) x2))) ([]) := k_X0_next l D ct z (i 1) x2
      refine kS0 (As := [.int (i 1), .int x2]) (rest := []) ⟨hx, hb, hml, hown, hts⟩ hM gX5_tryAct_X0_next kyX0_next (by rw [hRf, hRl]; exact ⟨Nat.le_of_ble_eq_true rfl, Nat.le_of_ble_eq_true rfl⟩) hK hP hD hS hA rfl hl.1 rfl (st1 := [.int (f_X0_next (i 1) x2)]) rfl rfl ⟨Nat.zero_le _, Nat.zero_le _⟩ dX5_tryAct_13 (fun H locs hP hD hS => ?_)
      refine lv_goto (tgt := 21) hx hb dX5_tryAct_16 (by decide) ?_
      exact hJ21 _  hf _ _ _ hP hD hS (lv_sub hl [0, 1, 2] rfl)
theorem kyX5_sailByText : kY yX5_sailByText cX5_sailByText 6 none wsX5_sailByText wsX5_sailByText.tail 2 := ⟨rfl, by decide, by decide, by decide +kernel⟩
set_option maxHeartbeats 4000000 in
set_option maxRecDepth 100000 in
theorem k_X5_sailByText (l : Launch) (D : va_G) (ct : ClassId × ClassId × ClassId) (z : Nat × Nat) (a : Nat) (a1 : Nat) (b1 : Nat) (a2 : Nat) (b2 : Nat) (a3 : Nat) (b3 : Nat) (v : Nat → Int32) (lo : Nat → Int64) (i : Nat → Int32) (f : Nat → Int32) (lo2 : Nat → Int64) (i2 : Nat → Int32) (f2 : Nat → Int32) (i3 : Nat → Int32) (f3 : Nat → Int32) (hlen : (i3 1).toInt ≤ 60) : kC l D ct z yX5_sailByText wsX5_sailByText 4 96 [.ref a, .ref a2, .ref a3] (vpW a a1 b1 a2 b2 a3 b3 ct v lo i f lo2 i2 f2 i3 f3) (none) (vpW a a1 b1 a2 b2 a3 b3 ct ((f_X5_sailByText v lo i f lo2 i2 f2 i3 f3).1) ((f_X5_sailByText v lo i f lo2 i2 f2 i3 f3).2.1) ((f_X5_sailByText v lo i f lo2 i2 f2 i3 f3).2.2.1) ((f_X5_sailByText v lo i f lo2 i2 f2 i3 f3).2.2.2) lo2 i2 f2 i3 f3) := by
  refine kHead (cc := cX5_sailByText) (maxL := 6) (ret := none) [(0, .ref a), (1, .ref a2), (2, .ref a3)] (by decide) rfl (Nat.le_of_ble_eq_true rfl) rfl ?_
  intro p e s m args below meth c A ls R Q hRf hRl hQ hx hb hr hlk hml hown hts hA hS hK hP hD hl
  have inX2 : ∀ w ∈ wsX20, w ∈ wsX5_sailByText := fun w h => (List.mem_cons_of_mem _ (List.mem_append_left _ (List.mem_append_left _ (List.mem_append_right _ h))))
  have inX5 : ∀ w ∈ wsX50, w ∈ wsX5_sailByText := fun w h => (List.mem_cons_of_mem _ (List.mem_append_left _ (List.mem_append_right _ h)))
  have hw1 := hts (Cond.fieldLink RX5 47 "MastPulpits$Pad" "length" "I") (List.mem_of_getElem? (i := 1) (by decide +kernel))
  have hw2 := hts (Cond.fieldLink RX5 29 "MastPulpits$Voyage" "reason" "I") (List.mem_of_getElem? (i := 2) (by decide +kernel))
  have hw3 := hts (Cond.fieldLink RX5 22 "MastPulpits$Voyage" "acts" "I") (List.mem_of_getElem? (i := 3) (by decide +kernel))
  have hw4 := hts (Cond.fieldLink RX5 26 "MastPulpits$Voyage" "stoppedAt" "I") (List.mem_of_getElem? (i := 4) (by decide +kernel))
  have kcm6 : (-6 : Int32).toInt = -6 := by decide
  have kc0 : (0 : Int32).toInt = 0 := by decide
  have kc1 : (1 : Int32).toInt = 1 := by decide
  have hf : f_X5_sailByText v lo i f lo2 i2 f2 i3 f3 = f_X5_sailByText v lo i f lo2 i2 f2 i3 f3 := rfl
  refine lv_aload_n hx hb dX5_sailByText_0 rfl (lv_at hl 0 rfl) ?_
  refine lv_aload_n hx hb dX5_sailByText_1 rfl (lv_at hl 1 rfl) ?_
  obtain ⟨q2, eq2⟩ : ∃ y, y = f_X5_setOut v lo i f lo2 i2 f2 := ⟨_, rfl⟩
  have hf := kLt hf eq2
  have hM : kC l D ct z yX5_setOut wsX5_setOut 1 22 [.ref a, .ref a2] (vsW a a1 b1 a2 b2 ct v lo i f lo2 i2 f2) (none) (vsW a a1 b1 a2 b2 ct q2.1 q2.2.1 q2.2.2.1 q2.2.2.2 lo2 i2 f2) := by rw [eq2]; exact k_X5_setOut l D ct z a a1 b1 a2 b2 v lo i f lo2 i2 f2
  refine kV (As := [.ref a2]) (rest := []) (W1 := vpW a a1 b1 a2 b2 a3 b3 ct q2.1 q2.2.1 q2.2.2.1 q2.2.2.2 lo2 i2 f2 i3 f3) ⟨hx, hb, hml, hown, hts⟩ hM gX5_sailByText_X5_setOut kyX5_setOut (by rw [hRf, hRl]; exact ⟨Nat.le_of_ble_eq_true rfl, Nat.le_of_ble_eq_true rfl⟩) hK hP hD hS hA [0, 1, 2, 3, 4] [5, 6] [2, 3, 4, 5, 6, 0, 1] 0 rfl rfl rfl rfl rfl ⟨rfl, rfl⟩ (by decide) rfl rfl rfl hl.1 rfl (st1 := []) rfl rfl ⟨Nat.zero_le _, Nat.zero_le _⟩ dX5_sailByText_2 (fun H locs hP hD hS => ?_)
  refine lv_iconst (v := (0 : Int32)) hx hb dX5_sailByText_5 (by decide) ?_
  refine lv_istore_n (lv' := [(3, .int (0 : Int32)), (0, .ref a), (1, .ref a2), (2, .ref a3)]) hx hb dX5_sailByText_6 rfl hl (by decide) rfl (fun ls hl => ?_)
  refine lv_iconst (v := (0 : Int32)) hx hb dX5_sailByText_7 (by decide) ?_
  refine lv_istore (lv' := [(4, .int (0 : Int32)), (3, .int (0 : Int32)), (0, .ref a), (1, .ref a2), (2, .ref a3)]) hx hb dX5_sailByText_8 hl (by decide) rfl (fun ls hl => ?_)
  have lp10 : ∀ (K : (Nat → Int32) → (Nat → Int32) → ((Nat → Int32) × (Nat → Int64) × (Nat → Int32) × (Nat → Int32))), (∀ (z10_v : Nat → Int32) (z10_i : Nat → Int32), ∀ (H : Heap) (locs : List Loc) (ls : Array Slot), va_P D vwCl (vpW a a1 b1 a2 b2 a3 b3 ct z10_v q2.2.1 z10_i q2.2.2.2 lo2 i2 f2 i3 f3) H → va_D A (vpW a a1 b1 a2 b2 a3 b3 ct z10_v q2.2.1 z10_i q2.2.2.2 lo2 i2 f2 i3 f3) → va_S A s.heap H locs → lv_has ls 6 [] → f_X5_sailByText v lo i f lo2 i2 f2 i3 f3 = K z10_v z10_i → W p l e R s m args below meth c H locs 0 0 Q (F0 m 81 ls [])) → ∀ (n : Nat) (z10_4 : Int32) (z10_3 : Int32) (z10_v : Nat → Int32) (z10_i : Nat → Int32), ∀ (H : Heap) (locs : List Loc) (ls : Array Slot), ((i3 1).toInt ≤ Int32.toInt z10_4 + (n : Int)) → va_P D vwCl (vpW a a1 b1 a2 b2 a3 b3 ct z10_v q2.2.1 z10_i q2.2.2.2 lo2 i2 f2 i3 f3) H → va_D A (vpW a a1 b1 a2 b2 a3 b3 ct z10_v q2.2.1 z10_i q2.2.2.2 lo2 i2 f2 i3 f3) → va_S A s.heap H locs → lv_has ls 6 [(4, .int z10_4), (3, .int z10_3), (0, .ref a), (2, .ref a3)] → f_X5_sailByText v lo i f lo2 i2 f2 i3 f3 = f_X5_sailByText_L10 i3 f3 q2 K n z10_4 z10_3 z10_v z10_i → W p l e R s m args below meth c H locs 0 0 Q (F0 m 10 ls []) := by
    intro K hk n
    induction n with
    | zero =>
      intro z10_4 z10_3 z10_v z10_i  H locs ls hn10 hP hD hS hl hf
      refine lv_iload hx hb dX5_sailByText_10 (lv_at hl 0 rfl) ?_
      refine lv_aload_n hx hb dX5_sailByText_12 rfl (lv_at hl 3 rfl) ?_
      refine va_get (D := D) (cl := vwCl) (ci := 1) (v := .int (i3 1)) (C := RX2) (T := TX2) (N := 2) hx hb hts inX2 hown hK.1 hP 5 rfl rfl 1 (by decide) hw1 (fun _ h => h) rfl dX5_sailByText_13 ?_
      refine lv_icmp_ge (tgt := 81) hx hb dX5_sailByText_16 (by decide) (fun c_4 => ?_) (fun c_4 => ?_)
      · have t_4 := ti_le c_4
        exact hk _ _ _ _ _  hP hD hS (lv_sub hl [] rfl) hf
      · have t_4 := ti_nle c_4
        exfalso
        omega
    | succ n ih =>
      intro z10_4 z10_3 z10_v z10_i  H locs ls hn10 hP hD hS hl hf
      refine lv_iload hx hb dX5_sailByText_10 (lv_at hl 0 rfl) ?_
      refine lv_aload_n hx hb dX5_sailByText_12 rfl (lv_at hl 3 rfl) ?_
      refine va_get (D := D) (cl := vwCl) (ci := 1) (v := .int (i3 1)) (C := RX2) (T := TX2) (N := 2) hx hb hts inX2 hown hK.1 hP 5 rfl rfl 1 (by decide) hw1 (fun _ h => h) rfl dX5_sailByText_13 ?_
      refine lv_icmp_ge (tgt := 81) hx hb dX5_sailByText_16 (by decide) (fun c_1 => ?_) (fun c_1 => ?_)
      · have hf := kIt hf c_1
        have t_1 := ti_le c_1
        exact hk _ _ _ _ _  hP hD hS (lv_sub hl [] rfl) hf
      · have hf := kIf hf c_1
        have t_1 := ti_nle c_1
        refine lv_iload_n hx hb dX5_sailByText_19 rfl (lv_at hl 1 rfl) ?_
        refine lv_aload_n hx hb dX5_sailByText_20 rfl (lv_at hl 3 rfl) ?_
        refine va_get (D := D) (cl := vwCl) (ci := 1) (v := .int (i3 1)) (C := RX2) (T := TX2) (N := 2) hx hb hts inX2 hown hK.1 hP 5 rfl rfl 1 (by decide) hw1 (fun _ h => h) rfl dX5_sailByText_21 ?_
        refine lv_icmp_ge (tgt := 81) hx hb dX5_sailByText_24 (by decide) (fun c_2 => ?_) (fun c_2 => ?_)
        · have hf := kIt hf c_2
          have t_2 := ti_le c_2
          exact hk _ _ _ _ _  hP hD hS (lv_sub hl [] rfl) hf
        · have hf := kIf hf c_2
          have t_2 := ti_nle c_2
          refine lv_aload_n hx hb dX5_sailByText_27 rfl (lv_at hl 3 rfl) ?_
          refine lv_iload_n hx hb dX5_sailByText_28 rfl (lv_at hl 1 rfl) ?_
          have hM : kC l D ct z yX2_actAt wsX2_actAt 1 21 [.ref a3, .int z10_3] (paW a3 b3 ct i3 f3) (some (.int (f_X2_actAt z10_3 i3 f3))) (paW a3 b3 ct i3 f3) := k_X2_actAt l D ct z a3 b3 z10_3 i3 f3
          refine kV (As := [.int z10_3]) (rest := []) (W1 := vpW a a1 b1 a2 b2 a3 b3 ct z10_v q2.2.1 z10_i q2.2.2.2 lo2 i2 f2 i3 f3) ⟨hx, hb, hml, hown, hts⟩ hM gX5_sailByText_X2_actAt kyX2_actAt (by rw [hRf, hRl]; exact ⟨Nat.le_of_ble_eq_true rfl, Nat.le_of_ble_eq_true rfl⟩) hK hP hD hS hA [5, 6] [0, 1, 2, 3, 4] [0, 1, 2, 3, 4, 5, 6] 5 rfl rfl rfl rfl rfl ⟨rfl, rfl⟩ (by decide) rfl rfl rfl hl.1 rfl (st1 := [.int (f_X2_actAt z10_3 i3 f3)]) rfl rfl ⟨Nat.zero_le _, Nat.zero_le _⟩ dX5_sailByText_29 (fun H locs hP hD hS => ?_)
          refine lv_topi (fun y32 ey32 => ?_)
          have hf := kLt hf ey32
          refine lv_istore (lv' := [(5, .int y32), (4, .int z10_4), (3, .int z10_3), (0, .ref a), (2, .ref a3)]) hx hb dX5_sailByText_32 hl (by decide) rfl (fun ls hl => ?_)
          refine lv_aload_n hx hb dX5_sailByText_34 rfl (lv_at hl 3 rfl) ?_
          refine lv_aload_n hx hb dX5_sailByText_35 rfl (lv_at hl 3 rfl) ?_
          refine lv_iload hx hb dX5_sailByText_36 (lv_at hl 0 rfl) ?_
          refine lv_aload_n hx hb dX5_sailByText_38 rfl (lv_at hl 4 rfl) ?_
          refine lv_iload_n hx hb dX5_sailByText_39 rfl (lv_at hl 2 rfl) ?_
          have hM : kC l D ct z yX2_withAt wsX2_withAt 1 21 [.ref a3, .int z10_3] (paW a3 b3 ct i3 f3) (some (.int (f_X2_withAt z10_3 i3 f3))) (paW a3 b3 ct i3 f3) := k_X2_withAt l D ct z a3 b3 z10_3 i3 f3
          refine kV (As := [.int z10_3]) (rest := [.int y32, .ref a, .ref a]) (W1 := vpW a a1 b1 a2 b2 a3 b3 ct z10_v q2.2.1 z10_i q2.2.2.2 lo2 i2 f2 i3 f3) ⟨hx, hb, hml, hown, hts⟩ hM gX5_sailByText_X2_withAt kyX2_withAt (by rw [hRf, hRl]; exact ⟨Nat.le_of_ble_eq_true rfl, Nat.le_of_ble_eq_true rfl⟩) hK hP hD hS hA [5, 6] [0, 1, 2, 3, 4] [0, 1, 2, 3, 4, 5, 6] 5 rfl rfl rfl rfl rfl ⟨rfl, rfl⟩ (by decide) rfl rfl rfl hl.1 rfl (st1 := [.int (f_X2_withAt z10_3 i3 f3), .int y32, .ref a, .ref a]) rfl rfl ⟨Nat.zero_le _, Nat.zero_le _⟩ dX5_sailByText_40 (fun H locs hP hD hS => ?_)
          obtain ⟨q43, eq43⟩ : ∃ y, y = f_X5_tryAct y32 (f_X2_withAt z10_3 i3 f3) z10_v q2.2.1 z10_i q2.2.2.2 := ⟨_, rfl⟩
          have hf := kLt hf eq43
          have hM : kC l D ct z yX5_tryAct wsX5_tryAct 3 72 [.ref a, .int y32, .int (f_X2_withAt z10_3 i3 f3)] (voW a a1 b1 ct z10_v q2.2.1 z10_i q2.2.2.2) (some (.int q43.1)) (voW a a1 b1 ct q43.2.1 q2.2.1 q43.2.2 q2.2.2.2) := by rw [eq43]; exact k_X5_tryAct l D ct z a a1 b1 y32 (f_X2_withAt z10_3 i3 f3) z10_v q2.2.1 z10_i q2.2.2.2
          refine kV (As := [.int y32, .int (f_X2_withAt z10_3 i3 f3)]) (rest := [.ref a]) (W1 := vpW a a1 b1 a2 b2 a3 b3 ct q43.2.1 q2.2.1 q43.2.2 q2.2.2.2 lo2 i2 f2 i3 f3) ⟨hx, hb, hml, hown, hts⟩ hM gX5_sailByText_X5_tryAct kyX5_tryAct (by rw [hRf, hRl]; exact ⟨Nat.le_of_ble_eq_true rfl, Nat.le_of_ble_eq_true rfl⟩) hK hP hD hS hA [0, 1, 2] [3, 4, 5, 6] [4, 5, 6, 0, 1, 2, 3] 0 rfl rfl rfl rfl rfl ⟨rfl, rfl⟩ (by decide) rfl rfl rfl hl.1 rfl (st1 := [.int q43.1, .ref a]) rfl rfl ⟨Nat.zero_le _, Nat.zero_le _⟩ dX5_sailByText_43 (fun H locs hP hD hS => ?_)
          refine kPut (ci := 4) (C := RX5) (T := TX5) (N := 8) (ty := .int) (v := .int q43.1) (W1 := vpW a a1 b1 a2 b2 a3 b3 ct (u1 q43.2.1 3 q43.1) q2.2.1 q43.2.2 q2.2.2.2 lo2 i2 f2 i3 f3) hx hb hts inX5 tyX5 tyX5_ok nmX5 hown hK hP hD hS 0 rfl rfl 3 (by decide) hw2 (fun _ h => h) rfl (by decide +kernel) rfl rfl (Nat.le_of_ble_eq_true rfl) rfl dX5_sailByText_46 (fun H locs hP hD hS => ?_)
          refine lv_aload_n hx hb dX5_sailByText_49 rfl (lv_at hl 3 rfl) ?_
          refine va_get (D := D) (cl := vwCl) (ci := 4) (v := .int q43.1) (C := RX5) (T := TX5) (N := 8) hx hb hts inX5 hown hK.1 hP 0 rfl rfl 3 (by decide) hw2 (fun _ h => h) rfl dX5_sailByText_50 ?_
          refine lv_bipush (v := (-6 : Int32)) hx hb dX5_sailByText_53 (by decide) ?_
          refine lv_icmp_eq (tgt := 67) hx hb dX5_sailByText_55 (by decide) (fun c_3 => ?_) (fun c_3 => ?_)
          · have hf := kIt hf c_3
            have t_3 := ti_eq c_3
            refine lv_iload_n hx hb dX5_sailByText_67 rfl (lv_at hl 2 rfl) ?_
            refine lv_iload hx hb dX5_sailByText_68 (lv_at hl 0 rfl) ?_
            have hM : kC l D ct z yX2_signsOf wsX2_signsOf 0 0 [.int y32] ([]) (some (.int (f_X2_signsOf y32))) ([]) := k_X2_signsOf l D ct z y32
            refine kS0 (As := [.int y32]) (rest := [.int z10_3]) ⟨hx, hb, hml, hown, hts⟩ hM gX5_sailByText_X2_signsOf kyX2_signsOf (by rw [hRf, hRl]; exact ⟨Nat.le_of_ble_eq_true rfl, Nat.le_of_ble_eq_true rfl⟩) hK hP hD hS hA rfl hl.1 rfl (st1 := [.int (f_X2_signsOf y32), .int z10_3]) rfl rfl ⟨Nat.zero_le _, Nat.zero_le _⟩ dX5_sailByText_70 (fun H locs hP hD hS => ?_)
            refine lv_iadd hx hb dX5_sailByText_73 ?_
            refine lv_topi (fun y74 ey74 => ?_)
            have hf := kLt hf ey74
            refine lv_istore_n (lv' := [(3, .int y74), (5, .int y32), (4, .int z10_4), (0, .ref a), (2, .ref a3)]) hx hb dX5_sailByText_74 rfl hl (by decide) rfl (fun ls hl => ?_)
            obtain ⟨y75, ey75⟩ : ∃ y : Int32, y = z10_4 + (1 : Int32) := ⟨_, rfl⟩
            have hf := kLt hf ey75
            have a75 : Int32.toInt y75 = Int32.toInt z10_4 + 1 := by have := ti_rng z10_4; rw [ey75]; exact ti_add (by rw [kc1]) (by omega) (by omega)
            refine lv_iinc (v := y75) (lv' := [(4, .int y75), (3, .int y74), (5, .int y32), (0, .ref a), (2, .ref a3)]) hx hb dX5_sailByText_75 hl (k := 2) rfl (by rw [ey75]; rfl) (by decide) rfl (fun ls hl => ?_)
            refine lv_goto (tgt := 10) hx hb dX5_sailByText_78 (by decide) ?_
            exact ih y75 y74 (u1 q43.2.1 3 q43.1) q43.2.2 _ _ _ (by first | assumption | exact vin (by omega) (by omega) | omega) hP hD hS (lv_sub hl [0, 1, 3, 4] rfl) hf
          · have hf := kIf hf c_3
            have t_3 := ti_ne c_3
            refine lv_aload_n hx hb dX5_sailByText_58 rfl (lv_at hl 3 rfl) ?_
            refine lv_aload_n hx hb dX5_sailByText_59 rfl (lv_at hl 3 rfl) ?_
            refine va_get (D := D) (cl := vwCl) (ci := 4) (v := .int (q43.2.1 1)) (C := RX5) (T := TX5) (N := 8) hx hb hts inX5 hown hK.1 hP 0 rfl rfl 1 (by decide) hw3 (fun _ h => h) rfl dX5_sailByText_60 ?_
            refine lv_topi (fun y63 ey63 => ?_)
            have hf := kLt hf ey63
            refine kPut (ci := 4) (C := RX5) (T := TX5) (N := 8) (ty := .int) (v := .int y63) (W1 := vpW a a1 b1 a2 b2 a3 b3 ct (u1 (u1 q43.2.1 3 q43.1) 2 y63) q2.2.1 q43.2.2 q2.2.2.2 lo2 i2 f2 i3 f3) hx hb hts inX5 tyX5 tyX5_ok nmX5 hown hK hP hD hS 0 rfl rfl 2 (by decide) hw4 (fun _ h => h) rfl (by decide +kernel) rfl rfl (Nat.le_of_ble_eq_true rfl) rfl dX5_sailByText_63 (fun H locs hP hD hS => ?_)
            exact kRetV hx hb hr hlk hP hD hS ((congrArg (fun q => vpW a a1 b1 a2 b2 a3 b3 ct q.1 q.2.1 q.2.2.1 q.2.2.2 lo2 i2 f2 i3 f3) hf).symm) hQ dX5_sailByText_66
  refine lp10 _ (fun w10_v w10_i  H locs ls  hP hD hS hl hf => ?_) (60) (0 : Int32) (0 : Int32) q2.1 q2.2.2.1  _ _ _ (by first | assumption | exact vin (by omega) (by omega) | omega) hP hD hS (lv_sub hl [0, 1, 2, 4] rfl) hf
  exact kRetV hx hb hr hlk hP hD hS ((congrArg (fun q => vpW a a1 b1 a2 b2 a3 b3 ct q.1 q.2.1 q.2.2.1 q.2.2.2 lo2 i2 f2 i3 f3) hf).symm) hQ dX5_sailByText_81
theorem kyX5_drawnAct : kY yX5_drawnAct cX5_drawnAct 1 (some .int) wsX5_drawnAct wsX5_drawnAct.tail 1 := ⟨rfl, by decide, by decide, by decide +kernel⟩
set_option maxHeartbeats 4000000 in
set_option maxRecDepth 100000 in
theorem k_X5_drawnAct (l : Launch) (D : va_G) (ct : ClassId × ClassId × ClassId) (z : Nat × Nat)  (x0 : Int32)  : kC l D ct z yX5_drawnAct wsX5_drawnAct 0 0 [.int x0] ([]) (some (.int (f_X5_drawnAct x0))) ([]) := by
  refine kHead (cc := cX5_drawnAct) (maxL := 1) (ret := (some .int)) [(0, .int x0)] (by decide) rfl (Nat.le_of_ble_eq_true rfl) rfl ?_
  intro p e s m args below meth c A ls R Q hRf hRl hQ hx hb hr hlk hml hown hts hA hS hK hP hD hl
  have kc0 : (0 : Int32).toInt = 0 := by decide
  have kc2 : (2 : Int32).toInt = 2 := by decide
  have kc3 : (3 : Int32).toInt = 3 := by decide
  have kc4 : (4 : Int32).toInt = 4 := by decide
  have kc5 : (5 : Int32).toInt = 5 := by decide
  have hf : f_X5_drawnAct x0 = f_X5_drawnAct x0 := rfl
  refine lv_iload_n hx hb dX5_drawnAct_0 rfl (lv_at hl 0 rfl) ?_
  have kv_1 : (0 : Int32).toInt = 0 := by decide
  refine (Classical.em (x0 = (0 : Int32))).elim (fun c_1 => ?_) (fun c_1 => ?_)
  · have hf := kIt hf c_1
    have t_1 := ti_eq c_1
    refine lv_tableIn (off := 47) (tgt := 48) hx hb dX5_drawnAct_1 (by omega) (by omega) (by rw [c_1]; decide) (by decide) ?_
    refine lv_iconst (v := (0 : Int32)) hx hb dX5_drawnAct_48 (by decide) ?_
    exact kRetI hx hb hr hlk hP hD hS hf.symm rfl hQ dX5_drawnAct_49
  · have hf := kIf hf c_1
    have t_1 := ti_ne c_1
    have kv_2 : (1 : Int32).toInt = 1 := by decide
    refine (Classical.em (x0 = (1 : Int32))).elim (fun c_2 => ?_) (fun c_2 => ?_)
    · have hf := kIt hf c_2
      have t_2 := ti_eq c_2
      refine lv_tableIn (off := 55) (tgt := 56) hx hb dX5_drawnAct_1 (by omega) (by omega) (by rw [c_2]; decide) (by decide) ?_
      refine lv_iconst (v := (2 : Int32)) hx hb dX5_drawnAct_56 (by decide) ?_
      exact kRetI hx hb hr hlk hP hD hS hf.symm rfl hQ dX5_drawnAct_57
    · have hf := kIf hf c_2
      have t_2 := ti_ne c_2
      have kv_3 : (2 : Int32).toInt = 2 := by decide
      refine (Classical.em (x0 = (2 : Int32))).elim (fun c_3 => ?_) (fun c_3 => ?_)
      · have hf := kIt hf c_3
        have t_3 := ti_eq c_3
        refine lv_tableIn (off := 55) (tgt := 56) hx hb dX5_drawnAct_1 (by omega) (by omega) (by rw [c_3]; decide) (by decide) ?_
        refine lv_iconst (v := (2 : Int32)) hx hb dX5_drawnAct_56 (by decide) ?_
        exact kRetI hx hb hr hlk hP hD hS hf.symm rfl hQ dX5_drawnAct_57
      · have hf := kIf hf c_3
        have t_3 := ti_ne c_3
        have kv_4 : (3 : Int32).toInt = 3 := by decide
        refine (Classical.em (x0 = (3 : Int32))).elim (fun c_4 => ?_) (fun c_4 => ?_)
        · have hf := kIt hf c_4
          have t_4 := ti_eq c_4
          refine lv_tableIn (off := 55) (tgt := 56) hx hb dX5_drawnAct_1 (by omega) (by omega) (by rw [c_4]; decide) (by decide) ?_
          refine lv_iconst (v := (2 : Int32)) hx hb dX5_drawnAct_56 (by decide) ?_
          exact kRetI hx hb hr hlk hP hD hS hf.symm rfl hQ dX5_drawnAct_57
        · have hf := kIf hf c_4
          have t_4 := ti_ne c_4
          have kv_5 : (4 : Int32).toInt = 4 := by decide
          refine (Classical.em (x0 = (4 : Int32))).elim (fun c_5 => ?_) (fun c_5 => ?_)
          · have hf := kIt hf c_5
            have t_5 := ti_eq c_5
            refine lv_tableIn (off := 55) (tgt := 56) hx hb dX5_drawnAct_1 (by omega) (by omega) (by rw [c_5]; decide) (by decide) ?_
            refine lv_iconst (v := (2 : Int32)) hx hb dX5_drawnAct_56 (by decide) ?_
            exact kRetI hx hb hr hlk hP hD hS hf.symm rfl hQ dX5_drawnAct_57
          · have hf := kIf hf c_5
            have t_5 := ti_ne c_5
            have kv_6 : (5 : Int32).toInt = 5 := by decide
            refine (Classical.em (x0 = (5 : Int32))).elim (fun c_6 => ?_) (fun c_6 => ?_)
            · have hf := kIt hf c_6
              have t_6 := ti_eq c_6
              refine lv_tableIn (off := 49) (tgt := 50) hx hb dX5_drawnAct_1 (by omega) (by omega) (by rw [c_6]; decide) (by decide) ?_
              refine lv_iconst (v := (3 : Int32)) hx hb dX5_drawnAct_50 (by decide) ?_
              exact kRetI hx hb hr hlk hP hD hS hf.symm rfl hQ dX5_drawnAct_51
            · have hf := kIf hf c_6
              have t_6 := ti_ne c_6
              have kv_7 : (6 : Int32).toInt = 6 := by decide
              refine (Classical.em (x0 = (6 : Int32))).elim (fun c_7 => ?_) (fun c_7 => ?_)
              · have hf := kIt hf c_7
                have t_7 := ti_eq c_7
                refine lv_tableIn (off := 51) (tgt := 52) hx hb dX5_drawnAct_1 (by omega) (by omega) (by rw [c_7]; decide) (by decide) ?_
                refine lv_iconst (v := (4 : Int32)) hx hb dX5_drawnAct_52 (by decide) ?_
                exact kRetI hx hb hr hlk hP hD hS hf.symm rfl hQ dX5_drawnAct_53
              · have hf := kIf hf c_7
                have t_7 := ti_ne c_7
                have kv_8 : (7 : Int32).toInt = 7 := by decide
                refine (Classical.em (x0 = (7 : Int32))).elim (fun c_8 => ?_) (fun c_8 => ?_)
                · have hf := kIt hf c_8
                  have t_8 := ti_eq c_8
                  refine lv_tableIn (off := 53) (tgt := 54) hx hb dX5_drawnAct_1 (by omega) (by omega) (by rw [c_8]; decide) (by decide) ?_
                  refine lv_iconst (v := (5 : Int32)) hx hb dX5_drawnAct_54 (by decide) ?_
                  exact kRetI hx hb hr hlk hP hD hS hf.symm rfl hQ dX5_drawnAct_55
                · have hf := kIf hf c_8
                  have t_8 := ti_ne c_8
                  refine lv_tableOut (tgt := 56) hx hb dX5_drawnAct_1 (by omega) (by decide) ?_
                  refine lv_iconst (v := (2 : Int32)) hx hb dX5_drawnAct_56 (by decide) ?_
                  exact kRetI hx hb hr hlk hP hD hS hf.symm rfl hQ dX5_drawnAct_57
theorem kyX5_sailByDraws : kY yX5_sailByDraws cX5_sailByDraws 8 none wsX5_sailByDraws wsX5_sailByDraws.tail 3 := ⟨rfl, by decide, by decide, by decide +kernel⟩
set_option maxHeartbeats 4000000 in
set_option maxRecDepth 100000 in
theorem k_X5_sailByDraws (l : Launch) (D : va_G) (ct : ClassId × ClassId × ClassId) (z : Nat × Nat) (a : Nat) (a1 : Nat) (b1 : Nat) (a2 : Nat) (b2 : Nat) (x2 : Int32) (x3 : Int32) (v : Nat → Int32) (lo : Nat → Int64) (i : Nat → Int32) (f : Nat → Int32) (lo2 : Nat → Int64) (i2 : Nat → Int32) (f2 : Nat → Int32) (hm : x3.toInt ≤ 99) : kC l D ct z yX5_sailByDraws wsX5_sailByDraws 4 96 [.ref a, .ref a2, .int x2, .int x3] (vsW a a1 b1 a2 b2 ct v lo i f lo2 i2 f2) (none) (vsW a a1 b1 a2 b2 ct ((f_X5_sailByDraws x2 x3 v lo i f lo2 i2 f2).1) ((f_X5_sailByDraws x2 x3 v lo i f lo2 i2 f2).2.1) ((f_X5_sailByDraws x2 x3 v lo i f lo2 i2 f2).2.2.1) ((f_X5_sailByDraws x2 x3 v lo i f lo2 i2 f2).2.2.2) lo2 i2 f2) := by
  refine kHead (cc := cX5_sailByDraws) (maxL := 8) (ret := none) [(0, .ref a), (1, .ref a2), (2, .int x2), (3, .int x3)] (by decide) rfl (Nat.le_of_ble_eq_true rfl) rfl ?_
  intro p e s m args below meth c A ls R Q hRf hRl hQ hx hb hr hlk hml hown hts hA hS hK hP hD hl
  have hw1 := hts (Cond.constant RX5 66 (65537)) (List.mem_of_getElem? (i := 1) (by decide +kernel))
  have kc0 : (0 : Int32).toInt = 0 := by decide
  have kc1 : (1 : Int32).toInt = 1 := by decide
  have kc6 : (6 : Int32).toInt = 6 := by decide
  have kc8 : (8 : Int32).toInt = 8 := by decide
  have kc74 : (74 : Int32).toInt = 74 := by decide
  have kc75 : (75 : Int32).toInt = 75 := by decide
  have kc65537 : (65537 : Int32).toInt = 65537 := by decide
  have hf : f_X5_sailByDraws x2 x3 v lo i f lo2 i2 f2 = f_X5_sailByDraws x2 x3 v lo i f lo2 i2 f2 := rfl
  refine lv_aload_n hx hb dX5_sailByDraws_0 rfl (lv_at hl 0 rfl) ?_
  refine lv_aload_n hx hb dX5_sailByDraws_1 rfl (lv_at hl 1 rfl) ?_
  obtain ⟨q2, eq2⟩ : ∃ y, y = f_X5_setOut v lo i f lo2 i2 f2 := ⟨_, rfl⟩
  have hf := kLt hf eq2
  have hM : kC l D ct z yX5_setOut wsX5_setOut 1 22 [.ref a, .ref a2] (vsW a a1 b1 a2 b2 ct v lo i f lo2 i2 f2) (none) (vsW a a1 b1 a2 b2 ct q2.1 q2.2.1 q2.2.2.1 q2.2.2.2 lo2 i2 f2) := by rw [eq2]; exact k_X5_setOut l D ct z a a1 b1 a2 b2 v lo i f lo2 i2 f2
  refine kV1 (As := [.ref a2]) (rest := []) ⟨hx, hb, hml, hown, hts⟩ hM gX5_sailByDraws_X5_setOut kyX5_setOut (by rw [hRf, hRl]; exact ⟨Nat.le_of_ble_eq_true rfl, Nat.le_of_ble_eq_true rfl⟩) hK hP hD hS hA 0 rfl rfl rfl rfl hl.1 rfl (st1 := []) rfl rfl ⟨Nat.zero_le _, Nat.zero_le _⟩ dX5_sailByDraws_2 (fun H locs hP hD hS => ?_)
  refine lv_iload_n hx hb dX5_sailByDraws_5 rfl (lv_at hl 2 rfl) ?_
  refine lv_istore (lv' := [(4, .int x2), (0, .ref a), (1, .ref a2), (2, .int x2), (3, .int x3)]) hx hb dX5_sailByDraws_6 hl (by decide) rfl (fun ls hl => ?_)
  refine lv_iconst (v := (0 : Int32)) hx hb dX5_sailByDraws_8 (by decide) ?_
  refine lv_istore (lv' := [(5, .int (0 : Int32)), (4, .int x2), (0, .ref a), (1, .ref a2), (2, .int x2), (3, .int x3)]) hx hb dX5_sailByDraws_9 hl (by decide) rfl (fun ls hl => ?_)
  have lp11 : ∀ (K : (Nat → Int32) → (Nat → Int32) → ((Nat → Int32) × (Nat → Int64) × (Nat → Int32) × (Nat → Int32))), (∀ (z11_v : Nat → Int32) (z11_i : Nat → Int32), ∀ (H : Heap) (locs : List Loc) (ls : Array Slot), va_P D vwCl (vsW a a1 b1 a2 b2 ct z11_v q2.2.1 z11_i q2.2.2.2 lo2 i2 f2) H → va_D A (vsW a a1 b1 a2 b2 ct z11_v q2.2.1 z11_i q2.2.2.2 lo2 i2 f2) → va_S A s.heap H locs → lv_has ls 8 [] → f_X5_sailByDraws x2 x3 v lo i f lo2 i2 f2 = K z11_v z11_i → W p l e R s m args below meth c H locs 0 0 Q (F0 m 78 ls [])) → ∀ (n : Nat) (z11_5 : Int32) (z11_4 : Int32) (z11_v : Nat → Int32) (z11_i : Nat → Int32), ∀ (H : Heap) (locs : List Loc) (ls : Array Slot), (x3.toInt ≤ Int32.toInt z11_5 + (n : Int)) → va_P D vwCl (vsW a a1 b1 a2 b2 ct z11_v q2.2.1 z11_i q2.2.2.2 lo2 i2 f2) H → va_D A (vsW a a1 b1 a2 b2 ct z11_v q2.2.1 z11_i q2.2.2.2 lo2 i2 f2) → va_S A s.heap H locs → lv_has ls 8 [(5, .int z11_5), (4, .int z11_4), (0, .ref a), (3, .int x3)] → f_X5_sailByDraws x2 x3 v lo i f lo2 i2 f2 = f_X5_sailByDraws_L11 x3 q2 K n z11_5 z11_4 z11_v z11_i → W p l e R s m args below meth c H locs 0 0 Q (F0 m 11 ls []) := by
    intro K hk n
    induction n with
    | zero =>
      intro z11_5 z11_4 z11_v z11_i  H locs ls hn11 hP hD hS hl hf
      refine lv_iload hx hb dX5_sailByDraws_11 (lv_at hl 0 rfl) ?_
      refine lv_iload_n hx hb dX5_sailByDraws_13 rfl (lv_at hl 3 rfl) ?_
      refine lv_icmp_ge (tgt := 78) hx hb dX5_sailByDraws_14 (by decide) (fun c_3 => ?_) (fun c_3 => ?_)
      · have t_3 := ti_le c_3
        exact hk _ _ _ _ _  hP hD hS (lv_sub hl [] rfl) hf
      · have t_3 := ti_nle c_3
        exfalso
        omega
    | succ n ih =>
      intro z11_5 z11_4 z11_v z11_i  H locs ls hn11 hP hD hS hl hf
      refine lv_iload hx hb dX5_sailByDraws_11 (lv_at hl 0 rfl) ?_
      refine lv_iload_n hx hb dX5_sailByDraws_13 rfl (lv_at hl 3 rfl) ?_
      refine lv_icmp_ge (tgt := 78) hx hb dX5_sailByDraws_14 (by decide) (fun c_1 => ?_) (fun c_1 => ?_)
      · have hf := kIt hf c_1
        have t_1 := ti_le c_1
        exact hk _ _ _ _ _  hP hD hS (lv_sub hl [] rfl) hf
      · have hf := kIf hf c_1
        have t_1 := ti_nle c_1
        refine lv_bipush (v := (75 : Int32)) hx hb dX5_sailByDraws_17 (by decide) ?_
        refine lv_iload hx hb dX5_sailByDraws_19 (lv_at hl 1 rfl) ?_
        refine lv_imul hx hb dX5_sailByDraws_21 ?_
        refine lv_bipush (v := (74 : Int32)) hx hb dX5_sailByDraws_22 (by decide) ?_
        refine lv_iadd hx hb dX5_sailByDraws_24 ?_
        refine lv_ldc (v := (65537 : Int32)) hx hb hown hw1 dX5_sailByDraws_25 ?_
        refine lv_irem hx hb dX5_sailByDraws_27 (by decide) ?_
        refine lv_topi (fun y28 ey28 => ?_)
        have hf := kLt hf ey28
        refine lv_istore (lv' := [(4, .int y28), (5, .int z11_5), (0, .ref a), (3, .int x3)]) hx hb dX5_sailByDraws_28 hl (by decide) rfl (fun ls hl => ?_)
        refine lv_iload hx hb dX5_sailByDraws_30 (lv_at hl 0 rfl) ?_
        refine lv_bipush (v := (8 : Int32)) hx hb dX5_sailByDraws_32 (by decide) ?_
        refine lv_irem hx hb dX5_sailByDraws_34 (by decide) ?_
        have hM : kC l D ct z yX5_drawnAct wsX5_drawnAct 0 0 [.int (jr y28 (8 : Int32))] ([]) (some (.int (f_X5_drawnAct (jr y28 (8 : Int32))))) ([]) := k_X5_drawnAct l D ct z (jr y28 (8 : Int32))
        refine kS0 (As := [.int (jr y28 (8 : Int32))]) (rest := []) ⟨hx, hb, hml, hown, hts⟩ hM gX5_sailByDraws_X5_drawnAct kyX5_drawnAct (by rw [hRf, hRl]; exact ⟨Nat.le_of_ble_eq_true rfl, Nat.le_of_ble_eq_true rfl⟩) hK hP hD hS hA rfl hl.1 rfl (st1 := [.int (f_X5_drawnAct (jr y28 (8 : Int32)))]) rfl rfl ⟨Nat.zero_le _, Nat.zero_le _⟩ dX5_sailByDraws_35 (fun H locs hP hD hS => ?_)
        refine lv_topi (fun y38 ey38 => ?_)
        have hf := kLt hf ey38
        refine lv_istore (lv' := [(6, .int y38), (4, .int y28), (5, .int z11_5), (0, .ref a), (3, .int x3)]) hx hb dX5_sailByDraws_38 hl (by decide) rfl (fun ls hl => ?_)
        refine lv_iload hx hb dX5_sailByDraws_40 (lv_at hl 1 rfl) ?_
        refine lv_bipush (v := (8 : Int32)) hx hb dX5_sailByDraws_42 (by decide) ?_
        refine lv_idiv hx hb dX5_sailByDraws_44 (by decide) ?_
        refine lv_topi (fun y45 ey45 => ?_)
        have hf := kLt hf ey45
        refine lv_istore (lv' := [(7, .int y45), (6, .int y38), (4, .int y28), (5, .int z11_5), (0, .ref a), (3, .int x3)]) hx hb dX5_sailByDraws_45 hl (by decide) rfl (fun ls hl => ?_)
        refine lv_aload_n hx hb dX5_sailByDraws_47 rfl (lv_at hl 4 rfl) ?_
        refine lv_iload hx hb dX5_sailByDraws_48 (lv_at hl 1 rfl) ?_
        refine lv_iload hx hb dX5_sailByDraws_50 (lv_at hl 1 rfl) ?_
        refine kJn hf (fun j0 => ∀ (z68_s0 : Int32), f_X5_sailByDraws x2 x3 v lo i f lo2 i2 f2 = j0 z68_s0 → ∀ (H : Heap) (locs : List Loc) (ls : Array Slot), va_P D vwCl (vsW a a1 b1 a2 b2 ct z11_v q2.2.1 z11_i q2.2.2.2 lo2 i2 f2) H → va_D A (vsW a a1 b1 a2 b2 ct z11_v q2.2.1 z11_i q2.2.2.2 lo2 i2 f2) → va_S A s.heap H locs → lv_has ls 8 [(4, .int y28), (5, .int z11_5), (0, .ref a), (3, .int x3)] → W p l e R s m args below meth c H locs 0 0 Q (F0 m 68 ls [.int z68_s0, .int y38, .ref a])) ?_ ?_
        · intro j0 hj0 z68_s0  hf H locs ls hP hD hS hl
          subst hj0
          obtain ⟨q68, eq68⟩ : ∃ y, y = f_X5_tryAct y38 z68_s0 z11_v q2.2.1 z11_i q2.2.2.2 := ⟨_, rfl⟩
          have hf := kLt hf eq68
          have hM : kC l D ct z yX5_tryAct wsX5_tryAct 3 72 [.ref a, .int y38, .int z68_s0] (voW a a1 b1 ct z11_v q2.2.1 z11_i q2.2.2.2) (some (.int q68.1)) (voW a a1 b1 ct q68.2.1 q2.2.1 q68.2.2 q2.2.2.2) := by rw [eq68]; exact k_X5_tryAct l D ct z a a1 b1 y38 z68_s0 z11_v q2.2.1 z11_i q2.2.2.2
          refine kV (As := [.int y38, .int z68_s0]) (rest := []) (W1 := vsW a a1 b1 a2 b2 ct q68.2.1 q2.2.1 q68.2.2 q2.2.2.2 lo2 i2 f2) ⟨hx, hb, hml, hown, hts⟩ hM gX5_sailByDraws_X5_tryAct kyX5_tryAct (by rw [hRf, hRl]; exact ⟨Nat.le_of_ble_eq_true rfl, Nat.le_of_ble_eq_true rfl⟩) hK hP hD hS hA [0, 1, 2] [3, 4] [2, 3, 4, 0, 1] 0 rfl rfl rfl rfl rfl ⟨rfl, rfl⟩ (by decide) rfl rfl rfl hl.1 rfl (st1 := [.int q68.1]) rfl rfl ⟨Nat.zero_le _, Nat.zero_le _⟩ dX5_sailByDraws_68 (fun H locs hP hD hS => ?_)
          refine lv_pop hx hb dX5_sailByDraws_71 rfl ?_
          obtain ⟨y72, ey72⟩ : ∃ y : Int32, y = z11_5 + (1 : Int32) := ⟨_, rfl⟩
          have hf := kLt hf ey72
          have a72 : Int32.toInt y72 = Int32.toInt z11_5 + 1 := by have := ti_rng z11_5; rw [ey72]; exact ti_add (by rw [kc1]) (by omega) (by omega)
          refine lv_iinc (v := y72) (lv' := [(5, .int y72), (4, .int y28), (0, .ref a), (3, .int x3)]) hx hb dX5_sailByDraws_72 hl (k := 1) rfl (by rw [ey72]; rfl) (by decide) rfl (fun ls hl => ?_)
          refine lv_goto (tgt := 11) hx hb dX5_sailByDraws_75 (by decide) ?_
          exact ih y72 y28 q68.2.1 q68.2.2 _ _ _ (by first | assumption | exact vin (by omega) (by omega) | omega) hP hD hS (lv_sub hl [0, 1, 2, 3] rfl) hf
        · intro j68 hJ68 hf
          refine lv_if_ne (tgt := 63) hx hb dX5_sailByDraws_52 (by decide) (fun c_2 => ?_) (fun c_2 => ?_)
          · have hf := kIf hf c_2
            have t_2 := ti_ne c_2
            refine lv_iload hx hb dX5_sailByDraws_63 (lv_at hl 0 rfl) ?_
            refine lv_bipush (v := (8 : Int32)) hx hb dX5_sailByDraws_65 (by decide) ?_
            refine lv_irem hx hb dX5_sailByDraws_67 (by decide) ?_
            exact hJ68 _  hf _ _ _ hP hD hS (lv_sub hl [2, 3, 4, 5] rfl)
          · have hf := kIt hf c_2
            have t_2 := ti_eq c_2
            refine lv_iload hx hb dX5_sailByDraws_55 (lv_at hl 0 rfl) ?_
            refine lv_bipush (v := (6 : Int32)) hx hb dX5_sailByDraws_57 (by decide) ?_
            refine lv_irem hx hb dX5_sailByDraws_59 (by decide) ?_
            refine lv_goto (tgt := 68) hx hb dX5_sailByDraws_60 (by decide) ?_
            exact hJ68 _  hf _ _ _ hP hD hS (lv_sub hl [2, 3, 4, 5] rfl)
  refine lp11 _ (fun w11_v w11_i  H locs ls  hP hD hS hl hf => ?_) (99) (0 : Int32) x2 q2.1 q2.2.2.1  _ _ _ (by first | assumption | exact vin (by omega) (by omega) | omega) hP hD hS (lv_sub hl [0, 1, 2, 5] rfl) hf
  exact kRetV hx hb hr hlk hP hD hS ((congrArg (fun q => vsW a a1 b1 a2 b2 ct q.1 q.2.1 q.2.2.1 q.2.2.2 lo2 i2 f2) hf).symm) hQ dX5_sailByDraws_78
