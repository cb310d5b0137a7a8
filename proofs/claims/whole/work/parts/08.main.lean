/-! contracts, laid by program (wip/whole/gen.py, ann.py) -/
theorem kyX6_within : kY yX6_within cX6_within 3 (some .boolean) wsX6_within wsX6_within.tail 3 := ⟨rfl, by decide, by decide, by decide +kernel⟩
set_option maxHeartbeats 4000000 in
set_option maxRecDepth 100000 in
theorem k_X6_within (l : Launch) (D : va_G) (ct : ClassId × ClassId × ClassId) (z : Nat × Nat)  (x0 : Int32) (x1 : Int32) (x2 : Int32)  : kC l D ct z yX6_within wsX6_within 0 0 [.int x0, .int x1, .int x2] ([]) (some (.int (f_X6_within x0 x1 x2))) ([]) := by
  refine kHead (cc := cX6_within) (maxL := 3) (ret := (some .boolean)) [(0, .int x0), (1, .int x1), (2, .int x2)] (by decide) rfl (Nat.le_of_ble_eq_true rfl) rfl ?_
  intro p e s m args below meth c A ls R Q hRf hRl hQ hx hb hr hlk hml hown hts hA hS hK hP hD hl
  have kc0 : (0 : Int32).toInt = 0 := by decide
  have kc1 : (1 : Int32).toInt = 1 := by decide
  have hf : f_X6_within x0 x1 x2 = f_X6_within x0 x1 x2 := rfl
  refine lv_iload_n hx hb dX6_within_0 rfl (lv_at hl 0 rfl) ?_
  refine lv_iload_n hx hb dX6_within_1 rfl (lv_at hl 1 rfl) ?_
  refine lv_icmp_lt (tgt := 14) hx hb dX6_within_2 (by decide) (fun c_1 => ?_) (fun c_1 => ?_)
  · have hf := kIt hf c_1
    have t_1 := ti_lt c_1
    refine lv_iconst (v := (0 : Int32)) hx hb dX6_within_14 (by decide) ?_
    exact kRetZ hx hb hr hlk hP hD hS (Or.inl rfl) hf.symm rfl hQ dX6_within_15
  · have hf := kIf hf c_1
    have t_1 := ti_nlt c_1
    refine lv_iload_n hx hb dX6_within_5 rfl (lv_at hl 0 rfl) ?_
    refine lv_iload_n hx hb dX6_within_6 rfl (lv_at hl 2 rfl) ?_
    refine lv_icmp_gt (tgt := 14) hx hb dX6_within_7 (by decide) (fun c_2 => ?_) (fun c_2 => ?_)
    · have hf := kIt hf c_2
      have t_2 := ti_lt c_2
      refine lv_iconst (v := (0 : Int32)) hx hb dX6_within_14 (by decide) ?_
      exact kRetZ hx hb hr hlk hP hD hS (Or.inl rfl) hf.symm rfl hQ dX6_within_15
    · have hf := kIf hf c_2
      have t_2 := ti_nlt c_2
      refine lv_iconst (v := (1 : Int32)) hx hb dX6_within_10 (by decide) ?_
      refine lv_goto (tgt := 15) hx hb dX6_within_11 (by decide) ?_
      exact kRetZ hx hb hr hlk hP hD hS (Or.inr rfl) hf.symm rfl hQ dX6_within_15
theorem kyX6_land : kY yX6_land cX6_land 5 (some .int) wsX6_land wsX6_land.tail 2 := ⟨rfl, by decide, by decide, by decide +kernel⟩
set_option maxHeartbeats 4000000 in
set_option maxRecDepth 100000 in
theorem k_X6_land (l : Launch) (D : va_G) (ct : ClassId × ClassId × ClassId) (z : Nat × Nat) (cd : Nat → Nat) (x1 : Int32) (x2 : Int32) (L : Nat → Nat → Int64) (I : Nat → Nat → Int32)  : kC l D ct z yX6_land wsX6_land 1 22 [.ref (cd 0), .int x1, .int x2] (xW cd ct L I) (some (.int ((f_X6_land x1 x2 L I).1))) (xW cd ct ((f_X6_land x1 x2 L I).2) I) := by
  refine kHead (cc := cX6_land) (maxL := 5) (ret := (some .int)) [(0, .ref (cd 0)), (1, .int x1), (2, .int x2)] (by decide) rfl (Nat.le_of_ble_eq_true rfl) rfl ?_
  intro p e s m args below meth c A ls R Q hRf hRl hQ hx hb hr hlk hml hown hts hA hS hK hP hD hl
  have inX4 : ∀ w ∈ wsX40, w ∈ wsX6_land := fun w h => (List.mem_cons_of_mem _ (List.mem_append_right _ h))
  have inX6 : ∀ w ∈ wsX60, w ∈ wsX6_land := fun w h => (List.mem_cons_of_mem _ (List.mem_append_left _ (List.mem_append_right _ h)))
  have hw1 := hts (Cond.fieldLink RX6 10 "MastPulpits" "sea" "LMastPulpits$Sea;") (List.mem_of_getElem? (i := 1) (by decide +kernel))
  have hw2 := hts (Cond.fieldLink RX6 62 "MastPulpits$Sea" "shipCell" "I") (List.mem_of_getElem? (i := 2) (by decide +kernel))
  have hw3 := hts (Cond.fieldLink RX6 70 "MastPulpits$Sea" "lands" "J") (List.mem_of_getElem? (i := 3) (by decide +kernel))
  have hw4 := hts (Cond.constantLong RX6 74 (-1)) (List.mem_of_getElem? (i := 4) (by decide +kernel))
  have kcm3 : (-3 : Int32).toInt = -3 := by decide
  have kcm2 : (-2 : Int32).toInt = -2 := by decide
  have kcm1 : (-1 : Int32).toInt = -1 := by decide
  have kc0 : (0 : Int32).toInt = 0 := by decide
  have kc1 : (1 : Int32).toInt = 1 := by decide
  have klm1 : (-1 : Int64).toInt = -1 := by decide
  have hf : f_X6_land x1 x2 L I = f_X6_land x1 x2 L I := rfl
  refine lv_iload_n hx hb dX6_land_0 rfl (lv_at hl 1 rfl) ?_
  have hM : kC l D ct z yX0_isCell wsX0_isCell 0 0 [.int x1] ([]) (some (.int (f_X0_isCell x1))) ([]) := k_X0_isCell l D ct z x1
  refine kS0 (As := [.int x1]) (rest := []) ⟨hx, hb, hml, hown, hts⟩ hM gX6_land_X0_isCell kyX0_isCell (by rw [hRf, hRl]; exact ⟨Nat.le_of_ble_eq_true rfl, Nat.le_of_ble_eq_true rfl⟩) hK hP hD hS hA rfl hl.1 rfl (st1 := [.int (f_X0_isCell x1)]) rfl rfl ⟨Nat.zero_le _, Nat.zero_le _⟩ dX6_land_1 (fun H locs hP hD hS => ?_)
  refine lv_if_ne (tgt := 9) hx hb dX6_land_4 (by decide) (fun c_1 => ?_) (fun c_1 => ?_)
  · have hf := kIf hf c_1
    have t_1 := ti_ne c_1; have w_1 := xcell_nz c_1
    refine lv_iload_n hx hb dX6_land_9 rfl (lv_at hl 2 rfl) ?_
    refine lv_iconst (v := (0 : Int32)) hx hb dX6_land_10 (by decide) ?_
    refine lv_iconst (v := (1 : Int32)) hx hb dX6_land_11 (by decide) ?_
    have hM : kC l D ct z yX6_within wsX6_within 0 0 [.int x2, .int (0 : Int32), .int (1 : Int32)] ([]) (some (.int (f_X6_within x2 (0 : Int32) (1 : Int32)))) ([]) := k_X6_within l D ct z x2 (0 : Int32) (1 : Int32)
    refine kS0 (As := [.int x2, .int (0 : Int32), .int (1 : Int32)]) (rest := []) ⟨hx, hb, hml, hown, hts⟩ hM gX6_land_X6_within kyX6_within (by rw [hRf, hRl]; exact ⟨Nat.le_of_ble_eq_true rfl, Nat.le_of_ble_eq_true rfl⟩) hK hP hD hS hA rfl hl.1 rfl (st1 := [.int (f_X6_within x2 (0 : Int32) (1 : Int32))]) rfl rfl ⟨Nat.zero_le _, Nat.zero_le _⟩ dX6_land_12 (fun H locs hP hD hS => ?_)
    refine lv_if_ne (tgt := 21) hx hb dX6_land_15 (by decide) (fun c_2 => ?_) (fun c_2 => ?_)
    · have hf := kIf hf c_2
      have t_2 := ti_ne c_2; have w_2 := within_nz c_2
      refine lv_iload_n hx hb dX6_land_21 rfl (lv_at hl 2 rfl) ?_
      refine lv_iconst (v := (1 : Int32)) hx hb dX6_land_22 (by decide) ?_
      refine kJn hf (fun j0 => ∀ (u0 : Unit), f_X6_land x1 x2 L I = j0 () → ∀ (H : Heap) (locs : List Loc) (ls : Array Slot), va_P D vwCl (xW cd ct L I) H → va_D A (xW cd ct L I) → va_S A s.heap H locs → lv_has ls 5 [(0, .ref (cd 0)), (1, .int x1), (2, .int x2)] → W p l e R s m args below meth c H locs 0 0 Q (F0 m 40 ls [])) ?_ ?_
      · intro j0 hj0 u0  hf H locs ls hP hD hS hl
        subst hj0
        refine lv_iload_n hx hb dX6_land_40 rfl (lv_at hl 1 rfl) ?_
        have hM : kC l D ct z yX0_only wsX0_only 0 0 [.int x1] ([]) (some (.long (f_X0_only x1))) ([]) := k_X0_only l D ct z x1
        refine kS0 (As := [.int x1]) (rest := []) ⟨hx, hb, hml, hown, hts⟩ hM gX6_land_X0_only kyX0_only (by rw [hRf, hRl]; exact ⟨Nat.le_of_ble_eq_true rfl, Nat.le_of_ble_eq_true rfl⟩) hK hP hD hS hA rfl hl.1 rfl (st1 := [.long (f_X0_only x1)]) rfl rfl ⟨Nat.zero_le _, Nat.zero_le _⟩ dX6_land_41 (fun H locs hP hD hS => ?_)
        refine lv_topl (fun y44 ey44 => ?_)
        have hf := kLt hf ey44
        refine lv_lstore_n (lv' := [(3, .long y44), (0, .ref (cd 0)), (1, .int x1), (2, .int x2)]) hx hb dX6_land_44 rfl hl (by decide) rfl (fun ls hl => ?_)
        refine lv_aload_n hx hb dX6_land_45 rfl (lv_at hl 1 rfl) ?_
        refine va_get (D := D) (cl := vwCl) (ci := 5) (v := .ref (cd 3)) (C := RX6) (T := TX6) (N := 7) hx hb hts inX6 hown hK.1 hP 0 rfl rfl 0 (by decide) hw1 (fun _ h => h) rfl dX6_land_46 ?_
        refine lv_iload_n hx hb dX6_land_49 rfl (lv_at hl 3 rfl) ?_
        refine lv_iconst (v := (1 : Int32)) hx hb dX6_land_50 (by decide) ?_
        refine kJn hf (fun j0 => ∀ (z79_s0 : Int64), f_X6_land x1 x2 L I = j0 z79_s0 → ∀ (H : Heap) (locs : List Loc) (ls : Array Slot), va_P D vwCl (xW cd ct L I) H → va_D A (xW cd ct L I) → va_S A s.heap H locs → lv_has ls 5 [(0, .ref (cd 0))] → W p l e R s m args below meth c H locs 0 0 Q (F0 m 79 ls [.long z79_s0, .ref (cd 3)])) ?_ ?_
        · intro j0 hj0 z79_s0  hf H locs ls hP hD hS hl
          subst hj0
          refine kPut (ci := 3) (C := RX4) (T := TX4) (N := 10) (ty := .long) (v := .long z79_s0) (W1 := xW cd ct (u2 L 3 0 z79_s0) I) hx hb hts inX4 tyX4 tyX4_ok nmX4 hown hK hP hD hS 3 rfl rfl 0 (by decide) hw3 (fun _ h => h) rfl (by decide +kernel) rfl rfl (Nat.le_of_ble_eq_true rfl) rfl dX6_land_79 (fun H locs hP hD hS => ?_)
          refine lv_aload_n hx hb dX6_land_82 rfl (lv_at hl 0 rfl) ?_
          refine va_get (D := D) (cl := vwCl) (ci := 5) (v := .ref (cd 3)) (C := RX6) (T := TX6) (N := 7) hx hb hts inX6 hown hK.1 hP 0 rfl rfl 0 (by decide) hw1 (fun _ h => h) rfl dX6_land_83 ?_
          refine va_get (D := D) (cl := vwCl) (ci := 3) (v := .long z79_s0) (C := RX4) (T := TX4) (N := 10) hx hb hts inX4 hown hK.1 hP 3 rfl rfl 0 (by decide) hw3 (fun _ h => h) rfl dX6_land_86 ?_
          have hM : kC l D ct z yJ13_bitCount_95d88 wsJ13_bitCount_95d88 0 0 [.long z79_s0] ([]) (some (.int (f_J13_bitCount_95d88 z79_s0))) ([]) := k_J13_bitCount_95d88 l D ct z z79_s0
          refine kS0 (As := [.long z79_s0]) (rest := []) ⟨hx, hb, hml, hown, hts⟩ hM gX6_land_J13_bitCount_95d88 kyJ13_bitCount_95d88 (by rw [hRf, hRl]; exact ⟨Nat.le_of_ble_eq_true rfl, Nat.le_of_ble_eq_true rfl⟩) hK hP hD hS hA rfl hl.1 rfl (st1 := [.int (f_J13_bitCount_95d88 z79_s0)]) rfl rfl ⟨Nat.zero_le _, Nat.zero_le _⟩ dX6_land_89 (fun H locs hP hD hS => ?_)
          exact kRetI hx hb hr hlk hP hD hS (kfst hf) ((congrArg (fun q => xW cd ct q.2 I) hf).symm) hQ dX6_land_92
        · intro j79 hJ79 hf
          refine lv_icmp_ne (tgt := 66) hx hb dX6_land_51 (by decide) (fun c_4 => ?_) (fun c_4 => ?_)
          · have hf := kIf hf c_4
            have t_4 := ti_ne c_4
            refine lv_aload_n hx hb dX6_land_66 rfl (lv_at hl 1 rfl) ?_
            refine va_get (D := D) (cl := vwCl) (ci := 5) (v := .ref (cd 3)) (C := RX6) (T := TX6) (N := 7) hx hb hts inX6 hown hK.1 hP 0 rfl rfl 0 (by decide) hw1 (fun _ h => h) rfl dX6_land_67 ?_
            refine va_get (D := D) (cl := vwCl) (ci := 3) (v := .long (L 3 0)) (C := RX4) (T := TX4) (N := 10) hx hb hts inX4 hown hK.1 hP 3 rfl rfl 0 (by decide) hw3 (fun _ h => h) rfl dX6_land_70 ?_
            refine lv_lload_n hx hb dX6_land_73 rfl (lv_at hl 0 rfl) ?_
            refine lv_ldc2 (v := (-1 : Int64)) hx hb hown hw4 dX6_land_74 ?_
            refine lv_lxor hx hb dX6_land_77 ?_
            refine lv_land hx hb dX6_land_78 ?_
            exact hJ79 _  hf _ _ _ hP hD hS (lv_sub hl [1] rfl)
          · have hf := kIt hf c_4
            have t_4 := ti_eq c_4
            refine lv_aload_n hx hb dX6_land_54 rfl (lv_at hl 1 rfl) ?_
            refine va_get (D := D) (cl := vwCl) (ci := 5) (v := .ref (cd 3)) (C := RX6) (T := TX6) (N := 7) hx hb hts inX6 hown hK.1 hP 0 rfl rfl 0 (by decide) hw1 (fun _ h => h) rfl dX6_land_55 ?_
            refine va_get (D := D) (cl := vwCl) (ci := 3) (v := .long (L 3 0)) (C := RX4) (T := TX4) (N := 10) hx hb hts inX4 hown hK.1 hP 3 rfl rfl 0 (by decide) hw3 (fun _ h => h) rfl dX6_land_58 ?_
            refine lv_lload_n hx hb dX6_land_61 rfl (lv_at hl 0 rfl) ?_
            refine lv_lor hx hb dX6_land_62 ?_
            refine lv_goto (tgt := 79) hx hb dX6_land_63 (by decide) ?_
            exact hJ79 _  hf _ _ _ hP hD hS (lv_sub hl [1] rfl)
      · intro j40 hJ40 hf
        refine lv_icmp_ne (tgt := 40) hx hb dX6_land_23 (by decide) (fun c_3 => ?_) (fun c_3 => ?_)
        · have hf := kIf hf c_3
          have t_3 := ti_ne c_3
          exact hJ40 ()  hf _ _ _ hP hD hS (lv_sub hl [0, 1, 2] rfl)
        · have hf := kIt hf c_3
          have t_3 := ti_eq c_3
          refine lv_iload_n hx hb dX6_land_26 rfl (lv_at hl 1 rfl) ?_
          refine lv_aload_n hx hb dX6_land_27 rfl (lv_at hl 0 rfl) ?_
          refine va_get (D := D) (cl := vwCl) (ci := 5) (v := .ref (cd 3)) (C := RX6) (T := TX6) (N := 7) hx hb hts inX6 hown hK.1 hP 0 rfl rfl 0 (by decide) hw1 (fun _ h => h) rfl dX6_land_28 ?_
          refine va_get (D := D) (cl := vwCl) (ci := 3) (v := .int (I 3 1)) (C := RX4) (T := TX4) (N := 10) hx hb hts inX4 hown hK.1 hP 3 rfl rfl 1 (by decide) hw2 (fun _ h => h) rfl dX6_land_31 ?_
          refine lv_icmp_ne (tgt := 40) hx hb dX6_land_34 (by decide) (fun c_5 => ?_) (fun c_5 => ?_)
          · have hf := kIf hf c_5
            have t_5 := ti_ne c_5
            exact hJ40 ()  hf _ _ _ hP hD hS (lv_sub hl [0, 1, 2] rfl)
          · have hf := kIt hf c_5
            have t_5 := ti_eq c_5
            refine lv_bipush (v := (-3 : Int32)) hx hb dX6_land_37 (by decide) ?_
            exact kRetI hx hb hr hlk hP hD hS (kfst hf) ((congrArg (fun q => xW cd ct q.2 I) hf).symm) hQ dX6_land_39
    · have hf := kIt hf c_2
      have t_2 := ti_eq c_2
      refine lv_bipush (v := (-2 : Int32)) hx hb dX6_land_18 (by decide) ?_
      exact kRetI hx hb hr hlk hP hD hS (kfst hf) ((congrArg (fun q => xW cd ct q.2 I) hf).symm) hQ dX6_land_20
  · have hf := kIt hf c_1
    have t_1 := ti_eq c_1
    refine lv_iconst (v := (-1 : Int32)) hx hb dX6_land_7 (by decide) ?_
    exact kRetI hx hb hr hlk hP hD hS (kfst hf) ((congrArg (fun q => xW cd ct q.2 I) hf).symm) hQ dX6_land_8
theorem kyX6_ship : kY yX6_ship cX6_ship 4 (some .int) wsX6_ship wsX6_ship.tail 2 := ⟨rfl, by decide, by decide, by decide +kernel⟩
set_option maxHeartbeats 4000000 in
set_option maxRecDepth 100000 in
theorem k_X6_ship (l : Launch) (D : va_G) (ct : ClassId × ClassId × ClassId) (z : Nat × Nat) (cd : Nat → Nat) (x1 : Int32) (x2 : Int32) (L : Nat → Nat → Int64) (I : Nat → Nat → Int32)  : kC l D ct z yX6_ship wsX6_ship 2 43 [.ref (cd 0), .int x1, .int x2] (xW cd ct L I) (some (.int ((f_X6_ship x1 x2 L I).1))) (xW cd ct L ((f_X6_ship x1 x2 L I).2)) := by
  refine kHead (cc := cX6_ship) (maxL := 4) (ret := (some .int)) [(0, .ref (cd 0)), (1, .int x1), (2, .int x2)] (by decide) rfl (Nat.le_of_ble_eq_true rfl) rfl ?_
  intro p e s m args below meth c A ls R Q hRf hRl hQ hx hb hr hlk hml hown hts hA hS hK hP hD hl
  have inX4 : ∀ w ∈ wsX40, w ∈ wsX6_ship := fun w h => (List.mem_cons_of_mem _ (List.mem_append_right _ h))
  have inX6 : ∀ w ∈ wsX60, w ∈ wsX6_ship := fun w h => (List.mem_cons_of_mem _ (List.mem_append_left _ (List.mem_append_right _ h)))
  have hw1 := hts (Cond.fieldLink RX6 10 "MastPulpits" "sea" "LMastPulpits$Sea;") (List.mem_of_getElem? (i := 1) (by decide +kernel))
  have hw2 := hts (Cond.fieldLink RX6 62 "MastPulpits$Sea" "shipCell" "I") (List.mem_of_getElem? (i := 2) (by decide +kernel))
  have hw3 := hts (Cond.fieldLink RX6 85 "MastPulpits$Sea" "shipHull" "I") (List.mem_of_getElem? (i := 3) (by decide +kernel))
  have kcm3 : (-3 : Int32).toInt = -3 := by decide
  have kcm2 : (-2 : Int32).toInt = -2 := by decide
  have kcm1 : (-1 : Int32).toInt = -1 := by decide
  have kc0 : (0 : Int32).toInt = 0 := by decide
  have kc9 : (9 : Int32).toInt = 9 := by decide
  have hf : f_X6_ship x1 x2 L I = f_X6_ship x1 x2 L I := rfl
  refine lv_iload_n hx hb dX6_ship_0 rfl (lv_at hl 1 rfl) ?_
  have hM : kC l D ct z yX0_isCell wsX0_isCell 0 0 [.int x1] ([]) (some (.int (f_X0_isCell x1))) ([]) := k_X0_isCell l D ct z x1
  refine kS0 (As := [.int x1]) (rest := []) ⟨hx, hb, hml, hown, hts⟩ hM gX6_ship_X0_isCell kyX0_isCell (by rw [hRf, hRl]; exact ⟨Nat.le_of_ble_eq_true rfl, Nat.le_of_ble_eq_true rfl⟩) hK hP hD hS hA rfl hl.1 rfl (st1 := [.int (f_X0_isCell x1)]) rfl rfl ⟨Nat.zero_le _, Nat.zero_le _⟩ dX6_ship_1 (fun H locs hP hD hS => ?_)
  refine lv_if_ne (tgt := 9) hx hb dX6_ship_4 (by decide) (fun c_1 => ?_) (fun c_1 => ?_)
  · have hf := kIf hf c_1
    have t_1 := ti_ne c_1; have w_1 := xcell_nz c_1
    refine lv_iload_n hx hb dX6_ship_9 rfl (lv_at hl 2 rfl) ?_
    refine lv_iconst (v := (0 : Int32)) hx hb dX6_ship_10 (by decide) ?_
    refine lv_bipush (v := (9 : Int32)) hx hb dX6_ship_11 (by decide) ?_
    have hM : kC l D ct z yX6_within wsX6_within 0 0 [.int x2, .int (0 : Int32), .int (9 : Int32)] ([]) (some (.int (f_X6_within x2 (0 : Int32) (9 : Int32)))) ([]) := k_X6_within l D ct z x2 (0 : Int32) (9 : Int32)
    refine kS0 (As := [.int x2, .int (0 : Int32), .int (9 : Int32)]) (rest := []) ⟨hx, hb, hml, hown, hts⟩ hM gX6_ship_X6_within kyX6_within (by rw [hRf, hRl]; exact ⟨Nat.le_of_ble_eq_true rfl, Nat.le_of_ble_eq_true rfl⟩) hK hP hD hS hA rfl hl.1 rfl (st1 := [.int (f_X6_within x2 (0 : Int32) (9 : Int32))]) rfl rfl ⟨Nat.zero_le _, Nat.zero_le _⟩ dX6_ship_13 (fun H locs hP hD hS => ?_)
    refine lv_if_ne (tgt := 22) hx hb dX6_ship_16 (by decide) (fun c_2 => ?_) (fun c_2 => ?_)
    · have hf := kIf hf c_2
      have t_2 := ti_ne c_2; have w_2 := within_nz c_2
      refine lv_aload_n hx hb dX6_ship_22 rfl (lv_at hl 0 rfl) ?_
      refine va_get (D := D) (cl := vwCl) (ci := 5) (v := .ref (cd 3)) (C := RX6) (T := TX6) (N := 7) hx hb hts inX6 hown hK.1 hP 0 rfl rfl 0 (by decide) hw1 (fun _ h => h) rfl dX6_ship_23 ?_
      refine lv_iload_n hx hb dX6_ship_26 rfl (lv_at hl 1 rfl) ?_
      have hM : kC l D ct z yX4_isLand wsX4_isLand 1 22 [.ref (cd 3), .int x1] (seW (cd 3) (cd 4) ct (L 3) (I 3) (I 4)) (some (.int (f_X4_isLand x1 (L 3) (I 3) (I 4)))) (seW (cd 3) (cd 4) ct (L 3) (I 3) (I 4)) := k_X4_isLand l D ct z (cd 3) (cd 4) x1 (L 3) (I 3) (I 4)
      refine kV (As := [.int x1]) (rest := []) (W1 := xW cd ct L I) ⟨hx, hb, hml, hown, hts⟩ hM gX6_ship_X4_isLand kyX4_isLand (by rw [hRf, hRl]; exact ⟨Nat.le_of_ble_eq_true rfl, Nat.le_of_ble_eq_true rfl⟩) hK hP hD hS hA [3, 4] [0, 1, 2, 5, 6, 7, 8, 9, 10, 11, 12, 13, 14, 15, 16, 17] [0, 1, 2, 16, 17, 3, 4, 5, 6, 7, 8, 9, 10, 11, 12, 13, 14, 15] 3 rfl rfl rfl rfl rfl ⟨rfl, rfl⟩ (by decide) rfl rfl rfl hl.1 rfl (st1 := [.int (f_X4_isLand x1 (L 3) (I 3) (I 4))]) rfl rfl ⟨Nat.zero_le _, Nat.zero_le _⟩ dX6_ship_27 (fun H locs hP hD hS => ?_)
      refine lv_if_eq (tgt := 36) hx hb dX6_ship_30 (by decide) (fun c_3 => ?_) (fun c_3 => ?_)
      · have hf := kIt hf c_3
        have t_3 := ti_eq c_3
        refine lv_aload_n hx hb dX6_ship_36 rfl (lv_at hl 0 rfl) ?_
        refine va_get (D := D) (cl := vwCl) (ci := 5) (v := .ref (cd 3)) (C := RX6) (T := TX6) (N := 7) hx hb hts inX6 hown hK.1 hP 0 rfl rfl 0 (by decide) hw1 (fun _ h => h) rfl dX6_ship_37 ?_
        refine va_get (D := D) (cl := vwCl) (ci := 3) (v := .int (I 3 1)) (C := RX4) (T := TX4) (N := 10) hx hb hts inX4 hown hK.1 hP 3 rfl rfl 1 (by decide) hw2 (fun _ h => h) rfl dX6_ship_40 ?_
        refine lv_topi (fun y43 ey43 => ?_)
        have hf := kLt hf ey43
        refine lv_istore_n (lv' := [(3, .int y43), (0, .ref (cd 0)), (1, .int x1), (2, .int x2)]) hx hb dX6_ship_43 rfl hl (by decide) rfl (fun ls hl => ?_)
        refine lv_aload_n hx hb dX6_ship_44 rfl (lv_at hl 1 rfl) ?_
        refine va_get (D := D) (cl := vwCl) (ci := 5) (v := .ref (cd 3)) (C := RX6) (T := TX6) (N := 7) hx hb hts inX6 hown hK.1 hP 0 rfl rfl 0 (by decide) hw1 (fun _ h => h) rfl dX6_ship_45 ?_
        refine lv_iload_n hx hb dX6_ship_48 rfl (lv_at hl 2 rfl) ?_
        refine kPut (ci := 3) (C := RX4) (T := TX4) (N := 10) (ty := .int) (v := .int x1) (W1 := xW cd ct L (u2 I 3 1 x1)) hx hb hts inX4 tyX4 tyX4_ok nmX4 hown hK hP hD hS 3 rfl rfl 1 (by decide) hw2 (fun _ h => h) rfl (by decide +kernel) rfl rfl (Nat.le_of_ble_eq_true rfl) rfl dX6_ship_49 (fun H locs hP hD hS => ?_)
        refine lv_aload_n hx hb dX6_ship_52 rfl (lv_at hl 1 rfl) ?_
        refine va_get (D := D) (cl := vwCl) (ci := 5) (v := .ref (cd 3)) (C := RX6) (T := TX6) (N := 7) hx hb hts inX6 hown hK.1 hP 0 rfl rfl 0 (by decide) hw1 (fun _ h => h) rfl dX6_ship_53 ?_
        refine lv_iload_n hx hb dX6_ship_56 rfl (lv_at hl 3 rfl) ?_
        refine kPut (ci := 3) (C := RX4) (T := TX4) (N := 10) (ty := .int) (v := .int x2) (W1 := xW cd ct L (u2 (u2 I 3 1 x1) 3 2 x2)) hx hb hts inX4 tyX4 tyX4_ok nmX4 hown hK hP hD hS 3 rfl rfl 2 (by decide) hw3 (fun _ h => h) rfl (by decide +kernel) rfl rfl (Nat.le_of_ble_eq_true rfl) rfl dX6_ship_57 (fun H locs hP hD hS => ?_)
        refine lv_iload_n hx hb dX6_ship_60 rfl (lv_at hl 0 rfl) ?_
        exact kRetI hx hb hr hlk hP hD hS (kfst hf) ((congrArg (fun q => xW cd ct L q.2) hf).symm) hQ dX6_ship_61
      · have hf := kIf hf c_3
        have t_3 := ti_ne c_3
        refine lv_bipush (v := (-3 : Int32)) hx hb dX6_ship_33 (by decide) ?_
        exact kRetI hx hb hr hlk hP hD hS (kfst hf) ((congrArg (fun q => xW cd ct L q.2) hf).symm) hQ dX6_ship_35
    · have hf := kIt hf c_2
      have t_2 := ti_eq c_2
      refine lv_bipush (v := (-2 : Int32)) hx hb dX6_ship_19 (by decide) ?_
      exact kRetI hx hb hr hlk hP hD hS (kfst hf) ((congrArg (fun q => xW cd ct L q.2) hf).symm) hQ dX6_ship_21
  · have hf := kIt hf c_1
    have t_1 := ti_eq c_1
    refine lv_iconst (v := (-1 : Int32)) hx hb dX6_ship_7 (by decide) ?_
    exact kRetI hx hb hr hlk hP hD hS (kfst hf) ((congrArg (fun q => xW cd ct L q.2) hf).symm) hQ dX6_ship_8
theorem kyX6_watcher : kY yX6_watcher cX6_watcher 4 (some .int) wsX6_watcher wsX6_watcher.tail 2 := ⟨rfl, by decide, by decide, by decide +kernel⟩
set_option maxHeartbeats 4000000 in
set_option maxRecDepth 100000 in
theorem k_X6_watcher (l : Launch) (D : va_G) (ct : ClassId × ClassId × ClassId) (z : Nat × Nat) (cd : Nat → Nat) (x1 : Int32) (x2 : Int32) (L : Nat → Nat → Int64) (I : Nat → Nat → Int32)  : kC l D ct z yX6_watcher wsX6_watcher 1 22 [.ref (cd 0), .int x1, .int x2] (xW cd ct L I) (some (.int ((f_X6_watcher x1 x2 L I).1))) (xW cd ct L ((f_X6_watcher x1 x2 L I).2)) := by
  refine kHead (cc := cX6_watcher) (maxL := 4) (ret := (some .int)) [(0, .ref (cd 0)), (1, .int x1), (2, .int x2)] (by decide) rfl (Nat.le_of_ble_eq_true rfl) rfl ?_
  intro p e s m args below meth c A ls R Q hRf hRl hQ hx hb hr hlk hml hown hts hA hS hK hP hD hl
  have inX6 : ∀ w ∈ wsX60, w ∈ wsX6_watcher := fun w h => (List.mem_cons_of_mem _ (List.mem_append_left _ (List.mem_append_right _ h)))
  have hw1 := hts (Cond.fieldLink RX6 10 "MastPulpits" "sea" "LMastPulpits$Sea;") (List.mem_of_getElem? (i := 1) (by decide +kernel))
  have kcm2 : (-2 : Int32).toInt = -2 := by decide
  have kcm1 : (-1 : Int32).toInt = -1 := by decide
  have kc0 : (0 : Int32).toInt = 0 := by decide
  have kc1 : (1 : Int32).toInt = 1 := by decide
  have kc7 : (7 : Int32).toInt = 7 := by decide
  have hf : f_X6_watcher x1 x2 L I = f_X6_watcher x1 x2 L I := rfl
  refine lv_aload_n hx hb dX6_watcher_0 rfl (lv_at hl 0 rfl) ?_
  refine va_get (D := D) (cl := vwCl) (ci := 5) (v := .ref (cd 3)) (C := RX6) (T := TX6) (N := 7) hx hb hts inX6 hown hK.1 hP 0 rfl rfl 0 (by decide) hw1 (fun _ h => h) rfl dX6_watcher_1 ?_
  refine lv_iload_n hx hb dX6_watcher_4 rfl (lv_at hl 1 rfl) ?_
  have hM : kC l D ct z yX4_isWatcher wsX4_isWatcher 0 0 [.ref (cd 3), .int x1] (seW (cd 3) (cd 4) ct (L 3) (I 3) (I 4)) (some (.int (f_X4_isWatcher x1 (L 3) (I 3) (I 4)))) (seW (cd 3) (cd 4) ct (L 3) (I 3) (I 4)) := k_X4_isWatcher l D ct z (cd 3) (cd 4) x1 (L 3) (I 3) (I 4)
  refine kV (As := [.int x1]) (rest := []) (W1 := xW cd ct L I) ⟨hx, hb, hml, hown, hts⟩ hM gX6_watcher_X4_isWatcher kyX4_isWatcher (by rw [hRf, hRl]; exact ⟨Nat.le_of_ble_eq_true rfl, Nat.le_of_ble_eq_true rfl⟩) hK hP hD hS hA [3, 4] [0, 1, 2, 5, 6, 7, 8, 9, 10, 11, 12, 13, 14, 15, 16, 17] [0, 1, 2, 16, 17, 3, 4, 5, 6, 7, 8, 9, 10, 11, 12, 13, 14, 15] 3 rfl rfl rfl rfl rfl ⟨rfl, rfl⟩ (by decide) rfl rfl rfl hl.1 rfl (st1 := [.int (f_X4_isWatcher x1 (L 3) (I 3) (I 4))]) rfl rfl ⟨Nat.zero_le _, Nat.zero_le _⟩ dX6_watcher_5 (fun H locs hP hD hS => ?_)
  refine lv_if_ne (tgt := 13) hx hb dX6_watcher_8 (by decide) (fun c_1 => ?_) (fun c_1 => ?_)
  · have hf := kIf hf c_1
    have t_1 := ti_ne c_1
    refine lv_iload_n hx hb dX6_watcher_13 rfl (lv_at hl 2 rfl) ?_
    refine lv_iconst (v := (1 : Int32)) hx hb dX6_watcher_14 (by decide) ?_
    refine lv_bipush (v := (7 : Int32)) hx hb dX6_watcher_15 (by decide) ?_
    have hM : kC l D ct z yX6_within wsX6_within 0 0 [.int x2, .int (1 : Int32), .int (7 : Int32)] ([]) (some (.int (f_X6_within x2 (1 : Int32) (7 : Int32)))) ([]) := k_X6_within l D ct z x2 (1 : Int32) (7 : Int32)
    refine kS0 (As := [.int x2, .int (1 : Int32), .int (7 : Int32)]) (rest := []) ⟨hx, hb, hml, hown, hts⟩ hM gX6_watcher_X6_within kyX6_within (by rw [hRf, hRl]; exact ⟨Nat.le_of_ble_eq_true rfl, Nat.le_of_ble_eq_true rfl⟩) hK hP hD hS hA rfl hl.1 rfl (st1 := [.int (f_X6_within x2 (1 : Int32) (7 : Int32))]) rfl rfl ⟨Nat.zero_le _, Nat.zero_le _⟩ dX6_watcher_17 (fun H locs hP hD hS => ?_)
    refine lv_if_ne (tgt := 26) hx hb dX6_watcher_20 (by decide) (fun c_2 => ?_) (fun c_2 => ?_)
    · have hf := kIf hf c_2
      have t_2 := ti_ne c_2; have w_2 := within_nz c_2
      refine lv_aload_n hx hb dX6_watcher_26 rfl (lv_at hl 0 rfl) ?_
      refine va_get (D := D) (cl := vwCl) (ci := 5) (v := .ref (cd 3)) (C := RX6) (T := TX6) (N := 7) hx hb hts inX6 hown hK.1 hP 0 rfl rfl 0 (by decide) hw1 (fun _ h => h) rfl dX6_watcher_27 ?_
      refine lv_iload_n hx hb dX6_watcher_30 rfl (lv_at hl 1 rfl) ?_
      have hM : kC l D ct z yX4_eyesOf wsX4_eyesOf 0 0 [.ref (cd 3), .int x1] (seW (cd 3) (cd 4) ct (L 3) (I 3) (I 4)) (some (.int (f_X4_eyesOf x1 (L 3) (I 3) (I 4)))) (seW (cd 3) (cd 4) ct (L 3) (I 3) (I 4)) := k_X4_eyesOf l D ct z (cd 3) (cd 4) x1 (L 3) (I 3) (I 4)
      refine kV (As := [.int x1]) (rest := []) (W1 := xW cd ct L I) ⟨hx, hb, hml, hown, hts⟩ hM gX6_watcher_X4_eyesOf kyX4_eyesOf (by rw [hRf, hRl]; exact ⟨Nat.le_of_ble_eq_true rfl, Nat.le_of_ble_eq_true rfl⟩) hK hP hD hS hA [3, 4] [0, 1, 2, 5, 6, 7, 8, 9, 10, 11, 12, 13, 14, 15, 16, 17] [0, 1, 2, 16, 17, 3, 4, 5, 6, 7, 8, 9, 10, 11, 12, 13, 14, 15] 3 rfl rfl rfl rfl rfl ⟨rfl, rfl⟩ (by decide) rfl rfl rfl hl.1 rfl (st1 := [.int (f_X4_eyesOf x1 (L 3) (I 3) (I 4))]) rfl rfl ⟨Nat.zero_le _, Nat.zero_le _⟩ dX6_watcher_31 (fun H locs hP hD hS => ?_)
      refine lv_topi (fun y34 ey34 => ?_)
      have hf := kLt hf ey34
      refine lv_istore_n (lv' := [(3, .int y34), (0, .ref (cd 0)), (1, .int x1), (2, .int x2)]) hx hb dX6_watcher_34 rfl hl (by decide) rfl (fun ls hl => ?_)
      refine lv_aload_n hx hb dX6_watcher_35 rfl (lv_at hl 1 rfl) ?_
      refine va_get (D := D) (cl := vwCl) (ci := 5) (v := .ref (cd 3)) (C := RX6) (T := TX6) (N := 7) hx hb hts inX6 hown hK.1 hP 0 rfl rfl 0 (by decide) hw1 (fun _ h => h) rfl dX6_watcher_36 ?_
      refine lv_iload_n hx hb dX6_watcher_39 rfl (lv_at hl 2 rfl) ?_
      refine lv_iload_n hx hb dX6_watcher_40 rfl (lv_at hl 3 rfl) ?_
      obtain ⟨q41, eq41⟩ : ∃ y, y = f_X4_giveEyes x1 x2 (L 3) (I 3) (I 4) := ⟨_, rfl⟩
      have hf := kLt hf eq41
      have hM : kC l D ct z yX4_giveEyes wsX4_giveEyes 0 0 [.ref (cd 3), .int x1, .int x2] (seW (cd 3) (cd 4) ct (L 3) (I 3) (I 4)) (none) (seW (cd 3) (cd 4) ct (L 3) (I 3) q41) := by rw [eq41]; exact k_X4_giveEyes l D ct z (cd 3) (cd 4) x1 x2 (L 3) (I 3) (I 4)
      refine kV (As := [.int x1, .int x2]) (rest := []) (W1 := xW cd ct L (rw2 I 4 q41)) ⟨hx, hb, hml, hown, hts⟩ hM gX6_watcher_X4_giveEyes kyX4_giveEyes (by rw [hRf, hRl]; exact ⟨Nat.le_of_ble_eq_true rfl, Nat.le_of_ble_eq_true rfl⟩) hK hP hD hS hA [3, 4] [0, 1, 2, 5, 6, 7, 8, 9, 10, 11, 12, 13, 14, 15, 16, 17] [0, 1, 2, 16, 17, 3, 4, 5, 6, 7, 8, 9, 10, 11, 12, 13, 14, 15] 3 rfl rfl rfl rfl rfl ⟨rfl, rfl⟩ (by decide) rfl rfl rfl hl.1 rfl (st1 := []) rfl rfl ⟨Nat.zero_le _, Nat.zero_le _⟩ dX6_watcher_41 (fun H locs hP hD hS => ?_)
      refine lv_iload_n hx hb dX6_watcher_44 rfl (lv_at hl 0 rfl) ?_
      exact kRetI hx hb hr hlk hP hD hS (kfst hf) ((congrArg (fun q => xW cd ct L q.2) hf).symm) hQ dX6_watcher_45
    · have hf := kIt hf c_2
      have t_2 := ti_eq c_2
      refine lv_bipush (v := (-2 : Int32)) hx hb dX6_watcher_23 (by decide) ?_
      exact kRetI hx hb hr hlk hP hD hS (kfst hf) ((congrArg (fun q => xW cd ct L q.2) hf).symm) hQ dX6_watcher_25
  · have hf := kIt hf c_1
    have t_1 := ti_eq c_1
    refine lv_iconst (v := (-1 : Int32)) hx hb dX6_watcher_11 (by decide) ?_
    exact kRetI hx hb hr hlk hP hD hS (kfst hf) ((congrArg (fun q => xW cd ct L q.2) hf).symm) hQ dX6_watcher_12
theorem kyX6_fog : kY yX6_fog cX6_fog 3 (some .int) wsX6_fog wsX6_fog.tail 1 := ⟨rfl, by decide, by decide, by decide +kernel⟩
set_option maxHeartbeats 4000000 in
set_option maxRecDepth 100000 in
theorem k_X6_fog (l : Launch) (D : va_G) (ct : ClassId × ClassId × ClassId) (z : Nat × Nat) (cd : Nat → Nat) (x1 : Int32) (L : Nat → Nat → Int64) (I : Nat → Nat → Int32)  : kC l D ct z yX6_fog wsX6_fog 1 22 [.ref (cd 0), .int x1] (xW cd ct L I) (some (.int ((f_X6_fog x1 L I).1))) (xW cd ct L ((f_X6_fog x1 L I).2)) := by
  refine kHead (cc := cX6_fog) (maxL := 3) (ret := (some .int)) [(0, .ref (cd 0)), (1, .int x1)] (by decide) rfl (Nat.le_of_ble_eq_true rfl) rfl ?_
  intro p e s m args below meth c A ls R Q hRf hRl hQ hx hb hr hlk hml hown hts hA hS hK hP hD hl
  have inX4 : ∀ w ∈ wsX40, w ∈ wsX6_fog := fun w h => (List.mem_cons_of_mem _ (List.mem_append_right _ h))
  have inX6 : ∀ w ∈ wsX60, w ∈ wsX6_fog := fun w h => (List.mem_cons_of_mem _ (List.mem_append_left _ (List.mem_append_right _ h)))
  have hw1 := hts (Cond.fieldLink RX6 10 "MastPulpits" "sea" "LMastPulpits$Sea;") (List.mem_of_getElem? (i := 1) (by decide +kernel))
  have hw2 := hts (Cond.fieldLink RX6 99 "MastPulpits$Sea" "fogNow" "I") (List.mem_of_getElem? (i := 2) (by decide +kernel))
  have kcm2 : (-2 : Int32).toInt = -2 := by decide
  have kc0 : (0 : Int32).toInt = 0 := by decide
  have kc7 : (7 : Int32).toInt = 7 := by decide
  have hf : f_X6_fog x1 L I = f_X6_fog x1 L I := rfl
  refine lv_iload_n hx hb dX6_fog_0 rfl (lv_at hl 1 rfl) ?_
  refine lv_iconst (v := (0 : Int32)) hx hb dX6_fog_1 (by decide) ?_
  refine lv_bipush (v := (7 : Int32)) hx hb dX6_fog_2 (by decide) ?_
  have hM : kC l D ct z yX6_within wsX6_within 0 0 [.int x1, .int (0 : Int32), .int (7 : Int32)] ([]) (some (.int (f_X6_within x1 (0 : Int32) (7 : Int32)))) ([]) := k_X6_within l D ct z x1 (0 : Int32) (7 : Int32)
  refine kS0 (As := [.int x1, .int (0 : Int32), .int (7 : Int32)]) (rest := []) ⟨hx, hb, hml, hown, hts⟩ hM gX6_fog_X6_within kyX6_within (by rw [hRf, hRl]; exact ⟨Nat.le_of_ble_eq_true rfl, Nat.le_of_ble_eq_true rfl⟩) hK hP hD hS hA rfl hl.1 rfl (st1 := [.int (f_X6_within x1 (0 : Int32) (7 : Int32))]) rfl rfl ⟨Nat.zero_le _, Nat.zero_le _⟩ dX6_fog_4 (fun H locs hP hD hS => ?_)
  refine lv_if_ne (tgt := 13) hx hb dX6_fog_7 (by decide) (fun c_1 => ?_) (fun c_1 => ?_)
  · have hf := kIf hf c_1
    have t_1 := ti_ne c_1; have w_1 := within_nz c_1
    refine lv_aload_n hx hb dX6_fog_13 rfl (lv_at hl 0 rfl) ?_
    refine va_get (D := D) (cl := vwCl) (ci := 5) (v := .ref (cd 3)) (C := RX6) (T := TX6) (N := 7) hx hb hts inX6 hown hK.1 hP 0 rfl rfl 0 (by decide) hw1 (fun _ h => h) rfl dX6_fog_14 ?_
    refine va_get (D := D) (cl := vwCl) (ci := 3) (v := .int (I 3 5)) (C := RX4) (T := TX4) (N := 10) hx hb hts inX4 hown hK.1 hP 3 rfl rfl 5 (by decide) hw2 (fun _ h => h) rfl dX6_fog_17 ?_
    refine lv_topi (fun y20 ey20 => ?_)
    have hf := kLt hf ey20
    refine lv_istore_n (lv' := [(2, .int y20), (0, .ref (cd 0)), (1, .int x1)]) hx hb dX6_fog_20 rfl hl (by decide) rfl (fun ls hl => ?_)
    refine lv_aload_n hx hb dX6_fog_21 rfl (lv_at hl 1 rfl) ?_
    refine va_get (D := D) (cl := vwCl) (ci := 5) (v := .ref (cd 3)) (C := RX6) (T := TX6) (N := 7) hx hb hts inX6 hown hK.1 hP 0 rfl rfl 0 (by decide) hw1 (fun _ h => h) rfl dX6_fog_22 ?_
    refine lv_iload_n hx hb dX6_fog_25 rfl (lv_at hl 2 rfl) ?_
    refine kPut (ci := 3) (C := RX4) (T := TX4) (N := 10) (ty := .int) (v := .int x1) (W1 := xW cd ct L (u2 I 3 5 x1)) hx hb hts inX4 tyX4 tyX4_ok nmX4 hown hK hP hD hS 3 rfl rfl 5 (by decide) hw2 (fun _ h => h) rfl (by decide +kernel) rfl rfl (Nat.le_of_ble_eq_true rfl) rfl dX6_fog_26 (fun H locs hP hD hS => ?_)
    refine lv_iload_n hx hb dX6_fog_29 rfl (lv_at hl 0 rfl) ?_
    exact kRetI hx hb hr hlk hP hD hS (kfst hf) ((congrArg (fun q => xW cd ct L q.2) hf).symm) hQ dX6_fog_30
  · have hf := kIt hf c_1
    have t_1 := ti_eq c_1
    refine lv_bipush (v := (-2 : Int32)) hx hb dX6_fog_10 (by decide) ?_
    exact kRetI hx hb hr hlk hP hD hS (kfst hf) ((congrArg (fun q => xW cd ct L q.2) hf).symm) hQ dX6_fog_12
theorem kyX6_say : kY yX6_say cX6_say 2 (some .int) wsX6_say wsX6_say.tail 1 := ⟨rfl, by decide, by decide, by decide +kernel⟩
set_option maxHeartbeats 4000000 in
set_option maxRecDepth 100000 in
theorem k_X6_say (l : Launch) (D : va_G) (ct : ClassId × ClassId × ClassId) (z : Nat × Nat) (cd : Nat → Nat) (x1 : Int32) (L : Nat → Nat → Int64) (I : Nat → Nat → Int32)  : kC l D ct z yX6_say wsX6_say 1 22 [.ref (cd 0), .int x1] (xW cd ct L I) (some (.int ((f_X6_say x1 L I).1))) (xW cd ct L ((f_X6_say x1 L I).2)) := by
  refine kHead (cc := cX6_say) (maxL := 2) (ret := (some .int)) [(0, .ref (cd 0)), (1, .int x1)] (by decide) rfl (Nat.le_of_ble_eq_true rfl) rfl ?_
  intro p e s m args below meth c A ls R Q hRf hRl hQ hx hb hr hlk hml hown hts hA hS hK hP hD hl
  have inX2 : ∀ w ∈ wsX20, w ∈ wsX6_say := fun w h => (List.mem_cons_of_mem _ (List.mem_append_right _ h))
  have inX6 : ∀ w ∈ wsX60, w ∈ wsX6_say := fun w h => (List.mem_cons_of_mem _ (List.mem_append_left _ (List.mem_append_right _ h)))
  have hw1 := hts (Cond.fieldLink RX6 19 "MastPulpits" "pad" "LMastPulpits$Pad;") (List.mem_of_getElem? (i := 1) (by decide +kernel))
  have hw2 := hts (Cond.fieldLink RX6 105 "MastPulpits$Pad" "length" "I") (List.mem_of_getElem? (i := 2) (by decide +kernel))
  have kcm4 : (-4 : Int32).toInt = -4 := by decide
  have kcm2 : (-2 : Int32).toInt = -2 := by decide
  have kc0 : (0 : Int32).toInt = 0 := by decide
  have kc33 : (33 : Int32).toInt = 33 := by decide
  have kc126 : (126 : Int32).toInt = 126 := by decide
  have hf : f_X6_say x1 L I = f_X6_say x1 L I := rfl
  refine lv_iload_n hx hb dX6_say_0 rfl (lv_at hl 1 rfl) ?_
  refine lv_bipush (v := (33 : Int32)) hx hb dX6_say_1 (by decide) ?_
  refine lv_bipush (v := (126 : Int32)) hx hb dX6_say_3 (by decide) ?_
  have hM : kC l D ct z yX6_within wsX6_within 0 0 [.int x1, .int (33 : Int32), .int (126 : Int32)] ([]) (some (.int (f_X6_within x1 (33 : Int32) (126 : Int32)))) ([]) := k_X6_within l D ct z x1 (33 : Int32) (126 : Int32)
  refine kS0 (As := [.int x1, .int (33 : Int32), .int (126 : Int32)]) (rest := []) ⟨hx, hb, hml, hown, hts⟩ hM gX6_say_X6_within kyX6_within (by rw [hRf, hRl]; exact ⟨Nat.le_of_ble_eq_true rfl, Nat.le_of_ble_eq_true rfl⟩) hK hP hD hS hA rfl hl.1 rfl (st1 := [.int (f_X6_within x1 (33 : Int32) (126 : Int32))]) rfl rfl ⟨Nat.zero_le _, Nat.zero_le _⟩ dX6_say_5 (fun H locs hP hD hS => ?_)
  refine lv_if_ne (tgt := 14) hx hb dX6_say_8 (by decide) (fun c_1 => ?_) (fun c_1 => ?_)
  · have hf := kIf hf c_1
    have t_1 := ti_ne c_1; have w_1 := within_nz c_1
    refine lv_aload_n hx hb dX6_say_14 rfl (lv_at hl 0 rfl) ?_
    refine va_get (D := D) (cl := vwCl) (ci := 5) (v := .ref (cd 5)) (C := RX6) (T := TX6) (N := 7) hx hb hts inX6 hown hK.1 hP 0 rfl rfl 1 (by decide) hw1 (fun _ h => h) rfl dX6_say_15 ?_
    refine lv_iload_n hx hb dX6_say_18 rfl (lv_at hl 1 rfl) ?_
    obtain ⟨q19, eq19⟩ : ∃ y, y = f_X2_write x1 (I 5) (I 6) := ⟨_, rfl⟩
    have hf := kLt hf eq19
    have hM : kC l D ct z yX2_write wsX2_write 0 0 [.ref (cd 5), .int x1] (paW (cd 5) (cd 6) ct (I 5) (I 6)) (some (.int q19.1)) (paW (cd 5) (cd 6) ct q19.2.1 q19.2.2) := by rw [eq19]; exact k_X2_write l D ct z (cd 5) (cd 6) x1 (I 5) (I 6)
    refine kV (As := [.int x1]) (rest := []) (W1 := xW cd ct L (rw2 (rw2 I 5 q19.2.1) 6 q19.2.2)) ⟨hx, hb, hml, hown, hts⟩ hM gX6_say_X2_write kyX2_write (by rw [hRf, hRl]; exact ⟨Nat.le_of_ble_eq_true rfl, Nat.le_of_ble_eq_true rfl⟩) hK hP hD hS hA [5, 6] [0, 1, 2, 3, 4, 7, 8, 9, 10, 11, 12, 13, 14, 15, 16, 17] [0, 1, 2, 3, 4, 16, 17, 5, 6, 7, 8, 9, 10, 11, 12, 13, 14, 15] 5 rfl rfl rfl rfl rfl ⟨rfl, rfl⟩ (by decide) rfl rfl rfl hl.1 rfl (st1 := [.int q19.1]) rfl rfl ⟨Nat.zero_le _, Nat.zero_le _⟩ dX6_say_19 (fun H locs hP hD hS => ?_)
    refine lv_if_eq (tgt := 35) hx hb dX6_say_22 (by decide) (fun c_2 => ?_) (fun c_2 => ?_)
    · have hf := kIt hf c_2
      have t_2 := ti_eq c_2
      refine lv_bipush (v := (-4 : Int32)) hx hb dX6_say_35 (by decide) ?_
      exact kRetI hx hb hr hlk hP hD hS (kfst hf) ((congrArg (fun q => xW cd ct L q.2) hf).symm) hQ dX6_say_37
    · have hf := kIf hf c_2
      have t_2 := ti_ne c_2
      refine lv_aload_n hx hb dX6_say_25 rfl (lv_at hl 0 rfl) ?_
      refine va_get (D := D) (cl := vwCl) (ci := 5) (v := .ref (cd 5)) (C := RX6) (T := TX6) (N := 7) hx hb hts inX6 hown hK.1 hP 0 rfl rfl 1 (by decide) hw1 (fun _ h => h) rfl dX6_say_26 ?_
      refine va_get (D := D) (cl := vwCl) (ci := 1) (v := .int (q19.2.1 1)) (C := RX2) (T := TX2) (N := 2) hx hb hts inX2 hown hK.1 hP 5 rfl rfl 1 (by decide) hw2 (fun _ h => h) rfl dX6_say_29 ?_
      refine lv_goto (tgt := 37) hx hb dX6_say_32 (by decide) ?_
      exact kRetI hx hb hr hlk hP hD hS (kfst hf) ((congrArg (fun q => xW cd ct L q.2) hf).symm) hQ dX6_say_37
  · have hf := kIt hf c_1
    have t_1 := ti_eq c_1
    refine lv_bipush (v := (-2 : Int32)) hx hb dX6_say_11 (by decide) ?_
    exact kRetI hx hb hr hlk hP hD hS (kfst hf) ((congrArg (fun q => xW cd ct L q.2) hf).symm) hQ dX6_say_13
theorem kyX6_wipe : kY yX6_wipe cX6_wipe 2 (some .int) wsX6_wipe wsX6_wipe.tail 0 := ⟨rfl, by decide, by decide, by decide +kernel⟩
set_option maxHeartbeats 4000000 in
set_option maxRecDepth 100000 in
theorem k_X6_wipe (l : Launch) (D : va_G) (ct : ClassId × ClassId × ClassId) (z : Nat × Nat) (cd : Nat → Nat) (L : Nat → Nat → Int64) (I : Nat → Nat → Int32)  : kC l D ct z yX6_wipe wsX6_wipe 0 0 [.ref (cd 0)] (xW cd ct L I) (some (.int ((f_X6_wipe L I).1))) (xW cd ct L ((f_X6_wipe L I).2)) := by
  refine kHead (cc := cX6_wipe) (maxL := 2) (ret := (some .int)) [(0, .ref (cd 0))] (by decide) rfl (Nat.le_of_ble_eq_true rfl) rfl ?_
  intro p e s m args below meth c A ls R Q hRf hRl hQ hx hb hr hlk hml hown hts hA hS hK hP hD hl
  have inX2 : ∀ w ∈ wsX20, w ∈ wsX6_wipe := fun w h => (List.mem_cons_of_mem _ (List.mem_append_right _ h))
  have inX6 : ∀ w ∈ wsX60, w ∈ wsX6_wipe := fun w h => (List.mem_cons_of_mem _ (List.mem_append_left _ (List.mem_append_right _ h)))
  have hw1 := hts (Cond.fieldLink RX6 19 "MastPulpits" "pad" "LMastPulpits$Pad;") (List.mem_of_getElem? (i := 1) (by decide +kernel))
  have hw2 := hts (Cond.fieldLink RX6 105 "MastPulpits$Pad" "length" "I") (List.mem_of_getElem? (i := 2) (by decide +kernel))
  have kc0 : (0 : Int32).toInt = 0 := by decide
  have hf : f_X6_wipe L I = f_X6_wipe L I := rfl
  refine lv_aload_n hx hb dX6_wipe_0 rfl (lv_at hl 0 rfl) ?_
  refine va_get (D := D) (cl := vwCl) (ci := 5) (v := .ref (cd 5)) (C := RX6) (T := TX6) (N := 7) hx hb hts inX6 hown hK.1 hP 0 rfl rfl 1 (by decide) hw1 (fun _ h => h) rfl dX6_wipe_1 ?_
  refine va_get (D := D) (cl := vwCl) (ci := 1) (v := .int (I 5 1)) (C := RX2) (T := TX2) (N := 2) hx hb hts inX2 hown hK.1 hP 5 rfl rfl 1 (by decide) hw2 (fun _ h => h) rfl dX6_wipe_4 ?_
  refine lv_topi (fun y7 ey7 => ?_)
  have hf := kLt hf ey7
  refine lv_istore_n (lv' := [(1, .int y7), (0, .ref (cd 0))]) hx hb dX6_wipe_7 rfl hl (by decide) rfl (fun ls hl => ?_)
  refine lv_aload_n hx hb dX6_wipe_8 rfl (lv_at hl 1 rfl) ?_
  refine va_get (D := D) (cl := vwCl) (ci := 5) (v := .ref (cd 5)) (C := RX6) (T := TX6) (N := 7) hx hb hts inX6 hown hK.1 hP 0 rfl rfl 1 (by decide) hw1 (fun _ h => h) rfl dX6_wipe_9 ?_
  refine lv_iconst (v := (0 : Int32)) hx hb dX6_wipe_12 (by decide) ?_
  refine kPut (ci := 1) (C := RX2) (T := TX2) (N := 2) (ty := .int) (v := .int (0 : Int32)) (W1 := xW cd ct L (u2 I 5 1 (0 : Int32))) hx hb hts inX2 tyX2 tyX2_ok nmX2 hown hK hP hD hS 5 rfl rfl 1 (by decide) hw2 (fun _ h => h) rfl (by decide +kernel) rfl rfl (Nat.le_of_ble_eq_true rfl) rfl dX6_wipe_13 (fun H locs hP hD hS => ?_)
  refine lv_iload_n hx hb dX6_wipe_16 rfl (lv_at hl 0 rfl) ?_
  exact kRetI hx hb hr hlk hP hD hS (kfst hf) ((congrArg (fun q => xW cd ct L q.2) hf).symm) hQ dX6_wipe_17
theorem kyX6_fault : kY yX6_fault cX6_fault 1 (some .int) wsX6_fault wsX6_fault.tail 0 := ⟨rfl, by decide, by decide, by decide +kernel⟩
set_option maxHeartbeats 4000000 in
set_option maxRecDepth 100000 in
theorem k_X6_fault (l : Launch) (D : va_G) (ct : ClassId × ClassId × ClassId) (z : Nat × Nat) (cd : Nat → Nat) (L : Nat → Nat → Int64) (I : Nat → Nat → Int32) (hlen : Int32.toInt (I 5 1) ≤ 60) : kC l D ct z yX6_fault wsX6_fault 3 67 [.ref (cd 0)] (xW cd ct L I) (some (.int (f_X6_fault L I))) (xW cd ct L I) := by
  refine kHead (cc := cX6_fault) (maxL := 1) (ret := (some .int)) [(0, .ref (cd 0))] (by decide) rfl (Nat.le_of_ble_eq_true rfl) rfl ?_
  intro p e s m args below meth c A ls R Q hRf hRl hQ hx hb hr hlk hml hown hts hA hS hK hP hD hl
  have inX6 : ∀ w ∈ wsX60, w ∈ wsX6_fault := fun w h => (List.mem_cons_of_mem _ (List.mem_append_left _ (List.mem_append_right _ h)))
  have hw1 := hts (Cond.fieldLink RX6 19 "MastPulpits" "pad" "LMastPulpits$Pad;") (List.mem_of_getElem? (i := 1) (by decide +kernel))
  have kc0 : (0 : Int32).toInt = 0 := by decide
  have hf : f_X6_fault L I = f_X6_fault L I := rfl
  refine lv_aload_n hx hb dX6_fault_0 rfl (lv_at hl 0 rfl) ?_
  refine va_get (D := D) (cl := vwCl) (ci := 5) (v := .ref (cd 5)) (C := RX6) (T := TX6) (N := 7) hx hb hts inX6 hown hK.1 hP 0 rfl rfl 1 (by decide) hw1 (fun _ h => h) rfl dX6_fault_1 ?_
  have hM : kC l D ct z yX2_firstFault wsX2_firstFault 2 44 [.ref (cd 5)] (paW (cd 5) (cd 6) ct (I 5) (I 6)) (some (.int (f_X2_firstFault (I 5) (I 6)))) (paW (cd 5) (cd 6) ct (I 5) (I 6)) := k_X2_firstFault l D ct z (cd 5) (cd 6) (I 5) (I 6) (by first | assumption | exact vin (by omega) (by omega) | omega)
  refine kV (As := []) (rest := []) (W1 := xW cd ct L I) ⟨hx, hb, hml, hown, hts⟩ hM gX6_fault_X2_firstFault kyX2_firstFault (by rw [hRf, hRl]; exact ⟨Nat.le_of_ble_eq_true rfl, Nat.le_of_ble_eq_true rfl⟩) hK hP hD hS hA [5, 6] [0, 1, 2, 3, 4, 7, 8, 9, 10, 11, 12, 13, 14, 15, 16, 17] [0, 1, 2, 3, 4, 16, 17, 5, 6, 7, 8, 9, 10, 11, 12, 13, 14, 15] 5 rfl rfl rfl rfl rfl ⟨rfl, rfl⟩ (by decide) rfl rfl rfl hl.1 rfl (st1 := [.int (f_X2_firstFault (I 5) (I 6))]) rfl rfl ⟨Nat.zero_le _, Nat.zero_le _⟩ dX6_fault_4 (fun H locs hP hD hS => ?_)
  exact kRetI hx hb hr hlk hP hD hS hf.symm rfl hQ dX6_fault_7
theorem kyX6_sailTheText : kY yX6_sailTheText cX6_sailTheText 4 (some .int) wsX6_sailTheText wsX6_sailTheText.tail 3 := ⟨rfl, by decide, by decide, by decide +kernel⟩
set_option maxHeartbeats 4000000 in
set_option maxRecDepth 100000 in
theorem k_X6_sailTheText (l : Launch) (D : va_G) (ct : ClassId × ClassId × ClassId) (z : Nat × Nat) (cd : Nat → Nat) (x1 : Int32) (x2 : Int32) (x3 : Int32) (L : Nat → Nat → Int64) (I : Nat → Nat → Int32) (hlen : Int32.toInt (I 5 1) ≤ 60) : kC l D ct z yX6_sailTheText wsX6_sailTheText 5 121 [.ref (cd 0), .int x1, .int x2, .int x3] (xW cd ct L I) (some (.int ((f_X6_sailTheText x1 x2 x3 L I).1))) (xW cd ct ((f_X6_sailTheText x1 x2 x3 L I).2.1) ((f_X6_sailTheText x1 x2 x3 L I).2.2)) := by
  refine kHead (cc := cX6_sailTheText) (maxL := 4) (ret := (some .int)) [(0, .ref (cd 0)), (1, .int x1), (2, .int x2), (3, .int x3)] (by decide) rfl (Nat.le_of_ble_eq_true rfl) rfl ?_
  intro p e s m args below meth c A ls R Q hRf hRl hQ hx hb hr hlk hml hown hts hA hS hK hP hD hl
  have inX5 : ∀ w ∈ wsX50, w ∈ wsX6_sailTheText := fun w h => (List.mem_cons_of_mem _ (List.mem_append_left _ (List.mem_append_left _ (List.mem_append_right _ h))))
  have inX6 : ∀ w ∈ wsX60, w ∈ wsX6_sailTheText := fun w h => (List.mem_cons_of_mem _ (List.mem_append_left _ (List.mem_append_left _ (List.mem_append_left _ (List.mem_append_right _ h)))))
  have hw1 := hts (Cond.fieldLink RX6 19 "MastPulpits" "pad" "LMastPulpits$Pad;") (List.mem_of_getElem? (i := 1) (by decide +kernel))
  have hw2 := hts (Cond.fieldLink RX6 26 "MastPulpits" "voyage" "LMastPulpits$Voyage;") (List.mem_of_getElem? (i := 2) (by decide +kernel))
  have hw3 := hts (Cond.fieldLink RX6 10 "MastPulpits" "sea" "LMastPulpits$Sea;") (List.mem_of_getElem? (i := 3) (by decide +kernel))
  have hw4 := hts (Cond.fieldLink RX6 116 "MastPulpits$Voyage" "stoppedAt" "I") (List.mem_of_getElem? (i := 4) (by decide +kernel))
  have kcm6 : (-6 : Int32).toInt = -6 := by decide
  have kcm5 : (-5 : Int32).toInt = -5 := by decide
  have kcm3 : (-3 : Int32).toInt = -3 := by decide
  have kcm2 : (-2 : Int32).toInt = -2 := by decide
  have kc0 : (0 : Int32).toInt = 0 := by decide
  have hf : f_X6_sailTheText x1 x2 x3 L I = f_X6_sailTheText x1 x2 x3 L I := rfl
  refine lv_iload_n hx hb dX6_sailTheText_0 rfl (lv_at hl 1 rfl) ?_
  refine lv_iconst (v := (0 : Int32)) hx hb dX6_sailTheText_1 (by decide) ?_
  refine lv_iload_n hx hb dX6_sailTheText_2 rfl (lv_at hl 2 rfl) ?_
  have hM : kC l D ct z yX6_within wsX6_within 0 0 [.int x1, .int (0 : Int32), .int x2] ([]) (some (.int (f_X6_within x1 (0 : Int32) x2))) ([]) := k_X6_within l D ct z x1 (0 : Int32) x2
  refine kS0 (As := [.int x1, .int (0 : Int32), .int x2]) (rest := []) ⟨hx, hb, hml, hown, hts⟩ hM gX6_sailTheText_X6_within kyX6_within (by rw [hRf, hRl]; exact ⟨Nat.le_of_ble_eq_true rfl, Nat.le_of_ble_eq_true rfl⟩) hK hP hD hS hA rfl hl.1 rfl (st1 := [.int (f_X6_within x1 (0 : Int32) x2)]) rfl rfl ⟨Nat.zero_le _, Nat.zero_le _⟩ dX6_sailTheText_3 (fun H locs hP hD hS => ?_)
  refine lv_if_ne (tgt := 12) hx hb dX6_sailTheText_6 (by decide) (fun c_1 => ?_) (fun c_1 => ?_)
  · have hf := kIf hf c_1
    have t_1 := ti_ne c_1; have w_1 := within_nz c_1
    refine lv_aload_n hx hb dX6_sailTheText_12 rfl (lv_at hl 0 rfl) ?_
    refine va_get (D := D) (cl := vwCl) (ci := 5) (v := .ref (cd 5)) (C := RX6) (T := TX6) (N := 7) hx hb hts inX6 hown hK.1 hP 0 rfl rfl 1 (by decide) hw1 (fun _ h => h) rfl dX6_sailTheText_13 ?_
    have hM : kC l D ct z yX2_firstFault wsX2_firstFault 2 44 [.ref (cd 5)] (paW (cd 5) (cd 6) ct (I 5) (I 6)) (some (.int (f_X2_firstFault (I 5) (I 6)))) (paW (cd 5) (cd 6) ct (I 5) (I 6)) := k_X2_firstFault l D ct z (cd 5) (cd 6) (I 5) (I 6) (by first | assumption | exact vin (by omega) (by omega) | omega)
    refine kV (As := []) (rest := []) (W1 := xW cd ct L I) ⟨hx, hb, hml, hown, hts⟩ hM gX6_sailTheText_X2_firstFault kyX2_firstFault (by rw [hRf, hRl]; exact ⟨Nat.le_of_ble_eq_true rfl, Nat.le_of_ble_eq_true rfl⟩) hK hP hD hS hA [5, 6] [0, 1, 2, 3, 4, 7, 8, 9, 10, 11, 12, 13, 14, 15, 16, 17] [0, 1, 2, 3, 4, 16, 17, 5, 6, 7, 8, 9, 10, 11, 12, 13, 14, 15] 5 rfl rfl rfl rfl rfl ⟨rfl, rfl⟩ (by decide) rfl rfl rfl hl.1 rfl (st1 := [.int (f_X2_firstFault (I 5) (I 6))]) rfl rfl ⟨Nat.zero_le _, Nat.zero_le _⟩ dX6_sailTheText_16 (fun H locs hP hD hS => ?_)
    refine lv_bipush (v := (-6 : Int32)) hx hb dX6_sailTheText_19 (by decide) ?_
    refine lv_icmp_eq (tgt := 27) hx hb dX6_sailTheText_21 (by decide) (fun c_2 => ?_) (fun c_2 => ?_)
    · have hf := kIt hf c_2
      have t_2 := ti_eq c_2
      refine lv_aload_n hx hb dX6_sailTheText_27 rfl (lv_at hl 0 rfl) ?_
      refine va_get (D := D) (cl := vwCl) (ci := 5) (v := .ref (cd 7)) (C := RX6) (T := TX6) (N := 7) hx hb hts inX6 hown hK.1 hP 0 rfl rfl 2 (by decide) hw2 (fun _ h => h) rfl dX6_sailTheText_28 ?_
      refine lv_aload_n hx hb dX6_sailTheText_31 rfl (lv_at hl 0 rfl) ?_
      refine va_get (D := D) (cl := vwCl) (ci := 5) (v := .ref (cd 3)) (C := RX6) (T := TX6) (N := 7) hx hb hts inX6 hown hK.1 hP 0 rfl rfl 0 (by decide) hw3 (fun _ h => h) rfl dX6_sailTheText_32 ?_
      refine lv_aload_n hx hb dX6_sailTheText_35 rfl (lv_at hl 0 rfl) ?_
      refine va_get (D := D) (cl := vwCl) (ci := 5) (v := .ref (cd 5)) (C := RX6) (T := TX6) (N := 7) hx hb hts inX6 hown hK.1 hP 0 rfl rfl 1 (by decide) hw1 (fun _ h => h) rfl dX6_sailTheText_36 ?_
      obtain ⟨q39, eq39⟩ : ∃ y, y = f_X5_sailByText (I 7) (L 8) (I 8) (I 9) (L 3) (I 3) (I 4) (I 5) (I 6) := ⟨_, rfl⟩
      have hf := kLt hf eq39
      have hM : kC l D ct z yX5_sailByText wsX5_sailByText 4 96 [.ref (cd 7), .ref (cd 3), .ref (cd 5)] (vpW (cd 7) (cd 8) (cd 9) (cd 3) (cd 4) (cd 5) (cd 6) ct (I 7) (L 8) (I 8) (I 9) (L 3) (I 3) (I 4) (I 5) (I 6)) (none) (vpW (cd 7) (cd 8) (cd 9) (cd 3) (cd 4) (cd 5) (cd 6) ct q39.1 q39.2.1 q39.2.2.1 q39.2.2.2 (L 3) (I 3) (I 4) (I 5) (I 6)) := by rw [eq39]; exact k_X5_sailByText l D ct z (cd 7) (cd 8) (cd 9) (cd 3) (cd 4) (cd 5) (cd 6) (I 7) (L 8) (I 8) (I 9) (L 3) (I 3) (I 4) (I 5) (I 6) (by first | assumption | exact vin (by omega) (by omega) | omega)
      refine kV (As := [.ref (cd 3), .ref (cd 5)]) (rest := []) (W1 := xW cd ct (rw2 L 8 q39.2.1) (rw2 (rw2 (rw2 I 7 q39.1) 8 q39.2.2.1) 9 q39.2.2.2)) ⟨hx, hb, hml, hown, hts⟩ hM gX6_sailTheText_X5_sailByText kyX5_sailByText (by rw [hRf, hRl]; exact ⟨Nat.le_of_ble_eq_true rfl, Nat.le_of_ble_eq_true rfl⟩) hK hP hD hS hA [7, 8, 9, 3, 4, 5, 6] [0, 1, 2, 10, 11, 12, 13, 14, 15, 16, 17] [0, 1, 2, 14, 15, 16, 17, 11, 12, 13, 3, 4, 5, 6, 7, 8, 9, 10] 7 rfl rfl rfl rfl rfl ⟨rfl, rfl⟩ (by decide) rfl rfl rfl hl.1 rfl (st1 := []) rfl rfl ⟨Nat.zero_le _, Nat.zero_le _⟩ dX6_sailTheText_39 (fun H locs hP hD hS => ?_)
      refine lv_iload_n hx hb dX6_sailTheText_42 rfl (lv_at hl 3 rfl) ?_
      refine lv_if_eq (tgt := 63) hx hb dX6_sailTheText_43 (by decide) (fun c_3 => ?_) (fun c_3 => ?_)
      · have hf := kIt hf c_3
        have t_3 := ti_eq c_3
        refine lv_iconst (v := (0 : Int32)) hx hb dX6_sailTheText_63 (by decide) ?_
        exact kRetI hx hb hr hlk hP hD hS (kfst hf) ((congrArg (fun q => xW cd ct q.2.1 q.2.2) hf).symm) hQ dX6_sailTheText_64
      · have hf := kIf hf c_3
        have t_3 := ti_ne c_3
        refine lv_aload_n hx hb dX6_sailTheText_46 rfl (lv_at hl 0 rfl) ?_
        refine va_get (D := D) (cl := vwCl) (ci := 5) (v := .ref (cd 7)) (C := RX6) (T := TX6) (N := 7) hx hb hts inX6 hown hK.1 hP 0 rfl rfl 2 (by decide) hw2 (fun _ h => h) rfl dX6_sailTheText_47 ?_
        refine va_get (D := D) (cl := vwCl) (ci := 4) (v := .int (q39.1 2)) (C := RX5) (T := TX5) (N := 8) hx hb hts inX5 hown hK.1 hP 7 rfl rfl 2 (by decide) hw4 (fun _ h => h) rfl dX6_sailTheText_50 ?_
        refine lv_bipush (v := (-6 : Int32)) hx hb dX6_sailTheText_53 (by decide) ?_
        refine lv_icmp_eq (tgt := 63) hx hb dX6_sailTheText_55 (by decide) (fun c_4 => ?_) (fun c_4 => ?_)
        · have hf := kIt hf c_4
          have t_4 := ti_eq c_4
          refine lv_iconst (v := (0 : Int32)) hx hb dX6_sailTheText_63 (by decide) ?_
          exact kRetI hx hb hr hlk hP hD hS (kfst hf) ((congrArg (fun q => xW cd ct q.2.1 q.2.2) hf).symm) hQ dX6_sailTheText_64
        · have hf := kIf hf c_4
          have t_4 := ti_ne c_4
          refine lv_bipush (v := (-3 : Int32)) hx hb dX6_sailTheText_58 (by decide) ?_
          refine lv_goto (tgt := 64) hx hb dX6_sailTheText_60 (by decide) ?_
          exact kRetI hx hb hr hlk hP hD hS (kfst hf) ((congrArg (fun q => xW cd ct q.2.1 q.2.2) hf).symm) hQ dX6_sailTheText_64
    · have hf := kIf hf c_2
      have t_2 := ti_ne c_2
      refine lv_bipush (v := (-5 : Int32)) hx hb dX6_sailTheText_24 (by decide) ?_
      exact kRetI hx hb hr hlk hP hD hS (kfst hf) ((congrArg (fun q => xW cd ct q.2.1 q.2.2) hf).symm) hQ dX6_sailTheText_26
  · have hf := kIt hf c_1
    have t_1 := ti_eq c_1
    refine lv_bipush (v := (-2 : Int32)) hx hb dX6_sailTheText_9 (by decide) ?_
    exact kRetI hx hb hr hlk hP hD hS (kfst hf) ((congrArg (fun q => xW cd ct q.2.1 q.2.2) hf).symm) hQ dX6_sailTheText_11
theorem kyX6_judge : kY yX6_judge cX6_judge 3 (some .int) wsX6_judge wsX6_judge.tail 1 := ⟨rfl, by decide, by decide, by decide +kernel⟩
set_option maxHeartbeats 4000000 in
set_option maxRecDepth 100000 in
theorem k_X6_judge (l : Launch) (D : va_G) (ct : ClassId × ClassId × ClassId) (z : Nat × Nat) (cd : Nat → Nat) (x1 : Int32) (L : Nat → Nat → Int64) (I : Nat → Nat → Int32) (hlen : Int32.toInt (I 5 1) ≤ 60) : kC l D ct z yX6_judge wsX6_judge 6 144 [.ref (cd 0), .int x1] (xW cd ct L I) (some (.int ((f_X6_judge x1 L I).1))) (xW cd ct ((f_X6_judge x1 L I).2.1) ((f_X6_judge x1 L I).2.2)) := by
  refine kHead (cc := cX6_judge) (maxL := 3) (ret := (some .int)) [(0, .ref (cd 0)), (1, .int x1)] (by decide) rfl (Nat.le_of_ble_eq_true rfl) rfl ?_
  intro p e s m args below meth c A ls R Q hRf hRl hQ hx hb hr hlk hml hown hts hA hS hK hP hD hl
  have inX5 : ∀ w ∈ wsX50, w ∈ wsX6_judge := fun w h => (List.mem_cons_of_mem _ (List.mem_append_left _ (List.mem_append_left _ (List.mem_append_right _ h))))
  have inX6 : ∀ w ∈ wsX60, w ∈ wsX6_judge := fun w h => (List.mem_cons_of_mem _ (List.mem_append_left _ (List.mem_append_left _ (List.mem_append_left _ (List.mem_append_right _ h)))))
  have hw1 := hts (Cond.fieldLink RX6 26 "MastPulpits" "voyage" "LMastPulpits$Voyage;") (List.mem_of_getElem? (i := 1) (by decide +kernel))
  have hw2 := hts (Cond.fieldLink RX6 116 "MastPulpits$Voyage" "stoppedAt" "I") (List.mem_of_getElem? (i := 2) (by decide +kernel))
  have hw3 := hts (Cond.fieldLink RX6 119 "MastPulpits$Voyage" "reason" "I") (List.mem_of_getElem? (i := 3) (by decide +kernel))
  have hw4 := hts (Cond.fieldLink RX6 122 "MastPulpits$Voyage" "strikes" "I") (List.mem_of_getElem? (i := 4) (by decide +kernel))
  have kc0 : (0 : Int32).toInt = 0 := by decide
  have kc1 : (1 : Int32).toInt = 1 := by decide
  have kc2 : (2 : Int32).toInt = 2 := by decide
  have hf : f_X6_judge x1 L I = f_X6_judge x1 L I := rfl
  refine lv_aload_n hx hb dX6_judge_0 rfl (lv_at hl 0 rfl) ?_
  refine lv_iload_n hx hb dX6_judge_1 rfl (lv_at hl 1 rfl) ?_
  refine lv_iconst (v := (2 : Int32)) hx hb dX6_judge_2 (by decide) ?_
  refine lv_iload_n hx hb dX6_judge_3 rfl (lv_at hl 1 rfl) ?_
  refine lv_iconst (v := (2 : Int32)) hx hb dX6_judge_4 (by decide) ?_
  refine kJn hf (fun j0 => ∀ (z13_s0 : Int32), (z13_s0 = 0 ∨ z13_s0 = 1) → f_X6_judge x1 L I = j0 z13_s0 → ∀ (H : Heap) (locs : List Loc) (ls : Array Slot), va_P D vwCl (xW cd ct L I) H → va_D A (xW cd ct L I) → va_S A s.heap H locs → lv_has ls 3 [(0, .ref (cd 0)), (1, .int x1)] → W p l e R s m args below meth c H locs 0 0 Q (F0 m 13 ls [.int z13_s0, .int (2 : Int32), .int x1, .ref (cd 0)])) ?_ ?_
  · intro j0 hj0 z13_s0 b01_z13_s0 hf H locs ls hP hD hS hl
    subst hj0
    obtain ⟨q13, eq13⟩ : ∃ y, y = f_X6_sailTheText x1 (2 : Int32) z13_s0 L I := ⟨_, rfl⟩
    have hf := kLt hf eq13
    have hM : kC l D ct z yX6_sailTheText wsX6_sailTheText 5 121 [.ref (cd 0), .int x1, .int (2 : Int32), .int z13_s0] (xW cd ct L I) (some (.int q13.1)) (xW cd ct q13.2.1 q13.2.2) := by rw [eq13]; exact k_X6_sailTheText l D ct z cd x1 (2 : Int32) z13_s0 L I (by first | assumption | exact vin (by omega) (by omega) | omega)
    refine kV1 (As := [.int x1, .int (2 : Int32), .int z13_s0]) (rest := []) ⟨hx, hb, hml, hown, hts⟩ hM gX6_judge_X6_sailTheText kyX6_sailTheText (by rw [hRf, hRl]; exact ⟨Nat.le_of_ble_eq_true rfl, Nat.le_of_ble_eq_true rfl⟩) hK hP hD hS hA 0 rfl rfl rfl rfl hl.1 rfl (st1 := [.int q13.1]) rfl rfl ⟨Nat.zero_le _, Nat.zero_le _⟩ dX6_judge_13 (fun H locs hP hD hS => ?_)
    refine lv_istore_n (lv' := [(2, .int q13.1), (0, .ref (cd 0)), (1, .int x1)]) hx hb dX6_judge_16 rfl hl (by decide) rfl (fun ls hl => ?_)
    refine lv_iload_n hx hb dX6_judge_17 rfl (lv_at hl 0 rfl) ?_
    refine lv_if_eq (tgt := 23) hx hb dX6_judge_18 (by decide) (fun c_2 => ?_) (fun c_2 => ?_)
    · have hf := kIt hf c_2
      have t_2 := ti_eq c_2
      refine lv_iload_n hx hb dX6_judge_23 rfl (lv_at hl 2 rfl) ?_
      have kv_3 : (0 : Int32).toInt = 0 := by decide
      refine (Classical.em (x1 = (0 : Int32))).elim (fun c_3 => ?_) (fun c_3 => ?_)
      · have hf := kIt hf c_3
        have t_3 := ti_eq c_3
        refine lv_lookup (off := 28) (tgt := 52) hx hb dX6_judge_24 (by decide) (by rw [c_3]; decide) (by decide) ?_
        refine lv_aload_n hx hb dX6_judge_52 rfl (lv_at hl 1 rfl) ?_
        refine va_get (D := D) (cl := vwCl) (ci := 5) (v := .ref (cd 7)) (C := RX6) (T := TX6) (N := 7) hx hb hts inX6 hown hK.1 hP 0 rfl rfl 2 (by decide) hw1 (fun _ h => h) rfl dX6_judge_53 ?_
        refine va_get (D := D) (cl := vwCl) (ci := 4) (v := .int (q13.2.2 7 2)) (C := RX5) (T := TX5) (N := 8) hx hb hts inX5 hown hK.1 hP 7 rfl rfl 2 (by decide) hw2 (fun _ h => h) rfl dX6_judge_56 ?_
        exact kRetI hx hb hr hlk hP hD hS (kfst hf) ((congrArg (fun q => xW cd ct q.2.1 q.2.2) hf).symm) hQ dX6_judge_59
      · have hf := kIf hf c_3
        have t_3 := ti_ne c_3
        have kv_4 : (1 : Int32).toInt = 1 := by decide
        refine (Classical.em (x1 = (1 : Int32))).elim (fun c_4 => ?_) (fun c_4 => ?_)
        · have hf := kIt hf c_4
          have t_4 := ti_eq c_4
          refine lv_lookup (off := 36) (tgt := 60) hx hb dX6_judge_24 (by decide) (by rw [c_4]; decide) (by decide) ?_
          refine lv_aload_n hx hb dX6_judge_60 rfl (lv_at hl 1 rfl) ?_
          refine va_get (D := D) (cl := vwCl) (ci := 5) (v := .ref (cd 7)) (C := RX6) (T := TX6) (N := 7) hx hb hts inX6 hown hK.1 hP 0 rfl rfl 2 (by decide) hw1 (fun _ h => h) rfl dX6_judge_61 ?_
          refine va_get (D := D) (cl := vwCl) (ci := 4) (v := .int (q13.2.2 7 3)) (C := RX5) (T := TX5) (N := 8) hx hb hts inX5 hown hK.1 hP 7 rfl rfl 3 (by decide) hw3 (fun _ h => h) rfl dX6_judge_64 ?_
          exact kRetI hx hb hr hlk hP hD hS (kfst hf) ((congrArg (fun q => xW cd ct q.2.1 q.2.2) hf).symm) hQ dX6_judge_67
        · have hf := kIf hf c_4
          have t_4 := ti_ne c_4
          refine lv_lookup (off := 44) (tgt := 68) hx hb dX6_judge_24 (by decide) (by show Op.lookupswitch.offset [(0, 28), (1, 36)] _ _ = _; rw [lv_osw c_3 (by decide), lv_osw c_4 (by decide)]; rfl) (by decide) ?_
          refine lv_aload_n hx hb dX6_judge_68 rfl (lv_at hl 1 rfl) ?_
          refine va_get (D := D) (cl := vwCl) (ci := 5) (v := .ref (cd 7)) (C := RX6) (T := TX6) (N := 7) hx hb hts inX6 hown hK.1 hP 0 rfl rfl 2 (by decide) hw1 (fun _ h => h) rfl dX6_judge_69 ?_
          refine va_get (D := D) (cl := vwCl) (ci := 4) (v := .int (q13.2.2 7 4)) (C := RX5) (T := TX5) (N := 8) hx hb hts inX5 hown hK.1 hP 7 rfl rfl 4 (by decide) hw4 (fun _ h => h) rfl dX6_judge_72 ?_
          exact kRetI hx hb hr hlk hP hD hS (kfst hf) ((congrArg (fun q => xW cd ct q.2.1 q.2.2) hf).symm) hQ dX6_judge_75
    · have hf := kIf hf c_2
      have t_2 := ti_ne c_2
      refine lv_iload_n hx hb dX6_judge_21 rfl (lv_at hl 0 rfl) ?_
      exact kRetI hx hb hr hlk hP hD hS (kfst hf) ((congrArg (fun q => xW cd ct q.2.1 q.2.2) hf).symm) hQ dX6_judge_22
  · intro j13 hJ13 hf
    refine lv_icmp_ne (tgt := 12) hx hb dX6_judge_5 (by decide) (fun c_1 => ?_) (fun c_1 => ?_)
    · have hf := kIf hf c_1
      have t_1 := ti_ne c_1
      refine lv_iconst (v := (0 : Int32)) hx hb dX6_judge_12 (by decide) ?_
      exact hJ13 _ (Or.inl rfl)  hf _ _ _ hP hD hS (lv_sub hl [0, 1] rfl)
    · have hf := kIt hf c_1
      have t_1 := ti_eq c_1
      refine lv_iconst (v := (1 : Int32)) hx hb dX6_judge_8 (by decide) ?_
      refine lv_goto (tgt := 13) hx hb dX6_judge_9 (by decide) ?_
      exact hJ13 _ (Or.inr rfl)  hf _ _ _ hP hD hS (lv_sub hl [0, 1] rfl)
theorem kyX6_shipAndWatch : kY yX6_shipAndWatch cX6_shipAndWatch 2 (some .int) wsX6_shipAndWatch wsX6_shipAndWatch.tail 2 := ⟨rfl, by decide, by decide, by decide +kernel⟩
set_option maxHeartbeats 4000000 in
set_option maxRecDepth 100000 in
theorem k_X6_shipAndWatch (l : Launch) (D : va_G) (ct : ClassId × ClassId × ClassId) (z : Nat × Nat) (a : Nat) (b : Nat) (x1 : Int32) (lo : Nat → Int64) (i : Nat → Int32) (f : Nat → Int32)  : kC l D ct z yX6_shipAndWatch wsX6_shipAndWatch 0 0 [.ref a, .int x1] (seW a b ct lo i f) (some (.int (f_X6_shipAndWatch x1 lo i f))) (seW a b ct lo i f) := by
  refine kHead (cc := cX6_shipAndWatch) (maxL := 2) (ret := (some .int)) [(0, .ref a), (1, .int x1)] (by decide) rfl (Nat.le_of_ble_eq_true rfl) rfl ?_
  intro p e s m args below meth c A ls R Q hRf hRl hQ hx hb hr hlk hml hown hts hA hS hK hP hD hl
  have inX4 : ∀ w ∈ wsX40, w ∈ wsX6_shipAndWatch := fun w h => (List.mem_cons_of_mem _ (List.mem_append_right _ h))
  have hw1 := hts (Cond.fieldLink RX6 62 "MastPulpits$Sea" "shipCell" "I") (List.mem_of_getElem? (i := 1) (by decide +kernel))
  have hw2 := hts (Cond.fieldLink RX6 85 "MastPulpits$Sea" "shipHull" "I") (List.mem_of_getElem? (i := 2) (by decide +kernel))
  have hw3 := hts (Cond.fieldLink RX6 132 "MastPulpits$Sea" "up" "I") (List.mem_of_getElem? (i := 3) (by decide +kernel))
  have hw4 := hts (Cond.fieldLink RX6 224 "MastPulpits$Sea" "hoursUp" "I") (List.mem_of_getElem? (i := 4) (by decide +kernel))
  have hw5 := hts (Cond.fieldLink RX6 99 "MastPulpits$Sea" "fogNow" "I") (List.mem_of_getElem? (i := 5) (by decide +kernel))
  have hw6 := hts (Cond.fieldLink RX6 227 "MastPulpits$Sea" "hourNow" "I") (List.mem_of_getElem? (i := 6) (by decide +kernel))
  have kcm6 : (-6 : Int32).toInt = -6 := by decide
  have kc0 : (0 : Int32).toInt = 0 := by decide
  have hf : f_X6_shipAndWatch x1 lo i f = f_X6_shipAndWatch x1 lo i f := rfl
  refine lv_iload_n hx hb dX6_shipAndWatch_0 rfl (lv_at hl 1 rfl) ?_
  have kv_1 : (0 : Int32).toInt = 0 := by decide
  refine (Classical.em (x1 = (0 : Int32))).elim (fun c_1 => ?_) (fun c_1 => ?_)
  · have hf := kIt hf c_1
    have t_1 := ti_eq c_1
    refine lv_tableIn (off := 35) (tgt := 36) hx hb dX6_shipAndWatch_1 (by omega) (by omega) (by rw [c_1]; decide) (by decide) ?_
    refine lv_aload_n hx hb dX6_shipAndWatch_36 rfl (lv_at hl 0 rfl) ?_
    refine va_get (D := D) (cl := vwCl) (ci := 3) (v := .int (i 1)) (C := RX4) (T := TX4) (N := 10) hx hb hts inX4 hown hK.1 hP 0 rfl rfl 1 (by decide) hw1 (fun _ h => h) rfl dX6_shipAndWatch_37 ?_
    exact kRetI hx hb hr hlk hP hD hS hf.symm rfl hQ dX6_shipAndWatch_40
  · have hf := kIf hf c_1
    have t_1 := ti_ne c_1
    have kv_2 : (1 : Int32).toInt = 1 := by decide
    refine (Classical.em (x1 = (1 : Int32))).elim (fun c_2 => ?_) (fun c_2 => ?_)
    · have hf := kIt hf c_2
      have t_2 := ti_eq c_2
      refine lv_tableIn (off := 40) (tgt := 41) hx hb dX6_shipAndWatch_1 (by omega) (by omega) (by rw [c_2]; decide) (by decide) ?_
      refine lv_aload_n hx hb dX6_shipAndWatch_41 rfl (lv_at hl 0 rfl) ?_
      refine va_get (D := D) (cl := vwCl) (ci := 3) (v := .int (i 2)) (C := RX4) (T := TX4) (N := 10) hx hb hts inX4 hown hK.1 hP 0 rfl rfl 2 (by decide) hw2 (fun _ h => h) rfl dX6_shipAndWatch_42 ?_
      exact kRetI hx hb hr hlk hP hD hS hf.symm rfl hQ dX6_shipAndWatch_45
    · have hf := kIf hf c_2
      have t_2 := ti_ne c_2
      have kv_3 : (2 : Int32).toInt = 2 := by decide
      refine (Classical.em (x1 = (2 : Int32))).elim (fun c_3 => ?_) (fun c_3 => ?_)
      · have hf := kIt hf c_3
        have t_3 := ti_eq c_3
        refine lv_tableIn (off := 45) (tgt := 46) hx hb dX6_shipAndWatch_1 (by omega) (by omega) (by rw [c_3]; decide) (by decide) ?_
        refine lv_aload_n hx hb dX6_shipAndWatch_46 rfl (lv_at hl 0 rfl) ?_
        refine va_get (D := D) (cl := vwCl) (ci := 3) (v := .int (i 3)) (C := RX4) (T := TX4) (N := 10) hx hb hts inX4 hown hK.1 hP 0 rfl rfl 3 (by decide) hw3 (fun _ h => h) rfl dX6_shipAndWatch_47 ?_
        exact kRetI hx hb hr hlk hP hD hS hf.symm rfl hQ dX6_shipAndWatch_50
      · have hf := kIf hf c_3
        have t_3 := ti_ne c_3
        have kv_4 : (3 : Int32).toInt = 3 := by decide
        refine (Classical.em (x1 = (3 : Int32))).elim (fun c_4 => ?_) (fun c_4 => ?_)
        · have hf := kIt hf c_4
          have t_4 := ti_eq c_4
          refine lv_tableIn (off := 50) (tgt := 51) hx hb dX6_shipAndWatch_1 (by omega) (by omega) (by rw [c_4]; decide) (by decide) ?_
          refine lv_aload_n hx hb dX6_shipAndWatch_51 rfl (lv_at hl 0 rfl) ?_
          refine va_get (D := D) (cl := vwCl) (ci := 3) (v := .int (i 3)) (C := RX4) (T := TX4) (N := 10) hx hb hts inX4 hown hK.1 hP 0 rfl rfl 3 (by decide) hw3 (fun _ h => h) rfl dX6_shipAndWatch_52 ?_
          refine lv_bipush (v := (-6 : Int32)) hx hb dX6_shipAndWatch_55 (by decide) ?_
          refine lv_icmp_ne (tgt := 65) hx hb dX6_shipAndWatch_57 (by decide) (fun c_5 => ?_) (fun c_5 => ?_)
          · have hf := kIf hf c_5
            have t_5 := ti_ne c_5
            refine lv_aload_n hx hb dX6_shipAndWatch_65 rfl (lv_at hl 0 rfl) ?_
            refine va_get (D := D) (cl := vwCl) (ci := 3) (v := .int (i 4)) (C := RX4) (T := TX4) (N := 10) hx hb hts inX4 hown hK.1 hP 0 rfl rfl 4 (by decide) hw4 (fun _ h => h) rfl dX6_shipAndWatch_66 ?_
            exact kRetI hx hb hr hlk hP hD hS hf.symm rfl hQ dX6_shipAndWatch_69
          · have hf := kIt hf c_5
            have t_5 := ti_eq c_5
            refine lv_bipush (v := (-6 : Int32)) hx hb dX6_shipAndWatch_60 (by decide) ?_
            refine lv_goto (tgt := 69) hx hb dX6_shipAndWatch_62 (by decide) ?_
            exact kRetI hx hb hr hlk hP hD hS hf.symm rfl hQ dX6_shipAndWatch_69
        · have hf := kIf hf c_4
          have t_4 := ti_ne c_4
          have kv_6 : (4 : Int32).toInt = 4 := by decide
          refine (Classical.em (x1 = (4 : Int32))).elim (fun c_6 => ?_) (fun c_6 => ?_)
          · have hf := kIt hf c_6
            have t_6 := ti_eq c_6
            refine lv_tableIn (off := 69) (tgt := 70) hx hb dX6_shipAndWatch_1 (by omega) (by omega) (by rw [c_6]; decide) (by decide) ?_
            refine lv_aload_n hx hb dX6_shipAndWatch_70 rfl (lv_at hl 0 rfl) ?_
            refine va_get (D := D) (cl := vwCl) (ci := 3) (v := .int (i 5)) (C := RX4) (T := TX4) (N := 10) hx hb hts inX4 hown hK.1 hP 0 rfl rfl 5 (by decide) hw5 (fun _ h => h) rfl dX6_shipAndWatch_71 ?_
            exact kRetI hx hb hr hlk hP hD hS hf.symm rfl hQ dX6_shipAndWatch_74
          · have hf := kIf hf c_6
            have t_6 := ti_ne c_6
            refine lv_tableOut (tgt := 75) hx hb dX6_shipAndWatch_1 (by omega) (by decide) ?_
            refine lv_aload_n hx hb dX6_shipAndWatch_75 rfl (lv_at hl 0 rfl) ?_
            refine va_get (D := D) (cl := vwCl) (ci := 3) (v := .int (i 6)) (C := RX4) (T := TX4) (N := 10) hx hb hts inX4 hown hK.1 hP 0 rfl rfl 6 (by decide) hw6 (fun _ h => h) rfl dX6_shipAndWatch_76 ?_
            exact kRetI hx hb hr hlk hP hD hS hf.symm rfl hQ dX6_shipAndWatch_79
theorem kyX6_behind : kY yX6_behind cX6_behind 3 (some .int) wsX6_behind wsX6_behind.tail 1 := ⟨rfl, by decide, by decide, by decide +kernel⟩
set_option maxHeartbeats 4000000 in
set_option maxRecDepth 100000 in
theorem k_X6_behind (l : Launch) (D : va_G) (ct : ClassId × ClassId × ClassId) (z : Nat × Nat) (cd : Nat → Nat) (x1 : Int32) (L : Nat → Nat → Int64) (I : Nat → Nat → Int32) (hlen : Int32.toInt (I 5 1) ≤ 60) : kC l D ct z yX6_behind wsX6_behind 6 144 [.ref (cd 0), .int x1] (xW cd ct L I) (some (.int ((f_X6_behind x1 L I).1))) (xW cd ct ((f_X6_behind x1 L I).2.1) ((f_X6_behind x1 L I).2.2)) := by
  refine kHead (cc := cX6_behind) (maxL := 3) (ret := (some .int)) [(0, .ref (cd 0)), (1, .int x1)] (by decide) rfl (Nat.le_of_ble_eq_true rfl) rfl ?_
  intro p e s m args below meth c A ls R Q hRf hRl hQ hx hb hr hlk hml hown hts hA hS hK hP hD hl
  have inX5 : ∀ w ∈ wsX50, w ∈ wsX6_behind := fun w h => (List.mem_cons_of_mem _ (List.mem_append_left _ (List.mem_append_left _ (List.mem_append_right _ h))))
  have inX6 : ∀ w ∈ wsX60, w ∈ wsX6_behind := fun w h => (List.mem_cons_of_mem _ (List.mem_append_left _ (List.mem_append_left _ (List.mem_append_left _ (List.mem_append_right _ h)))))
  have hw1 := hts (Cond.fieldLink RX6 26 "MastPulpits" "voyage" "LMastPulpits$Voyage;") (List.mem_of_getElem? (i := 1) (by decide +kernel))
  have hw2 := hts (Cond.fieldLink RX6 125 "MastPulpits$Voyage" "seaThen" "LMastPulpits$Sea;") (List.mem_of_getElem? (i := 2) (by decide +kernel))
  have kc0 : (0 : Int32).toInt = 0 := by decide
  have kc1 : (1 : Int32).toInt = 1 := by decide
  have kc5 : (5 : Int32).toInt = 5 := by decide
  have hf : f_X6_behind x1 L I = f_X6_behind x1 L I := rfl
  refine lv_aload_n hx hb dX6_behind_0 rfl (lv_at hl 0 rfl) ?_
  refine lv_iload_n hx hb dX6_behind_1 rfl (lv_at hl 1 rfl) ?_
  refine lv_iconst (v := (5 : Int32)) hx hb dX6_behind_2 (by decide) ?_
  refine lv_iconst (v := (1 : Int32)) hx hb dX6_behind_3 (by decide) ?_
  obtain ⟨q4, eq4⟩ : ∃ y, y = f_X6_sailTheText x1 (5 : Int32) (1 : Int32) L I := ⟨_, rfl⟩
  have hf := kLt hf eq4
  have hM : kC l D ct z yX6_sailTheText wsX6_sailTheText 5 121 [.ref (cd 0), .int x1, .int (5 : Int32), .int (1 : Int32)] (xW cd ct L I) (some (.int q4.1)) (xW cd ct q4.2.1 q4.2.2) := by rw [eq4]; exact k_X6_sailTheText l D ct z cd x1 (5 : Int32) (1 : Int32) L I (by first | assumption | exact vin (by omega) (by omega) | omega)
  refine kV1 (As := [.int x1, .int (5 : Int32), .int (1 : Int32)]) (rest := []) ⟨hx, hb, hml, hown, hts⟩ hM gX6_behind_X6_sailTheText kyX6_sailTheText (by rw [hRf, hRl]; exact ⟨Nat.le_of_ble_eq_true rfl, Nat.le_of_ble_eq_true rfl⟩) hK hP hD hS hA 0 rfl rfl rfl rfl hl.1 rfl (st1 := [.int q4.1]) rfl rfl ⟨Nat.zero_le _, Nat.zero_le _⟩ dX6_behind_4 (fun H locs hP hD hS => ?_)
  refine lv_istore_n (lv' := [(2, .int q4.1), (0, .ref (cd 0)), (1, .int x1)]) hx hb dX6_behind_7 rfl hl (by decide) rfl (fun ls hl => ?_)
  refine lv_iload_n hx hb dX6_behind_8 rfl (lv_at hl 0 rfl) ?_
  refine lv_if_eq (tgt := 16) hx hb dX6_behind_9 (by decide) (fun c_1 => ?_) (fun c_1 => ?_)
  · have hf := kIt hf c_1
    have t_1 := ti_eq c_1
    refine lv_aload_n hx hb dX6_behind_16 rfl (lv_at hl 1 rfl) ?_
    refine va_get (D := D) (cl := vwCl) (ci := 5) (v := .ref (cd 7)) (C := RX6) (T := TX6) (N := 7) hx hb hts inX6 hown hK.1 hP 0 rfl rfl 2 (by decide) hw1 (fun _ h => h) rfl dX6_behind_17 ?_
    refine va_get (D := D) (cl := vwCl) (ci := 4) (v := .ref (cd 8)) (C := RX5) (T := TX5) (N := 8) hx hb hts inX5 hown hK.1 hP 7 rfl rfl 0 (by decide) hw2 (fun _ h => h) rfl dX6_behind_20 ?_
    refine lv_iload_n hx hb dX6_behind_23 rfl (lv_at hl 2 rfl) ?_
    have hM : kC l D ct z yX6_shipAndWatch wsX6_shipAndWatch 0 0 [.ref (cd 8), .int x1] (seW (cd 8) (cd 9) ct (q4.2.1 8) (q4.2.2 8) (q4.2.2 9)) (some (.int (f_X6_shipAndWatch x1 (q4.2.1 8) (q4.2.2 8) (q4.2.2 9)))) (seW (cd 8) (cd 9) ct (q4.2.1 8) (q4.2.2 8) (q4.2.2 9)) := k_X6_shipAndWatch l D ct z (cd 8) (cd 9) x1 (q4.2.1 8) (q4.2.2 8) (q4.2.2 9)
    refine kSw (As := [.ref (cd 8), .int x1]) (rest := []) (W1 := xW cd ct q4.2.1 q4.2.2) ⟨hx, hb, hml, hown, hts⟩ hM gX6_behind_X6_shipAndWatch kyX6_shipAndWatch (by rw [hRf, hRl]; exact ⟨Nat.le_of_ble_eq_true rfl, Nat.le_of_ble_eq_true rfl⟩) hK hP hD hS hA [8, 9] [0, 1, 2, 3, 4, 5, 6, 7, 10, 11, 12, 13, 14, 15, 16, 17] [0, 1, 2, 3, 4, 5, 6, 7, 16, 17, 8, 9, 10, 11, 12, 13, 14, 15] rfl rfl ⟨rfl, rfl⟩ (by decide) rfl rfl rfl hl.1 rfl (st1 := [.int (f_X6_shipAndWatch x1 (q4.2.1 8) (q4.2.2 8) (q4.2.2 9))]) rfl rfl ⟨Nat.zero_le _, Nat.zero_le _⟩ dX6_behind_24 (fun H locs hP hD hS => ?_)
    exact kRetI hx hb hr hlk hP hD hS (kfst hf) ((congrArg (fun q => xW cd ct q.2.1 q.2.2) hf).symm) hQ dX6_behind_27
  · have hf := kIf hf c_1
    have t_1 := ti_ne c_1
    refine lv_iload_n hx hb dX6_behind_12 rfl (lv_at hl 0 rfl) ?_
    refine lv_goto (tgt := 27) hx hb dX6_behind_13 (by decide) ?_
    exact kRetI hx hb hr hlk hP hD hS (kfst hf) ((congrArg (fun q => xW cd ct q.2.1 q.2.2) hf).symm) hQ dX6_behind_27
theorem kyX6_seen : kY yX6_seen cX6_seen 4 (some .int) wsX6_seen wsX6_seen.tail 1 := ⟨rfl, by decide, by decide, by decide +kernel⟩
set_option maxHeartbeats 4000000 in
set_option maxRecDepth 100000 in
theorem k_X6_seen (l : Launch) (D : va_G) (ct : ClassId × ClassId × ClassId) (z : Nat × Nat) (cd : Nat → Nat) (x1 : Int32) (L : Nat → Nat → Int64) (I : Nat → Nat → Int32) (hlen : Int32.toInt (I 5 1) ≤ 60) : kC l D ct z yX6_seen wsX6_seen 6 144 [.ref (cd 0), .int x1] (xW cd ct L I) (some (.int ((f_X6_seen x1 L I).1))) (xW cd ct ((f_X6_seen x1 L I).2.1) ((f_X6_seen x1 L I).2.2)) := by
  refine kHead (cc := cX6_seen) (maxL := 4) (ret := (some .int)) [(0, .ref (cd 0)), (1, .int x1)] (by decide) rfl (Nat.le_of_ble_eq_true rfl) rfl ?_
  intro p e s m args below meth c A ls R Q hRf hRl hQ hx hb hr hlk hml hown hts hA hS hK hP hD hl
  have inX4 : ∀ w ∈ wsX40, w ∈ wsX6_seen := fun w h => (List.mem_cons_of_mem _ (List.mem_append_left _ (List.mem_append_right _ h)))
  have inX5 : ∀ w ∈ wsX50, w ∈ wsX6_seen := fun w h => (List.mem_cons_of_mem _ (List.mem_append_left _ (List.mem_append_left _ (List.mem_append_right _ h))))
  have inX6 : ∀ w ∈ wsX60, w ∈ wsX6_seen := fun w h => (List.mem_cons_of_mem _ (List.mem_append_left _ (List.mem_append_left _ (List.mem_append_left _ (List.mem_append_right _ h)))))
  have hw1 := hts (Cond.fieldLink RX6 26 "MastPulpits" "voyage" "LMastPulpits$Voyage;") (List.mem_of_getElem? (i := 1) (by decide +kernel))
  have hw2 := hts (Cond.fieldLink RX6 125 "MastPulpits$Voyage" "seaThen" "LMastPulpits$Sea;") (List.mem_of_getElem? (i := 2) (by decide +kernel))
  have hw3 := hts (Cond.fieldLink RX6 132 "MastPulpits$Sea" "up" "I") (List.mem_of_getElem? (i := 3) (by decide +kernel))
  have kcm6 : (-6 : Int32).toInt = -6 := by decide
  have kc0 : (0 : Int32).toInt = 0 := by decide
  have kc1 : (1 : Int32).toInt = 1 := by decide
  have kc2 : (2 : Int32).toInt = 2 := by decide
  have hf : f_X6_seen x1 L I = f_X6_seen x1 L I := rfl
  refine lv_aload_n hx hb dX6_seen_0 rfl (lv_at hl 0 rfl) ?_
  refine lv_iload_n hx hb dX6_seen_1 rfl (lv_at hl 1 rfl) ?_
  refine lv_iconst (v := (2 : Int32)) hx hb dX6_seen_2 (by decide) ?_
  refine lv_iconst (v := (1 : Int32)) hx hb dX6_seen_3 (by decide) ?_
  obtain ⟨q4, eq4⟩ : ∃ y, y = f_X6_sailTheText x1 (2 : Int32) (1 : Int32) L I := ⟨_, rfl⟩
  have hf := kLt hf eq4
  have hM : kC l D ct z yX6_sailTheText wsX6_sailTheText 5 121 [.ref (cd 0), .int x1, .int (2 : Int32), .int (1 : Int32)] (xW cd ct L I) (some (.int q4.1)) (xW cd ct q4.2.1 q4.2.2) := by rw [eq4]; exact k_X6_sailTheText l D ct z cd x1 (2 : Int32) (1 : Int32) L I (by first | assumption | exact vin (by omega) (by omega) | omega)
  refine kV1 (As := [.int x1, .int (2 : Int32), .int (1 : Int32)]) (rest := []) ⟨hx, hb, hml, hown, hts⟩ hM gX6_seen_X6_sailTheText kyX6_sailTheText (by rw [hRf, hRl]; exact ⟨Nat.le_of_ble_eq_true rfl, Nat.le_of_ble_eq_true rfl⟩) hK hP hD hS hA 0 rfl rfl rfl rfl hl.1 rfl (st1 := [.int q4.1]) rfl rfl ⟨Nat.zero_le _, Nat.zero_le _⟩ dX6_seen_4 (fun H locs hP hD hS => ?_)
  refine lv_istore_n (lv' := [(2, .int q4.1), (0, .ref (cd 0)), (1, .int x1)]) hx hb dX6_seen_7 rfl hl (by decide) rfl (fun ls hl => ?_)
  refine lv_iload_n hx hb dX6_seen_8 rfl (lv_at hl 0 rfl) ?_
  refine lv_if_eq (tgt := 14) hx hb dX6_seen_9 (by decide) (fun c_1 => ?_) (fun c_1 => ?_)
  · have hf := kIt hf c_1
    have t_1 := ti_eq c_1
    refine lv_aload_n hx hb dX6_seen_14 rfl (lv_at hl 1 rfl) ?_
    refine va_get (D := D) (cl := vwCl) (ci := 5) (v := .ref (cd 7)) (C := RX6) (T := TX6) (N := 7) hx hb hts inX6 hown hK.1 hP 0 rfl rfl 2 (by decide) hw1 (fun _ h => h) rfl dX6_seen_15 ?_
    refine va_get (D := D) (cl := vwCl) (ci := 4) (v := .ref (cd 8)) (C := RX5) (T := TX5) (N := 8) hx hb hts inX5 hown hK.1 hP 7 rfl rfl 0 (by decide) hw2 (fun _ h => h) rfl dX6_seen_18 ?_
    refine lv_astore_n (lv' := [(3, .ref (cd 8)), (2, .int q4.1), (0, .ref (cd 0)), (1, .int x1)]) hx hb dX6_seen_21 rfl hl (by decide) rfl (fun ls hl => ?_)
    refine lv_aload_n hx hb dX6_seen_22 rfl (lv_at hl 0 rfl) ?_
    refine va_get (D := D) (cl := vwCl) (ci := 3) (v := .int (q4.2.2 8 3)) (C := RX4) (T := TX4) (N := 10) hx hb hts inX4 hown hK.1 hP 8 rfl rfl 3 (by decide) hw3 (fun _ h => h) rfl dX6_seen_23 ?_
    refine lv_bipush (v := (-6 : Int32)) hx hb dX6_seen_26 (by decide) ?_
    refine lv_icmp_ne (tgt := 34) hx hb dX6_seen_28 (by decide) (fun c_2 => ?_) (fun c_2 => ?_)
    · have hf := kIf hf c_2
      have t_2 := ti_ne c_2
      refine lv_iload_n hx hb dX6_seen_34 rfl (lv_at hl 3 rfl) ?_
      have kv_3 : (0 : Int32).toInt = 0 := by decide
      refine (Classical.em (x1 = (0 : Int32))).elim (fun c_3 => ?_) (fun c_3 => ?_)
      · have hf := kIt hf c_3
        have t_3 := ti_eq c_3
        refine lv_lookup (off := 25) (tgt := 60) hx hb dX6_seen_35 (by decide) (by rw [c_3]; decide) (by decide) ?_
        refine lv_aload_n hx hb dX6_seen_60 rfl (lv_at hl 0 rfl) ?_
        have hM : kC l D ct z yX4_sighted wsX4_sighted 2 52 [.ref (cd 8)] (seW (cd 8) (cd 9) ct (q4.2.1 8) (q4.2.2 8) (q4.2.2 9)) (some (.long (f_X4_sighted (q4.2.1 8) (q4.2.2 8) (q4.2.2 9)))) (seW (cd 8) (cd 9) ct (q4.2.1 8) (q4.2.2 8) (q4.2.2 9)) := k_X4_sighted l D ct z (cd 8) (cd 9) (q4.2.1 8) (q4.2.2 8) (q4.2.2 9)
        refine kV (As := []) (rest := []) (W1 := xW cd ct q4.2.1 q4.2.2) ⟨hx, hb, hml, hown, hts⟩ hM gX6_seen_X4_sighted kyX4_sighted (by rw [hRf, hRl]; exact ⟨Nat.le_of_ble_eq_true rfl, Nat.le_of_ble_eq_true rfl⟩) hK hP hD hS hA [8, 9] [0, 1, 2, 3, 4, 5, 6, 7, 10, 11, 12, 13, 14, 15, 16, 17] [0, 1, 2, 3, 4, 5, 6, 7, 16, 17, 8, 9, 10, 11, 12, 13, 14, 15] 8 rfl rfl rfl rfl rfl ⟨rfl, rfl⟩ (by decide) rfl rfl rfl hl.1 rfl (st1 := [.long (f_X4_sighted (q4.2.1 8) (q4.2.2 8) (q4.2.2 9))]) rfl rfl ⟨Nat.zero_le _, Nat.zero_le _⟩ dX6_seen_61 (fun H locs hP hD hS => ?_)
        have hM : kC l D ct z yJ13_bitCount_95d88 wsJ13_bitCount_95d88 0 0 [.long (f_X4_sighted (q4.2.1 8) (q4.2.2 8) (q4.2.2 9))] ([]) (some (.int (f_J13_bitCount_95d88 (f_X4_sighted (q4.2.1 8) (q4.2.2 8) (q4.2.2 9))))) ([]) := k_J13_bitCount_95d88 l D ct z (f_X4_sighted (q4.2.1 8) (q4.2.2 8) (q4.2.2 9))
        refine kS0 (As := [.long (f_X4_sighted (q4.2.1 8) (q4.2.2 8) (q4.2.2 9))]) (rest := []) ⟨hx, hb, hml, hown, hts⟩ hM gX6_seen_J13_bitCount_95d88 kyJ13_bitCount_95d88 (by rw [hRf, hRl]; exact ⟨Nat.le_of_ble_eq_true rfl, Nat.le_of_ble_eq_true rfl⟩) hK hP hD hS hA rfl hl.1 rfl (st1 := [.int (f_J13_bitCount_95d88 (f_X4_sighted (q4.2.1 8) (q4.2.2 8) (q4.2.2 9)))]) rfl rfl ⟨Nat.zero_le _, Nat.zero_le _⟩ dX6_seen_64 (fun H locs hP hD hS => ?_)
        exact kRetI hx hb hr hlk hP hD hS (kfst hf) ((congrArg (fun q => xW cd ct q.2.1 q.2.2) hf).symm) hQ dX6_seen_67
      · have hf := kIf hf c_3
        have t_3 := ti_ne c_3
        have kv_4 : (1 : Int32).toInt = 1 := by decide
        refine (Classical.em (x1 = (1 : Int32))).elim (fun c_4 => ?_) (fun c_4 => ?_)
        · have hf := kIt hf c_4
          have t_4 := ti_eq c_4
          refine lv_lookup (off := 33) (tgt := 68) hx hb dX6_seen_35 (by decide) (by rw [c_4]; decide) (by decide) ?_
          refine lv_aload_n hx hb dX6_seen_68 rfl (lv_at hl 0 rfl) ?_
          have hM : kC l D ct z yX4_nearestFar wsX4_nearestFar 3 72 [.ref (cd 8)] (seW (cd 8) (cd 9) ct (q4.2.1 8) (q4.2.2 8) (q4.2.2 9)) (some (.int (f_X4_nearestFar (q4.2.1 8) (q4.2.2 8) (q4.2.2 9)))) (seW (cd 8) (cd 9) ct (q4.2.1 8) (q4.2.2 8) (q4.2.2 9)) := k_X4_nearestFar l D ct z (cd 8) (cd 9) (q4.2.1 8) (q4.2.2 8) (q4.2.2 9)
          refine kV (As := []) (rest := []) (W1 := xW cd ct q4.2.1 q4.2.2) ⟨hx, hb, hml, hown, hts⟩ hM gX6_seen_X4_nearestFar kyX4_nearestFar (by rw [hRf, hRl]; exact ⟨Nat.le_of_ble_eq_true rfl, Nat.le_of_ble_eq_true rfl⟩) hK hP hD hS hA [8, 9] [0, 1, 2, 3, 4, 5, 6, 7, 10, 11, 12, 13, 14, 15, 16, 17] [0, 1, 2, 3, 4, 5, 6, 7, 16, 17, 8, 9, 10, 11, 12, 13, 14, 15] 8 rfl rfl rfl rfl rfl ⟨rfl, rfl⟩ (by decide) rfl rfl rfl hl.1 rfl (st1 := [.int (f_X4_nearestFar (q4.2.1 8) (q4.2.2 8) (q4.2.2 9))]) rfl rfl ⟨Nat.zero_le _, Nat.zero_le _⟩ dX6_seen_69 (fun H locs hP hD hS => ?_)
          exact kRetI hx hb hr hlk hP hD hS (kfst hf) ((congrArg (fun q => xW cd ct q.2.1 q.2.2) hf).symm) hQ dX6_seen_72
        · have hf := kIf hf c_4
          have t_4 := ti_ne c_4
          refine lv_lookup (off := 38) (tgt := 73) hx hb dX6_seen_35 (by decide) (by show Op.lookupswitch.offset [(0, 25), (1, 33)] _ _ = _; rw [lv_osw c_3 (by decide), lv_osw c_4 (by decide)]; rfl) (by decide) ?_
          refine lv_aload_n hx hb dX6_seen_73 rfl (lv_at hl 0 rfl) ?_
          have hM : kC l D ct z yX4_nearestLand wsX4_nearestLand 4 95 [.ref (cd 8)] (seW (cd 8) (cd 9) ct (q4.2.1 8) (q4.2.2 8) (q4.2.2 9)) (some (.int (f_X4_nearestLand (q4.2.1 8) (q4.2.2 8) (q4.2.2 9)))) (seW (cd 8) (cd 9) ct (q4.2.1 8) (q4.2.2 8) (q4.2.2 9)) := k_X4_nearestLand l D ct z (cd 8) (cd 9) (q4.2.1 8) (q4.2.2 8) (q4.2.2 9)
          refine kV (As := []) (rest := []) (W1 := xW cd ct q4.2.1 q4.2.2) ⟨hx, hb, hml, hown, hts⟩ hM gX6_seen_X4_nearestLand kyX4_nearestLand (by rw [hRf, hRl]; exact ⟨Nat.le_of_ble_eq_true rfl, Nat.le_of_ble_eq_true rfl⟩) hK hP hD hS hA [8, 9] [0, 1, 2, 3, 4, 5, 6, 7, 10, 11, 12, 13, 14, 15, 16, 17] [0, 1, 2, 3, 4, 5, 6, 7, 16, 17, 8, 9, 10, 11, 12, 13, 14, 15] 8 rfl rfl rfl rfl rfl ⟨rfl, rfl⟩ (by decide) rfl rfl rfl hl.1 rfl (st1 := [.int (f_X4_nearestLand (q4.2.1 8) (q4.2.2 8) (q4.2.2 9))]) rfl rfl ⟨Nat.zero_le _, Nat.zero_le _⟩ dX6_seen_74 (fun H locs hP hD hS => ?_)
          exact kRetI hx hb hr hlk hP hD hS (kfst hf) ((congrArg (fun q => xW cd ct q.2.1 q.2.2) hf).symm) hQ dX6_seen_77
    · have hf := kIt hf c_2
      have t_2 := ti_eq c_2
      refine lv_bipush (v := (-6 : Int32)) hx hb dX6_seen_31 (by decide) ?_
      exact kRetI hx hb hr hlk hP hD hS (kfst hf) ((congrArg (fun q => xW cd ct q.2.1 q.2.2) hf).symm) hQ dX6_seen_33
  · have hf := kIf hf c_1
    have t_1 := ti_ne c_1
    refine lv_iload_n hx hb dX6_seen_12 rfl (lv_at hl 0 rfl) ?_
    exact kRetI hx hb hr hlk hP hD hS (kfst hf) ((congrArg (fun q => xW cd ct q.2.1 q.2.2) hf).symm) hQ dX6_seen_13
theorem kyX6_silence : kY yX6_silence cX6_silence 3 (some .int) wsX6_silence wsX6_silence.tail 1 := ⟨rfl, by decide, by decide, by decide +kernel⟩
set_option maxHeartbeats 4000000 in
set_option maxRecDepth 100000 in
theorem k_X6_silence (l : Launch) (D : va_G) (ct : ClassId × ClassId × ClassId) (z : Nat × Nat) (cd : Nat → Nat) (x1 : Int32) (L : Nat → Nat → Int64) (I : Nat → Nat → Int32) (hlen : Int32.toInt (I 5 1) ≤ 60) : kC l D ct z yX6_silence wsX6_silence 6 144 [.ref (cd 0), .int x1] (xW cd ct L I) (some (.int ((f_X6_silence x1 L I).1))) (xW cd ct ((f_X6_silence x1 L I).2.1) ((f_X6_silence x1 L I).2.2)) := by
  refine kHead (cc := cX6_silence) (maxL := 3) (ret := (some .int)) [(0, .ref (cd 0)), (1, .int x1)] (by decide) rfl (Nat.le_of_ble_eq_true rfl) rfl ?_
  intro p e s m args below meth c A ls R Q hRf hRl hQ hx hb hr hlk hml hown hts hA hS hK hP hD hl
  have inX5 : ∀ w ∈ wsX50, w ∈ wsX6_silence := fun w h => (List.mem_cons_of_mem _ (List.mem_append_left _ (List.mem_append_left _ (List.mem_append_right _ h))))
  have inX6 : ∀ w ∈ wsX60, w ∈ wsX6_silence := fun w h => (List.mem_cons_of_mem _ (List.mem_append_left _ (List.mem_append_left _ (List.mem_append_left _ (List.mem_append_right _ h)))))
  have hw1 := hts (Cond.fieldLink RX6 26 "MastPulpits" "voyage" "LMastPulpits$Voyage;") (List.mem_of_getElem? (i := 1) (by decide +kernel))
  have hw2 := hts (Cond.fieldLink RX6 145 "MastPulpits$Voyage" "firstSilence" "I") (List.mem_of_getElem? (i := 2) (by decide +kernel))
  have hw3 := hts (Cond.fieldLink RX6 148 "MastPulpits$Voyage" "calls" "I") (List.mem_of_getElem? (i := 3) (by decide +kernel))
  have kc0 : (0 : Int32).toInt = 0 := by decide
  have kc1 : (1 : Int32).toInt = 1 := by decide
  have hf : f_X6_silence x1 L I = f_X6_silence x1 L I := rfl
  refine lv_aload_n hx hb dX6_silence_0 rfl (lv_at hl 0 rfl) ?_
  refine lv_iload_n hx hb dX6_silence_1 rfl (lv_at hl 1 rfl) ?_
  refine lv_iconst (v := (1 : Int32)) hx hb dX6_silence_2 (by decide) ?_
  refine lv_iconst (v := (1 : Int32)) hx hb dX6_silence_3 (by decide) ?_
  obtain ⟨q4, eq4⟩ : ∃ y, y = f_X6_sailTheText x1 (1 : Int32) (1 : Int32) L I := ⟨_, rfl⟩
  have hf := kLt hf eq4
  have hM : kC l D ct z yX6_sailTheText wsX6_sailTheText 5 121 [.ref (cd 0), .int x1, .int (1 : Int32), .int (1 : Int32)] (xW cd ct L I) (some (.int q4.1)) (xW cd ct q4.2.1 q4.2.2) := by rw [eq4]; exact k_X6_sailTheText l D ct z cd x1 (1 : Int32) (1 : Int32) L I (by first | assumption | exact vin (by omega) (by omega) | omega)
  refine kV1 (As := [.int x1, .int (1 : Int32), .int (1 : Int32)]) (rest := []) ⟨hx, hb, hml, hown, hts⟩ hM gX6_silence_X6_sailTheText kyX6_sailTheText (by rw [hRf, hRl]; exact ⟨Nat.le_of_ble_eq_true rfl, Nat.le_of_ble_eq_true rfl⟩) hK hP hD hS hA 0 rfl rfl rfl rfl hl.1 rfl (st1 := [.int q4.1]) rfl rfl ⟨Nat.zero_le _, Nat.zero_le _⟩ dX6_silence_4 (fun H locs hP hD hS => ?_)
  refine lv_istore_n (lv' := [(2, .int q4.1), (0, .ref (cd 0)), (1, .int x1)]) hx hb dX6_silence_7 rfl hl (by decide) rfl (fun ls hl => ?_)
  refine lv_iload_n hx hb dX6_silence_8 rfl (lv_at hl 0 rfl) ?_
  refine lv_if_eq (tgt := 14) hx hb dX6_silence_9 (by decide) (fun c_1 => ?_) (fun c_1 => ?_)
  · have hf := kIt hf c_1
    have t_1 := ti_eq c_1
    refine lv_iload_n hx hb dX6_silence_14 rfl (lv_at hl 2 rfl) ?_
    refine lv_if_ne (tgt := 28) hx hb dX6_silence_15 (by decide) (fun c_2 => ?_) (fun c_2 => ?_)
    · have hf := kIf hf c_2
      have t_2 := ti_ne c_2
      refine lv_aload_n hx hb dX6_silence_28 rfl (lv_at hl 1 rfl) ?_
      refine va_get (D := D) (cl := vwCl) (ci := 5) (v := .ref (cd 7)) (C := RX6) (T := TX6) (N := 7) hx hb hts inX6 hown hK.1 hP 0 rfl rfl 2 (by decide) hw1 (fun _ h => h) rfl dX6_silence_29 ?_
      refine va_get (D := D) (cl := vwCl) (ci := 4) (v := .int (q4.2.2 7 5)) (C := RX5) (T := TX5) (N := 8) hx hb hts inX5 hown hK.1 hP 7 rfl rfl 5 (by decide) hw3 (fun _ h => h) rfl dX6_silence_32 ?_
      exact kRetI hx hb hr hlk hP hD hS (kfst hf) ((congrArg (fun q => xW cd ct q.2.1 q.2.2) hf).symm) hQ dX6_silence_35
    · have hf := kIt hf c_2
      have t_2 := ti_eq c_2
      refine lv_aload_n hx hb dX6_silence_18 rfl (lv_at hl 1 rfl) ?_
      refine va_get (D := D) (cl := vwCl) (ci := 5) (v := .ref (cd 7)) (C := RX6) (T := TX6) (N := 7) hx hb hts inX6 hown hK.1 hP 0 rfl rfl 2 (by decide) hw1 (fun _ h => h) rfl dX6_silence_19 ?_
      refine va_get (D := D) (cl := vwCl) (ci := 4) (v := .int (q4.2.2 7 7)) (C := RX5) (T := TX5) (N := 8) hx hb hts inX5 hown hK.1 hP 7 rfl rfl 7 (by decide) hw2 (fun _ h => h) rfl dX6_silence_22 ?_
      refine lv_goto (tgt := 35) hx hb dX6_silence_25 (by decide) ?_
      exact kRetI hx hb hr hlk hP hD hS (kfst hf) ((congrArg (fun q => xW cd ct q.2.1 q.2.2) hf).symm) hQ dX6_silence_35
  · have hf := kIf hf c_1
    have t_1 := ti_ne c_1
    refine lv_iload_n hx hb dX6_silence_12 rfl (lv_at hl 0 rfl) ?_
    exact kRetI hx hb hr hlk hP hD hS (kfst hf) ((congrArg (fun q => xW cd ct q.2.1 q.2.2) hf).symm) hQ dX6_silence_13
theorem kyX6_done : kY yX6_done cX6_done 2 (some .int) wsX6_done wsX6_done.tail 0 := ⟨rfl, by decide, by decide, by decide +kernel⟩
set_option maxHeartbeats 4000000 in
set_option maxRecDepth 100000 in
theorem k_X6_done (l : Launch) (D : va_G) (ct : ClassId × ClassId × ClassId) (z : Nat × Nat) (cd : Nat → Nat) (L : Nat → Nat → Int64) (I : Nat → Nat → Int32) (hlen : Int32.toInt (I 5 1) ≤ 60) : kC l D ct z yX6_done wsX6_done 6 144 [.ref (cd 0)] (xW cd ct L I) (some (.int ((f_X6_done L I).1))) (xW cd ct ((f_X6_done L I).2.1) ((f_X6_done L I).2.2)) := by
  refine kHead (cc := cX6_done) (maxL := 2) (ret := (some .int)) [(0, .ref (cd 0))] (by decide) rfl (Nat.le_of_ble_eq_true rfl) rfl ?_
  intro p e s m args below meth c A ls R Q hRf hRl hQ hx hb hr hlk hml hown hts hA hS hK hP hD hl
  have inX2 : ∀ w ∈ wsX20, w ∈ wsX6_done := fun w h => (List.mem_cons_of_mem _ (List.mem_append_left _ (List.mem_append_right _ h)))
  have inX5 : ∀ w ∈ wsX50, w ∈ wsX6_done := fun w h => (List.mem_cons_of_mem _ (List.mem_append_left _ (List.mem_append_left _ (List.mem_append_right _ h))))
  have inX6 : ∀ w ∈ wsX60, w ∈ wsX6_done := fun w h => (List.mem_cons_of_mem _ (List.mem_append_left _ (List.mem_append_left _ (List.mem_append_left _ (List.mem_append_right _ h)))))
  have hw1 := hts (Cond.fieldLink RX6 10 "MastPulpits" "sea" "LMastPulpits$Sea;") (List.mem_of_getElem? (i := 1) (by decide +kernel))
  have hw2 := hts (Cond.fieldLink RX6 26 "MastPulpits" "voyage" "LMastPulpits$Voyage;") (List.mem_of_getElem? (i := 2) (by decide +kernel))
  have hw3 := hts (Cond.fieldLink RX6 125 "MastPulpits$Voyage" "seaThen" "LMastPulpits$Sea;") (List.mem_of_getElem? (i := 3) (by decide +kernel))
  have hw4 := hts (Cond.fieldLink RX6 19 "MastPulpits" "pad" "LMastPulpits$Pad;") (List.mem_of_getElem? (i := 4) (by decide +kernel))
  have hw5 := hts (Cond.fieldLink RX6 105 "MastPulpits$Pad" "length" "I") (List.mem_of_getElem? (i := 5) (by decide +kernel))
  have hw6 := hts (Cond.fieldLink RX6 155 "MastPulpits$Voyage" "acts" "I") (List.mem_of_getElem? (i := 6) (by decide +kernel))
  have kc0 : (0 : Int32).toInt = 0 := by decide
  have kc1 : (1 : Int32).toInt = 1 := by decide
  have hf : f_X6_done L I = f_X6_done L I := rfl
  refine lv_aload_n hx hb dX6_done_0 rfl (lv_at hl 0 rfl) ?_
  refine lv_iconst (v := (0 : Int32)) hx hb dX6_done_1 (by decide) ?_
  refine lv_iconst (v := (0 : Int32)) hx hb dX6_done_2 (by decide) ?_
  refine lv_iconst (v := (1 : Int32)) hx hb dX6_done_3 (by decide) ?_
  obtain ⟨q4, eq4⟩ : ∃ y, y = f_X6_sailTheText (0 : Int32) (0 : Int32) (1 : Int32) L I := ⟨_, rfl⟩
  have hf := kLt hf eq4
  have hM : kC l D ct z yX6_sailTheText wsX6_sailTheText 5 121 [.ref (cd 0), .int (0 : Int32), .int (0 : Int32), .int (1 : Int32)] (xW cd ct L I) (some (.int q4.1)) (xW cd ct q4.2.1 q4.2.2) := by rw [eq4]; exact k_X6_sailTheText l D ct z cd (0 : Int32) (0 : Int32) (1 : Int32) L I (by first | assumption | exact vin (by omega) (by omega) | omega)
  refine kV1 (As := [.int (0 : Int32), .int (0 : Int32), .int (1 : Int32)]) (rest := []) ⟨hx, hb, hml, hown, hts⟩ hM gX6_done_X6_sailTheText kyX6_sailTheText (by rw [hRf, hRl]; exact ⟨Nat.le_of_ble_eq_true rfl, Nat.le_of_ble_eq_true rfl⟩) hK hP hD hS hA 0 rfl rfl rfl rfl hl.1 rfl (st1 := [.int q4.1]) rfl rfl ⟨Nat.zero_le _, Nat.zero_le _⟩ dX6_done_4 (fun H locs hP hD hS => ?_)
  refine lv_istore_n (lv' := [(1, .int q4.1), (0, .ref (cd 0))]) hx hb dX6_done_7 rfl hl (by decide) rfl (fun ls hl => ?_)
  refine lv_iload_n hx hb dX6_done_8 rfl (lv_at hl 0 rfl) ?_
  refine lv_if_eq (tgt := 14) hx hb dX6_done_9 (by decide) (fun c_1 => ?_) (fun c_1 => ?_)
  · have hf := kIt hf c_1
    have t_1 := ti_eq c_1
    refine lv_aload_n hx hb dX6_done_14 rfl (lv_at hl 1 rfl) ?_
    refine va_get (D := D) (cl := vwCl) (ci := 5) (v := .ref (cd 3)) (C := RX6) (T := TX6) (N := 7) hx hb hts inX6 hown hK.1 hP 0 rfl rfl 0 (by decide) hw1 (fun _ h => h) rfl dX6_done_15 ?_
    refine lv_aload_n hx hb dX6_done_18 rfl (lv_at hl 1 rfl) ?_
    refine va_get (D := D) (cl := vwCl) (ci := 5) (v := .ref (cd 7)) (C := RX6) (T := TX6) (N := 7) hx hb hts inX6 hown hK.1 hP 0 rfl rfl 2 (by decide) hw2 (fun _ h => h) rfl dX6_done_19 ?_
    refine va_get (D := D) (cl := vwCl) (ci := 4) (v := .ref (cd 8)) (C := RX5) (T := TX5) (N := 8) hx hb hts inX5 hown hK.1 hP 7 rfl rfl 0 (by decide) hw3 (fun _ h => h) rfl dX6_done_22 ?_
    obtain ⟨q25, eq25⟩ : ∃ y, y = f_X4_takeOver (q4.2.1 3) (q4.2.2 3) (q4.2.2 4) (q4.2.1 8) (q4.2.2 8) (q4.2.2 9) := ⟨_, rfl⟩
    have hf := kLt hf eq25
    have hM : kC l D ct z yX4_takeOver wsX4_takeOver 0 0 [.ref (cd 3), .ref (cd 8)] (seW2 (cd 3) (cd 4) (cd 8) (cd 9) ct (q4.2.1 3) (q4.2.2 3) (q4.2.2 4) (q4.2.1 8) (q4.2.2 8) (q4.2.2 9)) (none) (seW2 (cd 3) (cd 4) (cd 8) (cd 9) ct q25.1 q25.2.1 q25.2.2 (q4.2.1 8) (q4.2.2 8) (q4.2.2 9)) := by rw [eq25]; exact k_X4_takeOver l D ct z (cd 3) (cd 4) (cd 8) (cd 9) (q4.2.1 3) (q4.2.2 3) (q4.2.2 4) (q4.2.1 8) (q4.2.2 8) (q4.2.2 9)
    refine kV (As := [.ref (cd 8)]) (rest := []) (W1 := xW cd ct (rw2 q4.2.1 3 q25.1) (rw2 (rw2 q4.2.2 3 q25.2.1) 4 q25.2.2)) ⟨hx, hb, hml, hown, hts⟩ hM gX6_done_X4_takeOver kyX4_takeOver (by rw [hRf, hRl]; exact ⟨Nat.le_of_ble_eq_true rfl, Nat.le_of_ble_eq_true rfl⟩) hK hP hD hS hA [3, 4, 8, 9] [0, 1, 2, 5, 6, 7, 10, 11, 12, 13, 14, 15, 16, 17] [0, 1, 2, 14, 15, 3, 4, 5, 16, 17, 6, 7, 8, 9, 10, 11, 12, 13] 3 rfl rfl rfl rfl rfl ⟨rfl, rfl⟩ (by decide) rfl rfl rfl hl.1 rfl (st1 := []) rfl rfl ⟨Nat.zero_le _, Nat.zero_le _⟩ dX6_done_25 (fun H locs hP hD hS => ?_)
    refine lv_aload_n hx hb dX6_done_28 rfl (lv_at hl 1 rfl) ?_
    refine va_get (D := D) (cl := vwCl) (ci := 5) (v := .ref (cd 5)) (C := RX6) (T := TX6) (N := 7) hx hb hts inX6 hown hK.1 hP 0 rfl rfl 1 (by decide) hw4 (fun _ h => h) rfl dX6_done_29 ?_
    refine lv_iconst (v := (0 : Int32)) hx hb dX6_done_32 (by decide) ?_
    refine kPut (ci := 1) (C := RX2) (T := TX2) (N := 2) (ty := .int) (v := .int (0 : Int32)) (W1 := xW cd ct (rw2 q4.2.1 3 q25.1) (u2 (rw2 (rw2 q4.2.2 3 q25.2.1) 4 q25.2.2) 5 1 (0 : Int32))) hx hb hts inX2 tyX2 tyX2_ok nmX2 hown hK hP hD hS 5 rfl rfl 1 (by decide) hw5 (fun _ h => h) rfl (by decide +kernel) rfl rfl (Nat.le_of_ble_eq_true rfl) rfl dX6_done_33 (fun H locs hP hD hS => ?_)
    refine lv_aload_n hx hb dX6_done_36 rfl (lv_at hl 1 rfl) ?_
    refine va_get (D := D) (cl := vwCl) (ci := 5) (v := .ref (cd 7)) (C := RX6) (T := TX6) (N := 7) hx hb hts inX6 hown hK.1 hP 0 rfl rfl 2 (by decide) hw2 (fun _ h => h) rfl dX6_done_37 ?_
    refine va_get (D := D) (cl := vwCl) (ci := 4) (v := .int (q4.2.2 7 1)) (C := RX5) (T := TX5) (N := 8) hx hb hts inX5 hown hK.1 hP 7 rfl rfl 1 (by decide) hw6 (fun _ h => h) rfl dX6_done_40 ?_
    exact kRetI hx hb hr hlk hP hD hS (kfst hf) ((congrArg (fun q => xW cd ct q.2.1 q.2.2) hf).symm) hQ dX6_done_43
  · have hf := kIf hf c_1
    have t_1 := ti_ne c_1
    refine lv_iload_n hx hb dX6_done_12 rfl (lv_at hl 0 rfl) ?_
    exact kRetI hx hb hr hlk hP hD hS (kfst hf) ((congrArg (fun q => xW cd ct q.2.1 q.2.2) hf).symm) hQ dX6_done_13
theorem kyX6_fewestSteps : kY yX6_fewestSteps cX6_fewestSteps 9 (some .int) wsX6_fewestSteps wsX6_fewestSteps.tail 3 := ⟨rfl, by decide, by decide, by decide +kernel⟩
set_option maxHeartbeats 4000000 in
set_option maxRecDepth 100000 in
theorem k_X6_fewestSteps (l : Launch) (D : va_G) (ct : ClassId × ClassId × ClassId) (z : Nat × Nat) (cd : Nat → Nat) (x1 : Int32) (x2 : Int32) (x3 : Int32) (L : Nat → Nat → Int64) (I : Nat → Nat → Int32)  : kC l D ct z yX6_fewestSteps wsX6_fewestSteps 3 69 [.ref (cd 0), .int x1, .int x2, .int x3] (xW cd ct L I) (some (.int (f_X6_fewestSteps x1 x2 x3 L I))) (xW cd ct L I) := by
  refine kHead (cc := cX6_fewestSteps) (maxL := 9) (ret := (some .int)) [(0, .ref (cd 0)), (1, .int x1), (2, .int x2), (3, .int x3)] (by decide) rfl (Nat.le_of_ble_eq_true rfl) rfl ?_
  intro p e s m args below meth c A ls R Q hRf hRl hQ hx hb hr hlk hml hown hts hA hS hK hP hD hl
  have inX4 : ∀ w ∈ wsX40, w ∈ wsX6_fewestSteps := fun w h => (List.mem_cons_of_mem _ (List.mem_append_right _ h))
  have inX6 : ∀ w ∈ wsX60, w ∈ wsX6_fewestSteps := fun w h => (List.mem_cons_of_mem _ (List.mem_append_left _ (List.mem_append_right _ h)))
  have hw1 := hts (Cond.fieldLink RX6 10 "MastPulpits" "sea" "LMastPulpits$Sea;") (List.mem_of_getElem? (i := 1) (by decide +kernel))
  have hw2 := hts (Cond.fieldLink RX6 70 "MastPulpits$Sea" "lands" "J") (List.mem_of_getElem? (i := 2) (by decide +kernel))
  have hw3 := hts (Cond.constantLong RX6 74 (-1)) (List.mem_of_getElem? (i := 3) (by decide +kernel))
  have kcm6 : (-6 : Int32).toInt = -6 := by decide
  have kc0 : (0 : Int32).toInt = 0 := by decide
  have kc1 : (1 : Int32).toInt = 1 := by decide
  have kc64 : (64 : Int32).toInt = 64 := by decide
  have klm1 : (-1 : Int64).toInt = -1 := by decide
  have hf : f_X6_fewestSteps x1 x2 x3 L I = f_X6_fewestSteps x1 x2 x3 L I := rfl
  refine lv_aload_n hx hb dX6_fewestSteps_0 rfl (lv_at hl 0 rfl) ?_
  refine va_get (D := D) (cl := vwCl) (ci := 5) (v := .ref (cd 3)) (C := RX6) (T := TX6) (N := 7) hx hb hts inX6 hown hK.1 hP 0 rfl rfl 0 (by decide) hw1 (fun _ h => h) rfl dX6_fewestSteps_1 ?_
  refine lv_iload_n hx hb dX6_fewestSteps_4 rfl (lv_at hl 1 rfl) ?_
  have hM : kC l D ct z yX4_isLand wsX4_isLand 1 22 [.ref (cd 3), .int x1] (seW (cd 3) (cd 4) ct (L 3) (I 3) (I 4)) (some (.int (f_X4_isLand x1 (L 3) (I 3) (I 4)))) (seW (cd 3) (cd 4) ct (L 3) (I 3) (I 4)) := k_X4_isLand l D ct z (cd 3) (cd 4) x1 (L 3) (I 3) (I 4)
  refine kV (As := [.int x1]) (rest := []) (W1 := xW cd ct L I) ⟨hx, hb, hml, hown, hts⟩ hM gX6_fewestSteps_X4_isLand kyX4_isLand (by rw [hRf, hRl]; exact ⟨Nat.le_of_ble_eq_true rfl, Nat.le_of_ble_eq_true rfl⟩) hK hP hD hS hA [3, 4] [0, 1, 2, 5, 6, 7, 8, 9, 10, 11, 12, 13, 14, 15, 16, 17] [0, 1, 2, 16, 17, 3, 4, 5, 6, 7, 8, 9, 10, 11, 12, 13, 14, 15] 3 rfl rfl rfl rfl rfl ⟨rfl, rfl⟩ (by decide) rfl rfl rfl hl.1 rfl (st1 := [.int (f_X4_isLand x1 (L 3) (I 3) (I 4))]) rfl rfl ⟨Nat.zero_le _, Nat.zero_le _⟩ dX6_fewestSteps_5 (fun H locs hP hD hS => ?_)
  refine lv_if_ne (tgt := 22) hx hb dX6_fewestSteps_8 (by decide) (fun c_1 => ?_) (fun c_1 => ?_)
  · have hf := kIf hf c_1
    have t_1 := ti_ne c_1
    refine lv_bipush (v := (-6 : Int32)) hx hb dX6_fewestSteps_22 (by decide) ?_
    exact kRetI hx hb hr hlk hP hD hS hf.symm rfl hQ dX6_fewestSteps_24
  · have hf := kIt hf c_1
    have t_1 := ti_eq c_1
    refine lv_aload_n hx hb dX6_fewestSteps_11 rfl (lv_at hl 0 rfl) ?_
    refine va_get (D := D) (cl := vwCl) (ci := 5) (v := .ref (cd 3)) (C := RX6) (T := TX6) (N := 7) hx hb hts inX6 hown hK.1 hP 0 rfl rfl 0 (by decide) hw1 (fun _ h => h) rfl dX6_fewestSteps_12 ?_
    refine lv_iload_n hx hb dX6_fewestSteps_15 rfl (lv_at hl 2 rfl) ?_
    have hM : kC l D ct z yX4_isLand wsX4_isLand 1 22 [.ref (cd 3), .int x2] (seW (cd 3) (cd 4) ct (L 3) (I 3) (I 4)) (some (.int (f_X4_isLand x2 (L 3) (I 3) (I 4)))) (seW (cd 3) (cd 4) ct (L 3) (I 3) (I 4)) := k_X4_isLand l D ct z (cd 3) (cd 4) x2 (L 3) (I 3) (I 4)
    refine kV (As := [.int x2]) (rest := []) (W1 := xW cd ct L I) ⟨hx, hb, hml, hown, hts⟩ hM gX6_fewestSteps_X4_isLand kyX4_isLand (by rw [hRf, hRl]; exact ⟨Nat.le_of_ble_eq_true rfl, Nat.le_of_ble_eq_true rfl⟩) hK hP hD hS hA [3, 4] [0, 1, 2, 5, 6, 7, 8, 9, 10, 11, 12, 13, 14, 15, 16, 17] [0, 1, 2, 16, 17, 3, 4, 5, 6, 7, 8, 9, 10, 11, 12, 13, 14, 15] 3 rfl rfl rfl rfl rfl ⟨rfl, rfl⟩ (by decide) rfl rfl rfl hl.1 rfl (st1 := [.int (f_X4_isLand x2 (L 3) (I 3) (I 4))]) rfl rfl ⟨Nat.zero_le _, Nat.zero_le _⟩ dX6_fewestSteps_16 (fun H locs hP hD hS => ?_)
    refine lv_if_eq (tgt := 25) hx hb dX6_fewestSteps_19 (by decide) (fun c_2 => ?_) (fun c_2 => ?_)
    · have hf := kIt hf c_2
      have t_2 := ti_eq c_2
      refine lv_iload_n hx hb dX6_fewestSteps_25 rfl (lv_at hl 1 rfl) ?_
      refine lv_iload_n hx hb dX6_fewestSteps_26 rfl (lv_at hl 2 rfl) ?_
      refine lv_icmp_ne (tgt := 41) hx hb dX6_fewestSteps_27 (by decide) (fun c_3 => ?_) (fun c_3 => ?_)
      · have hf := kIf hf c_3
        have t_3 := ti_ne c_3
        refine lv_iload_n hx hb dX6_fewestSteps_41 rfl (lv_at hl 2 rfl) ?_
        have hM : kC l D ct z yX0_only wsX0_only 0 0 [.int x2] ([]) (some (.long (f_X0_only x2))) ([]) := k_X0_only l D ct z x2
        refine kS0 (As := [.int x2]) (rest := []) ⟨hx, hb, hml, hown, hts⟩ hM gX6_fewestSteps_X0_only kyX0_only (by rw [hRf, hRl]; exact ⟨Nat.le_of_ble_eq_true rfl, Nat.le_of_ble_eq_true rfl⟩) hK hP hD hS hA rfl hl.1 rfl (st1 := [.long (f_X0_only x2)]) rfl rfl ⟨Nat.zero_le _, Nat.zero_le _⟩ dX6_fewestSteps_42 (fun H locs hP hD hS => ?_)
        refine lv_topl (fun y45 ey45 => ?_)
        have hf := kLt hf ey45
        refine lv_lstore (lv' := [(4, .long y45), (0, .ref (cd 0)), (1, .int x1), (2, .int x2), (3, .int x3)]) hx hb dX6_fewestSteps_45 hl (by decide) rfl (fun ls hl => ?_)
        refine lv_iconst (v := (1 : Int32)) hx hb dX6_fewestSteps_47 (by decide) ?_
        refine lv_istore (lv' := [(6, .int (1 : Int32)), (4, .long y45), (0, .ref (cd 0)), (1, .int x1), (2, .int x2), (3, .int x3)]) hx hb dX6_fewestSteps_48 hl (by decide) rfl (fun ls hl => ?_)
        have lp50 : ∀ (K : Unit → Int32), (∀ (H : Heap) (locs : List Loc) (ls : Array Slot), va_P D vwCl (xW cd ct L I) H → va_D A (xW cd ct L I) → va_S A s.heap H locs → lv_has ls 9 [] → f_X6_fewestSteps x1 x2 x3 L I = K () → W p l e R s m args below meth c H locs 0 0 Q (F0 m 111 ls [])) → ∀ (n : Nat) (z50_6 : Int32) (z50_4 : Int64), ∀ (H : Heap) (locs : List Loc) (ls : Array Slot), (64 ≤ Int32.toInt z50_6 + (n : Int)) → va_P D vwCl (xW cd ct L I) H → va_D A (xW cd ct L I) → va_S A s.heap H locs → lv_has ls 9 [(6, .int z50_6), (4, .long z50_4), (0, .ref (cd 0)), (1, .int x1), (3, .int x3)] → f_X6_fewestSteps x1 x2 x3 L I = f_X6_fewestSteps_L50 x1 x3 L K n z50_6 z50_4 → W p l e R s m args below meth c H locs 0 0 Q (F0 m 50 ls []) := by
          intro K hk n
          induction n with
          | zero =>
            intro z50_6 z50_4  H locs ls hn50 hP hD hS hl hf
            refine lv_iload hx hb dX6_fewestSteps_50 (lv_at hl 0 rfl) ?_
            refine lv_bipush (v := (64 : Int32)) hx hb dX6_fewestSteps_52 (by decide) ?_
            refine lv_icmp_ge (tgt := 111) hx hb dX6_fewestSteps_54 (by decide) (fun c_7 => ?_) (fun c_7 => ?_)
            · have t_7 := ti_le c_7
              exact hk  _ _ _  hP hD hS (lv_sub hl [] rfl) hf
            · have t_7 := ti_nle c_7
              exfalso
              omega
          | succ n ih =>
            intro z50_6 z50_4  H locs ls hn50 hP hD hS hl hf
            refine lv_iload hx hb dX6_fewestSteps_50 (lv_at hl 0 rfl) ?_
            refine lv_bipush (v := (64 : Int32)) hx hb dX6_fewestSteps_52 (by decide) ?_
            refine lv_icmp_ge (tgt := 111) hx hb dX6_fewestSteps_54 (by decide) (fun c_4 => ?_) (fun c_4 => ?_)
            · have hf := kIt hf c_4
              have t_4 := ti_le c_4
              exact hk  _ _ _  hP hD hS (lv_sub hl [] rfl) hf
            · have hf := kIf hf c_4
              have t_4 := ti_nle c_4
              refine lv_lload hx hb dX6_fewestSteps_57 (lv_at hl 1 rfl) ?_
              have hM : kC l D ct z yX0_spread wsX0_spread 0 0 [.long z50_4] ([]) (some (.long (f_X0_spread z50_4))) ([]) := k_X0_spread l D ct z z50_4
              refine kS0 (As := [.long z50_4]) (rest := []) ⟨hx, hb, hml, hown, hts⟩ hM gX6_fewestSteps_X0_spread kyX0_spread (by rw [hRf, hRl]; exact ⟨Nat.le_of_ble_eq_true rfl, Nat.le_of_ble_eq_true rfl⟩) hK hP hD hS hA rfl hl.1 rfl (st1 := [.long (f_X0_spread z50_4)]) rfl rfl ⟨Nat.zero_le _, Nat.zero_le _⟩ dX6_fewestSteps_59 (fun H locs hP hD hS => ?_)
              refine lv_aload_n hx hb dX6_fewestSteps_62 rfl (lv_at hl 2 rfl) ?_
              refine va_get (D := D) (cl := vwCl) (ci := 5) (v := .ref (cd 3)) (C := RX6) (T := TX6) (N := 7) hx hb hts inX6 hown hK.1 hP 0 rfl rfl 0 (by decide) hw1 (fun _ h => h) rfl dX6_fewestSteps_63 ?_
              refine va_get (D := D) (cl := vwCl) (ci := 3) (v := .long (L 3 0)) (C := RX4) (T := TX4) (N := 10) hx hb hts inX4 hown hK.1 hP 3 rfl rfl 0 (by decide) hw2 (fun _ h => h) rfl dX6_fewestSteps_66 ?_
              refine lv_ldc2 (v := (-1 : Int64)) hx hb hown hw3 dX6_fewestSteps_69 ?_
              refine lv_lxor hx hb dX6_fewestSteps_72 ?_
              refine lv_land hx hb dX6_fewestSteps_73 ?_
              refine lv_topl (fun y74 ey74 => ?_)
              have hf := kLt hf ey74
              refine lv_lstore (lv' := [(7, .long y74), (6, .int z50_6), (4, .long z50_4), (0, .ref (cd 0)), (1, .int x1), (3, .int x3)]) hx hb dX6_fewestSteps_74 hl (by decide) rfl (fun ls hl => ?_)
              refine lv_lload hx hb dX6_fewestSteps_76 (lv_at hl 0 rfl) ?_
              refine lv_iload_n hx hb dX6_fewestSteps_78 rfl (lv_at hl 4 rfl) ?_
              have hM : kC l D ct z yX0_holds wsX0_holds 0 0 [.long y74, .int x1] ([]) (some (.int (f_X0_holds y74 x1))) ([]) := k_X0_holds l D ct z y74 x1
              refine kS0 (As := [.long y74, .int x1]) (rest := []) ⟨hx, hb, hml, hown, hts⟩ hM gX6_fewestSteps_X0_holds kyX0_holds (by rw [hRf, hRl]; exact ⟨Nat.le_of_ble_eq_true rfl, Nat.le_of_ble_eq_true rfl⟩) hK hP hD hS hA rfl hl.1 rfl (st1 := [.int (f_X0_holds y74 x1)]) rfl rfl ⟨Nat.zero_le _, Nat.zero_le _⟩ dX6_fewestSteps_79 (fun H locs hP hD hS => ?_)
              refine lv_if_eq (tgt := 101) hx hb dX6_fewestSteps_82 (by decide) (fun c_5 => ?_) (fun c_5 => ?_)
              · have hf := kIt hf c_5
                have t_5 := ti_eq c_5
                refine lv_lload hx hb dX6_fewestSteps_101 (lv_at hl 0 rfl) ?_
                refine lv_lstore (lv' := [(4, .long y74), (7, .long y74), (6, .int z50_6), (0, .ref (cd 0)), (1, .int x1), (3, .int x3)]) hx hb dX6_fewestSteps_103 hl (by decide) rfl (fun ls hl => ?_)
                obtain ⟨y105, ey105⟩ : ∃ y : Int32, y = z50_6 + (1 : Int32) := ⟨_, rfl⟩
                have hf := kLt hf ey105
                have a105 : Int32.toInt y105 = Int32.toInt z50_6 + 1 := by have := ti_rng z50_6; rw [ey105]; exact ti_add (by rw [kc1]) (by omega) (by omega)
                refine lv_iinc (v := y105) (lv' := [(6, .int y105), (4, .long y74), (7, .long y74), (0, .ref (cd 0)), (1, .int x1), (3, .int x3)]) hx hb dX6_fewestSteps_105 hl (k := 2) rfl (by rw [ey105]; rfl) (by decide) rfl (fun ls hl => ?_)
                refine lv_goto (tgt := 50) hx hb dX6_fewestSteps_108 (by decide) ?_
                exact ih y105 y74 _ _ _ (by first | assumption | exact vin (by omega) (by omega) | omega) hP hD hS (lv_sub hl [0, 1, 3, 4, 5] rfl) hf
              · have hf := kIf hf c_5
                have t_5 := ti_ne c_5
                refine lv_iload_n hx hb dX6_fewestSteps_85 rfl (lv_at hl 5 rfl) ?_
                refine lv_if_ne (tgt := 94) hx hb dX6_fewestSteps_86 (by decide) (fun c_6 => ?_) (fun c_6 => ?_)
                · have hf := kIf hf c_6
                  have t_6 := ti_ne c_6
                  refine lv_iload_n hx hb dX6_fewestSteps_94 rfl (lv_at hl 4 rfl) ?_
                  refine lv_lload hx hb dX6_fewestSteps_95 (lv_at hl 2 rfl) ?_
                  have hM : kC l D ct z yX0_leastWayInto wsX0_leastWayInto 2 46 [.int x1, .long z50_4] ([]) (some (.int (f_X0_leastWayInto x1 z50_4))) ([]) := k_X0_leastWayInto l D ct z x1 z50_4
                  refine kS0 (As := [.int x1, .long z50_4]) (rest := []) ⟨hx, hb, hml, hown, hts⟩ hM gX6_fewestSteps_X0_leastWayInto kyX0_leastWayInto (by rw [hRf, hRl]; exact ⟨Nat.le_of_ble_eq_true rfl, Nat.le_of_ble_eq_true rfl⟩) hK hP hD hS hA rfl hl.1 rfl (st1 := [.int (f_X0_leastWayInto x1 z50_4)]) rfl rfl ⟨Nat.zero_le _, Nat.zero_le _⟩ dX6_fewestSteps_97 (fun H locs hP hD hS => ?_)
                  exact kRetI hx hb hr hlk hP hD hS hf.symm rfl hQ dX6_fewestSteps_100
                · have hf := kIt hf c_6
                  have t_6 := ti_eq c_6
                  refine lv_iload hx hb dX6_fewestSteps_89 (lv_at hl 1 rfl) ?_
                  refine lv_goto (tgt := 100) hx hb dX6_fewestSteps_91 (by decide) ?_
                  exact kRetI hx hb hr hlk hP hD hS hf.symm rfl hQ dX6_fewestSteps_100
        refine lp50 _ (fun   H locs ls  hP hD hS hl hf => ?_) (63) (1 : Int32) y45  _ _ _ (by first | assumption | exact vin (by omega) (by omega) | omega) hP hD hS (lv_sub hl [0, 1, 2, 3, 5] rfl) hf
        refine lv_bipush (v := (-6 : Int32)) hx hb dX6_fewestSteps_111 (by decide) ?_
        exact kRetI hx hb hr hlk hP hD hS hf.symm rfl hQ dX6_fewestSteps_113
      · have hf := kIt hf c_3
        have t_3 := ti_eq c_3
        refine lv_iload_n hx hb dX6_fewestSteps_30 rfl (lv_at hl 3 rfl) ?_
        refine lv_if_ne (tgt := 38) hx hb dX6_fewestSteps_31 (by decide) (fun c_8 => ?_) (fun c_8 => ?_)
        · have hf := kIf hf c_8
          have t_8 := ti_ne c_8
          refine lv_bipush (v := (-6 : Int32)) hx hb dX6_fewestSteps_38 (by decide) ?_
          exact kRetI hx hb hr hlk hP hD hS hf.symm rfl hQ dX6_fewestSteps_40
        · have hf := kIt hf c_8
          have t_8 := ti_eq c_8
          refine lv_iconst (v := (0 : Int32)) hx hb dX6_fewestSteps_34 (by decide) ?_
          refine lv_goto (tgt := 40) hx hb dX6_fewestSteps_35 (by decide) ?_
          exact kRetI hx hb hr hlk hP hD hS hf.symm rfl hQ dX6_fewestSteps_40
    · have hf := kIf hf c_2
      have t_2 := ti_ne c_2
      refine lv_bipush (v := (-6 : Int32)) hx hb dX6_fewestSteps_22 (by decide) ?_
      exact kRetI hx hb hr hlk hP hD hS hf.symm rfl hQ dX6_fewestSteps_24
theorem kyX6_course : kY yX6_course cX6_course 4 (some .int) wsX6_course wsX6_course.tail 3 := ⟨rfl, by decide, by decide, by decide +kernel⟩
set_option maxHeartbeats 4000000 in
set_option maxRecDepth 100000 in
theorem k_X6_course (l : Launch) (D : va_G) (ct : ClassId × ClassId × ClassId) (z : Nat × Nat) (cd : Nat → Nat) (x1 : Int32) (x2 : Int32) (x3 : Int32) (L : Nat → Nat → Int64) (I : Nat → Nat → Int32)  : kC l D ct z yX6_course wsX6_course 4 97 [.ref (cd 0), .int x1, .int x2, .int x3] (xW cd ct L I) (some (.int (f_X6_course x1 x2 x3 L I))) (xW cd ct L I) := by
  refine kHead (cc := cX6_course) (maxL := 4) (ret := (some .int)) [(0, .ref (cd 0)), (1, .int x1), (2, .int x2), (3, .int x3)] (by decide) rfl (Nat.le_of_ble_eq_true rfl) rfl ?_
  intro p e s m args below meth c A ls R Q hRf hRl hQ hx hb hr hlk hml hown hts hA hS hK hP hD hl
  have kcm2 : (-2 : Int32).toInt = -2 := by decide
  have kcm1 : (-1 : Int32).toInt = -1 := by decide
  have kc0 : (0 : Int32).toInt = 0 := by decide
  have kc1 : (1 : Int32).toInt = 1 := by decide
  have hf : f_X6_course x1 x2 x3 L I = f_X6_course x1 x2 x3 L I := rfl
  refine lv_iload_n hx hb dX6_course_0 rfl (lv_at hl 1 rfl) ?_
  have hM : kC l D ct z yX0_isCell wsX0_isCell 0 0 [.int x1] ([]) (some (.int (f_X0_isCell x1))) ([]) := k_X0_isCell l D ct z x1
  refine kS0 (As := [.int x1]) (rest := []) ⟨hx, hb, hml, hown, hts⟩ hM gX6_course_X0_isCell kyX0_isCell (by rw [hRf, hRl]; exact ⟨Nat.le_of_ble_eq_true rfl, Nat.le_of_ble_eq_true rfl⟩) hK hP hD hS hA rfl hl.1 rfl (st1 := [.int (f_X0_isCell x1)]) rfl rfl ⟨Nat.zero_le _, Nat.zero_le _⟩ dX6_course_1 (fun H locs hP hD hS => ?_)
  refine lv_if_eq (tgt := 14) hx hb dX6_course_4 (by decide) (fun c_1 => ?_) (fun c_1 => ?_)
  · have hf := kIt hf c_1
    have t_1 := ti_eq c_1
    refine lv_iconst (v := (-1 : Int32)) hx hb dX6_course_14 (by decide) ?_
    exact kRetI hx hb hr hlk hP hD hS hf.symm rfl hQ dX6_course_15
  · have hf := kIf hf c_1
    have t_1 := ti_ne c_1; have w_1 := xcell_nz c_1
    refine lv_iload_n hx hb dX6_course_7 rfl (lv_at hl 2 rfl) ?_
    have hM : kC l D ct z yX0_isCell wsX0_isCell 0 0 [.int x2] ([]) (some (.int (f_X0_isCell x2))) ([]) := k_X0_isCell l D ct z x2
    refine kS0 (As := [.int x2]) (rest := []) ⟨hx, hb, hml, hown, hts⟩ hM gX6_course_X0_isCell kyX0_isCell (by rw [hRf, hRl]; exact ⟨Nat.le_of_ble_eq_true rfl, Nat.le_of_ble_eq_true rfl⟩) hK hP hD hS hA rfl hl.1 rfl (st1 := [.int (f_X0_isCell x2)]) rfl rfl ⟨Nat.zero_le _, Nat.zero_le _⟩ dX6_course_8 (fun H locs hP hD hS => ?_)
    refine lv_if_ne (tgt := 16) hx hb dX6_course_11 (by decide) (fun c_2 => ?_) (fun c_2 => ?_)
    · have hf := kIf hf c_2
      have t_2 := ti_ne c_2; have w_2 := xcell_nz c_2
      refine lv_iload_n hx hb dX6_course_16 rfl (lv_at hl 3 rfl) ?_
      refine lv_iconst (v := (0 : Int32)) hx hb dX6_course_17 (by decide) ?_
      refine lv_iconst (v := (1 : Int32)) hx hb dX6_course_18 (by decide) ?_
      have hM : kC l D ct z yX6_within wsX6_within 0 0 [.int x3, .int (0 : Int32), .int (1 : Int32)] ([]) (some (.int (f_X6_within x3 (0 : Int32) (1 : Int32)))) ([]) := k_X6_within l D ct z x3 (0 : Int32) (1 : Int32)
      refine kS0 (As := [.int x3, .int (0 : Int32), .int (1 : Int32)]) (rest := []) ⟨hx, hb, hml, hown, hts⟩ hM gX6_course_X6_within kyX6_within (by rw [hRf, hRl]; exact ⟨Nat.le_of_ble_eq_true rfl, Nat.le_of_ble_eq_true rfl⟩) hK hP hD hS hA rfl hl.1 rfl (st1 := [.int (f_X6_within x3 (0 : Int32) (1 : Int32))]) rfl rfl ⟨Nat.zero_le _, Nat.zero_le _⟩ dX6_course_19 (fun H locs hP hD hS => ?_)
      refine lv_if_ne (tgt := 28) hx hb dX6_course_22 (by decide) (fun c_3 => ?_) (fun c_3 => ?_)
      · have hf := kIf hf c_3
        have t_3 := ti_ne c_3; have w_3 := within_nz c_3
        refine lv_aload_n hx hb dX6_course_28 rfl (lv_at hl 0 rfl) ?_
        refine lv_iload_n hx hb dX6_course_29 rfl (lv_at hl 1 rfl) ?_
        refine lv_iload_n hx hb dX6_course_30 rfl (lv_at hl 2 rfl) ?_
        refine lv_iload_n hx hb dX6_course_31 rfl (lv_at hl 3 rfl) ?_
        have hM : kC l D ct z yX6_fewestSteps wsX6_fewestSteps 3 69 [.ref (cd 0), .int x1, .int x2, .int x3] (xW cd ct L I) (some (.int (f_X6_fewestSteps x1 x2 x3 L I))) (xW cd ct L I) := k_X6_fewestSteps l D ct z cd x1 x2 x3 L I
        refine kV1 (As := [.int x1, .int x2, .int x3]) (rest := []) ⟨hx, hb, hml, hown, hts⟩ hM gX6_course_X6_fewestSteps kyX6_fewestSteps (by rw [hRf, hRl]; exact ⟨Nat.le_of_ble_eq_true rfl, Nat.le_of_ble_eq_true rfl⟩) hK hP hD hS hA 0 rfl rfl rfl rfl hl.1 rfl (st1 := [.int (f_X6_fewestSteps x1 x2 x3 L I)]) rfl rfl ⟨Nat.zero_le _, Nat.zero_le _⟩ dX6_course_32 (fun H locs hP hD hS => ?_)
        exact kRetI hx hb hr hlk hP hD hS hf.symm rfl hQ dX6_course_35
      · have hf := kIt hf c_3
        have t_3 := ti_eq c_3
        refine lv_bipush (v := (-2 : Int32)) hx hb dX6_course_25 (by decide) ?_
        exact kRetI hx hb hr hlk hP hD hS hf.symm rfl hQ dX6_course_27
    · have hf := kIt hf c_2
      have t_2 := ti_eq c_2
      refine lv_iconst (v := (-1 : Int32)) hx hb dX6_course_14 (by decide) ?_
      exact kRetI hx hb hr hlk hP hD hS hf.symm rfl hQ dX6_course_15
theorem kyX6_cross : kY yX6_cross cX6_cross 8 (some .int) wsX6_cross wsX6_cross.tail 5 := ⟨rfl, by decide, by decide, by decide +kernel⟩
set_option maxHeartbeats 4000000 in
set_option maxRecDepth 100000 in
theorem k_X6_cross (l : Launch) (D : va_G) (ct : ClassId × ClassId × ClassId) (z : Nat × Nat) (cd : Nat → Nat) (x1 : Int32) (x2 : Int32) (x3 : Int32) (x4 : Int32) (x5 : Int32) (L : Nat → Nat → Int64) (I : Nat → Nat → Int32)  : kC l D ct z yX6_cross wsX6_cross 3 71 [.ref (cd 0), .int x1, .int x2, .int x3, .int x4, .int x5] (xW cd ct L I) (some (.int (f_X6_cross x1 x2 x3 x4 x5 L I))) (xW cd ct L I) := by
  refine kHead (cc := cX6_cross) (maxL := 8) (ret := (some .int)) [(0, .ref (cd 0)), (1, .int x1), (2, .int x2), (3, .int x3), (4, .int x4), (5, .int x5)] (by decide) rfl (Nat.le_of_ble_eq_true rfl) rfl ?_
  intro p e s m args below meth c A ls R Q hRf hRl hQ hx hb hr hlk hml hown hts hA hS hK hP hD hl
  have kcm2 : (-2 : Int32).toInt = -2 := by decide
  have kcm1 : (-1 : Int32).toInt = -1 := by decide
  have kc0 : (0 : Int32).toInt = 0 := by decide
  have kc1 : (1 : Int32).toInt = 1 := by decide
  have hf : f_X6_cross x1 x2 x3 x4 x5 L I = f_X6_cross x1 x2 x3 x4 x5 L I := rfl
  refine lv_iload_n hx hb dX6_cross_0 rfl (lv_at hl 1 rfl) ?_
  have hM : kC l D ct z yX0_isCell wsX0_isCell 0 0 [.int x1] ([]) (some (.int (f_X0_isCell x1))) ([]) := k_X0_isCell l D ct z x1
  refine kS0 (As := [.int x1]) (rest := []) ⟨hx, hb, hml, hown, hts⟩ hM gX6_cross_X0_isCell kyX0_isCell (by rw [hRf, hRl]; exact ⟨Nat.le_of_ble_eq_true rfl, Nat.le_of_ble_eq_true rfl⟩) hK hP hD hS hA rfl hl.1 rfl (st1 := [.int (f_X0_isCell x1)]) rfl rfl ⟨Nat.zero_le _, Nat.zero_le _⟩ dX6_cross_1 (fun H locs hP hD hS => ?_)
  refine lv_if_eq (tgt := 14) hx hb dX6_cross_4 (by decide) (fun c_1 => ?_) (fun c_1 => ?_)
  · have hf := kIt hf c_1
    have t_1 := ti_eq c_1
    refine lv_iconst (v := (-1 : Int32)) hx hb dX6_cross_14 (by decide) ?_
    exact kRetI hx hb hr hlk hP hD hS hf.symm rfl hQ dX6_cross_15
  · have hf := kIf hf c_1
    have t_1 := ti_ne c_1; have w_1 := xcell_nz c_1
    refine lv_iload_n hx hb dX6_cross_7 rfl (lv_at hl 3 rfl) ?_
    have hM : kC l D ct z yX0_isCell wsX0_isCell 0 0 [.int x3] ([]) (some (.int (f_X0_isCell x3))) ([]) := k_X0_isCell l D ct z x3
    refine kS0 (As := [.int x3]) (rest := []) ⟨hx, hb, hml, hown, hts⟩ hM gX6_cross_X0_isCell kyX0_isCell (by rw [hRf, hRl]; exact ⟨Nat.le_of_ble_eq_true rfl, Nat.le_of_ble_eq_true rfl⟩) hK hP hD hS hA rfl hl.1 rfl (st1 := [.int (f_X0_isCell x3)]) rfl rfl ⟨Nat.zero_le _, Nat.zero_le _⟩ dX6_cross_8 (fun H locs hP hD hS => ?_)
    refine lv_if_ne (tgt := 16) hx hb dX6_cross_11 (by decide) (fun c_2 => ?_) (fun c_2 => ?_)
    · have hf := kIf hf c_2
      have t_2 := ti_ne c_2; have w_2 := xcell_nz c_2
      refine lv_iload_n hx hb dX6_cross_16 rfl (lv_at hl 2 rfl) ?_
      have hM : kC l D ct z yX0_isWay wsX0_isWay 0 0 [.int x2] ([]) (some (.int (f_X0_isWay x2))) ([]) := k_X0_isWay l D ct z x2
      refine kS0 (As := [.int x2]) (rest := []) ⟨hx, hb, hml, hown, hts⟩ hM gX6_cross_X0_isWay kyX0_isWay (by rw [hRf, hRl]; exact ⟨Nat.le_of_ble_eq_true rfl, Nat.le_of_ble_eq_true rfl⟩) hK hP hD hS hA rfl hl.1 rfl (st1 := [.int (f_X0_isWay x2)]) rfl rfl ⟨Nat.zero_le _, Nat.zero_le _⟩ dX6_cross_17 (fun H locs hP hD hS => ?_)
      refine lv_if_eq (tgt := 41) hx hb dX6_cross_20 (by decide) (fun c_3 => ?_) (fun c_3 => ?_)
      · have hf := kIt hf c_3
        have t_3 := ti_eq c_3
        refine lv_bipush (v := (-2 : Int32)) hx hb dX6_cross_41 (by decide) ?_
        exact kRetI hx hb hr hlk hP hD hS hf.symm rfl hQ dX6_cross_43
      · have hf := kIf hf c_3
        have t_3 := ti_ne c_3; have w_3 := xway_nz c_3
        refine lv_iload hx hb dX6_cross_23 (lv_at hl 4 rfl) ?_
        have hM : kC l D ct z yX0_isWay wsX0_isWay 0 0 [.int x4] ([]) (some (.int (f_X0_isWay x4))) ([]) := k_X0_isWay l D ct z x4
        refine kS0 (As := [.int x4]) (rest := []) ⟨hx, hb, hml, hown, hts⟩ hM gX6_cross_X0_isWay kyX0_isWay (by rw [hRf, hRl]; exact ⟨Nat.le_of_ble_eq_true rfl, Nat.le_of_ble_eq_true rfl⟩) hK hP hD hS hA rfl hl.1 rfl (st1 := [.int (f_X0_isWay x4)]) rfl rfl ⟨Nat.zero_le _, Nat.zero_le _⟩ dX6_cross_25 (fun H locs hP hD hS => ?_)
        refine lv_if_eq (tgt := 41) hx hb dX6_cross_28 (by decide) (fun c_4 => ?_) (fun c_4 => ?_)
        · have hf := kIt hf c_4
          have t_4 := ti_eq c_4
          refine lv_bipush (v := (-2 : Int32)) hx hb dX6_cross_41 (by decide) ?_
          exact kRetI hx hb hr hlk hP hD hS hf.symm rfl hQ dX6_cross_43
        · have hf := kIf hf c_4
          have t_4 := ti_ne c_4; have w_4 := xway_nz c_4
          refine lv_iload hx hb dX6_cross_31 (lv_at hl 5 rfl) ?_
          refine lv_iconst (v := (0 : Int32)) hx hb dX6_cross_33 (by decide) ?_
          refine lv_iconst (v := (1 : Int32)) hx hb dX6_cross_34 (by decide) ?_
          have hM : kC l D ct z yX6_within wsX6_within 0 0 [.int x5, .int (0 : Int32), .int (1 : Int32)] ([]) (some (.int (f_X6_within x5 (0 : Int32) (1 : Int32)))) ([]) := k_X6_within l D ct z x5 (0 : Int32) (1 : Int32)
          refine kS0 (As := [.int x5, .int (0 : Int32), .int (1 : Int32)]) (rest := []) ⟨hx, hb, hml, hown, hts⟩ hM gX6_cross_X6_within kyX6_within (by rw [hRf, hRl]; exact ⟨Nat.le_of_ble_eq_true rfl, Nat.le_of_ble_eq_true rfl⟩) hK hP hD hS hA rfl hl.1 rfl (st1 := [.int (f_X6_within x5 (0 : Int32) (1 : Int32))]) rfl rfl ⟨Nat.zero_le _, Nat.zero_le _⟩ dX6_cross_35 (fun H locs hP hD hS => ?_)
          refine lv_if_ne (tgt := 44) hx hb dX6_cross_38 (by decide) (fun c_5 => ?_) (fun c_5 => ?_)
          · have hf := kIf hf c_5
            have t_5 := ti_ne c_5; have w_5 := within_nz c_5
            refine lv_iload_n hx hb dX6_cross_44 rfl (lv_at hl 1 rfl) ?_
            refine lv_iload_n hx hb dX6_cross_45 rfl (lv_at hl 2 rfl) ?_
            have hM : kC l D ct z yX0_ray wsX0_ray 2 46 [.int x1, .int x2] ([]) (some (.long (f_X0_ray x1 x2))) ([]) := k_X0_ray l D ct z x1 x2
            refine kS0 (As := [.int x1, .int x2]) (rest := []) ⟨hx, hb, hml, hown, hts⟩ hM gX6_cross_X0_ray kyX0_ray (by rw [hRf, hRl]; exact ⟨Nat.le_of_ble_eq_true rfl, Nat.le_of_ble_eq_true rfl⟩) hK hP hD hS hA rfl hl.1 rfl (st1 := [.long (f_X0_ray x1 x2)]) rfl rfl ⟨Nat.zero_le _, Nat.zero_le _⟩ dX6_cross_46 (fun H locs hP hD hS => ?_)
            refine lv_iload_n hx hb dX6_cross_49 rfl (lv_at hl 3 rfl) ?_
            refine lv_iload hx hb dX6_cross_50 (lv_at hl 4 rfl) ?_
            have hM : kC l D ct z yX0_ray wsX0_ray 2 46 [.int x3, .int x4] ([]) (some (.long (f_X0_ray x3 x4))) ([]) := k_X0_ray l D ct z x3 x4
            refine kS0 (As := [.int x3, .int x4]) (rest := [.long (f_X0_ray x1 x2)]) ⟨hx, hb, hml, hown, hts⟩ hM gX6_cross_X0_ray kyX0_ray (by rw [hRf, hRl]; exact ⟨Nat.le_of_ble_eq_true rfl, Nat.le_of_ble_eq_true rfl⟩) hK hP hD hS hA rfl hl.1 rfl (st1 := [.long (f_X0_ray x3 x4), .long (f_X0_ray x1 x2)]) rfl rfl ⟨Nat.zero_le _, Nat.zero_le _⟩ dX6_cross_52 (fun H locs hP hD hS => ?_)
            refine lv_land hx hb dX6_cross_55 ?_
            refine lv_topl (fun y56 ey56 => ?_)
            have hf := kLt hf ey56
            refine lv_lstore (lv' := [(6, .long y56), (0, .ref (cd 0)), (1, .int x1), (2, .int x2), (3, .int x3), (4, .int x4), (5, .int x5)]) hx hb dX6_cross_56 hl (by decide) rfl (fun ls hl => ?_)
            refine lv_iload hx hb dX6_cross_58 (lv_at hl 6 rfl) ?_
            refine lv_if_ne (tgt := 71) hx hb dX6_cross_60 (by decide) (fun c_6 => ?_) (fun c_6 => ?_)
            · have hf := kIf hf c_6
              have t_6 := ti_ne c_6
              refine lv_lload hx hb dX6_cross_71 (lv_at hl 0 rfl) ?_
              have hM : kC l D ct z yX0_least wsX0_least 1 21 [.long y56] ([]) (some (.int (f_X0_least y56))) ([]) := k_X0_least l D ct z y56
              refine kS0 (As := [.long y56]) (rest := []) ⟨hx, hb, hml, hown, hts⟩ hM gX6_cross_X0_least kyX0_least (by rw [hRf, hRl]; exact ⟨Nat.le_of_ble_eq_true rfl, Nat.le_of_ble_eq_true rfl⟩) hK hP hD hS hA rfl hl.1 rfl (st1 := [.int (f_X0_least y56)]) rfl rfl ⟨Nat.zero_le _, Nat.zero_le _⟩ dX6_cross_73 (fun H locs hP hD hS => ?_)
              exact kRetI hx hb hr hlk hP hD hS hf.symm rfl hQ dX6_cross_76
            · have hf := kIt hf c_6
              have t_6 := ti_eq c_6
              refine lv_lload hx hb dX6_cross_63 (lv_at hl 0 rfl) ?_
              have hM : kC l D ct z yJ13_bitCount_95d88 wsJ13_bitCount_95d88 0 0 [.long y56] ([]) (some (.int (f_J13_bitCount_95d88 y56))) ([]) := k_J13_bitCount_95d88 l D ct z y56
              refine kS0 (As := [.long y56]) (rest := []) ⟨hx, hb, hml, hown, hts⟩ hM gX6_cross_J13_bitCount_95d88 kyJ13_bitCount_95d88 (by rw [hRf, hRl]; exact ⟨Nat.le_of_ble_eq_true rfl, Nat.le_of_ble_eq_true rfl⟩) hK hP hD hS hA rfl hl.1 rfl (st1 := [.int (f_J13_bitCount_95d88 y56)]) rfl rfl ⟨Nat.zero_le _, Nat.zero_le _⟩ dX6_cross_65 (fun H locs hP hD hS => ?_)
              refine lv_goto (tgt := 76) hx hb dX6_cross_68 (by decide) ?_
              exact kRetI hx hb hr hlk hP hD hS hf.symm rfl hQ dX6_cross_76
          · have hf := kIt hf c_5
            have t_5 := ti_eq c_5
            refine lv_bipush (v := (-2 : Int32)) hx hb dX6_cross_41 (by decide) ?_
            exact kRetI hx hb hr hlk hP hD hS hf.symm rfl hQ dX6_cross_43
    · have hf := kIt hf c_2
      have t_2 := ti_eq c_2
      refine lv_iconst (v := (-1 : Int32)) hx hb dX6_cross_14 (by decide) ?_
      exact kRetI hx hb hr hlk hP hD hS hf.symm rfl hQ dX6_cross_15
theorem kyX6_ropes : kY yX6_ropes cX6_ropes 5 (some .int) wsX6_ropes wsX6_ropes.tail 4 := ⟨rfl, by decide, by decide, by decide +kernel⟩
set_option maxHeartbeats 4000000 in
set_option maxRecDepth 100000 in
theorem k_X6_ropes (l : Launch) (D : va_G) (ct : ClassId × ClassId × ClassId) (z : Nat × Nat) (cd : Nat → Nat) (x1 : Int32) (x2 : Int32) (x3 : Int32) (x4 : Int32) (L : Nat → Nat → Int64) (I : Nat → Nat → Int32)  : kC l D ct z yX6_ropes wsX6_ropes 3 69 [.ref (cd 0), .int x1, .int x2, .int x3, .int x4] (xW cd ct L I) (some (.int ((f_X6_ropes x1 x2 x3 x4 L I).1))) (xW cd ct L ((f_X6_ropes x1 x2 x3 x4 L I).2)) := by
  refine kHead (cc := cX6_ropes) (maxL := 5) (ret := (some .int)) [(0, .ref (cd 0)), (1, .int x1), (2, .int x2), (3, .int x3), (4, .int x4)] (by decide) rfl (Nat.le_of_ble_eq_true rfl) rfl ?_
  intro p e s m args below meth c A ls R Q hRf hRl hQ hx hb hr hlk hml hown hts hA hS hK hP hD hl
  have inX6 : ∀ w ∈ wsX60, w ∈ wsX6_ropes := fun w h => (List.mem_cons_of_mem _ (List.mem_append_left _ (List.mem_append_right _ h)))
  have hw1 := hts (Cond.fieldLink RX6 33 "MastPulpits" "cutter" "LMastPulpits$RopeCutter;") (List.mem_of_getElem? (i := 1) (by decide +kernel))
  have kcm2 : (-2 : Int32).toInt = -2 := by decide
  have kc0 : (0 : Int32).toInt = 0 := by decide
  have kc1 : (1 : Int32).toInt = 1 := by decide
  have kc9 : (9 : Int32).toInt = 9 := by decide
  have kc30 : (30 : Int32).toInt = 30 := by decide
  have hf : f_X6_ropes x1 x2 x3 x4 L I = f_X6_ropes x1 x2 x3 x4 L I := rfl
  refine lv_iload_n hx hb dX6_ropes_0 rfl (lv_at hl 2 rfl) ?_
  refine lv_iconst (v := (1 : Int32)) hx hb dX6_ropes_1 (by decide) ?_
  refine lv_bipush (v := (9 : Int32)) hx hb dX6_ropes_2 (by decide) ?_
  have hM : kC l D ct z yX6_within wsX6_within 0 0 [.int x2, .int (1 : Int32), .int (9 : Int32)] ([]) (some (.int (f_X6_within x2 (1 : Int32) (9 : Int32)))) ([]) := k_X6_within l D ct z x2 (1 : Int32) (9 : Int32)
  refine kS0 (As := [.int x2, .int (1 : Int32), .int (9 : Int32)]) (rest := []) ⟨hx, hb, hml, hown, hts⟩ hM gX6_ropes_X6_within kyX6_within (by rw [hRf, hRl]; exact ⟨Nat.le_of_ble_eq_true rfl, Nat.le_of_ble_eq_true rfl⟩) hK hP hD hS hA rfl hl.1 rfl (st1 := [.int (f_X6_within x2 (1 : Int32) (9 : Int32))]) rfl rfl ⟨Nat.zero_le _, Nat.zero_le _⟩ dX6_ropes_4 (fun H locs hP hD hS => ?_)
  refine lv_if_eq (tgt := 22) hx hb dX6_ropes_7 (by decide) (fun c_1 => ?_) (fun c_1 => ?_)
  · have hf := kIt hf c_1
    have t_1 := ti_eq c_1
    refine lv_bipush (v := (-2 : Int32)) hx hb dX6_ropes_22 (by decide) ?_
    exact kRetI hx hb hr hlk hP hD hS (kfst hf) ((congrArg (fun q => xW cd ct L q.2) hf).symm) hQ dX6_ropes_24
  · have hf := kIf hf c_1
    have t_1 := ti_ne c_1; have w_1 := within_nz c_1
    refine lv_aload_n hx hb dX6_ropes_10 rfl (lv_at hl 0 rfl) ?_
    refine va_get (D := D) (cl := vwCl) (ci := 5) (v := .ref (cd 10)) (C := RX6) (T := TX6) (N := 7) hx hb hts inX6 hown hK.1 hP 0 rfl rfl 3 (by decide) hw1 (fun _ h => h) rfl dX6_ropes_11 ?_
    refine lv_iload_n hx hb dX6_ropes_14 rfl (lv_at hl 1 rfl) ?_
    refine lv_iload_n hx hb dX6_ropes_15 rfl (lv_at hl 2 rfl) ?_
    obtain ⟨q16, eq16⟩ : ∃ y, y = f_X3_takePieces x1 x2 (I 10) (I 11) (I 12) := ⟨_, rfl⟩
    have hf := kLt hf eq16
    have hM : kC l D ct z yX3_takePieces wsX3_takePieces 0 0 [.ref (cd 10), .int x1, .int x2] (roW (cd 10) (cd 11) (cd 12) ct (I 10) (I 11) (I 12)) (some (.int q16.1)) (roW (cd 10) (cd 11) (cd 12) ct q16.2.1 q16.2.2 (I 12)) := by rw [eq16]; exact k_X3_takePieces l D ct z (cd 10) (cd 11) (cd 12) x1 x2 (I 10) (I 11) (I 12)
    refine kV (As := [.int x1, .int x2]) (rest := []) (W1 := xW cd ct L (rw2 (rw2 I 10 q16.2.1) 11 q16.2.2)) ⟨hx, hb, hml, hown, hts⟩ hM gX6_ropes_X3_takePieces kyX3_takePieces (by rw [hRf, hRl]; exact ⟨Nat.le_of_ble_eq_true rfl, Nat.le_of_ble_eq_true rfl⟩) hK hP hD hS hA [10, 11, 12] [0, 1, 2, 3, 4, 5, 6, 7, 8, 9, 13, 14, 15, 16, 17] [0, 1, 2, 3, 4, 5, 6, 7, 8, 9, 15, 16, 17, 10, 11, 12, 13, 14] 10 rfl rfl rfl rfl rfl ⟨rfl, rfl⟩ (by decide) rfl rfl rfl hl.1 rfl (st1 := [.int q16.1]) rfl rfl ⟨Nat.zero_le _, Nat.zero_le _⟩ dX6_ropes_16 (fun H locs hP hD hS => ?_)
    refine lv_if_ne (tgt := 25) hx hb dX6_ropes_19 (by decide) (fun c_2 => ?_) (fun c_2 => ?_)
    · have hf := kIf hf c_2
      have t_2 := ti_ne c_2
      refine lv_iload_n hx hb dX6_ropes_25 rfl (lv_at hl 3 rfl) ?_
      refine lv_bipush (v := (9 : Int32)) hx hb dX6_ropes_26 (by decide) ?_
      refine lv_bipush (v := (30 : Int32)) hx hb dX6_ropes_28 (by decide) ?_
      have hM : kC l D ct z yX6_within wsX6_within 0 0 [.int x3, .int (9 : Int32), .int (30 : Int32)] ([]) (some (.int (f_X6_within x3 (9 : Int32) (30 : Int32)))) ([]) := k_X6_within l D ct z x3 (9 : Int32) (30 : Int32)
      refine kS0 (As := [.int x3, .int (9 : Int32), .int (30 : Int32)]) (rest := []) ⟨hx, hb, hml, hown, hts⟩ hM gX6_ropes_X6_within kyX6_within (by rw [hRf, hRl]; exact ⟨Nat.le_of_ble_eq_true rfl, Nat.le_of_ble_eq_true rfl⟩) hK hP hD hS hA rfl hl.1 rfl (st1 := [.int (f_X6_within x3 (9 : Int32) (30 : Int32))]) rfl rfl ⟨Nat.zero_le _, Nat.zero_le _⟩ dX6_ropes_30 (fun H locs hP hD hS => ?_)
      refine lv_if_eq (tgt := 46) hx hb dX6_ropes_33 (by decide) (fun c_3 => ?_) (fun c_3 => ?_)
      · have hf := kIt hf c_3
        have t_3 := ti_eq c_3
        refine lv_bipush (v := (-2 : Int32)) hx hb dX6_ropes_46 (by decide) ?_
        exact kRetI hx hb hr hlk hP hD hS (kfst hf) ((congrArg (fun q => xW cd ct L q.2) hf).symm) hQ dX6_ropes_48
      · have hf := kIf hf c_3
        have t_3 := ti_ne c_3; have w_3 := within_nz c_3
        refine lv_iload hx hb dX6_ropes_36 (lv_at hl 4 rfl) ?_
        refine lv_iconst (v := (0 : Int32)) hx hb dX6_ropes_38 (by decide) ?_
        refine lv_iconst (v := (1 : Int32)) hx hb dX6_ropes_39 (by decide) ?_
        have hM : kC l D ct z yX6_within wsX6_within 0 0 [.int x4, .int (0 : Int32), .int (1 : Int32)] ([]) (some (.int (f_X6_within x4 (0 : Int32) (1 : Int32)))) ([]) := k_X6_within l D ct z x4 (0 : Int32) (1 : Int32)
        refine kS0 (As := [.int x4, .int (0 : Int32), .int (1 : Int32)]) (rest := []) ⟨hx, hb, hml, hown, hts⟩ hM gX6_ropes_X6_within kyX6_within (by rw [hRf, hRl]; exact ⟨Nat.le_of_ble_eq_true rfl, Nat.le_of_ble_eq_true rfl⟩) hK hP hD hS hA rfl hl.1 rfl (st1 := [.int (f_X6_within x4 (0 : Int32) (1 : Int32))]) rfl rfl ⟨Nat.zero_le _, Nat.zero_le _⟩ dX6_ropes_40 (fun H locs hP hD hS => ?_)
        refine lv_if_ne (tgt := 49) hx hb dX6_ropes_43 (by decide) (fun c_4 => ?_) (fun c_4 => ?_)
        · have hf := kIf hf c_4
          have t_4 := ti_ne c_4; have w_4 := within_nz c_4
          refine lv_iload hx hb dX6_ropes_49 (lv_at hl 4 rfl) ?_
          refine lv_if_ne (tgt := 65) hx hb dX6_ropes_51 (by decide) (fun c_5 => ?_) (fun c_5 => ?_)
          · have hf := kIf hf c_5
            have t_5 := ti_ne c_5
            refine lv_aload_n hx hb dX6_ropes_65 rfl (lv_at hl 0 rfl) ?_
            refine va_get (D := D) (cl := vwCl) (ci := 5) (v := .ref (cd 10)) (C := RX6) (T := TX6) (N := 7) hx hb hts inX6 hown hK.1 hP 0 rfl rfl 3 (by decide) hw1 (fun _ h => h) rfl dX6_ropes_66 ?_
            refine lv_iload_n hx hb dX6_ropes_69 rfl (lv_at hl 3 rfl) ?_
            have hM : kC l D ct z yX3_mostFromOne wsX3_mostFromOne 0 0 [.ref (cd 10), .int x3] (roW (cd 10) (cd 11) (cd 12) ct q16.2.1 q16.2.2 (I 12)) (some (.int (f_X3_mostFromOne x3 q16.2.1 q16.2.2 (I 12)))) (roW (cd 10) (cd 11) (cd 12) ct q16.2.1 q16.2.2 (I 12)) := k_X3_mostFromOne l D ct z (cd 10) (cd 11) (cd 12) x3 q16.2.1 q16.2.2 (I 12)
            refine kV (As := [.int x3]) (rest := []) (W1 := xW cd ct L (rw2 (rw2 I 10 q16.2.1) 11 q16.2.2)) ⟨hx, hb, hml, hown, hts⟩ hM gX6_ropes_X3_mostFromOne kyX3_mostFromOne (by rw [hRf, hRl]; exact ⟨Nat.le_of_ble_eq_true rfl, Nat.le_of_ble_eq_true rfl⟩) hK hP hD hS hA [10, 11, 12] [0, 1, 2, 3, 4, 5, 6, 7, 8, 9, 13, 14, 15, 16, 17] [0, 1, 2, 3, 4, 5, 6, 7, 8, 9, 15, 16, 17, 10, 11, 12, 13, 14] 10 rfl rfl rfl rfl rfl ⟨rfl, rfl⟩ (by decide) rfl rfl rfl hl.1 rfl (st1 := [.int (f_X3_mostFromOne x3 q16.2.1 q16.2.2 (I 12))]) rfl rfl ⟨Nat.zero_le _, Nat.zero_le _⟩ dX6_ropes_70 (fun H locs hP hD hS => ?_)
            exact kRetI hx hb hr hlk hP hD hS (kfst hf) ((congrArg (fun q => xW cd ct L q.2) hf).symm) hQ dX6_ropes_73
          · have hf := kIt hf c_5
            have t_5 := ti_eq c_5
            refine lv_aload_n hx hb dX6_ropes_54 rfl (lv_at hl 0 rfl) ?_
            refine va_get (D := D) (cl := vwCl) (ci := 5) (v := .ref (cd 10)) (C := RX6) (T := TX6) (N := 7) hx hb hts inX6 hown hK.1 hP 0 rfl rfl 3 (by decide) hw1 (fun _ h => h) rfl dX6_ropes_55 ?_
            refine lv_iload_n hx hb dX6_ropes_58 rfl (lv_at hl 3 rfl) ?_
            obtain ⟨q59, eq59⟩ : ∃ y, y = f_X3_fewestRopes x3 q16.2.1 q16.2.2 (I 12) := ⟨_, rfl⟩
            have hf := kLt hf eq59
            have hM : kC l D ct z yX3_fewestRopes wsX3_fewestRopes 2 47 [.ref (cd 10), .int x3] (roW (cd 10) (cd 11) (cd 12) ct q16.2.1 q16.2.2 (I 12)) (some (.int q59.1)) (roW (cd 10) (cd 11) (cd 12) ct q16.2.1 q16.2.2 q59.2) := by rw [eq59]; exact k_X3_fewestRopes l D ct z (cd 10) (cd 11) (cd 12) x3 q16.2.1 q16.2.2 (I 12)
            refine kV (As := [.int x3]) (rest := []) (W1 := xW cd ct L (rw2 (rw2 (rw2 I 10 q16.2.1) 11 q16.2.2) 12 q59.2)) ⟨hx, hb, hml, hown, hts⟩ hM gX6_ropes_X3_fewestRopes kyX3_fewestRopes (by rw [hRf, hRl]; exact ⟨Nat.le_of_ble_eq_true rfl, Nat.le_of_ble_eq_true rfl⟩) hK hP hD hS hA [10, 11, 12] [0, 1, 2, 3, 4, 5, 6, 7, 8, 9, 13, 14, 15, 16, 17] [0, 1, 2, 3, 4, 5, 6, 7, 8, 9, 15, 16, 17, 10, 11, 12, 13, 14] 10 rfl rfl rfl rfl rfl ⟨rfl, rfl⟩ (by decide) rfl rfl rfl hl.1 rfl (st1 := [.int q59.1]) rfl rfl ⟨Nat.zero_le _, Nat.zero_le _⟩ dX6_ropes_59 (fun H locs hP hD hS => ?_)
            refine lv_goto (tgt := 73) hx hb dX6_ropes_62 (by decide) ?_
            exact kRetI hx hb hr hlk hP hD hS (kfst hf) ((congrArg (fun q => xW cd ct L q.2) hf).symm) hQ dX6_ropes_73
        · have hf := kIt hf c_4
          have t_4 := ti_eq c_4
          refine lv_bipush (v := (-2 : Int32)) hx hb dX6_ropes_46 (by decide) ?_
          exact kRetI hx hb hr hlk hP hD hS (kfst hf) ((congrArg (fun q => xW cd ct L q.2) hf).symm) hQ dX6_ropes_48
    · have hf := kIt hf c_2
      have t_2 := ti_eq c_2
      refine lv_bipush (v := (-2 : Int32)) hx hb dX6_ropes_22 (by decide) ?_
      exact kRetI hx hb hr hlk hP hD hS (kfst hf) ((congrArg (fun q => xW cd ct L q.2) hf).symm) hQ dX6_ropes_24
theorem kyX6_look : kY yX6_look cX6_look 6 (some .int) wsX6_look wsX6_look.tail 3 := ⟨rfl, by decide, by decide, by decide +kernel⟩
set_option maxHeartbeats 4000000 in
set_option maxRecDepth 100000 in
theorem k_X6_look (l : Launch) (D : va_G) (ct : ClassId × ClassId × ClassId) (z : Nat × Nat) (cd : Nat → Nat) (x1 : Int32) (x2 : Int32) (x3 : Int32) (L : Nat → Nat → Int64) (I : Nat → Nat → Int32)  : kC l D ct z yX6_look wsX6_look 2 52 [.ref (cd 0), .int x1, .int x2, .int x3] (xW cd ct L I) (some (.int ((f_X6_look x1 x2 x3 L I).1))) (xW cd ct ((f_X6_look x1 x2 x3 L I).2.1) ((f_X6_look x1 x2 x3 L I).2.2)) := by
  refine kHead (cc := cX6_look) (maxL := 6) (ret := (some .int)) [(0, .ref (cd 0)), (1, .int x1), (2, .int x2), (3, .int x3)] (by decide) rfl (Nat.le_of_ble_eq_true rfl) rfl ?_
  intro p e s m args below meth c A ls R Q hRf hRl hQ hx hb hr hlk hml hown hts hA hS hK hP hD hl
  have inX4 : ∀ w ∈ wsX40, w ∈ wsX6_look := fun w h => (List.mem_cons_of_mem _ (List.mem_append_right _ h))
  have inX6 : ∀ w ∈ wsX60, w ∈ wsX6_look := fun w h => (List.mem_cons_of_mem _ (List.mem_append_left _ (List.mem_append_right _ h)))
  have hw1 := hts (Cond.fieldLink RX6 10 "MastPulpits" "sea" "LMastPulpits$Sea;") (List.mem_of_getElem? (i := 1) (by decide +kernel))
  have hw2 := hts (Cond.fieldLink RX6 182 "MastPulpits$Sea" "sights" "I") (List.mem_of_getElem? (i := 2) (by decide +kernel))
  have hw3 := hts (Cond.fieldLink RX6 188 "MastPulpits$Sea" "fitting" "J") (List.mem_of_getElem? (i := 3) (by decide +kernel))
  have hw4 := hts (Cond.constantLong RX6 74 (-1)) (List.mem_of_getElem? (i := 4) (by decide +kernel))
  have kcm4 : (-4 : Int32).toInt = -4 := by decide
  have kcm2 : (-2 : Int32).toInt = -2 := by decide
  have kcm1 : (-1 : Int32).toInt = -1 := by decide
  have kc0 : (0 : Int32).toInt = 0 := by decide
  have kc1 : (1 : Int32).toInt = 1 := by decide
  have kc7 : (7 : Int32).toInt = 7 := by decide
  have kc8 : (8 : Int32).toInt = 8 := by decide
  have klm1 : (-1 : Int64).toInt = -1 := by decide
  have hf : f_X6_look x1 x2 x3 L I = f_X6_look x1 x2 x3 L I := rfl
  refine lv_iload_n hx hb dX6_look_0 rfl (lv_at hl 1 rfl) ?_
  have hM : kC l D ct z yX0_isCell wsX0_isCell 0 0 [.int x1] ([]) (some (.int (f_X0_isCell x1))) ([]) := k_X0_isCell l D ct z x1
  refine kS0 (As := [.int x1]) (rest := []) ⟨hx, hb, hml, hown, hts⟩ hM gX6_look_X0_isCell kyX0_isCell (by rw [hRf, hRl]; exact ⟨Nat.le_of_ble_eq_true rfl, Nat.le_of_ble_eq_true rfl⟩) hK hP hD hS hA rfl hl.1 rfl (st1 := [.int (f_X0_isCell x1)]) rfl rfl ⟨Nat.zero_le _, Nat.zero_le _⟩ dX6_look_1 (fun H locs hP hD hS => ?_)
  refine lv_if_ne (tgt := 9) hx hb dX6_look_4 (by decide) (fun c_1 => ?_) (fun c_1 => ?_)
  · have hf := kIf hf c_1
    have t_1 := ti_ne c_1; have w_1 := xcell_nz c_1
    refine lv_iload_n hx hb dX6_look_9 rfl (lv_at hl 2 rfl) ?_
    refine lv_iconst (v := (0 : Int32)) hx hb dX6_look_10 (by decide) ?_
    refine lv_bipush (v := (7 : Int32)) hx hb dX6_look_11 (by decide) ?_
    have hM : kC l D ct z yX6_within wsX6_within 0 0 [.int x2, .int (0 : Int32), .int (7 : Int32)] ([]) (some (.int (f_X6_within x2 (0 : Int32) (7 : Int32)))) ([]) := k_X6_within l D ct z x2 (0 : Int32) (7 : Int32)
    refine kS0 (As := [.int x2, .int (0 : Int32), .int (7 : Int32)]) (rest := []) ⟨hx, hb, hml, hown, hts⟩ hM gX6_look_X6_within kyX6_within (by rw [hRf, hRl]; exact ⟨Nat.le_of_ble_eq_true rfl, Nat.le_of_ble_eq_true rfl⟩) hK hP hD hS hA rfl hl.1 rfl (st1 := [.int (f_X6_within x2 (0 : Int32) (7 : Int32))]) rfl rfl ⟨Nat.zero_le _, Nat.zero_le _⟩ dX6_look_13 (fun H locs hP hD hS => ?_)
    refine lv_if_ne (tgt := 22) hx hb dX6_look_16 (by decide) (fun c_2 => ?_) (fun c_2 => ?_)
    · have hf := kIf hf c_2
      have t_2 := ti_ne c_2; have w_2 := within_nz c_2
      refine lv_aload_n hx hb dX6_look_22 rfl (lv_at hl 0 rfl) ?_
      refine va_get (D := D) (cl := vwCl) (ci := 5) (v := .ref (cd 3)) (C := RX6) (T := TX6) (N := 7) hx hb hts inX6 hown hK.1 hP 0 rfl rfl 0 (by decide) hw1 (fun _ h => h) rfl dX6_look_23 ?_
      refine va_get (D := D) (cl := vwCl) (ci := 3) (v := .int (I 3 7)) (C := RX4) (T := TX4) (N := 10) hx hb hts inX4 hown hK.1 hP 3 rfl rfl 7 (by decide) hw2 (fun _ h => h) rfl dX6_look_26 ?_
      refine lv_bipush (v := (8 : Int32)) hx hb dX6_look_29 (by decide) ?_
      refine lv_icmp_lt (tgt := 37) hx hb dX6_look_31 (by decide) (fun c_3 => ?_) (fun c_3 => ?_)
      · have hf := kIt hf c_3
        have t_3 := ti_lt c_3
        refine lv_iload_n hx hb dX6_look_37 rfl (lv_at hl 1 rfl) ?_
        refine lv_iload_n hx hb dX6_look_38 rfl (lv_at hl 2 rfl) ?_
        have hM : kC l D ct z yX0_around wsX0_around 1 21 [.int x1, .int x2] ([]) (some (.long (f_X0_around x1 x2))) ([]) := k_X0_around l D ct z x1 x2
        refine kS0 (As := [.int x1, .int x2]) (rest := []) ⟨hx, hb, hml, hown, hts⟩ hM gX6_look_X0_around kyX0_around (by rw [hRf, hRl]; exact ⟨Nat.le_of_ble_eq_true rfl, Nat.le_of_ble_eq_true rfl⟩) hK hP hD hS hA rfl hl.1 rfl (st1 := [.long (f_X0_around x1 x2)]) rfl rfl ⟨Nat.zero_le _, Nat.zero_le _⟩ dX6_look_39 (fun H locs hP hD hS => ?_)
        refine lv_topl (fun y42 ey42 => ?_)
        have hf := kLt hf ey42
        refine lv_lstore (lv' := [(4, .long y42), (0, .ref (cd 0)), (1, .int x1), (2, .int x2), (3, .int x3)]) hx hb dX6_look_42 hl (by decide) rfl (fun ls hl => ?_)
        refine lv_aload_n hx hb dX6_look_44 rfl (lv_at hl 1 rfl) ?_
        refine va_get (D := D) (cl := vwCl) (ci := 5) (v := .ref (cd 3)) (C := RX6) (T := TX6) (N := 7) hx hb hts inX6 hown hK.1 hP 0 rfl rfl 0 (by decide) hw1 (fun _ h => h) rfl dX6_look_45 ?_
        refine lv_dup hx hb dX6_look_48 rfl ?_
        refine va_get (D := D) (cl := vwCl) (ci := 3) (v := .long (L 3 8)) (C := RX4) (T := TX4) (N := 10) hx hb hts inX4 hown hK.1 hP 3 rfl rfl 8 (by decide) hw3 (fun _ h => h) rfl dX6_look_49 ?_
        refine lv_iload_n hx hb dX6_look_52 rfl (lv_at hl 4 rfl) ?_
        refine kJn hf (fun j0 => ∀ (z67_s0 : Int64), f_X6_look x1 x2 x3 L I = j0 z67_s0 → ∀ (H : Heap) (locs : List Loc) (ls : Array Slot), va_P D vwCl (xW cd ct L I) H → va_D A (xW cd ct L I) → va_S A s.heap H locs → lv_has ls 6 [(0, .ref (cd 0))] → W p l e R s m args below meth c H locs 0 0 Q (F0 m 67 ls [.long z67_s0, .long (L 3 8), .ref (cd 3)])) ?_ ?_
        · intro j0 hj0 z67_s0  hf H locs ls hP hD hS hl
          subst hj0
          refine lv_land hx hb dX6_look_67 ?_
          refine lv_topl (fun y68 ey68 => ?_)
          have hf := kLt hf ey68
          refine kPut (ci := 3) (C := RX4) (T := TX4) (N := 10) (ty := .long) (v := .long y68) (W1 := xW cd ct (u2 L 3 8 y68) I) hx hb hts inX4 tyX4 tyX4_ok nmX4 hown hK hP hD hS 3 rfl rfl 8 (by decide) hw3 (fun _ h => h) rfl (by decide +kernel) rfl rfl (Nat.le_of_ble_eq_true rfl) rfl dX6_look_68 (fun H locs hP hD hS => ?_)
          refine lv_aload_n hx hb dX6_look_71 rfl (lv_at hl 0 rfl) ?_
          refine va_get (D := D) (cl := vwCl) (ci := 5) (v := .ref (cd 3)) (C := RX6) (T := TX6) (N := 7) hx hb hts inX6 hown hK.1 hP 0 rfl rfl 0 (by decide) hw1 (fun _ h => h) rfl dX6_look_72 ?_
          refine lv_dup hx hb dX6_look_75 rfl ?_
          refine va_get (D := D) (cl := vwCl) (ci := 3) (v := .int (I 3 7)) (C := RX4) (T := TX4) (N := 10) hx hb hts inX4 hown hK.1 hP 3 rfl rfl 7 (by decide) hw2 (fun _ h => h) rfl dX6_look_76 ?_
          refine lv_iconst (v := (1 : Int32)) hx hb dX6_look_79 (by decide) ?_
          refine lv_iadd hx hb dX6_look_80 ?_
          refine lv_topi (fun y81 ey81 => ?_)
          have hf := kLt hf ey81
          refine kPut (ci := 3) (C := RX4) (T := TX4) (N := 10) (ty := .int) (v := .int y81) (W1 := xW cd ct (u2 L 3 8 y68) (u2 I 3 7 y81)) hx hb hts inX4 tyX4 tyX4_ok nmX4 hown hK hP hD hS 3 rfl rfl 7 (by decide) hw2 (fun _ h => h) rfl (by decide +kernel) rfl rfl (Nat.le_of_ble_eq_true rfl) rfl dX6_look_81 (fun H locs hP hD hS => ?_)
          refine lv_aload_n hx hb dX6_look_84 rfl (lv_at hl 0 rfl) ?_
          refine va_get (D := D) (cl := vwCl) (ci := 5) (v := .ref (cd 3)) (C := RX6) (T := TX6) (N := 7) hx hb hts inX6 hown hK.1 hP 0 rfl rfl 0 (by decide) hw1 (fun _ h => h) rfl dX6_look_85 ?_
          refine va_get (D := D) (cl := vwCl) (ci := 3) (v := .int y81) (C := RX4) (T := TX4) (N := 10) hx hb hts inX4 hown hK.1 hP 3 rfl rfl 7 (by decide) hw2 (fun _ h => h) rfl dX6_look_88 ?_
          exact kRetI hx hb hr hlk hP hD hS (kfst hf) ((congrArg (fun q => xW cd ct q.2.1 q.2.2) hf).symm) hQ dX6_look_91
        · intro j67 hJ67 hf
          refine lv_if_eq (tgt := 61) hx hb dX6_look_53 (by decide) (fun c_4 => ?_) (fun c_4 => ?_)
          · have hf := kIt hf c_4
            have t_4 := ti_eq c_4
            refine lv_lload hx hb dX6_look_61 (lv_at hl 0 rfl) ?_
            refine lv_ldc2 (v := (-1 : Int64)) hx hb hown hw4 dX6_look_63 ?_
            refine lv_lxor hx hb dX6_look_66 ?_
            exact hJ67 _  hf _ _ _ hP hD hS (lv_sub hl [1] rfl)
          · have hf := kIf hf c_4
            have t_4 := ti_ne c_4
            refine lv_lload hx hb dX6_look_56 (lv_at hl 0 rfl) ?_
            refine lv_goto (tgt := 67) hx hb dX6_look_58 (by decide) ?_
            exact hJ67 _  hf _ _ _ hP hD hS (lv_sub hl [1] rfl)
      · have hf := kIf hf c_3
        have t_3 := ti_nlt c_3
        refine lv_bipush (v := (-4 : Int32)) hx hb dX6_look_34 (by decide) ?_
        exact kRetI hx hb hr hlk hP hD hS (kfst hf) ((congrArg (fun q => xW cd ct q.2.1 q.2.2) hf).symm) hQ dX6_look_36
    · have hf := kIt hf c_2
      have t_2 := ti_eq c_2
      refine lv_bipush (v := (-2 : Int32)) hx hb dX6_look_19 (by decide) ?_
      exact kRetI hx hb hr hlk hP hD hS (kfst hf) ((congrArg (fun q => xW cd ct q.2.1 q.2.2) hf).symm) hQ dX6_look_21
  · have hf := kIt hf c_1
    have t_1 := ti_eq c_1
    refine lv_iconst (v := (-1 : Int32)) hx hb dX6_look_7 (by decide) ?_
    exact kRetI hx hb hr hlk hP hD hS (kfst hf) ((congrArg (fun q => xW cd ct q.2.1 q.2.2) hf).symm) hQ dX6_look_8
theorem kyX6_forget : kY yX6_forget cX6_forget 2 (some .int) wsX6_forget wsX6_forget.tail 0 := ⟨rfl, by decide, by decide, by decide +kernel⟩
set_option maxHeartbeats 4000000 in
set_option maxRecDepth 100000 in
theorem k_X6_forget (l : Launch) (D : va_G) (ct : ClassId × ClassId × ClassId) (z : Nat × Nat) (cd : Nat → Nat) (L : Nat → Nat → Int64) (I : Nat → Nat → Int32)  : kC l D ct z yX6_forget wsX6_forget 0 0 [.ref (cd 0)] (xW cd ct L I) (some (.int ((f_X6_forget L I).1))) (xW cd ct ((f_X6_forget L I).2.1) ((f_X6_forget L I).2.2)) := by
  refine kHead (cc := cX6_forget) (maxL := 2) (ret := (some .int)) [(0, .ref (cd 0))] (by decide) rfl (Nat.le_of_ble_eq_true rfl) rfl ?_
  intro p e s m args below meth c A ls R Q hRf hRl hQ hx hb hr hlk hml hown hts hA hS hK hP hD hl
  have inX4 : ∀ w ∈ wsX40, w ∈ wsX6_forget := fun w h => (List.mem_cons_of_mem _ (List.mem_append_right _ h))
  have inX6 : ∀ w ∈ wsX60, w ∈ wsX6_forget := fun w h => (List.mem_cons_of_mem _ (List.mem_append_left _ (List.mem_append_right _ h)))
  have hw1 := hts (Cond.fieldLink RX6 10 "MastPulpits" "sea" "LMastPulpits$Sea;") (List.mem_of_getElem? (i := 1) (by decide +kernel))
  have hw2 := hts (Cond.fieldLink RX6 182 "MastPulpits$Sea" "sights" "I") (List.mem_of_getElem? (i := 2) (by decide +kernel))
  have hw3 := hts (Cond.constantLong RX6 74 (-1)) (List.mem_of_getElem? (i := 3) (by decide +kernel))
  have hw4 := hts (Cond.fieldLink RX6 188 "MastPulpits$Sea" "fitting" "J") (List.mem_of_getElem? (i := 4) (by decide +kernel))
  have kc0 : (0 : Int32).toInt = 0 := by decide
  have klm1 : (-1 : Int64).toInt = -1 := by decide
  have hf : f_X6_forget L I = f_X6_forget L I := rfl
  refine lv_aload_n hx hb dX6_forget_0 rfl (lv_at hl 0 rfl) ?_
  refine va_get (D := D) (cl := vwCl) (ci := 5) (v := .ref (cd 3)) (C := RX6) (T := TX6) (N := 7) hx hb hts inX6 hown hK.1 hP 0 rfl rfl 0 (by decide) hw1 (fun _ h => h) rfl dX6_forget_1 ?_
  refine va_get (D := D) (cl := vwCl) (ci := 3) (v := .int (I 3 7)) (C := RX4) (T := TX4) (N := 10) hx hb hts inX4 hown hK.1 hP 3 rfl rfl 7 (by decide) hw2 (fun _ h => h) rfl dX6_forget_4 ?_
  refine lv_topi (fun y7 ey7 => ?_)
  have hf := kLt hf ey7
  refine lv_istore_n (lv' := [(1, .int y7), (0, .ref (cd 0))]) hx hb dX6_forget_7 rfl hl (by decide) rfl (fun ls hl => ?_)
  refine lv_aload_n hx hb dX6_forget_8 rfl (lv_at hl 1 rfl) ?_
  refine va_get (D := D) (cl := vwCl) (ci := 5) (v := .ref (cd 3)) (C := RX6) (T := TX6) (N := 7) hx hb hts inX6 hown hK.1 hP 0 rfl rfl 0 (by decide) hw1 (fun _ h => h) rfl dX6_forget_9 ?_
  refine lv_iconst (v := (0 : Int32)) hx hb dX6_forget_12 (by decide) ?_
  refine kPut (ci := 3) (C := RX4) (T := TX4) (N := 10) (ty := .int) (v := .int (0 : Int32)) (W1 := xW cd ct L (u2 I 3 7 (0 : Int32))) hx hb hts inX4 tyX4 tyX4_ok nmX4 hown hK hP hD hS 3 rfl rfl 7 (by decide) hw2 (fun _ h => h) rfl (by decide +kernel) rfl rfl (Nat.le_of_ble_eq_true rfl) rfl dX6_forget_13 (fun H locs hP hD hS => ?_)
  refine lv_aload_n hx hb dX6_forget_16 rfl (lv_at hl 1 rfl) ?_
  refine va_get (D := D) (cl := vwCl) (ci := 5) (v := .ref (cd 3)) (C := RX6) (T := TX6) (N := 7) hx hb hts inX6 hown hK.1 hP 0 rfl rfl 0 (by decide) hw1 (fun _ h => h) rfl dX6_forget_17 ?_
  refine lv_ldc2 (v := (-1 : Int64)) hx hb hown hw3 dX6_forget_20 ?_
  refine kPut (ci := 3) (C := RX4) (T := TX4) (N := 10) (ty := .long) (v := .long (-1 : Int64)) (W1 := xW cd ct (u2 L 3 8 (-1 : Int64)) (u2 I 3 7 (0 : Int32))) hx hb hts inX4 tyX4 tyX4_ok nmX4 hown hK hP hD hS 3 rfl rfl 8 (by decide) hw4 (fun _ h => h) rfl (by decide +kernel) rfl rfl (Nat.le_of_ble_eq_true rfl) rfl dX6_forget_23 (fun H locs hP hD hS => ?_)
  refine lv_iload_n hx hb dX6_forget_26 rfl (lv_at hl 0 rfl) ?_
  exact kRetI hx hb hr hlk hP hD hS (kfst hf) ((congrArg (fun q => xW cd ct q.2.1 q.2.2) hf).symm) hQ dX6_forget_27
theorem kyX6_light : kY yX6_light cX6_light 6 (some .int) wsX6_light wsX6_light.tail 1 := ⟨rfl, by decide, by decide, by decide +kernel⟩
set_option maxHeartbeats 4000000 in
set_option maxRecDepth 100000 in
theorem k_X6_light (l : Launch) (D : va_G) (ct : ClassId × ClassId × ClassId) (z : Nat × Nat) (cd : Nat → Nat) (x1 : Int32) (L : Nat → Nat → Int64) (I : Nat → Nat → Int32)  : kC l D ct z yX6_light wsX6_light 2 42 [.ref (cd 0), .int x1] (xW cd ct L I) (some (.int (f_X6_light x1 L I))) (xW cd ct L I) := by
  refine kHead (cc := cX6_light) (maxL := 6) (ret := (some .int)) [(0, .ref (cd 0)), (1, .int x1)] (by decide) rfl (Nat.le_of_ble_eq_true rfl) rfl ?_
  intro p e s m args below meth c A ls R Q hRf hRl hQ hx hb hr hlk hml hown hts hA hS hK hP hD hl
  have inX4 : ∀ w ∈ wsX40, w ∈ wsX6_light := fun w h => (List.mem_cons_of_mem _ (List.mem_append_right _ h))
  have inX6 : ∀ w ∈ wsX60, w ∈ wsX6_light := fun w h => (List.mem_cons_of_mem _ (List.mem_append_left _ (List.mem_append_right _ h)))
  have hw1 := hts (Cond.fieldLink RX6 10 "MastPulpits" "sea" "LMastPulpits$Sea;") (List.mem_of_getElem? (i := 1) (by decide +kernel))
  have hw2 := hts (Cond.fieldLink RX6 188 "MastPulpits$Sea" "fitting" "J") (List.mem_of_getElem? (i := 2) (by decide +kernel))
  have kcm6 : (-6 : Int32).toInt = -6 := by decide
  have kcm1 : (-1 : Int32).toInt = -1 := by decide
  have kc0 : (0 : Int32).toInt = 0 := by decide
  have kc1 : (1 : Int32).toInt = 1 := by decide
  have kl1 : (1 : Int64).toInt = 1 := by decide
  have hf : f_X6_light x1 L I = f_X6_light x1 L I := rfl
  refine lv_aload_n hx hb dX6_light_0 rfl (lv_at hl 0 rfl) ?_
  refine va_get (D := D) (cl := vwCl) (ci := 5) (v := .ref (cd 3)) (C := RX6) (T := TX6) (N := 7) hx hb hts inX6 hown hK.1 hP 0 rfl rfl 0 (by decide) hw1 (fun _ h => h) rfl dX6_light_1 ?_
  refine va_get (D := D) (cl := vwCl) (ci := 3) (v := .long (L 3 8)) (C := RX4) (T := TX4) (N := 10) hx hb hts inX4 hown hK.1 hP 3 rfl rfl 8 (by decide) hw2 (fun _ h => h) rfl dX6_light_4 ?_
  have hM : kC l D ct z yJ13_bitCount_95d88 wsJ13_bitCount_95d88 0 0 [.long (L 3 8)] ([]) (some (.int (f_J13_bitCount_95d88 (L 3 8)))) ([]) := k_J13_bitCount_95d88 l D ct z (L 3 8)
  refine kS0 (As := [.long (L 3 8)]) (rest := []) ⟨hx, hb, hml, hown, hts⟩ hM gX6_light_J13_bitCount_95d88 kyJ13_bitCount_95d88 (by rw [hRf, hRl]; exact ⟨Nat.le_of_ble_eq_true rfl, Nat.le_of_ble_eq_true rfl⟩) hK hP hD hS hA rfl hl.1 rfl (st1 := [.int (f_J13_bitCount_95d88 (L 3 8))]) rfl rfl ⟨Nat.zero_le _, Nat.zero_le _⟩ dX6_light_7 (fun H locs hP hD hS => ?_)
  refine lv_topi (fun y10 ey10 => ?_)
  have hf := kLt hf ey10
  have h10 := bc_rng (L 3 8)
  rw [← ey10] at h10
  have h10b : Int32.toInt (y10 - (1 : Int32)) = Int32.toInt y10 - 1 := ti_sub (by rw [kc1]) (by omega) (by omega)
  refine lv_istore_n (lv' := [(2, .int y10), (0, .ref (cd 0)), (1, .int x1)]) hx hb dX6_light_10 rfl hl (by decide) rfl (fun ls hl => ?_)
  refine lv_iload_n hx hb dX6_light_11 rfl (lv_at hl 2 rfl) ?_
  refine lv_iconst (v := (-1 : Int32)) hx hb dX6_light_12 (by decide) ?_
  refine lv_icmp_ne (tgt := 18) hx hb dX6_light_13 (by decide) (fun c_1 => ?_) (fun c_1 => ?_)
  · have hf := kIf hf c_1
    have t_1 := ti_ne c_1
    refine lv_iload_n hx hb dX6_light_18 rfl (lv_at hl 2 rfl) ?_
    refine lv_iconst (v := (0 : Int32)) hx hb dX6_light_19 (by decide) ?_
    refine lv_iload_n hx hb dX6_light_20 rfl (lv_at hl 0 rfl) ?_
    refine lv_iconst (v := (1 : Int32)) hx hb dX6_light_21 (by decide) ?_
    refine lv_isub hx hb dX6_light_22 ?_
    have hM : kC l D ct z yX6_within wsX6_within 0 0 [.int x1, .int (0 : Int32), .int (y10 - (1 : Int32))] ([]) (some (.int (f_X6_within x1 (0 : Int32) (y10 - (1 : Int32))))) ([]) := k_X6_within l D ct z x1 (0 : Int32) (y10 - (1 : Int32))
    refine kS0 (As := [.int x1, .int (0 : Int32), .int (y10 - (1 : Int32))]) (rest := []) ⟨hx, hb, hml, hown, hts⟩ hM gX6_light_X6_within kyX6_within (by rw [hRf, hRl]; exact ⟨Nat.le_of_ble_eq_true rfl, Nat.le_of_ble_eq_true rfl⟩) hK hP hD hS hA rfl hl.1 rfl (st1 := [.int (f_X6_within x1 (0 : Int32) (y10 - (1 : Int32)))]) rfl rfl ⟨Nat.zero_le _, Nat.zero_le _⟩ dX6_light_23 (fun H locs hP hD hS => ?_)
    refine lv_if_ne (tgt := 32) hx hb dX6_light_26 (by decide) (fun c_2 => ?_) (fun c_2 => ?_)
    · have hf := kIf hf c_2
      have t_2 := ti_ne c_2; have w_2 := within_nz c_2
      refine lv_aload_n hx hb dX6_light_32 rfl (lv_at hl 1 rfl) ?_
      refine va_get (D := D) (cl := vwCl) (ci := 5) (v := .ref (cd 3)) (C := RX6) (T := TX6) (N := 7) hx hb hts inX6 hown hK.1 hP 0 rfl rfl 0 (by decide) hw1 (fun _ h => h) rfl dX6_light_33 ?_
      refine va_get (D := D) (cl := vwCl) (ci := 3) (v := .long (L 3 8)) (C := RX4) (T := TX4) (N := 10) hx hb hts inX4 hown hK.1 hP 3 rfl rfl 8 (by decide) hw2 (fun _ h => h) rfl dX6_light_36 ?_
      refine lv_topl (fun y39 ey39 => ?_)
      have hf := kLt hf ey39
      refine lv_lstore_n (lv' := [(3, .long y39), (2, .int y10), (0, .ref (cd 0)), (1, .int x1)]) hx hb dX6_light_39 rfl hl (by decide) rfl (fun ls hl => ?_)
      refine lv_iconst (v := (0 : Int32)) hx hb dX6_light_40 (by decide) ?_
      refine lv_istore (lv' := [(5, .int (0 : Int32)), (3, .long y39), (2, .int y10), (0, .ref (cd 0)), (1, .int x1)]) hx hb dX6_light_41 hl (by decide) rfl (fun ls hl => ?_)
      have lp43 : ∀ (K : Int64 → Int32), (∀ (z43_3 : Int64), ∀ (H : Heap) (locs : List Loc) (ls : Array Slot), va_P D vwCl (xW cd ct L I) H → va_D A (xW cd ct L I) → va_S A s.heap H locs → lv_has ls 6 [(3, .long z43_3)] → f_X6_light x1 L I = K z43_3 → W p l e R s m args below meth c H locs 0 0 Q (F0 m 61 ls [])) → ∀ (n : Nat) (z43_5 : Int32) (z43_3 : Int64), ∀ (H : Heap) (locs : List Loc) (ls : Array Slot), (x1.toInt ≤ Int32.toInt z43_5 + (n : Int)) → va_P D vwCl (xW cd ct L I) H → va_D A (xW cd ct L I) → va_S A s.heap H locs → lv_has ls 6 [(5, .int z43_5), (3, .long z43_3), (1, .int x1)] → f_X6_light x1 L I = f_X6_light_L43 x1 K n z43_5 z43_3 → W p l e R s m args below meth c H locs 0 0 Q (F0 m 43 ls []) := by
        intro K hk n
        induction n with
        | zero =>
          intro z43_5 z43_3  H locs ls hn43 hP hD hS hl hf
          refine lv_iload hx hb dX6_light_43 (lv_at hl 0 rfl) ?_
          refine lv_iload_n hx hb dX6_light_45 rfl (lv_at hl 2 rfl) ?_
          refine lv_icmp_ge (tgt := 61) hx hb dX6_light_46 (by decide) (fun c_4 => ?_) (fun c_4 => ?_)
          · have t_4 := ti_le c_4
            exact hk _ _ _ _  hP hD hS (lv_sub hl [1] rfl) hf
          · have t_4 := ti_nle c_4
            exfalso
            omega
        | succ n ih =>
          intro z43_5 z43_3  H locs ls hn43 hP hD hS hl hf
          refine lv_iload hx hb dX6_light_43 (lv_at hl 0 rfl) ?_
          refine lv_iload_n hx hb dX6_light_45 rfl (lv_at hl 2 rfl) ?_
          refine lv_icmp_ge (tgt := 61) hx hb dX6_light_46 (by decide) (fun c_3 => ?_) (fun c_3 => ?_)
          · have hf := kIt hf c_3
            have t_3 := ti_le c_3
            exact hk _ _ _ _  hP hD hS (lv_sub hl [1] rfl) hf
          · have hf := kIf hf c_3
            have t_3 := ti_nle c_3
            refine lv_lload_n hx hb dX6_light_49 rfl (lv_at hl 1 rfl) ?_
            refine lv_lload_n hx hb dX6_light_50 rfl (lv_at hl 1 rfl) ?_
            refine lv_lconst (v := (1 : Int64)) hx hb dX6_light_51 (by decide) ?_
            refine lv_lsub hx hb dX6_light_52 ?_
            refine lv_land hx hb dX6_light_53 ?_
            refine lv_topl (fun y54 ey54 => ?_)
            have hf := kLt hf ey54
            refine lv_lstore_n (lv' := [(3, .long y54), (5, .int z43_5), (1, .int x1)]) hx hb dX6_light_54 rfl hl (by decide) rfl (fun ls hl => ?_)
            obtain ⟨y55, ey55⟩ : ∃ y : Int32, y = z43_5 + (1 : Int32) := ⟨_, rfl⟩
            have hf := kLt hf ey55
            have a55 : Int32.toInt y55 = Int32.toInt z43_5 + 1 := by have := ti_rng z43_5; rw [ey55]; exact ti_add (by rw [kc1]) (by omega) (by omega)
            refine lv_iinc (v := y55) (lv' := [(5, .int y55), (3, .long y54), (1, .int x1)]) hx hb dX6_light_55 hl (k := 1) rfl (by rw [ey55]; rfl) (by decide) rfl (fun ls hl => ?_)
            refine lv_goto (tgt := 43) hx hb dX6_light_58 (by decide) ?_
            exact ih y55 y54 _ _ _ (by first | assumption | exact vin (by omega) (by omega) | omega) hP hD hS (lv_sub hl [0, 1, 2] rfl) hf
      refine lp43 _ (fun w43_3  H locs ls  hP hD hS hl hf => ?_) (128) (0 : Int32) y39  _ _ _ (by first | assumption | exact vin (by omega) (by omega) | omega) hP hD hS (lv_sub hl [0, 1, 4] rfl) hf
      refine lv_lload_n hx hb dX6_light_61 rfl (lv_at hl 0 rfl) ?_
      have hM : kC l D ct z yX0_least wsX0_least 1 21 [.long w43_3] ([]) (some (.int (f_X0_least w43_3))) ([]) := k_X0_least l D ct z w43_3
      refine kS0 (As := [.long w43_3]) (rest := []) ⟨hx, hb, hml, hown, hts⟩ hM gX6_light_X0_least kyX0_least (by rw [hRf, hRl]; exact ⟨Nat.le_of_ble_eq_true rfl, Nat.le_of_ble_eq_true rfl⟩) hK hP hD hS hA rfl hl.1 rfl (st1 := [.int (f_X0_least w43_3)]) rfl rfl ⟨Nat.zero_le _, Nat.zero_le _⟩ dX6_light_62 (fun H locs hP hD hS => ?_)
      exact kRetI hx hb hr hlk hP hD hS hf.symm rfl hQ dX6_light_65
    · have hf := kIt hf c_2
      have t_2 := ti_eq c_2
      refine lv_bipush (v := (-6 : Int32)) hx hb dX6_light_29 (by decide) ?_
      exact kRetI hx hb hr hlk hP hD hS hf.symm rfl hQ dX6_light_31
  · have hf := kIt hf c_1
    have t_1 := ti_eq c_1
    refine lv_iload_n hx hb dX6_light_16 rfl (lv_at hl 0 rfl) ?_
    exact kRetI hx hb hr hlk hP hD hS hf.symm rfl hQ dX6_light_17
theorem kyX6_bestNextLook : kY yX6_bestNextLook cX6_bestNextLook 10 (some .int) wsX6_bestNextLook wsX6_bestNextLook.tail 2 := ⟨rfl, by decide, by decide, by decide +kernel⟩
set_option maxHeartbeats 4000000 in
set_option maxRecDepth 100000 in
theorem k_X6_bestNextLook (l : Launch) (D : va_G) (ct : ClassId × ClassId × ClassId) (z : Nat × Nat)  (x0 : Int64) (x2 : Int32)  : kC l D ct z yX6_bestNextLook wsX6_bestNextLook 2 52 [.long x0, .int x2] ([]) (some (.int (f_X6_bestNextLook x0 x2))) ([]) := by
  refine kHead (cc := cX6_bestNextLook) (maxL := 10) (ret := (some .int)) [(0, .long x0), (2, .int x2)] (by decide) rfl (Nat.le_of_ble_eq_true rfl) rfl ?_
  intro p e s m args below meth c A ls R Q hRf hRl hQ hx hb hr hlk hml hown hts hA hS hK hP hD hl
  have hw1 := hts (Cond.methodLink RX6 242 Lib.Math.max.name) (List.mem_of_getElem? (i := 1) (by decide +kernel))
  have hw2 := hts (Cond.static Lib.Math.max.name) (List.mem_of_getElem? (i := 2) (by decide +kernel))
  have hw3 := hts (Cond.initialized "java/lang/Math") (List.mem_of_getElem? (i := 3) (by decide +kernel))
  have hw4 := hts (Cond.code Lib.Math.max.name Lib.Math.max.code 2 (some .int)) (List.mem_of_getElem? (i := 4) (by decide +kernel))
  have kcm6 : (-6 : Int32).toInt = -6 := by decide
  have kc0 : (0 : Int32).toInt = 0 := by decide
  have kc1 : (1 : Int32).toInt = 1 := by decide
  have kc7 : (7 : Int32).toInt = 7 := by decide
  have kc10 : (10 : Int32).toInt = 10 := by decide
  have kc64 : (64 : Int32).toInt = 64 := by decide
  have hf : f_X6_bestNextLook x0 x2 = f_X6_bestNextLook x0 x2 := rfl
  refine lv_lload_n hx hb dX6_bestNextLook_0 rfl (lv_at hl 0 rfl) ?_
  have hM : kC l D ct z yJ13_bitCount_95d88 wsJ13_bitCount_95d88 0 0 [.long x0] ([]) (some (.int (f_J13_bitCount_95d88 x0))) ([]) := k_J13_bitCount_95d88 l D ct z x0
  refine kS0 (As := [.long x0]) (rest := []) ⟨hx, hb, hml, hown, hts⟩ hM gX6_bestNextLook_J13_bitCount_95d88 kyJ13_bitCount_95d88 (by rw [hRf, hRl]; exact ⟨Nat.le_of_ble_eq_true rfl, Nat.le_of_ble_eq_true rfl⟩) hK hP hD hS hA rfl hl.1 rfl (st1 := [.int (f_J13_bitCount_95d88 x0)]) rfl rfl ⟨Nat.zero_le _, Nat.zero_le _⟩ dX6_bestNextLook_1 (fun H locs hP hD hS => ?_)
  refine lv_topi (fun y4 ey4 => ?_)
  have hf := kLt hf ey4
  refine lv_istore_n (lv' := [(3, .int y4), (0, .long x0), (2, .int x2)]) hx hb dX6_bestNextLook_4 rfl hl (by decide) rfl (fun ls hl => ?_)
  refine lv_iload_n hx hb dX6_bestNextLook_5 rfl (lv_at hl 0 rfl) ?_
  refine lv_iconst (v := (1 : Int32)) hx hb dX6_bestNextLook_6 (by decide) ?_
  refine lv_iadd hx hb dX6_bestNextLook_7 ?_
  refine lv_topi (fun y8 ey8 => ?_)
  have hf := kLt hf ey8
  refine lv_istore (lv' := [(4, .int y8), (3, .int y4), (0, .long x0), (2, .int x2)]) hx hb dX6_bestNextLook_8 hl (by decide) rfl (fun ls hl => ?_)
  refine lv_bipush (v := (-6 : Int32)) hx hb dX6_bestNextLook_10 (by decide) ?_
  refine lv_istore (lv' := [(5, .int (-6 : Int32)), (4, .int y8), (3, .int y4), (0, .long x0), (2, .int x2)]) hx hb dX6_bestNextLook_12 hl (by decide) rfl (fun ls hl => ?_)
  refine lv_iconst (v := (0 : Int32)) hx hb dX6_bestNextLook_14 (by decide) ?_
  refine lv_istore (lv' := [(6, .int (0 : Int32)), (5, .int (-6 : Int32)), (4, .int y8), (3, .int y4), (0, .long x0), (2, .int x2)]) hx hb dX6_bestNextLook_15 hl (by decide) rfl (fun ls hl => ?_)
  have lp17 : ∀ (K : Int32 → Int32 → Int32), (∀ (z17_5 : Int32) (z17_4 : Int32), ∀ (H : Heap) (locs : List Loc) (ls : Array Slot), va_P D vwCl ([]) H → va_D A ([]) → va_S A s.heap H locs → lv_has ls 10 [(5, .int z17_5), (4, .int z17_4), (2, .int x2)] → f_X6_bestNextLook x0 x2 = K z17_5 z17_4 → W p l e R s m args below meth c H locs 0 0 Q (F0 m 92 ls [])) → ∀ (n : Nat) (z17_6 : Int32) (z17_5 : Int32) (z17_4 : Int32), ∀ (H : Heap) (locs : List Loc) (ls : Array Slot), (64 ≤ Int32.toInt z17_6 + (n : Int)) → va_P D vwCl ([]) H → va_D A ([]) → va_S A s.heap H locs → lv_has ls 10 [(6, .int z17_6), (5, .int z17_5), (4, .int z17_4), (3, .int y4), (0, .long x0), (2, .int x2)] → f_X6_bestNextLook x0 x2 = f_X6_bestNextLook_L17 x0 y4 K n z17_6 z17_5 z17_4 → W p l e R s m args below meth c H locs 0 0 Q (F0 m 17 ls []) := by
    intro K hk n
    induction n with
    | zero =>
      intro z17_6 z17_5 z17_4  H locs ls hn17 hP hD hS hl hf
      refine lv_iload hx hb dX6_bestNextLook_17 (lv_at hl 0 rfl) ?_
      refine lv_bipush (v := (64 : Int32)) hx hb dX6_bestNextLook_19 (by decide) ?_
      refine lv_icmp_ge (tgt := 92) hx hb dX6_bestNextLook_21 (by decide) (fun c_5 => ?_) (fun c_5 => ?_)
      · have t_5 := ti_le c_5
        exact hk _ _ _ _ _  hP hD hS (lv_sub hl [1, 2, 5] rfl) hf
      · have t_5 := ti_nle c_5
        exfalso
        omega
    | succ n ih =>
      intro z17_6 z17_5 z17_4  H locs ls hn17 hP hD hS hl hf
      refine lv_iload hx hb dX6_bestNextLook_17 (lv_at hl 0 rfl) ?_
      refine lv_bipush (v := (64 : Int32)) hx hb dX6_bestNextLook_19 (by decide) ?_
      refine lv_icmp_ge (tgt := 92) hx hb dX6_bestNextLook_21 (by decide) (fun c_1 => ?_) (fun c_1 => ?_)
      · have hf := kIt hf c_1
        have t_1 := ti_le c_1
        exact hk _ _ _ _ _  hP hD hS (lv_sub hl [1, 2, 5] rfl) hf
      · have hf := kIf hf c_1
        have t_1 := ti_nle c_1
        refine lv_iconst (v := (0 : Int32)) hx hb dX6_bestNextLook_24 (by decide) ?_
        refine lv_istore (lv' := [(7, .int (0 : Int32)), (6, .int z17_6), (5, .int z17_5), (4, .int z17_4), (3, .int y4), (0, .long x0), (2, .int x2)]) hx hb dX6_bestNextLook_25 hl (by decide) rfl (fun ls hl => ?_)
        have lp27 : ∀ (K : Int32 → Int32 → Int32), (∀ (z27_5 : Int32) (z27_4 : Int32), ∀ (H : Heap) (locs : List Loc) (ls : Array Slot), va_P D vwCl ([]) H → va_D A ([]) → va_S A s.heap H locs → lv_has ls 10 [(6, .int z17_6), (5, .int z27_5), (4, .int z27_4), (3, .int y4), (0, .long x0), (2, .int x2)] → f_X6_bestNextLook x0 x2 = K z27_5 z27_4 → W p l e R s m args below meth c H locs 0 0 Q (F0 m 86 ls [])) → ∀ (n : Nat) (z27_7 : Int32) (z27_5 : Int32) (z27_4 : Int32), ∀ (H : Heap) (locs : List Loc) (ls : Array Slot), (8 ≤ Int32.toInt z27_7 + (n : Int)) → va_P D vwCl ([]) H → va_D A ([]) → va_S A s.heap H locs → lv_has ls 10 [(7, .int z27_7), (6, .int z17_6), (5, .int z27_5), (4, .int z27_4), (3, .int y4), (0, .long x0), (2, .int x2)] → f_X6_bestNextLook x0 x2 = f_X6_bestNextLook_L27 x0 y4 z17_6 K n z27_7 z27_5 z27_4 → W p l e R s m args below meth c H locs 0 0 Q (F0 m 27 ls []) := by
          intro K hk n
          induction n with
          | zero =>
            intro z27_7 z27_5 z27_4  H locs ls hn27 hP hD hS hl hf
            refine lv_iload hx hb dX6_bestNextLook_27 (lv_at hl 0 rfl) ?_
            refine lv_bipush (v := (7 : Int32)) hx hb dX6_bestNextLook_29 (by decide) ?_
            refine lv_icmp_gt (tgt := 86) hx hb dX6_bestNextLook_31 (by decide) (fun c_4 => ?_) (fun c_4 => ?_)
            · have t_4 := ti_lt c_4
              exact hk _ _ _ _ _  hP hD hS (lv_sub hl [1, 2, 3, 4, 5, 6] rfl) hf
            · have t_4 := ti_nlt c_4
              exfalso
              omega
          | succ n ih =>
            intro z27_7 z27_5 z27_4  H locs ls hn27 hP hD hS hl hf
            refine lv_iload hx hb dX6_bestNextLook_27 (lv_at hl 0 rfl) ?_
            refine lv_bipush (v := (7 : Int32)) hx hb dX6_bestNextLook_29 (by decide) ?_
            refine lv_icmp_gt (tgt := 86) hx hb dX6_bestNextLook_31 (by decide) (fun c_2 => ?_) (fun c_2 => ?_)
            · have hf := kIt hf c_2
              have t_2 := ti_lt c_2
              exact hk _ _ _ _ _  hP hD hS (lv_sub hl [1, 2, 3, 4, 5, 6] rfl) hf
            · have hf := kIf hf c_2
              have t_2 := ti_nlt c_2
              refine lv_lload_n hx hb dX6_bestNextLook_34 rfl (lv_at hl 5 rfl) ?_
              refine lv_iload hx hb dX6_bestNextLook_35 (lv_at hl 1 rfl) ?_
              refine lv_iload hx hb dX6_bestNextLook_37 (lv_at hl 0 rfl) ?_
              have hM : kC l D ct z yX0_around wsX0_around 1 21 [.int z17_6, .int z27_7] ([]) (some (.long (f_X0_around z17_6 z27_7))) ([]) := k_X0_around l D ct z z17_6 z27_7
              refine kS0 (As := [.int z17_6, .int z27_7]) (rest := [.long x0]) ⟨hx, hb, hml, hown, hts⟩ hM gX6_bestNextLook_X0_around kyX0_around (by rw [hRf, hRl]; exact ⟨Nat.le_of_ble_eq_true rfl, Nat.le_of_ble_eq_true rfl⟩) hK hP hD hS hA rfl hl.1 rfl (st1 := [.long (f_X0_around z17_6 z27_7), .long x0]) rfl rfl ⟨Nat.zero_le _, Nat.zero_le _⟩ dX6_bestNextLook_39 (fun H locs hP hD hS => ?_)
              refine lv_land hx hb dX6_bestNextLook_42 ?_
              have hM : kC l D ct z yJ13_bitCount_95d88 wsJ13_bitCount_95d88 0 0 [.long (x0 &&& (f_X0_around z17_6 z27_7))] ([]) (some (.int (f_J13_bitCount_95d88 (x0 &&& (f_X0_around z17_6 z27_7))))) ([]) := k_J13_bitCount_95d88 l D ct z (x0 &&& (f_X0_around z17_6 z27_7))
              refine kS0 (As := [.long (x0 &&& (f_X0_around z17_6 z27_7))]) (rest := []) ⟨hx, hb, hml, hown, hts⟩ hM gX6_bestNextLook_J13_bitCount_95d88 kyJ13_bitCount_95d88 (by rw [hRf, hRl]; exact ⟨Nat.le_of_ble_eq_true rfl, Nat.le_of_ble_eq_true rfl⟩) hK hP hD hS hA rfl hl.1 rfl (st1 := [.int (f_J13_bitCount_95d88 (x0 &&& (f_X0_around z17_6 z27_7)))]) rfl rfl ⟨Nat.zero_le _, Nat.zero_le _⟩ dX6_bestNextLook_43 (fun H locs hP hD hS => ?_)
              refine lv_topi (fun y46 ey46 => ?_)
              have hf := kLt hf ey46
              refine lv_istore (lv' := [(8, .int y46), (7, .int z27_7), (6, .int z17_6), (5, .int z27_5), (4, .int z27_4), (3, .int y4), (0, .long x0), (2, .int x2)]) hx hb dX6_bestNextLook_46 hl (by decide) rfl (fun ls hl => ?_)
              refine lv_iload hx hb dX6_bestNextLook_48 (lv_at hl 0 rfl) ?_
              refine lv_iload_n hx hb dX6_bestNextLook_50 rfl (lv_at hl 5 rfl) ?_
              refine lv_iload hx hb dX6_bestNextLook_51 (lv_at hl 0 rfl) ?_
              refine lv_isub hx hb dX6_bestNextLook_53 ?_
              refine kMax hx hb (hml.trans hl.1.symm) hown hw1 hw2 hw3 hw4 (by rw [hRf]; decide) (by rw [hRl]; exact Nat.le_of_ble_eq_true rfl) (Nat.zero_le _) (Nat.zero_le _) dX6_bestNextLook_54 ?_
              refine lv_topi (fun y57 ey57 => ?_)
              have hf := kLt hf ey57
              refine lv_istore (lv' := [(9, .int y57), (8, .int y46), (7, .int z27_7), (6, .int z17_6), (5, .int z27_5), (4, .int z27_4), (3, .int y4), (0, .long x0), (2, .int x2)]) hx hb dX6_bestNextLook_57 hl (by decide) rfl (fun ls hl => ?_)
              refine lv_iload hx hb dX6_bestNextLook_59 (lv_at hl 0 rfl) ?_
              refine lv_iload hx hb dX6_bestNextLook_61 (lv_at hl 5 rfl) ?_
              refine kJn hf (fun j0 => ∀ (z80_5 : Int32) (z80_4 : Int32), f_X6_bestNextLook x0 x2 = j0 z80_5 z80_4 → ∀ (H : Heap) (locs : List Loc) (ls : Array Slot), va_P D vwCl ([]) H → va_D A ([]) → va_S A s.heap H locs → lv_has ls 10 [(7, .int z27_7), (6, .int z17_6), (5, .int z80_5), (4, .int z80_4), (3, .int y4), (0, .long x0), (2, .int x2)] → W p l e R s m args below meth c H locs 0 0 Q (F0 m 80 ls [])) ?_ ?_
              · intro j0 hj0 z80_5 z80_4  hf H locs ls hP hD hS hl
                subst hj0
                obtain ⟨y80, ey80⟩ : ∃ y : Int32, y = z27_7 + (1 : Int32) := ⟨_, rfl⟩
                have hf := kLt hf ey80
                have a80 : Int32.toInt y80 = Int32.toInt z27_7 + 1 := by have := ti_rng z27_7; rw [ey80]; exact ti_add (by rw [kc1]) (by omega) (by omega)
                refine lv_iinc (v := y80) (lv' := [(7, .int y80), (6, .int z17_6), (5, .int z80_5), (4, .int z80_4), (3, .int y4), (0, .long x0), (2, .int x2)]) hx hb dX6_bestNextLook_80 hl (k := 0) rfl (by rw [ey80]; rfl) (by decide) rfl (fun ls hl => ?_)
                refine lv_goto (tgt := 27) hx hb dX6_bestNextLook_83 (by decide) ?_
                exact ih y80 z80_5 z80_4 _ _ _ (by first | assumption | exact vin (by omega) (by omega) | omega) hP hD hS (lv_sub hl [0, 1, 2, 3, 4, 5, 6] rfl) hf
              · intro j80 hJ80 hf
                refine lv_icmp_ge (tgt := 80) hx hb dX6_bestNextLook_63 (by decide) (fun c_3 => ?_) (fun c_3 => ?_)
                · have hf := kIt hf c_3
                  have t_3 := ti_le c_3
                  exact hJ80 _ _  hf _ _ _ hP hD hS (lv_sub hl [2, 3, 4, 5, 6, 7, 8] rfl)
                · have hf := kIf hf c_3
                  have t_3 := ti_nle c_3
                  refine lv_iload hx hb dX6_bestNextLook_66 (lv_at hl 0 rfl) ?_
                  refine lv_istore (lv' := [(4, .int y57), (9, .int y57), (8, .int y46), (7, .int z27_7), (6, .int z17_6), (5, .int z27_5), (3, .int y4), (0, .long x0), (2, .int x2)]) hx hb dX6_bestNextLook_68 hl (by decide) rfl (fun ls hl => ?_)
                  refine lv_bipush (v := (10 : Int32)) hx hb dX6_bestNextLook_70 (by decide) ?_
                  refine lv_iload hx hb dX6_bestNextLook_72 (lv_at hl 4 rfl) ?_
                  refine lv_imul hx hb dX6_bestNextLook_74 ?_
                  refine lv_iload hx hb dX6_bestNextLook_75 (lv_at hl 3 rfl) ?_
                  refine lv_iadd hx hb dX6_bestNextLook_77 ?_
                  refine lv_topi (fun y78 ey78 => ?_)
                  have hf := kLt hf ey78
                  refine lv_istore (lv' := [(5, .int y78), (4, .int y57), (9, .int y57), (8, .int y46), (7, .int z27_7), (6, .int z17_6), (3, .int y4), (0, .long x0), (2, .int x2)]) hx hb dX6_bestNextLook_78 hl (by decide) rfl (fun ls hl => ?_)
                  exact hJ80 _ _  hf _ _ _ hP hD hS (lv_sub hl [4, 5, 0, 1, 6, 7, 8] rfl)
        refine lp27 _ (fun w27_5 w27_4  H locs ls  hP hD hS hl hf => ?_) (8) (0 : Int32) z17_5 z17_4  _ _ _ (by first | assumption | exact vin (by omega) (by omega) | omega) hP hD hS (lv_sub hl [0, 1, 2, 3, 4, 5, 6] rfl) hf
        obtain ⟨y86, ey86⟩ : ∃ y : Int32, y = z17_6 + (1 : Int32) := ⟨_, rfl⟩
        have hf := kLt hf ey86
        have a86 : Int32.toInt y86 = Int32.toInt z17_6 + 1 := by have := ti_rng z17_6; rw [ey86]; exact ti_add (by rw [kc1]) (by omega) (by omega)
        refine lv_iinc (v := y86) (lv' := [(6, .int y86), (5, .int w27_5), (4, .int w27_4), (3, .int y4), (0, .long x0), (2, .int x2)]) hx hb dX6_bestNextLook_86 hl (k := 0) rfl (by rw [ey86]; rfl) (by decide) rfl (fun ls hl => ?_)
        refine lv_goto (tgt := 17) hx hb dX6_bestNextLook_89 (by decide) ?_
        exact ih y86 w27_5 w27_4 _ _ _ (by first | assumption | exact vin (by omega) (by omega) | omega) hP hD hS (lv_sub hl [0, 1, 2, 3, 4, 5] rfl) hf
  refine lp17 _ (fun w17_5 w17_4  H locs ls  hP hD hS hl hf => ?_) (64) (0 : Int32) (-6 : Int32) y8  _ _ _ (by first | assumption | exact vin (by omega) (by omega) | omega) hP hD hS (lv_sub hl [0, 1, 2, 3, 4, 5] rfl) hf
  refine lv_iload_n hx hb dX6_bestNextLook_92 rfl (lv_at hl 2 rfl) ?_
  refine lv_if_ne (tgt := 101) hx hb dX6_bestNextLook_93 (by decide) (fun c_6 => ?_) (fun c_6 => ?_)
  · have hf := kIf hf c_6
    have t_6 := ti_ne c_6
    refine lv_iload hx hb dX6_bestNextLook_101 (lv_at hl 1 rfl) ?_
    exact kRetI hx hb hr hlk hP hD hS hf.symm rfl hQ dX6_bestNextLook_103
  · have hf := kIt hf c_6
    have t_6 := ti_eq c_6
    refine lv_iload hx hb dX6_bestNextLook_96 (lv_at hl 0 rfl) ?_
    refine lv_goto (tgt := 103) hx hb dX6_bestNextLook_98 (by decide) ?_
    exact kRetI hx hb hr hlk hP hD hS hf.symm rfl hQ dX6_bestNextLook_103
theorem kyX6_ask : kY yX6_ask cX6_ask 2 (some .int) wsX6_ask wsX6_ask.tail 1 := ⟨rfl, by decide, by decide, by decide +kernel⟩
set_option maxHeartbeats 4000000 in
set_option maxRecDepth 100000 in
theorem k_X6_ask (l : Launch) (D : va_G) (ct : ClassId × ClassId × ClassId) (z : Nat × Nat) (cd : Nat → Nat) (x1 : Int32) (L : Nat → Nat → Int64) (I : Nat → Nat → Int32)  : kC l D ct z yX6_ask wsX6_ask 3 81 [.ref (cd 0), .int x1] (xW cd ct L I) (some (.int (f_X6_ask x1 L I))) (xW cd ct L I) := by
  refine kHead (cc := cX6_ask) (maxL := 2) (ret := (some .int)) [(0, .ref (cd 0)), (1, .int x1)] (by decide) rfl (Nat.le_of_ble_eq_true rfl) rfl ?_
  intro p e s m args below meth c A ls R Q hRf hRl hQ hx hb hr hlk hml hown hts hA hS hK hP hD hl
  have inX4 : ∀ w ∈ wsX40, w ∈ wsX6_ask := fun w h => (List.mem_cons_of_mem _ (List.mem_append_right _ h))
  have inX6 : ∀ w ∈ wsX60, w ∈ wsX6_ask := fun w h => (List.mem_cons_of_mem _ (List.mem_append_left _ (List.mem_append_right _ h)))
  have hw1 := hts (Cond.fieldLink RX6 10 "MastPulpits" "sea" "LMastPulpits$Sea;") (List.mem_of_getElem? (i := 1) (by decide +kernel))
  have hw2 := hts (Cond.fieldLink RX6 188 "MastPulpits$Sea" "fitting" "J") (List.mem_of_getElem? (i := 2) (by decide +kernel))
  have kcm6 : (-6 : Int32).toInt = -6 := by decide
  have kcm2 : (-2 : Int32).toInt = -2 := by decide
  have kc0 : (0 : Int32).toInt = 0 := by decide
  have kc1 : (1 : Int32).toInt = 1 := by decide
  have kl0 : (0 : Int64).toInt = 0 := by decide
  have hf : f_X6_ask x1 L I = f_X6_ask x1 L I := rfl
  refine lv_iload_n hx hb dX6_ask_0 rfl (lv_at hl 1 rfl) ?_
  refine lv_iconst (v := (0 : Int32)) hx hb dX6_ask_1 (by decide) ?_
  refine lv_iconst (v := (1 : Int32)) hx hb dX6_ask_2 (by decide) ?_
  have hM : kC l D ct z yX6_within wsX6_within 0 0 [.int x1, .int (0 : Int32), .int (1 : Int32)] ([]) (some (.int (f_X6_within x1 (0 : Int32) (1 : Int32)))) ([]) := k_X6_within l D ct z x1 (0 : Int32) (1 : Int32)
  refine kS0 (As := [.int x1, .int (0 : Int32), .int (1 : Int32)]) (rest := []) ⟨hx, hb, hml, hown, hts⟩ hM gX6_ask_X6_within kyX6_within (by rw [hRf, hRl]; exact ⟨Nat.le_of_ble_eq_true rfl, Nat.le_of_ble_eq_true rfl⟩) hK hP hD hS hA rfl hl.1 rfl (st1 := [.int (f_X6_within x1 (0 : Int32) (1 : Int32))]) rfl rfl ⟨Nat.zero_le _, Nat.zero_le _⟩ dX6_ask_3 (fun H locs hP hD hS => ?_)
  refine lv_if_ne (tgt := 12) hx hb dX6_ask_6 (by decide) (fun c_1 => ?_) (fun c_1 => ?_)
  · have hf := kIf hf c_1
    have t_1 := ti_ne c_1; have w_1 := within_nz c_1
    refine lv_aload_n hx hb dX6_ask_12 rfl (lv_at hl 0 rfl) ?_
    refine va_get (D := D) (cl := vwCl) (ci := 5) (v := .ref (cd 3)) (C := RX6) (T := TX6) (N := 7) hx hb hts inX6 hown hK.1 hP 0 rfl rfl 0 (by decide) hw1 (fun _ h => h) rfl dX6_ask_13 ?_
    refine va_get (D := D) (cl := vwCl) (ci := 3) (v := .long (L 3 8)) (C := RX4) (T := TX4) (N := 10) hx hb hts inX4 hown hK.1 hP 3 rfl rfl 8 (by decide) hw2 (fun _ h => h) rfl dX6_ask_16 ?_
    refine lv_lconst (v := (0 : Int64)) hx hb dX6_ask_19 (by decide) ?_
    refine W.lcmp hx hb dX6_ask_20 ?_
    refine lv_if_ne (tgt := 29) hx hb dX6_ask_21 (by decide) (fun c_2 => ?_) (fun c_2 => ?_)
    · have hf := kIf hf c_2
      have t_2 := ti_ne c_2
      refine lv_aload_n hx hb dX6_ask_29 rfl (lv_at hl 0 rfl) ?_
      refine va_get (D := D) (cl := vwCl) (ci := 5) (v := .ref (cd 3)) (C := RX6) (T := TX6) (N := 7) hx hb hts inX6 hown hK.1 hP 0 rfl rfl 0 (by decide) hw1 (fun _ h => h) rfl dX6_ask_30 ?_
      refine va_get (D := D) (cl := vwCl) (ci := 3) (v := .long (L 3 8)) (C := RX4) (T := TX4) (N := 10) hx hb hts inX4 hown hK.1 hP 3 rfl rfl 8 (by decide) hw2 (fun _ h => h) rfl dX6_ask_33 ?_
      refine lv_iload_n hx hb dX6_ask_36 rfl (lv_at hl 1 rfl) ?_
      have hM : kC l D ct z yX6_bestNextLook wsX6_bestNextLook 2 52 [.long (L 3 8), .int x1] ([]) (some (.int (f_X6_bestNextLook (L 3 8) x1))) ([]) := k_X6_bestNextLook l D ct z (L 3 8) x1
      refine kS0 (As := [.long (L 3 8), .int x1]) (rest := []) ⟨hx, hb, hml, hown, hts⟩ hM gX6_ask_X6_bestNextLook kyX6_bestNextLook (by rw [hRf, hRl]; exact ⟨Nat.le_of_ble_eq_true rfl, Nat.le_of_ble_eq_true rfl⟩) hK hP hD hS hA rfl hl.1 rfl (st1 := [.int (f_X6_bestNextLook (L 3 8) x1)]) rfl rfl ⟨Nat.zero_le _, Nat.zero_le _⟩ dX6_ask_37 (fun H locs hP hD hS => ?_)
      exact kRetI hx hb hr hlk hP hD hS hf.symm rfl hQ dX6_ask_40
    · have hf := kIt hf c_2
      have t_2 := ti_eq c_2
      refine lv_bipush (v := (-6 : Int32)) hx hb dX6_ask_24 (by decide) ?_
      refine lv_goto (tgt := 40) hx hb dX6_ask_26 (by decide) ?_
      exact kRetI hx hb hr hlk hP hD hS hf.symm rfl hQ dX6_ask_40
  · have hf := kIt hf c_1
    have t_1 := ti_eq c_1
    refine lv_bipush (v := (-2 : Int32)) hx hb dX6_ask_9 (by decide) ?_
    exact kRetI hx hb hr hlk hP hD hS hf.symm rfl hQ dX6_ask_11
theorem kyX6_tack : kY yX6_tack cX6_tack 4 (some .int) wsX6_tack wsX6_tack.tail 2 := ⟨rfl, by decide, by decide, by decide +kernel⟩
set_option maxHeartbeats 4000000 in
set_option maxRecDepth 100000 in
theorem k_X6_tack (l : Launch) (D : va_G) (ct : ClassId × ClassId × ClassId) (z : Nat × Nat) (cd : Nat → Nat) (x1 : Int32) (x2 : Int32) (L : Nat → Nat → Int64) (I : Nat → Nat → Int32)  : kC l D ct z yX6_tack wsX6_tack 3 69 [.ref (cd 0), .int x1, .int x2] (xW cd ct L I) (some (.int (f_X6_tack x1 x2 L I))) (xW cd ct L I) := by
  refine kHead (cc := cX6_tack) (maxL := 4) (ret := (some .int)) [(0, .ref (cd 0)), (1, .int x1), (2, .int x2)] (by decide) rfl (Nat.le_of_ble_eq_true rfl) rfl ?_
  intro p e s m args below meth c A ls R Q hRf hRl hQ hx hb hr hlk hml hown hts hA hS hK hP hD hl
  have kcm6 : (-6 : Int32).toInt = -6 := by decide
  have kcm2 : (-2 : Int32).toInt = -2 := by decide
  have kcm1 : (-1 : Int32).toInt = -1 := by decide
  have kc0 : (0 : Int32).toInt = 0 := by decide
  have kc1 : (1 : Int32).toInt = 1 := by decide
  have hf : f_X6_tack x1 x2 L I = f_X6_tack x1 x2 L I := rfl
  refine lv_iload_n hx hb dX6_tack_0 rfl (lv_at hl 1 rfl) ?_
  have hM : kC l D ct z yX0_isCell wsX0_isCell 0 0 [.int x1] ([]) (some (.int (f_X0_isCell x1))) ([]) := k_X0_isCell l D ct z x1
  refine kS0 (As := [.int x1]) (rest := []) ⟨hx, hb, hml, hown, hts⟩ hM gX6_tack_X0_isCell kyX0_isCell (by rw [hRf, hRl]; exact ⟨Nat.le_of_ble_eq_true rfl, Nat.le_of_ble_eq_true rfl⟩) hK hP hD hS hA rfl hl.1 rfl (st1 := [.int (f_X0_isCell x1)]) rfl rfl ⟨Nat.zero_le _, Nat.zero_le _⟩ dX6_tack_1 (fun H locs hP hD hS => ?_)
  refine lv_if_ne (tgt := 9) hx hb dX6_tack_4 (by decide) (fun c_1 => ?_) (fun c_1 => ?_)
  · have hf := kIf hf c_1
    have t_1 := ti_ne c_1; have w_1 := xcell_nz c_1
    refine lv_iload_n hx hb dX6_tack_9 rfl (lv_at hl 2 rfl) ?_
    refine lv_iconst (v := (0 : Int32)) hx hb dX6_tack_10 (by decide) ?_
    refine lv_iconst (v := (1 : Int32)) hx hb dX6_tack_11 (by decide) ?_
    have hM : kC l D ct z yX6_within wsX6_within 0 0 [.int x2, .int (0 : Int32), .int (1 : Int32)] ([]) (some (.int (f_X6_within x2 (0 : Int32) (1 : Int32)))) ([]) := k_X6_within l D ct z x2 (0 : Int32) (1 : Int32)
    refine kS0 (As := [.int x2, .int (0 : Int32), .int (1 : Int32)]) (rest := []) ⟨hx, hb, hml, hown, hts⟩ hM gX6_tack_X6_within kyX6_within (by rw [hRf, hRl]; exact ⟨Nat.le_of_ble_eq_true rfl, Nat.le_of_ble_eq_true rfl⟩) hK hP hD hS hA rfl hl.1 rfl (st1 := [.int (f_X6_within x2 (0 : Int32) (1 : Int32))]) rfl rfl ⟨Nat.zero_le _, Nat.zero_le _⟩ dX6_tack_12 (fun H locs hP hD hS => ?_)
    refine lv_if_ne (tgt := 21) hx hb dX6_tack_15 (by decide) (fun c_2 => ?_) (fun c_2 => ?_)
    · have hf := kIf hf c_2
      have t_2 := ti_ne c_2; have w_2 := within_nz c_2
      refine lv_iload_n hx hb dX6_tack_21 rfl (lv_at hl 1 rfl) ?_
      have hM : kC l D ct z yX0_tacksFrom wsX0_tacksFrom 1 25 [.int x1] ([]) (some (.long (f_X0_tacksFrom x1))) ([]) := k_X0_tacksFrom l D ct z x1
      refine kS0 (As := [.int x1]) (rest := []) ⟨hx, hb, hml, hown, hts⟩ hM gX6_tack_X0_tacksFrom kyX0_tacksFrom (by rw [hRf, hRl]; exact ⟨Nat.le_of_ble_eq_true rfl, Nat.le_of_ble_eq_true rfl⟩) hK hP hD hS hA rfl hl.1 rfl (st1 := [.long (f_X0_tacksFrom x1)]) rfl rfl ⟨Nat.zero_le _, Nat.zero_le _⟩ dX6_tack_22 (fun H locs hP hD hS => ?_)
      have hM : kC l D ct z yX0_cellsWhereTackingLoses wsX0_cellsWhereTackingLoses 2 45 [] ([]) (some (.long (f_X0_cellsWhereTackingLoses))) ([]) := k_X0_cellsWhereTackingLoses l D ct z
      refine kS0 (As := []) (rest := [.long (f_X0_tacksFrom x1)]) ⟨hx, hb, hml, hown, hts⟩ hM gX6_tack_X0_cellsWhereTackingLoses kyX0_cellsWhereTackingLoses (by rw [hRf, hRl]; exact ⟨Nat.le_of_ble_eq_true rfl, Nat.le_of_ble_eq_true rfl⟩) hK hP hD hS hA rfl hl.1 rfl (st1 := [.long (f_X0_cellsWhereTackingLoses), .long (f_X0_tacksFrom x1)]) rfl rfl ⟨Nat.zero_le _, Nat.zero_le _⟩ dX6_tack_25 (fun H locs hP hD hS => ?_)
      refine lv_land hx hb dX6_tack_28 ?_
      have hM : kC l D ct z yX0_least wsX0_least 1 21 [.long ((f_X0_tacksFrom x1) &&& (f_X0_cellsWhereTackingLoses))] ([]) (some (.int (f_X0_least ((f_X0_tacksFrom x1) &&& (f_X0_cellsWhereTackingLoses))))) ([]) := k_X0_least l D ct z ((f_X0_tacksFrom x1) &&& (f_X0_cellsWhereTackingLoses))
      refine kS0 (As := [.long ((f_X0_tacksFrom x1) &&& (f_X0_cellsWhereTackingLoses))]) (rest := []) ⟨hx, hb, hml, hown, hts⟩ hM gX6_tack_X0_least kyX0_least (by rw [hRf, hRl]; exact ⟨Nat.le_of_ble_eq_true rfl, Nat.le_of_ble_eq_true rfl⟩) hK hP hD hS hA rfl hl.1 rfl (st1 := [.int (f_X0_least ((f_X0_tacksFrom x1) &&& (f_X0_cellsWhereTackingLoses)))]) rfl rfl ⟨Nat.zero_le _, Nat.zero_le _⟩ dX6_tack_29 (fun H locs hP hD hS => ?_)
      refine lv_topi (fun y32 ey32 => ?_)
      have hf := kLt hf ey32
      refine lv_istore_n (lv' := [(3, .int y32), (0, .ref (cd 0)), (1, .int x1), (2, .int x2)]) hx hb dX6_tack_32 rfl hl (by decide) rfl (fun ls hl => ?_)
      refine lv_iload_n hx hb dX6_tack_33 rfl (lv_at hl 3 rfl) ?_
      refine lv_iconst (v := (1 : Int32)) hx hb dX6_tack_34 (by decide) ?_
      refine lv_icmp_ne (tgt := 40) hx hb dX6_tack_35 (by decide) (fun c_3 => ?_) (fun c_3 => ?_)
      · have hf := kIf hf c_3
        have t_3 := ti_ne c_3
        refine lv_iload_n hx hb dX6_tack_40 rfl (lv_at hl 0 rfl) ?_
        refine lv_bipush (v := (-6 : Int32)) hx hb dX6_tack_41 (by decide) ?_
        refine lv_icmp_ne (tgt := 50) hx hb dX6_tack_43 (by decide) (fun c_4 => ?_) (fun c_4 => ?_)
        · have hf := kIf hf c_4
          have t_4 := ti_ne c_4
          refine lv_iconst (v := (1 : Int32)) hx hb dX6_tack_50 (by decide) ?_
          exact kRetI hx hb hr hlk hP hD hS hf.symm rfl hQ dX6_tack_51
        · have hf := kIt hf c_4
          have t_4 := ti_eq c_4
          refine lv_iconst (v := (0 : Int32)) hx hb dX6_tack_46 (by decide) ?_
          refine lv_goto (tgt := 51) hx hb dX6_tack_47 (by decide) ?_
          exact kRetI hx hb hr hlk hP hD hS hf.symm rfl hQ dX6_tack_51
      · have hf := kIt hf c_3
        have t_3 := ti_eq c_3
        refine lv_iload_n hx hb dX6_tack_38 rfl (lv_at hl 0 rfl) ?_
        exact kRetI hx hb hr hlk hP hD hS hf.symm rfl hQ dX6_tack_39
    · have hf := kIt hf c_2
      have t_2 := ti_eq c_2
      refine lv_bipush (v := (-2 : Int32)) hx hb dX6_tack_18 (by decide) ?_
      exact kRetI hx hb hr hlk hP hD hS hf.symm rfl hQ dX6_tack_20
  · have hf := kIt hf c_1
    have t_1 := ti_eq c_1
    refine lv_iconst (v := (-1 : Int32)) hx hb dX6_tack_7 (by decide) ?_
    exact kRetI hx hb hr hlk hP hD hS hf.symm rfl hQ dX6_tack_8
theorem kyX6_first : kY yX6_first cX6_first 6 (some .long) wsX6_first wsX6_first.tail 5 := ⟨rfl, by decide, by decide, by decide +kernel⟩
set_option maxHeartbeats 4000000 in
set_option maxRecDepth 100000 in
theorem k_X6_first (l : Launch) (D : va_G) (ct : ClassId × ClassId × ClassId) (z : Nat × Nat) (cd : Nat → Nat) (x1 : Int32) (x2 : Int32) (x3 : Int32) (x4 : Int32) (x5 : Int32) (L : Nat → Nat → Int64) (I : Nat → Nat → Int32)  : kC l D ct z yX6_first wsX6_first 2 50 [.ref (cd 0), .int x1, .int x2, .int x3, .int x4, .int x5] (xW cd ct L I) (some (.long ((f_X6_first x1 x2 x3 x4 x5 L I).1))) (xW cd ct ((f_X6_first x1 x2 x3 x4 x5 L I).2) I) := by
  refine kHead (cc := cX6_first) (maxL := 6) (ret := (some .long)) [(0, .ref (cd 0)), (1, .int x1), (2, .int x2), (3, .int x3), (4, .int x4), (5, .int x5)] (by decide) rfl (Nat.le_of_ble_eq_true rfl) rfl ?_
  intro p e s m args below meth c A ls R Q hRf hRl hQ hx hb hr hlk hml hown hts hA hS hK hP hD hl
  have inX6 : ∀ w ∈ wsX60, w ∈ wsX6_first := fun w h => (List.mem_cons_of_mem _ (List.mem_append_left _ (List.mem_append_right _ h)))
  have hw1 := hts (Cond.constantLong RX6 201 (-1000000000000000002)) (List.mem_of_getElem? (i := 1) (by decide +kernel))
  have hw2 := hts (Cond.fieldLink RX6 40 "MastPulpits" "lookouts" "LMastPulpits$Lookouts;") (List.mem_of_getElem? (i := 2) (by decide +kernel))
  have kc0 : (0 : Int32).toInt = 0 := by decide
  have kc1 : (1 : Int32).toInt = 1 := by decide
  have kc2 : (2 : Int32).toInt = 2 := by decide
  have kc10 : (10 : Int32).toInt = 10 := by decide
  have kc16 : (16 : Int32).toInt = 16 := by decide
  have klm1000000000000000002 : (-1000000000000000002 : Int64).toInt = -1000000000000000002 := by decide
  have hf : f_X6_first x1 x2 x3 x4 x5 L I = f_X6_first x1 x2 x3 x4 x5 L I := rfl
  refine lv_iload_n hx hb dX6_first_0 rfl (lv_at hl 1 rfl) ?_
  refine lv_iconst (v := (0 : Int32)) hx hb dX6_first_1 (by decide) ?_
  refine lv_bipush (v := (10 : Int32)) hx hb dX6_first_2 (by decide) ?_
  have hM : kC l D ct z yX6_within wsX6_within 0 0 [.int x1, .int (0 : Int32), .int (10 : Int32)] ([]) (some (.int (f_X6_within x1 (0 : Int32) (10 : Int32)))) ([]) := k_X6_within l D ct z x1 (0 : Int32) (10 : Int32)
  refine kS0 (As := [.int x1, .int (0 : Int32), .int (10 : Int32)]) (rest := []) ⟨hx, hb, hml, hown, hts⟩ hM gX6_first_X6_within kyX6_within (by rw [hRf, hRl]; exact ⟨Nat.le_of_ble_eq_true rfl, Nat.le_of_ble_eq_true rfl⟩) hK hP hD hS hA rfl hl.1 rfl (st1 := [.int (f_X6_within x1 (0 : Int32) (10 : Int32))]) rfl rfl ⟨Nat.zero_le _, Nat.zero_le _⟩ dX6_first_4 (fun H locs hP hD hS => ?_)
  refine kJn hf (fun j0 => ∀ (u0 : Unit), f_X6_first x1 x2 x3 x4 x5 L I = j0 () → ∀ (H : Heap) (locs : List Loc) (ls : Array Slot), va_P D vwCl (xW cd ct L I) H → va_D A (xW cd ct L I) → va_S A s.heap H locs → lv_has ls 6 [] → W p l e R s m args below meth c H locs 0 0 Q (F0 m 30 ls [])) ?_ ?_
  · intro j0 hj0 u0  hf H locs ls hP hD hS hl
    subst hj0
    refine lv_ldc2 (v := (-1000000000000000002 : Int64)) hx hb hown hw1 dX6_first_30 ?_
    exact kRetL hx hb hr hlk hP hD hS (kfst hf) ((congrArg (fun q => xW cd ct q.2 I) hf).symm) hQ dX6_first_33
  · intro j30 hJ30 hf
    refine lv_if_eq (tgt := 30) hx hb dX6_first_7 (by decide) (fun c_1 => ?_) (fun c_1 => ?_)
    · have hf := kIt hf c_1
      have t_1 := ti_eq c_1
      exact hJ30 ()  hf _ _ _ hP hD hS (lv_sub hl [] rfl)
    · have hf := kIf hf c_1
      have t_1 := ti_ne c_1; have w_1 := within_nz c_1
      refine lv_iload_n hx hb dX6_first_10 rfl (lv_at hl 2 rfl) ?_
      refine lv_iconst (v := (0 : Int32)) hx hb dX6_first_11 (by decide) ?_
      refine lv_bipush (v := (10 : Int32)) hx hb dX6_first_12 (by decide) ?_
      have hM : kC l D ct z yX6_within wsX6_within 0 0 [.int x2, .int (0 : Int32), .int (10 : Int32)] ([]) (some (.int (f_X6_within x2 (0 : Int32) (10 : Int32)))) ([]) := k_X6_within l D ct z x2 (0 : Int32) (10 : Int32)
      refine kS0 (As := [.int x2, .int (0 : Int32), .int (10 : Int32)]) (rest := []) ⟨hx, hb, hml, hown, hts⟩ hM gX6_first_X6_within kyX6_within (by rw [hRf, hRl]; exact ⟨Nat.le_of_ble_eq_true rfl, Nat.le_of_ble_eq_true rfl⟩) hK hP hD hS hA rfl hl.1 rfl (st1 := [.int (f_X6_within x2 (0 : Int32) (10 : Int32))]) rfl rfl ⟨Nat.zero_le _, Nat.zero_le _⟩ dX6_first_14 (fun H locs hP hD hS => ?_)
      refine lv_if_eq (tgt := 30) hx hb dX6_first_17 (by decide) (fun c_2 => ?_) (fun c_2 => ?_)
      · have hf := kIt hf c_2
        have t_2 := ti_eq c_2
        exact hJ30 ()  hf _ _ _ hP hD hS (lv_sub hl [] rfl)
      · have hf := kIf hf c_2
        have t_2 := ti_ne c_2; have w_2 := within_nz c_2
        refine lv_iload_n hx hb dX6_first_20 rfl (lv_at hl 3 rfl) ?_
        refine lv_iconst (v := (0 : Int32)) hx hb dX6_first_21 (by decide) ?_
        refine lv_bipush (v := (16 : Int32)) hx hb dX6_first_22 (by decide) ?_
        have hM : kC l D ct z yX6_within wsX6_within 0 0 [.int x3, .int (0 : Int32), .int (16 : Int32)] ([]) (some (.int (f_X6_within x3 (0 : Int32) (16 : Int32)))) ([]) := k_X6_within l D ct z x3 (0 : Int32) (16 : Int32)
        refine kS0 (As := [.int x3, .int (0 : Int32), .int (16 : Int32)]) (rest := []) ⟨hx, hb, hml, hown, hts⟩ hM gX6_first_X6_within kyX6_within (by rw [hRf, hRl]; exact ⟨Nat.le_of_ble_eq_true rfl, Nat.le_of_ble_eq_true rfl⟩) hK hP hD hS hA rfl hl.1 rfl (st1 := [.int (f_X6_within x3 (0 : Int32) (16 : Int32))]) rfl rfl ⟨Nat.zero_le _, Nat.zero_le _⟩ dX6_first_24 (fun H locs hP hD hS => ?_)
        refine lv_if_ne (tgt := 34) hx hb dX6_first_27 (by decide) (fun c_3 => ?_) (fun c_3 => ?_)
        · have hf := kIf hf c_3
          have t_3 := ti_ne c_3; have w_3 := within_nz c_3
          refine lv_iload hx hb dX6_first_34 (lv_at hl 4 rfl) ?_
          refine lv_iconst (v := (0 : Int32)) hx hb dX6_first_36 (by decide) ?_
          refine lv_iconst (v := (2 : Int32)) hx hb dX6_first_37 (by decide) ?_
          have hM : kC l D ct z yX6_within wsX6_within 0 0 [.int x4, .int (0 : Int32), .int (2 : Int32)] ([]) (some (.int (f_X6_within x4 (0 : Int32) (2 : Int32)))) ([]) := k_X6_within l D ct z x4 (0 : Int32) (2 : Int32)
          refine kS0 (As := [.int x4, .int (0 : Int32), .int (2 : Int32)]) (rest := []) ⟨hx, hb, hml, hown, hts⟩ hM gX6_first_X6_within kyX6_within (by rw [hRf, hRl]; exact ⟨Nat.le_of_ble_eq_true rfl, Nat.le_of_ble_eq_true rfl⟩) hK hP hD hS hA rfl hl.1 rfl (st1 := [.int (f_X6_within x4 (0 : Int32) (2 : Int32))]) rfl rfl ⟨Nat.zero_le _, Nat.zero_le _⟩ dX6_first_38 (fun H locs hP hD hS => ?_)
          refine kJn hf (fun j0 => ∀ (u0 : Unit), f_X6_first x1 x2 x3 x4 x5 L I = j0 () → ∀ (H : Heap) (locs : List Loc) (ls : Array Slot), va_P D vwCl (xW cd ct L I) H → va_D A (xW cd ct L I) → va_S A s.heap H locs → lv_has ls 6 [] → W p l e R s m args below meth c H locs 0 0 Q (F0 m 54 ls [])) ?_ ?_
          · intro j0 hj0 u0  hf H locs ls hP hD hS hl
            subst hj0
            refine lv_ldc2 (v := (-1000000000000000002 : Int64)) hx hb hown hw1 dX6_first_54 ?_
            exact kRetL hx hb hr hlk hP hD hS (kfst hf) ((congrArg (fun q => xW cd ct q.2 I) hf).symm) hQ dX6_first_57
          · intro j54 hJ54 hf
            refine lv_if_eq (tgt := 54) hx hb dX6_first_41 (by decide) (fun c_4 => ?_) (fun c_4 => ?_)
            · have hf := kIt hf c_4
              have t_4 := ti_eq c_4
              exact hJ54 ()  hf _ _ _ hP hD hS (lv_sub hl [] rfl)
            · have hf := kIf hf c_4
              have t_4 := ti_ne c_4; have w_4 := within_nz c_4
              refine lv_iload hx hb dX6_first_44 (lv_at hl 5 rfl) ?_
              refine lv_iconst (v := (0 : Int32)) hx hb dX6_first_46 (by decide) ?_
              refine lv_iconst (v := (1 : Int32)) hx hb dX6_first_47 (by decide) ?_
              have hM : kC l D ct z yX6_within wsX6_within 0 0 [.int x5, .int (0 : Int32), .int (1 : Int32)] ([]) (some (.int (f_X6_within x5 (0 : Int32) (1 : Int32)))) ([]) := k_X6_within l D ct z x5 (0 : Int32) (1 : Int32)
              refine kS0 (As := [.int x5, .int (0 : Int32), .int (1 : Int32)]) (rest := []) ⟨hx, hb, hml, hown, hts⟩ hM gX6_first_X6_within kyX6_within (by rw [hRf, hRl]; exact ⟨Nat.le_of_ble_eq_true rfl, Nat.le_of_ble_eq_true rfl⟩) hK hP hD hS hA rfl hl.1 rfl (st1 := [.int (f_X6_within x5 (0 : Int32) (1 : Int32))]) rfl rfl ⟨Nat.zero_le _, Nat.zero_le _⟩ dX6_first_48 (fun H locs hP hD hS => ?_)
              refine lv_if_ne (tgt := 58) hx hb dX6_first_51 (by decide) (fun c_5 => ?_) (fun c_5 => ?_)
              · have hf := kIf hf c_5
                have t_5 := ti_ne c_5; have w_5 := within_nz c_5
                refine lv_aload_n hx hb dX6_first_58 rfl (lv_at hl 0 rfl) ?_
                refine va_get (D := D) (cl := vwCl) (ci := 5) (v := .ref (cd 13)) (C := RX6) (T := TX6) (N := 7) hx hb hts inX6 hown hK.1 hP 0 rfl rfl 4 (by decide) hw2 (fun _ h => h) rfl dX6_first_59 ?_
                refine lv_iload_n hx hb dX6_first_62 rfl (lv_at hl 1 rfl) ?_
                refine lv_iload_n hx hb dX6_first_63 rfl (lv_at hl 2 rfl) ?_
                refine lv_iload_n hx hb dX6_first_64 rfl (lv_at hl 3 rfl) ?_
                obtain ⟨q65, eq65⟩ : ∃ y, y = f_X1_watchByTurns x1 x2 x3 (L 13) := ⟨_, rfl⟩
                have hf := kLt hf eq65
                have hM : kC l D ct z yX1_watchByTurns wsX1_watchByTurns 0 0 [.ref (cd 13), .int x1, .int x2, .int x3] (loW (cd 13) (L 13)) (none) (loW (cd 13) q65) := by rw [eq65]; exact k_X1_watchByTurns l D ct z (cd 13) x1 x2 x3 (L 13) (by first | assumption | exact vin (by omega) (by omega) | omega)
                refine kV (As := [.int x1, .int x2, .int x3]) (rest := []) (W1 := xW cd ct (rw2 L 13 q65) I) ⟨hx, hb, hml, hown, hts⟩ hM gX6_first_X1_watchByTurns kyX1_watchByTurns (by rw [hRf, hRl]; exact ⟨Nat.le_of_ble_eq_true rfl, Nat.le_of_ble_eq_true rfl⟩) hK hP hD hS hA [13] [0, 1, 2, 3, 4, 5, 6, 7, 8, 9, 10, 11, 12, 14, 15, 16, 17] [0, 1, 2, 3, 4, 5, 6, 7, 8, 9, 10, 11, 12, 17, 13, 14, 15, 16] 13 rfl rfl rfl rfl rfl ⟨rfl, rfl⟩ (by decide) rfl rfl rfl hl.1 rfl (st1 := []) rfl rfl ⟨Nat.zero_le _, Nat.zero_le _⟩ dX6_first_65 (fun H locs hP hD hS => ?_)
                refine lv_aload_n hx hb dX6_first_68 rfl (lv_at hl 0 rfl) ?_
                refine va_get (D := D) (cl := vwCl) (ci := 5) (v := .ref (cd 13)) (C := RX6) (T := TX6) (N := 7) hx hb hts inX6 hown hK.1 hP 0 rfl rfl 4 (by decide) hw2 (fun _ h => h) rfl dX6_first_69 ?_
                refine lv_iload hx hb dX6_first_72 (lv_at hl 4 rfl) ?_
                refine lv_iload hx hb dX6_first_74 (lv_at hl 5 rfl) ?_
                have hM : kC l D ct z yX1_chance wsX1_chance 1 28 [.ref (cd 13), .int x4, .int x5] (loW (cd 13) q65) (some (.long (f_X1_chance x4 x5 q65))) (loW (cd 13) q65) := k_X1_chance l D ct z (cd 13) x4 x5 q65
                refine kV (As := [.int x4, .int x5]) (rest := []) (W1 := xW cd ct (rw2 L 13 q65) I) ⟨hx, hb, hml, hown, hts⟩ hM gX6_first_X1_chance kyX1_chance (by rw [hRf, hRl]; exact ⟨Nat.le_of_ble_eq_true rfl, Nat.le_of_ble_eq_true rfl⟩) hK hP hD hS hA [13] [0, 1, 2, 3, 4, 5, 6, 7, 8, 9, 10, 11, 12, 14, 15, 16, 17] [0, 1, 2, 3, 4, 5, 6, 7, 8, 9, 10, 11, 12, 17, 13, 14, 15, 16] 13 rfl rfl rfl rfl rfl ⟨rfl, rfl⟩ (by decide) rfl rfl rfl hl.1 rfl (st1 := [.long (f_X1_chance x4 x5 q65)]) rfl rfl ⟨Nat.zero_le _, Nat.zero_le _⟩ dX6_first_76 (fun H locs hP hD hS => ?_)
                exact kRetL hx hb hr hlk hP hD hS (kfst hf) ((congrArg (fun q => xW cd ct q.2 I) hf).symm) hQ dX6_first_79
              · have hf := kIt hf c_5
                have t_5 := ti_eq c_5
                exact hJ54 ()  hf _ _ _ hP hD hS (lv_sub hl [] rfl)
        · have hf := kIt hf c_3
          have t_3 := ti_eq c_3
          exact hJ30 ()  hf _ _ _ hP hD hS (lv_sub hl [] rfl)
theorem kyX6_year : kY yX6_year cX6_year 4 (some .int) wsX6_year wsX6_year.tail 3 := ⟨rfl, by decide, by decide, by decide +kernel⟩
set_option maxHeartbeats 4000000 in
set_option maxRecDepth 100000 in
theorem k_X6_year (l : Launch) (D : va_G) (ct : ClassId × ClassId × ClassId) (z : Nat × Nat) (cd : Nat → Nat) (x1 : Int32) (x2 : Int32) (x3 : Int32) (L : Nat → Nat → Int64) (I : Nat → Nat → Int32)  : kC l D ct z yX6_year wsX6_year 5 123 [.ref (cd 0), .int x1, .int x2, .int x3] (xW cd ct L I) (some (.int ((f_X6_year x1 x2 x3 L I).1))) (xW cd ct ((f_X6_year x1 x2 x3 L I).2.1) ((f_X6_year x1 x2 x3 L I).2.2)) := by
  refine kHead (cc := cX6_year) (maxL := 4) (ret := (some .int)) [(0, .ref (cd 0)), (1, .int x1), (2, .int x2), (3, .int x3)] (by decide) rfl (Nat.le_of_ble_eq_true rfl) rfl ?_
  intro p e s m args below meth c A ls R Q hRf hRl hQ hx hb hr hlk hml hown hts hA hS hK hP hD hl
  have inX4 : ∀ w ∈ wsX40, w ∈ wsX6_year := fun w h => (List.mem_cons_of_mem _ (List.mem_append_right _ h))
  have inX5 : ∀ w ∈ wsX50, w ∈ wsX6_year := fun w h => (List.mem_cons_of_mem _ (List.mem_append_left _ (List.mem_append_right _ h)))
  have inX6 : ∀ w ∈ wsX60, w ∈ wsX6_year := fun w h => (List.mem_cons_of_mem _ (List.mem_append_left _ (List.mem_append_left _ (List.mem_append_right _ h))))
  have hw1 := hts (Cond.fieldLink RX6 26 "MastPulpits" "voyage" "LMastPulpits$Voyage;") (List.mem_of_getElem? (i := 1) (by decide +kernel))
  have hw2 := hts (Cond.fieldLink RX6 10 "MastPulpits" "sea" "LMastPulpits$Sea;") (List.mem_of_getElem? (i := 2) (by decide +kernel))
  have hw3 := hts (Cond.fieldLink RX6 125 "MastPulpits$Voyage" "seaThen" "LMastPulpits$Sea;") (List.mem_of_getElem? (i := 3) (by decide +kernel))
  have hw4 := hts (Cond.fieldLink RX6 62 "MastPulpits$Sea" "shipCell" "I") (List.mem_of_getElem? (i := 4) (by decide +kernel))
  have hw5 := hts (Cond.fieldLink RX6 85 "MastPulpits$Sea" "shipHull" "I") (List.mem_of_getElem? (i := 5) (by decide +kernel))
  have hw6 := hts (Cond.fieldLink RX6 214 "MastPulpits$Voyage" "silences" "I") (List.mem_of_getElem? (i := 6) (by decide +kernel))
  have kcm2 : (-2 : Int32).toInt = -2 := by decide
  have kc0 : (0 : Int32).toInt = 0 := by decide
  have kc1 : (1 : Int32).toInt = 1 := by decide
  have kc2 : (2 : Int32).toInt = 2 := by decide
  have kc99 : (99 : Int32).toInt = 99 := by decide
  have kc9999 : (9999 : Int32).toInt = 9999 := by decide
  have hf : f_X6_year x1 x2 x3 L I = f_X6_year x1 x2 x3 L I := rfl
  refine lv_iload_n hx hb dX6_year_0 rfl (lv_at hl 1 rfl) ?_
  refine lv_iconst (v := (0 : Int32)) hx hb dX6_year_1 (by decide) ?_
  refine lv_sipush (v := (9999 : Int32)) hx hb dX6_year_2 (by decide) ?_
  have hM : kC l D ct z yX6_within wsX6_within 0 0 [.int x1, .int (0 : Int32), .int (9999 : Int32)] ([]) (some (.int (f_X6_within x1 (0 : Int32) (9999 : Int32)))) ([]) := k_X6_within l D ct z x1 (0 : Int32) (9999 : Int32)
  refine kS0 (As := [.int x1, .int (0 : Int32), .int (9999 : Int32)]) (rest := []) ⟨hx, hb, hml, hown, hts⟩ hM gX6_year_X6_within kyX6_within (by rw [hRf, hRl]; exact ⟨Nat.le_of_ble_eq_true rfl, Nat.le_of_ble_eq_true rfl⟩) hK hP hD hS hA rfl hl.1 rfl (st1 := [.int (f_X6_within x1 (0 : Int32) (9999 : Int32))]) rfl rfl ⟨Nat.zero_le _, Nat.zero_le _⟩ dX6_year_5 (fun H locs hP hD hS => ?_)
  refine lv_if_eq (tgt := 30) hx hb dX6_year_8 (by decide) (fun c_1 => ?_) (fun c_1 => ?_)
  · have hf := kIt hf c_1
    have t_1 := ti_eq c_1
    refine lv_bipush (v := (-2 : Int32)) hx hb dX6_year_30 (by decide) ?_
    exact kRetI hx hb hr hlk hP hD hS (kfst hf) ((congrArg (fun q => xW cd ct q.2.1 q.2.2) hf).symm) hQ dX6_year_32
  · have hf := kIf hf c_1
    have t_1 := ti_ne c_1; have w_1 := within_nz c_1
    refine lv_iload_n hx hb dX6_year_11 rfl (lv_at hl 2 rfl) ?_
    refine lv_iconst (v := (1 : Int32)) hx hb dX6_year_12 (by decide) ?_
    refine lv_bipush (v := (99 : Int32)) hx hb dX6_year_13 (by decide) ?_
    have hM : kC l D ct z yX6_within wsX6_within 0 0 [.int x2, .int (1 : Int32), .int (99 : Int32)] ([]) (some (.int (f_X6_within x2 (1 : Int32) (99 : Int32)))) ([]) := k_X6_within l D ct z x2 (1 : Int32) (99 : Int32)
    refine kS0 (As := [.int x2, .int (1 : Int32), .int (99 : Int32)]) (rest := []) ⟨hx, hb, hml, hown, hts⟩ hM gX6_year_X6_within kyX6_within (by rw [hRf, hRl]; exact ⟨Nat.le_of_ble_eq_true rfl, Nat.le_of_ble_eq_true rfl⟩) hK hP hD hS hA rfl hl.1 rfl (st1 := [.int (f_X6_within x2 (1 : Int32) (99 : Int32))]) rfl rfl ⟨Nat.zero_le _, Nat.zero_le _⟩ dX6_year_15 (fun H locs hP hD hS => ?_)
    refine lv_if_eq (tgt := 30) hx hb dX6_year_18 (by decide) (fun c_2 => ?_) (fun c_2 => ?_)
    · have hf := kIt hf c_2
      have t_2 := ti_eq c_2
      refine lv_bipush (v := (-2 : Int32)) hx hb dX6_year_30 (by decide) ?_
      exact kRetI hx hb hr hlk hP hD hS (kfst hf) ((congrArg (fun q => xW cd ct q.2.1 q.2.2) hf).symm) hQ dX6_year_32
    · have hf := kIf hf c_2
      have t_2 := ti_ne c_2; have w_2 := within_nz c_2
      refine lv_iload_n hx hb dX6_year_21 rfl (lv_at hl 3 rfl) ?_
      refine lv_iconst (v := (0 : Int32)) hx hb dX6_year_22 (by decide) ?_
      refine lv_iconst (v := (2 : Int32)) hx hb dX6_year_23 (by decide) ?_
      have hM : kC l D ct z yX6_within wsX6_within 0 0 [.int x3, .int (0 : Int32), .int (2 : Int32)] ([]) (some (.int (f_X6_within x3 (0 : Int32) (2 : Int32)))) ([]) := k_X6_within l D ct z x3 (0 : Int32) (2 : Int32)
      refine kS0 (As := [.int x3, .int (0 : Int32), .int (2 : Int32)]) (rest := []) ⟨hx, hb, hml, hown, hts⟩ hM gX6_year_X6_within kyX6_within (by rw [hRf, hRl]; exact ⟨Nat.le_of_ble_eq_true rfl, Nat.le_of_ble_eq_true rfl⟩) hK hP hD hS hA rfl hl.1 rfl (st1 := [.int (f_X6_within x3 (0 : Int32) (2 : Int32))]) rfl rfl ⟨Nat.zero_le _, Nat.zero_le _⟩ dX6_year_24 (fun H locs hP hD hS => ?_)
      refine lv_if_ne (tgt := 33) hx hb dX6_year_27 (by decide) (fun c_3 => ?_) (fun c_3 => ?_)
      · have hf := kIf hf c_3
        have t_3 := ti_ne c_3; have w_3 := within_nz c_3
        refine lv_aload_n hx hb dX6_year_33 rfl (lv_at hl 0 rfl) ?_
        refine va_get (D := D) (cl := vwCl) (ci := 5) (v := .ref (cd 7)) (C := RX6) (T := TX6) (N := 7) hx hb hts inX6 hown hK.1 hP 0 rfl rfl 2 (by decide) hw1 (fun _ h => h) rfl dX6_year_34 ?_
        refine lv_aload_n hx hb dX6_year_37 rfl (lv_at hl 0 rfl) ?_
        refine va_get (D := D) (cl := vwCl) (ci := 5) (v := .ref (cd 3)) (C := RX6) (T := TX6) (N := 7) hx hb hts inX6 hown hK.1 hP 0 rfl rfl 0 (by decide) hw2 (fun _ h => h) rfl dX6_year_38 ?_
        refine lv_iload_n hx hb dX6_year_41 rfl (lv_at hl 1 rfl) ?_
        refine lv_iload_n hx hb dX6_year_42 rfl (lv_at hl 2 rfl) ?_
        obtain ⟨q43, eq43⟩ : ∃ y, y = f_X5_sailByDraws x1 x2 (I 7) (L 8) (I 8) (I 9) (L 3) (I 3) (I 4) := ⟨_, rfl⟩
        have hf := kLt hf eq43
        have hM : kC l D ct z yX5_sailByDraws wsX5_sailByDraws 4 96 [.ref (cd 7), .ref (cd 3), .int x1, .int x2] (vsW (cd 7) (cd 8) (cd 9) (cd 3) (cd 4) ct (I 7) (L 8) (I 8) (I 9) (L 3) (I 3) (I 4)) (none) (vsW (cd 7) (cd 8) (cd 9) (cd 3) (cd 4) ct q43.1 q43.2.1 q43.2.2.1 q43.2.2.2 (L 3) (I 3) (I 4)) := by rw [eq43]; exact k_X5_sailByDraws l D ct z (cd 7) (cd 8) (cd 9) (cd 3) (cd 4) x1 x2 (I 7) (L 8) (I 8) (I 9) (L 3) (I 3) (I 4) (by first | assumption | exact vin (by omega) (by omega) | omega)
        refine kV (As := [.ref (cd 3), .int x1, .int x2]) (rest := []) (W1 := xW cd ct (rw2 L 8 q43.2.1) (rw2 (rw2 (rw2 I 7 q43.1) 8 q43.2.2.1) 9 q43.2.2.2)) ⟨hx, hb, hml, hown, hts⟩ hM gX6_year_X5_sailByDraws kyX5_sailByDraws (by rw [hRf, hRl]; exact ⟨Nat.le_of_ble_eq_true rfl, Nat.le_of_ble_eq_true rfl⟩) hK hP hD hS hA [7, 8, 9, 3, 4] [0, 1, 2, 5, 6, 10, 11, 12, 13, 14, 15, 16, 17] [0, 1, 2, 16, 17, 3, 4, 13, 14, 15, 5, 6, 7, 8, 9, 10, 11, 12] 7 rfl rfl rfl rfl rfl ⟨rfl, rfl⟩ (by decide) rfl rfl rfl hl.1 rfl (st1 := []) rfl rfl ⟨Nat.zero_le _, Nat.zero_le _⟩ dX6_year_43 (fun H locs hP hD hS => ?_)
        refine lv_iload_n hx hb dX6_year_46 rfl (lv_at hl 3 rfl) ?_
        have kv_4 : (0 : Int32).toInt = 0 := by decide
        refine (Classical.em (x3 = (0 : Int32))).elim (fun c_4 => ?_) (fun c_4 => ?_)
        · have hf := kIt hf c_4
          have t_4 := ti_eq c_4
          refine lv_lookup (off := 25) (tgt := 72) hx hb dX6_year_47 (by decide) (by rw [c_4]; decide) (by decide) ?_
          refine lv_aload_n hx hb dX6_year_72 rfl (lv_at hl 0 rfl) ?_
          refine va_get (D := D) (cl := vwCl) (ci := 5) (v := .ref (cd 7)) (C := RX6) (T := TX6) (N := 7) hx hb hts inX6 hown hK.1 hP 0 rfl rfl 2 (by decide) hw1 (fun _ h => h) rfl dX6_year_73 ?_
          refine va_get (D := D) (cl := vwCl) (ci := 4) (v := .ref (cd 8)) (C := RX5) (T := TX5) (N := 8) hx hb hts inX5 hown hK.1 hP 7 rfl rfl 0 (by decide) hw3 (fun _ h => h) rfl dX6_year_76 ?_
          refine va_get (D := D) (cl := vwCl) (ci := 3) (v := .int (q43.2.2.1 1)) (C := RX4) (T := TX4) (N := 10) hx hb hts inX4 hown hK.1 hP 8 rfl rfl 1 (by decide) hw4 (fun _ h => h) rfl dX6_year_79 ?_
          exact kRetI hx hb hr hlk hP hD hS (kfst hf) ((congrArg (fun q => xW cd ct q.2.1 q.2.2) hf).symm) hQ dX6_year_82
        · have hf := kIf hf c_4
          have t_4 := ti_ne c_4
          have kv_5 : (1 : Int32).toInt = 1 := by decide
          refine (Classical.em (x3 = (1 : Int32))).elim (fun c_5 => ?_) (fun c_5 => ?_)
          · have hf := kIt hf c_5
            have t_5 := ti_eq c_5
            refine lv_lookup (off := 36) (tgt := 83) hx hb dX6_year_47 (by decide) (by rw [c_5]; decide) (by decide) ?_
            refine lv_aload_n hx hb dX6_year_83 rfl (lv_at hl 0 rfl) ?_
            refine va_get (D := D) (cl := vwCl) (ci := 5) (v := .ref (cd 7)) (C := RX6) (T := TX6) (N := 7) hx hb hts inX6 hown hK.1 hP 0 rfl rfl 2 (by decide) hw1 (fun _ h => h) rfl dX6_year_84 ?_
            refine va_get (D := D) (cl := vwCl) (ci := 4) (v := .ref (cd 8)) (C := RX5) (T := TX5) (N := 8) hx hb hts inX5 hown hK.1 hP 7 rfl rfl 0 (by decide) hw3 (fun _ h => h) rfl dX6_year_87 ?_
            refine va_get (D := D) (cl := vwCl) (ci := 3) (v := .int (q43.2.2.1 2)) (C := RX4) (T := TX4) (N := 10) hx hb hts inX4 hown hK.1 hP 8 rfl rfl 2 (by decide) hw5 (fun _ h => h) rfl dX6_year_90 ?_
            exact kRetI hx hb hr hlk hP hD hS (kfst hf) ((congrArg (fun q => xW cd ct q.2.1 q.2.2) hf).symm) hQ dX6_year_93
          · have hf := kIf hf c_5
            have t_5 := ti_ne c_5
            refine lv_lookup (off := 47) (tgt := 94) hx hb dX6_year_47 (by decide) (by show Op.lookupswitch.offset [(0, 25), (1, 36)] _ _ = _; rw [lv_osw c_4 (by decide), lv_osw c_5 (by decide)]; rfl) (by decide) ?_
            refine lv_aload_n hx hb dX6_year_94 rfl (lv_at hl 0 rfl) ?_
            refine va_get (D := D) (cl := vwCl) (ci := 5) (v := .ref (cd 7)) (C := RX6) (T := TX6) (N := 7) hx hb hts inX6 hown hK.1 hP 0 rfl rfl 2 (by decide) hw1 (fun _ h => h) rfl dX6_year_95 ?_
            refine va_get (D := D) (cl := vwCl) (ci := 4) (v := .int (q43.1 6)) (C := RX5) (T := TX5) (N := 8) hx hb hts inX5 hown hK.1 hP 7 rfl rfl 6 (by decide) hw6 (fun _ h => h) rfl dX6_year_98 ?_
            exact kRetI hx hb hr hlk hP hD hS (kfst hf) ((congrArg (fun q => xW cd ct q.2.1 q.2.2) hf).symm) hQ dX6_year_101
      · have hf := kIt hf c_3
        have t_3 := ti_eq c_3
        refine lv_bipush (v := (-2 : Int32)) hx hb dX6_year_30 (by decide) ?_
        exact kRetI hx hb hr hlk hP hD hS (kfst hf) ((congrArg (fun q => xW cd ct q.2.1 q.2.2) hf).symm) hQ dX6_year_32
theorem kyX6_isImage : kY yX6_isImage cX6_isImage 2 (some .boolean) wsX6_isImage wsX6_isImage.tail 1 := ⟨rfl, by decide, by decide, by decide +kernel⟩
set_option maxHeartbeats 4000000 in
set_option maxRecDepth 100000 in
theorem k_X6_isImage (l : Launch) (D : va_G) (ct : ClassId × ClassId × ClassId) (z : Nat × Nat) (cd : Nat → Nat) (x1 : Int32) (L : Nat → Nat → Int64) (I : Nat → Nat → Int32)  : kC l D ct z yX6_isImage wsX6_isImage 0 0 [.ref (cd 0), .int x1] (xW cd ct L I) (some (.int (f_X6_isImage x1 L I))) (xW cd ct L I) := by
  refine kHead (cc := cX6_isImage) (maxL := 2) (ret := (some .boolean)) [(0, .ref (cd 0)), (1, .int x1)] (by decide) rfl (Nat.le_of_ble_eq_true rfl) rfl ?_
  intro p e s m args below meth c A ls R Q hRf hRl hQ hx hb hr hlk hml hown hts hA hS hK hP hD hl
  have inX6 : ∀ w ∈ wsX60, w ∈ wsX6_isImage := fun w h => (List.mem_cons_of_mem _ (List.mem_append_right _ h))
  have hw1 := hts (Cond.fieldLink RX6 44 "MastPulpits" "images" "[LMastPulpits$Sea;") (List.mem_of_getElem? (i := 1) (by decide +kernel))
  have hw2 := hts (Cond.fieldLink RX6 48 "MastPulpits" "kept" "[Z") (List.mem_of_getElem? (i := 2) (by decide +kernel))
  have kc0 : (0 : Int32).toInt = 0 := by decide
  have kc1 : (1 : Int32).toInt = 1 := by decide
  have kc2 : (2 : Int32).toInt = 2 := by decide
  have hf : f_X6_isImage x1 L I = f_X6_isImage x1 L I := rfl
  refine lv_iload_n hx hb dX6_isImage_0 rfl (lv_at hl 1 rfl) ?_
  refine lv_if_lt (tgt := 35) hx hb dX6_isImage_1 (by decide) (fun c_1 => ?_) (fun c_1 => ?_)
  · have hf := kIt hf c_1
    have t_1 := ti_lt c_1
    refine lv_iconst (v := (0 : Int32)) hx hb dX6_isImage_35 (by decide) ?_
    exact kRetZ hx hb hr hlk hP hD hS (Or.inl rfl) hf.symm rfl hQ dX6_isImage_36
  · have hf := kIf hf c_1
    have t_1 := ti_nlt c_1
    refine lv_iload_n hx hb dX6_isImage_4 rfl (lv_at hl 1 rfl) ?_
    refine lv_aload_n hx hb dX6_isImage_5 rfl (lv_at hl 0 rfl) ?_
    refine va_get (D := D) (cl := vwCl) (ci := 5) (v := .ref (cd 1)) (C := RX6) (T := TX6) (N := 7) hx hb hts inX6 hown hK.1 hP 0 rfl rfl 5 (by decide) hw1 (fun _ h => h) rfl dX6_isImage_6 ?_
    refine va_alen (v := (2 : Int32)) hx hb hK.1 hP 1 2 rfl rfl rfl dX6_isImage_9 ?_
    refine lv_icmp_ge (tgt := 35) hx hb dX6_isImage_10 (by decide) (fun c_2 => ?_) (fun c_2 => ?_)
    · have hf := kIt hf c_2
      have t_2 := ti_le c_2
      refine lv_iconst (v := (0 : Int32)) hx hb dX6_isImage_35 (by decide) ?_
      exact kRetZ hx hb hr hlk hP hD hS (Or.inl rfl) hf.symm rfl hQ dX6_isImage_36
    · have hf := kIf hf c_2
      have t_2 := ti_nle c_2
      refine lv_iload_n hx hb dX6_isImage_13 rfl (lv_at hl 1 rfl) ?_
      refine lv_aload_n hx hb dX6_isImage_14 rfl (lv_at hl 0 rfl) ?_
      refine va_get (D := D) (cl := vwCl) (ci := 5) (v := .ref (cd 2)) (C := RX6) (T := TX6) (N := 7) hx hb hts inX6 hown hK.1 hP 0 rfl rfl 6 (by decide) hw2 (fun _ h => h) rfl dX6_isImage_15 ?_
      refine va_alen (v := (2 : Int32)) hx hb hK.1 hP 2 1 rfl rfl rfl dX6_isImage_18 ?_
      refine lv_icmp_ge (tgt := 35) hx hb dX6_isImage_19 (by decide) (fun c_3 => ?_) (fun c_3 => ?_)
      · have hf := kIt hf c_3
        have t_3 := ti_le c_3
        refine lv_iconst (v := (0 : Int32)) hx hb dX6_isImage_35 (by decide) ?_
        exact kRetZ hx hb hr hlk hP hD hS (Or.inl rfl) hf.symm rfl hQ dX6_isImage_36
      · have hf := kIf hf c_3
        have t_3 := ti_nle c_3
        refine lv_aload_n hx hb dX6_isImage_22 rfl (lv_at hl 0 rfl) ?_
        refine va_get (D := D) (cl := vwCl) (ci := 5) (v := .ref (cd 1)) (C := RX6) (T := TX6) (N := 7) hx hb hts inX6 hown hK.1 hP 0 rfl rfl 5 (by decide) hw1 (fun _ h => h) rfl dX6_isImage_23 ?_
        refine lv_iload_n hx hb dX6_isImage_26 rfl (lv_at hl 1 rfl) ?_
        refine (Classical.em (x1 = (0 : Int32))).elim (fun c_4 => ?_) (fun c_4 => ?_)
        · have hf := kIt hf c_4
          refine kAld (v := .ref (cd 14)) hx hb hK hP 1 rfl (by first | assumption | exact vin (by omega) (by omega) | omega) (im_0 c_4) dX6_isImage_27 ?_
          refine lv_ifnull hx hb dX6_isImage_28 ?_
          refine lv_iconst (v := (1 : Int32)) hx hb dX6_isImage_31 (by decide) ?_
          refine lv_goto (tgt := 36) hx hb dX6_isImage_32 (by decide) ?_
          exact kRetZ hx hb hr hlk hP hD hS (Or.inr rfl) hf.symm rfl hQ dX6_isImage_36
        · have hf := kIf hf c_4
          refine kAld (v := .ref (cd 16)) hx hb hK hP 1 rfl (by first | assumption | exact vin (by omega) (by omega) | omega) (im_1 (by first | assumption | exact vin (by omega) (by omega) | omega) c_4) dX6_isImage_27 ?_
          refine lv_ifnull hx hb dX6_isImage_28 ?_
          refine lv_iconst (v := (1 : Int32)) hx hb dX6_isImage_31 (by decide) ?_
          refine lv_goto (tgt := 36) hx hb dX6_isImage_32 (by decide) ?_
          exact kRetZ hx hb hr hlk hP hD hS (Or.inr rfl) hf.symm rfl hQ dX6_isImage_36
theorem kyX6_image : kY yX6_image cX6_image 2 (some .int) wsX6_image wsX6_image.tail 1 := ⟨rfl, by decide, by decide, by decide +kernel⟩
set_option maxHeartbeats 4000000 in
set_option maxRecDepth 100000 in
theorem k_X6_image (l : Launch) (D : va_G) (ct : ClassId × ClassId × ClassId) (z : Nat × Nat) (cd : Nat → Nat) (x1 : Int32) (L : Nat → Nat → Int64) (I : Nat → Nat → Int32)  : kC l D ct z yX6_image wsX6_image 1 22 [.ref (cd 0), .int x1] (xW cd ct L I) (some (.int ((f_X6_image x1 L I).1))) (xW cd ct ((f_X6_image x1 L I).2.1) ((f_X6_image x1 L I).2.2)) := by
  refine kHead (cc := cX6_image) (maxL := 2) (ret := (some .int)) [(0, .ref (cd 0)), (1, .int x1)] (by decide) rfl (Nat.le_of_ble_eq_true rfl) rfl ?_
  intro p e s m args below meth c A ls R Q hRf hRl hQ hx hb hr hlk hml hown hts hA hS hK hP hD hl
  have inX6 : ∀ w ∈ wsX60, w ∈ wsX6_image := fun w h => (List.mem_cons_of_mem _ (List.mem_append_left _ (List.mem_append_right _ h)))
  have hw1 := hts (Cond.fieldLink RX6 44 "MastPulpits" "images" "[LMastPulpits$Sea;") (List.mem_of_getElem? (i := 1) (by decide +kernel))
  have hw2 := hts (Cond.fieldLink RX6 10 "MastPulpits" "sea" "LMastPulpits$Sea;") (List.mem_of_getElem? (i := 2) (by decide +kernel))
  have hw3 := hts (Cond.fieldLink RX6 48 "MastPulpits" "kept" "[Z") (List.mem_of_getElem? (i := 3) (by decide +kernel))
  have kcm2 : (-2 : Int32).toInt = -2 := by decide
  have kc0 : (0 : Int32).toInt = 0 := by decide
  have kc1 : (1 : Int32).toInt = 1 := by decide
  have hf : f_X6_image x1 L I = f_X6_image x1 L I := rfl
  refine lv_aload_n hx hb dX6_image_0 rfl (lv_at hl 0 rfl) ?_
  refine lv_iload_n hx hb dX6_image_1 rfl (lv_at hl 1 rfl) ?_
  have hM : kC l D ct z yX6_isImage wsX6_isImage 0 0 [.ref (cd 0), .int x1] (xW cd ct L I) (some (.int (f_X6_isImage x1 L I))) (xW cd ct L I) := k_X6_isImage l D ct z cd x1 L I
  refine kV1 (As := [.int x1]) (rest := []) ⟨hx, hb, hml, hown, hts⟩ hM gX6_image_X6_isImage kyX6_isImage (by rw [hRf, hRl]; exact ⟨Nat.le_of_ble_eq_true rfl, Nat.le_of_ble_eq_true rfl⟩) hK hP hD hS hA 0 rfl rfl rfl rfl hl.1 rfl (st1 := [.int (f_X6_isImage x1 L I)]) rfl rfl ⟨Nat.zero_le _, Nat.zero_le _⟩ dX6_image_2 (fun H locs hP hD hS => ?_)
  refine lv_if_ne (tgt := 11) hx hb dX6_image_5 (by decide) (fun c_1 => ?_) (fun c_1 => ?_)
  · have hf := kIf hf c_1
    have t_1 := ti_ne c_1; have w_1 := isImage_nz c_1
    refine lv_aload_n hx hb dX6_image_11 rfl (lv_at hl 0 rfl) ?_
    refine va_get (D := D) (cl := vwCl) (ci := 5) (v := .ref (cd 1)) (C := RX6) (T := TX6) (N := 7) hx hb hts inX6 hown hK.1 hP 0 rfl rfl 5 (by decide) hw1 (fun _ h => h) rfl dX6_image_12 ?_
    refine lv_iload_n hx hb dX6_image_15 rfl (lv_at hl 1 rfl) ?_
    refine (Classical.em (x1 = (0 : Int32))).elim (fun c_2 => ?_) (fun c_2 => ?_)
    · have hf := kIt hf c_2
      refine kAld (v := .ref (cd 14)) hx hb hK hP 1 rfl (by first | assumption | exact vin (by omega) (by omega) | omega) (im_0 c_2) dX6_image_16 ?_
      refine lv_aload_n hx hb dX6_image_17 rfl (lv_at hl 0 rfl) ?_
      refine va_get (D := D) (cl := vwCl) (ci := 5) (v := .ref (cd 3)) (C := RX6) (T := TX6) (N := 7) hx hb hts inX6 hown hK.1 hP 0 rfl rfl 0 (by decide) hw2 (fun _ h => h) rfl dX6_image_18 ?_
      obtain ⟨q21, eq21⟩ : ∃ y, y = f_X4_takeOver (L 14) (I 14) (I 15) (L 3) (I 3) (I 4) := ⟨_, rfl⟩
      have hf := kLt hf eq21
      have hM : kC l D ct z yX4_takeOver wsX4_takeOver 0 0 [.ref (cd 14), .ref (cd 3)] (seW2 (cd 14) (cd 15) (cd 3) (cd 4) ct (L 14) (I 14) (I 15) (L 3) (I 3) (I 4)) (none) (seW2 (cd 14) (cd 15) (cd 3) (cd 4) ct q21.1 q21.2.1 q21.2.2 (L 3) (I 3) (I 4)) := by rw [eq21]; exact k_X4_takeOver l D ct z (cd 14) (cd 15) (cd 3) (cd 4) (L 14) (I 14) (I 15) (L 3) (I 3) (I 4)
      refine kV (As := [.ref (cd 3)]) (rest := []) (W1 := xW cd ct (rw2 L 14 q21.1) (rw2 (rw2 I 14 q21.2.1) 15 q21.2.2)) ⟨hx, hb, hml, hown, hts⟩ hM gX6_image_X4_takeOver kyX4_takeOver (by rw [hRf, hRl]; exact ⟨Nat.le_of_ble_eq_true rfl, Nat.le_of_ble_eq_true rfl⟩) hK hP hD hS hA [14, 15, 3, 4] [0, 1, 2, 5, 6, 7, 8, 9, 10, 11, 12, 13, 16, 17] [0, 1, 2, 16, 17, 3, 4, 5, 6, 7, 8, 9, 10, 11, 14, 15, 12, 13] 14 rfl rfl rfl rfl rfl ⟨rfl, rfl⟩ (by decide) rfl rfl rfl hl.1 rfl (st1 := []) rfl rfl ⟨Nat.zero_le _, Nat.zero_le _⟩ dX6_image_21 (fun H locs hP hD hS => ?_)
      refine lv_aload_n hx hb dX6_image_24 rfl (lv_at hl 0 rfl) ?_
      refine va_get (D := D) (cl := vwCl) (ci := 5) (v := .ref (cd 2)) (C := RX6) (T := TX6) (N := 7) hx hb hts inX6 hown hK.1 hP 0 rfl rfl 6 (by decide) hw3 (fun _ h => h) rfl dX6_image_25 ?_
      refine lv_iload_n hx hb dX6_image_28 rfl (lv_at hl 1 rfl) ?_
      refine lv_iconst (v := (1 : Int32)) hx hb dX6_image_29 (by decide) ?_
      refine kZast (W1 := xW cd ct (rw2 L 14 q21.1) (u2 (rw2 (rw2 I 14 q21.2.1) 15 q21.2.2) 2 ((Int32.toNatClampNeg x1)) (1 : Int32))) hx hb hK hP hD hS 2 rfl (Or.inr rfl) (by first | assumption | exact vin (by omega) (by omega) | omega) rfl dX6_image_30 (fun H locs hP hD hS => ?_)
      refine lv_iconst (v := (1 : Int32)) hx hb dX6_image_31 (by decide) ?_
      exact kRetI hx hb hr hlk hP hD hS (kfst hf) ((congrArg (fun q => xW cd ct q.2.1 q.2.2) hf).symm) hQ dX6_image_32
    · have hf := kIf hf c_2
      refine kAld (v := .ref (cd 16)) hx hb hK hP 1 rfl (by first | assumption | exact vin (by omega) (by omega) | omega) (im_1 (by first | assumption | exact vin (by omega) (by omega) | omega) c_2) dX6_image_16 ?_
      refine lv_aload_n hx hb dX6_image_17 rfl (lv_at hl 0 rfl) ?_
      refine va_get (D := D) (cl := vwCl) (ci := 5) (v := .ref (cd 3)) (C := RX6) (T := TX6) (N := 7) hx hb hts inX6 hown hK.1 hP 0 rfl rfl 0 (by decide) hw2 (fun _ h => h) rfl dX6_image_18 ?_
      obtain ⟨q21, eq21⟩ : ∃ y, y = f_X4_takeOver (L 16) (I 16) (I 17) (L 3) (I 3) (I 4) := ⟨_, rfl⟩
      have hf := kLt hf eq21
      have hM : kC l D ct z yX4_takeOver wsX4_takeOver 0 0 [.ref (cd 16), .ref (cd 3)] (seW2 (cd 16) (cd 17) (cd 3) (cd 4) ct (L 16) (I 16) (I 17) (L 3) (I 3) (I 4)) (none) (seW2 (cd 16) (cd 17) (cd 3) (cd 4) ct q21.1 q21.2.1 q21.2.2 (L 3) (I 3) (I 4)) := by rw [eq21]; exact k_X4_takeOver l D ct z (cd 16) (cd 17) (cd 3) (cd 4) (L 16) (I 16) (I 17) (L 3) (I 3) (I 4)
      refine kV (As := [.ref (cd 3)]) (rest := []) (W1 := xW cd ct (rw2 L 16 q21.1) (rw2 (rw2 I 16 q21.2.1) 17 q21.2.2)) ⟨hx, hb, hml, hown, hts⟩ hM gX6_image_X4_takeOver kyX4_takeOver (by rw [hRf, hRl]; exact ⟨Nat.le_of_ble_eq_true rfl, Nat.le_of_ble_eq_true rfl⟩) hK hP hD hS hA [16, 17, 3, 4] [0, 1, 2, 5, 6, 7, 8, 9, 10, 11, 12, 13, 14, 15] [0, 1, 2, 16, 17, 3, 4, 5, 6, 7, 8, 9, 10, 11, 12, 13, 14, 15] 16 rfl rfl rfl rfl rfl ⟨rfl, rfl⟩ (by decide) rfl rfl rfl hl.1 rfl (st1 := []) rfl rfl ⟨Nat.zero_le _, Nat.zero_le _⟩ dX6_image_21 (fun H locs hP hD hS => ?_)
      refine lv_aload_n hx hb dX6_image_24 rfl (lv_at hl 0 rfl) ?_
      refine va_get (D := D) (cl := vwCl) (ci := 5) (v := .ref (cd 2)) (C := RX6) (T := TX6) (N := 7) hx hb hts inX6 hown hK.1 hP 0 rfl rfl 6 (by decide) hw3 (fun _ h => h) rfl dX6_image_25 ?_
      refine lv_iload_n hx hb dX6_image_28 rfl (lv_at hl 1 rfl) ?_
      refine lv_iconst (v := (1 : Int32)) hx hb dX6_image_29 (by decide) ?_
      refine kZast (W1 := xW cd ct (rw2 L 16 q21.1) (u2 (rw2 (rw2 I 16 q21.2.1) 17 q21.2.2) 2 ((Int32.toNatClampNeg x1)) (1 : Int32))) hx hb hK hP hD hS 2 rfl (Or.inr rfl) (by first | assumption | exact vin (by omega) (by omega) | omega) rfl dX6_image_30 (fun H locs hP hD hS => ?_)
      refine lv_iconst (v := (1 : Int32)) hx hb dX6_image_31 (by decide) ?_
      exact kRetI hx hb hr hlk hP hD hS (kfst hf) ((congrArg (fun q => xW cd ct q.2.1 q.2.2) hf).symm) hQ dX6_image_32
  · have hf := kIt hf c_1
    have t_1 := ti_eq c_1
    refine lv_bipush (v := (-2 : Int32)) hx hb dX6_image_8 (by decide) ?_
    exact kRetI hx hb hr hlk hP hD hS (kfst hf) ((congrArg (fun q => xW cd ct q.2.1 q.2.2) hf).symm) hQ dX6_image_10
theorem kyX6_restore : kY yX6_restore cX6_restore 2 (some .int) wsX6_restore wsX6_restore.tail 1 := ⟨rfl, by decide, by decide, by decide +kernel⟩
set_option maxHeartbeats 4000000 in
set_option maxRecDepth 100000 in
theorem k_X6_restore (l : Launch) (D : va_G) (ct : ClassId × ClassId × ClassId) (z : Nat × Nat) (cd : Nat → Nat) (x1 : Int32) (L : Nat → Nat → Int64) (I : Nat → Nat → Int32)  : kC l D ct z yX6_restore wsX6_restore 1 22 [.ref (cd 0), .int x1] (xW cd ct L I) (some (.int ((f_X6_restore x1 L I).1))) (xW cd ct ((f_X6_restore x1 L I).2.1) ((f_X6_restore x1 L I).2.2)) := by
  refine kHead (cc := cX6_restore) (maxL := 2) (ret := (some .int)) [(0, .ref (cd 0)), (1, .int x1)] (by decide) rfl (Nat.le_of_ble_eq_true rfl) rfl ?_
  intro p e s m args below meth c A ls R Q hRf hRl hQ hx hb hr hlk hml hown hts hA hS hK hP hD hl
  have inX6 : ∀ w ∈ wsX60, w ∈ wsX6_restore := fun w h => (List.mem_cons_of_mem _ (List.mem_append_left _ (List.mem_append_right _ h)))
  have hw1 := hts (Cond.fieldLink RX6 48 "MastPulpits" "kept" "[Z") (List.mem_of_getElem? (i := 1) (by decide +kernel))
  have hw2 := hts (Cond.fieldLink RX6 10 "MastPulpits" "sea" "LMastPulpits$Sea;") (List.mem_of_getElem? (i := 2) (by decide +kernel))
  have hw3 := hts (Cond.fieldLink RX6 44 "MastPulpits" "images" "[LMastPulpits$Sea;") (List.mem_of_getElem? (i := 3) (by decide +kernel))
  have kcm3 : (-3 : Int32).toInt = -3 := by decide
  have kcm2 : (-2 : Int32).toInt = -2 := by decide
  have kc0 : (0 : Int32).toInt = 0 := by decide
  have kc1 : (1 : Int32).toInt = 1 := by decide
  have hf : f_X6_restore x1 L I = f_X6_restore x1 L I := rfl
  refine lv_aload_n hx hb dX6_restore_0 rfl (lv_at hl 0 rfl) ?_
  refine lv_iload_n hx hb dX6_restore_1 rfl (lv_at hl 1 rfl) ?_
  have hM : kC l D ct z yX6_isImage wsX6_isImage 0 0 [.ref (cd 0), .int x1] (xW cd ct L I) (some (.int (f_X6_isImage x1 L I))) (xW cd ct L I) := k_X6_isImage l D ct z cd x1 L I
  refine kV1 (As := [.int x1]) (rest := []) ⟨hx, hb, hml, hown, hts⟩ hM gX6_restore_X6_isImage kyX6_isImage (by rw [hRf, hRl]; exact ⟨Nat.le_of_ble_eq_true rfl, Nat.le_of_ble_eq_true rfl⟩) hK hP hD hS hA 0 rfl rfl rfl rfl hl.1 rfl (st1 := [.int (f_X6_isImage x1 L I)]) rfl rfl ⟨Nat.zero_le _, Nat.zero_le _⟩ dX6_restore_2 (fun H locs hP hD hS => ?_)
  refine lv_if_ne (tgt := 11) hx hb dX6_restore_5 (by decide) (fun c_1 => ?_) (fun c_1 => ?_)
  · have hf := kIf hf c_1
    have t_1 := ti_ne c_1; have w_1 := isImage_nz c_1
    refine lv_aload_n hx hb dX6_restore_11 rfl (lv_at hl 0 rfl) ?_
    refine va_get (D := D) (cl := vwCl) (ci := 5) (v := .ref (cd 2)) (C := RX6) (T := TX6) (N := 7) hx hb hts inX6 hown hK.1 hP 0 rfl rfl 6 (by decide) hw1 (fun _ h => h) rfl dX6_restore_12 ?_
    refine lv_iload_n hx hb dX6_restore_15 rfl (lv_at hl 1 rfl) ?_
    refine va_zald hx hb hK.1 hP 2 1 rfl rfl (by first | assumption | exact vin (by omega) (by omega) | omega) dX6_restore_16 ?_
    refine lv_if_ne (tgt := 23) hx hb dX6_restore_17 (by decide) (fun c_2 => ?_) (fun c_2 => ?_)
    · have hf := kIf hf c_2
      have t_2 := ti_ne c_2
      refine lv_aload_n hx hb dX6_restore_23 rfl (lv_at hl 0 rfl) ?_
      refine va_get (D := D) (cl := vwCl) (ci := 5) (v := .ref (cd 3)) (C := RX6) (T := TX6) (N := 7) hx hb hts inX6 hown hK.1 hP 0 rfl rfl 0 (by decide) hw2 (fun _ h => h) rfl dX6_restore_24 ?_
      refine lv_aload_n hx hb dX6_restore_27 rfl (lv_at hl 0 rfl) ?_
      refine va_get (D := D) (cl := vwCl) (ci := 5) (v := .ref (cd 1)) (C := RX6) (T := TX6) (N := 7) hx hb hts inX6 hown hK.1 hP 0 rfl rfl 5 (by decide) hw3 (fun _ h => h) rfl dX6_restore_28 ?_
      refine lv_iload_n hx hb dX6_restore_31 rfl (lv_at hl 1 rfl) ?_
      refine (Classical.em (x1 = (0 : Int32))).elim (fun c_3 => ?_) (fun c_3 => ?_)
      · have hf := kIt hf c_3
        refine kAld (v := .ref (cd 14)) hx hb hK hP 1 rfl (by first | assumption | exact vin (by omega) (by omega) | omega) (im_0 c_3) dX6_restore_32 ?_
        obtain ⟨q33, eq33⟩ : ∃ y, y = f_X4_takeOver (L 3) (I 3) (I 4) (L 14) (I 14) (I 15) := ⟨_, rfl⟩
        have hf := kLt hf eq33
        have hM : kC l D ct z yX4_takeOver wsX4_takeOver 0 0 [.ref (cd 3), .ref (cd 14)] (seW2 (cd 3) (cd 4) (cd 14) (cd 15) ct (L 3) (I 3) (I 4) (L 14) (I 14) (I 15)) (none) (seW2 (cd 3) (cd 4) (cd 14) (cd 15) ct q33.1 q33.2.1 q33.2.2 (L 14) (I 14) (I 15)) := by rw [eq33]; exact k_X4_takeOver l D ct z (cd 3) (cd 4) (cd 14) (cd 15) (L 3) (I 3) (I 4) (L 14) (I 14) (I 15)
        refine kV (As := [.ref (cd 14)]) (rest := []) (W1 := xW cd ct (rw2 L 3 q33.1) (rw2 (rw2 I 3 q33.2.1) 4 q33.2.2)) ⟨hx, hb, hml, hown, hts⟩ hM gX6_restore_X4_takeOver kyX4_takeOver (by rw [hRf, hRl]; exact ⟨Nat.le_of_ble_eq_true rfl, Nat.le_of_ble_eq_true rfl⟩) hK hP hD hS hA [3, 4, 14, 15] [0, 1, 2, 5, 6, 7, 8, 9, 10, 11, 12, 13, 16, 17] [0, 1, 2, 14, 15, 3, 4, 5, 6, 7, 8, 9, 10, 11, 16, 17, 12, 13] 3 rfl rfl rfl rfl rfl ⟨rfl, rfl⟩ (by decide) rfl rfl rfl hl.1 rfl (st1 := []) rfl rfl ⟨Nat.zero_le _, Nat.zero_le _⟩ dX6_restore_33 (fun H locs hP hD hS => ?_)
        refine lv_iconst (v := (1 : Int32)) hx hb dX6_restore_36 (by decide) ?_
        exact kRetI hx hb hr hlk hP hD hS (kfst hf) ((congrArg (fun q => xW cd ct q.2.1 q.2.2) hf).symm) hQ dX6_restore_37
      · have hf := kIf hf c_3
        refine kAld (v := .ref (cd 16)) hx hb hK hP 1 rfl (by first | assumption | exact vin (by omega) (by omega) | omega) (im_1 (by first | assumption | exact vin (by omega) (by omega) | omega) c_3) dX6_restore_32 ?_
        obtain ⟨q33, eq33⟩ : ∃ y, y = f_X4_takeOver (L 3) (I 3) (I 4) (L 16) (I 16) (I 17) := ⟨_, rfl⟩
        have hf := kLt hf eq33
        have hM : kC l D ct z yX4_takeOver wsX4_takeOver 0 0 [.ref (cd 3), .ref (cd 16)] (seW2 (cd 3) (cd 4) (cd 16) (cd 17) ct (L 3) (I 3) (I 4) (L 16) (I 16) (I 17)) (none) (seW2 (cd 3) (cd 4) (cd 16) (cd 17) ct q33.1 q33.2.1 q33.2.2 (L 16) (I 16) (I 17)) := by rw [eq33]; exact k_X4_takeOver l D ct z (cd 3) (cd 4) (cd 16) (cd 17) (L 3) (I 3) (I 4) (L 16) (I 16) (I 17)
        refine kV (As := [.ref (cd 16)]) (rest := []) (W1 := xW cd ct (rw2 L 3 q33.1) (rw2 (rw2 I 3 q33.2.1) 4 q33.2.2)) ⟨hx, hb, hml, hown, hts⟩ hM gX6_restore_X4_takeOver kyX4_takeOver (by rw [hRf, hRl]; exact ⟨Nat.le_of_ble_eq_true rfl, Nat.le_of_ble_eq_true rfl⟩) hK hP hD hS hA [3, 4, 16, 17] [0, 1, 2, 5, 6, 7, 8, 9, 10, 11, 12, 13, 14, 15] [0, 1, 2, 14, 15, 3, 4, 5, 6, 7, 8, 9, 10, 11, 12, 13, 16, 17] 3 rfl rfl rfl rfl rfl ⟨rfl, rfl⟩ (by decide) rfl rfl rfl hl.1 rfl (st1 := []) rfl rfl ⟨Nat.zero_le _, Nat.zero_le _⟩ dX6_restore_33 (fun H locs hP hD hS => ?_)
        refine lv_iconst (v := (1 : Int32)) hx hb dX6_restore_36 (by decide) ?_
        exact kRetI hx hb hr hlk hP hD hS (kfst hf) ((congrArg (fun q => xW cd ct q.2.1 q.2.2) hf).symm) hQ dX6_restore_37
    · have hf := kIt hf c_2
      have t_2 := ti_eq c_2
      refine lv_bipush (v := (-3 : Int32)) hx hb dX6_restore_20 (by decide) ?_
      exact kRetI hx hb hr hlk hP hD hS (kfst hf) ((congrArg (fun q => xW cd ct q.2.1 q.2.2) hf).symm) hQ dX6_restore_22
  · have hf := kIt hf c_1
    have t_1 := ti_eq c_1
    refine lv_bipush (v := (-2 : Int32)) hx hb dX6_restore_8 (by decide) ?_
    exact kRetI hx hb hr hlk hP hD hS (kfst hf) ((congrArg (fun q => xW cd ct q.2.1 q.2.2) hf).symm) hQ dX6_restore_10
theorem kyX6_told : kY yX6_told cX6_told 2 (some .int) wsX6_told wsX6_told.tail 1 := ⟨rfl, by decide, by decide, by decide +kernel⟩
set_option maxHeartbeats 4000000 in
set_option maxRecDepth 100000 in
theorem k_X6_told (l : Launch) (D : va_G) (ct : ClassId × ClassId × ClassId) (z : Nat × Nat) (cd : Nat → Nat) (x1 : Int32) (L : Nat → Nat → Int64) (I : Nat → Nat → Int32)  : kC l D ct z yX6_told wsX6_told 2 43 [.ref (cd 0), .int x1] (xW cd ct L I) (some (.int (f_X6_told x1 L I))) (xW cd ct L I) := by
  refine kHead (cc := cX6_told) (maxL := 2) (ret := (some .int)) [(0, .ref (cd 0)), (1, .int x1)] (by decide) rfl (Nat.le_of_ble_eq_true rfl) rfl ?_
  intro p e s m args below meth c A ls R Q hRf hRl hQ hx hb hr hlk hml hown hts hA hS hK hP hD hl
  have inX2 : ∀ w ∈ wsX20, w ∈ wsX6_told := fun w h => (List.mem_cons_of_mem _ (List.mem_append_left _ (List.mem_append_right _ h)))
  have inX4 : ∀ w ∈ wsX40, w ∈ wsX6_told := fun w h => (List.mem_cons_of_mem _ (List.mem_append_right _ h))
  have inX6 : ∀ w ∈ wsX60, w ∈ wsX6_told := fun w h => (List.mem_cons_of_mem _ (List.mem_append_left _ (List.mem_append_left _ (List.mem_append_right _ h))))
  have hw1 := hts (Cond.fieldLink RX6 10 "MastPulpits" "sea" "LMastPulpits$Sea;") (List.mem_of_getElem? (i := 1) (by decide +kernel))
  have hw2 := hts (Cond.fieldLink RX6 19 "MastPulpits" "pad" "LMastPulpits$Pad;") (List.mem_of_getElem? (i := 2) (by decide +kernel))
  have hw3 := hts (Cond.fieldLink RX6 105 "MastPulpits$Pad" "length" "I") (List.mem_of_getElem? (i := 3) (by decide +kernel))
  have hw4 := hts (Cond.fieldLink RX6 70 "MastPulpits$Sea" "lands" "J") (List.mem_of_getElem? (i := 4) (by decide +kernel))
  have hw5 := hts (Cond.fieldLink RX6 182 "MastPulpits$Sea" "sights" "I") (List.mem_of_getElem? (i := 5) (by decide +kernel))
  have kcm2 : (-2 : Int32).toInt = -2 := by decide
  have kc0 : (0 : Int32).toInt = 0 := by decide
  have kc1 : (1 : Int32).toInt = 1 := by decide
  have kc2 : (2 : Int32).toInt = 2 := by decide
  have kc7 : (7 : Int32).toInt = 7 := by decide
  have kc10 : (10 : Int32).toInt = 10 := by decide
  have kc100 : (100 : Int32).toInt = 100 := by decide
  have hf : f_X6_told x1 L I = f_X6_told x1 L I := rfl
  refine lv_iload_n hx hb dX6_told_0 rfl (lv_at hl 1 rfl) ?_
  refine lv_iconst (v := (2 : Int32)) hx hb dX6_told_1 (by decide) ?_
  refine lv_bipush (v := (7 : Int32)) hx hb dX6_told_2 (by decide) ?_
  have hM : kC l D ct z yX6_within wsX6_within 0 0 [.int x1, .int (2 : Int32), .int (7 : Int32)] ([]) (some (.int (f_X6_within x1 (2 : Int32) (7 : Int32)))) ([]) := k_X6_within l D ct z x1 (2 : Int32) (7 : Int32)
  refine kS0 (As := [.int x1, .int (2 : Int32), .int (7 : Int32)]) (rest := []) ⟨hx, hb, hml, hown, hts⟩ hM gX6_told_X6_within kyX6_within (by rw [hRf, hRl]; exact ⟨Nat.le_of_ble_eq_true rfl, Nat.le_of_ble_eq_true rfl⟩) hK hP hD hS hA rfl hl.1 rfl (st1 := [.int (f_X6_within x1 (2 : Int32) (7 : Int32))]) rfl rfl ⟨Nat.zero_le _, Nat.zero_le _⟩ dX6_told_4 (fun H locs hP hD hS => ?_)
  refine lv_if_eq (tgt := 21) hx hb dX6_told_7 (by decide) (fun c_1 => ?_) (fun c_1 => ?_)
  · have hf := kIt hf c_1
    have t_1 := ti_eq c_1
    refine lv_aload_n hx hb dX6_told_21 rfl (lv_at hl 0 rfl) ?_
    refine va_get (D := D) (cl := vwCl) (ci := 5) (v := .ref (cd 3)) (C := RX6) (T := TX6) (N := 7) hx hb hts inX6 hown hK.1 hP 0 rfl rfl 0 (by decide) hw1 (fun _ h => h) rfl dX6_told_22 ?_
    refine lv_iload_n hx hb dX6_told_25 rfl (lv_at hl 1 rfl) ?_
    refine lv_bipush (v := (10 : Int32)) hx hb dX6_told_26 (by decide) ?_
    refine lv_isub hx hb dX6_told_28 ?_
    have hM : kC l D ct z yX4_isWatcher wsX4_isWatcher 0 0 [.ref (cd 3), .int (x1 - (10 : Int32))] (seW (cd 3) (cd 4) ct (L 3) (I 3) (I 4)) (some (.int (f_X4_isWatcher (x1 - (10 : Int32)) (L 3) (I 3) (I 4)))) (seW (cd 3) (cd 4) ct (L 3) (I 3) (I 4)) := k_X4_isWatcher l D ct z (cd 3) (cd 4) (x1 - (10 : Int32)) (L 3) (I 3) (I 4)
    refine kV (As := [.int (x1 - (10 : Int32))]) (rest := []) (W1 := xW cd ct L I) ⟨hx, hb, hml, hown, hts⟩ hM gX6_told_X4_isWatcher kyX4_isWatcher (by rw [hRf, hRl]; exact ⟨Nat.le_of_ble_eq_true rfl, Nat.le_of_ble_eq_true rfl⟩) hK hP hD hS hA [3, 4] [0, 1, 2, 5, 6, 7, 8, 9, 10, 11, 12, 13, 14, 15, 16, 17] [0, 1, 2, 16, 17, 3, 4, 5, 6, 7, 8, 9, 10, 11, 12, 13, 14, 15] 3 rfl rfl rfl rfl rfl ⟨rfl, rfl⟩ (by decide) rfl rfl rfl hl.1 rfl (st1 := [.int (f_X4_isWatcher (x1 - (10 : Int32)) (L 3) (I 3) (I 4))]) rfl rfl ⟨Nat.zero_le _, Nat.zero_le _⟩ dX6_told_29 (fun H locs hP hD hS => ?_)
    refine lv_if_eq (tgt := 47) hx hb dX6_told_32 (by decide) (fun c_2 => ?_) (fun c_2 => ?_)
    · have hf := kIt hf c_2
      have t_2 := ti_eq c_2
      refine lv_iload_n hx hb dX6_told_47 rfl (lv_at hl 1 rfl) ?_
      refine lv_bipush (v := (100 : Int32)) hx hb dX6_told_48 (by decide) ?_
      refine lv_isub hx hb dX6_told_50 ?_
      have hM : kC l D ct z yX0_isCell wsX0_isCell 0 0 [.int (x1 - (100 : Int32))] ([]) (some (.int (f_X0_isCell (x1 - (100 : Int32))))) ([]) := k_X0_isCell l D ct z (x1 - (100 : Int32))
      refine kS0 (As := [.int (x1 - (100 : Int32))]) (rest := []) ⟨hx, hb, hml, hown, hts⟩ hM gX6_told_X0_isCell kyX0_isCell (by rw [hRf, hRl]; exact ⟨Nat.le_of_ble_eq_true rfl, Nat.le_of_ble_eq_true rfl⟩) hK hP hD hS hA rfl hl.1 rfl (st1 := [.int (f_X0_isCell (x1 - (100 : Int32)))]) rfl rfl ⟨Nat.zero_le _, Nat.zero_le _⟩ dX6_told_51 (fun H locs hP hD hS => ?_)
      refine lv_if_eq (tgt := 77) hx hb dX6_told_54 (by decide) (fun c_3 => ?_) (fun c_3 => ?_)
      · have hf := kIt hf c_3
        have t_3 := ti_eq c_3
        refine lv_iload_n hx hb dX6_told_77 rfl (lv_at hl 1 rfl) ?_
        have kv_4 : (0 : Int32).toInt = 0 := by decide
        refine (Classical.em (x1 = (0 : Int32))).elim (fun c_4 => ?_) (fun c_4 => ?_)
        · have hf := kIt hf c_4
          have t_4 := ti_eq c_4
          refine lv_lookup (off := 34) (tgt := 112) hx hb dX6_told_78 (by decide) (by rw [c_4]; decide) (by decide) ?_
          refine lv_aload_n hx hb dX6_told_112 rfl (lv_at hl 0 rfl) ?_
          refine va_get (D := D) (cl := vwCl) (ci := 5) (v := .ref (cd 5)) (C := RX6) (T := TX6) (N := 7) hx hb hts inX6 hown hK.1 hP 0 rfl rfl 1 (by decide) hw2 (fun _ h => h) rfl dX6_told_113 ?_
          refine va_get (D := D) (cl := vwCl) (ci := 1) (v := .int (I 5 1)) (C := RX2) (T := TX2) (N := 2) hx hb hts inX2 hown hK.1 hP 5 rfl rfl 1 (by decide) hw3 (fun _ h => h) rfl dX6_told_116 ?_
          exact kRetI hx hb hr hlk hP hD hS hf.symm rfl hQ dX6_told_119
        · have hf := kIf hf c_4
          have t_4 := ti_ne c_4
          have kv_5 : (1 : Int32).toInt = 1 := by decide
          refine (Classical.em (x1 = (1 : Int32))).elim (fun c_5 => ?_) (fun c_5 => ?_)
          · have hf := kIt hf c_5
            have t_5 := ti_eq c_5
            refine lv_lookup (off := 42) (tgt := 120) hx hb dX6_told_78 (by decide) (by rw [c_5]; decide) (by decide) ?_
            refine lv_aload_n hx hb dX6_told_120 rfl (lv_at hl 0 rfl) ?_
            refine va_get (D := D) (cl := vwCl) (ci := 5) (v := .ref (cd 3)) (C := RX6) (T := TX6) (N := 7) hx hb hts inX6 hown hK.1 hP 0 rfl rfl 0 (by decide) hw1 (fun _ h => h) rfl dX6_told_121 ?_
            refine va_get (D := D) (cl := vwCl) (ci := 3) (v := .long (L 3 0)) (C := RX4) (T := TX4) (N := 10) hx hb hts inX4 hown hK.1 hP 3 rfl rfl 0 (by decide) hw4 (fun _ h => h) rfl dX6_told_124 ?_
            have hM : kC l D ct z yJ13_bitCount_95d88 wsJ13_bitCount_95d88 0 0 [.long (L 3 0)] ([]) (some (.int (f_J13_bitCount_95d88 (L 3 0)))) ([]) := k_J13_bitCount_95d88 l D ct z (L 3 0)
            refine kS0 (As := [.long (L 3 0)]) (rest := []) ⟨hx, hb, hml, hown, hts⟩ hM gX6_told_J13_bitCount_95d88 kyJ13_bitCount_95d88 (by rw [hRf, hRl]; exact ⟨Nat.le_of_ble_eq_true rfl, Nat.le_of_ble_eq_true rfl⟩) hK hP hD hS hA rfl hl.1 rfl (st1 := [.int (f_J13_bitCount_95d88 (L 3 0))]) rfl rfl ⟨Nat.zero_le _, Nat.zero_le _⟩ dX6_told_127 (fun H locs hP hD hS => ?_)
            exact kRetI hx hb hr hlk hP hD hS hf.symm rfl hQ dX6_told_130
          · have hf := kIf hf c_5
            have t_5 := ti_ne c_5
            have kv_6 : (8 : Int32).toInt = 8 := by decide
            refine (Classical.em (x1 = (8 : Int32))).elim (fun c_6 => ?_) (fun c_6 => ?_)
            · have hf := kIt hf c_6
              have t_6 := ti_eq c_6
              refine lv_lookup (off := 53) (tgt := 131) hx hb dX6_told_78 (by decide) (by rw [c_6]; decide) (by decide) ?_
              refine lv_aload_n hx hb dX6_told_131 rfl (lv_at hl 0 rfl) ?_
              refine va_get (D := D) (cl := vwCl) (ci := 5) (v := .ref (cd 3)) (C := RX6) (T := TX6) (N := 7) hx hb hts inX6 hown hK.1 hP 0 rfl rfl 0 (by decide) hw1 (fun _ h => h) rfl dX6_told_132 ?_
              refine va_get (D := D) (cl := vwCl) (ci := 3) (v := .int (I 3 7)) (C := RX4) (T := TX4) (N := 10) hx hb hts inX4 hown hK.1 hP 3 rfl rfl 7 (by decide) hw5 (fun _ h => h) rfl dX6_told_135 ?_
              exact kRetI hx hb hr hlk hP hD hS hf.symm rfl hQ dX6_told_138
            · have hf := kIf hf c_6
              have t_6 := ti_ne c_6
              refine lv_lookup (off := 61) (tgt := 139) hx hb dX6_told_78 (by decide) (by show Op.lookupswitch.offset [(0, 34), (1, 42), (8, 53)] _ _ = _; rw [lv_osw c_4 (by decide), lv_osw c_5 (by decide), lv_osw c_6 (by decide)]; rfl) (by decide) ?_
              refine lv_bipush (v := (-2 : Int32)) hx hb dX6_told_139 (by decide) ?_
              exact kRetI hx hb hr hlk hP hD hS hf.symm rfl hQ dX6_told_141
      · have hf := kIf hf c_3
        have t_3 := ti_ne c_3
        refine lv_aload_n hx hb dX6_told_57 rfl (lv_at hl 0 rfl) ?_
        refine va_get (D := D) (cl := vwCl) (ci := 5) (v := .ref (cd 3)) (C := RX6) (T := TX6) (N := 7) hx hb hts inX6 hown hK.1 hP 0 rfl rfl 0 (by decide) hw1 (fun _ h => h) rfl dX6_told_58 ?_
        refine lv_iload_n hx hb dX6_told_61 rfl (lv_at hl 1 rfl) ?_
        refine lv_bipush (v := (100 : Int32)) hx hb dX6_told_62 (by decide) ?_
        refine lv_isub hx hb dX6_told_64 ?_
        have hM : kC l D ct z yX4_isLand wsX4_isLand 1 22 [.ref (cd 3), .int (x1 - (100 : Int32))] (seW (cd 3) (cd 4) ct (L 3) (I 3) (I 4)) (some (.int (f_X4_isLand (x1 - (100 : Int32)) (L 3) (I 3) (I 4)))) (seW (cd 3) (cd 4) ct (L 3) (I 3) (I 4)) := k_X4_isLand l D ct z (cd 3) (cd 4) (x1 - (100 : Int32)) (L 3) (I 3) (I 4)
        refine kV (As := [.int (x1 - (100 : Int32))]) (rest := []) (W1 := xW cd ct L I) ⟨hx, hb, hml, hown, hts⟩ hM gX6_told_X4_isLand kyX4_isLand (by rw [hRf, hRl]; exact ⟨Nat.le_of_ble_eq_true rfl, Nat.le_of_ble_eq_true rfl⟩) hK hP hD hS hA [3, 4] [0, 1, 2, 5, 6, 7, 8, 9, 10, 11, 12, 13, 14, 15, 16, 17] [0, 1, 2, 16, 17, 3, 4, 5, 6, 7, 8, 9, 10, 11, 12, 13, 14, 15] 3 rfl rfl rfl rfl rfl ⟨rfl, rfl⟩ (by decide) rfl rfl rfl hl.1 rfl (st1 := [.int (f_X4_isLand (x1 - (100 : Int32)) (L 3) (I 3) (I 4))]) rfl rfl ⟨Nat.zero_le _, Nat.zero_le _⟩ dX6_told_65 (fun H locs hP hD hS => ?_)
        refine lv_if_eq (tgt := 75) hx hb dX6_told_68 (by decide) (fun c_7 => ?_) (fun c_7 => ?_)
        · have hf := kIt hf c_7
          have t_7 := ti_eq c_7
          refine lv_iconst (v := (0 : Int32)) hx hb dX6_told_75 (by decide) ?_
          exact kRetI hx hb hr hlk hP hD hS hf.symm rfl hQ dX6_told_76
        · have hf := kIf hf c_7
          have t_7 := ti_ne c_7
          refine lv_iconst (v := (1 : Int32)) hx hb dX6_told_71 (by decide) ?_
          refine lv_goto (tgt := 76) hx hb dX6_told_72 (by decide) ?_
          exact kRetI hx hb hr hlk hP hD hS hf.symm rfl hQ dX6_told_76
    · have hf := kIf hf c_2
      have t_2 := ti_ne c_2
      refine lv_aload_n hx hb dX6_told_35 rfl (lv_at hl 0 rfl) ?_
      refine va_get (D := D) (cl := vwCl) (ci := 5) (v := .ref (cd 3)) (C := RX6) (T := TX6) (N := 7) hx hb hts inX6 hown hK.1 hP 0 rfl rfl 0 (by decide) hw1 (fun _ h => h) rfl dX6_told_36 ?_
      refine lv_iload_n hx hb dX6_told_39 rfl (lv_at hl 1 rfl) ?_
      refine lv_bipush (v := (10 : Int32)) hx hb dX6_told_40 (by decide) ?_
      refine lv_isub hx hb dX6_told_42 ?_
      have hM : kC l D ct z yX4_eyesOf wsX4_eyesOf 0 0 [.ref (cd 3), .int (x1 - (10 : Int32))] (seW (cd 3) (cd 4) ct (L 3) (I 3) (I 4)) (some (.int (f_X4_eyesOf (x1 - (10 : Int32)) (L 3) (I 3) (I 4)))) (seW (cd 3) (cd 4) ct (L 3) (I 3) (I 4)) := k_X4_eyesOf l D ct z (cd 3) (cd 4) (x1 - (10 : Int32)) (L 3) (I 3) (I 4)
      refine kV (As := [.int (x1 - (10 : Int32))]) (rest := []) (W1 := xW cd ct L I) ⟨hx, hb, hml, hown, hts⟩ hM gX6_told_X4_eyesOf kyX4_eyesOf (by rw [hRf, hRl]; exact ⟨Nat.le_of_ble_eq_true rfl, Nat.le_of_ble_eq_true rfl⟩) hK hP hD hS hA [3, 4] [0, 1, 2, 5, 6, 7, 8, 9, 10, 11, 12, 13, 14, 15, 16, 17] [0, 1, 2, 16, 17, 3, 4, 5, 6, 7, 8, 9, 10, 11, 12, 13, 14, 15] 3 rfl rfl rfl rfl rfl ⟨rfl, rfl⟩ (by decide) rfl rfl rfl hl.1 rfl (st1 := [.int (f_X4_eyesOf (x1 - (10 : Int32)) (L 3) (I 3) (I 4))]) rfl rfl ⟨Nat.zero_le _, Nat.zero_le _⟩ dX6_told_43 (fun H locs hP hD hS => ?_)
      exact kRetI hx hb hr hlk hP hD hS hf.symm rfl hQ dX6_told_46
  · have hf := kIf hf c_1
    have t_1 := ti_ne c_1; have w_1 := within_nz c_1
    refine lv_aload_n hx hb dX6_told_10 rfl (lv_at hl 0 rfl) ?_
    refine va_get (D := D) (cl := vwCl) (ci := 5) (v := .ref (cd 3)) (C := RX6) (T := TX6) (N := 7) hx hb hts inX6 hown hK.1 hP 0 rfl rfl 0 (by decide) hw1 (fun _ h => h) rfl dX6_told_11 ?_
    refine lv_iload_n hx hb dX6_told_14 rfl (lv_at hl 1 rfl) ?_
    refine lv_iconst (v := (2 : Int32)) hx hb dX6_told_15 (by decide) ?_
    refine lv_isub hx hb dX6_told_16 ?_
    have hM : kC l D ct z yX6_shipAndWatch wsX6_shipAndWatch 0 0 [.ref (cd 3), .int (x1 - (2 : Int32))] (seW (cd 3) (cd 4) ct (L 3) (I 3) (I 4)) (some (.int (f_X6_shipAndWatch (x1 - (2 : Int32)) (L 3) (I 3) (I 4)))) (seW (cd 3) (cd 4) ct (L 3) (I 3) (I 4)) := k_X6_shipAndWatch l D ct z (cd 3) (cd 4) (x1 - (2 : Int32)) (L 3) (I 3) (I 4)
    refine kSw (As := [.ref (cd 3), .int (x1 - (2 : Int32))]) (rest := []) (W1 := xW cd ct L I) ⟨hx, hb, hml, hown, hts⟩ hM gX6_told_X6_shipAndWatch kyX6_shipAndWatch (by rw [hRf, hRl]; exact ⟨Nat.le_of_ble_eq_true rfl, Nat.le_of_ble_eq_true rfl⟩) hK hP hD hS hA [3, 4] [0, 1, 2, 5, 6, 7, 8, 9, 10, 11, 12, 13, 14, 15, 16, 17] [0, 1, 2, 16, 17, 3, 4, 5, 6, 7, 8, 9, 10, 11, 12, 13, 14, 15] rfl rfl ⟨rfl, rfl⟩ (by decide) rfl rfl rfl hl.1 rfl (st1 := [.int (f_X6_shipAndWatch (x1 - (2 : Int32)) (L 3) (I 3) (I 4))]) rfl rfl ⟨Nat.zero_le _, Nat.zero_le _⟩ dX6_told_17 (fun H locs hP hD hS => ?_)
    exact kRetI hx hb hr hlk hP hD hS hf.symm rfl hQ dX6_told_20
