/-! contracts, laid by program (wip/whole/gen.py, ann.py) -/
theorem kyX0_isCell : kY yX0_isCell cX0_isCell 1 (some .boolean) wsX0_isCell wsX0_isCell.tail 1 := ⟨rfl, by decide, by decide, by decide +kernel⟩
set_option maxHeartbeats 4000000 in
set_option maxRecDepth 100000 in
theorem k_X0_isCell (l : Launch) (D : va_G) (ct : ClassId × ClassId × ClassId) (z : Nat × Nat)  (x0 : Int32)  : kC l D ct z yX0_isCell wsX0_isCell 0 0 [.int x0] ([]) (some (.int (f_X0_isCell x0))) ([]) := by
  refine kHead (cc := cX0_isCell) (maxL := 1) (ret := (some .boolean)) [(0, .int x0)] (by decide) rfl (Nat.le_of_ble_eq_true rfl) rfl ?_
  intro p e s m args below meth c A ls R Q hRf hRl hQ hx hb hr hlk hml hown hts hA hS hK hP hD hl
  have kc0 : (0 : Int32).toInt = 0 := by decide
  have kc1 : (1 : Int32).toInt = 1 := by decide
  have kc64 : (64 : Int32).toInt = 64 := by decide
  have hf : f_X0_isCell x0 = f_X0_isCell x0 := rfl
  refine lv_iload_n hx hb dX0_isCell_0 rfl (lv_at hl 0 rfl) ?_
  refine lv_if_lt (tgt := 14) hx hb dX0_isCell_1 (by decide) (fun c_1 => ?_) (fun c_1 => ?_)
  · have hf := kIt hf c_1
    have t_1 := ti_lt c_1
    refine lv_iconst (v := (0 : Int32)) hx hb dX0_isCell_14 (by decide) ?_
    exact kRetZ hx hb hr hlk hP hD hS (Or.inl rfl) hf.symm rfl hQ dX0_isCell_15
  · have hf := kIf hf c_1
    have t_1 := ti_nlt c_1
    refine lv_iload_n hx hb dX0_isCell_4 rfl (lv_at hl 0 rfl) ?_
    refine lv_bipush (v := (64 : Int32)) hx hb dX0_isCell_5 (by decide) ?_
    refine lv_icmp_ge (tgt := 14) hx hb dX0_isCell_7 (by decide) (fun c_2 => ?_) (fun c_2 => ?_)
    · have hf := kIt hf c_2
      have t_2 := ti_le c_2
      refine lv_iconst (v := (0 : Int32)) hx hb dX0_isCell_14 (by decide) ?_
      exact kRetZ hx hb hr hlk hP hD hS (Or.inl rfl) hf.symm rfl hQ dX0_isCell_15
    · have hf := kIf hf c_2
      have t_2 := ti_nle c_2
      refine lv_iconst (v := (1 : Int32)) hx hb dX0_isCell_10 (by decide) ?_
      refine lv_goto (tgt := 15) hx hb dX0_isCell_11 (by decide) ?_
      exact kRetZ hx hb hr hlk hP hD hS (Or.inr rfl) hf.symm rfl hQ dX0_isCell_15
theorem kyX0_isWay : kY yX0_isWay cX0_isWay 1 (some .boolean) wsX0_isWay wsX0_isWay.tail 1 := ⟨rfl, by decide, by decide, by decide +kernel⟩
set_option maxHeartbeats 4000000 in
set_option maxRecDepth 100000 in
theorem k_X0_isWay (l : Launch) (D : va_G) (ct : ClassId × ClassId × ClassId) (z : Nat × Nat)  (x0 : Int32)  : kC l D ct z yX0_isWay wsX0_isWay 0 0 [.int x0] ([]) (some (.int (f_X0_isWay x0))) ([]) := by
  refine kHead (cc := cX0_isWay) (maxL := 1) (ret := (some .boolean)) [(0, .int x0)] (by decide) rfl (Nat.le_of_ble_eq_true rfl) rfl ?_
  intro p e s m args below meth c A ls R Q hRf hRl hQ hx hb hr hlk hml hown hts hA hS hK hP hD hl
  have kc0 : (0 : Int32).toInt = 0 := by decide
  have kc1 : (1 : Int32).toInt = 1 := by decide
  have kc8 : (8 : Int32).toInt = 8 := by decide
  have hf : f_X0_isWay x0 = f_X0_isWay x0 := rfl
  refine lv_iload_n hx hb dX0_isWay_0 rfl (lv_at hl 0 rfl) ?_
  refine lv_if_lt (tgt := 14) hx hb dX0_isWay_1 (by decide) (fun c_1 => ?_) (fun c_1 => ?_)
  · have hf := kIt hf c_1
    have t_1 := ti_lt c_1
    refine lv_iconst (v := (0 : Int32)) hx hb dX0_isWay_14 (by decide) ?_
    exact kRetZ hx hb hr hlk hP hD hS (Or.inl rfl) hf.symm rfl hQ dX0_isWay_15
  · have hf := kIf hf c_1
    have t_1 := ti_nlt c_1
    refine lv_iload_n hx hb dX0_isWay_4 rfl (lv_at hl 0 rfl) ?_
    refine lv_bipush (v := (8 : Int32)) hx hb dX0_isWay_5 (by decide) ?_
    refine lv_icmp_ge (tgt := 14) hx hb dX0_isWay_7 (by decide) (fun c_2 => ?_) (fun c_2 => ?_)
    · have hf := kIt hf c_2
      have t_2 := ti_le c_2
      refine lv_iconst (v := (0 : Int32)) hx hb dX0_isWay_14 (by decide) ?_
      exact kRetZ hx hb hr hlk hP hD hS (Or.inl rfl) hf.symm rfl hQ dX0_isWay_15
    · have hf := kIf hf c_2
      have t_2 := ti_nle c_2
      refine lv_iconst (v := (1 : Int32)) hx hb dX0_isWay_10 (by decide) ?_
      refine lv_goto (tgt := 15) hx hb dX0_isWay_11 (by decide) ?_
      exact kRetZ hx hb hr hlk hP hD hS (Or.inr rfl) hf.symm rfl hQ dX0_isWay_15
theorem kyX0_only : kY yX0_only cX0_only 1 (some .long) wsX0_only wsX0_only.tail 1 := ⟨rfl, by decide, by decide, by decide +kernel⟩
set_option maxHeartbeats 4000000 in
set_option maxRecDepth 100000 in
theorem k_X0_only (l : Launch) (D : va_G) (ct : ClassId × ClassId × ClassId) (z : Nat × Nat)  (x0 : Int32)  : kC l D ct z yX0_only wsX0_only 0 0 [.int x0] ([]) (some (.long (f_X0_only x0))) ([]) := by
  refine kHead (cc := cX0_only) (maxL := 1) (ret := (some .long)) [(0, .int x0)] (by decide) rfl (Nat.le_of_ble_eq_true rfl) rfl ?_
  intro p e s m args below meth c A ls R Q hRf hRl hQ hx hb hr hlk hml hown hts hA hS hK hP hD hl
  have kc0 : (0 : Int32).toInt = 0 := by decide
  have kc64 : (64 : Int32).toInt = 64 := by decide
  have kl0 : (0 : Int64).toInt = 0 := by decide
  have kl1 : (1 : Int64).toInt = 1 := by decide
  have hf : f_X0_only x0 = f_X0_only x0 := rfl
  refine lv_iload_n hx hb dX0_only_0 rfl (lv_at hl 0 rfl) ?_
  refine lv_if_lt (tgt := 16) hx hb dX0_only_1 (by decide) (fun c_1 => ?_) (fun c_1 => ?_)
  · have hf := kIt hf c_1
    have t_1 := ti_lt c_1
    refine lv_lconst (v := (0 : Int64)) hx hb dX0_only_16 (by decide) ?_
    exact kRetL hx hb hr hlk hP hD hS hf.symm rfl hQ dX0_only_17
  · have hf := kIf hf c_1
    have t_1 := ti_nlt c_1
    refine lv_iload_n hx hb dX0_only_4 rfl (lv_at hl 0 rfl) ?_
    refine lv_bipush (v := (64 : Int32)) hx hb dX0_only_5 (by decide) ?_
    refine lv_icmp_ge (tgt := 16) hx hb dX0_only_7 (by decide) (fun c_2 => ?_) (fun c_2 => ?_)
    · have hf := kIt hf c_2
      have t_2 := ti_le c_2
      refine lv_lconst (v := (0 : Int64)) hx hb dX0_only_16 (by decide) ?_
      exact kRetL hx hb hr hlk hP hD hS hf.symm rfl hQ dX0_only_17
    · have hf := kIf hf c_2
      have t_2 := ti_nle c_2
      refine lv_lconst (v := (1 : Int64)) hx hb dX0_only_10 (by decide) ?_
      refine lv_iload_n hx hb dX0_only_11 rfl (lv_at hl 0 rfl) ?_
      refine lv_lshl (v := (jshlL (1 : Int64) x0)) hx hb dX0_only_12 rfl ?_
      refine lv_goto (tgt := 17) hx hb dX0_only_13 (by decide) ?_
      exact kRetL hx hb hr hlk hP hD hS hf.symm rfl hQ dX0_only_17
theorem kyX0_holds : kY yX0_holds cX0_holds 3 (some .boolean) wsX0_holds wsX0_holds.tail 2 := ⟨rfl, by decide, by decide, by decide +kernel⟩
set_option maxHeartbeats 4000000 in
set_option maxRecDepth 100000 in
theorem k_X0_holds (l : Launch) (D : va_G) (ct : ClassId × ClassId × ClassId) (z : Nat × Nat)  (x0 : Int64) (x2 : Int32)  : kC l D ct z yX0_holds wsX0_holds 0 0 [.long x0, .int x2] ([]) (some (.int (f_X0_holds x0 x2))) ([]) := by
  refine kHead (cc := cX0_holds) (maxL := 3) (ret := (some .boolean)) [(0, .long x0), (2, .int x2)] (by decide) rfl (Nat.le_of_ble_eq_true rfl) rfl ?_
  intro p e s m args below meth c A ls R Q hRf hRl hQ hx hb hr hlk hml hown hts hA hS hK hP hD hl
  have kc0 : (0 : Int32).toInt = 0 := by decide
  have kc1 : (1 : Int32).toInt = 1 := by decide
  have kc64 : (64 : Int32).toInt = 64 := by decide
  have kl0 : (0 : Int64).toInt = 0 := by decide
  have kl1 : (1 : Int64).toInt = 1 := by decide
  have hf : f_X0_holds x0 x2 = f_X0_holds x0 x2 := rfl
  refine lv_iload_n hx hb dX0_holds_0 rfl (lv_at hl 1 rfl) ?_
  refine lv_if_lt (tgt := 24) hx hb dX0_holds_1 (by decide) (fun c_1 => ?_) (fun c_1 => ?_)
  · have hf := kIt hf c_1
    have t_1 := ti_lt c_1
    refine lv_iconst (v := (0 : Int32)) hx hb dX0_holds_24 (by decide) ?_
    exact kRetZ hx hb hr hlk hP hD hS (Or.inl rfl) hf.symm rfl hQ dX0_holds_25
  · have hf := kIf hf c_1
    have t_1 := ti_nlt c_1
    refine lv_iload_n hx hb dX0_holds_4 rfl (lv_at hl 1 rfl) ?_
    refine lv_bipush (v := (64 : Int32)) hx hb dX0_holds_5 (by decide) ?_
    refine lv_icmp_ge (tgt := 24) hx hb dX0_holds_7 (by decide) (fun c_2 => ?_) (fun c_2 => ?_)
    · have hf := kIt hf c_2
      have t_2 := ti_le c_2
      refine lv_iconst (v := (0 : Int32)) hx hb dX0_holds_24 (by decide) ?_
      exact kRetZ hx hb hr hlk hP hD hS (Or.inl rfl) hf.symm rfl hQ dX0_holds_25
    · have hf := kIf hf c_2
      have t_2 := ti_nle c_2
      refine lv_lload_n hx hb dX0_holds_10 rfl (lv_at hl 0 rfl) ?_
      refine lv_iload_n hx hb dX0_holds_11 rfl (lv_at hl 1 rfl) ?_
      refine lv_lushr (v := (jushrL x0 x2)) hx hb dX0_holds_12 rfl ?_
      refine lv_lconst (v := (1 : Int64)) hx hb dX0_holds_13 (by decide) ?_
      refine lv_land hx hb dX0_holds_14 ?_
      refine lv_lconst (v := (0 : Int64)) hx hb dX0_holds_15 (by decide) ?_
      refine W.lcmp hx hb dX0_holds_16 ?_
      refine lv_if_eq (tgt := 24) hx hb dX0_holds_17 (by decide) (fun c_3 => ?_) (fun c_3 => ?_)
      · have hf := kIt hf c_3
        have t_3 := ti_eq c_3
        refine lv_iconst (v := (0 : Int32)) hx hb dX0_holds_24 (by decide) ?_
        exact kRetZ hx hb hr hlk hP hD hS (Or.inl rfl) hf.symm rfl hQ dX0_holds_25
      · have hf := kIf hf c_3
        have t_3 := ti_ne c_3
        refine lv_iconst (v := (1 : Int32)) hx hb dX0_holds_20 (by decide) ?_
        refine lv_goto (tgt := 25) hx hb dX0_holds_21 (by decide) ?_
        exact kRetZ hx hb hr hlk hP hD hS (Or.inr rfl) hf.symm rfl hQ dX0_holds_25
theorem kyJ13_bitCount_95d88 : kY yJ13_bitCount_95d88 cJ13_bitCount_95d88 2 (some .int) wsJ13_bitCount_95d88 wsJ13_bitCount_95d88.tail 1 := ⟨rfl, by decide, by decide, by decide +kernel⟩
set_option maxHeartbeats 4000000 in
set_option maxRecDepth 100000 in
theorem k_J13_bitCount_95d88 (l : Launch) (D : va_G) (ct : ClassId × ClassId × ClassId) (z : Nat × Nat)  (x0 : Int64)  : kC l D ct z yJ13_bitCount_95d88 wsJ13_bitCount_95d88 0 0 [.long x0] ([]) (some (.int (f_J13_bitCount_95d88 x0))) ([]) := by
  refine kHead (cc := cJ13_bitCount_95d88) (maxL := 2) (ret := (some .int)) [(0, .long x0)] (by decide) rfl (Nat.le_of_ble_eq_true rfl) rfl ?_
  intro p e s m args below meth c A ls R Q hRf hRl hQ hx hb hr hlk hml hown hts hA hS hK hP hD hl
  have hw1 := hts (Cond.constantLong RJ13 314 (6148914691236517205)) (List.mem_of_getElem? (i := 1) (by decide +kernel))
  have hw2 := hts (Cond.constantLong RJ13 316 (3689348814741910323)) (List.mem_of_getElem? (i := 2) (by decide +kernel))
  have hw3 := hts (Cond.constantLong RJ13 318 (1085102592571150095)) (List.mem_of_getElem? (i := 3) (by decide +kernel))
  have kc0 : (0 : Int32).toInt = 0 := by decide
  have kc1 : (1 : Int32).toInt = 1 := by decide
  have kc2 : (2 : Int32).toInt = 2 := by decide
  have kc4 : (4 : Int32).toInt = 4 := by decide
  have kc8 : (8 : Int32).toInt = 8 := by decide
  have kc16 : (16 : Int32).toInt = 16 := by decide
  have kc32 : (32 : Int32).toInt = 32 := by decide
  have kc127 : (127 : Int32).toInt = 127 := by decide
  have kl1085102592571150095 : (1085102592571150095 : Int64).toInt = 1085102592571150095 := by decide
  have kl3689348814741910323 : (3689348814741910323 : Int64).toInt = 3689348814741910323 := by decide
  have kl6148914691236517205 : (6148914691236517205 : Int64).toInt = 6148914691236517205 := by decide
  have hf : f_J13_bitCount_95d88 x0 = f_J13_bitCount_95d88 x0 := rfl
  refine lv_lload_n hx hb dJ13_bitCount_95d88_0 rfl (lv_at hl 0 rfl) ?_
  refine lv_lload_n hx hb dJ13_bitCount_95d88_1 rfl (lv_at hl 0 rfl) ?_
  refine lv_iconst (v := (1 : Int32)) hx hb dJ13_bitCount_95d88_2 (by decide) ?_
  refine lv_lushr (v := (jushrL x0 (1 : Int32))) hx hb dJ13_bitCount_95d88_3 rfl ?_
  refine lv_ldc2 (v := (6148914691236517205 : Int64)) hx hb hown hw1 dJ13_bitCount_95d88_4 ?_
  refine lv_land hx hb dJ13_bitCount_95d88_7 ?_
  refine lv_lsub hx hb dJ13_bitCount_95d88_8 ?_
  refine lv_topl (fun y9 ey9 => ?_)
  have hf := kLt hf ey9
  refine lv_lstore_n (lv' := [(0, .long y9)]) hx hb dJ13_bitCount_95d88_9 rfl hl (by decide) rfl (fun ls hl => ?_)
  refine lv_lload_n hx hb dJ13_bitCount_95d88_10 rfl (lv_at hl 0 rfl) ?_
  refine lv_ldc2 (v := (3689348814741910323 : Int64)) hx hb hown hw2 dJ13_bitCount_95d88_11 ?_
  refine lv_land hx hb dJ13_bitCount_95d88_14 ?_
  refine lv_lload_n hx hb dJ13_bitCount_95d88_15 rfl (lv_at hl 0 rfl) ?_
  refine lv_iconst (v := (2 : Int32)) hx hb dJ13_bitCount_95d88_16 (by decide) ?_
  refine lv_lushr (v := (jushrL y9 (2 : Int32))) hx hb dJ13_bitCount_95d88_17 rfl ?_
  refine lv_ldc2 (v := (3689348814741910323 : Int64)) hx hb hown hw2 dJ13_bitCount_95d88_18 ?_
  refine lv_land hx hb dJ13_bitCount_95d88_21 ?_
  refine lv_ladd hx hb dJ13_bitCount_95d88_22 ?_
  refine lv_topl (fun y23 ey23 => ?_)
  have hf := kLt hf ey23
  refine lv_lstore_n (lv' := [(0, .long y23)]) hx hb dJ13_bitCount_95d88_23 rfl hl (by decide) rfl (fun ls hl => ?_)
  refine lv_lload_n hx hb dJ13_bitCount_95d88_24 rfl (lv_at hl 0 rfl) ?_
  refine lv_lload_n hx hb dJ13_bitCount_95d88_25 rfl (lv_at hl 0 rfl) ?_
  refine lv_iconst (v := (4 : Int32)) hx hb dJ13_bitCount_95d88_26 (by decide) ?_
  refine lv_lushr (v := (jushrL y23 (4 : Int32))) hx hb dJ13_bitCount_95d88_27 rfl ?_
  refine lv_ladd hx hb dJ13_bitCount_95d88_28 ?_
  refine lv_ldc2 (v := (1085102592571150095 : Int64)) hx hb hown hw3 dJ13_bitCount_95d88_29 ?_
  refine lv_land hx hb dJ13_bitCount_95d88_32 ?_
  refine lv_topl (fun y33 ey33 => ?_)
  have hf := kLt hf ey33
  refine lv_lstore_n (lv' := [(0, .long y33)]) hx hb dJ13_bitCount_95d88_33 rfl hl (by decide) rfl (fun ls hl => ?_)
  refine lv_lload_n hx hb dJ13_bitCount_95d88_34 rfl (lv_at hl 0 rfl) ?_
  refine lv_lload_n hx hb dJ13_bitCount_95d88_35 rfl (lv_at hl 0 rfl) ?_
  refine lv_bipush (v := (8 : Int32)) hx hb dJ13_bitCount_95d88_36 (by decide) ?_
  refine lv_lushr (v := (jushrL y33 (8 : Int32))) hx hb dJ13_bitCount_95d88_38 rfl ?_
  refine lv_ladd hx hb dJ13_bitCount_95d88_39 ?_
  refine lv_topl (fun y40 ey40 => ?_)
  have hf := kLt hf ey40
  refine lv_lstore_n (lv' := [(0, .long y40)]) hx hb dJ13_bitCount_95d88_40 rfl hl (by decide) rfl (fun ls hl => ?_)
  refine lv_lload_n hx hb dJ13_bitCount_95d88_41 rfl (lv_at hl 0 rfl) ?_
  refine lv_lload_n hx hb dJ13_bitCount_95d88_42 rfl (lv_at hl 0 rfl) ?_
  refine lv_bipush (v := (16 : Int32)) hx hb dJ13_bitCount_95d88_43 (by decide) ?_
  refine lv_lushr (v := (jushrL y40 (16 : Int32))) hx hb dJ13_bitCount_95d88_45 rfl ?_
  refine lv_ladd hx hb dJ13_bitCount_95d88_46 ?_
  refine lv_topl (fun y47 ey47 => ?_)
  have hf := kLt hf ey47
  refine lv_lstore_n (lv' := [(0, .long y47)]) hx hb dJ13_bitCount_95d88_47 rfl hl (by decide) rfl (fun ls hl => ?_)
  refine lv_lload_n hx hb dJ13_bitCount_95d88_48 rfl (lv_at hl 0 rfl) ?_
  refine lv_lload_n hx hb dJ13_bitCount_95d88_49 rfl (lv_at hl 0 rfl) ?_
  refine lv_bipush (v := (32 : Int32)) hx hb dJ13_bitCount_95d88_50 (by decide) ?_
  refine lv_lushr (v := (jushrL y47 (32 : Int32))) hx hb dJ13_bitCount_95d88_52 rfl ?_
  refine lv_ladd hx hb dJ13_bitCount_95d88_53 ?_
  refine lv_topl (fun y54 ey54 => ?_)
  have hf := kLt hf ey54
  refine lv_lstore_n (lv' := [(0, .long y54)]) hx hb dJ13_bitCount_95d88_54 rfl hl (by decide) rfl (fun ls hl => ?_)
  refine lv_lload_n hx hb dJ13_bitCount_95d88_55 rfl (lv_at hl 0 rfl) ?_
  refine lv_l2i (v := (Int64.toInt32 y54)) hx hb dJ13_bitCount_95d88_56 rfl ?_
  refine lv_bipush (v := (127 : Int32)) hx hb dJ13_bitCount_95d88_57 (by decide) ?_
  refine lv_iand hx hb dJ13_bitCount_95d88_59 ?_
  exact kRetI hx hb hr hlk hP hD hS hf.symm rfl hQ dJ13_bitCount_95d88_60
theorem kyX0_least : kY yX0_least cX0_least 2 (some .int) wsX0_least wsX0_least.tail 1 := ⟨rfl, by decide, by decide, by decide +kernel⟩
set_option maxHeartbeats 4000000 in
set_option maxRecDepth 100000 in
theorem k_X0_least (l : Launch) (D : va_G) (ct : ClassId × ClassId × ClassId) (z : Nat × Nat)  (x0 : Int64)  : kC l D ct z yX0_least wsX0_least 1 21 [.long x0] ([]) (some (.int (f_X0_least x0))) ([]) := by
  refine kHead (cc := cX0_least) (maxL := 2) (ret := (some .int)) [(0, .long x0)] (by decide) rfl (Nat.le_of_ble_eq_true rfl) rfl ?_
  intro p e s m args below meth c A ls R Q hRf hRl hQ hx hb hr hlk hml hown hts hA hS hK hP hD hl
  have kcm6 : (-6 : Int32).toInt = -6 := by decide
  have kc0 : (0 : Int32).toInt = 0 := by decide
  have kl0 : (0 : Int64).toInt = 0 := by decide
  have kl1 : (1 : Int64).toInt = 1 := by decide
  have hf : f_X0_least x0 = f_X0_least x0 := rfl
  refine lv_lload_n hx hb dX0_least_0 rfl (lv_at hl 0 rfl) ?_
  refine lv_lconst (v := (0 : Int64)) hx hb dX0_least_1 (by decide) ?_
  refine W.lcmp hx hb dX0_least_2 ?_
  refine lv_if_ne (tgt := 11) hx hb dX0_least_3 (by decide) (fun c_1 => ?_) (fun c_1 => ?_)
  · have hf := kIf hf c_1
    have t_1 := ti_ne c_1; have w_1 := lgc_ne c_1
    refine lv_lload_n hx hb dX0_least_11 rfl (lv_at hl 0 rfl) ?_
    refine lv_lload_n hx hb dX0_least_12 rfl (lv_at hl 0 rfl) ?_
    refine lv_lneg hx hb dX0_least_13 ?_
    refine lv_land hx hb dX0_least_14 ?_
    refine lv_lconst (v := (1 : Int64)) hx hb dX0_least_15 (by decide) ?_
    refine lv_lsub hx hb dX0_least_16 ?_
    have hM : kC l D ct z yJ13_bitCount_95d88 wsJ13_bitCount_95d88 0 0 [.long ((x0 &&& (-x0)) - (1 : Int64))] ([]) (some (.int (f_J13_bitCount_95d88 ((x0 &&& (-x0)) - (1 : Int64))))) ([]) := k_J13_bitCount_95d88 l D ct z ((x0 &&& (-x0)) - (1 : Int64))
    refine kS0 (As := [.long ((x0 &&& (-x0)) - (1 : Int64))]) (rest := []) ⟨hx, hb, hml, hown, hts⟩ hM gX0_least_J13_bitCount_95d88 kyJ13_bitCount_95d88 (by rw [hRf, hRl]; exact ⟨Nat.le_of_ble_eq_true rfl, Nat.le_of_ble_eq_true rfl⟩) hK hP hD hS hA rfl hl.1 rfl (st1 := [.int (f_J13_bitCount_95d88 ((x0 &&& (-x0)) - (1 : Int64)))]) rfl rfl ⟨Nat.zero_le _, Nat.zero_le _⟩ dX0_least_17 (fun H locs hP hD hS => ?_)
    exact kRetI hx hb hr hlk hP hD hS hf.symm rfl hQ dX0_least_20
  · have hf := kIt hf c_1
    have t_1 := ti_eq c_1
    refine lv_bipush (v := (-6 : Int32)) hx hb dX0_least_6 (by decide) ?_
    refine lv_goto (tgt := 20) hx hb dX0_least_8 (by decide) ?_
    exact kRetI hx hb hr hlk hP hD hS hf.symm rfl hQ dX0_least_20
theorem kyX0_moved : kY yX0_moved cX0_moved 6 (some .int) wsX0_moved wsX0_moved.tail 3 := ⟨rfl, by decide, by decide, by decide +kernel⟩
set_option maxHeartbeats 4000000 in
set_option maxRecDepth 100000 in
theorem k_X0_moved (l : Launch) (D : va_G) (ct : ClassId × ClassId × ClassId) (z : Nat × Nat)  (x0 : Int32) (x1 : Int32) (x2 : Int32)  : kC l D ct z yX0_moved wsX0_moved 0 0 [.int x0, .int x1, .int x2] ([]) (some (.int (f_X0_moved x0 x1 x2))) ([]) := by
  refine kHead (cc := cX0_moved) (maxL := 6) (ret := (some .int)) [(0, .int x0), (1, .int x1), (2, .int x2)] (by decide) rfl (Nat.le_of_ble_eq_true rfl) rfl ?_
  intro p e s m args below meth c A ls R Q hRf hRl hQ hx hb hr hlk hml hown hts hA hS hK hP hD hl
  have kcm6 : (-6 : Int32).toInt = -6 := by decide
  have kc0 : (0 : Int32).toInt = 0 := by decide
  have kc1 : (1 : Int32).toInt = 1 := by decide
  have kc8 : (8 : Int32).toInt = 8 := by decide
  have hf : f_X0_moved x0 x1 x2 = f_X0_moved x0 x1 x2 := rfl
  refine lv_iload_n hx hb dX0_moved_0 rfl (lv_at hl 0 rfl) ?_
  refine lv_bipush (v := (8 : Int32)) hx hb dX0_moved_1 (by decide) ?_
  refine lv_idiv hx hb dX0_moved_3 (by decide) ?_
  refine lv_iload_n hx hb dX0_moved_4 rfl (lv_at hl 1 rfl) ?_
  refine lv_iadd hx hb dX0_moved_5 ?_
  refine lv_topi (fun y6 ey6 => ?_)
  have hf := kLt hf ey6
  refine lv_istore_n (lv' := [(3, .int y6), (0, .int x0), (1, .int x1), (2, .int x2)]) hx hb dX0_moved_6 rfl hl (by decide) rfl (fun ls hl => ?_)
  refine lv_iload_n hx hb dX0_moved_7 rfl (lv_at hl 1 rfl) ?_
  refine lv_bipush (v := (8 : Int32)) hx hb dX0_moved_8 (by decide) ?_
  refine lv_irem hx hb dX0_moved_10 (by decide) ?_
  refine lv_iload_n hx hb dX0_moved_11 rfl (lv_at hl 3 rfl) ?_
  refine lv_iadd hx hb dX0_moved_12 ?_
  refine lv_topi (fun y13 ey13 => ?_)
  have hf := kLt hf ey13
  refine lv_istore (lv' := [(4, .int y13), (3, .int y6), (0, .int x0), (1, .int x1), (2, .int x2)]) hx hb dX0_moved_13 hl (by decide) rfl (fun ls hl => ?_)
  refine lv_iload_n hx hb dX0_moved_15 rfl (lv_at hl 1 rfl) ?_
  refine kJn hf (fun j0 => ∀ (z42_s0 : Int32), (z42_s0 = 0 ∨ z42_s0 = 1) → f_X0_moved x0 x1 x2 = j0 z42_s0 → ∀ (H : Heap) (locs : List Loc) (ls : Array Slot), va_P D vwCl ([]) H → va_D A ([]) → va_S A s.heap H locs → lv_has ls 6 [(4, .int y13), (3, .int y6)] → W p l e R s m args below meth c H locs 0 0 Q (F0 m 42 ls [.int z42_s0])) ?_ ?_
  · intro j0 hj0 z42_s0 b01_z42_s0 hf H locs ls hP hD hS hl
    subst hj0
    refine lv_istore (lv' := [(5, .int z42_s0), (4, .int y13), (3, .int y6)]) hx hb dX0_moved_42 hl (by decide) rfl (fun ls hl => ?_)
    refine lv_iload hx hb dX0_moved_44 (lv_at hl 0 rfl) ?_
    refine lv_if_eq (tgt := 59) hx hb dX0_moved_46 (by decide) (fun c_2 => ?_) (fun c_2 => ?_)
    · have hf := kIt hf c_2
      have t_2 := ti_eq c_2
      refine lv_bipush (v := (-6 : Int32)) hx hb dX0_moved_59 (by decide) ?_
      exact kRetI hx hb hr hlk hP hD hS hf.symm rfl hQ dX0_moved_61
    · have hf := kIf hf c_2
      have t_2 := ti_ne c_2
      refine lv_bipush (v := (8 : Int32)) hx hb dX0_moved_49 (by decide) ?_
      refine lv_iload_n hx hb dX0_moved_51 rfl (lv_at hl 2 rfl) ?_
      refine lv_imul hx hb dX0_moved_52 ?_
      refine lv_iload hx hb dX0_moved_53 (lv_at hl 1 rfl) ?_
      refine lv_iadd hx hb dX0_moved_55 ?_
      refine lv_goto (tgt := 61) hx hb dX0_moved_56 (by decide) ?_
      exact kRetI hx hb hr hlk hP hD hS hf.symm rfl hQ dX0_moved_61
  · intro j42 hJ42 hf
    refine kJn hf (fun j0 => ∀ (u0 : Unit), f_X0_moved x0 x1 x2 = j0 () → ∀ (H : Heap) (locs : List Loc) (ls : Array Slot), va_P D vwCl ([]) H → va_D A ([]) → va_S A s.heap H locs → lv_has ls 6 [(4, .int y13), (3, .int y6)] → W p l e R s m args below meth c H locs 0 0 Q (F0 m 41 ls [])) ?_ ?_
    · intro j0 hj0 u0  hf H locs ls hP hD hS hl
      subst hj0
      refine lv_iconst (v := (0 : Int32)) hx hb dX0_moved_41 (by decide) ?_
      exact hJ42 _ (Or.inl rfl)  hf _ _ _ hP hD hS (lv_sub hl [0, 1] rfl)
    · intro j41 hJ41 hf
      refine lv_if_lt (tgt := 41) hx hb dX0_moved_16 (by decide) (fun c_1 => ?_) (fun c_1 => ?_)
      · have hf := kIt hf c_1
        have t_1 := ti_lt c_1
        exact hJ41 ()  hf _ _ _ hP hD hS (lv_sub hl [0, 1] rfl)
      · have hf := kIf hf c_1
        have t_1 := ti_nlt c_1
        refine lv_iload_n hx hb dX0_moved_19 rfl (lv_at hl 1 rfl) ?_
        refine lv_bipush (v := (8 : Int32)) hx hb dX0_moved_20 (by decide) ?_
        refine lv_icmp_ge (tgt := 41) hx hb dX0_moved_22 (by decide) (fun c_3 => ?_) (fun c_3 => ?_)
        · have hf := kIt hf c_3
          have t_3 := ti_le c_3
          exact hJ41 ()  hf _ _ _ hP hD hS (lv_sub hl [0, 1] rfl)
        · have hf := kIf hf c_3
          have t_3 := ti_nle c_3
          refine lv_iload hx hb dX0_moved_25 (lv_at hl 0 rfl) ?_
          refine lv_if_lt (tgt := 41) hx hb dX0_moved_27 (by decide) (fun c_4 => ?_) (fun c_4 => ?_)
          · have hf := kIt hf c_4
            have t_4 := ti_lt c_4
            exact hJ41 ()  hf _ _ _ hP hD hS (lv_sub hl [0, 1] rfl)
          · have hf := kIf hf c_4
            have t_4 := ti_nlt c_4
            refine lv_iload hx hb dX0_moved_30 (lv_at hl 0 rfl) ?_
            refine lv_bipush (v := (8 : Int32)) hx hb dX0_moved_32 (by decide) ?_
            refine lv_icmp_ge (tgt := 41) hx hb dX0_moved_34 (by decide) (fun c_5 => ?_) (fun c_5 => ?_)
            · have hf := kIt hf c_5
              have t_5 := ti_le c_5
              exact hJ41 ()  hf _ _ _ hP hD hS (lv_sub hl [0, 1] rfl)
            · have hf := kIf hf c_5
              have t_5 := ti_nle c_5
              refine lv_iconst (v := (1 : Int32)) hx hb dX0_moved_37 (by decide) ?_
              refine lv_goto (tgt := 42) hx hb dX0_moved_38 (by decide) ?_
              exact hJ42 _ (Or.inr rfl)  hf _ _ _ hP hD hS (lv_sub hl [0, 1] rfl)
theorem kyX0_next : kY yX0_next cX0_next 2 (some .int) wsX0_next wsX0_next.tail 2 := ⟨rfl, by decide, by decide, by decide +kernel⟩
set_option maxHeartbeats 4000000 in
set_option maxRecDepth 100000 in
theorem k_X0_next (l : Launch) (D : va_G) (ct : ClassId × ClassId × ClassId) (z : Nat × Nat)  (x0 : Int32) (x1 : Int32)  : kC l D ct z yX0_next wsX0_next 1 25 [.int x0, .int x1] ([]) (some (.int (f_X0_next x0 x1))) ([]) := by
  refine kHead (cc := cX0_next) (maxL := 2) (ret := (some .int)) [(0, .int x0), (1, .int x1)] (by decide) rfl (Nat.le_of_ble_eq_true rfl) rfl ?_
  intro p e s m args below meth c A ls R Q hRf hRl hQ hx hb hr hlk hml hown hts hA hS hK hP hD hl
  have hw1 := hts (Cond.fieldLink RX0 21 "MastPulpits$Chart" "ROWS_OF_WAY" "[I") (List.mem_of_getElem? (i := 1) (by decide +kernel))
  have hw2 := hts (Cond.fieldLink RX0 25 "MastPulpits$Chart" "COLUMNS_OF_WAY" "[I") (List.mem_of_getElem? (i := 2) (by decide +kernel))
  have kcm6 : (-6 : Int32).toInt = -6 := by decide
  have kc0 : (0 : Int32).toInt = 0 := by decide
  have kc8 : (8 : Int32).toInt = 8 := by decide
  have hf : f_X0_next x0 x1 = f_X0_next x0 x1 := rfl
  refine lv_iload_n hx hb dX0_next_0 rfl (lv_at hl 0 rfl) ?_
  have hM : kC l D ct z yX0_isCell wsX0_isCell 0 0 [.int x0] ([]) (some (.int (f_X0_isCell x0))) ([]) := k_X0_isCell l D ct z x0
  refine kS0 (As := [.int x0]) (rest := []) ⟨hx, hb, hml, hown, hts⟩ hM gX0_next_X0_isCell kyX0_isCell (by rw [hRf, hRl]; exact ⟨Nat.le_of_ble_eq_true rfl, Nat.le_of_ble_eq_true rfl⟩) hK hP hD hS hA rfl hl.1 rfl (st1 := [.int (f_X0_isCell x0)]) rfl rfl ⟨Nat.zero_le _, Nat.zero_le _⟩ dX0_next_1 (fun H locs hP hD hS => ?_)
  refine lv_if_eq (tgt := 27) hx hb dX0_next_4 (by decide) (fun c_1 => ?_) (fun c_1 => ?_)
  · have hf := kIt hf c_1
    have t_1 := ti_eq c_1
    refine lv_bipush (v := (-6 : Int32)) hx hb dX0_next_27 (by decide) ?_
    exact kRetI hx hb hr hlk hP hD hS hf.symm rfl hQ dX0_next_29
  · have hf := kIf hf c_1
    have t_1 := ti_ne c_1; have w_1 := xcell_nz c_1
    refine lv_iload_n hx hb dX0_next_7 rfl (lv_at hl 1 rfl) ?_
    refine lv_if_lt (tgt := 27) hx hb dX0_next_8 (by decide) (fun c_2 => ?_) (fun c_2 => ?_)
    · have hf := kIt hf c_2
      have t_2 := ti_lt c_2
      refine lv_bipush (v := (-6 : Int32)) hx hb dX0_next_27 (by decide) ?_
      exact kRetI hx hb hr hlk hP hD hS hf.symm rfl hQ dX0_next_29
    · have hf := kIf hf c_2
      have t_2 := ti_nlt c_2
      refine lv_iload_n hx hb dX0_next_11 rfl (lv_at hl 1 rfl) ?_
      refine va_gets hx hb hK.2.1 hS hown hw1 (fun _ h => h) dX0_next_12 ?_
      refine va_tlen (v := (8 : Int32)) hx hb hK.2.2.1 hS (by decide) dX0_next_15 ?_
      refine lv_icmp_ge (tgt := 27) hx hb dX0_next_16 (by decide) (fun c_3 => ?_) (fun c_3 => ?_)
      · have hf := kIt hf c_3
        have t_3 := ti_le c_3
        refine lv_bipush (v := (-6 : Int32)) hx hb dX0_next_27 (by decide) ?_
        exact kRetI hx hb hr hlk hP hD hS hf.symm rfl hQ dX0_next_29
      · have hf := kIf hf c_3
        have t_3 := ti_nle c_3
        refine lv_iload_n hx hb dX0_next_19 rfl (lv_at hl 1 rfl) ?_
        refine va_gets hx hb hK.2.2.2.1 hS hown hw2 (fun _ h => h) dX0_next_20 ?_
        refine va_tlen (v := (8 : Int32)) hx hb hK.2.2.2.2 hS (by decide) dX0_next_23 ?_
        refine lv_icmp_lt (tgt := 30) hx hb dX0_next_24 (by decide) (fun c_4 => ?_) (fun c_4 => ?_)
        · have hf := kIt hf c_4
          have t_4 := ti_lt c_4
          refine lv_iload_n hx hb dX0_next_30 rfl (lv_at hl 0 rfl) ?_
          refine va_gets hx hb hK.2.1 hS hown hw1 (fun _ h => h) dX0_next_31 ?_
          refine lv_iload_n hx hb dX0_next_34 rfl (lv_at hl 1 rfl) ?_
          refine va_ti (v := .int (rowsV (Int32.toNatClampNeg x1))) hx hb hK.2.2.1 hS (by first | assumption | exact vin (by omega) (by omega) | omega) rfl dX0_next_35 ?_
          refine va_gets hx hb hK.2.2.2.1 hS hown hw2 (fun _ h => h) dX0_next_36 ?_
          refine lv_iload_n hx hb dX0_next_39 rfl (lv_at hl 1 rfl) ?_
          refine va_ti (v := .int (colsV (Int32.toNatClampNeg x1))) hx hb hK.2.2.2.2 hS (by first | assumption | exact vin (by omega) (by omega) | omega) rfl dX0_next_40 ?_
          have hM : kC l D ct z yX0_moved wsX0_moved 0 0 [.int x0, .int (rowsV (Int32.toNatClampNeg x1)), .int (colsV (Int32.toNatClampNeg x1))] ([]) (some (.int (f_X0_moved x0 (rowsV (Int32.toNatClampNeg x1)) (colsV (Int32.toNatClampNeg x1))))) ([]) := k_X0_moved l D ct z x0 (rowsV (Int32.toNatClampNeg x1)) (colsV (Int32.toNatClampNeg x1))
          refine kS0 (As := [.int x0, .int (rowsV (Int32.toNatClampNeg x1)), .int (colsV (Int32.toNatClampNeg x1))]) (rest := []) ⟨hx, hb, hml, hown, hts⟩ hM gX0_next_X0_moved kyX0_moved (by rw [hRf, hRl]; exact ⟨Nat.le_of_ble_eq_true rfl, Nat.le_of_ble_eq_true rfl⟩) hK hP hD hS hA rfl hl.1 rfl (st1 := [.int (f_X0_moved x0 (rowsV (Int32.toNatClampNeg x1)) (colsV (Int32.toNatClampNeg x1)))]) rfl rfl ⟨Nat.zero_le _, Nat.zero_le _⟩ dX0_next_41 (fun H locs hP hD hS => ?_)
          exact kRetI hx hb hr hlk hP hD hS hf.symm rfl hQ dX0_next_44
        · have hf := kIf hf c_4
          have t_4 := ti_nlt c_4
          refine lv_bipush (v := (-6 : Int32)) hx hb dX0_next_27 (by decide) ?_
          exact kRetI hx hb hr hlk hP hD hS hf.symm rfl hQ dX0_next_29
theorem kyX0_ray : kY yX0_ray cX0_ray 6 (some .long) wsX0_ray wsX0_ray.tail 2 := ⟨rfl, by decide, by decide, by decide +kernel⟩
set_option maxHeartbeats 4000000 in
set_option maxRecDepth 100000 in
theorem k_X0_ray (l : Launch) (D : va_G) (ct : ClassId × ClassId × ClassId) (z : Nat × Nat)  (x0 : Int32) (x1 : Int32)  : kC l D ct z yX0_ray wsX0_ray 2 46 [.int x0, .int x1] ([]) (some (.long (f_X0_ray x0 x1))) ([]) := by
  refine kHead (cc := cX0_ray) (maxL := 6) (ret := (some .long)) [(0, .int x0), (1, .int x1)] (by decide) rfl (Nat.le_of_ble_eq_true rfl) rfl ?_
  intro p e s m args below meth c A ls R Q hRf hRl hQ hx hb hr hlk hml hown hts hA hS hK hP hD hl
  have kcm6 : (-6 : Int32).toInt = -6 := by decide
  have kc0 : (0 : Int32).toInt = 0 := by decide
  have kc1 : (1 : Int32).toInt = 1 := by decide
  have kc8 : (8 : Int32).toInt = 8 := by decide
  have kl0 : (0 : Int64).toInt = 0 := by decide
  have hf : f_X0_ray x0 x1 = f_X0_ray x0 x1 := rfl
  refine lv_lconst (v := (0 : Int64)) hx hb dX0_ray_0 (by decide) ?_
  refine lv_lstore_n (lv' := [(2, .long (0 : Int64)), (0, .int x0), (1, .int x1)]) hx hb dX0_ray_1 rfl hl (by decide) rfl (fun ls hl => ?_)
  refine lv_iload_n hx hb dX0_ray_2 rfl (lv_at hl 1 rfl) ?_
  refine lv_iload_n hx hb dX0_ray_3 rfl (lv_at hl 2 rfl) ?_
  have hM : kC l D ct z yX0_next wsX0_next 1 25 [.int x0, .int x1] ([]) (some (.int (f_X0_next x0 x1))) ([]) := k_X0_next l D ct z x0 x1
  refine kS0 (As := [.int x0, .int x1]) (rest := []) ⟨hx, hb, hml, hown, hts⟩ hM gX0_ray_X0_next kyX0_next (by rw [hRf, hRl]; exact ⟨Nat.le_of_ble_eq_true rfl, Nat.le_of_ble_eq_true rfl⟩) hK hP hD hS hA rfl hl.1 rfl (st1 := [.int (f_X0_next x0 x1)]) rfl rfl ⟨Nat.zero_le _, Nat.zero_le _⟩ dX0_ray_4 (fun H locs hP hD hS => ?_)
  refine lv_topi (fun y7 ey7 => ?_)
  have hf := kLt hf ey7
  refine lv_istore (lv' := [(4, .int y7), (2, .long (0 : Int64)), (0, .int x0), (1, .int x1)]) hx hb dX0_ray_7 hl (by decide) rfl (fun ls hl => ?_)
  refine lv_iconst (v := (1 : Int32)) hx hb dX0_ray_9 (by decide) ?_
  refine lv_istore (lv' := [(5, .int (1 : Int32)), (4, .int y7), (2, .long (0 : Int64)), (0, .int x0), (1, .int x1)]) hx hb dX0_ray_10 hl (by decide) rfl (fun ls hl => ?_)
  have lp12 : ∀ (K : Int64 → Int64), (∀ (z12_2 : Int64), ∀ (H : Heap) (locs : List Loc) (ls : Array Slot), va_P D vwCl ([]) H → va_D A ([]) → va_S A s.heap H locs → lv_has ls 6 [(2, .long z12_2)] → f_X0_ray x0 x1 = K z12_2 → W p l e R s m args below meth c H locs 0 0 Q (F0 m 48 ls [])) → ∀ (n : Nat) (z12_5 : Int32) (z12_4 : Int32) (z12_2 : Int64), ∀ (H : Heap) (locs : List Loc) (ls : Array Slot), (8 ≤ Int32.toInt z12_5 + (n : Int)) → va_P D vwCl ([]) H → va_D A ([]) → va_S A s.heap H locs → lv_has ls 6 [(5, .int z12_5), (4, .int z12_4), (2, .long z12_2), (1, .int x1)] → f_X0_ray x0 x1 = f_X0_ray_L12 x1 K n z12_5 z12_4 z12_2 → W p l e R s m args below meth c H locs 0 0 Q (F0 m 12 ls []) := by
    intro K hk n
    induction n with
    | zero =>
      intro z12_5 z12_4 z12_2  H locs ls hn12 hP hD hS hl hf
      refine lv_iload hx hb dX0_ray_12 (lv_at hl 0 rfl) ?_
      refine lv_bipush (v := (8 : Int32)) hx hb dX0_ray_14 (by decide) ?_
      refine lv_icmp_ge (tgt := 48) hx hb dX0_ray_16 (by decide) (fun c_3 => ?_) (fun c_3 => ?_)
      · have t_3 := ti_le c_3
        exact hk _ _ _ _  hP hD hS (lv_sub hl [2] rfl) hf
      · have t_3 := ti_nle c_3
        exfalso
        omega
    | succ n ih =>
      intro z12_5 z12_4 z12_2  H locs ls hn12 hP hD hS hl hf
      refine lv_iload hx hb dX0_ray_12 (lv_at hl 0 rfl) ?_
      refine lv_bipush (v := (8 : Int32)) hx hb dX0_ray_14 (by decide) ?_
      refine lv_icmp_ge (tgt := 48) hx hb dX0_ray_16 (by decide) (fun c_1 => ?_) (fun c_1 => ?_)
      · have hf := kIt hf c_1
        have t_1 := ti_le c_1
        exact hk _ _ _ _  hP hD hS (lv_sub hl [2] rfl) hf
      · have hf := kIf hf c_1
        have t_1 := ti_nle c_1
        refine lv_iload hx hb dX0_ray_19 (lv_at hl 1 rfl) ?_
        refine lv_bipush (v := (-6 : Int32)) hx hb dX0_ray_21 (by decide) ?_
        refine lv_icmp_eq (tgt := 48) hx hb dX0_ray_23 (by decide) (fun c_2 => ?_) (fun c_2 => ?_)
        · have hf := kIt hf c_2
          have t_2 := ti_eq c_2
          exact hk _ _ _ _  hP hD hS (lv_sub hl [2] rfl) hf
        · have hf := kIf hf c_2
          have t_2 := ti_ne c_2
          refine lv_lload_n hx hb dX0_ray_26 rfl (lv_at hl 2 rfl) ?_
          refine lv_iload hx hb dX0_ray_27 (lv_at hl 1 rfl) ?_
          have hM : kC l D ct z yX0_only wsX0_only 0 0 [.int z12_4] ([]) (some (.long (f_X0_only z12_4))) ([]) := k_X0_only l D ct z z12_4
          refine kS0 (As := [.int z12_4]) (rest := [.long z12_2]) ⟨hx, hb, hml, hown, hts⟩ hM gX0_ray_X0_only kyX0_only (by rw [hRf, hRl]; exact ⟨Nat.le_of_ble_eq_true rfl, Nat.le_of_ble_eq_true rfl⟩) hK hP hD hS hA rfl hl.1 rfl (st1 := [.long (f_X0_only z12_4), .long z12_2]) rfl rfl ⟨Nat.zero_le _, Nat.zero_le _⟩ dX0_ray_29 (fun H locs hP hD hS => ?_)
          refine lv_lor hx hb dX0_ray_32 ?_
          refine lv_topl (fun y33 ey33 => ?_)
          have hf := kLt hf ey33
          refine lv_lstore_n (lv' := [(2, .long y33), (5, .int z12_5), (4, .int z12_4), (1, .int x1)]) hx hb dX0_ray_33 rfl hl (by decide) rfl (fun ls hl => ?_)
          refine lv_iload hx hb dX0_ray_34 (lv_at hl 2 rfl) ?_
          refine lv_iload_n hx hb dX0_ray_36 rfl (lv_at hl 3 rfl) ?_
          have hM : kC l D ct z yX0_next wsX0_next 1 25 [.int z12_4, .int x1] ([]) (some (.int (f_X0_next z12_4 x1))) ([]) := k_X0_next l D ct z z12_4 x1
          refine kS0 (As := [.int z12_4, .int x1]) (rest := []) ⟨hx, hb, hml, hown, hts⟩ hM gX0_ray_X0_next kyX0_next (by rw [hRf, hRl]; exact ⟨Nat.le_of_ble_eq_true rfl, Nat.le_of_ble_eq_true rfl⟩) hK hP hD hS hA rfl hl.1 rfl (st1 := [.int (f_X0_next z12_4 x1)]) rfl rfl ⟨Nat.zero_le _, Nat.zero_le _⟩ dX0_ray_37 (fun H locs hP hD hS => ?_)
          refine lv_topi (fun y40 ey40 => ?_)
          have hf := kLt hf ey40
          refine lv_istore (lv' := [(4, .int y40), (2, .long y33), (5, .int z12_5), (1, .int x1)]) hx hb dX0_ray_40 hl (by decide) rfl (fun ls hl => ?_)
          obtain ⟨y42, ey42⟩ : ∃ y : Int32, y = z12_5 + (1 : Int32) := ⟨_, rfl⟩
          have hf := kLt hf ey42
          have a42 : Int32.toInt y42 = Int32.toInt z12_5 + 1 := by have := ti_rng z12_5; rw [ey42]; exact ti_add (by rw [kc1]) (by omega) (by omega)
          refine lv_iinc (v := y42) (lv' := [(5, .int y42), (4, .int y40), (2, .long y33), (1, .int x1)]) hx hb dX0_ray_42 hl (k := 2) rfl (by rw [ey42]; rfl) (by decide) rfl (fun ls hl => ?_)
          refine lv_goto (tgt := 12) hx hb dX0_ray_45 (by decide) ?_
          exact ih y42 y40 y33 _ _ _ (by first | assumption | exact vin (by omega) (by omega) | omega) hP hD hS (lv_sub hl [0, 1, 2, 3] rfl) hf
  refine lp12 _ (fun w12_2  H locs ls  hP hD hS hl hf => ?_) (8) (1 : Int32) y7 (0 : Int64)  _ _ _ (by first | assumption | exact vin (by omega) (by omega) | omega) hP hD hS (lv_sub hl [0, 1, 2, 4] rfl) hf
  refine lv_lload_n hx hb dX0_ray_48 rfl (lv_at hl 0 rfl) ?_
  exact kRetL hx hb hr hlk hP hD hS hf.symm rfl hQ dX0_ray_49
theorem kyX0_around : kY yX0_around cX0_around 12 (some .long) wsX0_around wsX0_around.tail 2 := ⟨rfl, by decide, by decide, by decide +kernel⟩
set_option maxHeartbeats 4000000 in
set_option maxRecDepth 100000 in
theorem k_X0_around (l : Launch) (D : va_G) (ct : ClassId × ClassId × ClassId) (z : Nat × Nat)  (x0 : Int32) (x1 : Int32)  : kC l D ct z yX0_around wsX0_around 1 21 [.int x0, .int x1] ([]) (some (.long (f_X0_around x0 x1))) ([]) := by
  refine kHead (cc := cX0_around) (maxL := 12) (ret := (some .long)) [(0, .int x0), (1, .int x1)] (by decide) rfl (Nat.le_of_ble_eq_true rfl) rfl ?_
  intro p e s m args below meth c A ls R Q hRf hRl hQ hx hb hr hlk hml hown hts hA hS hK hP hD hl
  have hw1 := hts (Cond.methodLink RX0 40 Lib.Math.max.name) (List.mem_of_getElem? (i := 1) (by decide +kernel))
  have hw2 := hts (Cond.static Lib.Math.max.name) (List.mem_of_getElem? (i := 2) (by decide +kernel))
  have hw3 := hts (Cond.initialized "java/lang/Math") (List.mem_of_getElem? (i := 3) (by decide +kernel))
  have hw4 := hts (Cond.code Lib.Math.max.name Lib.Math.max.code 2 (some .int)) (List.mem_of_getElem? (i := 4) (by decide +kernel))
  have hw5 := hts (Cond.methodLink RX0 45 Lib.Math.min.name) (List.mem_of_getElem? (i := 5) (by decide +kernel))
  have hw6 := hts (Cond.static Lib.Math.min.name) (List.mem_of_getElem? (i := 6) (by decide +kernel))
  have hw7 := hts (Cond.code Lib.Math.min.name Lib.Math.min.code 2 (some .int)) (List.mem_of_getElem? (i := 7) (by decide +kernel))
  have hw8 := hts (Cond.constantLong RX0 48 (-1)) (List.mem_of_getElem? (i := 8) (by decide +kernel))
  have hw9 := hts (Cond.constantLong RX0 50 (255)) (List.mem_of_getElem? (i := 9) (by decide +kernel))
  have hw10 := hts (Cond.constantLong RX0 52 (72340172838076673)) (List.mem_of_getElem? (i := 10) (by decide +kernel))
  have kc0 : (0 : Int32).toInt = 0 := by decide
  have kc7 : (7 : Int32).toInt = 7 := by decide
  have kc8 : (8 : Int32).toInt = 8 := by decide
  have klm1 : (-1 : Int64).toInt = -1 := by decide
  have kl255 : (255 : Int64).toInt = 255 := by decide
  have kl72340172838076673 : (72340172838076673 : Int64).toInt = 72340172838076673 := by decide
  have hf : f_X0_around x0 x1 = f_X0_around x0 x1 := rfl
  refine lv_iload_n hx hb dX0_around_0 rfl (lv_at hl 0 rfl) ?_
  refine lv_bipush (v := (8 : Int32)) hx hb dX0_around_1 (by decide) ?_
  refine lv_idiv hx hb dX0_around_3 (by decide) ?_
  refine lv_topi (fun y4 ey4 => ?_)
  have hf := kLt hf ey4
  refine lv_istore_n (lv' := [(2, .int y4), (0, .int x0), (1, .int x1)]) hx hb dX0_around_4 rfl hl (by decide) rfl (fun ls hl => ?_)
  refine lv_iload_n hx hb dX0_around_5 rfl (lv_at hl 1 rfl) ?_
  refine lv_bipush (v := (8 : Int32)) hx hb dX0_around_6 (by decide) ?_
  refine lv_irem hx hb dX0_around_8 (by decide) ?_
  refine lv_topi (fun y9 ey9 => ?_)
  have hf := kLt hf ey9
  refine lv_istore_n (lv' := [(3, .int y9), (2, .int y4), (0, .int x0), (1, .int x1)]) hx hb dX0_around_9 rfl hl (by decide) rfl (fun ls hl => ?_)
  refine lv_iconst (v := (0 : Int32)) hx hb dX0_around_10 (by decide) ?_
  refine lv_iload_n hx hb dX0_around_11 rfl (lv_at hl 1 rfl) ?_
  refine lv_iload_n hx hb dX0_around_12 rfl (lv_at hl 3 rfl) ?_
  refine lv_isub hx hb dX0_around_13 ?_
  refine kMax hx hb (hml.trans hl.1.symm) hown hw1 hw2 hw3 hw4 (by rw [hRf]; decide) (by rw [hRl]; exact Nat.le_of_ble_eq_true rfl) (Nat.zero_le _) (Nat.zero_le _) dX0_around_14 ?_
  refine lv_topi (fun y17 ey17 => ?_)
  have hf := kLt hf ey17
  refine lv_istore (lv' := [(4, .int y17), (3, .int y9), (2, .int y4), (0, .int x0), (1, .int x1)]) hx hb dX0_around_17 hl (by decide) rfl (fun ls hl => ?_)
  refine lv_bipush (v := (7 : Int32)) hx hb dX0_around_19 (by decide) ?_
  refine lv_iload_n hx hb dX0_around_21 rfl (lv_at hl 2 rfl) ?_
  refine lv_iload_n hx hb dX0_around_22 rfl (lv_at hl 4 rfl) ?_
  refine lv_iadd hx hb dX0_around_23 ?_
  refine kMin hx hb (hml.trans hl.1.symm) hown hw5 hw6 hw3 hw7 (by rw [hRf]; decide) (by rw [hRl]; exact Nat.le_of_ble_eq_true rfl) (Nat.zero_le _) (Nat.zero_le _) dX0_around_24 ?_
  refine lv_topi (fun y27 ey27 => ?_)
  have hf := kLt hf ey27
  refine lv_istore (lv' := [(5, .int y27), (4, .int y17), (3, .int y9), (2, .int y4), (0, .int x0), (1, .int x1)]) hx hb dX0_around_27 hl (by decide) rfl (fun ls hl => ?_)
  refine lv_iconst (v := (0 : Int32)) hx hb dX0_around_29 (by decide) ?_
  refine lv_iload_n hx hb dX0_around_30 rfl (lv_at hl 2 rfl) ?_
  refine lv_iload_n hx hb dX0_around_31 rfl (lv_at hl 5 rfl) ?_
  refine lv_isub hx hb dX0_around_32 ?_
  refine kMax hx hb (hml.trans hl.1.symm) hown hw1 hw2 hw3 hw4 (by rw [hRf]; decide) (by rw [hRl]; exact Nat.le_of_ble_eq_true rfl) (Nat.zero_le _) (Nat.zero_le _) dX0_around_33 ?_
  refine lv_topi (fun y36 ey36 => ?_)
  have hf := kLt hf ey36
  refine lv_istore (lv' := [(6, .int y36), (5, .int y27), (4, .int y17), (3, .int y9), (2, .int y4), (0, .int x0), (1, .int x1)]) hx hb dX0_around_36 hl (by decide) rfl (fun ls hl => ?_)
  refine lv_bipush (v := (7 : Int32)) hx hb dX0_around_38 (by decide) ?_
  refine lv_iload_n hx hb dX0_around_40 rfl (lv_at hl 3 rfl) ?_
  refine lv_iload_n hx hb dX0_around_41 rfl (lv_at hl 6 rfl) ?_
  refine lv_iadd hx hb dX0_around_42 ?_
  refine kMin hx hb (hml.trans hl.1.symm) hown hw5 hw6 hw3 hw7 (by rw [hRf]; decide) (by rw [hRl]; exact Nat.le_of_ble_eq_true rfl) (Nat.zero_le _) (Nat.zero_le _) dX0_around_43 ?_
  refine lv_topi (fun y46 ey46 => ?_)
  have hf := kLt hf ey46
  refine lv_istore (lv' := [(7, .int y46), (6, .int y36), (5, .int y27), (4, .int y17), (3, .int y9), (2, .int y4), (0, .int x0), (1, .int x1)]) hx hb dX0_around_46 hl (by decide) rfl (fun ls hl => ?_)
  refine lv_ldc2 (v := (-1 : Int64)) hx hb hown hw8 dX0_around_48 ?_
  refine lv_bipush (v := (8 : Int32)) hx hb dX0_around_51 (by decide) ?_
  refine lv_iload hx hb dX0_around_53 (lv_at hl 3 rfl) ?_
  refine lv_imul hx hb dX0_around_55 ?_
  refine lv_lshl (v := (jshlL (-1 : Int64) ((8 : Int32) * y17))) hx hb dX0_around_56 rfl ?_
  refine lv_ldc2 (v := (-1 : Int64)) hx hb hown hw8 dX0_around_57 ?_
  refine lv_bipush (v := (8 : Int32)) hx hb dX0_around_60 (by decide) ?_
  refine lv_bipush (v := (7 : Int32)) hx hb dX0_around_62 (by decide) ?_
  refine lv_iload hx hb dX0_around_64 (lv_at hl 2 rfl) ?_
  refine lv_isub hx hb dX0_around_66 ?_
  refine lv_imul hx hb dX0_around_67 ?_
  refine lv_lushr (v := (jushrL (-1 : Int64) ((8 : Int32) * ((7 : Int32) - y27)))) hx hb dX0_around_68 rfl ?_
  refine lv_land hx hb dX0_around_69 ?_
  refine lv_topl (fun y70 ey70 => ?_)
  have hf := kLt hf ey70
  refine lv_lstore (lv' := [(8, .long y70), (7, .int y46), (6, .int y36), (5, .int y27), (4, .int y17), (3, .int y9), (2, .int y4), (0, .int x0), (1, .int x1)]) hx hb dX0_around_70 hl (by decide) rfl (fun ls hl => ?_)
  refine lv_ldc2 (v := (255 : Int64)) hx hb hown hw9 dX0_around_72 ?_
  refine lv_iload hx hb dX0_around_75 (lv_at hl 2 rfl) ?_
  refine lv_lshl (v := (jshlL (255 : Int64) y36)) hx hb dX0_around_77 rfl ?_
  refine lv_ldc2 (v := (255 : Int64)) hx hb hown hw9 dX0_around_78 ?_
  refine lv_bipush (v := (7 : Int32)) hx hb dX0_around_81 (by decide) ?_
  refine lv_iload hx hb dX0_around_83 (lv_at hl 1 rfl) ?_
  refine lv_isub hx hb dX0_around_85 ?_
  refine lv_lushr (v := (jushrL (255 : Int64) ((7 : Int32) - y46))) hx hb dX0_around_86 rfl ?_
  refine lv_land hx hb dX0_around_87 ?_
  refine lv_topl (fun y88 ey88 => ?_)
  have hf := kLt hf ey88
  refine lv_lstore (lv' := [(10, .long y88), (8, .long y70), (7, .int y46), (6, .int y36), (5, .int y27), (4, .int y17), (3, .int y9), (2, .int y4), (0, .int x0), (1, .int x1)]) hx hb dX0_around_88 hl (by decide) rfl (fun ls hl => ?_)
  refine lv_lload hx hb dX0_around_90 (lv_at hl 1 rfl) ?_
  refine lv_lload hx hb dX0_around_92 (lv_at hl 0 rfl) ?_
  refine lv_ldc2 (v := (72340172838076673 : Int64)) hx hb hown hw10 dX0_around_94 ?_
  refine lv_lmul hx hb dX0_around_97 ?_
  refine lv_land hx hb dX0_around_98 ?_
  exact kRetL hx hb hr hlk hP hD hS hf.symm rfl hQ dX0_around_99
theorem kyX0_spread : kY yX0_spread cX0_spread 8 (some .long) wsX0_spread wsX0_spread.tail 1 := ⟨rfl, by decide, by decide, by decide +kernel⟩
set_option maxHeartbeats 4000000 in
set_option maxRecDepth 100000 in
theorem k_X0_spread (l : Launch) (D : va_G) (ct : ClassId × ClassId × ClassId) (z : Nat × Nat)  (x0 : Int64)  : kC l D ct z yX0_spread wsX0_spread 0 0 [.long x0] ([]) (some (.long (f_X0_spread x0))) ([]) := by
  refine kHead (cc := cX0_spread) (maxL := 8) (ret := (some .long)) [(0, .long x0)] (by decide) rfl (Nat.le_of_ble_eq_true rfl) rfl ?_
  intro p e s m args below meth c A ls R Q hRf hRl hQ hx hb hr hlk hml hown hts hA hS hK hP hD hl
  have hw1 := hts (Cond.constantLong RX0 54 (-72340172838076674)) (List.mem_of_getElem? (i := 1) (by decide +kernel))
  have kc0 : (0 : Int32).toInt = 0 := by decide
  have kc1 : (1 : Int32).toInt = 1 := by decide
  have kc8 : (8 : Int32).toInt = 8 := by decide
  have klm72340172838076674 : (-72340172838076674 : Int64).toInt = -72340172838076674 := by decide
  have hf : f_X0_spread x0 = f_X0_spread x0 := rfl
  refine lv_lload_n hx hb dX0_spread_0 rfl (lv_at hl 0 rfl) ?_
  refine lv_ldc2 (v := (-72340172838076674 : Int64)) hx hb hown hw1 dX0_spread_1 ?_
  refine lv_land hx hb dX0_spread_4 ?_
  refine lv_iconst (v := (1 : Int32)) hx hb dX0_spread_5 (by decide) ?_
  refine lv_lushr (v := (jushrL (x0 &&& (-72340172838076674 : Int64)) (1 : Int32))) hx hb dX0_spread_6 rfl ?_
  refine lv_topl (fun y7 ey7 => ?_)
  have hf := kLt hf ey7
  refine lv_lstore_n (lv' := [(2, .long y7), (0, .long x0)]) hx hb dX0_spread_7 rfl hl (by decide) rfl (fun ls hl => ?_)
  refine lv_lload_n hx hb dX0_spread_8 rfl (lv_at hl 1 rfl) ?_
  refine lv_iconst (v := (1 : Int32)) hx hb dX0_spread_9 (by decide) ?_
  refine lv_lshl (v := (jshlL x0 (1 : Int32))) hx hb dX0_spread_10 rfl ?_
  refine lv_ldc2 (v := (-72340172838076674 : Int64)) hx hb hown hw1 dX0_spread_11 ?_
  refine lv_land hx hb dX0_spread_14 ?_
  refine lv_topl (fun y15 ey15 => ?_)
  have hf := kLt hf ey15
  refine lv_lstore (lv' := [(4, .long y15), (2, .long y7), (0, .long x0)]) hx hb dX0_spread_15 hl (by decide) rfl (fun ls hl => ?_)
  refine lv_lload_n hx hb dX0_spread_17 rfl (lv_at hl 2 rfl) ?_
  refine lv_lload_n hx hb dX0_spread_18 rfl (lv_at hl 1 rfl) ?_
  refine lv_lor hx hb dX0_spread_19 ?_
  refine lv_lload hx hb dX0_spread_20 (lv_at hl 0 rfl) ?_
  refine lv_lor hx hb dX0_spread_22 ?_
  refine lv_topl (fun y23 ey23 => ?_)
  have hf := kLt hf ey23
  refine lv_lstore (lv' := [(6, .long y23), (4, .long y15), (2, .long y7), (0, .long x0)]) hx hb dX0_spread_23 hl (by decide) rfl (fun ls hl => ?_)
  refine lv_lload hx hb dX0_spread_25 (lv_at hl 0 rfl) ?_
  refine lv_lload hx hb dX0_spread_27 (lv_at hl 0 rfl) ?_
  refine lv_bipush (v := (8 : Int32)) hx hb dX0_spread_29 (by decide) ?_
  refine lv_lshl (v := (jshlL y23 (8 : Int32))) hx hb dX0_spread_31 rfl ?_
  refine lv_lor hx hb dX0_spread_32 ?_
  refine lv_lload hx hb dX0_spread_33 (lv_at hl 0 rfl) ?_
  refine lv_bipush (v := (8 : Int32)) hx hb dX0_spread_35 (by decide) ?_
  refine lv_lushr (v := (jushrL y23 (8 : Int32))) hx hb dX0_spread_37 rfl ?_
  refine lv_lor hx hb dX0_spread_38 ?_
  exact kRetL hx hb hr hlk hP hD hS hf.symm rfl hQ dX0_spread_39
theorem kyX0_leastWayInto : kY yX0_leastWayInto cX0_leastWayInto 4 (some .int) wsX0_leastWayInto wsX0_leastWayInto.tail 2 := ⟨rfl, by decide, by decide, by decide +kernel⟩
set_option maxHeartbeats 4000000 in
set_option maxRecDepth 100000 in
theorem k_X0_leastWayInto (l : Launch) (D : va_G) (ct : ClassId × ClassId × ClassId) (z : Nat × Nat)  (x0 : Int32) (x1 : Int64)  : kC l D ct z yX0_leastWayInto wsX0_leastWayInto 2 46 [.int x0, .long x1] ([]) (some (.int (f_X0_leastWayInto x0 x1))) ([]) := by
  refine kHead (cc := cX0_leastWayInto) (maxL := 4) (ret := (some .int)) [(0, .int x0), (1, .long x1)] (by decide) rfl (Nat.le_of_ble_eq_true rfl) rfl ?_
  intro p e s m args below meth c A ls R Q hRf hRl hQ hx hb hr hlk hml hown hts hA hS hK hP hD hl
  have kcm6 : (-6 : Int32).toInt = -6 := by decide
  have kc0 : (0 : Int32).toInt = 0 := by decide
  have kc1 : (1 : Int32).toInt = 1 := by decide
  have kc8 : (8 : Int32).toInt = 8 := by decide
  have hf : f_X0_leastWayInto x0 x1 = f_X0_leastWayInto x0 x1 := rfl
  refine lv_iconst (v := (0 : Int32)) hx hb dX0_leastWayInto_0 (by decide) ?_
  refine lv_istore_n (lv' := [(3, .int (0 : Int32)), (0, .int x0), (1, .long x1)]) hx hb dX0_leastWayInto_1 rfl hl (by decide) rfl (fun ls hl => ?_)
  have lp2 : ∀ (K : Unit → Int32), (∀ (H : Heap) (locs : List Loc) (ls : Array Slot), va_P D vwCl ([]) H → va_D A ([]) → va_S A s.heap H locs → lv_has ls 4 [] → f_X0_leastWayInto x0 x1 = K () → W p l e R s m args below meth c H locs 0 0 Q (F0 m 28 ls [])) → ∀ (n : Nat) (z2_3 : Int32), ∀ (H : Heap) (locs : List Loc) (ls : Array Slot), (8 ≤ Int32.toInt z2_3 + (n : Int)) → va_P D vwCl ([]) H → va_D A ([]) → va_S A s.heap H locs → lv_has ls 4 [(3, .int z2_3), (0, .int x0), (1, .long x1)] → f_X0_leastWayInto x0 x1 = f_X0_leastWayInto_L2 x0 x1 K n z2_3 → W p l e R s m args below meth c H locs 0 0 Q (F0 m 2 ls []) := by
    intro K hk n
    induction n with
    | zero =>
      intro z2_3  H locs ls hn2 hP hD hS hl hf
      refine lv_iload_n hx hb dX0_leastWayInto_2 rfl (lv_at hl 0 rfl) ?_
      refine lv_bipush (v := (8 : Int32)) hx hb dX0_leastWayInto_3 (by decide) ?_
      refine lv_icmp_ge (tgt := 28) hx hb dX0_leastWayInto_5 (by decide) (fun c_3 => ?_) (fun c_3 => ?_)
      · have t_3 := ti_le c_3
        exact hk  _ _ _  hP hD hS (lv_sub hl [] rfl) hf
      · have t_3 := ti_nle c_3
        exfalso
        omega
    | succ n ih =>
      intro z2_3  H locs ls hn2 hP hD hS hl hf
      refine lv_iload_n hx hb dX0_leastWayInto_2 rfl (lv_at hl 0 rfl) ?_
      refine lv_bipush (v := (8 : Int32)) hx hb dX0_leastWayInto_3 (by decide) ?_
      refine lv_icmp_ge (tgt := 28) hx hb dX0_leastWayInto_5 (by decide) (fun c_1 => ?_) (fun c_1 => ?_)
      · have hf := kIt hf c_1
        have t_1 := ti_le c_1
        exact hk  _ _ _  hP hD hS (lv_sub hl [] rfl) hf
      · have hf := kIf hf c_1
        have t_1 := ti_nle c_1
        refine lv_lload_n hx hb dX0_leastWayInto_8 rfl (lv_at hl 2 rfl) ?_
        refine lv_iload_n hx hb dX0_leastWayInto_9 rfl (lv_at hl 1 rfl) ?_
        refine lv_iload_n hx hb dX0_leastWayInto_10 rfl (lv_at hl 0 rfl) ?_
        have hM : kC l D ct z yX0_next wsX0_next 1 25 [.int x0, .int z2_3] ([]) (some (.int (f_X0_next x0 z2_3))) ([]) := k_X0_next l D ct z x0 z2_3
        refine kS0 (As := [.int x0, .int z2_3]) (rest := [.long x1]) ⟨hx, hb, hml, hown, hts⟩ hM gX0_leastWayInto_X0_next kyX0_next (by rw [hRf, hRl]; exact ⟨Nat.le_of_ble_eq_true rfl, Nat.le_of_ble_eq_true rfl⟩) hK hP hD hS hA rfl hl.1 rfl (st1 := [.int (f_X0_next x0 z2_3), .long x1]) rfl rfl ⟨Nat.zero_le _, Nat.zero_le _⟩ dX0_leastWayInto_11 (fun H locs hP hD hS => ?_)
        have hM : kC l D ct z yX0_holds wsX0_holds 0 0 [.long x1, .int (f_X0_next x0 z2_3)] ([]) (some (.int (f_X0_holds x1 (f_X0_next x0 z2_3)))) ([]) := k_X0_holds l D ct z x1 (f_X0_next x0 z2_3)
        refine kS0 (As := [.long x1, .int (f_X0_next x0 z2_3)]) (rest := []) ⟨hx, hb, hml, hown, hts⟩ hM gX0_leastWayInto_X0_holds kyX0_holds (by rw [hRf, hRl]; exact ⟨Nat.le_of_ble_eq_true rfl, Nat.le_of_ble_eq_true rfl⟩) hK hP hD hS hA rfl hl.1 rfl (st1 := [.int (f_X0_holds x1 (f_X0_next x0 z2_3))]) rfl rfl ⟨Nat.zero_le _, Nat.zero_le _⟩ dX0_leastWayInto_14 (fun H locs hP hD hS => ?_)
        refine lv_if_eq (tgt := 22) hx hb dX0_leastWayInto_17 (by decide) (fun c_2 => ?_) (fun c_2 => ?_)
        · have hf := kIt hf c_2
          have t_2 := ti_eq c_2
          obtain ⟨y22, ey22⟩ : ∃ y : Int32, y = z2_3 + (1 : Int32) := ⟨_, rfl⟩
          have hf := kLt hf ey22
          have a22 : Int32.toInt y22 = Int32.toInt z2_3 + 1 := by have := ti_rng z2_3; rw [ey22]; exact ti_add (by rw [kc1]) (by omega) (by omega)
          refine lv_iinc (v := y22) (lv' := [(3, .int y22), (0, .int x0), (1, .long x1)]) hx hb dX0_leastWayInto_22 hl (k := 0) rfl (by rw [ey22]; rfl) (by decide) rfl (fun ls hl => ?_)
          refine lv_goto (tgt := 2) hx hb dX0_leastWayInto_25 (by decide) ?_
          exact ih y22 _ _ _ (by first | assumption | exact vin (by omega) (by omega) | omega) hP hD hS (lv_sub hl [0, 1, 2] rfl) hf
        · have hf := kIf hf c_2
          have t_2 := ti_ne c_2
          refine lv_iload_n hx hb dX0_leastWayInto_20 rfl (lv_at hl 0 rfl) ?_
          exact kRetI hx hb hr hlk hP hD hS hf.symm rfl hQ dX0_leastWayInto_21
  refine lp2 _ (fun   H locs ls  hP hD hS hl hf => ?_) (8) (0 : Int32)  _ _ _ (by first | assumption | exact vin (by omega) (by omega) | omega) hP hD hS (lv_sub hl [0, 1, 2] rfl) hf
  refine lv_bipush (v := (-6 : Int32)) hx hb dX0_leastWayInto_28 (by decide) ?_
  exact kRetI hx hb hr hlk hP hD hS hf.symm rfl hQ dX0_leastWayInto_30
theorem kyX0_tacksFrom : kY yX0_tacksFrom cX0_tacksFrom 1 (some .long) wsX0_tacksFrom wsX0_tacksFrom.tail 1 := ⟨rfl, by decide, by decide, by decide +kernel⟩
set_option maxHeartbeats 4000000 in
set_option maxRecDepth 100000 in
theorem k_X0_tacksFrom (l : Launch) (D : va_G) (ct : ClassId × ClassId × ClassId) (z : Nat × Nat)  (x0 : Int32)  : kC l D ct z yX0_tacksFrom wsX0_tacksFrom 1 25 [.int x0] ([]) (some (.long (f_X0_tacksFrom x0))) ([]) := by
  refine kHead (cc := cX0_tacksFrom) (maxL := 1) (ret := (some .long)) [(0, .int x0)] (by decide) rfl (Nat.le_of_ble_eq_true rfl) rfl ?_
  intro p e s m args below meth c A ls R Q hRf hRl hQ hx hb hr hlk hml hown hts hA hS hK hP hD hl
  have kcm2 : (-2 : Int32).toInt = -2 := by decide
  have kcm1 : (-1 : Int32).toInt = -1 := by decide
  have kc0 : (0 : Int32).toInt = 0 := by decide
  have kc1 : (1 : Int32).toInt = 1 := by decide
  have hf : f_X0_tacksFrom x0 = f_X0_tacksFrom x0 := rfl
  refine lv_iload_n hx hb dX0_tacksFrom_0 rfl (lv_at hl 0 rfl) ?_
  refine lv_bipush (v := (-2 : Int32)) hx hb dX0_tacksFrom_1 (by decide) ?_
  refine lv_iconst (v := (1 : Int32)) hx hb dX0_tacksFrom_3 (by decide) ?_
  have hM : kC l D ct z yX0_moved wsX0_moved 0 0 [.int x0, .int (-2 : Int32), .int (1 : Int32)] ([]) (some (.int (f_X0_moved x0 (-2 : Int32) (1 : Int32)))) ([]) := k_X0_moved l D ct z x0 (-2 : Int32) (1 : Int32)
  refine kS0 (As := [.int x0, .int (-2 : Int32), .int (1 : Int32)]) (rest := []) ⟨hx, hb, hml, hown, hts⟩ hM gX0_tacksFrom_X0_moved kyX0_moved (by rw [hRf, hRl]; exact ⟨Nat.le_of_ble_eq_true rfl, Nat.le_of_ble_eq_true rfl⟩) hK hP hD hS hA rfl hl.1 rfl (st1 := [.int (f_X0_moved x0 (-2 : Int32) (1 : Int32))]) rfl rfl ⟨Nat.zero_le _, Nat.zero_le _⟩ dX0_tacksFrom_4 (fun H locs hP hD hS => ?_)
  have hM : kC l D ct z yX0_only wsX0_only 0 0 [.int (f_X0_moved x0 (-2 : Int32) (1 : Int32))] ([]) (some (.long (f_X0_only (f_X0_moved x0 (-2 : Int32) (1 : Int32))))) ([]) := k_X0_only l D ct z (f_X0_moved x0 (-2 : Int32) (1 : Int32))
  refine kS0 (As := [.int (f_X0_moved x0 (-2 : Int32) (1 : Int32))]) (rest := []) ⟨hx, hb, hml, hown, hts⟩ hM gX0_tacksFrom_X0_only kyX0_only (by rw [hRf, hRl]; exact ⟨Nat.le_of_ble_eq_true rfl, Nat.le_of_ble_eq_true rfl⟩) hK hP hD hS hA rfl hl.1 rfl (st1 := [.long (f_X0_only (f_X0_moved x0 (-2 : Int32) (1 : Int32)))]) rfl rfl ⟨Nat.zero_le _, Nat.zero_le _⟩ dX0_tacksFrom_7 (fun H locs hP hD hS => ?_)
  refine lv_iload_n hx hb dX0_tacksFrom_10 rfl (lv_at hl 0 rfl) ?_
  refine lv_bipush (v := (-2 : Int32)) hx hb dX0_tacksFrom_11 (by decide) ?_
  refine lv_iconst (v := (-1 : Int32)) hx hb dX0_tacksFrom_13 (by decide) ?_
  have hM : kC l D ct z yX0_moved wsX0_moved 0 0 [.int x0, .int (-2 : Int32), .int (-1 : Int32)] ([]) (some (.int (f_X0_moved x0 (-2 : Int32) (-1 : Int32)))) ([]) := k_X0_moved l D ct z x0 (-2 : Int32) (-1 : Int32)
  refine kS0 (As := [.int x0, .int (-2 : Int32), .int (-1 : Int32)]) (rest := [.long (f_X0_only (f_X0_moved x0 (-2 : Int32) (1 : Int32)))]) ⟨hx, hb, hml, hown, hts⟩ hM gX0_tacksFrom_X0_moved kyX0_moved (by rw [hRf, hRl]; exact ⟨Nat.le_of_ble_eq_true rfl, Nat.le_of_ble_eq_true rfl⟩) hK hP hD hS hA rfl hl.1 rfl (st1 := [.int (f_X0_moved x0 (-2 : Int32) (-1 : Int32)), .long (f_X0_only (f_X0_moved x0 (-2 : Int32) (1 : Int32)))]) rfl rfl ⟨Nat.zero_le _, Nat.zero_le _⟩ dX0_tacksFrom_14 (fun H locs hP hD hS => ?_)
  have hM : kC l D ct z yX0_only wsX0_only 0 0 [.int (f_X0_moved x0 (-2 : Int32) (-1 : Int32))] ([]) (some (.long (f_X0_only (f_X0_moved x0 (-2 : Int32) (-1 : Int32))))) ([]) := k_X0_only l D ct z (f_X0_moved x0 (-2 : Int32) (-1 : Int32))
  refine kS0 (As := [.int (f_X0_moved x0 (-2 : Int32) (-1 : Int32))]) (rest := [.long (f_X0_only (f_X0_moved x0 (-2 : Int32) (1 : Int32)))]) ⟨hx, hb, hml, hown, hts⟩ hM gX0_tacksFrom_X0_only kyX0_only (by rw [hRf, hRl]; exact ⟨Nat.le_of_ble_eq_true rfl, Nat.le_of_ble_eq_true rfl⟩) hK hP hD hS hA rfl hl.1 rfl (st1 := [.long (f_X0_only (f_X0_moved x0 (-2 : Int32) (-1 : Int32))), .long (f_X0_only (f_X0_moved x0 (-2 : Int32) (1 : Int32)))]) rfl rfl ⟨Nat.zero_le _, Nat.zero_le _⟩ dX0_tacksFrom_17 (fun H locs hP hD hS => ?_)
  refine lv_lor hx hb dX0_tacksFrom_20 ?_
  refine lv_iload_n hx hb dX0_tacksFrom_21 rfl (lv_at hl 0 rfl) ?_
  refine lv_iconst (v := (1 : Int32)) hx hb dX0_tacksFrom_22 (by decide) ?_
  refine lv_bipush (v := (-2 : Int32)) hx hb dX0_tacksFrom_23 (by decide) ?_
  have hM : kC l D ct z yX0_moved wsX0_moved 0 0 [.int x0, .int (1 : Int32), .int (-2 : Int32)] ([]) (some (.int (f_X0_moved x0 (1 : Int32) (-2 : Int32)))) ([]) := k_X0_moved l D ct z x0 (1 : Int32) (-2 : Int32)
  refine kS0 (As := [.int x0, .int (1 : Int32), .int (-2 : Int32)]) (rest := [.long ((f_X0_only (f_X0_moved x0 (-2 : Int32) (1 : Int32))) ||| (f_X0_only (f_X0_moved x0 (-2 : Int32) (-1 : Int32))))]) ⟨hx, hb, hml, hown, hts⟩ hM gX0_tacksFrom_X0_moved kyX0_moved (by rw [hRf, hRl]; exact ⟨Nat.le_of_ble_eq_true rfl, Nat.le_of_ble_eq_true rfl⟩) hK hP hD hS hA rfl hl.1 rfl (st1 := [.int (f_X0_moved x0 (1 : Int32) (-2 : Int32)), .long ((f_X0_only (f_X0_moved x0 (-2 : Int32) (1 : Int32))) ||| (f_X0_only (f_X0_moved x0 (-2 : Int32) (-1 : Int32))))]) rfl rfl ⟨Nat.zero_le _, Nat.zero_le _⟩ dX0_tacksFrom_25 (fun H locs hP hD hS => ?_)
  have hM : kC l D ct z yX0_only wsX0_only 0 0 [.int (f_X0_moved x0 (1 : Int32) (-2 : Int32))] ([]) (some (.long (f_X0_only (f_X0_moved x0 (1 : Int32) (-2 : Int32))))) ([]) := k_X0_only l D ct z (f_X0_moved x0 (1 : Int32) (-2 : Int32))
  refine kS0 (As := [.int (f_X0_moved x0 (1 : Int32) (-2 : Int32))]) (rest := [.long ((f_X0_only (f_X0_moved x0 (-2 : Int32) (1 : Int32))) ||| (f_X0_only (f_X0_moved x0 (-2 : Int32) (-1 : Int32))))]) ⟨hx, hb, hml, hown, hts⟩ hM gX0_tacksFrom_X0_only kyX0_only (by rw [hRf, hRl]; exact ⟨Nat.le_of_ble_eq_true rfl, Nat.le_of_ble_eq_true rfl⟩) hK hP hD hS hA rfl hl.1 rfl (st1 := [.long (f_X0_only (f_X0_moved x0 (1 : Int32) (-2 : Int32))), .long ((f_X0_only (f_X0_moved x0 (-2 : Int32) (1 : Int32))) ||| (f_X0_only (f_X0_moved x0 (-2 : Int32) (-1 : Int32))))]) rfl rfl ⟨Nat.zero_le _, Nat.zero_le _⟩ dX0_tacksFrom_28 (fun H locs hP hD hS => ?_)
  refine lv_lor hx hb dX0_tacksFrom_31 ?_
  refine lv_iload_n hx hb dX0_tacksFrom_32 rfl (lv_at hl 0 rfl) ?_
  refine lv_iconst (v := (-1 : Int32)) hx hb dX0_tacksFrom_33 (by decide) ?_
  refine lv_bipush (v := (-2 : Int32)) hx hb dX0_tacksFrom_34 (by decide) ?_
  have hM : kC l D ct z yX0_moved wsX0_moved 0 0 [.int x0, .int (-1 : Int32), .int (-2 : Int32)] ([]) (some (.int (f_X0_moved x0 (-1 : Int32) (-2 : Int32)))) ([]) := k_X0_moved l D ct z x0 (-1 : Int32) (-2 : Int32)
  refine kS0 (As := [.int x0, .int (-1 : Int32), .int (-2 : Int32)]) (rest := [.long (((f_X0_only (f_X0_moved x0 (-2 : Int32) (1 : Int32))) ||| (f_X0_only (f_X0_moved x0 (-2 : Int32) (-1 : Int32)))) ||| (f_X0_only (f_X0_moved x0 (1 : Int32) (-2 : Int32))))]) ⟨hx, hb, hml, hown, hts⟩ hM gX0_tacksFrom_X0_moved kyX0_moved (by rw [hRf, hRl]; exact ⟨Nat.le_of_ble_eq_true rfl, Nat.le_of_ble_eq_true rfl⟩) hK hP hD hS hA rfl hl.1 rfl (st1 := [.int (f_X0_moved x0 (-1 : Int32) (-2 : Int32)), .long (((f_X0_only (f_X0_moved x0 (-2 : Int32) (1 : Int32))) ||| (f_X0_only (f_X0_moved x0 (-2 : Int32) (-1 : Int32)))) ||| (f_X0_only (f_X0_moved x0 (1 : Int32) (-2 : Int32))))]) rfl rfl ⟨Nat.zero_le _, Nat.zero_le _⟩ dX0_tacksFrom_36 (fun H locs hP hD hS => ?_)
  have hM : kC l D ct z yX0_only wsX0_only 0 0 [.int (f_X0_moved x0 (-1 : Int32) (-2 : Int32))] ([]) (some (.long (f_X0_only (f_X0_moved x0 (-1 : Int32) (-2 : Int32))))) ([]) := k_X0_only l D ct z (f_X0_moved x0 (-1 : Int32) (-2 : Int32))
  refine kS0 (As := [.int (f_X0_moved x0 (-1 : Int32) (-2 : Int32))]) (rest := [.long (((f_X0_only (f_X0_moved x0 (-2 : Int32) (1 : Int32))) ||| (f_X0_only (f_X0_moved x0 (-2 : Int32) (-1 : Int32)))) ||| (f_X0_only (f_X0_moved x0 (1 : Int32) (-2 : Int32))))]) ⟨hx, hb, hml, hown, hts⟩ hM gX0_tacksFrom_X0_only kyX0_only (by rw [hRf, hRl]; exact ⟨Nat.le_of_ble_eq_true rfl, Nat.le_of_ble_eq_true rfl⟩) hK hP hD hS hA rfl hl.1 rfl (st1 := [.long (f_X0_only (f_X0_moved x0 (-1 : Int32) (-2 : Int32))), .long (((f_X0_only (f_X0_moved x0 (-2 : Int32) (1 : Int32))) ||| (f_X0_only (f_X0_moved x0 (-2 : Int32) (-1 : Int32)))) ||| (f_X0_only (f_X0_moved x0 (1 : Int32) (-2 : Int32))))]) rfl rfl ⟨Nat.zero_le _, Nat.zero_le _⟩ dX0_tacksFrom_39 (fun H locs hP hD hS => ?_)
  refine lv_lor hx hb dX0_tacksFrom_42 ?_
  exact kRetL hx hb hr hlk hP hD hS hf.symm rfl hQ dX0_tacksFrom_43
theorem kyX0_cellsWhereTackingLoses : kY yX0_cellsWhereTackingLoses cX0_cellsWhereTackingLoses 5 (some .long) wsX0_cellsWhereTackingLoses wsX0_cellsWhereTackingLoses.tail 0 := ⟨rfl, by decide, by decide, by decide +kernel⟩
set_option maxHeartbeats 4000000 in
set_option maxRecDepth 100000 in
theorem k_X0_cellsWhereTackingLoses (l : Launch) (D : va_G) (ct : ClassId × ClassId × ClassId) (z : Nat × Nat)    : kC l D ct z yX0_cellsWhereTackingLoses wsX0_cellsWhereTackingLoses 2 45 [] ([]) (some (.long (f_X0_cellsWhereTackingLoses))) ([]) := by
  refine kHead (cc := cX0_cellsWhereTackingLoses) (maxL := 5) (ret := (some .long)) [] (by decide) rfl (Nat.le_of_ble_eq_true rfl) rfl ?_
  intro p e s m args below meth c A ls R Q hRf hRl hQ hx hb hr hlk hml hown hts hA hS hK hP hD hl
  have hw1 := hts (Cond.methodLink RX0 40 Lib.Math.max.name) (List.mem_of_getElem? (i := 1) (by decide +kernel))
  have hw2 := hts (Cond.static Lib.Math.max.name) (List.mem_of_getElem? (i := 2) (by decide +kernel))
  have hw3 := hts (Cond.initialized "java/lang/Math") (List.mem_of_getElem? (i := 3) (by decide +kernel))
  have hw4 := hts (Cond.code Lib.Math.max.name Lib.Math.max.code 2 (some .int)) (List.mem_of_getElem? (i := 4) (by decide +kernel))
  have hw5 := hts (Cond.methodLink RX0 45 Lib.Math.min.name) (List.mem_of_getElem? (i := 5) (by decide +kernel))
  have hw6 := hts (Cond.static Lib.Math.min.name) (List.mem_of_getElem? (i := 6) (by decide +kernel))
  have hw7 := hts (Cond.code Lib.Math.min.name Lib.Math.min.code 2 (some .int)) (List.mem_of_getElem? (i := 7) (by decide +kernel))
  have kc0 : (0 : Int32).toInt = 0 := by decide
  have kc1 : (1 : Int32).toInt = 1 := by decide
  have kc7 : (7 : Int32).toInt = 7 := by decide
  have kc8 : (8 : Int32).toInt = 8 := by decide
  have kc14 : (14 : Int32).toInt = 14 := by decide
  have kl0 : (0 : Int64).toInt = 0 := by decide
  have hf : f_X0_cellsWhereTackingLoses = f_X0_cellsWhereTackingLoses := rfl
  refine lv_lconst (v := (0 : Int64)) hx hb dX0_cellsWhereTackingLoses_0 (by decide) ?_
  refine lv_lstore_n (lv' := [(0, .long (0 : Int64))]) hx hb dX0_cellsWhereTackingLoses_1 rfl hl (by decide) rfl (fun ls hl => ?_)
  refine lv_iconst (v := (0 : Int32)) hx hb dX0_cellsWhereTackingLoses_2 (by decide) ?_
  refine lv_istore_n (lv' := [(2, .int (0 : Int32)), (0, .long (0 : Int64))]) hx hb dX0_cellsWhereTackingLoses_3 rfl hl (by decide) rfl (fun ls hl => ?_)
  have lp4 : ∀ (K : Int64 → Int64), (∀ (z4_0 : Int64), ∀ (H : Heap) (locs : List Loc) (ls : Array Slot), va_P D vwCl ([]) H → va_D A ([]) → va_S A s.heap H locs → lv_has ls 5 [(0, .long z4_0)] → f_X0_cellsWhereTackingLoses = K z4_0 → W p l e R s m args below meth c H locs 0 0 Q (F0 m 73 ls [])) → ∀ (n : Nat) (z4_2 : Int32) (z4_0 : Int64), ∀ (H : Heap) (locs : List Loc) (ls : Array Slot), (15 ≤ Int32.toInt z4_2 + (n : Int)) → va_P D vwCl ([]) H → va_D A ([]) → va_S A s.heap H locs → lv_has ls 5 [(2, .int z4_2), (0, .long z4_0)] → f_X0_cellsWhereTackingLoses = f_X0_cellsWhereTackingLoses_L4  K n z4_2 z4_0 → W p l e R s m args below meth c H locs 0 0 Q (F0 m 4 ls []) := by
    intro K hk n
    induction n with
    | zero =>
      intro z4_2 z4_0  H locs ls hn4 hP hD hS hl hf
      refine lv_iload_n hx hb dX0_cellsWhereTackingLoses_4 rfl (lv_at hl 0 rfl) ?_
      refine lv_bipush (v := (14 : Int32)) hx hb dX0_cellsWhereTackingLoses_5 (by decide) ?_
      refine lv_icmp_gt (tgt := 73) hx hb dX0_cellsWhereTackingLoses_7 (by decide) (fun c_5 => ?_) (fun c_5 => ?_)
      · have t_5 := ti_lt c_5
        exact hk _ _ _ _  hP hD hS (lv_sub hl [1] rfl) hf
      · have t_5 := ti_nlt c_5
        exfalso
        omega
    | succ n ih =>
      intro z4_2 z4_0  H locs ls hn4 hP hD hS hl hf
      refine lv_iload_n hx hb dX0_cellsWhereTackingLoses_4 rfl (lv_at hl 0 rfl) ?_
      refine lv_bipush (v := (14 : Int32)) hx hb dX0_cellsWhereTackingLoses_5 (by decide) ?_
      refine lv_icmp_gt (tgt := 73) hx hb dX0_cellsWhereTackingLoses_7 (by decide) (fun c_1 => ?_) (fun c_1 => ?_)
      · have hf := kIt hf c_1
        have t_1 := ti_lt c_1
        exact hk _ _ _ _  hP hD hS (lv_sub hl [1] rfl) hf
      · have hf := kIf hf c_1
        have t_1 := ti_nlt c_1
        refine lv_iconst (v := (0 : Int32)) hx hb dX0_cellsWhereTackingLoses_10 (by decide) ?_
        refine lv_iload_n hx hb dX0_cellsWhereTackingLoses_11 rfl (lv_at hl 0 rfl) ?_
        refine lv_bipush (v := (8 : Int32)) hx hb dX0_cellsWhereTackingLoses_12 (by decide) ?_
        refine lv_isub hx hb dX0_cellsWhereTackingLoses_14 ?_
        refine lv_iconst (v := (1 : Int32)) hx hb dX0_cellsWhereTackingLoses_15 (by decide) ?_
        refine lv_iadd hx hb dX0_cellsWhereTackingLoses_16 ?_
        refine kMax hx hb (hml.trans hl.1.symm) hown hw1 hw2 hw3 hw4 (by rw [hRf]; decide) (by rw [hRl]; exact Nat.le_of_ble_eq_true rfl) (Nat.zero_le _) (Nat.zero_le _) dX0_cellsWhereTackingLoses_17 ?_
        refine lv_topi (fun y20 ey20 => ?_)
        have hf := kLt hf ey20
        refine lv_istore_n (lv' := [(3, .int y20), (2, .int z4_2), (0, .long z4_0)]) hx hb dX0_cellsWhereTackingLoses_20 rfl hl (by decide) rfl (fun ls hl => ?_)
        have lp21 : ∀ (K : Int64 → Int64), (∀ (z21_0 : Int64), ∀ (H : Heap) (locs : List Loc) (ls : Array Slot), va_P D vwCl ([]) H → va_D A ([]) → va_S A s.heap H locs → lv_has ls 5 [(2, .int z4_2), (0, .long z21_0)] → f_X0_cellsWhereTackingLoses = K z21_0 → W p l e R s m args below meth c H locs 0 0 Q (F0 m 67 ls [])) → ∀ (n : Nat) (z21_3 : Int32) (z21_0 : Int64), ∀ (H : Heap) (locs : List Loc) (ls : Array Slot), ((jmin z4_2 (7 : Int32)).toInt < z21_3.toInt + (n : Int)) → va_P D vwCl ([]) H → va_D A ([]) → va_S A s.heap H locs → lv_has ls 5 [(3, .int z21_3), (2, .int z4_2), (0, .long z21_0)] → f_X0_cellsWhereTackingLoses = f_X0_cellsWhereTackingLoses_L21 z4_2 K n z21_3 z21_0 → W p l e R s m args below meth c H locs 0 0 Q (F0 m 21 ls []) := by
          intro K hk n
          induction n with
          | zero =>
            intro z21_3 z21_0  H locs ls hn21 hP hD hS hl hf
            refine lv_iload_n hx hb dX0_cellsWhereTackingLoses_21 rfl (lv_at hl 0 rfl) ?_
            refine lv_iload_n hx hb dX0_cellsWhereTackingLoses_22 rfl (lv_at hl 1 rfl) ?_
            refine lv_bipush (v := (7 : Int32)) hx hb dX0_cellsWhereTackingLoses_23 (by decide) ?_
            refine kMin hx hb (hml.trans hl.1.symm) hown hw5 hw6 hw3 hw7 (by rw [hRf]; decide) (by rw [hRl]; exact Nat.le_of_ble_eq_true rfl) (Nat.zero_le _) (Nat.zero_le _) dX0_cellsWhereTackingLoses_25 ?_
            refine lv_icmp_gt (tgt := 67) hx hb dX0_cellsWhereTackingLoses_28 (by decide) (fun c_4 => ?_) (fun c_4 => ?_)
            · have t_4 := ti_lt c_4
              exact hk _ _ _ _  hP hD hS (lv_sub hl [1, 2] rfl) hf
            · have t_4 := ti_nlt c_4
              exfalso
              omega
          | succ n ih =>
            intro z21_3 z21_0  H locs ls hn21 hP hD hS hl hf
            refine lv_iload_n hx hb dX0_cellsWhereTackingLoses_21 rfl (lv_at hl 0 rfl) ?_
            refine lv_iload_n hx hb dX0_cellsWhereTackingLoses_22 rfl (lv_at hl 1 rfl) ?_
            refine lv_bipush (v := (7 : Int32)) hx hb dX0_cellsWhereTackingLoses_23 (by decide) ?_
            refine kMin hx hb (hml.trans hl.1.symm) hown hw5 hw6 hw3 hw7 (by rw [hRf]; decide) (by rw [hRl]; exact Nat.le_of_ble_eq_true rfl) (Nat.zero_le _) (Nat.zero_le _) dX0_cellsWhereTackingLoses_25 ?_
            refine lv_icmp_gt (tgt := 67) hx hb dX0_cellsWhereTackingLoses_28 (by decide) (fun c_2 => ?_) (fun c_2 => ?_)
            · have hf := kIt hf c_2
              have t_2 := ti_lt c_2
              exact hk _ _ _ _  hP hD hS (lv_sub hl [1, 2] rfl) hf
            · have hf := kIf hf c_2
              have t_2 := ti_nlt c_2
              refine lv_bipush (v := (8 : Int32)) hx hb dX0_cellsWhereTackingLoses_31 (by decide) ?_
              refine lv_iload_n hx hb dX0_cellsWhereTackingLoses_33 rfl (lv_at hl 0 rfl) ?_
              refine lv_imul hx hb dX0_cellsWhereTackingLoses_34 ?_
              refine lv_iload_n hx hb dX0_cellsWhereTackingLoses_35 rfl (lv_at hl 1 rfl) ?_
              refine lv_iadd hx hb dX0_cellsWhereTackingLoses_36 ?_
              refine lv_iload_n hx hb dX0_cellsWhereTackingLoses_37 rfl (lv_at hl 0 rfl) ?_
              refine lv_isub hx hb dX0_cellsWhereTackingLoses_38 ?_
              refine lv_topi (fun y39 ey39 => ?_)
              have hf := kLt hf ey39
              refine lv_istore (lv' := [(4, .int y39), (3, .int z21_3), (2, .int z4_2), (0, .long z21_0)]) hx hb dX0_cellsWhereTackingLoses_39 hl (by decide) rfl (fun ls hl => ?_)
              refine lv_iload hx hb dX0_cellsWhereTackingLoses_41 (lv_at hl 0 rfl) ?_
              have hM : kC l D ct z yX0_tacksFrom wsX0_tacksFrom 1 25 [.int y39] ([]) (some (.long (f_X0_tacksFrom y39))) ([]) := k_X0_tacksFrom l D ct z y39
              refine kS0 (As := [.int y39]) (rest := []) ⟨hx, hb, hml, hown, hts⟩ hM gX0_cellsWhereTackingLoses_X0_tacksFrom kyX0_tacksFrom (by rw [hRf, hRl]; exact ⟨Nat.le_of_ble_eq_true rfl, Nat.le_of_ble_eq_true rfl⟩) hK hP hD hS hA rfl hl.1 rfl (st1 := [.long (f_X0_tacksFrom y39)]) rfl rfl ⟨Nat.zero_le _, Nat.zero_le _⟩ dX0_cellsWhereTackingLoses_43 (fun H locs hP hD hS => ?_)
              refine lv_lload_n hx hb dX0_cellsWhereTackingLoses_46 rfl (lv_at hl 3 rfl) ?_
              refine lv_land hx hb dX0_cellsWhereTackingLoses_47 ?_
              refine lv_lconst (v := (0 : Int64)) hx hb dX0_cellsWhereTackingLoses_48 (by decide) ?_
              refine W.lcmp hx hb dX0_cellsWhereTackingLoses_49 ?_
              refine kJn hf (fun j0 => ∀ (z61_0 : Int64), f_X0_cellsWhereTackingLoses = j0 z61_0 → ∀ (H : Heap) (locs : List Loc) (ls : Array Slot), va_P D vwCl ([]) H → va_D A ([]) → va_S A s.heap H locs → lv_has ls 5 [(3, .int z21_3), (2, .int z4_2), (0, .long z61_0)] → W p l e R s m args below meth c H locs 0 0 Q (F0 m 61 ls [])) ?_ ?_
              · intro j0 hj0 z61_0  hf H locs ls hP hD hS hl
                subst hj0
                obtain ⟨y61, ey61⟩ : ∃ y : Int32, y = z21_3 + (1 : Int32) := ⟨_, rfl⟩
                have hf := kLt hf ey61
                have a61 : y61.toInt = z21_3.toInt + 1 := by have := ti_rng z21_3; have := jmin_r z4_2 (7 : Int32); rw [ey61]; exact ti_add (by rw [kc1]) (by omega) (by omega)
                refine lv_iinc (v := y61) (lv' := [(3, .int y61), (2, .int z4_2), (0, .long z61_0)]) hx hb dX0_cellsWhereTackingLoses_61 hl (k := 0) rfl (by rw [ey61]; rfl) (by decide) rfl (fun ls hl => ?_)
                refine lv_goto (tgt := 21) hx hb dX0_cellsWhereTackingLoses_64 (by decide) ?_
                exact ih y61 z61_0 _ _ _ (by first | assumption | exact vin (by omega) (by omega) | omega) hP hD hS (lv_sub hl [0, 1, 2] rfl) hf
              · intro j61 hJ61 hf
                refine lv_if_ne (tgt := 61) hx hb dX0_cellsWhereTackingLoses_50 (by decide) (fun c_3 => ?_) (fun c_3 => ?_)
                · have hf := kIf hf c_3
                  have t_3 := ti_ne c_3
                  exact hJ61 _  hf _ _ _ hP hD hS (lv_sub hl [1, 2, 3] rfl)
                · have hf := kIt hf c_3
                  have t_3 := ti_eq c_3
                  refine lv_lload_n hx hb dX0_cellsWhereTackingLoses_53 rfl (lv_at hl 3 rfl) ?_
                  refine lv_iload hx hb dX0_cellsWhereTackingLoses_54 (lv_at hl 0 rfl) ?_
                  have hM : kC l D ct z yX0_only wsX0_only 0 0 [.int y39] ([]) (some (.long (f_X0_only y39))) ([]) := k_X0_only l D ct z y39
                  refine kS0 (As := [.int y39]) (rest := [.long z21_0]) ⟨hx, hb, hml, hown, hts⟩ hM gX0_cellsWhereTackingLoses_X0_only kyX0_only (by rw [hRf, hRl]; exact ⟨Nat.le_of_ble_eq_true rfl, Nat.le_of_ble_eq_true rfl⟩) hK hP hD hS hA rfl hl.1 rfl (st1 := [.long (f_X0_only y39), .long z21_0]) rfl rfl ⟨Nat.zero_le _, Nat.zero_le _⟩ dX0_cellsWhereTackingLoses_56 (fun H locs hP hD hS => ?_)
                  refine lv_lor hx hb dX0_cellsWhereTackingLoses_59 ?_
                  refine lv_topl (fun y60 ey60 => ?_)
                  have hf := kLt hf ey60
                  refine lv_lstore_n (lv' := [(0, .long y60), (4, .int y39), (3, .int z21_3), (2, .int z4_2)]) hx hb dX0_cellsWhereTackingLoses_60 rfl hl (by decide) rfl (fun ls hl => ?_)
                  exact hJ61 _  hf _ _ _ hP hD hS (lv_sub hl [2, 3, 0] rfl)
        refine lp21 _ (fun w21_0  H locs ls  hP hD hS hl hf => ?_) (64) y20 z4_0  _ _ _ (by have h1 := jmin_r z4_2 (7 : Int32); have h2 := jmax_l (0 : Int32) ((z4_2 - (8 : Int32)) + (1 : Int32)); rw [ey20]; omega) hP hD hS (lv_sub hl [0, 1, 2] rfl) hf
        obtain ⟨y67, ey67⟩ : ∃ y : Int32, y = z4_2 + (1 : Int32) := ⟨_, rfl⟩
        have hf := kLt hf ey67
        have a67 : Int32.toInt y67 = Int32.toInt z4_2 + 1 := by have := ti_rng z4_2; rw [ey67]; exact ti_add (by rw [kc1]) (by omega) (by omega)
        refine lv_iinc (v := y67) (lv' := [(2, .int y67), (0, .long w21_0)]) hx hb dX0_cellsWhereTackingLoses_67 hl (k := 0) rfl (by rw [ey67]; rfl) (by decide) rfl (fun ls hl => ?_)
        refine lv_goto (tgt := 4) hx hb dX0_cellsWhereTackingLoses_70 (by decide) ?_
        exact ih y67 w21_0 _ _ _ (by first | assumption | exact vin (by omega) (by omega) | omega) hP hD hS (lv_sub hl [0, 1] rfl) hf
  refine lp4 _ (fun w4_0  H locs ls  hP hD hS hl hf => ?_) (15) (0 : Int32) (0 : Int64)  _ _ _ (by first | assumption | exact vin (by omega) (by omega) | omega) hP hD hS (lv_sub hl [0, 1] rfl) hf
  refine lv_lload_n hx hb dX0_cellsWhereTackingLoses_73 rfl (lv_at hl 0 rfl) ?_
  exact kRetL hx hb hr hlk hP hD hS hf.symm rfl hQ dX0_cellsWhereTackingLoses_74
