/-! contracts, laid by program (wip/whole/gen.py, ann.py) -/
theorem kyX7_in : kY yX7_in cX7_in 6 (some .boolean) wsX7_in wsX7_in.tail 3 := ⟨rfl, by decide, by decide, by decide +kernel⟩
set_option maxHeartbeats 4000000 in
set_option maxRecDepth 100000 in
theorem k_X7_in (l : Launch) (D : va_G) (ct : ClassId × ClassId × ClassId) (z : Nat × Nat)  (x0 : Int64) (x2 : Int64) (x4 : Int64)  : kC l D ct z yX7_in wsX7_in 0 0 [.long x0, .long x2, .long x4] ([]) (some (.int (f_X7_in x0 x2 x4))) ([]) := by
  refine kHead (cc := cX7_in) (maxL := 6) (ret := (some .boolean)) [(0, .long x0), (2, .long x2), (4, .long x4)] (by decide) rfl (Nat.le_of_ble_eq_true rfl) rfl ?_
  intro p e s m args below meth c A ls R Q hRf hRl hQ hx hb hr hlk hml hown hts hA hS hK hP hD hl
  have kc0 : (0 : Int32).toInt = 0 := by decide
  have kc1 : (1 : Int32).toInt = 1 := by decide
  have hf : f_X7_in x0 x2 x4 = f_X7_in x0 x2 x4 := rfl
  refine lv_lload_n hx hb dX7_in_0 rfl (lv_at hl 0 rfl) ?_
  refine lv_lload_n hx hb dX7_in_1 rfl (lv_at hl 1 rfl) ?_
  refine W.lcmp hx hb dX7_in_2 ?_
  refine lv_if_lt (tgt := 17) hx hb dX7_in_3 (by decide) (fun c_1 => ?_) (fun c_1 => ?_)
  · have hf := kIt hf c_1
    have t_1 := ti_lt c_1
    refine lv_iconst (v := (0 : Int32)) hx hb dX7_in_17 (by decide) ?_
    exact kRetZ hx hb hr hlk hP hD hS (Or.inl rfl) hf.symm rfl hQ dX7_in_18
  · have hf := kIf hf c_1
    have t_1 := ti_nlt c_1
    refine lv_lload_n hx hb dX7_in_6 rfl (lv_at hl 0 rfl) ?_
    refine lv_lload hx hb dX7_in_7 (lv_at hl 2 rfl) ?_
    refine W.lcmp hx hb dX7_in_9 ?_
    refine lv_if_gt (tgt := 17) hx hb dX7_in_10 (by decide) (fun c_2 => ?_) (fun c_2 => ?_)
    · have hf := kIt hf c_2
      have t_2 := ti_lt c_2
      refine lv_iconst (v := (0 : Int32)) hx hb dX7_in_17 (by decide) ?_
      exact kRetZ hx hb hr hlk hP hD hS (Or.inl rfl) hf.symm rfl hQ dX7_in_18
    · have hf := kIf hf c_2
      have t_2 := ti_nlt c_2
      refine lv_iconst (v := (1 : Int32)) hx hb dX7_in_13 (by decide) ?_
      refine lv_goto (tgt := 18) hx hb dX7_in_14 (by decide) ?_
      exact kRetZ hx hb hr hlk hP hD hS (Or.inr rfl) hf.symm rfl hQ dX7_in_18
theorem kyX7_isCell : kY yX7_isCell cX7_isCell 1 (some .boolean) wsX7_isCell wsX7_isCell.tail 1 := ⟨rfl, by decide, by decide, by decide +kernel⟩
set_option maxHeartbeats 4000000 in
set_option maxRecDepth 100000 in
theorem k_X7_isCell (l : Launch) (D : va_G) (ct : ClassId × ClassId × ClassId) (z : Nat × Nat)  (x0 : Int32)  : kC l D ct z yX7_isCell wsX7_isCell 1 25 [.int x0] ([]) (some (.int (f_X7_isCell x0))) ([]) := by
  refine kHead (cc := cX7_isCell) (maxL := 1) (ret := (some .boolean)) [(0, .int x0)] (by decide) rfl (Nat.le_of_ble_eq_true rfl) rfl ?_
  intro p e s m args below meth c A ls R Q hRf hRl hQ hx hb hr hlk hml hown hts hA hS hK hP hD hl
  have hw1 := hts (Cond.constantLong RX7 69 (63)) (List.mem_of_getElem? (i := 1) (by decide +kernel))
  have kc0 : (0 : Int32).toInt = 0 := by decide
  have kl0 : (0 : Int64).toInt = 0 := by decide
  have kl63 : (63 : Int64).toInt = 63 := by decide
  have hf : f_X7_isCell x0 = f_X7_isCell x0 := rfl
  refine lv_iload_n hx hb dX7_isCell_0 rfl (lv_at hl 0 rfl) ?_
  refine lv_i2l (v := (Int32.toInt64 x0)) hx hb dX7_isCell_1 rfl ?_
  refine lv_lconst (v := (0 : Int64)) hx hb dX7_isCell_2 (by decide) ?_
  refine lv_ldc2 (v := (63 : Int64)) hx hb hown hw1 dX7_isCell_3 ?_
  have hM : kC l D ct z yX7_in wsX7_in 0 0 [.long (Int32.toInt64 x0), .long (0 : Int64), .long (63 : Int64)] ([]) (some (.int (f_X7_in (Int32.toInt64 x0) (0 : Int64) (63 : Int64)))) ([]) := k_X7_in l D ct z (Int32.toInt64 x0) (0 : Int64) (63 : Int64)
  refine kS0 (As := [.long (Int32.toInt64 x0), .long (0 : Int64), .long (63 : Int64)]) (rest := []) ⟨hx, hb, hml, hown, hts⟩ hM gX7_isCell_X7_in kyX7_in (by rw [hRf, hRl]; exact ⟨Nat.le_of_ble_eq_true rfl, Nat.le_of_ble_eq_true rfl⟩) hK hP hD hS hA rfl hl.1 rfl (st1 := [.int (f_X7_in (Int32.toInt64 x0) (0 : Int64) (63 : Int64))]) rfl rfl ⟨Nat.zero_le _, Nat.zero_le _⟩ dX7_isCell_6 (fun H locs hP hD hS => ?_)
  exact kRetZ hx hb hr hlk hP hD hS (z_X7_in (Int32.toInt64 x0) (0 : Int64) (63 : Int64)) hf.symm rfl hQ dX7_isCell_9
theorem kyX7_isWay : kY yX7_isWay cX7_isWay 1 (some .boolean) wsX7_isWay wsX7_isWay.tail 1 := ⟨rfl, by decide, by decide, by decide +kernel⟩
set_option maxHeartbeats 4000000 in
set_option maxRecDepth 100000 in
theorem k_X7_isWay (l : Launch) (D : va_G) (ct : ClassId × ClassId × ClassId) (z : Nat × Nat)  (x0 : Int32)  : kC l D ct z yX7_isWay wsX7_isWay 1 25 [.int x0] ([]) (some (.int (f_X7_isWay x0))) ([]) := by
  refine kHead (cc := cX7_isWay) (maxL := 1) (ret := (some .boolean)) [(0, .int x0)] (by decide) rfl (Nat.le_of_ble_eq_true rfl) rfl ?_
  intro p e s m args below meth c A ls R Q hRf hRl hQ hx hb hr hlk hml hown hts hA hS hK hP hD hl
  have hw1 := hts (Cond.constantLong RX7 75 (7)) (List.mem_of_getElem? (i := 1) (by decide +kernel))
  have kc0 : (0 : Int32).toInt = 0 := by decide
  have kl0 : (0 : Int64).toInt = 0 := by decide
  have kl7 : (7 : Int64).toInt = 7 := by decide
  have hf : f_X7_isWay x0 = f_X7_isWay x0 := rfl
  refine lv_iload_n hx hb dX7_isWay_0 rfl (lv_at hl 0 rfl) ?_
  refine lv_i2l (v := (Int32.toInt64 x0)) hx hb dX7_isWay_1 rfl ?_
  refine lv_lconst (v := (0 : Int64)) hx hb dX7_isWay_2 (by decide) ?_
  refine lv_ldc2 (v := (7 : Int64)) hx hb hown hw1 dX7_isWay_3 ?_
  have hM : kC l D ct z yX7_in wsX7_in 0 0 [.long (Int32.toInt64 x0), .long (0 : Int64), .long (7 : Int64)] ([]) (some (.int (f_X7_in (Int32.toInt64 x0) (0 : Int64) (7 : Int64)))) ([]) := k_X7_in l D ct z (Int32.toInt64 x0) (0 : Int64) (7 : Int64)
  refine kS0 (As := [.long (Int32.toInt64 x0), .long (0 : Int64), .long (7 : Int64)]) (rest := []) ⟨hx, hb, hml, hown, hts⟩ hM gX7_isWay_X7_in kyX7_in (by rw [hRf, hRl]; exact ⟨Nat.le_of_ble_eq_true rfl, Nat.le_of_ble_eq_true rfl⟩) hK hP hD hS hA rfl hl.1 rfl (st1 := [.int (f_X7_in (Int32.toInt64 x0) (0 : Int64) (7 : Int64))]) rfl rfl ⟨Nat.zero_le _, Nat.zero_le _⟩ dX7_isWay_6 (fun H locs hP hD hS => ?_)
  exact kRetZ hx hb hr hlk hP hD hS (z_X7_in (Int32.toInt64 x0) (0 : Int64) (7 : Int64)) hf.symm rfl hQ dX7_isWay_9
theorem kyX7_less : kY yX7_less cX7_less 2 (some .int) wsX7_less wsX7_less.tail 2 := ⟨rfl, by decide, by decide, by decide +kernel⟩
set_option maxHeartbeats 4000000 in
set_option maxRecDepth 100000 in
theorem k_X7_less (l : Launch) (D : va_G) (ct : ClassId × ClassId × ClassId) (z : Nat × Nat)  (x0 : Int32) (x1 : Int32)  : kC l D ct z yX7_less wsX7_less 0 0 [.int x0, .int x1] ([]) (some (.int (f_X7_less x0 x1))) ([]) := by
  refine kHead (cc := cX7_less) (maxL := 2) (ret := (some .int)) [(0, .int x0), (1, .int x1)] (by decide) rfl (Nat.le_of_ble_eq_true rfl) rfl ?_
  intro p e s m args below meth c A ls R Q hRf hRl hQ hx hb hr hlk hml hown hts hA hS hK hP hD hl
  have kc0 : (0 : Int32).toInt = 0 := by decide
  have hf : f_X7_less x0 x1 = f_X7_less x0 x1 := rfl
  refine lv_iload_n hx hb dX7_less_0 rfl (lv_at hl 0 rfl) ?_
  refine lv_iload_n hx hb dX7_less_1 rfl (lv_at hl 1 rfl) ?_
  refine lv_icmp_ge (tgt := 9) hx hb dX7_less_2 (by decide) (fun c_1 => ?_) (fun c_1 => ?_)
  · have hf := kIt hf c_1
    have t_1 := ti_le c_1
    refine lv_iload_n hx hb dX7_less_9 rfl (lv_at hl 1 rfl) ?_
    exact kRetI hx hb hr hlk hP hD hS hf.symm rfl hQ dX7_less_10
  · have hf := kIf hf c_1
    have t_1 := ti_nle c_1
    refine lv_iload_n hx hb dX7_less_5 rfl (lv_at hl 0 rfl) ?_
    refine lv_goto (tgt := 10) hx hb dX7_less_6 (by decide) ?_
    exact kRetI hx hb hr hlk hP hD hS hf.symm rfl hQ dX7_less_10
theorem kyX7_off : kY yX7_off cX7_off 2 (some .int) wsX7_off wsX7_off.tail 2 := ⟨rfl, by decide, by decide, by decide +kernel⟩
set_option maxHeartbeats 4000000 in
set_option maxRecDepth 100000 in
theorem k_X7_off (l : Launch) (D : va_G) (ct : ClassId × ClassId × ClassId) (z : Nat × Nat)  (x0 : Int32) (x1 : Int32)  : kC l D ct z yX7_off wsX7_off 0 0 [.int x0, .int x1] ([]) (some (.int (f_X7_off x0 x1))) ([]) := by
  refine kHead (cc := cX7_off) (maxL := 2) (ret := (some .int)) [(0, .int x0), (1, .int x1)] (by decide) rfl (Nat.le_of_ble_eq_true rfl) rfl ?_
  intro p e s m args below meth c A ls R Q hRf hRl hQ hx hb hr hlk hml hown hts hA hS hK hP hD hl
  have kc0 : (0 : Int32).toInt = 0 := by decide
  have hf : f_X7_off x0 x1 = f_X7_off x0 x1 := rfl
  refine lv_iload_n hx hb dX7_off_0 rfl (lv_at hl 0 rfl) ?_
  refine lv_iload_n hx hb dX7_off_1 rfl (lv_at hl 1 rfl) ?_
  refine lv_icmp_ge (tgt := 11) hx hb dX7_off_2 (by decide) (fun c_1 => ?_) (fun c_1 => ?_)
  · have hf := kIt hf c_1
    have t_1 := ti_le c_1
    refine lv_iload_n hx hb dX7_off_11 rfl (lv_at hl 0 rfl) ?_
    refine lv_iload_n hx hb dX7_off_12 rfl (lv_at hl 1 rfl) ?_
    refine lv_isub hx hb dX7_off_13 ?_
    exact kRetI hx hb hr hlk hP hD hS hf.symm rfl hQ dX7_off_14
  · have hf := kIf hf c_1
    have t_1 := ti_nle c_1
    refine lv_iload_n hx hb dX7_off_5 rfl (lv_at hl 1 rfl) ?_
    refine lv_iload_n hx hb dX7_off_6 rfl (lv_at hl 0 rfl) ?_
    refine lv_isub hx hb dX7_off_7 ?_
    refine lv_goto (tgt := 14) hx hb dX7_off_8 (by decide) ?_
    exact kRetI hx hb hr hlk hP hD hS hf.symm rfl hQ dX7_off_14
theorem kyX7_far : kY yX7_far cX7_far 4 (some .int) wsX7_far wsX7_far.tail 2 := ⟨rfl, by decide, by decide, by decide +kernel⟩
set_option maxHeartbeats 4000000 in
set_option maxRecDepth 100000 in
theorem k_X7_far (l : Launch) (D : va_G) (ct : ClassId × ClassId × ClassId) (z : Nat × Nat)  (x0 : Int32) (x1 : Int32)  : kC l D ct z yX7_far wsX7_far 1 21 [.int x0, .int x1] ([]) (some (.int (f_X7_far x0 x1))) ([]) := by
  refine kHead (cc := cX7_far) (maxL := 4) (ret := (some .int)) [(0, .int x0), (1, .int x1)] (by decide) rfl (Nat.le_of_ble_eq_true rfl) rfl ?_
  intro p e s m args below meth c A ls R Q hRf hRl hQ hx hb hr hlk hml hown hts hA hS hK hP hD hl
  have kc0 : (0 : Int32).toInt = 0 := by decide
  have kc8 : (8 : Int32).toInt = 8 := by decide
  have hf : f_X7_far x0 x1 = f_X7_far x0 x1 := rfl
  refine lv_iload_n hx hb dX7_far_0 rfl (lv_at hl 0 rfl) ?_
  refine lv_bipush (v := (8 : Int32)) hx hb dX7_far_1 (by decide) ?_
  refine lv_idiv hx hb dX7_far_3 (by decide) ?_
  refine lv_iload_n hx hb dX7_far_4 rfl (lv_at hl 1 rfl) ?_
  refine lv_bipush (v := (8 : Int32)) hx hb dX7_far_5 (by decide) ?_
  refine lv_idiv hx hb dX7_far_7 (by decide) ?_
  have hM : kC l D ct z yX7_off wsX7_off 0 0 [.int (x0 / (8 : Int32)), .int (x1 / (8 : Int32))] ([]) (some (.int (f_X7_off (x0 / (8 : Int32)) (x1 / (8 : Int32))))) ([]) := k_X7_off l D ct z (x0 / (8 : Int32)) (x1 / (8 : Int32))
  refine kS0 (As := [.int (x0 / (8 : Int32)), .int (x1 / (8 : Int32))]) (rest := []) ⟨hx, hb, hml, hown, hts⟩ hM gX7_far_X7_off kyX7_off (by rw [hRf, hRl]; exact ⟨Nat.le_of_ble_eq_true rfl, Nat.le_of_ble_eq_true rfl⟩) hK hP hD hS hA rfl hl.1 rfl (st1 := [.int (f_X7_off (x0 / (8 : Int32)) (x1 / (8 : Int32)))]) rfl rfl ⟨Nat.zero_le _, Nat.zero_le _⟩ dX7_far_8 (fun H locs hP hD hS => ?_)
  refine lv_topi (fun y11 ey11 => ?_)
  have hf := kLt hf ey11
  refine lv_istore_n (lv' := [(2, .int y11), (0, .int x0), (1, .int x1)]) hx hb dX7_far_11 rfl hl (by decide) rfl (fun ls hl => ?_)
  refine lv_iload_n hx hb dX7_far_12 rfl (lv_at hl 1 rfl) ?_
  refine lv_bipush (v := (8 : Int32)) hx hb dX7_far_13 (by decide) ?_
  refine lv_irem hx hb dX7_far_15 (by decide) ?_
  refine lv_iload_n hx hb dX7_far_16 rfl (lv_at hl 2 rfl) ?_
  refine lv_bipush (v := (8 : Int32)) hx hb dX7_far_17 (by decide) ?_
  refine lv_irem hx hb dX7_far_19 (by decide) ?_
  have hM : kC l D ct z yX7_off wsX7_off 0 0 [.int (jr x0 (8 : Int32)), .int (jr x1 (8 : Int32))] ([]) (some (.int (f_X7_off (jr x0 (8 : Int32)) (jr x1 (8 : Int32))))) ([]) := k_X7_off l D ct z (jr x0 (8 : Int32)) (jr x1 (8 : Int32))
  refine kS0 (As := [.int (jr x0 (8 : Int32)), .int (jr x1 (8 : Int32))]) (rest := []) ⟨hx, hb, hml, hown, hts⟩ hM gX7_far_X7_off kyX7_off (by rw [hRf, hRl]; exact ⟨Nat.le_of_ble_eq_true rfl, Nat.le_of_ble_eq_true rfl⟩) hK hP hD hS hA rfl hl.1 rfl (st1 := [.int (f_X7_off (jr x0 (8 : Int32)) (jr x1 (8 : Int32)))]) rfl rfl ⟨Nat.zero_le _, Nat.zero_le _⟩ dX7_far_20 (fun H locs hP hD hS => ?_)
  refine lv_topi (fun y23 ey23 => ?_)
  have hf := kLt hf ey23
  refine lv_istore_n (lv' := [(3, .int y23), (2, .int y11), (0, .int x0), (1, .int x1)]) hx hb dX7_far_23 rfl hl (by decide) rfl (fun ls hl => ?_)
  refine lv_iload_n hx hb dX7_far_24 rfl (lv_at hl 1 rfl) ?_
  refine lv_iload_n hx hb dX7_far_25 rfl (lv_at hl 0 rfl) ?_
  refine lv_icmp_ge (tgt := 33) hx hb dX7_far_26 (by decide) (fun c_1 => ?_) (fun c_1 => ?_)
  · have hf := kIt hf c_1
    have t_1 := ti_le c_1
    refine lv_iload_n hx hb dX7_far_33 rfl (lv_at hl 1 rfl) ?_
    exact kRetI hx hb hr hlk hP hD hS hf.symm rfl hQ dX7_far_34
  · have hf := kIf hf c_1
    have t_1 := ti_nle c_1
    refine lv_iload_n hx hb dX7_far_29 rfl (lv_at hl 0 rfl) ?_
    refine lv_goto (tgt := 34) hx hb dX7_far_30 (by decide) ?_
    exact kRetI hx hb hr hlk hP hD hS hf.symm rfl hQ dX7_far_34
theorem kyX7_downwards : kY yX7_downwards cX7_downwards 1 (some .int) wsX7_downwards wsX7_downwards.tail 1 := ⟨rfl, by decide, by decide, by decide +kernel⟩
set_option maxHeartbeats 4000000 in
set_option maxRecDepth 100000 in
theorem k_X7_downwards (l : Launch) (D : va_G) (ct : ClassId × ClassId × ClassId) (z : Nat × Nat)  (x0 : Int32)  : kC l D ct z yX7_downwards wsX7_downwards 0 0 [.int x0] ([]) (some (.int (f_X7_downwards x0))) ([]) := by
  refine kHead (cc := cX7_downwards) (maxL := 1) (ret := (some .int)) [(0, .int x0)] (by decide) rfl (Nat.le_of_ble_eq_true rfl) rfl ?_
  intro p e s m args below meth c A ls R Q hRf hRl hQ hx hb hr hlk hml hown hts hA hS hK hP hD hl
  have kcm1 : (-1 : Int32).toInt = -1 := by decide
  have kc0 : (0 : Int32).toInt = 0 := by decide
  have kc1 : (1 : Int32).toInt = 1 := by decide
  have kc2 : (2 : Int32).toInt = 2 := by decide
  have kc6 : (6 : Int32).toInt = 6 := by decide
  have kc7 : (7 : Int32).toInt = 7 := by decide
  have hf : f_X7_downwards x0 = f_X7_downwards x0 := rfl
  refine lv_iload_n hx hb dX7_downwards_0 rfl (lv_at hl 0 rfl) ?_
  refine kJn hf (fun j0 => ∀ (u0 : Unit), f_X7_downwards x0 = j0 () → ∀ (H : Heap) (locs : List Loc) (ls : Array Slot), va_P D vwCl ([]) H → va_D A ([]) → va_S A s.heap H locs → lv_has ls 1 [] → W p l e R s m args below meth c H locs 0 0 Q (F0 m 15 ls [])) ?_ ?_
  · intro j0 hj0 u0  hf H locs ls hP hD hS hl
    subst hj0
    refine lv_iconst (v := (-1 : Int32)) hx hb dX7_downwards_15 (by decide) ?_
    refine lv_goto (tgt := 35) hx hb dX7_downwards_16 (by decide) ?_
    exact kRetI hx hb hr hlk hP hD hS hf.symm rfl hQ dX7_downwards_35
  · intro j15 hJ15 hf
    refine lv_if_eq (tgt := 15) hx hb dX7_downwards_1 (by decide) (fun c_1 => ?_) (fun c_1 => ?_)
    · have hf := kIt hf c_1
      have t_1 := ti_eq c_1
      exact hJ15 ()  hf _ _ _ hP hD hS (lv_sub hl [] rfl)
    · have hf := kIf hf c_1
      have t_1 := ti_ne c_1
      refine lv_iload_n hx hb dX7_downwards_4 rfl (lv_at hl 0 rfl) ?_
      refine lv_iconst (v := (1 : Int32)) hx hb dX7_downwards_5 (by decide) ?_
      refine lv_icmp_eq (tgt := 15) hx hb dX7_downwards_6 (by decide) (fun c_2 => ?_) (fun c_2 => ?_)
      · have hf := kIt hf c_2
        have t_2 := ti_eq c_2
        exact hJ15 ()  hf _ _ _ hP hD hS (lv_sub hl [] rfl)
      · have hf := kIf hf c_2
        have t_2 := ti_ne c_2
        refine lv_iload_n hx hb dX7_downwards_9 rfl (lv_at hl 0 rfl) ?_
        refine lv_bipush (v := (7 : Int32)) hx hb dX7_downwards_10 (by decide) ?_
        refine lv_icmp_ne (tgt := 19) hx hb dX7_downwards_12 (by decide) (fun c_3 => ?_) (fun c_3 => ?_)
        · have hf := kIf hf c_3
          have t_3 := ti_ne c_3
          refine lv_iload_n hx hb dX7_downwards_19 rfl (lv_at hl 0 rfl) ?_
          refine lv_iconst (v := (2 : Int32)) hx hb dX7_downwards_20 (by decide) ?_
          refine kJn hf (fun j0 => ∀ (u0 : Unit), f_X7_downwards x0 = j0 () → ∀ (H : Heap) (locs : List Loc) (ls : Array Slot), va_P D vwCl ([]) H → va_D A ([]) → va_S A s.heap H locs → lv_has ls 1 [] → W p l e R s m args below meth c H locs 0 0 Q (F0 m 30 ls [])) ?_ ?_
          · intro j0 hj0 u0  hf H locs ls hP hD hS hl
            subst hj0
            refine lv_iconst (v := (0 : Int32)) hx hb dX7_downwards_30 (by decide) ?_
            refine lv_goto (tgt := 35) hx hb dX7_downwards_31 (by decide) ?_
            exact kRetI hx hb hr hlk hP hD hS hf.symm rfl hQ dX7_downwards_35
          · intro j30 hJ30 hf
            refine lv_icmp_eq (tgt := 30) hx hb dX7_downwards_21 (by decide) (fun c_4 => ?_) (fun c_4 => ?_)
            · have hf := kIt hf c_4
              have t_4 := ti_eq c_4
              exact hJ30 ()  hf _ _ _ hP hD hS (lv_sub hl [] rfl)
            · have hf := kIf hf c_4
              have t_4 := ti_ne c_4
              refine lv_iload_n hx hb dX7_downwards_24 rfl (lv_at hl 0 rfl) ?_
              refine lv_bipush (v := (6 : Int32)) hx hb dX7_downwards_25 (by decide) ?_
              refine lv_icmp_ne (tgt := 34) hx hb dX7_downwards_27 (by decide) (fun c_5 => ?_) (fun c_5 => ?_)
              · have hf := kIf hf c_5
                have t_5 := ti_ne c_5
                refine lv_iconst (v := (1 : Int32)) hx hb dX7_downwards_34 (by decide) ?_
                exact kRetI hx hb hr hlk hP hD hS hf.symm rfl hQ dX7_downwards_35
              · have hf := kIt hf c_5
                have t_5 := ti_eq c_5
                exact hJ30 ()  hf _ _ _ hP hD hS (lv_sub hl [] rfl)
        · have hf := kIt hf c_3
          have t_3 := ti_eq c_3
          exact hJ15 ()  hf _ _ _ hP hD hS (lv_sub hl [] rfl)
theorem kyX7_across : kY yX7_across cX7_across 1 (some .int) wsX7_across wsX7_across.tail 1 := ⟨rfl, by decide, by decide, by decide +kernel⟩
set_option maxHeartbeats 4000000 in
set_option maxRecDepth 100000 in
theorem k_X7_across (l : Launch) (D : va_G) (ct : ClassId × ClassId × ClassId) (z : Nat × Nat)  (x0 : Int32)  : kC l D ct z yX7_across wsX7_across 0 0 [.int x0] ([]) (some (.int (f_X7_across x0))) ([]) := by
  refine kHead (cc := cX7_across) (maxL := 1) (ret := (some .int)) [(0, .int x0)] (by decide) rfl (Nat.le_of_ble_eq_true rfl) rfl ?_
  intro p e s m args below meth c A ls R Q hRf hRl hQ hx hb hr hlk hml hown hts hA hS hK hP hD hl
  have kcm1 : (-1 : Int32).toInt = -1 := by decide
  have kc0 : (0 : Int32).toInt = 0 := by decide
  have kc1 : (1 : Int32).toInt = 1 := by decide
  have kc4 : (4 : Int32).toInt = 4 := by decide
  have hf : f_X7_across x0 = f_X7_across x0 := rfl
  refine lv_iload_n hx hb dX7_across_0 rfl (lv_at hl 0 rfl) ?_
  refine kJn hf (fun j0 => ∀ (u0 : Unit), f_X7_across x0 = j0 () → ∀ (H : Heap) (locs : List Loc) (ls : Array Slot), va_P D vwCl ([]) H → va_D A ([]) → va_S A s.heap H locs → lv_has ls 1 [] → W p l e R s m args below meth c H locs 0 0 Q (F0 m 9 ls [])) ?_ ?_
  · intro j0 hj0 u0  hf H locs ls hP hD hS hl
    subst hj0
    refine lv_iconst (v := (0 : Int32)) hx hb dX7_across_9 (by decide) ?_
    refine lv_goto (tgt := 23) hx hb dX7_across_10 (by decide) ?_
    exact kRetI hx hb hr hlk hP hD hS hf.symm rfl hQ dX7_across_23
  · intro j9 hJ9 hf
    refine lv_if_eq (tgt := 9) hx hb dX7_across_1 (by decide) (fun c_1 => ?_) (fun c_1 => ?_)
    · have hf := kIt hf c_1
      have t_1 := ti_eq c_1
      exact hJ9 ()  hf _ _ _ hP hD hS (lv_sub hl [] rfl)
    · have hf := kIf hf c_1
      have t_1 := ti_ne c_1
      refine lv_iload_n hx hb dX7_across_4 rfl (lv_at hl 0 rfl) ?_
      refine lv_iconst (v := (4 : Int32)) hx hb dX7_across_5 (by decide) ?_
      refine lv_icmp_ne (tgt := 13) hx hb dX7_across_6 (by decide) (fun c_2 => ?_) (fun c_2 => ?_)
      · have hf := kIf hf c_2
        have t_2 := ti_ne c_2
        refine lv_iload_n hx hb dX7_across_13 rfl (lv_at hl 0 rfl) ?_
        refine lv_iconst (v := (4 : Int32)) hx hb dX7_across_14 (by decide) ?_
        refine lv_icmp_ge (tgt := 22) hx hb dX7_across_15 (by decide) (fun c_3 => ?_) (fun c_3 => ?_)
        · have hf := kIt hf c_3
          have t_3 := ti_le c_3
          refine lv_iconst (v := (-1 : Int32)) hx hb dX7_across_22 (by decide) ?_
          exact kRetI hx hb hr hlk hP hD hS hf.symm rfl hQ dX7_across_23
        · have hf := kIf hf c_3
          have t_3 := ti_nle c_3
          refine lv_iconst (v := (1 : Int32)) hx hb dX7_across_18 (by decide) ?_
          refine lv_goto (tgt := 23) hx hb dX7_across_19 (by decide) ?_
          exact kRetI hx hb hr hlk hP hD hS hf.symm rfl hQ dX7_across_23
      · have hf := kIt hf c_2
        have t_2 := ti_eq c_2
        exact hJ9 ()  hf _ _ _ hP hD hS (lv_sub hl [] rfl)
theorem kyX7_beside : kY yX7_beside cX7_beside 5 (some .int) wsX7_beside wsX7_beside.tail 3 := ⟨rfl, by decide, by decide, by decide +kernel⟩
set_option maxHeartbeats 4000000 in
set_option maxRecDepth 100000 in
theorem k_X7_beside (l : Launch) (D : va_G) (ct : ClassId × ClassId × ClassId) (z : Nat × Nat)  (x0 : Int32) (x1 : Int32) (x2 : Int32)  : kC l D ct z yX7_beside wsX7_beside 1 25 [.int x0, .int x1, .int x2] ([]) (some (.int (f_X7_beside x0 x1 x2))) ([]) := by
  refine kHead (cc := cX7_beside) (maxL := 5) (ret := (some .int)) [(0, .int x0), (1, .int x1), (2, .int x2)] (by decide) rfl (Nat.le_of_ble_eq_true rfl) rfl ?_
  intro p e s m args below meth c A ls R Q hRf hRl hQ hx hb hr hlk hml hown hts hA hS hK hP hD hl
  have hw1 := hts (Cond.constantLong RX7 75 (7)) (List.mem_of_getElem? (i := 1) (by decide +kernel))
  have kcm6 : (-6 : Int32).toInt = -6 := by decide
  have kc0 : (0 : Int32).toInt = 0 := by decide
  have kc8 : (8 : Int32).toInt = 8 := by decide
  have kl0 : (0 : Int64).toInt = 0 := by decide
  have kl7 : (7 : Int64).toInt = 7 := by decide
  have hf : f_X7_beside x0 x1 x2 = f_X7_beside x0 x1 x2 := rfl
  refine lv_iload_n hx hb dX7_beside_0 rfl (lv_at hl 0 rfl) ?_
  refine lv_bipush (v := (8 : Int32)) hx hb dX7_beside_1 (by decide) ?_
  refine lv_idiv hx hb dX7_beside_3 (by decide) ?_
  refine lv_iload_n hx hb dX7_beside_4 rfl (lv_at hl 1 rfl) ?_
  refine lv_iadd hx hb dX7_beside_5 ?_
  refine lv_topi (fun y6 ey6 => ?_)
  have hf := kLt hf ey6
  refine lv_istore_n (lv' := [(3, .int y6), (0, .int x0), (1, .int x1), (2, .int x2)]) hx hb dX7_beside_6 rfl hl (by decide) rfl (fun ls hl => ?_)
  refine lv_iload_n hx hb dX7_beside_7 rfl (lv_at hl 1 rfl) ?_
  refine lv_bipush (v := (8 : Int32)) hx hb dX7_beside_8 (by decide) ?_
  refine lv_irem hx hb dX7_beside_10 (by decide) ?_
  refine lv_iload_n hx hb dX7_beside_11 rfl (lv_at hl 3 rfl) ?_
  refine lv_iadd hx hb dX7_beside_12 ?_
  refine lv_topi (fun y13 ey13 => ?_)
  have hf := kLt hf ey13
  refine lv_istore (lv' := [(4, .int y13), (3, .int y6), (0, .int x0), (1, .int x1), (2, .int x2)]) hx hb dX7_beside_13 hl (by decide) rfl (fun ls hl => ?_)
  refine lv_iload_n hx hb dX7_beside_15 rfl (lv_at hl 1 rfl) ?_
  refine lv_i2l (v := (Int32.toInt64 y6)) hx hb dX7_beside_16 rfl ?_
  refine lv_lconst (v := (0 : Int64)) hx hb dX7_beside_17 (by decide) ?_
  refine lv_ldc2 (v := (7 : Int64)) hx hb hown hw1 dX7_beside_18 ?_
  have hM : kC l D ct z yX7_in wsX7_in 0 0 [.long (Int32.toInt64 y6), .long (0 : Int64), .long (7 : Int64)] ([]) (some (.int (f_X7_in (Int32.toInt64 y6) (0 : Int64) (7 : Int64)))) ([]) := k_X7_in l D ct z (Int32.toInt64 y6) (0 : Int64) (7 : Int64)
  refine kS0 (As := [.long (Int32.toInt64 y6), .long (0 : Int64), .long (7 : Int64)]) (rest := []) ⟨hx, hb, hml, hown, hts⟩ hM gX7_beside_X7_in kyX7_in (by rw [hRf, hRl]; exact ⟨Nat.le_of_ble_eq_true rfl, Nat.le_of_ble_eq_true rfl⟩) hK hP hD hS hA rfl hl.1 rfl (st1 := [.int (f_X7_in (Int32.toInt64 y6) (0 : Int64) (7 : Int64))]) rfl rfl ⟨Nat.zero_le _, Nat.zero_le _⟩ dX7_beside_21 (fun H locs hP hD hS => ?_)
  refine lv_if_eq (tgt := 50) hx hb dX7_beside_24 (by decide) (fun c_1 => ?_) (fun c_1 => ?_)
  · have hf := kIt hf c_1
    have t_1 := ti_eq c_1
    refine lv_bipush (v := (-6 : Int32)) hx hb dX7_beside_50 (by decide) ?_
    exact kRetI hx hb hr hlk hP hD hS hf.symm rfl hQ dX7_beside_52
  · have hf := kIf hf c_1
    have t_1 := ti_ne c_1; have w_1 := in_nz c_1
    refine lv_iload hx hb dX7_beside_27 (lv_at hl 0 rfl) ?_
    refine lv_i2l (v := (Int32.toInt64 y13)) hx hb dX7_beside_29 rfl ?_
    refine lv_lconst (v := (0 : Int64)) hx hb dX7_beside_30 (by decide) ?_
    refine lv_ldc2 (v := (7 : Int64)) hx hb hown hw1 dX7_beside_31 ?_
    have hM : kC l D ct z yX7_in wsX7_in 0 0 [.long (Int32.toInt64 y13), .long (0 : Int64), .long (7 : Int64)] ([]) (some (.int (f_X7_in (Int32.toInt64 y13) (0 : Int64) (7 : Int64)))) ([]) := k_X7_in l D ct z (Int32.toInt64 y13) (0 : Int64) (7 : Int64)
    refine kS0 (As := [.long (Int32.toInt64 y13), .long (0 : Int64), .long (7 : Int64)]) (rest := []) ⟨hx, hb, hml, hown, hts⟩ hM gX7_beside_X7_in kyX7_in (by rw [hRf, hRl]; exact ⟨Nat.le_of_ble_eq_true rfl, Nat.le_of_ble_eq_true rfl⟩) hK hP hD hS hA rfl hl.1 rfl (st1 := [.int (f_X7_in (Int32.toInt64 y13) (0 : Int64) (7 : Int64))]) rfl rfl ⟨Nat.zero_le _, Nat.zero_le _⟩ dX7_beside_34 (fun H locs hP hD hS => ?_)
    refine lv_if_eq (tgt := 50) hx hb dX7_beside_37 (by decide) (fun c_2 => ?_) (fun c_2 => ?_)
    · have hf := kIt hf c_2
      have t_2 := ti_eq c_2
      refine lv_bipush (v := (-6 : Int32)) hx hb dX7_beside_50 (by decide) ?_
      exact kRetI hx hb hr hlk hP hD hS hf.symm rfl hQ dX7_beside_52
    · have hf := kIf hf c_2
      have t_2 := ti_ne c_2; have w_2 := in_nz c_2
      refine lv_bipush (v := (8 : Int32)) hx hb dX7_beside_40 (by decide) ?_
      refine lv_iload_n hx hb dX7_beside_42 rfl (lv_at hl 1 rfl) ?_
      refine lv_imul hx hb dX7_beside_43 ?_
      refine lv_iload hx hb dX7_beside_44 (lv_at hl 0 rfl) ?_
      refine lv_iadd hx hb dX7_beside_46 ?_
      refine lv_goto (tgt := 52) hx hb dX7_beside_47 (by decide) ?_
      exact kRetI hx hb hr hlk hP hD hS hf.symm rfl hQ dX7_beside_52
theorem kyX7_ahead : kY yX7_ahead cX7_ahead 2 (some .int) wsX7_ahead wsX7_ahead.tail 2 := ⟨rfl, by decide, by decide, by decide +kernel⟩
set_option maxHeartbeats 4000000 in
set_option maxRecDepth 100000 in
theorem k_X7_ahead (l : Launch) (D : va_G) (ct : ClassId × ClassId × ClassId) (z : Nat × Nat)  (x0 : Int32) (x1 : Int32)  : kC l D ct z yX7_ahead wsX7_ahead 2 49 [.int x0, .int x1] ([]) (some (.int (f_X7_ahead x0 x1))) ([]) := by
  refine kHead (cc := cX7_ahead) (maxL := 2) (ret := (some .int)) [(0, .int x0), (1, .int x1)] (by decide) rfl (Nat.le_of_ble_eq_true rfl) rfl ?_
  intro p e s m args below meth c A ls R Q hRf hRl hQ hx hb hr hlk hml hown hts hA hS hK hP hD hl
  have kc0 : (0 : Int32).toInt = 0 := by decide
  have hf : f_X7_ahead x0 x1 = f_X7_ahead x0 x1 := rfl
  refine lv_iload_n hx hb dX7_ahead_0 rfl (lv_at hl 0 rfl) ?_
  refine lv_iload_n hx hb dX7_ahead_1 rfl (lv_at hl 1 rfl) ?_
  have hM : kC l D ct z yX7_downwards wsX7_downwards 0 0 [.int x1] ([]) (some (.int (f_X7_downwards x1))) ([]) := k_X7_downwards l D ct z x1
  refine kS0 (As := [.int x1]) (rest := [.int x0]) ⟨hx, hb, hml, hown, hts⟩ hM gX7_ahead_X7_downwards kyX7_downwards (by rw [hRf, hRl]; exact ⟨Nat.le_of_ble_eq_true rfl, Nat.le_of_ble_eq_true rfl⟩) hK hP hD hS hA rfl hl.1 rfl (st1 := [.int (f_X7_downwards x1), .int x0]) rfl rfl ⟨Nat.zero_le _, Nat.zero_le _⟩ dX7_ahead_2 (fun H locs hP hD hS => ?_)
  refine lv_iload_n hx hb dX7_ahead_5 rfl (lv_at hl 1 rfl) ?_
  have hM : kC l D ct z yX7_across wsX7_across 0 0 [.int x1] ([]) (some (.int (f_X7_across x1))) ([]) := k_X7_across l D ct z x1
  refine kS0 (As := [.int x1]) (rest := [.int (f_X7_downwards x1), .int x0]) ⟨hx, hb, hml, hown, hts⟩ hM gX7_ahead_X7_across kyX7_across (by rw [hRf, hRl]; exact ⟨Nat.le_of_ble_eq_true rfl, Nat.le_of_ble_eq_true rfl⟩) hK hP hD hS hA rfl hl.1 rfl (st1 := [.int (f_X7_across x1), .int (f_X7_downwards x1), .int x0]) rfl rfl ⟨Nat.zero_le _, Nat.zero_le _⟩ dX7_ahead_6 (fun H locs hP hD hS => ?_)
  have hM : kC l D ct z yX7_beside wsX7_beside 1 25 [.int x0, .int (f_X7_downwards x1), .int (f_X7_across x1)] ([]) (some (.int (f_X7_beside x0 (f_X7_downwards x1) (f_X7_across x1)))) ([]) := k_X7_beside l D ct z x0 (f_X7_downwards x1) (f_X7_across x1)
  refine kS0 (As := [.int x0, .int (f_X7_downwards x1), .int (f_X7_across x1)]) (rest := []) ⟨hx, hb, hml, hown, hts⟩ hM gX7_ahead_X7_beside kyX7_beside (by rw [hRf, hRl]; exact ⟨Nat.le_of_ble_eq_true rfl, Nat.le_of_ble_eq_true rfl⟩) hK hP hD hS hA rfl hl.1 rfl (st1 := [.int (f_X7_beside x0 (f_X7_downwards x1) (f_X7_across x1))]) rfl rfl ⟨Nat.zero_le _, Nat.zero_le _⟩ dX7_ahead_9 (fun H locs hP hD hS => ?_)
  exact kRetI hx hb hr hlk hP hD hS hf.symm rfl hQ dX7_ahead_12
theorem kyX7_landMany : kY yX7_landMany cX7_landMany 3 (some .int) wsX7_landMany wsX7_landMany.tail 0 := ⟨rfl, by decide, by decide, by decide +kernel⟩
set_option maxHeartbeats 4000000 in
set_option maxRecDepth 100000 in
theorem k_X7_landMany (l : Launch) (D : va_G) (ct : ClassId × ClassId × ClassId) (z : Nat × Nat) (h : Nat) (ad : Nat → Nat) (st : Nat → Nat → Int32)  : kC l D ct z yX7_landMany wsX7_landMany 0 0 [.ref h] (mW h ad ct st) (some (.int (f_X7_landMany st))) (mW h ad ct st) := by
  refine kHead (cc := cX7_landMany) (maxL := 3) (ret := (some .int)) [(0, .ref h)] (by decide) rfl (Nat.le_of_ble_eq_true rfl) rfl ?_
  intro p e s m args below meth c A ls R Q hRf hRl hQ hx hb hr hlk hml hown hts hA hS hK hP hD hl
  have inX7 : ∀ w ∈ wsX70, w ∈ wsX7_landMany := fun w h => (List.mem_cons_of_mem _ (List.mem_append_right _ h))
  have hw1 := hts (Cond.fieldLink RX7 7 "MastPulpitsModel" "ground" "[I") (List.mem_of_getElem? (i := 1) (by decide +kernel))
  have kc0 : (0 : Int32).toInt = 0 := by decide
  have kc1 : (1 : Int32).toInt = 1 := by decide
  have kc64 : (64 : Int32).toInt = 64 := by decide
  have hf : f_X7_landMany st = f_X7_landMany st := rfl
  refine lv_iconst (v := (0 : Int32)) hx hb dX7_landMany_0 (by decide) ?_
  refine lv_istore_n (lv' := [(1, .int (0 : Int32)), (0, .ref h)]) hx hb dX7_landMany_1 rfl hl (by decide) rfl (fun ls hl => ?_)
  refine lv_iconst (v := (0 : Int32)) hx hb dX7_landMany_2 (by decide) ?_
  refine lv_istore_n (lv' := [(2, .int (0 : Int32)), (1, .int (0 : Int32)), (0, .ref h)]) hx hb dX7_landMany_3 rfl hl (by decide) rfl (fun ls hl => ?_)
  have lp4 : ∀ (K : Int32 → Int32), (∀ (z4_1 : Int32), ∀ (H : Heap) (locs : List Loc) (ls : Array Slot), va_P D vwCl (mW h ad ct st) H → va_D A (mW h ad ct st) → va_S A s.heap H locs → lv_has ls 3 [(1, .int z4_1)] → f_X7_landMany st = K z4_1 → W p l e R s m args below meth c H locs 0 0 Q (F0 m 25 ls [])) → ∀ (n : Nat) (z4_2 : Int32) (z4_1 : Int32), ∀ (H : Heap) (locs : List Loc) (ls : Array Slot), (64 ≤ Int32.toInt z4_2 + (n : Int)) → (0 ≤ Int32.toInt z4_2) → va_P D vwCl (mW h ad ct st) H → va_D A (mW h ad ct st) → va_S A s.heap H locs → lv_has ls 3 [(2, .int z4_2), (1, .int z4_1), (0, .ref h)] → f_X7_landMany st = f_X7_landMany_L4 st K n z4_2 z4_1 → W p l e R s m args below meth c H locs 0 0 Q (F0 m 4 ls []) := by
    intro K hk n
    induction n with
    | zero =>
      intro z4_2 z4_1  H locs ls hn4 hz4 hP hD hS hl hf
      refine lv_iload_n hx hb dX7_landMany_4 rfl (lv_at hl 0 rfl) ?_
      refine lv_bipush (v := (64 : Int32)) hx hb dX7_landMany_5 (by decide) ?_
      refine lv_icmp_ge (tgt := 25) hx hb dX7_landMany_7 (by decide) (fun c_2 => ?_) (fun c_2 => ?_)
      · have t_2 := ti_le c_2
        exact hk _ _ _ _  hP hD hS (lv_sub hl [1] rfl) hf
      · have t_2 := ti_nle c_2
        exfalso
        omega
    | succ n ih =>
      intro z4_2 z4_1  H locs ls hn4 hz4 hP hD hS hl hf
      refine lv_iload_n hx hb dX7_landMany_4 rfl (lv_at hl 0 rfl) ?_
      refine lv_bipush (v := (64 : Int32)) hx hb dX7_landMany_5 (by decide) ?_
      refine lv_icmp_ge (tgt := 25) hx hb dX7_landMany_7 (by decide) (fun c_1 => ?_) (fun c_1 => ?_)
      · have hf := kIt hf c_1
        have t_1 := ti_le c_1
        exact hk _ _ _ _  hP hD hS (lv_sub hl [1] rfl) hf
      · have hf := kIf hf c_1
        have t_1 := ti_nle c_1
        refine lv_iload_n hx hb dX7_landMany_10 rfl (lv_at hl 1 rfl) ?_
        refine lv_aload_n hx hb dX7_landMany_11 rfl (lv_at hl 2 rfl) ?_
        refine va_get (D := D) (cl := vwCl) (ci := 6) (v := .ref (ad 0)) (C := RX7) (T := TX7) (N := 34) hx hb hts inX7 hown hK.1 hP 0 (mO h ad ct st) rfl 0 (by decide) hw1 (fun _ h => h) (mF_0 ad st) dX7_landMany_12 ?_
        refine lv_iload_n hx hb dX7_landMany_15 rfl (lv_at hl 0 rfl) ?_
        refine va_iald hx hb hK.1 hP 1 0 (mA_0 h ad ct st) rfl (by first | assumption | exact vin (by omega) (by omega) | omega) dX7_landMany_16 ?_
        refine lv_iadd hx hb dX7_landMany_17 ?_
        refine lv_topi (fun y18 ey18 => ?_)
        have hf := kLt hf ey18
        refine lv_istore_n (lv' := [(1, .int y18), (2, .int z4_2), (0, .ref h)]) hx hb dX7_landMany_18 rfl hl (by decide) rfl (fun ls hl => ?_)
        obtain ⟨y19, ey19⟩ : ∃ y : Int32, y = z4_2 + (1 : Int32) := ⟨_, rfl⟩
        have hf := kLt hf ey19
        have a19 : Int32.toInt y19 = Int32.toInt z4_2 + 1 := by have := ti_rng z4_2; rw [ey19]; exact ti_add (by rw [kc1]) (by omega) (by omega)
        refine lv_iinc (v := y19) (lv' := [(2, .int y19), (1, .int y18), (0, .ref h)]) hx hb dX7_landMany_19 hl (k := 1) rfl (by rw [ey19]; rfl) (by decide) rfl (fun ls hl => ?_)
        refine lv_goto (tgt := 4) hx hb dX7_landMany_22 (by decide) ?_
        exact ih y19 y18 _ _ _ (by first | assumption | exact vin (by omega) (by omega) | omega) (by first | assumption | exact vin (by omega) (by omega) | omega) hP hD hS (lv_sub hl [0, 1, 2] rfl) hf
  refine lp4 _ (fun w4_1  H locs ls  hP hD hS hl hf => ?_) (64) (0 : Int32) (0 : Int32)  _ _ _ (by first | assumption | exact vin (by omega) (by omega) | omega) (by first | assumption | exact vin (by omega) (by omega) | omega) hP hD hS (lv_sub hl [0, 1, 2] rfl) hf
  refine lv_iload_n hx hb dX7_landMany_25 rfl (lv_at hl 0 rfl) ?_
  exact kRetI hx hb hr hlk hP hD hS hf.symm rfl hQ dX7_landMany_26
theorem kyX7_land : kY yX7_land cX7_land 3 (some .int) wsX7_land wsX7_land.tail 2 := ⟨rfl, by decide, by decide, by decide +kernel⟩
set_option maxHeartbeats 4000000 in
set_option maxRecDepth 100000 in
theorem k_X7_land (l : Launch) (D : va_G) (ct : ClassId × ClassId × ClassId) (z : Nat × Nat) (h : Nat) (ad : Nat → Nat) (x1 : Int32) (x2 : Int32) (st : Nat → Nat → Int32)  : kC l D ct z yX7_land wsX7_land 2 45 [.ref h, .int x1, .int x2] (mW h ad ct st) (some (.int ((f_X7_land x1 x2 st).1))) (mW h ad ct ((f_X7_land x1 x2 st).2)) := by
  refine kHead (cc := cX7_land) (maxL := 3) (ret := (some .int)) [(0, .ref h), (1, .int x1), (2, .int x2)] (by decide) rfl (Nat.le_of_ble_eq_true rfl) rfl ?_
  intro p e s m args below meth c A ls R Q hRf hRl hQ hx hb hr hlk hml hown hts hA hS hK hP hD hl
  have inX7 : ∀ w ∈ wsX70, w ∈ wsX7_land := fun w h => (List.mem_cons_of_mem _ (List.mem_append_right _ h))
  have hw1 := hts (Cond.fieldLink RX7 59 "MastPulpitsModel" "place" "I") (List.mem_of_getElem? (i := 1) (by decide +kernel))
  have hw2 := hts (Cond.fieldLink RX7 7 "MastPulpitsModel" "ground" "[I") (List.mem_of_getElem? (i := 2) (by decide +kernel))
  have kcm3 : (-3 : Int32).toInt = -3 := by decide
  have kcm2 : (-2 : Int32).toInt = -2 := by decide
  have kcm1 : (-1 : Int32).toInt = -1 := by decide
  have kc0 : (0 : Int32).toInt = 0 := by decide
  have kc1 : (1 : Int32).toInt = 1 := by decide
  have kl0 : (0 : Int64).toInt = 0 := by decide
  have kl1 : (1 : Int64).toInt = 1 := by decide
  have hf : f_X7_land x1 x2 st = f_X7_land x1 x2 st := rfl
  refine lv_iload_n hx hb dX7_land_0 rfl (lv_at hl 1 rfl) ?_
  have hM : kC l D ct z yX7_isCell wsX7_isCell 1 25 [.int x1] ([]) (some (.int (f_X7_isCell x1))) ([]) := k_X7_isCell l D ct z x1
  refine kS0 (As := [.int x1]) (rest := []) ⟨hx, hb, hml, hown, hts⟩ hM gX7_land_X7_isCell kyX7_isCell (by rw [hRf, hRl]; exact ⟨Nat.le_of_ble_eq_true rfl, Nat.le_of_ble_eq_true rfl⟩) hK hP hD hS hA rfl hl.1 rfl (st1 := [.int (f_X7_isCell x1)]) rfl rfl ⟨Nat.zero_le _, Nat.zero_le _⟩ dX7_land_1 (fun H locs hP hD hS => ?_)
  refine lv_if_ne (tgt := 9) hx hb dX7_land_4 (by decide) (fun c_1 => ?_) (fun c_1 => ?_)
  · have hf := kIf hf c_1
    have t_1 := ti_ne c_1; have w_1 := mcell_nz c_1
    refine lv_iload_n hx hb dX7_land_9 rfl (lv_at hl 2 rfl) ?_
    refine lv_i2l (v := (Int32.toInt64 x2)) hx hb dX7_land_10 rfl ?_
    refine lv_lconst (v := (0 : Int64)) hx hb dX7_land_11 (by decide) ?_
    refine lv_lconst (v := (1 : Int64)) hx hb dX7_land_12 (by decide) ?_
    have hM : kC l D ct z yX7_in wsX7_in 0 0 [.long (Int32.toInt64 x2), .long (0 : Int64), .long (1 : Int64)] ([]) (some (.int (f_X7_in (Int32.toInt64 x2) (0 : Int64) (1 : Int64)))) ([]) := k_X7_in l D ct z (Int32.toInt64 x2) (0 : Int64) (1 : Int64)
    refine kS0 (As := [.long (Int32.toInt64 x2), .long (0 : Int64), .long (1 : Int64)]) (rest := []) ⟨hx, hb, hml, hown, hts⟩ hM gX7_land_X7_in kyX7_in (by rw [hRf, hRl]; exact ⟨Nat.le_of_ble_eq_true rfl, Nat.le_of_ble_eq_true rfl⟩) hK hP hD hS hA rfl hl.1 rfl (st1 := [.int (f_X7_in (Int32.toInt64 x2) (0 : Int64) (1 : Int64))]) rfl rfl ⟨Nat.zero_le _, Nat.zero_le _⟩ dX7_land_13 (fun H locs hP hD hS => ?_)
    refine lv_if_ne (tgt := 22) hx hb dX7_land_16 (by decide) (fun c_2 => ?_) (fun c_2 => ?_)
    · have hf := kIf hf c_2
      have t_2 := ti_ne c_2; have w_2 := in_nz c_2
      refine lv_iload_n hx hb dX7_land_22 rfl (lv_at hl 2 rfl) ?_
      refine lv_iconst (v := (1 : Int32)) hx hb dX7_land_23 (by decide) ?_
      refine kJn hf (fun j0 => ∀ (u0 : Unit), f_X7_land x1 x2 st = j0 () → ∀ (H : Heap) (locs : List Loc) (ls : Array Slot), va_P D vwCl (mW h ad ct st) H → va_D A (mW h ad ct st) → va_S A s.heap H locs → lv_has ls 3 [(0, .ref h), (1, .int x1), (2, .int x2)] → W p l e R s m args below meth c H locs 0 0 Q (F0 m 38 ls [])) ?_ ?_
      · intro j0 hj0 u0  hf H locs ls hP hD hS hl
        subst hj0
        refine lv_aload_n hx hb dX7_land_38 rfl (lv_at hl 0 rfl) ?_
        refine va_get (D := D) (cl := vwCl) (ci := 6) (v := .ref (ad 0)) (C := RX7) (T := TX7) (N := 34) hx hb hts inX7 hown hK.1 hP 0 (mO h ad ct st) rfl 0 (by decide) hw2 (fun _ h => h) (mF_0 ad st) dX7_land_39 ?_
        refine lv_iload_n hx hb dX7_land_42 rfl (lv_at hl 1 rfl) ?_
        refine lv_iload_n hx hb dX7_land_43 rfl (lv_at hl 2 rfl) ?_
        refine kIast (W1 := mW h ad ct (u2 st 1 ((Int32.toNatClampNeg x1)) x2)) hx hb hK hP hD hS 1 (mA_0 h ad ct st) (by first | assumption | exact vin (by omega) (by omega) | omega) (mB_0 h ad ct st _ _) dX7_land_44 (fun H locs hP hD hS => ?_)
        refine lv_aload_n hx hb dX7_land_45 rfl (lv_at hl 0 rfl) ?_
        have hM : kC l D ct z yX7_landMany wsX7_landMany 0 0 [.ref h] (mW h ad ct (u2 st 1 ((Int32.toNatClampNeg x1)) x2)) (some (.int (f_X7_landMany (u2 st 1 ((Int32.toNatClampNeg x1)) x2)))) (mW h ad ct (u2 st 1 ((Int32.toNatClampNeg x1)) x2)) := k_X7_landMany l D ct z h ad (u2 st 1 ((Int32.toNatClampNeg x1)) x2)
        refine kV1 (As := []) (rest := []) ⟨hx, hb, hml, hown, hts⟩ hM gX7_land_X7_landMany kyX7_landMany (by rw [hRf, hRl]; exact ⟨Nat.le_of_ble_eq_true rfl, Nat.le_of_ble_eq_true rfl⟩) hK hP hD hS hA 0 (mO h ad ct (u2 st 1 ((Int32.toNatClampNeg x1)) x2)) rfl rfl rfl hl.1 rfl (st1 := [.int (f_X7_landMany (u2 st 1 ((Int32.toNatClampNeg x1)) x2))]) rfl rfl ⟨Nat.zero_le _, Nat.zero_le _⟩ dX7_land_46 (fun H locs hP hD hS => ?_)
        exact kRetI hx hb hr hlk hP hD hS (kfst hf) ((congrArg (fun q => mW h ad ct q.2) hf).symm) hQ dX7_land_49
      · intro j38 hJ38 hf
        refine lv_icmp_ne (tgt := 38) hx hb dX7_land_24 (by decide) (fun c_3 => ?_) (fun c_3 => ?_)
        · have hf := kIf hf c_3
          have t_3 := ti_ne c_3
          exact hJ38 ()  hf _ _ _ hP hD hS (lv_sub hl [0, 1, 2] rfl)
        · have hf := kIt hf c_3
          have t_3 := ti_eq c_3
          refine lv_aload_n hx hb dX7_land_27 rfl (lv_at hl 0 rfl) ?_
          refine va_get (D := D) (cl := vwCl) (ci := 6) (v := .int (st 0 1)) (C := RX7) (T := TX7) (N := 34) hx hb hts inX7 hown hK.1 hP 0 (mO h ad ct st) rfl 1 (by decide) hw1 (fun _ h => h) (mF_1 ad st) dX7_land_28 ?_
          refine lv_iload_n hx hb dX7_land_31 rfl (lv_at hl 1 rfl) ?_
          refine lv_icmp_ne (tgt := 38) hx hb dX7_land_32 (by decide) (fun c_4 => ?_) (fun c_4 => ?_)
          · have hf := kIf hf c_4
            have t_4 := ti_ne c_4
            exact hJ38 ()  hf _ _ _ hP hD hS (lv_sub hl [0, 1, 2] rfl)
          · have hf := kIt hf c_4
            have t_4 := ti_eq c_4
            refine lv_bipush (v := (-3 : Int32)) hx hb dX7_land_35 (by decide) ?_
            exact kRetI hx hb hr hlk hP hD hS (kfst hf) ((congrArg (fun q => mW h ad ct q.2) hf).symm) hQ dX7_land_37
    · have hf := kIt hf c_2
      have t_2 := ti_eq c_2
      refine lv_bipush (v := (-2 : Int32)) hx hb dX7_land_19 (by decide) ?_
      exact kRetI hx hb hr hlk hP hD hS (kfst hf) ((congrArg (fun q => mW h ad ct q.2) hf).symm) hQ dX7_land_21
  · have hf := kIt hf c_1
    have t_1 := ti_eq c_1
    refine lv_iconst (v := (-1 : Int32)) hx hb dX7_land_7 (by decide) ?_
    exact kRetI hx hb hr hlk hP hD hS (kfst hf) ((congrArg (fun q => mW h ad ct q.2) hf).symm) hQ dX7_land_8
theorem kyX7_ship : kY yX7_ship cX7_ship 4 (some .int) wsX7_ship wsX7_ship.tail 2 := ⟨rfl, by decide, by decide, by decide +kernel⟩
set_option maxHeartbeats 4000000 in
set_option maxRecDepth 100000 in
theorem k_X7_ship (l : Launch) (D : va_G) (ct : ClassId × ClassId × ClassId) (z : Nat × Nat) (h : Nat) (ad : Nat → Nat) (x1 : Int32) (x2 : Int32) (st : Nat → Nat → Int32)  : kC l D ct z yX7_ship wsX7_ship 2 45 [.ref h, .int x1, .int x2] (mW h ad ct st) (some (.int ((f_X7_ship x1 x2 st).1))) (mW h ad ct ((f_X7_ship x1 x2 st).2)) := by
  refine kHead (cc := cX7_ship) (maxL := 4) (ret := (some .int)) [(0, .ref h), (1, .int x1), (2, .int x2)] (by decide) rfl (Nat.le_of_ble_eq_true rfl) rfl ?_
  intro p e s m args below meth c A ls R Q hRf hRl hQ hx hb hr hlk hml hown hts hA hS hK hP hD hl
  have inX7 : ∀ w ∈ wsX70, w ∈ wsX7_ship := fun w h => (List.mem_cons_of_mem _ (List.mem_append_right _ h))
  have hw1 := hts (Cond.constantLong RX7 100 (9)) (List.mem_of_getElem? (i := 1) (by decide +kernel))
  have hw2 := hts (Cond.fieldLink RX7 7 "MastPulpitsModel" "ground" "[I") (List.mem_of_getElem? (i := 2) (by decide +kernel))
  have hw3 := hts (Cond.fieldLink RX7 59 "MastPulpitsModel" "place" "I") (List.mem_of_getElem? (i := 3) (by decide +kernel))
  have hw4 := hts (Cond.fieldLink RX7 63 "MastPulpitsModel" "hull" "I") (List.mem_of_getElem? (i := 4) (by decide +kernel))
  have kcm3 : (-3 : Int32).toInt = -3 := by decide
  have kcm2 : (-2 : Int32).toInt = -2 := by decide
  have kcm1 : (-1 : Int32).toInt = -1 := by decide
  have kc0 : (0 : Int32).toInt = 0 := by decide
  have kc1 : (1 : Int32).toInt = 1 := by decide
  have kl0 : (0 : Int64).toInt = 0 := by decide
  have kl9 : (9 : Int64).toInt = 9 := by decide
  have hf : f_X7_ship x1 x2 st = f_X7_ship x1 x2 st := rfl
  refine lv_iload_n hx hb dX7_ship_0 rfl (lv_at hl 1 rfl) ?_
  have hM : kC l D ct z yX7_isCell wsX7_isCell 1 25 [.int x1] ([]) (some (.int (f_X7_isCell x1))) ([]) := k_X7_isCell l D ct z x1
  refine kS0 (As := [.int x1]) (rest := []) ⟨hx, hb, hml, hown, hts⟩ hM gX7_ship_X7_isCell kyX7_isCell (by rw [hRf, hRl]; exact ⟨Nat.le_of_ble_eq_true rfl, Nat.le_of_ble_eq_true rfl⟩) hK hP hD hS hA rfl hl.1 rfl (st1 := [.int (f_X7_isCell x1)]) rfl rfl ⟨Nat.zero_le _, Nat.zero_le _⟩ dX7_ship_1 (fun H locs hP hD hS => ?_)
  refine lv_if_ne (tgt := 9) hx hb dX7_ship_4 (by decide) (fun c_1 => ?_) (fun c_1 => ?_)
  · have hf := kIf hf c_1
    have t_1 := ti_ne c_1; have w_1 := mcell_nz c_1
    refine lv_iload_n hx hb dX7_ship_9 rfl (lv_at hl 2 rfl) ?_
    refine lv_i2l (v := (Int32.toInt64 x2)) hx hb dX7_ship_10 rfl ?_
    refine lv_lconst (v := (0 : Int64)) hx hb dX7_ship_11 (by decide) ?_
    refine lv_ldc2 (v := (9 : Int64)) hx hb hown hw1 dX7_ship_12 ?_
    have hM : kC l D ct z yX7_in wsX7_in 0 0 [.long (Int32.toInt64 x2), .long (0 : Int64), .long (9 : Int64)] ([]) (some (.int (f_X7_in (Int32.toInt64 x2) (0 : Int64) (9 : Int64)))) ([]) := k_X7_in l D ct z (Int32.toInt64 x2) (0 : Int64) (9 : Int64)
    refine kS0 (As := [.long (Int32.toInt64 x2), .long (0 : Int64), .long (9 : Int64)]) (rest := []) ⟨hx, hb, hml, hown, hts⟩ hM gX7_ship_X7_in kyX7_in (by rw [hRf, hRl]; exact ⟨Nat.le_of_ble_eq_true rfl, Nat.le_of_ble_eq_true rfl⟩) hK hP hD hS hA rfl hl.1 rfl (st1 := [.int (f_X7_in (Int32.toInt64 x2) (0 : Int64) (9 : Int64))]) rfl rfl ⟨Nat.zero_le _, Nat.zero_le _⟩ dX7_ship_15 (fun H locs hP hD hS => ?_)
    refine lv_if_ne (tgt := 24) hx hb dX7_ship_18 (by decide) (fun c_2 => ?_) (fun c_2 => ?_)
    · have hf := kIf hf c_2
      have t_2 := ti_ne c_2; have w_2 := in_nz c_2
      refine lv_aload_n hx hb dX7_ship_24 rfl (lv_at hl 0 rfl) ?_
      refine va_get (D := D) (cl := vwCl) (ci := 6) (v := .ref (ad 0)) (C := RX7) (T := TX7) (N := 34) hx hb hts inX7 hown hK.1 hP 0 (mO h ad ct st) rfl 0 (by decide) hw2 (fun _ h => h) (mF_0 ad st) dX7_ship_25 ?_
      refine lv_iload_n hx hb dX7_ship_28 rfl (lv_at hl 1 rfl) ?_
      refine va_iald hx hb hK.1 hP 1 0 (mA_0 h ad ct st) rfl (by first | assumption | exact vin (by omega) (by omega) | omega) dX7_ship_29 ?_
      refine lv_iconst (v := (1 : Int32)) hx hb dX7_ship_30 (by decide) ?_
      refine lv_icmp_ne (tgt := 37) hx hb dX7_ship_31 (by decide) (fun c_3 => ?_) (fun c_3 => ?_)
      · have hf := kIf hf c_3
        have t_3 := ti_ne c_3
        refine lv_aload_n hx hb dX7_ship_37 rfl (lv_at hl 0 rfl) ?_
        refine va_get (D := D) (cl := vwCl) (ci := 6) (v := .int (st 0 1)) (C := RX7) (T := TX7) (N := 34) hx hb hts inX7 hown hK.1 hP 0 (mO h ad ct st) rfl 1 (by decide) hw3 (fun _ h => h) (mF_1 ad st) dX7_ship_38 ?_
        refine lv_topi (fun y41 ey41 => ?_)
        have hf := kLt hf ey41
        refine lv_istore_n (lv' := [(3, .int y41), (0, .ref h), (1, .int x1), (2, .int x2)]) hx hb dX7_ship_41 rfl hl (by decide) rfl (fun ls hl => ?_)
        refine lv_aload_n hx hb dX7_ship_42 rfl (lv_at hl 1 rfl) ?_
        refine lv_iload_n hx hb dX7_ship_43 rfl (lv_at hl 2 rfl) ?_
        refine kPut (ci := 6) (C := RX7) (T := TX7) (N := 34) (ty := .int) (v := .int x1) (W1 := mW h ad ct (u2 st 0 1 x1)) hx hb hts inX7 tyX7 tyX7_ok nmX7 hown hK hP hD hS 0 (mO h ad ct st) rfl 1 (by decide) hw3 (fun _ h => h) rfl (by decide +kernel) rfl rfl (mLn 1 ad st (by decide)) (mS_1 h ad ct st x1) dX7_ship_44 (fun H locs hP hD hS => ?_)
        refine lv_aload_n hx hb dX7_ship_47 rfl (lv_at hl 1 rfl) ?_
        refine lv_iload_n hx hb dX7_ship_48 rfl (lv_at hl 3 rfl) ?_
        refine kPut (ci := 6) (C := RX7) (T := TX7) (N := 34) (ty := .int) (v := .int x2) (W1 := mW h ad ct (u2 (u2 st 0 1 x1) 0 2 x2)) hx hb hts inX7 tyX7 tyX7_ok nmX7 hown hK hP hD hS 0 (mO h ad ct (u2 st 0 1 x1)) rfl 2 (by decide) hw4 (fun _ h => h) rfl (by decide +kernel) rfl rfl (mLn 2 ad (u2 st 0 1 x1) (by decide)) (mS_2 h ad ct (u2 st 0 1 x1) x2) dX7_ship_49 (fun H locs hP hD hS => ?_)
        refine lv_iload_n hx hb dX7_ship_52 rfl (lv_at hl 0 rfl) ?_
        exact kRetI hx hb hr hlk hP hD hS (kfst hf) ((congrArg (fun q => mW h ad ct q.2) hf).symm) hQ dX7_ship_53
      · have hf := kIt hf c_3
        have t_3 := ti_eq c_3
        refine lv_bipush (v := (-3 : Int32)) hx hb dX7_ship_34 (by decide) ?_
        exact kRetI hx hb hr hlk hP hD hS (kfst hf) ((congrArg (fun q => mW h ad ct q.2) hf).symm) hQ dX7_ship_36
    · have hf := kIt hf c_2
      have t_2 := ti_eq c_2
      refine lv_bipush (v := (-2 : Int32)) hx hb dX7_ship_21 (by decide) ?_
      exact kRetI hx hb hr hlk hP hD hS (kfst hf) ((congrArg (fun q => mW h ad ct q.2) hf).symm) hQ dX7_ship_23
  · have hf := kIt hf c_1
    have t_1 := ti_eq c_1
    refine lv_iconst (v := (-1 : Int32)) hx hb dX7_ship_7 (by decide) ?_
    exact kRetI hx hb hr hlk hP hD hS (kfst hf) ((congrArg (fun q => mW h ad ct q.2) hf).symm) hQ dX7_ship_8
theorem kyX7_watcher : kY yX7_watcher cX7_watcher 4 (some .int) wsX7_watcher wsX7_watcher.tail 2 := ⟨rfl, by decide, by decide, by decide +kernel⟩
set_option maxHeartbeats 4000000 in
set_option maxRecDepth 100000 in
theorem k_X7_watcher (l : Launch) (D : va_G) (ct : ClassId × ClassId × ClassId) (z : Nat × Nat) (h : Nat) (ad : Nat → Nat) (x1 : Int32) (x2 : Int32) (st : Nat → Nat → Int32)  : kC l D ct z yX7_watcher wsX7_watcher 1 25 [.ref h, .int x1, .int x2] (mW h ad ct st) (some (.int ((f_X7_watcher x1 x2 st).1))) (mW h ad ct ((f_X7_watcher x1 x2 st).2)) := by
  refine kHead (cc := cX7_watcher) (maxL := 4) (ret := (some .int)) [(0, .ref h), (1, .int x1), (2, .int x2)] (by decide) rfl (Nat.le_of_ble_eq_true rfl) rfl ?_
  intro p e s m args below meth c A ls R Q hRf hRl hQ hx hb hr hlk hml hown hts hA hS hK hP hD hl
  have inX7 : ∀ w ∈ wsX70, w ∈ wsX7_watcher := fun w h => (List.mem_cons_of_mem _ (List.mem_append_right _ h))
  have hw1 := hts (Cond.constantLong RX7 102 (5)) (List.mem_of_getElem? (i := 1) (by decide +kernel))
  have hw2 := hts (Cond.constantLong RX7 75 (7)) (List.mem_of_getElem? (i := 2) (by decide +kernel))
  have hw3 := hts (Cond.fieldLink RX7 13 "MastPulpitsModel" "eyes" "[I") (List.mem_of_getElem? (i := 3) (by decide +kernel))
  have kcm2 : (-2 : Int32).toInt = -2 := by decide
  have kcm1 : (-1 : Int32).toInt = -1 := by decide
  have kc0 : (0 : Int32).toInt = 0 := by decide
  have kl0 : (0 : Int64).toInt = 0 := by decide
  have kl1 : (1 : Int64).toInt = 1 := by decide
  have kl5 : (5 : Int64).toInt = 5 := by decide
  have kl7 : (7 : Int64).toInt = 7 := by decide
  have hf : f_X7_watcher x1 x2 st = f_X7_watcher x1 x2 st := rfl
  refine lv_iload_n hx hb dX7_watcher_0 rfl (lv_at hl 1 rfl) ?_
  refine lv_i2l (v := (Int32.toInt64 x1)) hx hb dX7_watcher_1 rfl ?_
  refine lv_lconst (v := (0 : Int64)) hx hb dX7_watcher_2 (by decide) ?_
  refine lv_ldc2 (v := (5 : Int64)) hx hb hown hw1 dX7_watcher_3 ?_
  have hM : kC l D ct z yX7_in wsX7_in 0 0 [.long (Int32.toInt64 x1), .long (0 : Int64), .long (5 : Int64)] ([]) (some (.int (f_X7_in (Int32.toInt64 x1) (0 : Int64) (5 : Int64)))) ([]) := k_X7_in l D ct z (Int32.toInt64 x1) (0 : Int64) (5 : Int64)
  refine kS0 (As := [.long (Int32.toInt64 x1), .long (0 : Int64), .long (5 : Int64)]) (rest := []) ⟨hx, hb, hml, hown, hts⟩ hM gX7_watcher_X7_in kyX7_in (by rw [hRf, hRl]; exact ⟨Nat.le_of_ble_eq_true rfl, Nat.le_of_ble_eq_true rfl⟩) hK hP hD hS hA rfl hl.1 rfl (st1 := [.int (f_X7_in (Int32.toInt64 x1) (0 : Int64) (5 : Int64))]) rfl rfl ⟨Nat.zero_le _, Nat.zero_le _⟩ dX7_watcher_6 (fun H locs hP hD hS => ?_)
  refine lv_if_ne (tgt := 14) hx hb dX7_watcher_9 (by decide) (fun c_1 => ?_) (fun c_1 => ?_)
  · have hf := kIf hf c_1
    have t_1 := ti_ne c_1; have w_1 := in_nz c_1
    refine lv_iload_n hx hb dX7_watcher_14 rfl (lv_at hl 2 rfl) ?_
    refine lv_i2l (v := (Int32.toInt64 x2)) hx hb dX7_watcher_15 rfl ?_
    refine lv_lconst (v := (1 : Int64)) hx hb dX7_watcher_16 (by decide) ?_
    refine lv_ldc2 (v := (7 : Int64)) hx hb hown hw2 dX7_watcher_17 ?_
    have hM : kC l D ct z yX7_in wsX7_in 0 0 [.long (Int32.toInt64 x2), .long (1 : Int64), .long (7 : Int64)] ([]) (some (.int (f_X7_in (Int32.toInt64 x2) (1 : Int64) (7 : Int64)))) ([]) := k_X7_in l D ct z (Int32.toInt64 x2) (1 : Int64) (7 : Int64)
    refine kS0 (As := [.long (Int32.toInt64 x2), .long (1 : Int64), .long (7 : Int64)]) (rest := []) ⟨hx, hb, hml, hown, hts⟩ hM gX7_watcher_X7_in kyX7_in (by rw [hRf, hRl]; exact ⟨Nat.le_of_ble_eq_true rfl, Nat.le_of_ble_eq_true rfl⟩) hK hP hD hS hA rfl hl.1 rfl (st1 := [.int (f_X7_in (Int32.toInt64 x2) (1 : Int64) (7 : Int64))]) rfl rfl ⟨Nat.zero_le _, Nat.zero_le _⟩ dX7_watcher_20 (fun H locs hP hD hS => ?_)
    refine lv_if_ne (tgt := 29) hx hb dX7_watcher_23 (by decide) (fun c_2 => ?_) (fun c_2 => ?_)
    · have hf := kIf hf c_2
      have t_2 := ti_ne c_2; have w_2 := in_nz c_2
      refine lv_aload_n hx hb dX7_watcher_29 rfl (lv_at hl 0 rfl) ?_
      refine va_get (D := D) (cl := vwCl) (ci := 6) (v := .ref (ad 3)) (C := RX7) (T := TX7) (N := 34) hx hb hts inX7 hown hK.1 hP 0 (mO h ad ct st) rfl 3 (by decide) hw3 (fun _ h => h) (mF_3 ad st) dX7_watcher_30 ?_
      refine lv_iload_n hx hb dX7_watcher_33 rfl (lv_at hl 1 rfl) ?_
      refine va_iald hx hb hK.1 hP 2 0 (mA_3 h ad ct st) rfl (by first | assumption | exact vin (by omega) (by omega) | omega) dX7_watcher_34 ?_
      refine lv_topi (fun y35 ey35 => ?_)
      have hf := kLt hf ey35
      refine lv_istore_n (lv' := [(3, .int y35), (0, .ref h), (1, .int x1), (2, .int x2)]) hx hb dX7_watcher_35 rfl hl (by decide) rfl (fun ls hl => ?_)
      refine lv_aload_n hx hb dX7_watcher_36 rfl (lv_at hl 1 rfl) ?_
      refine va_get (D := D) (cl := vwCl) (ci := 6) (v := .ref (ad 3)) (C := RX7) (T := TX7) (N := 34) hx hb hts inX7 hown hK.1 hP 0 (mO h ad ct st) rfl 3 (by decide) hw3 (fun _ h => h) (mF_3 ad st) dX7_watcher_37 ?_
      refine lv_iload_n hx hb dX7_watcher_40 rfl (lv_at hl 2 rfl) ?_
      refine lv_iload_n hx hb dX7_watcher_41 rfl (lv_at hl 3 rfl) ?_
      refine kIast (W1 := mW h ad ct (u2 st 4 ((Int32.toNatClampNeg x1)) x2)) hx hb hK hP hD hS 2 (mA_3 h ad ct st) (by first | assumption | exact vin (by omega) (by omega) | omega) (mB_3 h ad ct st _ _) dX7_watcher_42 (fun H locs hP hD hS => ?_)
      refine lv_iload_n hx hb dX7_watcher_43 rfl (lv_at hl 0 rfl) ?_
      exact kRetI hx hb hr hlk hP hD hS (kfst hf) ((congrArg (fun q => mW h ad ct q.2) hf).symm) hQ dX7_watcher_44
    · have hf := kIt hf c_2
      have t_2 := ti_eq c_2
      refine lv_bipush (v := (-2 : Int32)) hx hb dX7_watcher_26 (by decide) ?_
      exact kRetI hx hb hr hlk hP hD hS (kfst hf) ((congrArg (fun q => mW h ad ct q.2) hf).symm) hQ dX7_watcher_28
  · have hf := kIt hf c_1
    have t_1 := ti_eq c_1
    refine lv_iconst (v := (-1 : Int32)) hx hb dX7_watcher_12 (by decide) ?_
    exact kRetI hx hb hr hlk hP hD hS (kfst hf) ((congrArg (fun q => mW h ad ct q.2) hf).symm) hQ dX7_watcher_13
theorem kyX7_fog : kY yX7_fog cX7_fog 3 (some .int) wsX7_fog wsX7_fog.tail 1 := ⟨rfl, by decide, by decide, by decide +kernel⟩
set_option maxHeartbeats 4000000 in
set_option maxRecDepth 100000 in
theorem k_X7_fog (l : Launch) (D : va_G) (ct : ClassId × ClassId × ClassId) (z : Nat × Nat) (h : Nat) (ad : Nat → Nat) (x1 : Int32) (st : Nat → Nat → Int32)  : kC l D ct z yX7_fog wsX7_fog 1 25 [.ref h, .int x1] (mW h ad ct st) (some (.int ((f_X7_fog x1 st).1))) (mW h ad ct ((f_X7_fog x1 st).2)) := by
  refine kHead (cc := cX7_fog) (maxL := 3) (ret := (some .int)) [(0, .ref h), (1, .int x1)] (by decide) rfl (Nat.le_of_ble_eq_true rfl) rfl ?_
  intro p e s m args below meth c A ls R Q hRf hRl hQ hx hb hr hlk hml hown hts hA hS hK hP hD hl
  have inX7 : ∀ w ∈ wsX70, w ∈ wsX7_fog := fun w h => (List.mem_cons_of_mem _ (List.mem_append_right _ h))
  have hw1 := hts (Cond.constantLong RX7 75 (7)) (List.mem_of_getElem? (i := 1) (by decide +kernel))
  have hw2 := hts (Cond.fieldLink RX7 104 "MastPulpitsModel" "mist" "I") (List.mem_of_getElem? (i := 2) (by decide +kernel))
  have kcm2 : (-2 : Int32).toInt = -2 := by decide
  have kc0 : (0 : Int32).toInt = 0 := by decide
  have kl0 : (0 : Int64).toInt = 0 := by decide
  have kl7 : (7 : Int64).toInt = 7 := by decide
  have hf : f_X7_fog x1 st = f_X7_fog x1 st := rfl
  refine lv_iload_n hx hb dX7_fog_0 rfl (lv_at hl 1 rfl) ?_
  refine lv_i2l (v := (Int32.toInt64 x1)) hx hb dX7_fog_1 rfl ?_
  refine lv_lconst (v := (0 : Int64)) hx hb dX7_fog_2 (by decide) ?_
  refine lv_ldc2 (v := (7 : Int64)) hx hb hown hw1 dX7_fog_3 ?_
  have hM : kC l D ct z yX7_in wsX7_in 0 0 [.long (Int32.toInt64 x1), .long (0 : Int64), .long (7 : Int64)] ([]) (some (.int (f_X7_in (Int32.toInt64 x1) (0 : Int64) (7 : Int64)))) ([]) := k_X7_in l D ct z (Int32.toInt64 x1) (0 : Int64) (7 : Int64)
  refine kS0 (As := [.long (Int32.toInt64 x1), .long (0 : Int64), .long (7 : Int64)]) (rest := []) ⟨hx, hb, hml, hown, hts⟩ hM gX7_fog_X7_in kyX7_in (by rw [hRf, hRl]; exact ⟨Nat.le_of_ble_eq_true rfl, Nat.le_of_ble_eq_true rfl⟩) hK hP hD hS hA rfl hl.1 rfl (st1 := [.int (f_X7_in (Int32.toInt64 x1) (0 : Int64) (7 : Int64))]) rfl rfl ⟨Nat.zero_le _, Nat.zero_le _⟩ dX7_fog_6 (fun H locs hP hD hS => ?_)
  refine lv_if_ne (tgt := 15) hx hb dX7_fog_9 (by decide) (fun c_1 => ?_) (fun c_1 => ?_)
  · have hf := kIf hf c_1
    have t_1 := ti_ne c_1; have w_1 := in_nz c_1
    refine lv_aload_n hx hb dX7_fog_15 rfl (lv_at hl 0 rfl) ?_
    refine va_get (D := D) (cl := vwCl) (ci := 6) (v := .int (st 0 6)) (C := RX7) (T := TX7) (N := 34) hx hb hts inX7 hown hK.1 hP 0 (mO h ad ct st) rfl 6 (by decide) hw2 (fun _ h => h) (mF_6 ad st) dX7_fog_16 ?_
    refine lv_topi (fun y19 ey19 => ?_)
    have hf := kLt hf ey19
    refine lv_istore_n (lv' := [(2, .int y19), (0, .ref h), (1, .int x1)]) hx hb dX7_fog_19 rfl hl (by decide) rfl (fun ls hl => ?_)
    refine lv_aload_n hx hb dX7_fog_20 rfl (lv_at hl 1 rfl) ?_
    refine lv_iload_n hx hb dX7_fog_21 rfl (lv_at hl 2 rfl) ?_
    refine kPut (ci := 6) (C := RX7) (T := TX7) (N := 34) (ty := .int) (v := .int x1) (W1 := mW h ad ct (u2 st 0 6 x1)) hx hb hts inX7 tyX7 tyX7_ok nmX7 hown hK hP hD hS 0 (mO h ad ct st) rfl 6 (by decide) hw2 (fun _ h => h) rfl (by decide +kernel) rfl rfl (mLn 6 ad st (by decide)) (mS_6 h ad ct st x1) dX7_fog_22 (fun H locs hP hD hS => ?_)
    refine lv_iload_n hx hb dX7_fog_25 rfl (lv_at hl 0 rfl) ?_
    exact kRetI hx hb hr hlk hP hD hS (kfst hf) ((congrArg (fun q => mW h ad ct q.2) hf).symm) hQ dX7_fog_26
  · have hf := kIt hf c_1
    have t_1 := ti_eq c_1
    refine lv_bipush (v := (-2 : Int32)) hx hb dX7_fog_12 (by decide) ?_
    exact kRetI hx hb hr hlk hP hD hS (kfst hf) ((congrArg (fun q => mW h ad ct q.2) hf).symm) hQ dX7_fog_14
theorem kyX7_say : kY yX7_say cX7_say 2 (some .int) wsX7_say wsX7_say.tail 1 := ⟨rfl, by decide, by decide, by decide +kernel⟩
set_option maxHeartbeats 4000000 in
set_option maxRecDepth 100000 in
theorem k_X7_say (l : Launch) (D : va_G) (ct : ClassId × ClassId × ClassId) (z : Nat × Nat) (h : Nat) (ad : Nat → Nat) (x1 : Int32) (st : Nat → Nat → Int32) (hpad : 0 ≤ Int32.toInt (st 0 13) ∧ Int32.toInt (st 0 13) ≤ 60) : kC l D ct z yX7_say wsX7_say 1 25 [.ref h, .int x1] (mW h ad ct st) (some (.int ((f_X7_say x1 st).1))) (mW h ad ct ((f_X7_say x1 st).2)) := by
  refine kHead (cc := cX7_say) (maxL := 2) (ret := (some .int)) [(0, .ref h), (1, .int x1)] (by decide) rfl (Nat.le_of_ble_eq_true rfl) rfl ?_
  intro p e s m args below meth c A ls R Q hRf hRl hQ hx hb hr hlk hml hown hts hA hS hK hP hD hl
  have inX7 : ∀ w ∈ wsX70, w ∈ wsX7_say := fun w h => (List.mem_cons_of_mem _ (List.mem_append_right _ h))
  have hw1 := hts (Cond.constantLong RX7 107 (33)) (List.mem_of_getElem? (i := 1) (by decide +kernel))
  have hw2 := hts (Cond.constantLong RX7 109 (126)) (List.mem_of_getElem? (i := 2) (by decide +kernel))
  have hw3 := hts (Cond.fieldLink RX7 111 "MastPulpitsModel" "padMany" "I") (List.mem_of_getElem? (i := 3) (by decide +kernel))
  have hw4 := hts (Cond.fieldLink RX7 25 "MastPulpitsModel" "pad" "[I") (List.mem_of_getElem? (i := 4) (by decide +kernel))
  have kcm4 : (-4 : Int32).toInt = -4 := by decide
  have kcm2 : (-2 : Int32).toInt = -2 := by decide
  have kc0 : (0 : Int32).toInt = 0 := by decide
  have kc1 : (1 : Int32).toInt = 1 := by decide
  have kc60 : (60 : Int32).toInt = 60 := by decide
  have kl33 : (33 : Int64).toInt = 33 := by decide
  have kl126 : (126 : Int64).toInt = 126 := by decide
  have hf : f_X7_say x1 st = f_X7_say x1 st := rfl
  refine lv_iload_n hx hb dX7_say_0 rfl (lv_at hl 1 rfl) ?_
  refine lv_i2l (v := (Int32.toInt64 x1)) hx hb dX7_say_1 rfl ?_
  refine lv_ldc2 (v := (33 : Int64)) hx hb hown hw1 dX7_say_2 ?_
  refine lv_ldc2 (v := (126 : Int64)) hx hb hown hw2 dX7_say_5 ?_
  have hM : kC l D ct z yX7_in wsX7_in 0 0 [.long (Int32.toInt64 x1), .long (33 : Int64), .long (126 : Int64)] ([]) (some (.int (f_X7_in (Int32.toInt64 x1) (33 : Int64) (126 : Int64)))) ([]) := k_X7_in l D ct z (Int32.toInt64 x1) (33 : Int64) (126 : Int64)
  refine kS0 (As := [.long (Int32.toInt64 x1), .long (33 : Int64), .long (126 : Int64)]) (rest := []) ⟨hx, hb, hml, hown, hts⟩ hM gX7_say_X7_in kyX7_in (by rw [hRf, hRl]; exact ⟨Nat.le_of_ble_eq_true rfl, Nat.le_of_ble_eq_true rfl⟩) hK hP hD hS hA rfl hl.1 rfl (st1 := [.int (f_X7_in (Int32.toInt64 x1) (33 : Int64) (126 : Int64))]) rfl rfl ⟨Nat.zero_le _, Nat.zero_le _⟩ dX7_say_8 (fun H locs hP hD hS => ?_)
  refine lv_if_ne (tgt := 17) hx hb dX7_say_11 (by decide) (fun c_1 => ?_) (fun c_1 => ?_)
  · have hf := kIf hf c_1
    have t_1 := ti_ne c_1; have w_1 := in_nz c_1
    refine lv_aload_n hx hb dX7_say_17 rfl (lv_at hl 0 rfl) ?_
    refine va_get (D := D) (cl := vwCl) (ci := 6) (v := .int (st 0 13)) (C := RX7) (T := TX7) (N := 34) hx hb hts inX7 hown hK.1 hP 0 (mO h ad ct st) rfl 13 (by decide) hw3 (fun _ h => h) (mF_13 ad st) dX7_say_18 ?_
    refine lv_bipush (v := (60 : Int32)) hx hb dX7_say_21 (by decide) ?_
    refine lv_icmp_ne (tgt := 29) hx hb dX7_say_23 (by decide) (fun c_2 => ?_) (fun c_2 => ?_)
    · have hf := kIf hf c_2
      have t_2 := ti_ne c_2
      refine lv_aload_n hx hb dX7_say_29 rfl (lv_at hl 0 rfl) ?_
      refine va_get (D := D) (cl := vwCl) (ci := 6) (v := .ref (ad 12)) (C := RX7) (T := TX7) (N := 34) hx hb hts inX7 hown hK.1 hP 0 (mO h ad ct st) rfl 12 (by decide) hw4 (fun _ h => h) (mF_12 ad st) dX7_say_30 ?_
      refine lv_aload_n hx hb dX7_say_33 rfl (lv_at hl 0 rfl) ?_
      refine va_get (D := D) (cl := vwCl) (ci := 6) (v := .int (st 0 13)) (C := RX7) (T := TX7) (N := 34) hx hb hts inX7 hown hK.1 hP 0 (mO h ad ct st) rfl 13 (by decide) hw3 (fun _ h => h) (mF_13 ad st) dX7_say_34 ?_
      refine lv_iload_n hx hb dX7_say_37 rfl (lv_at hl 1 rfl) ?_
      refine kIast (W1 := mW h ad ct (u2 st 13 ((Int32.toNatClampNeg (st 0 13))) x1)) hx hb hK hP hD hS 6 (mA_12 h ad ct st) (by first | assumption | exact vin (by omega) (by omega) | omega) (mB_12 h ad ct st _ _) dX7_say_38 (fun H locs hP hD hS => ?_)
      refine lv_aload_n hx hb dX7_say_39 rfl (lv_at hl 0 rfl) ?_
      refine lv_dup hx hb dX7_say_40 rfl ?_
      refine va_get (D := D) (cl := vwCl) (ci := 6) (v := .int (st 0 13)) (C := RX7) (T := TX7) (N := 34) hx hb hts inX7 hown hK.1 hP 0 (mO h ad ct (u2 st 13 ((Int32.toNatClampNeg (st 0 13))) x1)) rfl 13 (by decide) hw3 (fun _ h => h) (mF_13 ad (u2 st 13 ((Int32.toNatClampNeg (st 0 13))) x1)) dX7_say_41 ?_
      refine lv_iconst (v := (1 : Int32)) hx hb dX7_say_44 (by decide) ?_
      refine lv_iadd hx hb dX7_say_45 ?_
      refine lv_topi (fun y46 ey46 => ?_)
      have hf := kLt hf ey46
      refine kPut (ci := 6) (C := RX7) (T := TX7) (N := 34) (ty := .int) (v := .int y46) (W1 := mW h ad ct (u2 (u2 st 13 ((Int32.toNatClampNeg (st 0 13))) x1) 0 13 y46)) hx hb hts inX7 tyX7 tyX7_ok nmX7 hown hK hP hD hS 0 (mO h ad ct (u2 st 13 ((Int32.toNatClampNeg (st 0 13))) x1)) rfl 13 (by decide) hw3 (fun _ h => h) rfl (by decide +kernel) rfl rfl (mLn 13 ad (u2 st 13 ((Int32.toNatClampNeg (st 0 13))) x1) (by decide)) (mS_13 h ad ct (u2 st 13 ((Int32.toNatClampNeg (st 0 13))) x1) y46) dX7_say_46 (fun H locs hP hD hS => ?_)
      refine lv_aload_n hx hb dX7_say_49 rfl (lv_at hl 0 rfl) ?_
      refine va_get (D := D) (cl := vwCl) (ci := 6) (v := .int y46) (C := RX7) (T := TX7) (N := 34) hx hb hts inX7 hown hK.1 hP 0 (mO h ad ct (u2 (u2 st 13 ((Int32.toNatClampNeg (st 0 13))) x1) 0 13 y46)) rfl 13 (by decide) hw3 (fun _ h => h) (mF_13 ad (u2 (u2 st 13 ((Int32.toNatClampNeg (st 0 13))) x1) 0 13 y46)) dX7_say_50 ?_
      exact kRetI hx hb hr hlk hP hD hS (kfst hf) ((congrArg (fun q => mW h ad ct q.2) hf).symm) hQ dX7_say_53
    · have hf := kIt hf c_2
      have t_2 := ti_eq c_2
      refine lv_bipush (v := (-4 : Int32)) hx hb dX7_say_26 (by decide) ?_
      exact kRetI hx hb hr hlk hP hD hS (kfst hf) ((congrArg (fun q => mW h ad ct q.2) hf).symm) hQ dX7_say_28
  · have hf := kIt hf c_1
    have t_1 := ti_eq c_1
    refine lv_bipush (v := (-2 : Int32)) hx hb dX7_say_14 (by decide) ?_
    exact kRetI hx hb hr hlk hP hD hS (kfst hf) ((congrArg (fun q => mW h ad ct q.2) hf).symm) hQ dX7_say_16
theorem kyX7_wipe : kY yX7_wipe cX7_wipe 2 (some .int) wsX7_wipe wsX7_wipe.tail 0 := ⟨rfl, by decide, by decide, by decide +kernel⟩
set_option maxHeartbeats 4000000 in
set_option maxRecDepth 100000 in
theorem k_X7_wipe (l : Launch) (D : va_G) (ct : ClassId × ClassId × ClassId) (z : Nat × Nat) (h : Nat) (ad : Nat → Nat) (st : Nat → Nat → Int32)  : kC l D ct z yX7_wipe wsX7_wipe 0 0 [.ref h] (mW h ad ct st) (some (.int ((f_X7_wipe st).1))) (mW h ad ct ((f_X7_wipe st).2)) := by
  refine kHead (cc := cX7_wipe) (maxL := 2) (ret := (some .int)) [(0, .ref h)] (by decide) rfl (Nat.le_of_ble_eq_true rfl) rfl ?_
  intro p e s m args below meth c A ls R Q hRf hRl hQ hx hb hr hlk hml hown hts hA hS hK hP hD hl
  have inX7 : ∀ w ∈ wsX70, w ∈ wsX7_wipe := fun w h => (List.mem_cons_of_mem _ (List.mem_append_right _ h))
  have hw1 := hts (Cond.fieldLink RX7 111 "MastPulpitsModel" "padMany" "I") (List.mem_of_getElem? (i := 1) (by decide +kernel))
  have kc0 : (0 : Int32).toInt = 0 := by decide
  have hf : f_X7_wipe st = f_X7_wipe st := rfl
  refine lv_aload_n hx hb dX7_wipe_0 rfl (lv_at hl 0 rfl) ?_
  refine va_get (D := D) (cl := vwCl) (ci := 6) (v := .int (st 0 13)) (C := RX7) (T := TX7) (N := 34) hx hb hts inX7 hown hK.1 hP 0 (mO h ad ct st) rfl 13 (by decide) hw1 (fun _ h => h) (mF_13 ad st) dX7_wipe_1 ?_
  refine lv_topi (fun y4 ey4 => ?_)
  have hf := kLt hf ey4
  refine lv_istore_n (lv' := [(1, .int y4), (0, .ref h)]) hx hb dX7_wipe_4 rfl hl (by decide) rfl (fun ls hl => ?_)
  refine lv_aload_n hx hb dX7_wipe_5 rfl (lv_at hl 1 rfl) ?_
  refine lv_iconst (v := (0 : Int32)) hx hb dX7_wipe_6 (by decide) ?_
  refine kPut (ci := 6) (C := RX7) (T := TX7) (N := 34) (ty := .int) (v := .int (0 : Int32)) (W1 := mW h ad ct (u2 st 0 13 (0 : Int32))) hx hb hts inX7 tyX7 tyX7_ok nmX7 hown hK hP hD hS 0 (mO h ad ct st) rfl 13 (by decide) hw1 (fun _ h => h) rfl (by decide +kernel) rfl rfl (mLn 13 ad st (by decide)) (mS_13 h ad ct st (0 : Int32)) dX7_wipe_7 (fun H locs hP hD hS => ?_)
  refine lv_iload_n hx hb dX7_wipe_10 rfl (lv_at hl 0 rfl) ?_
  exact kRetI hx hb hr hlk hP hD hS (kfst hf) ((congrArg (fun q => mW h ad ct q.2) hf).symm) hQ dX7_wipe_11
theorem kyX7_close : kY yX7_close cX7_close 2 (some .int) wsX7_close wsX7_close.tail 1 := ⟨rfl, by decide, by decide, by decide +kernel⟩
set_option maxHeartbeats 4000000 in
set_option maxRecDepth 100000 in
theorem k_X7_close (l : Launch) (D : va_G) (ct : ClassId × ClassId × ClassId) (z : Nat × Nat) (h : Nat) (ad : Nat → Nat) (x1 : Int32) (st : Nat → Nat → Int32) (hac : 0 ≤ Int32.toInt (st 0 16) ∧ Int32.toInt (st 0 16) < 60) : kC l D ct z yX7_close wsX7_close 0 0 [.ref h, .int x1] (mW h ad ct st) (some (.int ((f_X7_close x1 st).1))) (mW h ad ct ((f_X7_close x1 st).2)) := by
  refine kHead (cc := cX7_close) (maxL := 2) (ret := (some .int)) [(0, .ref h), (1, .int x1)] (by decide) rfl (Nat.le_of_ble_eq_true rfl) rfl ?_
  intro p e s m args below meth c A ls R Q hRf hRl hQ hx hb hr hlk hml hown hts hA hS hK hP hD hl
  have inX7 : ∀ w ∈ wsX70, w ∈ wsX7_close := fun w h => (List.mem_cons_of_mem _ (List.mem_append_right _ h))
  have hw1 := hts (Cond.fieldLink RX7 28 "MastPulpitsModel" "act" "[I") (List.mem_of_getElem? (i := 1) (by decide +kernel))
  have hw2 := hts (Cond.fieldLink RX7 114 "MastPulpitsModel" "acts" "I") (List.mem_of_getElem? (i := 2) (by decide +kernel))
  have kc0 : (0 : Int32).toInt = 0 := by decide
  have kc1 : (1 : Int32).toInt = 1 := by decide
  have hf : f_X7_close x1 st = f_X7_close x1 st := rfl
  refine lv_aload_n hx hb dX7_close_0 rfl (lv_at hl 0 rfl) ?_
  refine va_get (D := D) (cl := vwCl) (ci := 6) (v := .ref (ad 14)) (C := RX7) (T := TX7) (N := 34) hx hb hts inX7 hown hK.1 hP 0 (mO h ad ct st) rfl 14 (by decide) hw1 (fun _ h => h) (mF_14 ad st) dX7_close_1 ?_
  refine lv_aload_n hx hb dX7_close_4 rfl (lv_at hl 0 rfl) ?_
  refine va_get (D := D) (cl := vwCl) (ci := 6) (v := .int (st 0 16)) (C := RX7) (T := TX7) (N := 34) hx hb hts inX7 hown hK.1 hP 0 (mO h ad ct st) rfl 16 (by decide) hw2 (fun _ h => h) (mF_16 ad st) dX7_close_5 ?_
  refine lv_iload_n hx hb dX7_close_8 rfl (lv_at hl 1 rfl) ?_
  refine kIast (W1 := mW h ad ct (u2 st 15 ((Int32.toNatClampNeg (st 0 16))) x1)) hx hb hK hP hD hS 7 (mA_14 h ad ct st) (by first | assumption | exact vin (by omega) (by omega) | omega) (mB_14 h ad ct st _ _) dX7_close_9 (fun H locs hP hD hS => ?_)
  refine lv_aload_n hx hb dX7_close_10 rfl (lv_at hl 0 rfl) ?_
  refine lv_dup hx hb dX7_close_11 rfl ?_
  refine va_get (D := D) (cl := vwCl) (ci := 6) (v := .int (st 0 16)) (C := RX7) (T := TX7) (N := 34) hx hb hts inX7 hown hK.1 hP 0 (mO h ad ct (u2 st 15 ((Int32.toNatClampNeg (st 0 16))) x1)) rfl 16 (by decide) hw2 (fun _ h => h) (mF_16 ad (u2 st 15 ((Int32.toNatClampNeg (st 0 16))) x1)) dX7_close_12 ?_
  refine lv_iconst (v := (1 : Int32)) hx hb dX7_close_15 (by decide) ?_
  refine lv_iadd hx hb dX7_close_16 ?_
  refine lv_topi (fun y17 ey17 => ?_)
  have hf := kLt hf ey17
  refine kPut (ci := 6) (C := RX7) (T := TX7) (N := 34) (ty := .int) (v := .int y17) (W1 := mW h ad ct (u2 (u2 st 15 ((Int32.toNatClampNeg (st 0 16))) x1) 0 16 y17)) hx hb hts inX7 tyX7 tyX7_ok nmX7 hown hK hP hD hS 0 (mO h ad ct (u2 st 15 ((Int32.toNatClampNeg (st 0 16))) x1)) rfl 16 (by decide) hw2 (fun _ h => h) rfl (by decide +kernel) rfl rfl (mLn 16 ad (u2 st 15 ((Int32.toNatClampNeg (st 0 16))) x1) (by decide)) (mS_16 h ad ct (u2 st 15 ((Int32.toNatClampNeg (st 0 16))) x1) y17) dX7_close_17 (fun H locs hP hD hS => ?_)
  refine lv_iconst (v := (0 : Int32)) hx hb dX7_close_20 (by decide) ?_
  exact kRetI hx hb hr hlk hP hD hS (kfst hf) ((congrArg (fun q => mW h ad ct q.2) hf).symm) hQ dX7_close_21
theorem kyX7_begin : kY yX7_begin cX7_begin 3 (some .int) wsX7_begin wsX7_begin.tail 1 := ⟨rfl, by decide, by decide, by decide +kernel⟩
set_option maxHeartbeats 4000000 in
set_option maxRecDepth 100000 in
theorem k_X7_begin (l : Launch) (D : va_G) (ct : ClassId × ClassId × ClassId) (z : Nat × Nat) (h : Nat) (ad : Nat → Nat) (x1 : Int32) (st : Nat → Nat → Int32) (hac : 0 ≤ Int32.toInt (st 0 16) ∧ Int32.toInt (st 0 16) < 60) : kC l D ct z yX7_begin wsX7_begin 1 25 [.ref h, .int x1] (mW h ad ct st) (some (.int ((f_X7_begin x1 st).1))) (mW h ad ct ((f_X7_begin x1 st).2)) := by
  refine kHead (cc := cX7_begin) (maxL := 3) (ret := (some .int)) [(0, .ref h), (1, .int x1)] (by decide) rfl (Nat.le_of_ble_eq_true rfl) rfl ?_
  intro p e s m args below meth c A ls R Q hRf hRl hQ hx hb hr hlk hml hown hts hA hS hK hP hD hl
  have inX7 : ∀ w ∈ wsX70, w ∈ wsX7_begin := fun w h => (List.mem_cons_of_mem _ (List.mem_append_right _ h))
  have hw1 := hts (Cond.constantLong RX7 117 (65)) (List.mem_of_getElem? (i := 1) (by decide +kernel))
  have hw2 := hts (Cond.constantLong RX7 119 (70)) (List.mem_of_getElem? (i := 2) (by decide +kernel))
  have hw3 := hts (Cond.fieldLink RX7 31 "MastPulpitsModel" "much" "[I") (List.mem_of_getElem? (i := 3) (by decide +kernel))
  have hw4 := hts (Cond.fieldLink RX7 114 "MastPulpitsModel" "acts" "I") (List.mem_of_getElem? (i := 4) (by decide +kernel))
  have kcm6 : (-6 : Int32).toInt = -6 := by decide
  have kc0 : (0 : Int32).toInt = 0 := by decide
  have kc1 : (1 : Int32).toInt = 1 := by decide
  have kc2 : (2 : Int32).toInt = 2 := by decide
  have kc3 : (3 : Int32).toInt = 3 := by decide
  have kc4 : (4 : Int32).toInt = 4 := by decide
  have kc5 : (5 : Int32).toInt = 5 := by decide
  have kc65 : (65 : Int32).toInt = 65 := by decide
  have kl65 : (65 : Int64).toInt = 65 := by decide
  have kl70 : (70 : Int64).toInt = 70 := by decide
  have hf : f_X7_begin x1 st = f_X7_begin x1 st := rfl
  refine lv_iload_n hx hb dX7_begin_0 rfl (lv_at hl 1 rfl) ?_
  refine lv_i2l (v := (Int32.toInt64 x1)) hx hb dX7_begin_1 rfl ?_
  refine lv_ldc2 (v := (65 : Int64)) hx hb hown hw1 dX7_begin_2 ?_
  refine lv_ldc2 (v := (70 : Int64)) hx hb hown hw2 dX7_begin_5 ?_
  have hM : kC l D ct z yX7_in wsX7_in 0 0 [.long (Int32.toInt64 x1), .long (65 : Int64), .long (70 : Int64)] ([]) (some (.int (f_X7_in (Int32.toInt64 x1) (65 : Int64) (70 : Int64)))) ([]) := k_X7_in l D ct z (Int32.toInt64 x1) (65 : Int64) (70 : Int64)
  refine kS0 (As := [.long (Int32.toInt64 x1), .long (65 : Int64), .long (70 : Int64)]) (rest := []) ⟨hx, hb, hml, hown, hts⟩ hM gX7_begin_X7_in kyX7_in (by rw [hRf, hRl]; exact ⟨Nat.le_of_ble_eq_true rfl, Nat.le_of_ble_eq_true rfl⟩) hK hP hD hS hA rfl hl.1 rfl (st1 := [.int (f_X7_in (Int32.toInt64 x1) (65 : Int64) (70 : Int64))]) rfl rfl ⟨Nat.zero_le _, Nat.zero_le _⟩ dX7_begin_8 (fun H locs hP hD hS => ?_)
  refine lv_topi (fun y11 ey11 => ?_)
  have hf := kLt hf ey11
  have b01_y11 : y11 = 0 ∨ y11 = 1 := by rw [ey11]; exact (z_X7_in (Int32.toInt64 x1) (65 : Int64) (70 : Int64))
  refine lv_istore_n (lv' := [(2, .int y11), (0, .ref h), (1, .int x1)]) hx hb dX7_begin_11 rfl hl (by decide) rfl (fun ls hl => ?_)
  refine lv_aload_n hx hb dX7_begin_12 rfl (lv_at hl 1 rfl) ?_
  refine va_get (D := D) (cl := vwCl) (ci := 6) (v := .ref (ad 15)) (C := RX7) (T := TX7) (N := 34) hx hb hts inX7 hown hK.1 hP 0 (mO h ad ct st) rfl 15 (by decide) hw3 (fun _ h => h) (mF_15 ad st) dX7_begin_13 ?_
  refine lv_aload_n hx hb dX7_begin_16 rfl (lv_at hl 1 rfl) ?_
  refine va_get (D := D) (cl := vwCl) (ci := 6) (v := .int (st 0 16)) (C := RX7) (T := TX7) (N := 34) hx hb hts inX7 hown hK.1 hP 0 (mO h ad ct st) rfl 16 (by decide) hw4 (fun _ h => h) (mF_16 ad st) dX7_begin_17 ?_
  refine lv_iload_n hx hb dX7_begin_20 rfl (lv_at hl 0 rfl) ?_
  refine kJn hf (fun j0 => ∀ (z32_s0 : Int32), f_X7_begin x1 st = j0 z32_s0 → ∀ (H : Heap) (locs : List Loc) (ls : Array Slot), va_P D vwCl (mW h ad ct st) H → va_D A (mW h ad ct st) → va_S A s.heap H locs → lv_has ls 3 [(2, .int y11), (0, .ref h), (1, .int x1)] → W p l e R s m args below meth c H locs 0 0 Q (F0 m 32 ls [.int z32_s0, .int (st 0 16), .ref (ad 15)])) ?_ ?_
  · intro j0 hj0 z32_s0  hf H locs ls hP hD hS hl
    subst hj0
    refine kIast (W1 := mW h ad ct (u2 st 16 ((Int32.toNatClampNeg (st 0 16))) z32_s0)) hx hb hK hP hD hS 8 (mA_15 h ad ct st) (by first | assumption | exact vin (by omega) (by omega) | omega) (mB_15 h ad ct st _ _) dX7_begin_32 (fun H locs hP hD hS => ?_)
    refine lv_iload_n hx hb dX7_begin_33 rfl (lv_at hl 2 rfl) ?_
    have kv_2 : (46 : Int32).toInt = 46 := by decide
    refine (Classical.em (x1 = (46 : Int32))).elim (fun c_2 => ?_) (fun c_2 => ?_)
    · have hf := kIt hf c_2
      have t_2 := ti_eq c_2
      refine lv_lookup (off := 52) (tgt := 86) hx hb dX7_begin_34 (by decide) (by rw [c_2]; decide) (by decide) ?_
      refine lv_aload_n hx hb dX7_begin_86 rfl (lv_at hl 1 rfl) ?_
      refine lv_iconst (v := (5 : Int32)) hx hb dX7_begin_87 (by decide) ?_
      obtain ⟨q88, eq88⟩ : ∃ y, y = f_X7_close (5 : Int32) (u2 st 16 ((Int32.toNatClampNeg (st 0 16))) z32_s0) := ⟨_, rfl⟩
      have hf := kLt hf eq88
      have hM : kC l D ct z yX7_close wsX7_close 0 0 [.ref h, .int (5 : Int32)] (mW h ad ct (u2 st 16 ((Int32.toNatClampNeg (st 0 16))) z32_s0)) (some (.int q88.1)) (mW h ad ct q88.2) := by rw [eq88]; exact k_X7_close l D ct z h ad (5 : Int32) (u2 st 16 ((Int32.toNatClampNeg (st 0 16))) z32_s0) (by first | assumption | exact vin (by omega) (by omega) | omega)
      refine kV1 (As := [.int (5 : Int32)]) (rest := []) ⟨hx, hb, hml, hown, hts⟩ hM gX7_begin_X7_close kyX7_close (by rw [hRf, hRl]; exact ⟨Nat.le_of_ble_eq_true rfl, Nat.le_of_ble_eq_true rfl⟩) hK hP hD hS hA 0 (mO h ad ct (u2 st 16 ((Int32.toNatClampNeg (st 0 16))) z32_s0)) rfl rfl rfl hl.1 rfl (st1 := [.int q88.1]) rfl rfl ⟨Nat.zero_le _, Nat.zero_le _⟩ dX7_begin_88 (fun H locs hP hD hS => ?_)
      exact kRetI hx hb hr hlk hP hD hS (kfst hf) ((congrArg (fun q => mW h ad ct q.2) hf).symm) hQ dX7_begin_91
    · have hf := kIf hf c_2
      have t_2 := ti_ne c_2
      have kv_3 : (99 : Int32).toInt = 99 := by decide
      refine (Classical.em (x1 = (99 : Int32))).elim (fun c_3 => ?_) (fun c_3 => ?_)
      · have hf := kIt hf c_3
        have t_3 := ti_eq c_3
        refine lv_lookup (off := 46) (tgt := 80) hx hb dX7_begin_34 (by decide) (by rw [c_3]; decide) (by decide) ?_
        refine lv_aload_n hx hb dX7_begin_80 rfl (lv_at hl 1 rfl) ?_
        refine lv_iconst (v := (4 : Int32)) hx hb dX7_begin_81 (by decide) ?_
        obtain ⟨q82, eq82⟩ : ∃ y, y = f_X7_close (4 : Int32) (u2 st 16 ((Int32.toNatClampNeg (st 0 16))) z32_s0) := ⟨_, rfl⟩
        have hf := kLt hf eq82
        have hM : kC l D ct z yX7_close wsX7_close 0 0 [.ref h, .int (4 : Int32)] (mW h ad ct (u2 st 16 ((Int32.toNatClampNeg (st 0 16))) z32_s0)) (some (.int q82.1)) (mW h ad ct q82.2) := by rw [eq82]; exact k_X7_close l D ct z h ad (4 : Int32) (u2 st 16 ((Int32.toNatClampNeg (st 0 16))) z32_s0) (by first | assumption | exact vin (by omega) (by omega) | omega)
        refine kV1 (As := [.int (4 : Int32)]) (rest := []) ⟨hx, hb, hml, hown, hts⟩ hM gX7_begin_X7_close kyX7_close (by rw [hRf, hRl]; exact ⟨Nat.le_of_ble_eq_true rfl, Nat.le_of_ble_eq_true rfl⟩) hK hP hD hS hA 0 (mO h ad ct (u2 st 16 ((Int32.toNatClampNeg (st 0 16))) z32_s0)) rfl rfl rfl hl.1 rfl (st1 := [.int q82.1]) rfl rfl ⟨Nat.zero_le _, Nat.zero_le _⟩ dX7_begin_82 (fun H locs hP hD hS => ?_)
        exact kRetI hx hb hr hlk hP hD hS (kfst hf) ((congrArg (fun q => mW h ad ct q.2) hf).symm) hQ dX7_begin_85
      · have hf := kIf hf c_3
        have t_3 := ti_ne c_3
        have kv_4 : (102 : Int32).toInt = 102 := by decide
        refine (Classical.em (x1 = (102 : Int32))).elim (fun c_4 => ?_) (fun c_4 => ?_)
        · have hf := kIt hf c_4
          have t_4 := ti_eq c_4
          refine lv_lookup (off := 44) (tgt := 78) hx hb dX7_begin_34 (by decide) (by rw [c_4]; decide) (by decide) ?_
          refine lv_iconst (v := (3 : Int32)) hx hb dX7_begin_78 (by decide) ?_
          exact kRetI hx hb hr hlk hP hD hS (kfst hf) ((congrArg (fun q => mW h ad ct q.2) hf).symm) hQ dX7_begin_79
        · have hf := kIf hf c_4
          have t_4 := ti_ne c_4
          have kv_5 : (119 : Int32).toInt = 119 := by decide
          refine (Classical.em (x1 = (119 : Int32))).elim (fun c_5 => ?_) (fun c_5 => ?_)
          · have hf := kIt hf c_5
            have t_5 := ti_eq c_5
            refine lv_lookup (off := 42) (tgt := 76) hx hb dX7_begin_34 (by decide) (by rw [c_5]; decide) (by decide) ?_
            refine lv_iconst (v := (2 : Int32)) hx hb dX7_begin_76 (by decide) ?_
            exact kRetI hx hb hr hlk hP hD hS (kfst hf) ((congrArg (fun q => mW h ad ct q.2) hf).symm) hQ dX7_begin_77
          · have hf := kIf hf c_5
            have t_5 := ti_ne c_5
            refine lv_lookup (off := 58) (tgt := 92) hx hb dX7_begin_34 (by decide) (by show Op.lookupswitch.offset [(46, 52), (99, 46), (102, 44), (119, 42)] _ _ = _; rw [lv_osw c_2 (by decide), lv_osw c_3 (by decide), lv_osw c_4 (by decide), lv_osw c_5 (by decide)]; rfl) (by decide) ?_
            refine lv_iload_n hx hb dX7_begin_92 rfl (lv_at hl 0 rfl) ?_
            refine lv_if_eq (tgt := 100) hx hb dX7_begin_93 (by decide) (fun c_6 => ?_) (fun c_6 => ?_)
            · have hf := kIt hf c_6
              have t_6 := ti_eq c_6
              refine lv_bipush (v := (-6 : Int32)) hx hb dX7_begin_100 (by decide) ?_
              exact kRetI hx hb hr hlk hP hD hS (kfst hf) ((congrArg (fun q => mW h ad ct q.2) hf).symm) hQ dX7_begin_102
            · have hf := kIf hf c_6
              have t_6 := ti_ne c_6
              refine lv_iconst (v := (1 : Int32)) hx hb dX7_begin_96 (by decide) ?_
              refine lv_goto (tgt := 102) hx hb dX7_begin_97 (by decide) ?_
              exact kRetI hx hb hr hlk hP hD hS (kfst hf) ((congrArg (fun q => mW h ad ct q.2) hf).symm) hQ dX7_begin_102
  · intro j32 hJ32 hf
    refine lv_if_eq (tgt := 31) hx hb dX7_begin_21 (by decide) (fun c_1 => ?_) (fun c_1 => ?_)
    · have hf := kIt hf c_1
      have t_1 := ti_eq c_1
      refine lv_iconst (v := (0 : Int32)) hx hb dX7_begin_31 (by decide) ?_
      exact hJ32 _  hf _ _ _ hP hD hS (lv_sub hl [0, 1, 2] rfl)
    · have hf := kIf hf c_1
      have t_1 := ti_ne c_1
      refine lv_iload_n hx hb dX7_begin_24 rfl (lv_at hl 2 rfl) ?_
      refine lv_bipush (v := (65 : Int32)) hx hb dX7_begin_25 (by decide) ?_
      refine lv_isub hx hb dX7_begin_27 ?_
      refine lv_goto (tgt := 32) hx hb dX7_begin_28 (by decide) ?_
      exact hJ32 _  hf _ _ _ hP hD hS (lv_sub hl [0, 1, 2] rfl)
theorem kyX7_digit : kY yX7_digit cX7_digit 3 (some .int) wsX7_digit wsX7_digit.tail 2 := ⟨rfl, by decide, by decide, by decide +kernel⟩
set_option maxHeartbeats 4000000 in
set_option maxRecDepth 100000 in
theorem k_X7_digit (l : Launch) (D : va_G) (ct : ClassId × ClassId × ClassId) (z : Nat × Nat) (h : Nat) (ad : Nat → Nat) (x1 : Int32) (x2 : Int32) (st : Nat → Nat → Int32) (hac : 0 ≤ Int32.toInt (st 0 16) ∧ Int32.toInt (st 0 16) < 60) : kC l D ct z yX7_digit wsX7_digit 1 25 [.ref h, .int x1, .int x2] (mW h ad ct st) (some (.int ((f_X7_digit x1 x2 st).1))) (mW h ad ct ((f_X7_digit x1 x2 st).2)) := by
  refine kHead (cc := cX7_digit) (maxL := 3) (ret := (some .int)) [(0, .ref h), (1, .int x1), (2, .int x2)] (by decide) rfl (Nat.le_of_ble_eq_true rfl) rfl ?_
  intro p e s m args below meth c A ls R Q hRf hRl hQ hx hb hr hlk hml hown hts hA hS hK hP hD hl
  have inX7 : ∀ w ∈ wsX70, w ∈ wsX7_digit := fun w h => (List.mem_cons_of_mem _ (List.mem_append_right _ h))
  have hw1 := hts (Cond.fieldLink RX7 31 "MastPulpitsModel" "much" "[I") (List.mem_of_getElem? (i := 1) (by decide +kernel))
  have hw2 := hts (Cond.fieldLink RX7 114 "MastPulpitsModel" "acts" "I") (List.mem_of_getElem? (i := 2) (by decide +kernel))
  have hw3 := hts (Cond.constantLong RX7 124 (48)) (List.mem_of_getElem? (i := 3) (by decide +kernel))
  have hw4 := hts (Cond.constantLong RX7 126 (55)) (List.mem_of_getElem? (i := 4) (by decide +kernel))
  have kcm6 : (-6 : Int32).toInt = -6 := by decide
  have kc0 : (0 : Int32).toInt = 0 := by decide
  have kc2 : (2 : Int32).toInt = 2 := by decide
  have kc3 : (3 : Int32).toInt = 3 := by decide
  have kc48 : (48 : Int32).toInt = 48 := by decide
  have kl48 : (48 : Int64).toInt = 48 := by decide
  have kl55 : (55 : Int64).toInt = 55 := by decide
  have hf : f_X7_digit x1 x2 st = f_X7_digit x1 x2 st := rfl
  refine lv_aload_n hx hb dX7_digit_0 rfl (lv_at hl 0 rfl) ?_
  refine va_get (D := D) (cl := vwCl) (ci := 6) (v := .ref (ad 15)) (C := RX7) (T := TX7) (N := 34) hx hb hts inX7 hown hK.1 hP 0 (mO h ad ct st) rfl 15 (by decide) hw1 (fun _ h => h) (mF_15 ad st) dX7_digit_1 ?_
  refine lv_aload_n hx hb dX7_digit_4 rfl (lv_at hl 0 rfl) ?_
  refine va_get (D := D) (cl := vwCl) (ci := 6) (v := .int (st 0 16)) (C := RX7) (T := TX7) (N := 34) hx hb hts inX7 hown hK.1 hP 0 (mO h ad ct st) rfl 16 (by decide) hw2 (fun _ h => h) (mF_16 ad st) dX7_digit_5 ?_
  refine lv_iload_n hx hb dX7_digit_8 rfl (lv_at hl 2 rfl) ?_
  refine lv_bipush (v := (48 : Int32)) hx hb dX7_digit_9 (by decide) ?_
  refine lv_isub hx hb dX7_digit_11 ?_
  refine lv_topi (fun y12 ey12 => ?_)
  have hf := kLt hf ey12
  refine kIast (W1 := mW h ad ct (u2 st 16 ((Int32.toNatClampNeg (st 0 16))) y12)) hx hb hK hP hD hS 8 (mA_15 h ad ct st) (by first | assumption | exact vin (by omega) (by omega) | omega) (mB_15 h ad ct st _ _) dX7_digit_12 (fun H locs hP hD hS => ?_)
  refine lv_iload_n hx hb dX7_digit_13 rfl (lv_at hl 2 rfl) ?_
  refine lv_i2l (v := (Int32.toInt64 x2)) hx hb dX7_digit_14 rfl ?_
  refine lv_ldc2 (v := (48 : Int64)) hx hb hown hw3 dX7_digit_15 ?_
  refine lv_ldc2 (v := (55 : Int64)) hx hb hown hw4 dX7_digit_18 ?_
  have hM : kC l D ct z yX7_in wsX7_in 0 0 [.long (Int32.toInt64 x2), .long (48 : Int64), .long (55 : Int64)] ([]) (some (.int (f_X7_in (Int32.toInt64 x2) (48 : Int64) (55 : Int64)))) ([]) := k_X7_in l D ct z (Int32.toInt64 x2) (48 : Int64) (55 : Int64)
  refine kS0 (As := [.long (Int32.toInt64 x2), .long (48 : Int64), .long (55 : Int64)]) (rest := []) ⟨hx, hb, hml, hown, hts⟩ hM gX7_digit_X7_in kyX7_in (by rw [hRf, hRl]; exact ⟨Nat.le_of_ble_eq_true rfl, Nat.le_of_ble_eq_true rfl⟩) hK hP hD hS hA rfl hl.1 rfl (st1 := [.int (f_X7_in (Int32.toInt64 x2) (48 : Int64) (55 : Int64))]) rfl rfl ⟨Nat.zero_le _, Nat.zero_le _⟩ dX7_digit_21 (fun H locs hP hD hS => ?_)
  refine lv_if_eq (tgt := 44) hx hb dX7_digit_24 (by decide) (fun c_1 => ?_) (fun c_1 => ?_)
  · have hf := kIt hf c_1
    have t_1 := ti_eq c_1
    refine lv_bipush (v := (-6 : Int32)) hx hb dX7_digit_44 (by decide) ?_
    exact kRetI hx hb hr hlk hP hD hS (kfst hf) ((congrArg (fun q => mW h ad ct q.2) hf).symm) hQ dX7_digit_46
  · have hf := kIf hf c_1
    have t_1 := ti_ne c_1; have w_1 := in_nz c_1
    refine lv_aload_n hx hb dX7_digit_27 rfl (lv_at hl 0 rfl) ?_
    refine lv_iload_n hx hb dX7_digit_28 rfl (lv_at hl 1 rfl) ?_
    refine lv_iconst (v := (2 : Int32)) hx hb dX7_digit_29 (by decide) ?_
    refine kJn hf (fun j0 => ∀ (z38_s0 : Int32), f_X7_digit x1 x2 st = j0 z38_s0 → ∀ (H : Heap) (locs : List Loc) (ls : Array Slot), va_P D vwCl (mW h ad ct (u2 st 16 ((Int32.toNatClampNeg (st 0 16))) y12)) H → va_D A (mW h ad ct (u2 st 16 ((Int32.toNatClampNeg (st 0 16))) y12)) → va_S A s.heap H locs → lv_has ls 3 [] → W p l e R s m args below meth c H locs 0 0 Q (F0 m 38 ls [.int z38_s0, .ref h])) ?_ ?_
    · intro j0 hj0 z38_s0  hf H locs ls hP hD hS hl
      subst hj0
      obtain ⟨q38, eq38⟩ : ∃ y, y = f_X7_close z38_s0 (u2 st 16 ((Int32.toNatClampNeg (st 0 16))) y12) := ⟨_, rfl⟩
      have hf := kLt hf eq38
      have hM : kC l D ct z yX7_close wsX7_close 0 0 [.ref h, .int z38_s0] (mW h ad ct (u2 st 16 ((Int32.toNatClampNeg (st 0 16))) y12)) (some (.int q38.1)) (mW h ad ct q38.2) := by rw [eq38]; exact k_X7_close l D ct z h ad z38_s0 (u2 st 16 ((Int32.toNatClampNeg (st 0 16))) y12) (by first | assumption | exact vin (by omega) (by omega) | omega)
      refine kV1 (As := [.int z38_s0]) (rest := []) ⟨hx, hb, hml, hown, hts⟩ hM gX7_digit_X7_close kyX7_close (by rw [hRf, hRl]; exact ⟨Nat.le_of_ble_eq_true rfl, Nat.le_of_ble_eq_true rfl⟩) hK hP hD hS hA 0 (mO h ad ct (u2 st 16 ((Int32.toNatClampNeg (st 0 16))) y12)) rfl rfl rfl hl.1 rfl (st1 := [.int q38.1]) rfl rfl ⟨Nat.zero_le _, Nat.zero_le _⟩ dX7_digit_38 (fun H locs hP hD hS => ?_)
      refine lv_goto (tgt := 46) hx hb dX7_digit_41 (by decide) ?_
      exact kRetI hx hb hr hlk hP hD hS (kfst hf) ((congrArg (fun q => mW h ad ct q.2) hf).symm) hQ dX7_digit_46
    · intro j38 hJ38 hf
      refine lv_icmp_ne (tgt := 37) hx hb dX7_digit_30 (by decide) (fun c_2 => ?_) (fun c_2 => ?_)
      · have hf := kIf hf c_2
        have t_2 := ti_ne c_2
        refine lv_iconst (v := (3 : Int32)) hx hb dX7_digit_37 (by decide) ?_
        exact hJ38 _  hf _ _ _ hP hD hS (lv_sub hl [] rfl)
      · have hf := kIt hf c_2
        have t_2 := ti_eq c_2
        refine lv_iconst (v := (2 : Int32)) hx hb dX7_digit_33 (by decide) ?_
        refine lv_goto (tgt := 38) hx hb dX7_digit_34 (by decide) ?_
        exact hJ38 _  hf _ _ _ hP hD hS (lv_sub hl [] rfl)
theorem kyX7_readOn : kY yX7_readOn cX7_readOn 3 (some .int) wsX7_readOn wsX7_readOn.tail 2 := ⟨rfl, by decide, by decide, by decide +kernel⟩
set_option maxHeartbeats 4000000 in
set_option maxRecDepth 100000 in
theorem k_X7_readOn (l : Launch) (D : va_G) (ct : ClassId × ClassId × ClassId) (z : Nat × Nat) (h : Nat) (ad : Nat → Nat) (x1 : Int32) (x2 : Int32) (st : Nat → Nat → Int32) (hac : 0 ≤ Int32.toInt (st 0 16) ∧ Int32.toInt (st 0 16) < 60) : kC l D ct z yX7_readOn wsX7_readOn 2 47 [.ref h, .int x1, .int x2] (mW h ad ct st) (some (.int ((f_X7_readOn x1 x2 st).1))) (mW h ad ct ((f_X7_readOn x1 x2 st).2)) := by
  refine kHead (cc := cX7_readOn) (maxL := 3) (ret := (some .int)) [(0, .ref h), (1, .int x1), (2, .int x2)] (by decide) rfl (Nat.le_of_ble_eq_true rfl) rfl ?_
  intro p e s m args below meth c A ls R Q hRf hRl hQ hx hb hr hlk hml hown hts hA hS hK hP hD hl
  have kcm6 : (-6 : Int32).toInt = -6 := by decide
  have kc0 : (0 : Int32).toInt = 0 := by decide
  have kc1 : (1 : Int32).toInt = 1 := by decide
  have kc94 : (94 : Int32).toInt = 94 := by decide
  have kc95 : (95 : Int32).toInt = 95 := by decide
  have hf : f_X7_readOn x1 x2 st = f_X7_readOn x1 x2 st := rfl
  refine lv_iload_n hx hb dX7_readOn_0 rfl (lv_at hl 1 rfl) ?_
  refine lv_if_ne (tgt := 10) hx hb dX7_readOn_1 (by decide) (fun c_1 => ?_) (fun c_1 => ?_)
  · have hf := kIf hf c_1
    have t_1 := ti_ne c_1
    refine lv_iload_n hx hb dX7_readOn_10 rfl (lv_at hl 1 rfl) ?_
    refine lv_iconst (v := (1 : Int32)) hx hb dX7_readOn_11 (by decide) ?_
    refine lv_icmp_ne (tgt := 46) hx hb dX7_readOn_12 (by decide) (fun c_2 => ?_) (fun c_2 => ?_)
    · have hf := kIf hf c_2
      have t_2 := ti_ne c_2
      refine lv_aload_n hx hb dX7_readOn_46 rfl (lv_at hl 0 rfl) ?_
      refine lv_iload_n hx hb dX7_readOn_47 rfl (lv_at hl 1 rfl) ?_
      refine lv_iload_n hx hb dX7_readOn_48 rfl (lv_at hl 2 rfl) ?_
      obtain ⟨q49, eq49⟩ : ∃ y, y = f_X7_digit x1 x2 st := ⟨_, rfl⟩
      have hf := kLt hf eq49
      have hM : kC l D ct z yX7_digit wsX7_digit 1 25 [.ref h, .int x1, .int x2] (mW h ad ct st) (some (.int q49.1)) (mW h ad ct q49.2) := by rw [eq49]; exact k_X7_digit l D ct z h ad x1 x2 st (by first | assumption | exact vin (by omega) (by omega) | omega)
      refine kV1 (As := [.int x1, .int x2]) (rest := []) ⟨hx, hb, hml, hown, hts⟩ hM gX7_readOn_X7_digit kyX7_digit (by rw [hRf, hRl]; exact ⟨Nat.le_of_ble_eq_true rfl, Nat.le_of_ble_eq_true rfl⟩) hK hP hD hS hA 0 (mO h ad ct st) rfl rfl rfl hl.1 rfl (st1 := [.int q49.1]) rfl rfl ⟨Nat.zero_le _, Nat.zero_le _⟩ dX7_readOn_49 (fun H locs hP hD hS => ?_)
      exact kRetI hx hb hr hlk hP hD hS (kfst hf) ((congrArg (fun q => mW h ad ct q.2) hf).symm) hQ dX7_readOn_52
    · have hf := kIt hf c_2
      have t_2 := ti_eq c_2
      refine lv_iload_n hx hb dX7_readOn_15 rfl (lv_at hl 2 rfl) ?_
      refine lv_bipush (v := (94 : Int32)) hx hb dX7_readOn_16 (by decide) ?_
      refine lv_icmp_ne (tgt := 29) hx hb dX7_readOn_18 (by decide) (fun c_3 => ?_) (fun c_3 => ?_)
      · have hf := kIf hf c_3
        have t_3 := ti_ne c_3
        refine lv_iload_n hx hb dX7_readOn_29 rfl (lv_at hl 2 rfl) ?_
        refine lv_bipush (v := (95 : Int32)) hx hb dX7_readOn_30 (by decide) ?_
        refine lv_icmp_ne (tgt := 43) hx hb dX7_readOn_32 (by decide) (fun c_4 => ?_) (fun c_4 => ?_)
        · have hf := kIf hf c_4
          have t_4 := ti_ne c_4
          refine lv_bipush (v := (-6 : Int32)) hx hb dX7_readOn_43 (by decide) ?_
          exact kRetI hx hb hr hlk hP hD hS (kfst hf) ((congrArg (fun q => mW h ad ct q.2) hf).symm) hQ dX7_readOn_45
        · have hf := kIt hf c_4
          have t_4 := ti_eq c_4
          refine lv_aload_n hx hb dX7_readOn_35 rfl (lv_at hl 0 rfl) ?_
          refine lv_iconst (v := (1 : Int32)) hx hb dX7_readOn_36 (by decide) ?_
          obtain ⟨q37, eq37⟩ : ∃ y, y = f_X7_close (1 : Int32) st := ⟨_, rfl⟩
          have hf := kLt hf eq37
          have hM : kC l D ct z yX7_close wsX7_close 0 0 [.ref h, .int (1 : Int32)] (mW h ad ct st) (some (.int q37.1)) (mW h ad ct q37.2) := by rw [eq37]; exact k_X7_close l D ct z h ad (1 : Int32) st (by first | assumption | exact vin (by omega) (by omega) | omega)
          refine kV1 (As := [.int (1 : Int32)]) (rest := []) ⟨hx, hb, hml, hown, hts⟩ hM gX7_readOn_X7_close kyX7_close (by rw [hRf, hRl]; exact ⟨Nat.le_of_ble_eq_true rfl, Nat.le_of_ble_eq_true rfl⟩) hK hP hD hS hA 0 (mO h ad ct st) rfl rfl rfl hl.1 rfl (st1 := [.int q37.1]) rfl rfl ⟨Nat.zero_le _, Nat.zero_le _⟩ dX7_readOn_37 (fun H locs hP hD hS => ?_)
          refine lv_goto (tgt := 45) hx hb dX7_readOn_40 (by decide) ?_
          exact kRetI hx hb hr hlk hP hD hS (kfst hf) ((congrArg (fun q => mW h ad ct q.2) hf).symm) hQ dX7_readOn_45
      · have hf := kIt hf c_3
        have t_3 := ti_eq c_3
        refine lv_aload_n hx hb dX7_readOn_21 rfl (lv_at hl 0 rfl) ?_
        refine lv_iconst (v := (0 : Int32)) hx hb dX7_readOn_22 (by decide) ?_
        obtain ⟨q23, eq23⟩ : ∃ y, y = f_X7_close (0 : Int32) st := ⟨_, rfl⟩
        have hf := kLt hf eq23
        have hM : kC l D ct z yX7_close wsX7_close 0 0 [.ref h, .int (0 : Int32)] (mW h ad ct st) (some (.int q23.1)) (mW h ad ct q23.2) := by rw [eq23]; exact k_X7_close l D ct z h ad (0 : Int32) st (by first | assumption | exact vin (by omega) (by omega) | omega)
        refine kV1 (As := [.int (0 : Int32)]) (rest := []) ⟨hx, hb, hml, hown, hts⟩ hM gX7_readOn_X7_close kyX7_close (by rw [hRf, hRl]; exact ⟨Nat.le_of_ble_eq_true rfl, Nat.le_of_ble_eq_true rfl⟩) hK hP hD hS hA 0 (mO h ad ct st) rfl rfl rfl hl.1 rfl (st1 := [.int q23.1]) rfl rfl ⟨Nat.zero_le _, Nat.zero_le _⟩ dX7_readOn_23 (fun H locs hP hD hS => ?_)
        refine lv_goto (tgt := 45) hx hb dX7_readOn_26 (by decide) ?_
        exact kRetI hx hb hr hlk hP hD hS (kfst hf) ((congrArg (fun q => mW h ad ct q.2) hf).symm) hQ dX7_readOn_45
  · have hf := kIt hf c_1
    have t_1 := ti_eq c_1
    refine lv_aload_n hx hb dX7_readOn_4 rfl (lv_at hl 0 rfl) ?_
    refine lv_iload_n hx hb dX7_readOn_5 rfl (lv_at hl 2 rfl) ?_
    obtain ⟨q6, eq6⟩ : ∃ y, y = f_X7_begin x2 st := ⟨_, rfl⟩
    have hf := kLt hf eq6
    have hM : kC l D ct z yX7_begin wsX7_begin 1 25 [.ref h, .int x2] (mW h ad ct st) (some (.int q6.1)) (mW h ad ct q6.2) := by rw [eq6]; exact k_X7_begin l D ct z h ad x2 st (by first | assumption | exact vin (by omega) (by omega) | omega)
    refine kV1 (As := [.int x2]) (rest := []) ⟨hx, hb, hml, hown, hts⟩ hM gX7_readOn_X7_begin kyX7_begin (by rw [hRf, hRl]; exact ⟨Nat.le_of_ble_eq_true rfl, Nat.le_of_ble_eq_true rfl⟩) hK hP hD hS hA 0 (mO h ad ct st) rfl rfl rfl hl.1 rfl (st1 := [.int q6.1]) rfl rfl ⟨Nat.zero_le _, Nat.zero_le _⟩ dX7_readOn_6 (fun H locs hP hD hS => ?_)
    exact kRetI hx hb hr hlk hP hD hS (kfst hf) ((congrArg (fun q => mW h ad ct q.2) hf).symm) hQ dX7_readOn_9
theorem kyX7_fault : kY yX7_fault cX7_fault 3 (some .int) wsX7_fault wsX7_fault.tail 0 := ⟨rfl, by decide, by decide, by decide +kernel⟩
set_option maxHeartbeats 4000000 in
set_option maxRecDepth 100000 in
theorem k_X7_fault (l : Launch) (D : va_G) (ct : ClassId × ClassId × ClassId) (z : Nat × Nat) (h : Nat) (ad : Nat → Nat) (st : Nat → Nat → Int32) (hpad : 0 ≤ Int32.toInt (st 0 13) ∧ Int32.toInt (st 0 13) ≤ 60) : kC l D ct z yX7_fault wsX7_fault 3 69 [.ref h] (mW h ad ct st) (some (.int ((f_X7_fault st).1))) (mW h ad ct ((f_X7_fault st).2)) := by
  refine kHead (cc := cX7_fault) (maxL := 3) (ret := (some .int)) [(0, .ref h)] (by decide) rfl (Nat.le_of_ble_eq_true rfl) rfl ?_
  intro p e s m args below meth c A ls R Q hRf hRl hQ hx hb hr hlk hml hown hts hA hS hK hP hD hl
  have inX7 : ∀ w ∈ wsX70, w ∈ wsX7_fault := fun w h => (List.mem_cons_of_mem _ (List.mem_append_right _ h))
  have hw1 := hts (Cond.fieldLink RX7 114 "MastPulpitsModel" "acts" "I") (List.mem_of_getElem? (i := 1) (by decide +kernel))
  have hw2 := hts (Cond.fieldLink RX7 111 "MastPulpitsModel" "padMany" "I") (List.mem_of_getElem? (i := 2) (by decide +kernel))
  have hw3 := hts (Cond.fieldLink RX7 25 "MastPulpitsModel" "pad" "[I") (List.mem_of_getElem? (i := 3) (by decide +kernel))
  have kcm6 : (-6 : Int32).toInt = -6 := by decide
  have kc0 : (0 : Int32).toInt = 0 := by decide
  have kc1 : (1 : Int32).toInt = 1 := by decide
  have hf : f_X7_fault st = f_X7_fault st := rfl
  refine lv_aload_n hx hb dX7_fault_0 rfl (lv_at hl 0 rfl) ?_
  refine lv_iconst (v := (0 : Int32)) hx hb dX7_fault_1 (by decide) ?_
  refine kPut (ci := 6) (C := RX7) (T := TX7) (N := 34) (ty := .int) (v := .int (0 : Int32)) (W1 := mW h ad ct (u2 st 0 16 (0 : Int32))) hx hb hts inX7 tyX7 tyX7_ok nmX7 hown hK hP hD hS 0 (mO h ad ct st) rfl 16 (by decide) hw1 (fun _ h => h) rfl (by decide +kernel) rfl rfl (mLn 16 ad st (by decide)) (mS_16 h ad ct st (0 : Int32)) dX7_fault_2 (fun H locs hP hD hS => ?_)
  refine lv_iconst (v := (0 : Int32)) hx hb dX7_fault_5 (by decide) ?_
  refine lv_istore_n (lv' := [(1, .int (0 : Int32)), (0, .ref h)]) hx hb dX7_fault_6 rfl hl (by decide) rfl (fun ls hl => ?_)
  refine lv_iconst (v := (0 : Int32)) hx hb dX7_fault_7 (by decide) ?_
  refine lv_istore_n (lv' := [(2, .int (0 : Int32)), (1, .int (0 : Int32)), (0, .ref h)]) hx hb dX7_fault_8 rfl hl (by decide) rfl (fun ls hl => ?_)
  have lp9 : ∀ (K : Int32 → (Nat → Nat → Int32) → (Int32 × (Nat → Nat → Int32))), (∀ (z9_1 : Int32) (z9_st : Nat → Nat → Int32), ∀ (H : Heap) (locs : List Loc) (ls : Array Slot), (Int32.toInt (z9_st 0 13) = Int32.toInt (st 0 13)) → (rdOK z9_1 z9_st) → va_P D vwCl (mW h ad ct z9_st) H → va_D A (mW h ad ct z9_st) → va_S A s.heap H locs → lv_has ls 3 [(1, .int z9_1), (0, .ref h)] → f_X7_fault st = K z9_1 z9_st → W p l e R s m args below meth c H locs 0 0 Q (F0 m 41 ls [])) → ∀ (n : Nat) (z9_2 : Int32) (z9_1 : Int32) (z9_st : Nat → Nat → Int32), ∀ (H : Heap) (locs : List Loc) (ls : Array Slot), (Int32.toInt (st 0 13) ≤ Int32.toInt z9_2 + (n : Int)) → (0 ≤ Int32.toInt z9_2) → (Int32.toInt (z9_st 0 13) = Int32.toInt (st 0 13)) → (0 ≤ Int32.toInt (z9_st 0 16) ∧ Int32.toInt (z9_st 0 16) ≤ Int32.toInt z9_2) → (rdOK z9_1 z9_st) → va_P D vwCl (mW h ad ct z9_st) H → va_D A (mW h ad ct z9_st) → va_S A s.heap H locs → lv_has ls 3 [(2, .int z9_2), (1, .int z9_1), (0, .ref h)] → f_X7_fault st = f_X7_fault_L9  K n z9_2 z9_1 z9_st → W p l e R s m args below meth c H locs 0 0 Q (F0 m 9 ls []) := by
    intro K hk n
    induction n with
    | zero =>
      intro z9_2 z9_1 z9_st  H locs ls hn9 hz9 hp9 ha9 hr9 hP hD hS hl hf
      refine lv_iload_n hx hb dX7_fault_9 rfl (lv_at hl 0 rfl) ?_
      refine lv_aload_n hx hb dX7_fault_10 rfl (lv_at hl 2 rfl) ?_
      refine va_get (D := D) (cl := vwCl) (ci := 6) (v := .int (z9_st 0 13)) (C := RX7) (T := TX7) (N := 34) hx hb hts inX7 hown hK.1 hP 0 (mO h ad ct z9_st) rfl 13 (by decide) hw2 (fun _ h => h) (mF_13 ad z9_st) dX7_fault_11 ?_
      refine lv_icmp_ge (tgt := 41) hx hb dX7_fault_14 (by decide) (fun c_3 => ?_) (fun c_3 => ?_)
      · have t_3 := ti_le c_3
        exact hk _ _ _ _ _ (by first | assumption | exact vin (by omega) (by omega) | omega) (by first | assumption | exact vin (by omega) (by omega) | omega) hP hD hS (lv_sub hl [1, 2] rfl) hf
      · have t_3 := ti_nle c_3
        exfalso
        omega
    | succ n ih =>
      intro z9_2 z9_1 z9_st  H locs ls hn9 hz9 hp9 ha9 hr9 hP hD hS hl hf
      refine lv_iload_n hx hb dX7_fault_9 rfl (lv_at hl 0 rfl) ?_
      refine lv_aload_n hx hb dX7_fault_10 rfl (lv_at hl 2 rfl) ?_
      refine va_get (D := D) (cl := vwCl) (ci := 6) (v := .int (z9_st 0 13)) (C := RX7) (T := TX7) (N := 34) hx hb hts inX7 hown hK.1 hP 0 (mO h ad ct z9_st) rfl 13 (by decide) hw2 (fun _ h => h) (mF_13 ad z9_st) dX7_fault_11 ?_
      refine lv_icmp_ge (tgt := 41) hx hb dX7_fault_14 (by decide) (fun c_1 => ?_) (fun c_1 => ?_)
      · have hf := kIt hf c_1
        have t_1 := ti_le c_1
        exact hk _ _ _ _ _ (by first | assumption | exact vin (by omega) (by omega) | omega) (by first | assumption | exact vin (by omega) (by omega) | omega) hP hD hS (lv_sub hl [1, 2] rfl) hf
      · have hf := kIf hf c_1
        have t_1 := ti_nle c_1
        refine lv_aload_n hx hb dX7_fault_17 rfl (lv_at hl 2 rfl) ?_
        refine lv_iload_n hx hb dX7_fault_18 rfl (lv_at hl 1 rfl) ?_
        refine lv_aload_n hx hb dX7_fault_19 rfl (lv_at hl 2 rfl) ?_
        refine va_get (D := D) (cl := vwCl) (ci := 6) (v := .ref (ad 12)) (C := RX7) (T := TX7) (N := 34) hx hb hts inX7 hown hK.1 hP 0 (mO h ad ct z9_st) rfl 12 (by decide) hw3 (fun _ h => h) (mF_12 ad z9_st) dX7_fault_20 ?_
        refine lv_iload_n hx hb dX7_fault_23 rfl (lv_at hl 0 rfl) ?_
        refine va_iald hx hb hK.1 hP 6 0 (mA_12 h ad ct z9_st) rfl (by first | assumption | exact vin (by omega) (by omega) | omega) dX7_fault_24 ?_
        obtain ⟨q25, eq25⟩ : ∃ y, y = f_X7_readOn z9_1 (z9_st 13 (Int32.toNatClampNeg z9_2)) z9_st := ⟨_, rfl⟩
        have hf := kLt hf eq25
        have g25 := readOn_fr z9_1 (z9_st 13 (Int32.toNatClampNeg z9_2)) z9_st (by omega) (by omega) hr9
        rw [← eq25] at g25
        have hM : kC l D ct z yX7_readOn wsX7_readOn 2 47 [.ref h, .int z9_1, .int (z9_st 13 (Int32.toNatClampNeg z9_2))] (mW h ad ct z9_st) (some (.int q25.1)) (mW h ad ct q25.2) := by rw [eq25]; exact k_X7_readOn l D ct z h ad z9_1 (z9_st 13 (Int32.toNatClampNeg z9_2)) z9_st (by first | assumption | exact vin (by omega) (by omega) | omega)
        refine kV1 (As := [.int z9_1, .int (z9_st 13 (Int32.toNatClampNeg z9_2))]) (rest := []) ⟨hx, hb, hml, hown, hts⟩ hM gX7_fault_X7_readOn kyX7_readOn (by rw [hRf, hRl]; exact ⟨Nat.le_of_ble_eq_true rfl, Nat.le_of_ble_eq_true rfl⟩) hK hP hD hS hA 0 (mO h ad ct z9_st) rfl rfl rfl hl.1 rfl (st1 := [.int q25.1]) rfl rfl ⟨Nat.zero_le _, Nat.zero_le _⟩ dX7_fault_25 (fun H locs hP hD hS => ?_)
        refine lv_istore_n (lv' := [(1, .int q25.1), (2, .int z9_2), (0, .ref h)]) hx hb dX7_fault_28 rfl hl (by decide) rfl (fun ls hl => ?_)
        refine lv_iload_n hx hb dX7_fault_29 rfl (lv_at hl 0 rfl) ?_
        refine lv_if_ge (tgt := 35) hx hb dX7_fault_30 (by decide) (fun c_2 => ?_) (fun c_2 => ?_)
        · have hf := kIt hf c_2
          have t_2 := ti_le c_2
          obtain ⟨y35, ey35⟩ : ∃ y : Int32, y = z9_2 + (1 : Int32) := ⟨_, rfl⟩
          have hf := kLt hf ey35
          have a35 : Int32.toInt y35 = Int32.toInt z9_2 + 1 := by have := ti_rng z9_2; rw [ey35]; exact ti_add (by rw [kc1]) (by omega) (by omega)
          refine lv_iinc (v := y35) (lv' := [(2, .int y35), (1, .int q25.1), (0, .ref h)]) hx hb dX7_fault_35 hl (k := 1) rfl (by rw [ey35]; rfl) (by decide) rfl (fun ls hl => ?_)
          refine lv_goto (tgt := 9) hx hb dX7_fault_38 (by decide) ?_
          exact ih y35 q25.1 q25.2 _ _ _ (by first | assumption | exact vin (by omega) (by omega) | omega) (by first | assumption | exact vin (by omega) (by omega) | omega) (by rw [g25.1]; exact hp9) (by rcases g25.2.2.2.2.1 with q | q <;> rw [q]; omega; rw [show Int32.toInt (z9_st 0 16 + (1 : Int32)) = Int32.toInt (z9_st 0 16) + 1 from ti_add (by rw [kc1]) (by omega) (by omega)]; omega) g25.2.2.2.2.2 hP hD hS (lv_sub hl [0, 1, 2] rfl) hf
        · have hf := kIf hf c_2
          have t_2 := ti_nle c_2
          refine lv_iload_n hx hb dX7_fault_33 rfl (lv_at hl 1 rfl) ?_
          exact kRetI hx hb hr hlk hP hD hS (kfst hf) ((congrArg (fun q => mW h ad ct q.2) hf).symm) hQ dX7_fault_34
  refine lp9 _ (fun w9_1 w9_st  H locs ls hp9 hr9 hP hD hS hl hf => ?_) (60) (0 : Int32) (0 : Int32) (u2 st 0 16 (0 : Int32))  _ _ _ (by first | assumption | exact vin (by omega) (by omega) | omega) (by first | assumption | exact vin (by omega) (by omega) | omega) rfl (show 0 ≤ Int32.toInt (0 : Int32) ∧ Int32.toInt (0 : Int32) ≤ Int32.toInt (0 : Int32) by omega) (rdOK_0 st) hP hD hS (lv_sub hl [0, 1, 2] rfl) hf
  refine lv_iload_n hx hb dX7_fault_41 rfl (lv_at hl 0 rfl) ?_
  refine lv_if_ne (tgt := 50) hx hb dX7_fault_42 (by decide) (fun c_4 => ?_) (fun c_4 => ?_)
  · have hf := kIf hf c_4
    have t_4 := ti_ne c_4
    refine lv_aload_n hx hb dX7_fault_50 rfl (lv_at hl 1 rfl) ?_
    refine va_get (D := D) (cl := vwCl) (ci := 6) (v := .int (w9_st 0 13)) (C := RX7) (T := TX7) (N := 34) hx hb hts inX7 hown hK.1 hP 0 (mO h ad ct w9_st) rfl 13 (by decide) hw2 (fun _ h => h) (mF_13 ad w9_st) dX7_fault_51 ?_
    exact kRetI hx hb hr hlk hP hD hS (kfst hf) ((congrArg (fun q => mW h ad ct q.2) hf).symm) hQ dX7_fault_54
  · have hf := kIt hf c_4
    have t_4 := ti_eq c_4
    refine lv_bipush (v := (-6 : Int32)) hx hb dX7_fault_45 (by decide) ?_
    refine lv_goto (tgt := 54) hx hb dX7_fault_47 (by decide) ?_
    exact kRetI hx hb hr hlk hP hD hS (kfst hf) ((congrArg (fun q => mW h ad ct q.2) hf).symm) hQ dX7_fault_54
theorem kyX7_whyNoSail : kY yX7_whyNoSail cX7_whyNoSail 2 (some .int) wsX7_whyNoSail wsX7_whyNoSail.tail 1 := ⟨rfl, by decide, by decide, by decide +kernel⟩
set_option maxHeartbeats 4000000 in
set_option maxRecDepth 100000 in
theorem k_X7_whyNoSail (l : Launch) (D : va_G) (ct : ClassId × ClassId × ClassId) (z : Nat × Nat) (h : Nat) (ad : Nat → Nat) (x1 : Int32) (st : Nat → Nat → Int32)  : kC l D ct z yX7_whyNoSail wsX7_whyNoSail 3 70 [.ref h, .int x1] (mW h ad ct st) (some (.int (f_X7_whyNoSail x1 st))) (mW h ad ct st) := by
  refine kHead (cc := cX7_whyNoSail) (maxL := 2) (ret := (some .int)) [(0, .ref h), (1, .int x1)] (by decide) rfl (Nat.le_of_ble_eq_true rfl) rfl ?_
  intro p e s m args below meth c A ls R Q hRf hRl hQ hx hb hr hlk hml hown hts hA hS hK hP hD hl
  have inX7 : ∀ w ∈ wsX70, w ∈ wsX7_whyNoSail := fun w h => (List.mem_cons_of_mem _ (List.mem_append_right _ h))
  have hw1 := hts (Cond.fieldLink RX7 66 "MastPulpitsModel" "who" "I") (List.mem_of_getElem? (i := 1) (by decide +kernel))
  have hw2 := hts (Cond.fieldLink RX7 63 "MastPulpitsModel" "hull" "I") (List.mem_of_getElem? (i := 2) (by decide +kernel))
  have hw3 := hts (Cond.fieldLink RX7 59 "MastPulpitsModel" "place" "I") (List.mem_of_getElem? (i := 3) (by decide +kernel))
  have kc0 : (0 : Int32).toInt = 0 := by decide
  have kc2 : (2 : Int32).toInt = 2 := by decide
  have kc3 : (3 : Int32).toInt = 3 := by decide
  have kc4 : (4 : Int32).toInt = 4 := by decide
  have hf : f_X7_whyNoSail x1 st = f_X7_whyNoSail x1 st := rfl
  refine lv_aload_n hx hb dX7_whyNoSail_0 rfl (lv_at hl 0 rfl) ?_
  refine va_get (D := D) (cl := vwCl) (ci := 6) (v := .int (st 0 4)) (C := RX7) (T := TX7) (N := 34) hx hb hts inX7 hown hK.1 hP 0 (mO h ad ct st) rfl 4 (by decide) hw1 (fun _ h => h) (mF_4 ad st) dX7_whyNoSail_1 ?_
  refine lv_if_ge (tgt := 11) hx hb dX7_whyNoSail_4 (by decide) (fun c_1 => ?_) (fun c_1 => ?_)
  · have hf := kIt hf c_1
    have t_1 := ti_le c_1
    refine lv_aload_n hx hb dX7_whyNoSail_11 rfl (lv_at hl 0 rfl) ?_
    refine va_get (D := D) (cl := vwCl) (ci := 6) (v := .int (st 0 2)) (C := RX7) (T := TX7) (N := 34) hx hb hts inX7 hown hK.1 hP 0 (mO h ad ct st) rfl 2 (by decide) hw2 (fun _ h => h) (mF_2 ad st) dX7_whyNoSail_12 ?_
    refine lv_if_ne (tgt := 22) hx hb dX7_whyNoSail_15 (by decide) (fun c_2 => ?_) (fun c_2 => ?_)
    · have hf := kIf hf c_2
      have t_2 := ti_ne c_2
      refine lv_aload_n hx hb dX7_whyNoSail_22 rfl (lv_at hl 0 rfl) ?_
      refine va_get (D := D) (cl := vwCl) (ci := 6) (v := .int (st 0 1)) (C := RX7) (T := TX7) (N := 34) hx hb hts inX7 hown hK.1 hP 0 (mO h ad ct st) rfl 1 (by decide) hw3 (fun _ h => h) (mF_1 ad st) dX7_whyNoSail_23 ?_
      refine lv_iload_n hx hb dX7_whyNoSail_26 rfl (lv_at hl 1 rfl) ?_
      have hM : kC l D ct z yX7_ahead wsX7_ahead 2 49 [.int (st 0 1), .int x1] ([]) (some (.int (f_X7_ahead (st 0 1) x1))) ([]) := k_X7_ahead l D ct z (st 0 1) x1
      refine kS0 (As := [.int (st 0 1), .int x1]) (rest := []) ⟨hx, hb, hml, hown, hts⟩ hM gX7_whyNoSail_X7_ahead kyX7_ahead (by rw [hRf, hRl]; exact ⟨Nat.le_of_ble_eq_true rfl, Nat.le_of_ble_eq_true rfl⟩) hK hP hD hS hA rfl hl.1 rfl (st1 := [.int (f_X7_ahead (st 0 1) x1)]) rfl rfl ⟨Nat.zero_le _, Nat.zero_le _⟩ dX7_whyNoSail_27 (fun H locs hP hD hS => ?_)
      refine lv_if_ge (tgt := 37) hx hb dX7_whyNoSail_30 (by decide) (fun c_3 => ?_) (fun c_3 => ?_)
      · have hf := kIt hf c_3
        have t_3 := ti_le c_3
        refine lv_iconst (v := (0 : Int32)) hx hb dX7_whyNoSail_37 (by decide) ?_
        exact kRetI hx hb hr hlk hP hD hS hf.symm rfl hQ dX7_whyNoSail_38
      · have hf := kIf hf c_3
        have t_3 := ti_nle c_3
        refine lv_iconst (v := (4 : Int32)) hx hb dX7_whyNoSail_33 (by decide) ?_
        refine lv_goto (tgt := 38) hx hb dX7_whyNoSail_34 (by decide) ?_
        exact kRetI hx hb hr hlk hP hD hS hf.symm rfl hQ dX7_whyNoSail_38
    · have hf := kIt hf c_2
      have t_2 := ti_eq c_2
      refine lv_iconst (v := (3 : Int32)) hx hb dX7_whyNoSail_18 (by decide) ?_
      refine lv_goto (tgt := 38) hx hb dX7_whyNoSail_19 (by decide) ?_
      exact kRetI hx hb hr hlk hP hD hS hf.symm rfl hQ dX7_whyNoSail_38
  · have hf := kIf hf c_1
    have t_1 := ti_nle c_1
    refine lv_iconst (v := (2 : Int32)) hx hb dX7_whyNoSail_7 (by decide) ?_
    refine lv_goto (tgt := 38) hx hb dX7_whyNoSail_8 (by decide) ?_
    exact kRetI hx hb hr hlk hP hD hS hf.symm rfl hQ dX7_whyNoSail_38
theorem kyX7_whyNot : kY yX7_whyNot cX7_whyNot 3 (some .int) wsX7_whyNot wsX7_whyNot.tail 2 := ⟨rfl, by decide, by decide, by decide +kernel⟩
set_option maxHeartbeats 4000000 in
set_option maxRecDepth 100000 in
theorem k_X7_whyNot (l : Launch) (D : va_G) (ct : ClassId × ClassId × ClassId) (z : Nat × Nat) (h : Nat) (ad : Nat → Nat) (x1 : Int32) (x2 : Int32) (st : Nat → Nat → Int32)  : kC l D ct z yX7_whyNot wsX7_whyNot 4 91 [.ref h, .int x1, .int x2] (mW h ad ct st) (some (.int (f_X7_whyNot x1 x2 st))) (mW h ad ct st) := by
  refine kHead (cc := cX7_whyNot) (maxL := 3) (ret := (some .int)) [(0, .ref h), (1, .int x1), (2, .int x2)] (by decide) rfl (Nat.le_of_ble_eq_true rfl) rfl ?_
  intro p e s m args below meth c A ls R Q hRf hRl hQ hx hb hr hlk hml hown hts hA hS hK hP hD hl
  have inX7 : ∀ w ∈ wsX70, w ∈ wsX7_whyNot := fun w h => (List.mem_cons_of_mem _ (List.mem_append_right _ h))
  have hw1 := hts (Cond.fieldLink RX7 66 "MastPulpitsModel" "who" "I") (List.mem_of_getElem? (i := 1) (by decide +kernel))
  have hw2 := hts (Cond.fieldLink RX7 104 "MastPulpitsModel" "mist" "I") (List.mem_of_getElem? (i := 2) (by decide +kernel))
  have hw3 := hts (Cond.fieldLink RX7 143 "MastPulpitsModel" "hour" "I") (List.mem_of_getElem? (i := 3) (by decide +kernel))
  have kc0 : (0 : Int32).toInt = 0 := by decide
  have kc1 : (1 : Int32).toInt = 1 := by decide
  have kc2 : (2 : Int32).toInt = 2 := by decide
  have kc5 : (5 : Int32).toInt = 5 := by decide
  have kc6 : (6 : Int32).toInt = 6 := by decide
  have kc99 : (99 : Int32).toInt = 99 := by decide
  have hf : f_X7_whyNot x1 x2 st = f_X7_whyNot x1 x2 st := rfl
  refine lv_iload_n hx hb dX7_whyNot_0 rfl (lv_at hl 1 rfl) ?_
  have kv_1 : (0 : Int32).toInt = 0 := by decide
  refine (Classical.em (x1 = (0 : Int32))).elim (fun c_1 => ?_) (fun c_1 => ?_)
  · have hf := kIt hf c_1
    have t_1 := ti_eq c_1
    refine lv_tableIn (off := 35) (tgt := 36) hx hb dX7_whyNot_1 (by omega) (by omega) (by rw [c_1]; decide) (by decide) ?_
    refine lv_aload_n hx hb dX7_whyNot_36 rfl (lv_at hl 0 rfl) ?_
    refine va_get (D := D) (cl := vwCl) (ci := 6) (v := .int (st 0 4)) (C := RX7) (T := TX7) (N := 34) hx hb hts inX7 hown hK.1 hP 0 (mO h ad ct st) rfl 4 (by decide) hw1 (fun _ h => h) (mF_4 ad st) dX7_whyNot_37 ?_
    refine lv_iload_n hx hb dX7_whyNot_40 rfl (lv_at hl 2 rfl) ?_
    refine lv_icmp_ne (tgt := 48) hx hb dX7_whyNot_41 (by decide) (fun c_2 => ?_) (fun c_2 => ?_)
    · have hf := kIf hf c_2
      have t_2 := ti_ne c_2
      refine lv_iconst (v := (0 : Int32)) hx hb dX7_whyNot_48 (by decide) ?_
      exact kRetI hx hb hr hlk hP hD hS hf.symm rfl hQ dX7_whyNot_49
    · have hf := kIt hf c_2
      have t_2 := ti_eq c_2
      refine lv_iconst (v := (1 : Int32)) hx hb dX7_whyNot_44 (by decide) ?_
      refine lv_goto (tgt := 49) hx hb dX7_whyNot_45 (by decide) ?_
      exact kRetI hx hb hr hlk hP hD hS hf.symm rfl hQ dX7_whyNot_49
  · have hf := kIf hf c_1
    have t_1 := ti_ne c_1
    have kv_3 : (1 : Int32).toInt = 1 := by decide
    refine (Classical.em (x1 = (1 : Int32))).elim (fun c_3 => ?_) (fun c_3 => ?_)
    · have hf := kIt hf c_3
      have t_3 := ti_eq c_3
      refine lv_tableIn (off := 49) (tgt := 50) hx hb dX7_whyNot_1 (by omega) (by omega) (by rw [c_3]; decide) (by decide) ?_
      refine lv_aload_n hx hb dX7_whyNot_50 rfl (lv_at hl 0 rfl) ?_
      refine va_get (D := D) (cl := vwCl) (ci := 6) (v := .int (st 0 4)) (C := RX7) (T := TX7) (N := 34) hx hb hts inX7 hown hK.1 hP 0 (mO h ad ct st) rfl 4 (by decide) hw1 (fun _ h => h) (mF_4 ad st) dX7_whyNot_51 ?_
      refine lv_iload_n hx hb dX7_whyNot_54 rfl (lv_at hl 2 rfl) ?_
      refine lv_icmp_ne (tgt := 62) hx hb dX7_whyNot_55 (by decide) (fun c_4 => ?_) (fun c_4 => ?_)
      · have hf := kIf hf c_4
        have t_4 := ti_ne c_4
        refine lv_iconst (v := (1 : Int32)) hx hb dX7_whyNot_62 (by decide) ?_
        exact kRetI hx hb hr hlk hP hD hS hf.symm rfl hQ dX7_whyNot_63
      · have hf := kIt hf c_4
        have t_4 := ti_eq c_4
        refine lv_iconst (v := (0 : Int32)) hx hb dX7_whyNot_58 (by decide) ?_
        refine lv_goto (tgt := 63) hx hb dX7_whyNot_59 (by decide) ?_
        exact kRetI hx hb hr hlk hP hD hS hf.symm rfl hQ dX7_whyNot_63
    · have hf := kIf hf c_3
      have t_3 := ti_ne c_3
      have kv_5 : (2 : Int32).toInt = 2 := by decide
      refine (Classical.em (x1 = (2 : Int32))).elim (fun c_5 => ?_) (fun c_5 => ?_)
      · have hf := kIt hf c_5
        have t_5 := ti_eq c_5
        refine lv_tableIn (off := 63) (tgt := 64) hx hb dX7_whyNot_1 (by omega) (by omega) (by rw [c_5]; decide) (by decide) ?_
        refine lv_aload_n hx hb dX7_whyNot_64 rfl (lv_at hl 0 rfl) ?_
        refine lv_iload_n hx hb dX7_whyNot_65 rfl (lv_at hl 2 rfl) ?_
        have hM : kC l D ct z yX7_whyNoSail wsX7_whyNoSail 3 70 [.ref h, .int x2] (mW h ad ct st) (some (.int (f_X7_whyNoSail x2 st))) (mW h ad ct st) := k_X7_whyNoSail l D ct z h ad x2 st
        refine kV1 (As := [.int x2]) (rest := []) ⟨hx, hb, hml, hown, hts⟩ hM gX7_whyNot_X7_whyNoSail kyX7_whyNoSail (by rw [hRf, hRl]; exact ⟨Nat.le_of_ble_eq_true rfl, Nat.le_of_ble_eq_true rfl⟩) hK hP hD hS hA 0 (mO h ad ct st) rfl rfl rfl hl.1 rfl (st1 := [.int (f_X7_whyNoSail x2 st)]) rfl rfl ⟨Nat.zero_le _, Nat.zero_le _⟩ dX7_whyNot_66 (fun H locs hP hD hS => ?_)
        exact kRetI hx hb hr hlk hP hD hS hf.symm rfl hQ dX7_whyNot_69
      · have hf := kIf hf c_5
        have t_5 := ti_ne c_5
        have kv_6 : (3 : Int32).toInt = 3 := by decide
        refine (Classical.em (x1 = (3 : Int32))).elim (fun c_6 => ?_) (fun c_6 => ?_)
        · have hf := kIt hf c_6
          have t_6 := ti_eq c_6
          refine lv_tableIn (off := 69) (tgt := 70) hx hb dX7_whyNot_1 (by omega) (by omega) (by rw [c_6]; decide) (by decide) ?_
          refine lv_aload_n hx hb dX7_whyNot_70 rfl (lv_at hl 0 rfl) ?_
          refine va_get (D := D) (cl := vwCl) (ci := 6) (v := .int (st 0 6)) (C := RX7) (T := TX7) (N := 34) hx hb hts inX7 hown hK.1 hP 0 (mO h ad ct st) rfl 6 (by decide) hw2 (fun _ h => h) (mF_6 ad st) dX7_whyNot_71 ?_
          refine lv_iload_n hx hb dX7_whyNot_74 rfl (lv_at hl 2 rfl) ?_
          refine lv_icmp_ne (tgt := 82) hx hb dX7_whyNot_75 (by decide) (fun c_7 => ?_) (fun c_7 => ?_)
          · have hf := kIf hf c_7
            have t_7 := ti_ne c_7
            refine lv_iconst (v := (0 : Int32)) hx hb dX7_whyNot_82 (by decide) ?_
            exact kRetI hx hb hr hlk hP hD hS hf.symm rfl hQ dX7_whyNot_83
          · have hf := kIt hf c_7
            have t_7 := ti_eq c_7
            refine lv_iconst (v := (5 : Int32)) hx hb dX7_whyNot_78 (by decide) ?_
            refine lv_goto (tgt := 83) hx hb dX7_whyNot_79 (by decide) ?_
            exact kRetI hx hb hr hlk hP hD hS hf.symm rfl hQ dX7_whyNot_83
        · have hf := kIf hf c_6
          have t_6 := ti_ne c_6
          have kv_8 : (4 : Int32).toInt = 4 := by decide
          refine (Classical.em (x1 = (4 : Int32))).elim (fun c_8 => ?_) (fun c_8 => ?_)
          · have hf := kIt hf c_8
            have t_8 := ti_eq c_8
            refine lv_tableIn (off := 83) (tgt := 84) hx hb dX7_whyNot_1 (by omega) (by omega) (by rw [c_8]; decide) (by decide) ?_
            refine lv_aload_n hx hb dX7_whyNot_84 rfl (lv_at hl 0 rfl) ?_
            refine va_get (D := D) (cl := vwCl) (ci := 6) (v := .int (st 0 4)) (C := RX7) (T := TX7) (N := 34) hx hb hts inX7 hown hK.1 hP 0 (mO h ad ct st) rfl 4 (by decide) hw1 (fun _ h => h) (mF_4 ad st) dX7_whyNot_85 ?_
            refine lv_if_ge (tgt := 95) hx hb dX7_whyNot_88 (by decide) (fun c_9 => ?_) (fun c_9 => ?_)
            · have hf := kIt hf c_9
              have t_9 := ti_le c_9
              refine lv_iconst (v := (0 : Int32)) hx hb dX7_whyNot_95 (by decide) ?_
              exact kRetI hx hb hr hlk hP hD hS hf.symm rfl hQ dX7_whyNot_96
            · have hf := kIf hf c_9
              have t_9 := ti_nle c_9
              refine lv_iconst (v := (2 : Int32)) hx hb dX7_whyNot_91 (by decide) ?_
              refine lv_goto (tgt := 96) hx hb dX7_whyNot_92 (by decide) ?_
              exact kRetI hx hb hr hlk hP hD hS hf.symm rfl hQ dX7_whyNot_96
          · have hf := kIf hf c_8
            have t_8 := ti_ne c_8
            refine lv_tableOut (tgt := 97) hx hb dX7_whyNot_1 (by omega) (by decide) ?_
            refine lv_aload_n hx hb dX7_whyNot_97 rfl (lv_at hl 0 rfl) ?_
            refine va_get (D := D) (cl := vwCl) (ci := 6) (v := .int (st 0 7)) (C := RX7) (T := TX7) (N := 34) hx hb hts inX7 hown hK.1 hP 0 (mO h ad ct st) rfl 7 (by decide) hw3 (fun _ h => h) (mF_7 ad st) dX7_whyNot_98 ?_
            refine lv_bipush (v := (99 : Int32)) hx hb dX7_whyNot_101 (by decide) ?_
            refine lv_icmp_ne (tgt := 111) hx hb dX7_whyNot_103 (by decide) (fun c_10 => ?_) (fun c_10 => ?_)
            · have hf := kIf hf c_10
              have t_10 := ti_ne c_10
              refine lv_iconst (v := (0 : Int32)) hx hb dX7_whyNot_111 (by decide) ?_
              exact kRetI hx hb hr hlk hP hD hS hf.symm rfl hQ dX7_whyNot_112
            · have hf := kIt hf c_10
              have t_10 := ti_eq c_10
              refine lv_bipush (v := (6 : Int32)) hx hb dX7_whyNot_106 (by decide) ?_
              refine lv_goto (tgt := 112) hx hb dX7_whyNot_108 (by decide) ?_
              exact kRetI hx hb hr hlk hP hD hS hf.symm rfl hQ dX7_whyNot_112
theorem kyX7_glass : kY yX7_glass cX7_glass 2 (some .int) wsX7_glass wsX7_glass.tail 0 := ⟨rfl, by decide, by decide, by decide +kernel⟩
set_option maxHeartbeats 4000000 in
set_option maxRecDepth 100000 in
theorem k_X7_glass (l : Launch) (D : va_G) (ct : ClassId × ClassId × ClassId) (z : Nat × Nat) (h : Nat) (ad : Nat → Nat) (st : Nat → Nat → Int32) (hw6 : vp_in (st 0 4) 6) : kC l D ct z yX7_glass wsX7_glass 0 0 [.ref h] (mW h ad ct st) (some (.int (f_X7_glass st))) (mW h ad ct st) := by
  refine kHead (cc := cX7_glass) (maxL := 2) (ret := (some .int)) [(0, .ref h)] (by decide) rfl (Nat.le_of_ble_eq_true rfl) rfl ?_
  intro p e s m args below meth c A ls R Q hRf hRl hQ hx hb hr hlk hml hown hts hA hS hK hP hD hl
  have inX7 : ∀ w ∈ wsX70, w ∈ wsX7_glass := fun w h => (List.mem_cons_of_mem _ (List.mem_append_right _ h))
  have hw1 := hts (Cond.fieldLink RX7 13 "MastPulpitsModel" "eyes" "[I") (List.mem_of_getElem? (i := 1) (by decide +kernel))
  have hw2 := hts (Cond.fieldLink RX7 66 "MastPulpitsModel" "who" "I") (List.mem_of_getElem? (i := 2) (by decide +kernel))
  have hw3 := hts (Cond.fieldLink RX7 104 "MastPulpitsModel" "mist" "I") (List.mem_of_getElem? (i := 3) (by decide +kernel))
  have hw4 := hts (Cond.fieldLink RX7 146 "MastPulpitsModel" "hours" "I") (List.mem_of_getElem? (i := 4) (by decide +kernel))
  have kc0 : (0 : Int32).toInt = 0 := by decide
  have kc2 : (2 : Int32).toInt = 2 := by decide
  have hf : f_X7_glass st = f_X7_glass st := rfl
  refine lv_aload_n hx hb dX7_glass_0 rfl (lv_at hl 0 rfl) ?_
  refine va_get (D := D) (cl := vwCl) (ci := 6) (v := .ref (ad 3)) (C := RX7) (T := TX7) (N := 34) hx hb hts inX7 hown hK.1 hP 0 (mO h ad ct st) rfl 3 (by decide) hw1 (fun _ h => h) (mF_3 ad st) dX7_glass_1 ?_
  refine lv_aload_n hx hb dX7_glass_4 rfl (lv_at hl 0 rfl) ?_
  refine va_get (D := D) (cl := vwCl) (ci := 6) (v := .int (st 0 4)) (C := RX7) (T := TX7) (N := 34) hx hb hts inX7 hown hK.1 hP 0 (mO h ad ct st) rfl 4 (by decide) hw2 (fun _ h => h) (mF_4 ad st) dX7_glass_5 ?_
  refine va_iald hx hb hK.1 hP 2 0 (mA_3 h ad ct st) rfl (by first | assumption | exact vin (by omega) (by omega) | omega) dX7_glass_8 ?_
  refine lv_aload_n hx hb dX7_glass_9 rfl (lv_at hl 0 rfl) ?_
  refine va_get (D := D) (cl := vwCl) (ci := 6) (v := .int (st 0 6)) (C := RX7) (T := TX7) (N := 34) hx hb hts inX7 hown hK.1 hP 0 (mO h ad ct st) rfl 6 (by decide) hw3 (fun _ h => h) (mF_6 ad st) dX7_glass_10 ?_
  refine kJn hf (fun j0 => ∀ (z34_s0 : Int32), f_X7_glass st = j0 z34_s0 → ∀ (H : Heap) (locs : List Loc) (ls : Array Slot), va_P D vwCl (mW h ad ct st) H → va_D A (mW h ad ct st) → va_S A s.heap H locs → lv_has ls 2 [(0, .ref h)] → W p l e R s m args below meth c H locs 0 0 Q (F0 m 34 ls [.int z34_s0])) ?_ ?_
  · intro j0 hj0 z34_s0  hf H locs ls hP hD hS hl
    subst hj0
    refine lv_istore_n (lv' := [(1, .int z34_s0), (0, .ref h)]) hx hb dX7_glass_34 rfl hl (by decide) rfl (fun ls hl => ?_)
    refine lv_aload_n hx hb dX7_glass_35 rfl (lv_at hl 1 rfl) ?_
    refine va_get (D := D) (cl := vwCl) (ci := 6) (v := .int (st 0 5)) (C := RX7) (T := TX7) (N := 34) hx hb hts inX7 hown hK.1 hP 0 (mO h ad ct st) rfl 5 (by decide) hw4 (fun _ h => h) (mF_5 ad st) dX7_glass_36 ?_
    refine lv_iconst (v := (2 : Int32)) hx hb dX7_glass_39 (by decide) ?_
    refine lv_icmp_le (tgt := 49) hx hb dX7_glass_40 (by decide) (fun c_2 => ?_) (fun c_2 => ?_)
    · have hf := kIt hf c_2
      have t_2 := ti_le c_2
      refine lv_iload_n hx hb dX7_glass_49 rfl (lv_at hl 0 rfl) ?_
      exact kRetI hx hb hr hlk hP hD hS hf.symm rfl hQ dX7_glass_50
    · have hf := kIf hf c_2
      have t_2 := ti_nle c_2
      refine lv_iload_n hx hb dX7_glass_43 rfl (lv_at hl 0 rfl) ?_
      refine lv_iconst (v := (2 : Int32)) hx hb dX7_glass_44 (by decide) ?_
      refine lv_idiv hx hb dX7_glass_45 (by decide) ?_
      refine lv_goto (tgt := 50) hx hb dX7_glass_46 (by decide) ?_
      exact kRetI hx hb hr hlk hP hD hS hf.symm rfl hQ dX7_glass_50
  · intro j34 hJ34 hf
    refine lv_icmp_ge (tgt := 20) hx hb dX7_glass_13 (by decide) (fun c_1 => ?_) (fun c_1 => ?_)
    · have hf := kIt hf c_1
      have t_1 := ti_le c_1
      refine lv_aload_n hx hb dX7_glass_20 rfl (lv_at hl 0 rfl) ?_
      refine va_get (D := D) (cl := vwCl) (ci := 6) (v := .ref (ad 3)) (C := RX7) (T := TX7) (N := 34) hx hb hts inX7 hown hK.1 hP 0 (mO h ad ct st) rfl 3 (by decide) hw1 (fun _ h => h) (mF_3 ad st) dX7_glass_21 ?_
      refine lv_aload_n hx hb dX7_glass_24 rfl (lv_at hl 0 rfl) ?_
      refine va_get (D := D) (cl := vwCl) (ci := 6) (v := .int (st 0 4)) (C := RX7) (T := TX7) (N := 34) hx hb hts inX7 hown hK.1 hP 0 (mO h ad ct st) rfl 4 (by decide) hw2 (fun _ h => h) (mF_4 ad st) dX7_glass_25 ?_
      refine va_iald hx hb hK.1 hP 2 0 (mA_3 h ad ct st) rfl (by first | assumption | exact vin (by omega) (by omega) | omega) dX7_glass_28 ?_
      refine lv_aload_n hx hb dX7_glass_29 rfl (lv_at hl 0 rfl) ?_
      refine va_get (D := D) (cl := vwCl) (ci := 6) (v := .int (st 0 6)) (C := RX7) (T := TX7) (N := 34) hx hb hts inX7 hown hK.1 hP 0 (mO h ad ct st) rfl 6 (by decide) hw3 (fun _ h => h) (mF_6 ad st) dX7_glass_30 ?_
      refine lv_isub hx hb dX7_glass_33 ?_
      exact hJ34 _  hf _ _ _ hP hD hS (lv_sub hl [0] rfl)
    · have hf := kIf hf c_1
      have t_1 := ti_nle c_1
      refine lv_iconst (v := (0 : Int32)) hx hb dX7_glass_16 (by decide) ?_
      refine lv_goto (tgt := 34) hx hb dX7_glass_17 (by decide) ?_
      exact hJ34 _  hf _ _ _ hP hD hS (lv_sub hl [0] rfl)
theorem kyX7_isSeen : kY yX7_isSeen cX7_isSeen 2 (some .boolean) wsX7_isSeen wsX7_isSeen.tail 1 := ⟨rfl, by decide, by decide, by decide +kernel⟩
set_option maxHeartbeats 4000000 in
set_option maxRecDepth 100000 in
theorem k_X7_isSeen (l : Launch) (D : va_G) (ct : ClassId × ClassId × ClassId) (z : Nat × Nat) (h : Nat) (ad : Nat → Nat) (x1 : Int32) (st : Nat → Nat → Int32) (hc : vp_in x1 64) (hw6 : vp_in (st 0 4) 6) : kC l D ct z yX7_isSeen wsX7_isSeen 2 44 [.ref h, .int x1] (mW h ad ct st) (some (.int (f_X7_isSeen x1 st))) (mW h ad ct st) := by
  refine kHead (cc := cX7_isSeen) (maxL := 2) (ret := (some .boolean)) [(0, .ref h), (1, .int x1)] (by decide) rfl (Nat.le_of_ble_eq_true rfl) rfl ?_
  intro p e s m args below meth c A ls R Q hRf hRl hQ hx hb hr hlk hml hown hts hA hS hK hP hD hl
  have inX7 : ∀ w ∈ wsX70, w ∈ wsX7_isSeen := fun w h => (List.mem_cons_of_mem _ (List.mem_append_right _ h))
  have hw1 := hts (Cond.fieldLink RX7 7 "MastPulpitsModel" "ground" "[I") (List.mem_of_getElem? (i := 1) (by decide +kernel))
  have hw2 := hts (Cond.fieldLink RX7 59 "MastPulpitsModel" "place" "I") (List.mem_of_getElem? (i := 2) (by decide +kernel))
  have kc0 : (0 : Int32).toInt = 0 := by decide
  have kc1 : (1 : Int32).toInt = 1 := by decide
  have hf : f_X7_isSeen x1 st = f_X7_isSeen x1 st := rfl
  refine lv_aload_n hx hb dX7_isSeen_0 rfl (lv_at hl 0 rfl) ?_
  refine va_get (D := D) (cl := vwCl) (ci := 6) (v := .ref (ad 0)) (C := RX7) (T := TX7) (N := 34) hx hb hts inX7 hown hK.1 hP 0 (mO h ad ct st) rfl 0 (by decide) hw1 (fun _ h => h) (mF_0 ad st) dX7_isSeen_1 ?_
  refine lv_iload_n hx hb dX7_isSeen_4 rfl (lv_at hl 1 rfl) ?_
  refine va_iald hx hb hK.1 hP 1 0 (mA_0 h ad ct st) rfl (by first | assumption | exact vin (by omega) (by omega) | omega) dX7_isSeen_5 ?_
  refine lv_iconst (v := (1 : Int32)) hx hb dX7_isSeen_6 (by decide) ?_
  refine lv_icmp_ne (tgt := 29) hx hb dX7_isSeen_7 (by decide) (fun c_1 => ?_) (fun c_1 => ?_)
  · have hf := kIf hf c_1
    have t_1 := ti_ne c_1
    refine lv_iconst (v := (0 : Int32)) hx hb dX7_isSeen_29 (by decide) ?_
    exact kRetZ hx hb hr hlk hP hD hS (Or.inl rfl) hf.symm rfl hQ dX7_isSeen_30
  · have hf := kIt hf c_1
    have t_1 := ti_eq c_1
    refine lv_iload_n hx hb dX7_isSeen_10 rfl (lv_at hl 1 rfl) ?_
    refine lv_aload_n hx hb dX7_isSeen_11 rfl (lv_at hl 0 rfl) ?_
    refine va_get (D := D) (cl := vwCl) (ci := 6) (v := .int (st 0 1)) (C := RX7) (T := TX7) (N := 34) hx hb hts inX7 hown hK.1 hP 0 (mO h ad ct st) rfl 1 (by decide) hw2 (fun _ h => h) (mF_1 ad st) dX7_isSeen_12 ?_
    have hM : kC l D ct z yX7_far wsX7_far 1 21 [.int x1, .int (st 0 1)] ([]) (some (.int (f_X7_far x1 (st 0 1)))) ([]) := k_X7_far l D ct z x1 (st 0 1)
    refine kS0 (As := [.int x1, .int (st 0 1)]) (rest := []) ⟨hx, hb, hml, hown, hts⟩ hM gX7_isSeen_X7_far kyX7_far (by rw [hRf, hRl]; exact ⟨Nat.le_of_ble_eq_true rfl, Nat.le_of_ble_eq_true rfl⟩) hK hP hD hS hA rfl hl.1 rfl (st1 := [.int (f_X7_far x1 (st 0 1))]) rfl rfl ⟨Nat.zero_le _, Nat.zero_le _⟩ dX7_isSeen_15 (fun H locs hP hD hS => ?_)
    refine lv_aload_n hx hb dX7_isSeen_18 rfl (lv_at hl 0 rfl) ?_
    have hM : kC l D ct z yX7_glass wsX7_glass 0 0 [.ref h] (mW h ad ct st) (some (.int (f_X7_glass st))) (mW h ad ct st) := k_X7_glass l D ct z h ad st (by first | assumption | exact vin (by omega) (by omega) | omega)
    refine kV1 (As := []) (rest := [.int (f_X7_far x1 (st 0 1))]) ⟨hx, hb, hml, hown, hts⟩ hM gX7_isSeen_X7_glass kyX7_glass (by rw [hRf, hRl]; exact ⟨Nat.le_of_ble_eq_true rfl, Nat.le_of_ble_eq_true rfl⟩) hK hP hD hS hA 0 (mO h ad ct st) rfl rfl rfl hl.1 rfl (st1 := [.int (f_X7_glass st), .int (f_X7_far x1 (st 0 1))]) rfl rfl ⟨Nat.zero_le _, Nat.zero_le _⟩ dX7_isSeen_19 (fun H locs hP hD hS => ?_)
    refine lv_icmp_gt (tgt := 29) hx hb dX7_isSeen_22 (by decide) (fun c_2 => ?_) (fun c_2 => ?_)
    · have hf := kIt hf c_2
      have t_2 := ti_lt c_2
      refine lv_iconst (v := (0 : Int32)) hx hb dX7_isSeen_29 (by decide) ?_
      exact kRetZ hx hb hr hlk hP hD hS (Or.inl rfl) hf.symm rfl hQ dX7_isSeen_30
    · have hf := kIf hf c_2
      have t_2 := ti_nlt c_2
      refine lv_iconst (v := (1 : Int32)) hx hb dX7_isSeen_25 (by decide) ?_
      refine lv_goto (tgt := 30) hx hb dX7_isSeen_26 (by decide) ?_
      exact kRetZ hx hb hr hlk hP hD hS (Or.inr rfl) hf.symm rfl hQ dX7_isSeen_30
theorem kyX7_seenMany : kY yX7_seenMany cX7_seenMany 3 (some .int) wsX7_seenMany wsX7_seenMany.tail 0 := ⟨rfl, by decide, by decide, by decide +kernel⟩
set_option maxHeartbeats 4000000 in
set_option maxRecDepth 100000 in
theorem k_X7_seenMany (l : Launch) (D : va_G) (ct : ClassId × ClassId × ClassId) (z : Nat × Nat) (h : Nat) (ad : Nat → Nat) (st : Nat → Nat → Int32) (hw6 : vp_in (st 0 4) 6) : kC l D ct z yX7_seenMany wsX7_seenMany 3 65 [.ref h] (mW h ad ct st) (some (.int (f_X7_seenMany st))) (mW h ad ct st) := by
  refine kHead (cc := cX7_seenMany) (maxL := 3) (ret := (some .int)) [(0, .ref h)] (by decide) rfl (Nat.le_of_ble_eq_true rfl) rfl ?_
  intro p e s m args below meth c A ls R Q hRf hRl hQ hx hb hr hlk hml hown hts hA hS hK hP hD hl
  have kc0 : (0 : Int32).toInt = 0 := by decide
  have kc1 : (1 : Int32).toInt = 1 := by decide
  have kc64 : (64 : Int32).toInt = 64 := by decide
  have hf : f_X7_seenMany st = f_X7_seenMany st := rfl
  refine lv_iconst (v := (0 : Int32)) hx hb dX7_seenMany_0 (by decide) ?_
  refine lv_istore_n (lv' := [(1, .int (0 : Int32)), (0, .ref h)]) hx hb dX7_seenMany_1 rfl hl (by decide) rfl (fun ls hl => ?_)
  refine lv_iconst (v := (0 : Int32)) hx hb dX7_seenMany_2 (by decide) ?_
  refine lv_istore_n (lv' := [(2, .int (0 : Int32)), (1, .int (0 : Int32)), (0, .ref h)]) hx hb dX7_seenMany_3 rfl hl (by decide) rfl (fun ls hl => ?_)
  have lp4 : ∀ (K : Int32 → Int32), (∀ (z4_1 : Int32), ∀ (H : Heap) (locs : List Loc) (ls : Array Slot), va_P D vwCl (mW h ad ct st) H → va_D A (mW h ad ct st) → va_S A s.heap H locs → lv_has ls 3 [(1, .int z4_1)] → f_X7_seenMany st = K z4_1 → W p l e R s m args below meth c H locs 0 0 Q (F0 m 32 ls [])) → ∀ (n : Nat) (z4_2 : Int32) (z4_1 : Int32), ∀ (H : Heap) (locs : List Loc) (ls : Array Slot), (64 ≤ Int32.toInt z4_2 + (n : Int)) → (0 ≤ Int32.toInt z4_2) → va_P D vwCl (mW h ad ct st) H → va_D A (mW h ad ct st) → va_S A s.heap H locs → lv_has ls 3 [(2, .int z4_2), (1, .int z4_1), (0, .ref h)] → f_X7_seenMany st = f_X7_seenMany_L4 st K n z4_2 z4_1 → W p l e R s m args below meth c H locs 0 0 Q (F0 m 4 ls []) := by
    intro K hk n
    induction n with
    | zero =>
      intro z4_2 z4_1  H locs ls hn4 hz4 hP hD hS hl hf
      refine lv_iload_n hx hb dX7_seenMany_4 rfl (lv_at hl 0 rfl) ?_
      refine lv_bipush (v := (64 : Int32)) hx hb dX7_seenMany_5 (by decide) ?_
      refine lv_icmp_ge (tgt := 32) hx hb dX7_seenMany_7 (by decide) (fun c_3 => ?_) (fun c_3 => ?_)
      · have t_3 := ti_le c_3
        exact hk _ _ _ _  hP hD hS (lv_sub hl [1] rfl) hf
      · have t_3 := ti_nle c_3
        exfalso
        omega
    | succ n ih =>
      intro z4_2 z4_1  H locs ls hn4 hz4 hP hD hS hl hf
      refine lv_iload_n hx hb dX7_seenMany_4 rfl (lv_at hl 0 rfl) ?_
      refine lv_bipush (v := (64 : Int32)) hx hb dX7_seenMany_5 (by decide) ?_
      refine lv_icmp_ge (tgt := 32) hx hb dX7_seenMany_7 (by decide) (fun c_1 => ?_) (fun c_1 => ?_)
      · have hf := kIt hf c_1
        have t_1 := ti_le c_1
        exact hk _ _ _ _  hP hD hS (lv_sub hl [1] rfl) hf
      · have hf := kIf hf c_1
        have t_1 := ti_nle c_1
        refine lv_iload_n hx hb dX7_seenMany_10 rfl (lv_at hl 1 rfl) ?_
        refine lv_aload_n hx hb dX7_seenMany_11 rfl (lv_at hl 2 rfl) ?_
        refine lv_iload_n hx hb dX7_seenMany_12 rfl (lv_at hl 0 rfl) ?_
        have hM : kC l D ct z yX7_isSeen wsX7_isSeen 2 44 [.ref h, .int z4_2] (mW h ad ct st) (some (.int (f_X7_isSeen z4_2 st))) (mW h ad ct st) := k_X7_isSeen l D ct z h ad z4_2 st (by first | assumption | exact vin (by omega) (by omega) | omega) (by first | assumption | exact vin (by omega) (by omega) | omega)
        refine kV1 (As := [.int z4_2]) (rest := [.int z4_1]) ⟨hx, hb, hml, hown, hts⟩ hM gX7_seenMany_X7_isSeen kyX7_isSeen (by rw [hRf, hRl]; exact ⟨Nat.le_of_ble_eq_true rfl, Nat.le_of_ble_eq_true rfl⟩) hK hP hD hS hA 0 (mO h ad ct st) rfl rfl rfl hl.1 rfl (st1 := [.int (f_X7_isSeen z4_2 st), .int z4_1]) rfl rfl ⟨Nat.zero_le _, Nat.zero_le _⟩ dX7_seenMany_13 (fun H locs hP hD hS => ?_)
        refine kJn hf (fun j0 => ∀ (z24_s0 : Int32), (z24_s0 = 0 ∨ z24_s0 = 1) → f_X7_seenMany st = j0 z24_s0 → ∀ (H : Heap) (locs : List Loc) (ls : Array Slot), va_P D vwCl (mW h ad ct st) H → va_D A (mW h ad ct st) → va_S A s.heap H locs → lv_has ls 3 [(2, .int z4_2), (0, .ref h)] → W p l e R s m args below meth c H locs 0 0 Q (F0 m 24 ls [.int z24_s0, .int z4_1])) ?_ ?_
        · intro j0 hj0 z24_s0 b01_z24_s0 hf H locs ls hP hD hS hl
          subst hj0
          refine lv_iadd hx hb dX7_seenMany_24 ?_
          refine lv_topi (fun y25 ey25 => ?_)
          have hf := kLt hf ey25
          refine lv_istore_n (lv' := [(1, .int y25), (2, .int z4_2), (0, .ref h)]) hx hb dX7_seenMany_25 rfl hl (by decide) rfl (fun ls hl => ?_)
          obtain ⟨y26, ey26⟩ : ∃ y : Int32, y = z4_2 + (1 : Int32) := ⟨_, rfl⟩
          have hf := kLt hf ey26
          have a26 : Int32.toInt y26 = Int32.toInt z4_2 + 1 := by have := ti_rng z4_2; rw [ey26]; exact ti_add (by rw [kc1]) (by omega) (by omega)
          refine lv_iinc (v := y26) (lv' := [(2, .int y26), (1, .int y25), (0, .ref h)]) hx hb dX7_seenMany_26 hl (k := 1) rfl (by rw [ey26]; rfl) (by decide) rfl (fun ls hl => ?_)
          refine lv_goto (tgt := 4) hx hb dX7_seenMany_29 (by decide) ?_
          exact ih y26 y25 _ _ _ (by first | assumption | exact vin (by omega) (by omega) | omega) (by first | assumption | exact vin (by omega) (by omega) | omega) hP hD hS (lv_sub hl [0, 1, 2] rfl) hf
        · intro j24 hJ24 hf
          refine lv_if_eq (tgt := 23) hx hb dX7_seenMany_16 (by decide) (fun c_2 => ?_) (fun c_2 => ?_)
          · have hf := kIt hf c_2
            have t_2 := ti_eq c_2
            refine lv_iconst (v := (0 : Int32)) hx hb dX7_seenMany_23 (by decide) ?_
            exact hJ24 _ (Or.inl rfl)  hf _ _ _ hP hD hS (lv_sub hl [0, 2] rfl)
          · have hf := kIf hf c_2
            have t_2 := ti_ne c_2
            refine lv_iconst (v := (1 : Int32)) hx hb dX7_seenMany_19 (by decide) ?_
            refine lv_goto (tgt := 24) hx hb dX7_seenMany_20 (by decide) ?_
            exact hJ24 _ (Or.inr rfl)  hf _ _ _ hP hD hS (lv_sub hl [0, 2] rfl)
  refine lp4 _ (fun w4_1  H locs ls  hP hD hS hl hf => ?_) (64) (0 : Int32) (0 : Int32)  _ _ _ (by first | assumption | exact vin (by omega) (by omega) | omega) (by first | assumption | exact vin (by omega) (by omega) | omega) hP hD hS (lv_sub hl [0, 1, 2] rfl) hf
  refine lv_iload_n hx hb dX7_seenMany_32 rfl (lv_at hl 0 rfl) ?_
  exact kRetI hx hb hr hlk hP hD hS hf.symm rfl hQ dX7_seenMany_33
theorem kyX7_nearest : kY yX7_nearest cX7_nearest 3 (some .int) wsX7_nearest wsX7_nearest.tail 0 := ⟨rfl, by decide, by decide, by decide +kernel⟩
set_option maxHeartbeats 4000000 in
set_option maxRecDepth 100000 in
theorem k_X7_nearest (l : Launch) (D : va_G) (ct : ClassId × ClassId × ClassId) (z : Nat × Nat) (h : Nat) (ad : Nat → Nat) (st : Nat → Nat → Int32) (hw6 : vp_in (st 0 4) 6) : kC l D ct z yX7_nearest wsX7_nearest 3 65 [.ref h] (mW h ad ct st) (some (.int (f_X7_nearest st))) (mW h ad ct st) := by
  refine kHead (cc := cX7_nearest) (maxL := 3) (ret := (some .int)) [(0, .ref h)] (by decide) rfl (Nat.le_of_ble_eq_true rfl) rfl ?_
  intro p e s m args below meth c A ls R Q hRf hRl hQ hx hb hr hlk hml hown hts hA hS hK hP hD hl
  have inX7 : ∀ w ∈ wsX70, w ∈ wsX7_nearest := fun w h => (List.mem_cons_of_mem _ (List.mem_append_right _ h))
  have hw1 := hts (Cond.fieldLink RX7 59 "MastPulpitsModel" "place" "I") (List.mem_of_getElem? (i := 1) (by decide +kernel))
  have kcm6 : (-6 : Int32).toInt = -6 := by decide
  have kcm1 : (-1 : Int32).toInt = -1 := by decide
  have kc0 : (0 : Int32).toInt = 0 := by decide
  have kc63 : (63 : Int32).toInt = 63 := by decide
  have hf : f_X7_nearest st = f_X7_nearest st := rfl
  refine lv_bipush (v := (-6 : Int32)) hx hb dX7_nearest_0 (by decide) ?_
  refine lv_istore_n (lv' := [(1, .int (-6 : Int32)), (0, .ref h)]) hx hb dX7_nearest_2 rfl hl (by decide) rfl (fun ls hl => ?_)
  refine lv_bipush (v := (63 : Int32)) hx hb dX7_nearest_3 (by decide) ?_
  refine lv_istore_n (lv' := [(2, .int (63 : Int32)), (1, .int (-6 : Int32)), (0, .ref h)]) hx hb dX7_nearest_5 rfl hl (by decide) rfl (fun ls hl => ?_)
  have lp6 : ∀ (K : Int32 → Int32), (∀ (z6_1 : Int32), ∀ (H : Heap) (locs : List Loc) (ls : Array Slot), va_P D vwCl (mW h ad ct st) H → va_D A (mW h ad ct st) → va_S A s.heap H locs → lv_has ls 3 [(1, .int z6_1)] → f_X7_nearest st = K z6_1 → W p l e R s m args below meth c H locs 0 0 Q (F0 m 53 ls [])) → ∀ (n : Nat) (z6_2 : Int32) (z6_1 : Int32), ∀ (H : Heap) (locs : List Loc) (ls : Array Slot), (Int32.toInt z6_2 < (n : Int)) → (Int32.toInt z6_2 < 64) → va_P D vwCl (mW h ad ct st) H → va_D A (mW h ad ct st) → va_S A s.heap H locs → lv_has ls 3 [(2, .int z6_2), (1, .int z6_1), (0, .ref h)] → f_X7_nearest st = f_X7_nearest_L6 st K n z6_2 z6_1 → W p l e R s m args below meth c H locs 0 0 Q (F0 m 6 ls []) := by
    intro K hk n
    induction n with
    | zero =>
      intro z6_2 z6_1  H locs ls hn6 hu6 hP hD hS hl hf
      refine lv_iload_n hx hb dX7_nearest_6 rfl (lv_at hl 0 rfl) ?_
      refine lv_if_lt (tgt := 53) hx hb dX7_nearest_7 (by decide) (fun c_5 => ?_) (fun c_5 => ?_)
      · have t_5 := ti_lt c_5
        exact hk _ _ _ _  hP hD hS (lv_sub hl [1] rfl) hf
      · have t_5 := ti_nlt c_5
        exfalso
        omega
    | succ n ih =>
      intro z6_2 z6_1  H locs ls hn6 hu6 hP hD hS hl hf
      refine lv_iload_n hx hb dX7_nearest_6 rfl (lv_at hl 0 rfl) ?_
      refine lv_if_lt (tgt := 53) hx hb dX7_nearest_7 (by decide) (fun c_1 => ?_) (fun c_1 => ?_)
      · have hf := kIt hf c_1
        have t_1 := ti_lt c_1
        exact hk _ _ _ _  hP hD hS (lv_sub hl [1] rfl) hf
      · have hf := kIf hf c_1
        have t_1 := ti_nlt c_1
        refine lv_aload_n hx hb dX7_nearest_10 rfl (lv_at hl 2 rfl) ?_
        refine lv_iload_n hx hb dX7_nearest_11 rfl (lv_at hl 0 rfl) ?_
        have hM : kC l D ct z yX7_isSeen wsX7_isSeen 2 44 [.ref h, .int z6_2] (mW h ad ct st) (some (.int (f_X7_isSeen z6_2 st))) (mW h ad ct st) := k_X7_isSeen l D ct z h ad z6_2 st (by first | assumption | exact vin (by omega) (by omega) | omega) (by first | assumption | exact vin (by omega) (by omega) | omega)
        refine kV1 (As := [.int z6_2]) (rest := []) ⟨hx, hb, hml, hown, hts⟩ hM gX7_nearest_X7_isSeen kyX7_isSeen (by rw [hRf, hRl]; exact ⟨Nat.le_of_ble_eq_true rfl, Nat.le_of_ble_eq_true rfl⟩) hK hP hD hS hA 0 (mO h ad ct st) rfl rfl rfl hl.1 rfl (st1 := [.int (f_X7_isSeen z6_2 st)]) rfl rfl ⟨Nat.zero_le _, Nat.zero_le _⟩ dX7_nearest_12 (fun H locs hP hD hS => ?_)
        refine kJn hf (fun j0 => ∀ (z46_s0 : Int32), f_X7_nearest st = j0 z46_s0 → ∀ (H : Heap) (locs : List Loc) (ls : Array Slot), va_P D vwCl (mW h ad ct st) H → va_D A (mW h ad ct st) → va_S A s.heap H locs → lv_has ls 3 [(2, .int z6_2), (0, .ref h)] → W p l e R s m args below meth c H locs 0 0 Q (F0 m 46 ls [.int z46_s0])) ?_ ?_
        · intro j0 hj0 z46_s0  hf H locs ls hP hD hS hl
          subst hj0
          refine lv_istore_n (lv' := [(1, .int z46_s0), (2, .int z6_2), (0, .ref h)]) hx hb dX7_nearest_46 rfl hl (by decide) rfl (fun ls hl => ?_)
          obtain ⟨y47, ey47⟩ : ∃ y : Int32, y = z6_2 + (-1 : Int32) := ⟨_, rfl⟩
          have hf := kLt hf ey47
          have a47 : Int32.toInt y47 = Int32.toInt z6_2 - 1 := by have := ti_rng z6_2; rw [ey47]; exact ti_add (by rw [kcm1]; rfl) (by omega) (by omega)
          refine lv_iinc (v := y47) (lv' := [(2, .int y47), (1, .int z46_s0), (0, .ref h)]) hx hb dX7_nearest_47 hl (k := 1) rfl (by rw [ey47]; rfl) (by decide) rfl (fun ls hl => ?_)
          refine lv_goto (tgt := 6) hx hb dX7_nearest_50 (by decide) ?_
          exact ih y47 z46_s0 _ _ _ (by first | assumption | exact vin (by omega) (by omega) | omega) (by first | assumption | exact vin (by omega) (by omega) | omega) hP hD hS (lv_sub hl [0, 1, 2] rfl) hf
        · intro j46 hJ46 hf
          refine kJn hf (fun j0 => ∀ (u0 : Unit), f_X7_nearest st = j0 () → ∀ (H : Heap) (locs : List Loc) (ls : Array Slot), va_P D vwCl (mW h ad ct st) H → va_D A (mW h ad ct st) → va_S A s.heap H locs → lv_has ls 3 [(2, .int z6_2), (1, .int z6_1), (0, .ref h)] → W p l e R s m args below meth c H locs 0 0 Q (F0 m 45 ls [])) ?_ ?_
          · intro j0 hj0 u0  hf H locs ls hP hD hS hl
            subst hj0
            refine lv_iload_n hx hb dX7_nearest_45 rfl (lv_at hl 1 rfl) ?_
            exact hJ46 _  hf _ _ _ hP hD hS (lv_sub hl [0, 2] rfl)
          · intro j45 hJ45 hf
            refine lv_if_eq (tgt := 45) hx hb dX7_nearest_15 (by decide) (fun c_2 => ?_) (fun c_2 => ?_)
            · have hf := kIt hf c_2
              have t_2 := ti_eq c_2
              exact hJ45 ()  hf _ _ _ hP hD hS (lv_sub hl [0, 1, 2] rfl)
            · have hf := kIf hf c_2
              have t_2 := ti_ne c_2
              refine lv_iload_n hx hb dX7_nearest_18 rfl (lv_at hl 1 rfl) ?_
              refine kJn hf (fun j0 => ∀ (u0 : Unit), f_X7_nearest st = j0 () → ∀ (H : Heap) (locs : List Loc) (ls : Array Slot), va_P D vwCl (mW h ad ct st) H → va_D A (mW h ad ct st) → va_S A s.heap H locs → lv_has ls 3 [(2, .int z6_2), (0, .ref h)] → W p l e R s m args below meth c H locs 0 0 Q (F0 m 41 ls [])) ?_ ?_
              · intro j0 hj0 u0  hf H locs ls hP hD hS hl
                subst hj0
                refine lv_iload_n hx hb dX7_nearest_41 rfl (lv_at hl 0 rfl) ?_
                refine lv_goto (tgt := 46) hx hb dX7_nearest_42 (by decide) ?_
                exact hJ46 _  hf _ _ _ hP hD hS (lv_sub hl [0, 1] rfl)
              · intro j41 hJ41 hf
                refine lv_if_lt (tgt := 41) hx hb dX7_nearest_19 (by decide) (fun c_3 => ?_) (fun c_3 => ?_)
                · have hf := kIt hf c_3
                  have t_3 := ti_lt c_3
                  exact hJ41 ()  hf _ _ _ hP hD hS (lv_sub hl [0, 2] rfl)
                · have hf := kIf hf c_3
                  have t_3 := ti_nlt c_3
                  refine lv_iload_n hx hb dX7_nearest_22 rfl (lv_at hl 0 rfl) ?_
                  refine lv_aload_n hx hb dX7_nearest_23 rfl (lv_at hl 2 rfl) ?_
                  refine va_get (D := D) (cl := vwCl) (ci := 6) (v := .int (st 0 1)) (C := RX7) (T := TX7) (N := 34) hx hb hts inX7 hown hK.1 hP 0 (mO h ad ct st) rfl 1 (by decide) hw1 (fun _ h => h) (mF_1 ad st) dX7_nearest_24 ?_
                  have hM : kC l D ct z yX7_far wsX7_far 1 21 [.int z6_2, .int (st 0 1)] ([]) (some (.int (f_X7_far z6_2 (st 0 1)))) ([]) := k_X7_far l D ct z z6_2 (st 0 1)
                  refine kS0 (As := [.int z6_2, .int (st 0 1)]) (rest := []) ⟨hx, hb, hml, hown, hts⟩ hM gX7_nearest_X7_far kyX7_far (by rw [hRf, hRl]; exact ⟨Nat.le_of_ble_eq_true rfl, Nat.le_of_ble_eq_true rfl⟩) hK hP hD hS hA rfl hl.1 rfl (st1 := [.int (f_X7_far z6_2 (st 0 1))]) rfl rfl ⟨Nat.zero_le _, Nat.zero_le _⟩ dX7_nearest_27 (fun H locs hP hD hS => ?_)
                  refine lv_iload_n hx hb dX7_nearest_30 rfl (lv_at hl 1 rfl) ?_
                  refine lv_aload_n hx hb dX7_nearest_31 rfl (lv_at hl 2 rfl) ?_
                  refine va_get (D := D) (cl := vwCl) (ci := 6) (v := .int (st 0 1)) (C := RX7) (T := TX7) (N := 34) hx hb hts inX7 hown hK.1 hP 0 (mO h ad ct st) rfl 1 (by decide) hw1 (fun _ h => h) (mF_1 ad st) dX7_nearest_32 ?_
                  have hM : kC l D ct z yX7_far wsX7_far 1 21 [.int z6_1, .int (st 0 1)] ([]) (some (.int (f_X7_far z6_1 (st 0 1)))) ([]) := k_X7_far l D ct z z6_1 (st 0 1)
                  refine kS0 (As := [.int z6_1, .int (st 0 1)]) (rest := [.int (f_X7_far z6_2 (st 0 1))]) ⟨hx, hb, hml, hown, hts⟩ hM gX7_nearest_X7_far kyX7_far (by rw [hRf, hRl]; exact ⟨Nat.le_of_ble_eq_true rfl, Nat.le_of_ble_eq_true rfl⟩) hK hP hD hS hA rfl hl.1 rfl (st1 := [.int (f_X7_far z6_1 (st 0 1)), .int (f_X7_far z6_2 (st 0 1))]) rfl rfl ⟨Nat.zero_le _, Nat.zero_le _⟩ dX7_nearest_35 (fun H locs hP hD hS => ?_)
                  refine lv_icmp_gt (tgt := 45) hx hb dX7_nearest_38 (by decide) (fun c_4 => ?_) (fun c_4 => ?_)
                  · have hf := kIt hf c_4
                    have t_4 := ti_lt c_4
                    exact hJ45 ()  hf _ _ _ hP hD hS (lv_sub hl [0, 1, 2] rfl)
                  · have hf := kIf hf c_4
                    have t_4 := ti_nlt c_4
                    exact hJ41 ()  hf _ _ _ hP hD hS (lv_sub hl [0, 2] rfl)
  refine lp6 _ (fun w6_1  H locs ls  hP hD hS hl hf => ?_) (64) (63 : Int32) (-6 : Int32)  _ _ _ (by first | assumption | exact vin (by omega) (by omega) | omega) (by first | assumption | exact vin (by omega) (by omega) | omega) hP hD hS (lv_sub hl [0, 1, 2] rfl) hf
  refine lv_iload_n hx hb dX7_nearest_53 rfl (lv_at hl 0 rfl) ?_
  exact kRetI hx hb hr hlk hP hD hS hf.symm rfl hQ dX7_nearest_54
theorem kyX7_climb : kY yX7_climb cX7_climb 2 none wsX7_climb wsX7_climb.tail 1 := ⟨rfl, by decide, by decide, by decide +kernel⟩
set_option maxHeartbeats 4000000 in
set_option maxRecDepth 100000 in
theorem k_X7_climb (l : Launch) (D : va_G) (ct : ClassId × ClassId × ClassId) (z : Nat × Nat) (h : Nat) (ad : Nat → Nat) (x1 : Int32) (st : Nat → Nat → Int32)  : kC l D ct z yX7_climb wsX7_climb 0 0 [.ref h, .int x1] (mW h ad ct st) (none) (mW h ad ct (f_X7_climb x1 st)) := by
  refine kHead (cc := cX7_climb) (maxL := 2) (ret := none) [(0, .ref h), (1, .int x1)] (by decide) rfl (Nat.le_of_ble_eq_true rfl) rfl ?_
  intro p e s m args below meth c A ls R Q hRf hRl hQ hx hb hr hlk hml hown hts hA hS hK hP hD hl
  have inX7 : ∀ w ∈ wsX70, w ∈ wsX7_climb := fun w h => (List.mem_cons_of_mem _ (List.mem_append_right _ h))
  have hw1 := hts (Cond.fieldLink RX7 66 "MastPulpitsModel" "who" "I") (List.mem_of_getElem? (i := 1) (by decide +kernel))
  have hw2 := hts (Cond.fieldLink RX7 146 "MastPulpitsModel" "hours" "I") (List.mem_of_getElem? (i := 2) (by decide +kernel))
  have kc0 : (0 : Int32).toInt = 0 := by decide
  have hf : f_X7_climb x1 st = f_X7_climb x1 st := rfl
  refine lv_aload_n hx hb dX7_climb_0 rfl (lv_at hl 0 rfl) ?_
  refine lv_iload_n hx hb dX7_climb_1 rfl (lv_at hl 1 rfl) ?_
  refine kPut (ci := 6) (C := RX7) (T := TX7) (N := 34) (ty := .int) (v := .int x1) (W1 := mW h ad ct (u2 st 0 4 x1)) hx hb hts inX7 tyX7 tyX7_ok nmX7 hown hK hP hD hS 0 (mO h ad ct st) rfl 4 (by decide) hw1 (fun _ h => h) rfl (by decide +kernel) rfl rfl (mLn 4 ad st (by decide)) (mS_4 h ad ct st x1) dX7_climb_2 (fun H locs hP hD hS => ?_)
  refine lv_aload_n hx hb dX7_climb_5 rfl (lv_at hl 0 rfl) ?_
  refine lv_iconst (v := (0 : Int32)) hx hb dX7_climb_6 (by decide) ?_
  refine kPut (ci := 6) (C := RX7) (T := TX7) (N := 34) (ty := .int) (v := .int (0 : Int32)) (W1 := mW h ad ct (u2 (u2 st 0 4 x1) 0 5 (0 : Int32))) hx hb hts inX7 tyX7 tyX7_ok nmX7 hown hK hP hD hS 0 (mO h ad ct (u2 st 0 4 x1)) rfl 5 (by decide) hw2 (fun _ h => h) rfl (by decide +kernel) rfl rfl (mLn 5 ad (u2 st 0 4 x1) (by decide)) (mS_5 h ad ct (u2 st 0 4 x1) (0 : Int32)) dX7_climb_7 (fun H locs hP hD hS => ?_)
  exact kRetV hx hb hr hlk hP hD hS ((congrArg (fun q => mW h ad ct q) hf).symm) hQ dX7_climb_10
theorem kyX7_sail : kY yX7_sail cX7_sail 3 none wsX7_sail wsX7_sail.tail 1 := ⟨rfl, by decide, by decide, by decide +kernel⟩
set_option maxHeartbeats 4000000 in
set_option maxRecDepth 100000 in
theorem k_X7_sail (l : Launch) (D : va_G) (ct : ClassId × ClassId × ClassId) (z : Nat × Nat) (h : Nat) (ad : Nat → Nat) (x1 : Int32) (st : Nat → Nat → Int32) (hto : vp_in (f_X7_ahead (st 0 1) x1) 64) : kC l D ct z yX7_sail wsX7_sail 3 70 [.ref h, .int x1] (mW h ad ct st) (none) (mW h ad ct (f_X7_sail x1 st)) := by
  refine kHead (cc := cX7_sail) (maxL := 3) (ret := none) [(0, .ref h), (1, .int x1)] (by decide) rfl (Nat.le_of_ble_eq_true rfl) rfl ?_
  intro p e s m args below meth c A ls R Q hRf hRl hQ hx hb hr hlk hml hown hts hA hS hK hP hD hl
  have inX7 : ∀ w ∈ wsX70, w ∈ wsX7_sail := fun w h => (List.mem_cons_of_mem _ (List.mem_append_right _ h))
  have hw1 := hts (Cond.fieldLink RX7 59 "MastPulpitsModel" "place" "I") (List.mem_of_getElem? (i := 1) (by decide +kernel))
  have hw2 := hts (Cond.fieldLink RX7 7 "MastPulpitsModel" "ground" "[I") (List.mem_of_getElem? (i := 2) (by decide +kernel))
  have hw3 := hts (Cond.fieldLink RX7 63 "MastPulpitsModel" "hull" "I") (List.mem_of_getElem? (i := 3) (by decide +kernel))
  have hw4 := hts (Cond.fieldLink RX7 158 "MastPulpitsModel" "strikes" "I") (List.mem_of_getElem? (i := 4) (by decide +kernel))
  have kc0 : (0 : Int32).toInt = 0 := by decide
  have kc1 : (1 : Int32).toInt = 1 := by decide
  have hf : f_X7_sail x1 st = f_X7_sail x1 st := rfl
  refine lv_aload_n hx hb dX7_sail_0 rfl (lv_at hl 0 rfl) ?_
  refine va_get (D := D) (cl := vwCl) (ci := 6) (v := .int (st 0 1)) (C := RX7) (T := TX7) (N := 34) hx hb hts inX7 hown hK.1 hP 0 (mO h ad ct st) rfl 1 (by decide) hw1 (fun _ h => h) (mF_1 ad st) dX7_sail_1 ?_
  refine lv_iload_n hx hb dX7_sail_4 rfl (lv_at hl 1 rfl) ?_
  have hM : kC l D ct z yX7_ahead wsX7_ahead 2 49 [.int (st 0 1), .int x1] ([]) (some (.int (f_X7_ahead (st 0 1) x1))) ([]) := k_X7_ahead l D ct z (st 0 1) x1
  refine kS0 (As := [.int (st 0 1), .int x1]) (rest := []) ⟨hx, hb, hml, hown, hts⟩ hM gX7_sail_X7_ahead kyX7_ahead (by rw [hRf, hRl]; exact ⟨Nat.le_of_ble_eq_true rfl, Nat.le_of_ble_eq_true rfl⟩) hK hP hD hS hA rfl hl.1 rfl (st1 := [.int (f_X7_ahead (st 0 1) x1)]) rfl rfl ⟨Nat.zero_le _, Nat.zero_le _⟩ dX7_sail_5 (fun H locs hP hD hS => ?_)
  refine lv_topi (fun y8 ey8 => ?_)
  have hf := kLt hf ey8
  refine lv_istore_n (lv' := [(2, .int y8), (0, .ref h), (1, .int x1)]) hx hb dX7_sail_8 rfl hl (by decide) rfl (fun ls hl => ?_)
  refine lv_aload_n hx hb dX7_sail_9 rfl (lv_at hl 1 rfl) ?_
  refine va_get (D := D) (cl := vwCl) (ci := 6) (v := .ref (ad 0)) (C := RX7) (T := TX7) (N := 34) hx hb hts inX7 hown hK.1 hP 0 (mO h ad ct st) rfl 0 (by decide) hw2 (fun _ h => h) (mF_0 ad st) dX7_sail_10 ?_
  refine lv_iload_n hx hb dX7_sail_13 rfl (lv_at hl 0 rfl) ?_
  refine va_iald hx hb hK.1 hP 1 0 (mA_0 h ad ct st) rfl (by rw [ey8]; exact hto) dX7_sail_14 ?_
  refine lv_iconst (v := (1 : Int32)) hx hb dX7_sail_15 (by decide) ?_
  refine lv_icmp_ne (tgt := 42) hx hb dX7_sail_16 (by decide) (fun c_1 => ?_) (fun c_1 => ?_)
  · have hf := kIf hf c_1
    have t_1 := ti_ne c_1
    refine lv_aload_n hx hb dX7_sail_42 rfl (lv_at hl 1 rfl) ?_
    refine lv_iload_n hx hb dX7_sail_43 rfl (lv_at hl 0 rfl) ?_
    refine kPut (ci := 6) (C := RX7) (T := TX7) (N := 34) (ty := .int) (v := .int y8) (W1 := mW h ad ct (u2 st 0 1 y8)) hx hb hts inX7 tyX7 tyX7_ok nmX7 hown hK hP hD hS 0 (mO h ad ct st) rfl 1 (by decide) hw1 (fun _ h => h) rfl (by decide +kernel) rfl rfl (mLn 1 ad st (by decide)) (mS_1 h ad ct st y8) dX7_sail_44 (fun H locs hP hD hS => ?_)
    exact kRetV hx hb hr hlk hP hD hS ((congrArg (fun q => mW h ad ct q) hf).symm) hQ dX7_sail_47
  · have hf := kIt hf c_1
    have t_1 := ti_eq c_1
    refine lv_aload_n hx hb dX7_sail_19 rfl (lv_at hl 1 rfl) ?_
    refine lv_dup hx hb dX7_sail_20 rfl ?_
    refine va_get (D := D) (cl := vwCl) (ci := 6) (v := .int (st 0 2)) (C := RX7) (T := TX7) (N := 34) hx hb hts inX7 hown hK.1 hP 0 (mO h ad ct st) rfl 2 (by decide) hw3 (fun _ h => h) (mF_2 ad st) dX7_sail_21 ?_
    refine lv_iconst (v := (1 : Int32)) hx hb dX7_sail_24 (by decide) ?_
    refine lv_isub hx hb dX7_sail_25 ?_
    refine lv_topi (fun y26 ey26 => ?_)
    have hf := kLt hf ey26
    refine kPut (ci := 6) (C := RX7) (T := TX7) (N := 34) (ty := .int) (v := .int y26) (W1 := mW h ad ct (u2 st 0 2 y26)) hx hb hts inX7 tyX7 tyX7_ok nmX7 hown hK hP hD hS 0 (mO h ad ct st) rfl 2 (by decide) hw3 (fun _ h => h) rfl (by decide +kernel) rfl rfl (mLn 2 ad st (by decide)) (mS_2 h ad ct st y26) dX7_sail_26 (fun H locs hP hD hS => ?_)
    refine lv_aload_n hx hb dX7_sail_29 rfl (lv_at hl 1 rfl) ?_
    refine lv_dup hx hb dX7_sail_30 rfl ?_
    refine va_get (D := D) (cl := vwCl) (ci := 6) (v := .int (st 0 17)) (C := RX7) (T := TX7) (N := 34) hx hb hts inX7 hown hK.1 hP 0 (mO h ad ct (u2 st 0 2 y26)) rfl 17 (by decide) hw4 (fun _ h => h) (mF_17 ad (u2 st 0 2 y26)) dX7_sail_31 ?_
    refine lv_iconst (v := (1 : Int32)) hx hb dX7_sail_34 (by decide) ?_
    refine lv_iadd hx hb dX7_sail_35 ?_
    refine lv_topi (fun y36 ey36 => ?_)
    have hf := kLt hf ey36
    refine kPut (ci := 6) (C := RX7) (T := TX7) (N := 34) (ty := .int) (v := .int y36) (W1 := mW h ad ct (u2 (u2 st 0 2 y26) 0 17 y36)) hx hb hts inX7 tyX7 tyX7_ok nmX7 hown hK hP hD hS 0 (mO h ad ct (u2 st 0 2 y26)) rfl 17 (by decide) hw4 (fun _ h => h) rfl (by decide +kernel) rfl rfl (mLn 17 ad (u2 st 0 2 y26) (by decide)) (mS_17 h ad ct (u2 st 0 2 y26) y36) dX7_sail_36 (fun H locs hP hD hS => ?_)
    refine lv_goto (tgt := 47) hx hb dX7_sail_39 (by decide) ?_
    exact kRetV hx hb hr hlk hP hD hS ((congrArg (fun q => mW h ad ct q) hf).symm) hQ dX7_sail_47
theorem kyX7_call : kY yX7_call cX7_call 1 none wsX7_call wsX7_call.tail 0 := ⟨rfl, by decide, by decide, by decide +kernel⟩
set_option maxHeartbeats 4000000 in
set_option maxRecDepth 100000 in
theorem k_X7_call (l : Launch) (D : va_G) (ct : ClassId × ClassId × ClassId) (z : Nat × Nat) (h : Nat) (ad : Nat → Nat) (st : Nat → Nat → Int32) (hw6 : vp_in (st 0 4) 6) : kC l D ct z yX7_call wsX7_call 4 87 [.ref h] (mW h ad ct st) (none) (mW h ad ct (f_X7_call st)) := by
  refine kHead (cc := cX7_call) (maxL := 1) (ret := none) [(0, .ref h)] (by decide) rfl (Nat.le_of_ble_eq_true rfl) rfl ?_
  intro p e s m args below meth c A ls R Q hRf hRl hQ hx hb hr hlk hml hown hts hA hS hK hP hD hl
  have inX7 : ∀ w ∈ wsX70, w ∈ wsX7_call := fun w h => (List.mem_cons_of_mem _ (List.mem_append_right _ h))
  have hw1 := hts (Cond.fieldLink RX7 161 "MastPulpitsModel" "calls" "I") (List.mem_of_getElem? (i := 1) (by decide +kernel))
  have hw2 := hts (Cond.fieldLink RX7 164 "MastPulpitsModel" "silences" "I") (List.mem_of_getElem? (i := 2) (by decide +kernel))
  have kc0 : (0 : Int32).toInt = 0 := by decide
  have kc1 : (1 : Int32).toInt = 1 := by decide
  have hf : f_X7_call st = f_X7_call st := rfl
  refine lv_aload_n hx hb dX7_call_0 rfl (lv_at hl 0 rfl) ?_
  refine lv_dup hx hb dX7_call_1 rfl ?_
  refine va_get (D := D) (cl := vwCl) (ci := 6) (v := .int (st 0 18)) (C := RX7) (T := TX7) (N := 34) hx hb hts inX7 hown hK.1 hP 0 (mO h ad ct st) rfl 18 (by decide) hw1 (fun _ h => h) (mF_18 ad st) dX7_call_2 ?_
  refine lv_iconst (v := (1 : Int32)) hx hb dX7_call_5 (by decide) ?_
  refine lv_iadd hx hb dX7_call_6 ?_
  refine lv_topi (fun y7 ey7 => ?_)
  have hf := kLt hf ey7
  refine kPut (ci := 6) (C := RX7) (T := TX7) (N := 34) (ty := .int) (v := .int y7) (W1 := mW h ad ct (u2 st 0 18 y7)) hx hb hts inX7 tyX7 tyX7_ok nmX7 hown hK hP hD hS 0 (mO h ad ct st) rfl 18 (by decide) hw1 (fun _ h => h) rfl (by decide +kernel) rfl rfl (mLn 18 ad st (by decide)) (mS_18 h ad ct st y7) dX7_call_7 (fun H locs hP hD hS => ?_)
  refine lv_aload_n hx hb dX7_call_10 rfl (lv_at hl 0 rfl) ?_
  refine lv_dup hx hb dX7_call_11 rfl ?_
  refine va_get (D := D) (cl := vwCl) (ci := 6) (v := .int (st 0 19)) (C := RX7) (T := TX7) (N := 34) hx hb hts inX7 hown hK.1 hP 0 (mO h ad ct (u2 st 0 18 y7)) rfl 19 (by decide) hw2 (fun _ h => h) (mF_19 ad (u2 st 0 18 y7)) dX7_call_12 ?_
  refine lv_aload_n hx hb dX7_call_15 rfl (lv_at hl 0 rfl) ?_
  have hM : kC l D ct z yX7_seenMany wsX7_seenMany 3 65 [.ref h] (mW h ad ct (u2 st 0 18 y7)) (some (.int (f_X7_seenMany (u2 st 0 18 y7)))) (mW h ad ct (u2 st 0 18 y7)) := k_X7_seenMany l D ct z h ad (u2 st 0 18 y7) (by first | assumption | exact vin (by omega) (by omega) | omega)
  refine kV1 (As := []) (rest := [.int (st 0 19), .ref h]) ⟨hx, hb, hml, hown, hts⟩ hM gX7_call_X7_seenMany kyX7_seenMany (by rw [hRf, hRl]; exact ⟨Nat.le_of_ble_eq_true rfl, Nat.le_of_ble_eq_true rfl⟩) hK hP hD hS hA 0 (mO h ad ct (u2 st 0 18 y7)) rfl rfl rfl hl.1 rfl (st1 := [.int (f_X7_seenMany (u2 st 0 18 y7)), .int (st 0 19), .ref h]) rfl rfl ⟨Nat.zero_le _, Nat.zero_le _⟩ dX7_call_16 (fun H locs hP hD hS => ?_)
  refine kJn hf (fun j0 => ∀ (z27_s0 : Int32), (z27_s0 = 0 ∨ z27_s0 = 1) → f_X7_call st = j0 z27_s0 → ∀ (H : Heap) (locs : List Loc) (ls : Array Slot), va_P D vwCl (mW h ad ct (u2 st 0 18 y7)) H → va_D A (mW h ad ct (u2 st 0 18 y7)) → va_S A s.heap H locs → lv_has ls 1 [] → W p l e R s m args below meth c H locs 0 0 Q (F0 m 27 ls [.int z27_s0, .int (st 0 19), .ref h])) ?_ ?_
  · intro j0 hj0 z27_s0 b01_z27_s0 hf H locs ls hP hD hS hl
    subst hj0
    refine lv_iadd hx hb dX7_call_27 ?_
    refine lv_topi (fun y28 ey28 => ?_)
    have hf := kLt hf ey28
    refine kPut (ci := 6) (C := RX7) (T := TX7) (N := 34) (ty := .int) (v := .int y28) (W1 := mW h ad ct (u2 (u2 st 0 18 y7) 0 19 y28)) hx hb hts inX7 tyX7 tyX7_ok nmX7 hown hK hP hD hS 0 (mO h ad ct (u2 st 0 18 y7)) rfl 19 (by decide) hw2 (fun _ h => h) rfl (by decide +kernel) rfl rfl (mLn 19 ad (u2 st 0 18 y7) (by decide)) (mS_19 h ad ct (u2 st 0 18 y7) y28) dX7_call_28 (fun H locs hP hD hS => ?_)
    exact kRetV hx hb hr hlk hP hD hS ((congrArg (fun q => mW h ad ct q) hf).symm) hQ dX7_call_31
  · intro j27 hJ27 hf
    refine lv_if_ne (tgt := 26) hx hb dX7_call_19 (by decide) (fun c_1 => ?_) (fun c_1 => ?_)
    · have hf := kIf hf c_1
      have t_1 := ti_ne c_1
      refine lv_iconst (v := (0 : Int32)) hx hb dX7_call_26 (by decide) ?_
      exact hJ27 _ (Or.inl rfl)  hf _ _ _ hP hD hS (lv_sub hl [] rfl)
    · have hf := kIt hf c_1
      have t_1 := ti_eq c_1
      refine lv_iconst (v := (1 : Int32)) hx hb dX7_call_22 (by decide) ?_
      refine lv_goto (tgt := 27) hx hb dX7_call_23 (by decide) ?_
      exact hJ27 _ (Or.inr rfl)  hf _ _ _ hP hD hS (lv_sub hl [] rfl)
theorem kyX7_passHour : kY yX7_passHour cX7_passHour 1 none wsX7_passHour wsX7_passHour.tail 0 := ⟨rfl, by decide, by decide, by decide +kernel⟩
set_option maxHeartbeats 4000000 in
set_option maxRecDepth 100000 in
theorem k_X7_passHour (l : Launch) (D : va_G) (ct : ClassId × ClassId × ClassId) (z : Nat × Nat) (h : Nat) (ad : Nat → Nat) (st : Nat → Nat → Int32)  : kC l D ct z yX7_passHour wsX7_passHour 0 0 [.ref h] (mW h ad ct st) (none) (mW h ad ct (f_X7_passHour st)) := by
  refine kHead (cc := cX7_passHour) (maxL := 1) (ret := none) [(0, .ref h)] (by decide) rfl (Nat.le_of_ble_eq_true rfl) rfl ?_
  intro p e s m args below meth c A ls R Q hRf hRl hQ hx hb hr hlk hml hown hts hA hS hK hP hD hl
  have inX7 : ∀ w ∈ wsX70, w ∈ wsX7_passHour := fun w h => (List.mem_cons_of_mem _ (List.mem_append_right _ h))
  have hw1 := hts (Cond.fieldLink RX7 146 "MastPulpitsModel" "hours" "I") (List.mem_of_getElem? (i := 1) (by decide +kernel))
  have hw2 := hts (Cond.fieldLink RX7 66 "MastPulpitsModel" "who" "I") (List.mem_of_getElem? (i := 2) (by decide +kernel))
  have hw3 := hts (Cond.fieldLink RX7 104 "MastPulpitsModel" "mist" "I") (List.mem_of_getElem? (i := 3) (by decide +kernel))
  have hw4 := hts (Cond.fieldLink RX7 143 "MastPulpitsModel" "hour" "I") (List.mem_of_getElem? (i := 4) (by decide +kernel))
  have kc0 : (0 : Int32).toInt = 0 := by decide
  have kc1 : (1 : Int32).toInt = 1 := by decide
  have hf : f_X7_passHour st = f_X7_passHour st := rfl
  refine lv_aload_n hx hb dX7_passHour_0 rfl (lv_at hl 0 rfl) ?_
  refine lv_dup hx hb dX7_passHour_1 rfl ?_
  refine va_get (D := D) (cl := vwCl) (ci := 6) (v := .int (st 0 5)) (C := RX7) (T := TX7) (N := 34) hx hb hts inX7 hown hK.1 hP 0 (mO h ad ct st) rfl 5 (by decide) hw1 (fun _ h => h) (mF_5 ad st) dX7_passHour_2 ?_
  refine lv_aload_n hx hb dX7_passHour_5 rfl (lv_at hl 0 rfl) ?_
  refine va_get (D := D) (cl := vwCl) (ci := 6) (v := .int (st 0 4)) (C := RX7) (T := TX7) (N := 34) hx hb hts inX7 hown hK.1 hP 0 (mO h ad ct st) rfl 4 (by decide) hw2 (fun _ h => h) (mF_4 ad st) dX7_passHour_6 ?_
  refine kJn hf (fun j0 => ∀ (z17_s0 : Int32), (z17_s0 = 0 ∨ z17_s0 = 1) → f_X7_passHour st = j0 z17_s0 → ∀ (H : Heap) (locs : List Loc) (ls : Array Slot), va_P D vwCl (mW h ad ct st) H → va_D A (mW h ad ct st) → va_S A s.heap H locs → lv_has ls 1 [(0, .ref h)] → W p l e R s m args below meth c H locs 0 0 Q (F0 m 17 ls [.int z17_s0, .int (st 0 5), .ref h])) ?_ ?_
  · intro j0 hj0 z17_s0 b01_z17_s0 hf H locs ls hP hD hS hl
    subst hj0
    refine lv_iadd hx hb dX7_passHour_17 ?_
    refine lv_topi (fun y18 ey18 => ?_)
    have hf := kLt hf ey18
    refine kPut (ci := 6) (C := RX7) (T := TX7) (N := 34) (ty := .int) (v := .int y18) (W1 := mW h ad ct (u2 st 0 5 y18)) hx hb hts inX7 tyX7 tyX7_ok nmX7 hown hK hP hD hS 0 (mO h ad ct st) rfl 5 (by decide) hw1 (fun _ h => h) rfl (by decide +kernel) rfl rfl (mLn 5 ad st (by decide)) (mS_5 h ad ct st y18) dX7_passHour_18 (fun H locs hP hD hS => ?_)
    refine lv_aload_n hx hb dX7_passHour_21 rfl (lv_at hl 0 rfl) ?_
    refine lv_dup hx hb dX7_passHour_22 rfl ?_
    refine va_get (D := D) (cl := vwCl) (ci := 6) (v := .int (st 0 6)) (C := RX7) (T := TX7) (N := 34) hx hb hts inX7 hown hK.1 hP 0 (mO h ad ct (u2 st 0 5 y18)) rfl 6 (by decide) hw3 (fun _ h => h) (mF_6 ad (u2 st 0 5 y18)) dX7_passHour_23 ?_
    refine lv_aload_n hx hb dX7_passHour_26 rfl (lv_at hl 0 rfl) ?_
    refine va_get (D := D) (cl := vwCl) (ci := 6) (v := .int (st 0 6)) (C := RX7) (T := TX7) (N := 34) hx hb hts inX7 hown hK.1 hP 0 (mO h ad ct (u2 st 0 5 y18)) rfl 6 (by decide) hw3 (fun _ h => h) (mF_6 ad (u2 st 0 5 y18)) dX7_passHour_27 ?_
    refine kJn hf (fun j0 => ∀ (z38_s0 : Int32), (z38_s0 = 0 ∨ z38_s0 = 1) → f_X7_passHour st = j0 z38_s0 → ∀ (H : Heap) (locs : List Loc) (ls : Array Slot), va_P D vwCl (mW h ad ct (u2 st 0 5 y18)) H → va_D A (mW h ad ct (u2 st 0 5 y18)) → va_S A s.heap H locs → lv_has ls 1 [(0, .ref h)] → W p l e R s m args below meth c H locs 0 0 Q (F0 m 38 ls [.int z38_s0, .int (st 0 6), .ref h])) ?_ ?_
    · intro j0 hj0 z38_s0 b01_z38_s0 hf H locs ls hP hD hS hl
      subst hj0
      refine lv_isub hx hb dX7_passHour_38 ?_
      refine lv_topi (fun y39 ey39 => ?_)
      have hf := kLt hf ey39
      refine kPut (ci := 6) (C := RX7) (T := TX7) (N := 34) (ty := .int) (v := .int y39) (W1 := mW h ad ct (u2 (u2 st 0 5 y18) 0 6 y39)) hx hb hts inX7 tyX7 tyX7_ok nmX7 hown hK hP hD hS 0 (mO h ad ct (u2 st 0 5 y18)) rfl 6 (by decide) hw3 (fun _ h => h) rfl (by decide +kernel) rfl rfl (mLn 6 ad (u2 st 0 5 y18) (by decide)) (mS_6 h ad ct (u2 st 0 5 y18) y39) dX7_passHour_39 (fun H locs hP hD hS => ?_)
      refine lv_aload_n hx hb dX7_passHour_42 rfl (lv_at hl 0 rfl) ?_
      refine lv_dup hx hb dX7_passHour_43 rfl ?_
      refine va_get (D := D) (cl := vwCl) (ci := 6) (v := .int (st 0 7)) (C := RX7) (T := TX7) (N := 34) hx hb hts inX7 hown hK.1 hP 0 (mO h ad ct (u2 (u2 st 0 5 y18) 0 6 y39)) rfl 7 (by decide) hw4 (fun _ h => h) (mF_7 ad (u2 (u2 st 0 5 y18) 0 6 y39)) dX7_passHour_44 ?_
      refine lv_iconst (v := (1 : Int32)) hx hb dX7_passHour_47 (by decide) ?_
      refine lv_iadd hx hb dX7_passHour_48 ?_
      refine lv_topi (fun y49 ey49 => ?_)
      have hf := kLt hf ey49
      refine kPut (ci := 6) (C := RX7) (T := TX7) (N := 34) (ty := .int) (v := .int y49) (W1 := mW h ad ct (u2 (u2 (u2 st 0 5 y18) 0 6 y39) 0 7 y49)) hx hb hts inX7 tyX7 tyX7_ok nmX7 hown hK hP hD hS 0 (mO h ad ct (u2 (u2 st 0 5 y18) 0 6 y39)) rfl 7 (by decide) hw4 (fun _ h => h) rfl (by decide +kernel) rfl rfl (mLn 7 ad (u2 (u2 st 0 5 y18) 0 6 y39) (by decide)) (mS_7 h ad ct (u2 (u2 st 0 5 y18) 0 6 y39) y49) dX7_passHour_49 (fun H locs hP hD hS => ?_)
      exact kRetV hx hb hr hlk hP hD hS ((congrArg (fun q => mW h ad ct q) hf).symm) hQ dX7_passHour_52
    · intro j38 hJ38 hf
      refine lv_if_le (tgt := 37) hx hb dX7_passHour_30 (by decide) (fun c_2 => ?_) (fun c_2 => ?_)
      · have hf := kIt hf c_2
        have t_2 := ti_le c_2
        refine lv_iconst (v := (0 : Int32)) hx hb dX7_passHour_37 (by decide) ?_
        exact hJ38 _ (Or.inl rfl)  hf _ _ _ hP hD hS (lv_sub hl [0] rfl)
      · have hf := kIf hf c_2
        have t_2 := ti_nle c_2
        refine lv_iconst (v := (1 : Int32)) hx hb dX7_passHour_33 (by decide) ?_
        refine lv_goto (tgt := 38) hx hb dX7_passHour_34 (by decide) ?_
        exact hJ38 _ (Or.inr rfl)  hf _ _ _ hP hD hS (lv_sub hl [0] rfl)
  · intro j17 hJ17 hf
    refine lv_if_ge (tgt := 16) hx hb dX7_passHour_9 (by decide) (fun c_1 => ?_) (fun c_1 => ?_)
    · have hf := kIt hf c_1
      have t_1 := ti_le c_1
      refine lv_iconst (v := (1 : Int32)) hx hb dX7_passHour_16 (by decide) ?_
      exact hJ17 _ (Or.inr rfl)  hf _ _ _ hP hD hS (lv_sub hl [0] rfl)
    · have hf := kIf hf c_1
      have t_1 := ti_nle c_1
      refine lv_iconst (v := (0 : Int32)) hx hb dX7_passHour_12 (by decide) ?_
      refine lv_goto (tgt := 17) hx hb dX7_passHour_13 (by decide) ?_
      exact hJ17 _ (Or.inl rfl)  hf _ _ _ hP hD hS (lv_sub hl [0] rfl)
theorem kyX7_happen : kY yX7_happen cX7_happen 3 none wsX7_happen wsX7_happen.tail 2 := ⟨rfl, by decide, by decide, by decide +kernel⟩
set_option maxHeartbeats 4000000 in
set_option maxRecDepth 100000 in
theorem k_X7_happen (l : Launch) (D : va_G) (ct : ClassId × ClassId × ClassId) (z : Nat × Nat) (h : Nat) (ad : Nat → Nat) (x1 : Int32) (x2 : Int32) (st : Nat → Nat → Int32) (h2 : x1 = 2 → vp_in (f_X7_ahead (st 0 1) x2) 64) (h4 : x1 = 4 → vp_in (st 0 4) 6) : kC l D ct z yX7_happen wsX7_happen 5 107 [.ref h, .int x1, .int x2] (mW h ad ct st) (none) (mW h ad ct (f_X7_happen x1 x2 st)) := by
  refine kHead (cc := cX7_happen) (maxL := 3) (ret := none) [(0, .ref h), (1, .int x1), (2, .int x2)] (by decide) rfl (Nat.le_of_ble_eq_true rfl) rfl ?_
  intro p e s m args below meth c A ls R Q hRf hRl hQ hx hb hr hlk hml hown hts hA hS hK hP hD hl
  have inX7 : ∀ w ∈ wsX70, w ∈ wsX7_happen := fun w h => (List.mem_cons_of_mem _ (List.mem_append_right _ h))
  have hw1 := hts (Cond.fieldLink RX7 104 "MastPulpitsModel" "mist" "I") (List.mem_of_getElem? (i := 1) (by decide +kernel))
  have kcm6 : (-6 : Int32).toInt = -6 := by decide
  have kc0 : (0 : Int32).toInt = 0 := by decide
  have hf : f_X7_happen x1 x2 st = f_X7_happen x1 x2 st := rfl
  refine lv_iload_n hx hb dX7_happen_0 rfl (lv_at hl 1 rfl) ?_
  have kv_1 : (0 : Int32).toInt = 0 := by decide
  refine (Classical.em (x1 = (0 : Int32))).elim (fun c_1 => ?_) (fun c_1 => ?_)
  · have hf := kIt hf c_1
    have t_1 := ti_eq c_1
    refine lv_tableIn (off := 35) (tgt := 36) hx hb dX7_happen_1 (by omega) (by omega) (by rw [c_1]; decide) (by decide) ?_
    refine lv_aload_n hx hb dX7_happen_36 rfl (lv_at hl 0 rfl) ?_
    refine lv_iload_n hx hb dX7_happen_37 rfl (lv_at hl 2 rfl) ?_
    obtain ⟨q38, eq38⟩ : ∃ y, y = f_X7_climb x2 st := ⟨_, rfl⟩
    have hf := kLt hf eq38
    have hM : kC l D ct z yX7_climb wsX7_climb 0 0 [.ref h, .int x2] (mW h ad ct st) (none) (mW h ad ct q38) := by rw [eq38]; exact k_X7_climb l D ct z h ad x2 st
    refine kV1 (As := [.int x2]) (rest := []) ⟨hx, hb, hml, hown, hts⟩ hM gX7_happen_X7_climb kyX7_climb (by rw [hRf, hRl]; exact ⟨Nat.le_of_ble_eq_true rfl, Nat.le_of_ble_eq_true rfl⟩) hK hP hD hS hA 0 (mO h ad ct st) rfl rfl rfl hl.1 rfl (st1 := []) rfl rfl ⟨Nat.zero_le _, Nat.zero_le _⟩ dX7_happen_38 (fun H locs hP hD hS => ?_)
    refine lv_goto (tgt := 80) hx hb dX7_happen_41 (by decide) ?_
    exact kRetV hx hb hr hlk hP hD hS ((congrArg (fun q => mW h ad ct q) hf).symm) hQ dX7_happen_80
  · have hf := kIf hf c_1
    have t_1 := ti_ne c_1
    have kv_2 : (1 : Int32).toInt = 1 := by decide
    refine (Classical.em (x1 = (1 : Int32))).elim (fun c_2 => ?_) (fun c_2 => ?_)
    · have hf := kIt hf c_2
      have t_2 := ti_eq c_2
      refine lv_tableIn (off := 43) (tgt := 44) hx hb dX7_happen_1 (by omega) (by omega) (by rw [c_2]; decide) (by decide) ?_
      refine lv_aload_n hx hb dX7_happen_44 rfl (lv_at hl 0 rfl) ?_
      refine lv_bipush (v := (-6 : Int32)) hx hb dX7_happen_45 (by decide) ?_
      obtain ⟨q47, eq47⟩ : ∃ y, y = f_X7_climb (-6 : Int32) st := ⟨_, rfl⟩
      have hf := kLt hf eq47
      have hM : kC l D ct z yX7_climb wsX7_climb 0 0 [.ref h, .int (-6 : Int32)] (mW h ad ct st) (none) (mW h ad ct q47) := by rw [eq47]; exact k_X7_climb l D ct z h ad (-6 : Int32) st
      refine kV1 (As := [.int (-6 : Int32)]) (rest := []) ⟨hx, hb, hml, hown, hts⟩ hM gX7_happen_X7_climb kyX7_climb (by rw [hRf, hRl]; exact ⟨Nat.le_of_ble_eq_true rfl, Nat.le_of_ble_eq_true rfl⟩) hK hP hD hS hA 0 (mO h ad ct st) rfl rfl rfl hl.1 rfl (st1 := []) rfl rfl ⟨Nat.zero_le _, Nat.zero_le _⟩ dX7_happen_47 (fun H locs hP hD hS => ?_)
      refine lv_goto (tgt := 80) hx hb dX7_happen_50 (by decide) ?_
      exact kRetV hx hb hr hlk hP hD hS ((congrArg (fun q => mW h ad ct q) hf).symm) hQ dX7_happen_80
    · have hf := kIf hf c_2
      have t_2 := ti_ne c_2
      have kv_3 : (2 : Int32).toInt = 2 := by decide
      refine (Classical.em (x1 = (2 : Int32))).elim (fun c_3 => ?_) (fun c_3 => ?_)
      · have hf := kIt hf c_3
        have t_3 := ti_eq c_3
        refine lv_tableIn (off := 52) (tgt := 53) hx hb dX7_happen_1 (by omega) (by omega) (by rw [c_3]; decide) (by decide) ?_
        refine lv_aload_n hx hb dX7_happen_53 rfl (lv_at hl 0 rfl) ?_
        refine lv_iload_n hx hb dX7_happen_54 rfl (lv_at hl 2 rfl) ?_
        obtain ⟨q55, eq55⟩ : ∃ y, y = f_X7_sail x2 st := ⟨_, rfl⟩
        have hf := kLt hf eq55
        have hM : kC l D ct z yX7_sail wsX7_sail 3 70 [.ref h, .int x2] (mW h ad ct st) (none) (mW h ad ct q55) := by rw [eq55]; exact k_X7_sail l D ct z h ad x2 st (h2 (by assumption))
        refine kV1 (As := [.int x2]) (rest := []) ⟨hx, hb, hml, hown, hts⟩ hM gX7_happen_X7_sail kyX7_sail (by rw [hRf, hRl]; exact ⟨Nat.le_of_ble_eq_true rfl, Nat.le_of_ble_eq_true rfl⟩) hK hP hD hS hA 0 (mO h ad ct st) rfl rfl rfl hl.1 rfl (st1 := []) rfl rfl ⟨Nat.zero_le _, Nat.zero_le _⟩ dX7_happen_55 (fun H locs hP hD hS => ?_)
        refine lv_goto (tgt := 80) hx hb dX7_happen_58 (by decide) ?_
        exact kRetV hx hb hr hlk hP hD hS ((congrArg (fun q => mW h ad ct q) hf).symm) hQ dX7_happen_80
      · have hf := kIf hf c_3
        have t_3 := ti_ne c_3
        have kv_4 : (3 : Int32).toInt = 3 := by decide
        refine (Classical.em (x1 = (3 : Int32))).elim (fun c_4 => ?_) (fun c_4 => ?_)
        · have hf := kIt hf c_4
          have t_4 := ti_eq c_4
          refine lv_tableIn (off := 60) (tgt := 61) hx hb dX7_happen_1 (by omega) (by omega) (by rw [c_4]; decide) (by decide) ?_
          refine lv_aload_n hx hb dX7_happen_61 rfl (lv_at hl 0 rfl) ?_
          refine lv_iload_n hx hb dX7_happen_62 rfl (lv_at hl 2 rfl) ?_
          refine kPut (ci := 6) (C := RX7) (T := TX7) (N := 34) (ty := .int) (v := .int x2) (W1 := mW h ad ct (u2 st 0 6 x2)) hx hb hts inX7 tyX7 tyX7_ok nmX7 hown hK hP hD hS 0 (mO h ad ct st) rfl 6 (by decide) hw1 (fun _ h => h) rfl (by decide +kernel) rfl rfl (mLn 6 ad st (by decide)) (mS_6 h ad ct st x2) dX7_happen_63 (fun H locs hP hD hS => ?_)
          refine lv_goto (tgt := 80) hx hb dX7_happen_66 (by decide) ?_
          exact kRetV hx hb hr hlk hP hD hS ((congrArg (fun q => mW h ad ct q) hf).symm) hQ dX7_happen_80
        · have hf := kIf hf c_4
          have t_4 := ti_ne c_4
          have kv_5 : (4 : Int32).toInt = 4 := by decide
          refine (Classical.em (x1 = (4 : Int32))).elim (fun c_5 => ?_) (fun c_5 => ?_)
          · have hf := kIt hf c_5
            have t_5 := ti_eq c_5
            refine lv_tableIn (off := 68) (tgt := 69) hx hb dX7_happen_1 (by omega) (by omega) (by rw [c_5]; decide) (by decide) ?_
            refine lv_aload_n hx hb dX7_happen_69 rfl (lv_at hl 0 rfl) ?_
            obtain ⟨q70, eq70⟩ : ∃ y, y = f_X7_call st := ⟨_, rfl⟩
            have hf := kLt hf eq70
            have hM : kC l D ct z yX7_call wsX7_call 4 87 [.ref h] (mW h ad ct st) (none) (mW h ad ct q70) := by rw [eq70]; exact k_X7_call l D ct z h ad st (h4 (by assumption))
            refine kV1 (As := []) (rest := []) ⟨hx, hb, hml, hown, hts⟩ hM gX7_happen_X7_call kyX7_call (by rw [hRf, hRl]; exact ⟨Nat.le_of_ble_eq_true rfl, Nat.le_of_ble_eq_true rfl⟩) hK hP hD hS hA 0 (mO h ad ct st) rfl rfl rfl hl.1 rfl (st1 := []) rfl rfl ⟨Nat.zero_le _, Nat.zero_le _⟩ dX7_happen_70 (fun H locs hP hD hS => ?_)
            refine lv_goto (tgt := 80) hx hb dX7_happen_73 (by decide) ?_
            exact kRetV hx hb hr hlk hP hD hS ((congrArg (fun q => mW h ad ct q) hf).symm) hQ dX7_happen_80
          · have hf := kIf hf c_5
            have t_5 := ti_ne c_5
            refine lv_tableOut (tgt := 76) hx hb dX7_happen_1 (by omega) (by decide) ?_
            refine lv_aload_n hx hb dX7_happen_76 rfl (lv_at hl 0 rfl) ?_
            obtain ⟨q77, eq77⟩ : ∃ y, y = f_X7_passHour st := ⟨_, rfl⟩
            have hf := kLt hf eq77
            have hM : kC l D ct z yX7_passHour wsX7_passHour 0 0 [.ref h] (mW h ad ct st) (none) (mW h ad ct q77) := by rw [eq77]; exact k_X7_passHour l D ct z h ad st
            refine kV1 (As := []) (rest := []) ⟨hx, hb, hml, hown, hts⟩ hM gX7_happen_X7_passHour kyX7_passHour (by rw [hRf, hRl]; exact ⟨Nat.le_of_ble_eq_true rfl, Nat.le_of_ble_eq_true rfl⟩) hK hP hD hS hA 0 (mO h ad ct st) rfl rfl rfl hl.1 rfl (st1 := []) rfl rfl ⟨Nat.zero_le _, Nat.zero_le _⟩ dX7_happen_77 (fun H locs hP hD hS => ?_)
            exact kRetV hx hb hr hlk hP hD hS ((congrArg (fun q => mW h ad ct q) hf).symm) hQ dX7_happen_80
theorem kyX7_keepNow : kY yX7_keepNow cX7_keepNow 1 none wsX7_keepNow wsX7_keepNow.tail 0 := ⟨rfl, by decide, by decide, by decide +kernel⟩
set_option maxHeartbeats 4000000 in
set_option maxRecDepth 100000 in
theorem k_X7_keepNow (l : Launch) (D : va_G) (ct : ClassId × ClassId × ClassId) (z : Nat × Nat) (h : Nat) (ad : Nat → Nat) (st : Nat → Nat → Int32)  : kC l D ct z yX7_keepNow wsX7_keepNow 0 0 [.ref h] (mW h ad ct st) (none) (mW h ad ct (f_X7_keepNow st)) := by
  refine kHead (cc := cX7_keepNow) (maxL := 1) (ret := none) [(0, .ref h)] (by decide) rfl (Nat.le_of_ble_eq_true rfl) rfl ?_
  intro p e s m args below meth c A ls R Q hRf hRl hQ hx hb hr hlk hml hown hts hA hS hK hP hD hl
  have inX7 : ∀ w ∈ wsX70, w ∈ wsX7_keepNow := fun w h => (List.mem_cons_of_mem _ (List.mem_append_right _ h))
  have hw1 := hts (Cond.fieldLink RX7 34 "MastPulpitsModel" "had" "[I") (List.mem_of_getElem? (i := 1) (by decide +kernel))
  have hw2 := hts (Cond.fieldLink RX7 59 "MastPulpitsModel" "place" "I") (List.mem_of_getElem? (i := 2) (by decide +kernel))
  have hw3 := hts (Cond.fieldLink RX7 63 "MastPulpitsModel" "hull" "I") (List.mem_of_getElem? (i := 3) (by decide +kernel))
  have hw4 := hts (Cond.fieldLink RX7 66 "MastPulpitsModel" "who" "I") (List.mem_of_getElem? (i := 4) (by decide +kernel))
  have hw5 := hts (Cond.fieldLink RX7 146 "MastPulpitsModel" "hours" "I") (List.mem_of_getElem? (i := 5) (by decide +kernel))
  have hw6 := hts (Cond.fieldLink RX7 104 "MastPulpitsModel" "mist" "I") (List.mem_of_getElem? (i := 6) (by decide +kernel))
  have hw7 := hts (Cond.fieldLink RX7 143 "MastPulpitsModel" "hour" "I") (List.mem_of_getElem? (i := 7) (by decide +kernel))
  have kc0 : (0 : Int32).toInt = 0 := by decide
  have kc1 : (1 : Int32).toInt = 1 := by decide
  have kc2 : (2 : Int32).toInt = 2 := by decide
  have kc3 : (3 : Int32).toInt = 3 := by decide
  have kc4 : (4 : Int32).toInt = 4 := by decide
  have kc5 : (5 : Int32).toInt = 5 := by decide
  have hf : f_X7_keepNow st = f_X7_keepNow st := rfl
  refine lv_aload_n hx hb dX7_keepNow_0 rfl (lv_at hl 0 rfl) ?_
  refine va_get (D := D) (cl := vwCl) (ci := 6) (v := .ref (ad 20)) (C := RX7) (T := TX7) (N := 34) hx hb hts inX7 hown hK.1 hP 0 (mO h ad ct st) rfl 20 (by decide) hw1 (fun _ h => h) (mF_20 ad st) dX7_keepNow_1 ?_
  refine lv_iconst (v := (0 : Int32)) hx hb dX7_keepNow_4 (by decide) ?_
  refine lv_aload_n hx hb dX7_keepNow_5 rfl (lv_at hl 0 rfl) ?_
  refine va_get (D := D) (cl := vwCl) (ci := 6) (v := .int (st 0 1)) (C := RX7) (T := TX7) (N := 34) hx hb hts inX7 hown hK.1 hP 0 (mO h ad ct st) rfl 1 (by decide) hw2 (fun _ h => h) (mF_1 ad st) dX7_keepNow_6 ?_
  refine lv_topi (fun y9 ey9 => ?_)
  have hf := kLt hf ey9
  refine kIast (W1 := mW h ad ct (u2 st 21 0 y9)) hx hb hK hP hD hS 9 (mA_20 h ad ct st) (by first | assumption | exact vin (by omega) (by omega) | omega) (mB_20 h ad ct st _ _) dX7_keepNow_9 (fun H locs hP hD hS => ?_)
  refine lv_aload_n hx hb dX7_keepNow_10 rfl (lv_at hl 0 rfl) ?_
  refine va_get (D := D) (cl := vwCl) (ci := 6) (v := .ref (ad 20)) (C := RX7) (T := TX7) (N := 34) hx hb hts inX7 hown hK.1 hP 0 (mO h ad ct (u2 st 21 0 y9)) rfl 20 (by decide) hw1 (fun _ h => h) (mF_20 ad (u2 st 21 0 y9)) dX7_keepNow_11 ?_
  refine lv_iconst (v := (1 : Int32)) hx hb dX7_keepNow_14 (by decide) ?_
  refine lv_aload_n hx hb dX7_keepNow_15 rfl (lv_at hl 0 rfl) ?_
  refine va_get (D := D) (cl := vwCl) (ci := 6) (v := .int (st 0 2)) (C := RX7) (T := TX7) (N := 34) hx hb hts inX7 hown hK.1 hP 0 (mO h ad ct (u2 st 21 0 y9)) rfl 2 (by decide) hw3 (fun _ h => h) (mF_2 ad (u2 st 21 0 y9)) dX7_keepNow_16 ?_
  refine lv_topi (fun y19 ey19 => ?_)
  have hf := kLt hf ey19
  refine kIast (W1 := mW h ad ct (u2 (u2 st 21 0 y9) 21 1 y19)) hx hb hK hP hD hS 9 (mA_20 h ad ct (u2 st 21 0 y9)) (by first | assumption | exact vin (by omega) (by omega) | omega) (mB_20 h ad ct (u2 st 21 0 y9) _ _) dX7_keepNow_19 (fun H locs hP hD hS => ?_)
  refine lv_aload_n hx hb dX7_keepNow_20 rfl (lv_at hl 0 rfl) ?_
  refine va_get (D := D) (cl := vwCl) (ci := 6) (v := .ref (ad 20)) (C := RX7) (T := TX7) (N := 34) hx hb hts inX7 hown hK.1 hP 0 (mO h ad ct (u2 (u2 st 21 0 y9) 21 1 y19)) rfl 20 (by decide) hw1 (fun _ h => h) (mF_20 ad (u2 (u2 st 21 0 y9) 21 1 y19)) dX7_keepNow_21 ?_
  refine lv_iconst (v := (2 : Int32)) hx hb dX7_keepNow_24 (by decide) ?_
  refine lv_aload_n hx hb dX7_keepNow_25 rfl (lv_at hl 0 rfl) ?_
  refine va_get (D := D) (cl := vwCl) (ci := 6) (v := .int (st 0 4)) (C := RX7) (T := TX7) (N := 34) hx hb hts inX7 hown hK.1 hP 0 (mO h ad ct (u2 (u2 st 21 0 y9) 21 1 y19)) rfl 4 (by decide) hw4 (fun _ h => h) (mF_4 ad (u2 (u2 st 21 0 y9) 21 1 y19)) dX7_keepNow_26 ?_
  refine lv_topi (fun y29 ey29 => ?_)
  have hf := kLt hf ey29
  refine kIast (W1 := mW h ad ct (u2 (u2 (u2 st 21 0 y9) 21 1 y19) 21 2 y29)) hx hb hK hP hD hS 9 (mA_20 h ad ct (u2 (u2 st 21 0 y9) 21 1 y19)) (by first | assumption | exact vin (by omega) (by omega) | omega) (mB_20 h ad ct (u2 (u2 st 21 0 y9) 21 1 y19) _ _) dX7_keepNow_29 (fun H locs hP hD hS => ?_)
  refine lv_aload_n hx hb dX7_keepNow_30 rfl (lv_at hl 0 rfl) ?_
  refine va_get (D := D) (cl := vwCl) (ci := 6) (v := .ref (ad 20)) (C := RX7) (T := TX7) (N := 34) hx hb hts inX7 hown hK.1 hP 0 (mO h ad ct (u2 (u2 (u2 st 21 0 y9) 21 1 y19) 21 2 y29)) rfl 20 (by decide) hw1 (fun _ h => h) (mF_20 ad (u2 (u2 (u2 st 21 0 y9) 21 1 y19) 21 2 y29)) dX7_keepNow_31 ?_
  refine lv_iconst (v := (3 : Int32)) hx hb dX7_keepNow_34 (by decide) ?_
  refine lv_aload_n hx hb dX7_keepNow_35 rfl (lv_at hl 0 rfl) ?_
  refine va_get (D := D) (cl := vwCl) (ci := 6) (v := .int (st 0 5)) (C := RX7) (T := TX7) (N := 34) hx hb hts inX7 hown hK.1 hP 0 (mO h ad ct (u2 (u2 (u2 st 21 0 y9) 21 1 y19) 21 2 y29)) rfl 5 (by decide) hw5 (fun _ h => h) (mF_5 ad (u2 (u2 (u2 st 21 0 y9) 21 1 y19) 21 2 y29)) dX7_keepNow_36 ?_
  refine lv_topi (fun y39 ey39 => ?_)
  have hf := kLt hf ey39
  refine kIast (W1 := mW h ad ct (u2 (u2 (u2 (u2 st 21 0 y9) 21 1 y19) 21 2 y29) 21 3 y39)) hx hb hK hP hD hS 9 (mA_20 h ad ct (u2 (u2 (u2 st 21 0 y9) 21 1 y19) 21 2 y29)) (by first | assumption | exact vin (by omega) (by omega) | omega) (mB_20 h ad ct (u2 (u2 (u2 st 21 0 y9) 21 1 y19) 21 2 y29) _ _) dX7_keepNow_39 (fun H locs hP hD hS => ?_)
  refine lv_aload_n hx hb dX7_keepNow_40 rfl (lv_at hl 0 rfl) ?_
  refine va_get (D := D) (cl := vwCl) (ci := 6) (v := .ref (ad 20)) (C := RX7) (T := TX7) (N := 34) hx hb hts inX7 hown hK.1 hP 0 (mO h ad ct (u2 (u2 (u2 (u2 st 21 0 y9) 21 1 y19) 21 2 y29) 21 3 y39)) rfl 20 (by decide) hw1 (fun _ h => h) (mF_20 ad (u2 (u2 (u2 (u2 st 21 0 y9) 21 1 y19) 21 2 y29) 21 3 y39)) dX7_keepNow_41 ?_
  refine lv_iconst (v := (4 : Int32)) hx hb dX7_keepNow_44 (by decide) ?_
  refine lv_aload_n hx hb dX7_keepNow_45 rfl (lv_at hl 0 rfl) ?_
  refine va_get (D := D) (cl := vwCl) (ci := 6) (v := .int (st 0 6)) (C := RX7) (T := TX7) (N := 34) hx hb hts inX7 hown hK.1 hP 0 (mO h ad ct (u2 (u2 (u2 (u2 st 21 0 y9) 21 1 y19) 21 2 y29) 21 3 y39)) rfl 6 (by decide) hw6 (fun _ h => h) (mF_6 ad (u2 (u2 (u2 (u2 st 21 0 y9) 21 1 y19) 21 2 y29) 21 3 y39)) dX7_keepNow_46 ?_
  refine lv_topi (fun y49 ey49 => ?_)
  have hf := kLt hf ey49
  refine kIast (W1 := mW h ad ct (u2 (u2 (u2 (u2 (u2 st 21 0 y9) 21 1 y19) 21 2 y29) 21 3 y39) 21 4 y49)) hx hb hK hP hD hS 9 (mA_20 h ad ct (u2 (u2 (u2 (u2 st 21 0 y9) 21 1 y19) 21 2 y29) 21 3 y39)) (by first | assumption | exact vin (by omega) (by omega) | omega) (mB_20 h ad ct (u2 (u2 (u2 (u2 st 21 0 y9) 21 1 y19) 21 2 y29) 21 3 y39) _ _) dX7_keepNow_49 (fun H locs hP hD hS => ?_)
  refine lv_aload_n hx hb dX7_keepNow_50 rfl (lv_at hl 0 rfl) ?_
  refine va_get (D := D) (cl := vwCl) (ci := 6) (v := .ref (ad 20)) (C := RX7) (T := TX7) (N := 34) hx hb hts inX7 hown hK.1 hP 0 (mO h ad ct (u2 (u2 (u2 (u2 (u2 st 21 0 y9) 21 1 y19) 21 2 y29) 21 3 y39) 21 4 y49)) rfl 20 (by decide) hw1 (fun _ h => h) (mF_20 ad (u2 (u2 (u2 (u2 (u2 st 21 0 y9) 21 1 y19) 21 2 y29) 21 3 y39) 21 4 y49)) dX7_keepNow_51 ?_
  refine lv_iconst (v := (5 : Int32)) hx hb dX7_keepNow_54 (by decide) ?_
  refine lv_aload_n hx hb dX7_keepNow_55 rfl (lv_at hl 0 rfl) ?_
  refine va_get (D := D) (cl := vwCl) (ci := 6) (v := .int (st 0 7)) (C := RX7) (T := TX7) (N := 34) hx hb hts inX7 hown hK.1 hP 0 (mO h ad ct (u2 (u2 (u2 (u2 (u2 st 21 0 y9) 21 1 y19) 21 2 y29) 21 3 y39) 21 4 y49)) rfl 7 (by decide) hw7 (fun _ h => h) (mF_7 ad (u2 (u2 (u2 (u2 (u2 st 21 0 y9) 21 1 y19) 21 2 y29) 21 3 y39) 21 4 y49)) dX7_keepNow_56 ?_
  refine lv_topi (fun y59 ey59 => ?_)
  have hf := kLt hf ey59
  refine kIast (W1 := mW h ad ct (u2 (u2 (u2 (u2 (u2 (u2 st 21 0 y9) 21 1 y19) 21 2 y29) 21 3 y39) 21 4 y49) 21 5 y59)) hx hb hK hP hD hS 9 (mA_20 h ad ct (u2 (u2 (u2 (u2 (u2 st 21 0 y9) 21 1 y19) 21 2 y29) 21 3 y39) 21 4 y49)) (by first | assumption | exact vin (by omega) (by omega) | omega) (mB_20 h ad ct (u2 (u2 (u2 (u2 (u2 st 21 0 y9) 21 1 y19) 21 2 y29) 21 3 y39) 21 4 y49) _ _) dX7_keepNow_59 (fun H locs hP hD hS => ?_)
  exact kRetV hx hb hr hlk hP hD hS ((congrArg (fun q => mW h ad ct q) hf).symm) hQ dX7_keepNow_60
theorem kyX7_back : kY yX7_back cX7_back 2 (some .int) wsX7_back wsX7_back.tail 1 := ⟨rfl, by decide, by decide, by decide +kernel⟩
set_option maxHeartbeats 4000000 in
set_option maxRecDepth 100000 in
theorem k_X7_back (l : Launch) (D : va_G) (ct : ClassId × ClassId × ClassId) (z : Nat × Nat) (h : Nat) (ad : Nat → Nat) (x1 : Int32) (st : Nat → Nat → Int32)  : kC l D ct z yX7_back wsX7_back 0 0 [.ref h, .int x1] (mW h ad ct st) (some (.int ((f_X7_back x1 st).1))) (mW h ad ct ((f_X7_back x1 st).2)) := by
  refine kHead (cc := cX7_back) (maxL := 2) (ret := (some .int)) [(0, .ref h), (1, .int x1)] (by decide) rfl (Nat.le_of_ble_eq_true rfl) rfl ?_
  intro p e s m args below meth c A ls R Q hRf hRl hQ hx hb hr hlk hml hown hts hA hS hK hP hD hl
  have inX7 : ∀ w ∈ wsX70, w ∈ wsX7_back := fun w h => (List.mem_cons_of_mem _ (List.mem_append_right _ h))
  have hw1 := hts (Cond.fieldLink RX7 34 "MastPulpitsModel" "had" "[I") (List.mem_of_getElem? (i := 1) (by decide +kernel))
  have hw2 := hts (Cond.fieldLink RX7 59 "MastPulpitsModel" "place" "I") (List.mem_of_getElem? (i := 2) (by decide +kernel))
  have hw3 := hts (Cond.fieldLink RX7 63 "MastPulpitsModel" "hull" "I") (List.mem_of_getElem? (i := 3) (by decide +kernel))
  have hw4 := hts (Cond.fieldLink RX7 66 "MastPulpitsModel" "who" "I") (List.mem_of_getElem? (i := 4) (by decide +kernel))
  have hw5 := hts (Cond.fieldLink RX7 146 "MastPulpitsModel" "hours" "I") (List.mem_of_getElem? (i := 5) (by decide +kernel))
  have hw6 := hts (Cond.fieldLink RX7 104 "MastPulpitsModel" "mist" "I") (List.mem_of_getElem? (i := 6) (by decide +kernel))
  have hw7 := hts (Cond.fieldLink RX7 143 "MastPulpitsModel" "hour" "I") (List.mem_of_getElem? (i := 7) (by decide +kernel))
  have kc0 : (0 : Int32).toInt = 0 := by decide
  have kc1 : (1 : Int32).toInt = 1 := by decide
  have kc2 : (2 : Int32).toInt = 2 := by decide
  have kc3 : (3 : Int32).toInt = 3 := by decide
  have kc4 : (4 : Int32).toInt = 4 := by decide
  have kc5 : (5 : Int32).toInt = 5 := by decide
  have hf : f_X7_back x1 st = f_X7_back x1 st := rfl
  refine lv_aload_n hx hb dX7_back_0 rfl (lv_at hl 0 rfl) ?_
  refine lv_aload_n hx hb dX7_back_1 rfl (lv_at hl 0 rfl) ?_
  refine va_get (D := D) (cl := vwCl) (ci := 6) (v := .ref (ad 20)) (C := RX7) (T := TX7) (N := 34) hx hb hts inX7 hown hK.1 hP 0 (mO h ad ct st) rfl 20 (by decide) hw1 (fun _ h => h) (mF_20 ad st) dX7_back_2 ?_
  refine lv_iconst (v := (0 : Int32)) hx hb dX7_back_5 (by decide) ?_
  refine va_iald hx hb hK.1 hP 9 0 (mA_20 h ad ct st) rfl (by first | assumption | exact vin (by omega) (by omega) | omega) dX7_back_6 ?_
  refine lv_topi (fun y7 ey7 => ?_)
  have hf := kLt hf ey7
  refine kPut (ci := 6) (C := RX7) (T := TX7) (N := 34) (ty := .int) (v := .int y7) (W1 := mW h ad ct (u2 st 0 1 y7)) hx hb hts inX7 tyX7 tyX7_ok nmX7 hown hK hP hD hS 0 (mO h ad ct st) rfl 1 (by decide) hw2 (fun _ h => h) rfl (by decide +kernel) rfl rfl (mLn 1 ad st (by decide)) (mS_1 h ad ct st y7) dX7_back_7 (fun H locs hP hD hS => ?_)
  refine lv_aload_n hx hb dX7_back_10 rfl (lv_at hl 0 rfl) ?_
  refine lv_aload_n hx hb dX7_back_11 rfl (lv_at hl 0 rfl) ?_
  refine va_get (D := D) (cl := vwCl) (ci := 6) (v := .ref (ad 20)) (C := RX7) (T := TX7) (N := 34) hx hb hts inX7 hown hK.1 hP 0 (mO h ad ct (u2 st 0 1 y7)) rfl 20 (by decide) hw1 (fun _ h => h) (mF_20 ad (u2 st 0 1 y7)) dX7_back_12 ?_
  refine lv_iconst (v := (1 : Int32)) hx hb dX7_back_15 (by decide) ?_
  refine va_iald hx hb hK.1 hP 9 0 (mA_20 h ad ct (u2 st 0 1 y7)) rfl (by first | assumption | exact vin (by omega) (by omega) | omega) dX7_back_16 ?_
  refine lv_topi (fun y17 ey17 => ?_)
  have hf := kLt hf ey17
  refine kPut (ci := 6) (C := RX7) (T := TX7) (N := 34) (ty := .int) (v := .int y17) (W1 := mW h ad ct (u2 (u2 st 0 1 y7) 0 2 y17)) hx hb hts inX7 tyX7 tyX7_ok nmX7 hown hK hP hD hS 0 (mO h ad ct (u2 st 0 1 y7)) rfl 2 (by decide) hw3 (fun _ h => h) rfl (by decide +kernel) rfl rfl (mLn 2 ad (u2 st 0 1 y7) (by decide)) (mS_2 h ad ct (u2 st 0 1 y7) y17) dX7_back_17 (fun H locs hP hD hS => ?_)
  refine lv_aload_n hx hb dX7_back_20 rfl (lv_at hl 0 rfl) ?_
  refine lv_aload_n hx hb dX7_back_21 rfl (lv_at hl 0 rfl) ?_
  refine va_get (D := D) (cl := vwCl) (ci := 6) (v := .ref (ad 20)) (C := RX7) (T := TX7) (N := 34) hx hb hts inX7 hown hK.1 hP 0 (mO h ad ct (u2 (u2 st 0 1 y7) 0 2 y17)) rfl 20 (by decide) hw1 (fun _ h => h) (mF_20 ad (u2 (u2 st 0 1 y7) 0 2 y17)) dX7_back_22 ?_
  refine lv_iconst (v := (2 : Int32)) hx hb dX7_back_25 (by decide) ?_
  refine va_iald hx hb hK.1 hP 9 0 (mA_20 h ad ct (u2 (u2 st 0 1 y7) 0 2 y17)) rfl (by first | assumption | exact vin (by omega) (by omega) | omega) dX7_back_26 ?_
  refine lv_topi (fun y27 ey27 => ?_)
  have hf := kLt hf ey27
  refine kPut (ci := 6) (C := RX7) (T := TX7) (N := 34) (ty := .int) (v := .int y27) (W1 := mW h ad ct (u2 (u2 (u2 st 0 1 y7) 0 2 y17) 0 4 y27)) hx hb hts inX7 tyX7 tyX7_ok nmX7 hown hK hP hD hS 0 (mO h ad ct (u2 (u2 st 0 1 y7) 0 2 y17)) rfl 4 (by decide) hw4 (fun _ h => h) rfl (by decide +kernel) rfl rfl (mLn 4 ad (u2 (u2 st 0 1 y7) 0 2 y17) (by decide)) (mS_4 h ad ct (u2 (u2 st 0 1 y7) 0 2 y17) y27) dX7_back_27 (fun H locs hP hD hS => ?_)
  refine lv_aload_n hx hb dX7_back_30 rfl (lv_at hl 0 rfl) ?_
  refine lv_aload_n hx hb dX7_back_31 rfl (lv_at hl 0 rfl) ?_
  refine va_get (D := D) (cl := vwCl) (ci := 6) (v := .ref (ad 20)) (C := RX7) (T := TX7) (N := 34) hx hb hts inX7 hown hK.1 hP 0 (mO h ad ct (u2 (u2 (u2 st 0 1 y7) 0 2 y17) 0 4 y27)) rfl 20 (by decide) hw1 (fun _ h => h) (mF_20 ad (u2 (u2 (u2 st 0 1 y7) 0 2 y17) 0 4 y27)) dX7_back_32 ?_
  refine lv_iconst (v := (3 : Int32)) hx hb dX7_back_35 (by decide) ?_
  refine va_iald hx hb hK.1 hP 9 0 (mA_20 h ad ct (u2 (u2 (u2 st 0 1 y7) 0 2 y17) 0 4 y27)) rfl (by first | assumption | exact vin (by omega) (by omega) | omega) dX7_back_36 ?_
  refine lv_topi (fun y37 ey37 => ?_)
  have hf := kLt hf ey37
  refine kPut (ci := 6) (C := RX7) (T := TX7) (N := 34) (ty := .int) (v := .int y37) (W1 := mW h ad ct (u2 (u2 (u2 (u2 st 0 1 y7) 0 2 y17) 0 4 y27) 0 5 y37)) hx hb hts inX7 tyX7 tyX7_ok nmX7 hown hK hP hD hS 0 (mO h ad ct (u2 (u2 (u2 st 0 1 y7) 0 2 y17) 0 4 y27)) rfl 5 (by decide) hw5 (fun _ h => h) rfl (by decide +kernel) rfl rfl (mLn 5 ad (u2 (u2 (u2 st 0 1 y7) 0 2 y17) 0 4 y27) (by decide)) (mS_5 h ad ct (u2 (u2 (u2 st 0 1 y7) 0 2 y17) 0 4 y27) y37) dX7_back_37 (fun H locs hP hD hS => ?_)
  refine lv_aload_n hx hb dX7_back_40 rfl (lv_at hl 0 rfl) ?_
  refine lv_aload_n hx hb dX7_back_41 rfl (lv_at hl 0 rfl) ?_
  refine va_get (D := D) (cl := vwCl) (ci := 6) (v := .ref (ad 20)) (C := RX7) (T := TX7) (N := 34) hx hb hts inX7 hown hK.1 hP 0 (mO h ad ct (u2 (u2 (u2 (u2 st 0 1 y7) 0 2 y17) 0 4 y27) 0 5 y37)) rfl 20 (by decide) hw1 (fun _ h => h) (mF_20 ad (u2 (u2 (u2 (u2 st 0 1 y7) 0 2 y17) 0 4 y27) 0 5 y37)) dX7_back_42 ?_
  refine lv_iconst (v := (4 : Int32)) hx hb dX7_back_45 (by decide) ?_
  refine va_iald hx hb hK.1 hP 9 0 (mA_20 h ad ct (u2 (u2 (u2 (u2 st 0 1 y7) 0 2 y17) 0 4 y27) 0 5 y37)) rfl (by first | assumption | exact vin (by omega) (by omega) | omega) dX7_back_46 ?_
  refine lv_topi (fun y47 ey47 => ?_)
  have hf := kLt hf ey47
  refine kPut (ci := 6) (C := RX7) (T := TX7) (N := 34) (ty := .int) (v := .int y47) (W1 := mW h ad ct (u2 (u2 (u2 (u2 (u2 st 0 1 y7) 0 2 y17) 0 4 y27) 0 5 y37) 0 6 y47)) hx hb hts inX7 tyX7 tyX7_ok nmX7 hown hK hP hD hS 0 (mO h ad ct (u2 (u2 (u2 (u2 st 0 1 y7) 0 2 y17) 0 4 y27) 0 5 y37)) rfl 6 (by decide) hw6 (fun _ h => h) rfl (by decide +kernel) rfl rfl (mLn 6 ad (u2 (u2 (u2 (u2 st 0 1 y7) 0 2 y17) 0 4 y27) 0 5 y37) (by decide)) (mS_6 h ad ct (u2 (u2 (u2 (u2 st 0 1 y7) 0 2 y17) 0 4 y27) 0 5 y37) y47) dX7_back_47 (fun H locs hP hD hS => ?_)
  refine lv_aload_n hx hb dX7_back_50 rfl (lv_at hl 0 rfl) ?_
  refine lv_aload_n hx hb dX7_back_51 rfl (lv_at hl 0 rfl) ?_
  refine va_get (D := D) (cl := vwCl) (ci := 6) (v := .ref (ad 20)) (C := RX7) (T := TX7) (N := 34) hx hb hts inX7 hown hK.1 hP 0 (mO h ad ct (u2 (u2 (u2 (u2 (u2 st 0 1 y7) 0 2 y17) 0 4 y27) 0 5 y37) 0 6 y47)) rfl 20 (by decide) hw1 (fun _ h => h) (mF_20 ad (u2 (u2 (u2 (u2 (u2 st 0 1 y7) 0 2 y17) 0 4 y27) 0 5 y37) 0 6 y47)) dX7_back_52 ?_
  refine lv_iconst (v := (5 : Int32)) hx hb dX7_back_55 (by decide) ?_
  refine va_iald hx hb hK.1 hP 9 0 (mA_20 h ad ct (u2 (u2 (u2 (u2 (u2 st 0 1 y7) 0 2 y17) 0 4 y27) 0 5 y37) 0 6 y47)) rfl (by first | assumption | exact vin (by omega) (by omega) | omega) dX7_back_56 ?_
  refine lv_topi (fun y57 ey57 => ?_)
  have hf := kLt hf ey57
  refine kPut (ci := 6) (C := RX7) (T := TX7) (N := 34) (ty := .int) (v := .int y57) (W1 := mW h ad ct (u2 (u2 (u2 (u2 (u2 (u2 st 0 1 y7) 0 2 y17) 0 4 y27) 0 5 y37) 0 6 y47) 0 7 y57)) hx hb hts inX7 tyX7 tyX7_ok nmX7 hown hK hP hD hS 0 (mO h ad ct (u2 (u2 (u2 (u2 (u2 st 0 1 y7) 0 2 y17) 0 4 y27) 0 5 y37) 0 6 y47)) rfl 7 (by decide) hw7 (fun _ h => h) rfl (by decide +kernel) rfl rfl (mLn 7 ad (u2 (u2 (u2 (u2 (u2 st 0 1 y7) 0 2 y17) 0 4 y27) 0 5 y37) 0 6 y47) (by decide)) (mS_7 h ad ct (u2 (u2 (u2 (u2 (u2 st 0 1 y7) 0 2 y17) 0 4 y27) 0 5 y37) 0 6 y47) y57) dX7_back_57 (fun H locs hP hD hS => ?_)
  refine lv_iload_n hx hb dX7_back_60 rfl (lv_at hl 1 rfl) ?_
  exact kRetI hx hb hr hlk hP hD hS (kfst hf) ((congrArg (fun q => mW h ad ct q.2) hf).symm) hQ dX7_back_61
