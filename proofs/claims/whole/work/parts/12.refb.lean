/-! contracts, laid by program (wip/whole/gen.py, ann.py) -/
theorem kyX7_goVoyages : kY yX7_goVoyages cX7_goVoyages 3 none wsX7_goVoyages wsX7_goVoyages.tail 0 := ⟨rfl, by decide, by decide, by decide +kernel⟩
set_option maxHeartbeats 4000000 in
set_option maxRecDepth 100000 in
theorem k_X7_goVoyages (l : Launch) (D : va_G) (ct : ClassId × ClassId × ClassId) (z : Nat × Nat) (h : Nat) (ad : Nat → Nat) (st : Nat → Nat → Int32) (hacts : 0 ≤ Int32.toInt (st 0 16) ∧ Int32.toInt (st 0 16) ≤ 60) (hwho : Int32.toInt (st 0 4) < 6) (hcl : ∀ j : Nat, (j : Int) < Int32.toInt (st 0 16) → st 15 j = 0 → 0 ≤ Int32.toInt (st 16 j) ∧ Int32.toInt (st 16 j) < 6) : kC l D ct z yX7_goVoyages wsX7_goVoyages 6 129 [.ref h] (mW h ad ct st) (none) (mW h ad ct (f_X7_goVoyages st)) := by
  refine kHead (cc := cX7_goVoyages) (maxL := 3) (ret := none) [(0, .ref h)] (by decide) rfl (Nat.le_of_ble_eq_true rfl) rfl ?_
  intro p e s m args below meth c A ls R Q hRf hRl hQ hx hb hr hlk hml hown hts hA hS hK hP hD hl
  have inX7 : ∀ w ∈ wsX70, w ∈ wsX7_goVoyages := fun w h => (List.mem_cons_of_mem _ (List.mem_append_right _ h))
  have hw1 := hts (Cond.fieldLink RX7 183 "MastPulpitsModel" "badAct" "I") (List.mem_of_getElem? (i := 1) (by decide +kernel))
  have hw2 := hts (Cond.fieldLink RX7 186 "MastPulpitsModel" "badWhy" "I") (List.mem_of_getElem? (i := 2) (by decide +kernel))
  have hw3 := hts (Cond.fieldLink RX7 189 "MastPulpitsModel" "silentAct" "I") (List.mem_of_getElem? (i := 3) (by decide +kernel))
  have hw4 := hts (Cond.fieldLink RX7 158 "MastPulpitsModel" "strikes" "I") (List.mem_of_getElem? (i := 4) (by decide +kernel))
  have hw5 := hts (Cond.fieldLink RX7 161 "MastPulpitsModel" "calls" "I") (List.mem_of_getElem? (i := 5) (by decide +kernel))
  have hw6 := hts (Cond.fieldLink RX7 164 "MastPulpitsModel" "silences" "I") (List.mem_of_getElem? (i := 6) (by decide +kernel))
  have hw7 := hts (Cond.fieldLink RX7 114 "MastPulpitsModel" "acts" "I") (List.mem_of_getElem? (i := 7) (by decide +kernel))
  have hw8 := hts (Cond.fieldLink RX7 28 "MastPulpitsModel" "act" "[I") (List.mem_of_getElem? (i := 8) (by decide +kernel))
  have hw9 := hts (Cond.fieldLink RX7 31 "MastPulpitsModel" "much" "[I") (List.mem_of_getElem? (i := 9) (by decide +kernel))
  have kcm6 : (-6 : Int32).toInt = -6 := by decide
  have kc0 : (0 : Int32).toInt = 0 := by decide
  have kc1 : (1 : Int32).toInt = 1 := by decide
  have hf : f_X7_goVoyages st = f_X7_goVoyages st := rfl
  refine lv_aload_n hx hb dX7_goVoyages_0 rfl (lv_at hl 0 rfl) ?_
  refine lv_bipush (v := (-6 : Int32)) hx hb dX7_goVoyages_1 (by decide) ?_
  refine kPut (ci := 6) (C := RX7) (T := TX7) (N := 34) (ty := .int) (v := .int (-6 : Int32)) (W1 := mW h ad ct (u2 st 0 21 (-6 : Int32))) hx hb hts inX7 tyX7 tyX7_ok nmX7 hown hK hP hD hS 0 (mO h ad ct st) rfl 21 (by decide) hw1 (fun _ h => h) rfl (by decide +kernel) rfl rfl (mLn 21 ad st (by decide)) (mS_21 h ad ct st (-6 : Int32)) dX7_goVoyages_3 (fun H locs hP hD hS => ?_)
  refine lv_aload_n hx hb dX7_goVoyages_6 rfl (lv_at hl 0 rfl) ?_
  refine lv_bipush (v := (-6 : Int32)) hx hb dX7_goVoyages_7 (by decide) ?_
  refine kPut (ci := 6) (C := RX7) (T := TX7) (N := 34) (ty := .int) (v := .int (-6 : Int32)) (W1 := mW h ad ct (u2 (u2 st 0 21 (-6 : Int32)) 0 22 (-6 : Int32))) hx hb hts inX7 tyX7 tyX7_ok nmX7 hown hK hP hD hS 0 (mO h ad ct (u2 st 0 21 (-6 : Int32))) rfl 22 (by decide) hw2 (fun _ h => h) rfl (by decide +kernel) rfl rfl (mLn 22 ad (u2 st 0 21 (-6 : Int32)) (by decide)) (mS_22 h ad ct (u2 st 0 21 (-6 : Int32)) (-6 : Int32)) dX7_goVoyages_9 (fun H locs hP hD hS => ?_)
  refine lv_aload_n hx hb dX7_goVoyages_12 rfl (lv_at hl 0 rfl) ?_
  refine lv_bipush (v := (-6 : Int32)) hx hb dX7_goVoyages_13 (by decide) ?_
  refine kPut (ci := 6) (C := RX7) (T := TX7) (N := 34) (ty := .int) (v := .int (-6 : Int32)) (W1 := mW h ad ct (u2 (u2 (u2 st 0 21 (-6 : Int32)) 0 22 (-6 : Int32)) 0 23 (-6 : Int32))) hx hb hts inX7 tyX7 tyX7_ok nmX7 hown hK hP hD hS 0 (mO h ad ct (u2 (u2 st 0 21 (-6 : Int32)) 0 22 (-6 : Int32))) rfl 23 (by decide) hw3 (fun _ h => h) rfl (by decide +kernel) rfl rfl (mLn 23 ad (u2 (u2 st 0 21 (-6 : Int32)) 0 22 (-6 : Int32)) (by decide)) (mS_23 h ad ct (u2 (u2 st 0 21 (-6 : Int32)) 0 22 (-6 : Int32)) (-6 : Int32)) dX7_goVoyages_15 (fun H locs hP hD hS => ?_)
  refine lv_aload_n hx hb dX7_goVoyages_18 rfl (lv_at hl 0 rfl) ?_
  refine lv_iconst (v := (0 : Int32)) hx hb dX7_goVoyages_19 (by decide) ?_
  refine kPut (ci := 6) (C := RX7) (T := TX7) (N := 34) (ty := .int) (v := .int (0 : Int32)) (W1 := mW h ad ct (u2 (u2 (u2 (u2 st 0 21 (-6 : Int32)) 0 22 (-6 : Int32)) 0 23 (-6 : Int32)) 0 17 (0 : Int32))) hx hb hts inX7 tyX7 tyX7_ok nmX7 hown hK hP hD hS 0 (mO h ad ct (u2 (u2 (u2 st 0 21 (-6 : Int32)) 0 22 (-6 : Int32)) 0 23 (-6 : Int32))) rfl 17 (by decide) hw4 (fun _ h => h) rfl (by decide +kernel) rfl rfl (mLn 17 ad (u2 (u2 (u2 st 0 21 (-6 : Int32)) 0 22 (-6 : Int32)) 0 23 (-6 : Int32)) (by decide)) (mS_17 h ad ct (u2 (u2 (u2 st 0 21 (-6 : Int32)) 0 22 (-6 : Int32)) 0 23 (-6 : Int32)) (0 : Int32)) dX7_goVoyages_20 (fun H locs hP hD hS => ?_)
  refine lv_aload_n hx hb dX7_goVoyages_23 rfl (lv_at hl 0 rfl) ?_
  refine lv_iconst (v := (0 : Int32)) hx hb dX7_goVoyages_24 (by decide) ?_
  refine kPut (ci := 6) (C := RX7) (T := TX7) (N := 34) (ty := .int) (v := .int (0 : Int32)) (W1 := mW h ad ct (u2 (u2 (u2 (u2 (u2 st 0 21 (-6 : Int32)) 0 22 (-6 : Int32)) 0 23 (-6 : Int32)) 0 17 (0 : Int32)) 0 18 (0 : Int32))) hx hb hts inX7 tyX7 tyX7_ok nmX7 hown hK hP hD hS 0 (mO h ad ct (u2 (u2 (u2 (u2 st 0 21 (-6 : Int32)) 0 22 (-6 : Int32)) 0 23 (-6 : Int32)) 0 17 (0 : Int32))) rfl 18 (by decide) hw5 (fun _ h => h) rfl (by decide +kernel) rfl rfl (mLn 18 ad (u2 (u2 (u2 (u2 st 0 21 (-6 : Int32)) 0 22 (-6 : Int32)) 0 23 (-6 : Int32)) 0 17 (0 : Int32)) (by decide)) (mS_18 h ad ct (u2 (u2 (u2 (u2 st 0 21 (-6 : Int32)) 0 22 (-6 : Int32)) 0 23 (-6 : Int32)) 0 17 (0 : Int32)) (0 : Int32)) dX7_goVoyages_25 (fun H locs hP hD hS => ?_)
  refine lv_aload_n hx hb dX7_goVoyages_28 rfl (lv_at hl 0 rfl) ?_
  refine lv_iconst (v := (0 : Int32)) hx hb dX7_goVoyages_29 (by decide) ?_
  refine kPut (ci := 6) (C := RX7) (T := TX7) (N := 34) (ty := .int) (v := .int (0 : Int32)) (W1 := mW h ad ct (u2 (u2 (u2 (u2 (u2 (u2 st 0 21 (-6 : Int32)) 0 22 (-6 : Int32)) 0 23 (-6 : Int32)) 0 17 (0 : Int32)) 0 18 (0 : Int32)) 0 19 (0 : Int32))) hx hb hts inX7 tyX7 tyX7_ok nmX7 hown hK hP hD hS 0 (mO h ad ct (u2 (u2 (u2 (u2 (u2 st 0 21 (-6 : Int32)) 0 22 (-6 : Int32)) 0 23 (-6 : Int32)) 0 17 (0 : Int32)) 0 18 (0 : Int32))) rfl 19 (by decide) hw6 (fun _ h => h) rfl (by decide +kernel) rfl rfl (mLn 19 ad (u2 (u2 (u2 (u2 (u2 st 0 21 (-6 : Int32)) 0 22 (-6 : Int32)) 0 23 (-6 : Int32)) 0 17 (0 : Int32)) 0 18 (0 : Int32)) (by decide)) (mS_19 h ad ct (u2 (u2 (u2 (u2 (u2 st 0 21 (-6 : Int32)) 0 22 (-6 : Int32)) 0 23 (-6 : Int32)) 0 17 (0 : Int32)) 0 18 (0 : Int32)) (0 : Int32)) dX7_goVoyages_30 (fun H locs hP hD hS => ?_)
  refine lv_iconst (v := (0 : Int32)) hx hb dX7_goVoyages_33 (by decide) ?_
  refine lv_istore_n (lv' := [(1, .int (0 : Int32)), (0, .ref h)]) hx hb dX7_goVoyages_34 rfl hl (by decide) rfl (fun ls hl => ?_)
  have lp35 : ∀ (K : (Nat → Nat → Int32) → (Nat → Nat → Int32)), (∀ (z35_st : Nat → Nat → Int32), ∀ (H : Heap) (locs : List Loc) (ls : Array Slot), (Int32.toInt (z35_st 0 16) = Int32.toInt (st 0 16)) → (Int32.toInt (z35_st 0 4) < 6) → (z35_st 15 = st 15 ∧ z35_st 16 = st 16) → va_P D vwCl (mW h ad ct z35_st) H → va_D A (mW h ad ct z35_st) → va_S A s.heap H locs → lv_has ls 3 [] → f_X7_goVoyages st = K z35_st → W p l e R s m args below meth c H locs 0 0 Q (F0 m 147 ls [])) → ∀ (n : Nat) (z35_1 : Int32) (z35_st : Nat → Nat → Int32), ∀ (H : Heap) (locs : List Loc) (ls : Array Slot), (Int32.toInt (st 0 16) ≤ Int32.toInt z35_1 + (n : Int)) → (0 ≤ Int32.toInt z35_1) → (Int32.toInt (z35_st 0 16) = Int32.toInt (st 0 16)) → (Int32.toInt (z35_st 0 4) < 6) → (z35_st 15 = st 15 ∧ z35_st 16 = st 16) → va_P D vwCl (mW h ad ct z35_st) H → va_D A (mW h ad ct z35_st) → va_S A s.heap H locs → lv_has ls 3 [(1, .int z35_1), (0, .ref h)] → f_X7_goVoyages st = f_X7_goVoyages_L35  K n z35_1 z35_st → W p l e R s m args below meth c H locs 0 0 Q (F0 m 35 ls []) := by
    intro K hk n
    induction n with
    | zero =>
      intro z35_1 z35_st  H locs ls hn35 hz35 ha35 hw35 hq35 hP hD hS hl hf
      refine lv_iload_n hx hb dX7_goVoyages_35 rfl (lv_at hl 0 rfl) ?_
      refine lv_aload_n hx hb dX7_goVoyages_36 rfl (lv_at hl 1 rfl) ?_
      refine va_get (D := D) (cl := vwCl) (ci := 6) (v := .int (z35_st 0 16)) (C := RX7) (T := TX7) (N := 34) hx hb hts inX7 hown hK.1 hP 0 (mO h ad ct z35_st) rfl 16 (by decide) hw7 (fun _ h => h) (mF_16 ad z35_st) dX7_goVoyages_37 ?_
      refine lv_icmp_ge (tgt := 147) hx hb dX7_goVoyages_40 (by decide) (fun c_8 => ?_) (fun c_8 => ?_)
      · have t_8 := ti_le c_8
        exact hk _ _ _ _ (by first | assumption | exact vin (by omega) (by omega) | omega) (by first | assumption | exact vin (by omega) (by omega) | omega) (by first | assumption | exact vin (by omega) (by omega) | omega) hP hD hS (lv_sub hl [] rfl) hf
      · have t_8 := ti_nle c_8
        exfalso
        omega
    | succ n ih =>
      intro z35_1 z35_st  H locs ls hn35 hz35 ha35 hw35 hq35 hP hD hS hl hf
      refine lv_iload_n hx hb dX7_goVoyages_35 rfl (lv_at hl 0 rfl) ?_
      refine lv_aload_n hx hb dX7_goVoyages_36 rfl (lv_at hl 1 rfl) ?_
      refine va_get (D := D) (cl := vwCl) (ci := 6) (v := .int (z35_st 0 16)) (C := RX7) (T := TX7) (N := 34) hx hb hts inX7 hown hK.1 hP 0 (mO h ad ct z35_st) rfl 16 (by decide) hw7 (fun _ h => h) (mF_16 ad z35_st) dX7_goVoyages_37 ?_
      refine lv_icmp_ge (tgt := 147) hx hb dX7_goVoyages_40 (by decide) (fun c_1 => ?_) (fun c_1 => ?_)
      · have hf := kIt hf c_1
        have t_1 := ti_le c_1
        exact hk _ _ _ _ (by first | assumption | exact vin (by omega) (by omega) | omega) (by first | assumption | exact vin (by omega) (by omega) | omega) (by first | assumption | exact vin (by omega) (by omega) | omega) hP hD hS (lv_sub hl [] rfl) hf
      · have hf := kIf hf c_1
        have t_1 := ti_nle c_1
        refine lv_aload_n hx hb dX7_goVoyages_43 rfl (lv_at hl 1 rfl) ?_
        refine va_get (D := D) (cl := vwCl) (ci := 6) (v := .int (z35_st 0 21)) (C := RX7) (T := TX7) (N := 34) hx hb hts inX7 hown hK.1 hP 0 (mO h ad ct z35_st) rfl 21 (by decide) hw1 (fun _ h => h) (mF_21 ad z35_st) dX7_goVoyages_44 ?_
        refine lv_if_ge (tgt := 147) hx hb dX7_goVoyages_47 (by decide) (fun c_2 => ?_) (fun c_2 => ?_)
        · have hf := kIt hf c_2
          have t_2 := ti_le c_2
          exact hk _ _ _ _ (by first | assumption | exact vin (by omega) (by omega) | omega) (by first | assumption | exact vin (by omega) (by omega) | omega) (by first | assumption | exact vin (by omega) (by omega) | omega) hP hD hS (lv_sub hl [] rfl) hf
        · have hf := kIf hf c_2
          have t_2 := ti_nle c_2
          refine lv_aload_n hx hb dX7_goVoyages_50 rfl (lv_at hl 1 rfl) ?_
          refine lv_aload_n hx hb dX7_goVoyages_51 rfl (lv_at hl 1 rfl) ?_
          refine va_get (D := D) (cl := vwCl) (ci := 6) (v := .ref (ad 14)) (C := RX7) (T := TX7) (N := 34) hx hb hts inX7 hown hK.1 hP 0 (mO h ad ct z35_st) rfl 14 (by decide) hw8 (fun _ h => h) (mF_14 ad z35_st) dX7_goVoyages_52 ?_
          refine lv_iload_n hx hb dX7_goVoyages_55 rfl (lv_at hl 0 rfl) ?_
          refine va_iald hx hb hK.1 hP 7 0 (mA_14 h ad ct z35_st) rfl (by first | assumption | exact vin (by omega) (by omega) | omega) dX7_goVoyages_56 ?_
          refine lv_aload_n hx hb dX7_goVoyages_57 rfl (lv_at hl 1 rfl) ?_
          refine va_get (D := D) (cl := vwCl) (ci := 6) (v := .ref (ad 15)) (C := RX7) (T := TX7) (N := 34) hx hb hts inX7 hown hK.1 hP 0 (mO h ad ct z35_st) rfl 15 (by decide) hw9 (fun _ h => h) (mF_15 ad z35_st) dX7_goVoyages_58 ?_
          refine lv_iload_n hx hb dX7_goVoyages_61 rfl (lv_at hl 0 rfl) ?_
          refine va_iald hx hb hK.1 hP 8 0 (mA_15 h ad ct z35_st) rfl (by first | assumption | exact vin (by omega) (by omega) | omega) dX7_goVoyages_62 ?_
          have hM : kC l D ct z yX7_whyNot wsX7_whyNot 4 91 [.ref h, .int (z35_st 15 (Int32.toNatClampNeg z35_1)), .int (z35_st 16 (Int32.toNatClampNeg z35_1))] (mW h ad ct z35_st) (some (.int (f_X7_whyNot (z35_st 15 (Int32.toNatClampNeg z35_1)) (z35_st 16 (Int32.toNatClampNeg z35_1)) z35_st))) (mW h ad ct z35_st) := k_X7_whyNot l D ct z h ad (z35_st 15 (Int32.toNatClampNeg z35_1)) (z35_st 16 (Int32.toNatClampNeg z35_1)) z35_st
          refine kV1 (As := [.int (z35_st 15 (Int32.toNatClampNeg z35_1)), .int (z35_st 16 (Int32.toNatClampNeg z35_1))]) (rest := []) ⟨hx, hb, hml, hown, hts⟩ hM gX7_goVoyages_X7_whyNot kyX7_whyNot (by rw [hRf, hRl]; exact ⟨Nat.le_of_ble_eq_true rfl, Nat.le_of_ble_eq_true rfl⟩) hK hP hD hS hA 0 (mO h ad ct z35_st) rfl rfl rfl hl.1 rfl (st1 := [.int (f_X7_whyNot (z35_st 15 (Int32.toNatClampNeg z35_1)) (z35_st 16 (Int32.toNatClampNeg z35_1)) z35_st)]) rfl rfl ⟨Nat.zero_le _, Nat.zero_le _⟩ dX7_goVoyages_63 (fun H locs hP hD hS => ?_)
          refine lv_topi (fun y66 ey66 => ?_)
          have hf := kLt hf ey66
          refine lv_istore_n (lv' := [(2, .int y66), (1, .int z35_1), (0, .ref h)]) hx hb dX7_goVoyages_66 rfl hl (by decide) rfl (fun ls hl => ?_)
          refine lv_aload_n hx hb dX7_goVoyages_67 rfl (lv_at hl 2 rfl) ?_
          refine lv_iload_n hx hb dX7_goVoyages_68 rfl (lv_at hl 0 rfl) ?_
          refine kJn hf (fun j0 => ∀ (z78_s0 : Int32), f_X7_goVoyages st = j0 z78_s0 → ∀ (H : Heap) (locs : List Loc) (ls : Array Slot), va_P D vwCl (mW h ad ct z35_st) H → va_D A (mW h ad ct z35_st) → va_S A s.heap H locs → lv_has ls 3 [(2, .int y66), (1, .int z35_1), (0, .ref h)] → W p l e R s m args below meth c H locs 0 0 Q (F0 m 78 ls [.int z78_s0, .ref h])) ?_ ?_
          · intro j0 hj0 z78_s0  hf H locs ls hP hD hS hl
            subst hj0
            refine kPut (ci := 6) (C := RX7) (T := TX7) (N := 34) (ty := .int) (v := .int z78_s0) (W1 := mW h ad ct (u2 z35_st 0 21 z78_s0)) hx hb hts inX7 tyX7 tyX7_ok nmX7 hown hK hP hD hS 0 (mO h ad ct z35_st) rfl 21 (by decide) hw1 (fun _ h => h) rfl (by decide +kernel) rfl rfl (mLn 21 ad z35_st (by decide)) (mS_21 h ad ct z35_st z78_s0) dX7_goVoyages_78 (fun H locs hP hD hS => ?_)
            refine lv_aload_n hx hb dX7_goVoyages_81 rfl (lv_at hl 2 rfl) ?_
            refine lv_iload_n hx hb dX7_goVoyages_82 rfl (lv_at hl 0 rfl) ?_
            refine kJn hf (fun j0 => ∀ (z92_s0 : Int32), f_X7_goVoyages st = j0 z92_s0 → ∀ (H : Heap) (locs : List Loc) (ls : Array Slot), va_P D vwCl (mW h ad ct (u2 z35_st 0 21 z78_s0)) H → va_D A (mW h ad ct (u2 z35_st 0 21 z78_s0)) → va_S A s.heap H locs → lv_has ls 3 [(2, .int y66), (1, .int z35_1), (0, .ref h)] → W p l e R s m args below meth c H locs 0 0 Q (F0 m 92 ls [.int z92_s0, .ref h])) ?_ ?_
            · intro j0 hj0 z92_s0  hf H locs ls hP hD hS hl
              subst hj0
              refine kPut (ci := 6) (C := RX7) (T := TX7) (N := 34) (ty := .int) (v := .int z92_s0) (W1 := mW h ad ct (u2 (u2 z35_st 0 21 z78_s0) 0 22 z92_s0)) hx hb hts inX7 tyX7 tyX7_ok nmX7 hown hK hP hD hS 0 (mO h ad ct (u2 z35_st 0 21 z78_s0)) rfl 22 (by decide) hw2 (fun _ h => h) rfl (by decide +kernel) rfl rfl (mLn 22 ad (u2 z35_st 0 21 z78_s0) (by decide)) (mS_22 h ad ct (u2 z35_st 0 21 z78_s0) z92_s0) dX7_goVoyages_92 (fun H locs hP hD hS => ?_)
              refine lv_iload_n hx hb dX7_goVoyages_95 rfl (lv_at hl 0 rfl) ?_
              refine kJn hf (fun j0 => ∀ (z115_st : Nat → Nat → Int32), (Int32.toInt (z115_st 0 16) = Int32.toInt (st 0 16)) → (Int32.toInt (z115_st 0 4) < 6) → (z115_st 15 = st 15 ∧ z115_st 16 = st 16) → f_X7_goVoyages st = j0 z115_st → ∀ (H : Heap) (locs : List Loc) (ls : Array Slot), va_P D vwCl (mW h ad ct z115_st) H → va_D A (mW h ad ct z115_st) → va_S A s.heap H locs → lv_has ls 3 [(1, .int z35_1), (0, .ref h)] → W p l e R s m args below meth c H locs 0 0 Q (F0 m 115 ls [])) ?_ ?_
              · intro j0 hj0 z115_st ha115 hw115 hq115 hf H locs ls hP hD hS hl
                subst hj0
                refine lv_aload_n hx hb dX7_goVoyages_115 rfl (lv_at hl 1 rfl) ?_
                refine lv_aload_n hx hb dX7_goVoyages_116 rfl (lv_at hl 1 rfl) ?_
                refine va_get (D := D) (cl := vwCl) (ci := 6) (v := .int (z115_st 0 19)) (C := RX7) (T := TX7) (N := 34) hx hb hts inX7 hown hK.1 hP 0 (mO h ad ct z115_st) rfl 19 (by decide) hw6 (fun _ h => h) (mF_19 ad z115_st) dX7_goVoyages_117 ?_
                refine kJn hf (fun j0 => ∀ (z138_s0 : Int32), f_X7_goVoyages st = j0 z138_s0 → ∀ (H : Heap) (locs : List Loc) (ls : Array Slot), va_P D vwCl (mW h ad ct z115_st) H → va_D A (mW h ad ct z115_st) → va_S A s.heap H locs → lv_has ls 3 [(1, .int z35_1), (0, .ref h)] → W p l e R s m args below meth c H locs 0 0 Q (F0 m 138 ls [.int z138_s0, .ref h])) ?_ ?_
                · intro j0 hj0 z138_s0  hf H locs ls hP hD hS hl
                  subst hj0
                  refine kPut (ci := 6) (C := RX7) (T := TX7) (N := 34) (ty := .int) (v := .int z138_s0) (W1 := mW h ad ct (u2 z115_st 0 23 z138_s0)) hx hb hts inX7 tyX7 tyX7_ok nmX7 hown hK hP hD hS 0 (mO h ad ct z115_st) rfl 23 (by decide) hw3 (fun _ h => h) rfl (by decide +kernel) rfl rfl (mLn 23 ad z115_st (by decide)) (mS_23 h ad ct z115_st z138_s0) dX7_goVoyages_138 (fun H locs hP hD hS => ?_)
                  obtain ⟨y141, ey141⟩ : ∃ y : Int32, y = z35_1 + (1 : Int32) := ⟨_, rfl⟩
                  have hf := kLt hf ey141
                  have a141 : Int32.toInt y141 = Int32.toInt z35_1 + 1 := by have := ti_rng z35_1; rw [ey141]; exact ti_add (by rw [kc1]) (by omega) (by omega)
                  refine lv_iinc (v := y141) (lv' := [(1, .int y141), (0, .ref h)]) hx hb dX7_goVoyages_141 hl (k := 0) rfl (by rw [ey141]; rfl) (by decide) rfl (fun ls hl => ?_)
                  refine lv_goto (tgt := 35) hx hb dX7_goVoyages_144 (by decide) ?_
                  exact ih y141 (u2 z115_st 0 23 z138_s0) _ _ _ (by first | assumption | exact vin (by omega) (by omega) | omega) (by first | assumption | exact vin (by omega) (by omega) | omega) ha115 hw115 hq115 hP hD hS (lv_sub hl [0, 1] rfl) hf
                · intro j138 hJ138 hf
                  refine kJn hf (fun j0 => ∀ (u0 : Unit), f_X7_goVoyages st = j0 () → ∀ (H : Heap) (locs : List Loc) (ls : Array Slot), va_P D vwCl (mW h ad ct z115_st) H → va_D A (mW h ad ct z115_st) → va_S A s.heap H locs → lv_has ls 3 [(1, .int z35_1), (0, .ref h)] → W p l e R s m args below meth c H locs 0 0 Q (F0 m 134 ls [.ref h])) ?_ ?_
                  · intro j0 hj0 u0  hf H locs ls hP hD hS hl
                    subst hj0
                    refine lv_aload_n hx hb dX7_goVoyages_134 rfl (lv_at hl 1 rfl) ?_
                    refine va_get (D := D) (cl := vwCl) (ci := 6) (v := .int (z115_st 0 23)) (C := RX7) (T := TX7) (N := 34) hx hb hts inX7 hown hK.1 hP 0 (mO h ad ct z115_st) rfl 23 (by decide) hw3 (fun _ h => h) (mF_23 ad z115_st) dX7_goVoyages_135 ?_
                    exact hJ138 _  hf _ _ _ hP hD hS (lv_sub hl [0, 1] rfl)
                  · intro j134 hJ134 hf
                    refine lv_if_le (tgt := 134) hx hb dX7_goVoyages_120 (by decide) (fun c_6 => ?_) (fun c_6 => ?_)
                    · have hf := kIt hf c_6
                      have t_6 := ti_le c_6
                      exact hJ134 ()  hf _ _ _ hP hD hS (lv_sub hl [0, 1] rfl)
                    · have hf := kIf hf c_6
                      have t_6 := ti_nle c_6
                      refine lv_aload_n hx hb dX7_goVoyages_123 rfl (lv_at hl 1 rfl) ?_
                      refine va_get (D := D) (cl := vwCl) (ci := 6) (v := .int (z115_st 0 23)) (C := RX7) (T := TX7) (N := 34) hx hb hts inX7 hown hK.1 hP 0 (mO h ad ct z115_st) rfl 23 (by decide) hw3 (fun _ h => h) (mF_23 ad z115_st) dX7_goVoyages_124 ?_
                      refine lv_if_ge (tgt := 134) hx hb dX7_goVoyages_127 (by decide) (fun c_7 => ?_) (fun c_7 => ?_)
                      · have hf := kIt hf c_7
                        have t_7 := ti_le c_7
                        exact hJ134 ()  hf _ _ _ hP hD hS (lv_sub hl [0, 1] rfl)
                      · have hf := kIf hf c_7
                        have t_7 := ti_nle c_7
                        refine lv_iload_n hx hb dX7_goVoyages_130 rfl (lv_at hl 0 rfl) ?_
                        refine lv_goto (tgt := 138) hx hb dX7_goVoyages_131 (by decide) ?_
                        exact hJ138 _  hf _ _ _ hP hD hS (lv_sub hl [0, 1] rfl)
              · intro j115 hJ115 hf
                refine lv_if_ne (tgt := 115) hx hb dX7_goVoyages_96 (by decide) (fun c_5 => ?_) (fun c_5 => ?_)
                · have hf := kIf hf c_5
                  have t_5 := ti_ne c_5
                  exact hJ115 _ (by first | exact g112a | exact ha35) (by first | exact g112b | exact hw35) (by first | exact g112c | exact hq35) hf _ _ _ hP hD hS (lv_sub hl [1, 2] rfl)
                · have hf := kIt hf c_5
                  have t_5 := ti_eq c_5
                  refine lv_aload_n hx hb dX7_goVoyages_99 rfl (lv_at hl 2 rfl) ?_
                  refine lv_aload_n hx hb dX7_goVoyages_100 rfl (lv_at hl 2 rfl) ?_
                  refine va_get (D := D) (cl := vwCl) (ci := 6) (v := .ref (ad 14)) (C := RX7) (T := TX7) (N := 34) hx hb hts inX7 hown hK.1 hP 0 (mO h ad ct (u2 (u2 z35_st 0 21 z78_s0) 0 22 z92_s0)) rfl 14 (by decide) hw8 (fun _ h => h) (mF_14 ad (u2 (u2 z35_st 0 21 z78_s0) 0 22 z92_s0)) dX7_goVoyages_101 ?_
                  refine lv_iload_n hx hb dX7_goVoyages_104 rfl (lv_at hl 1 rfl) ?_
                  refine va_iald hx hb hK.1 hP 7 0 (mA_14 h ad ct (u2 (u2 z35_st 0 21 z78_s0) 0 22 z92_s0)) rfl (by first | assumption | exact vin (by omega) (by omega) | omega) dX7_goVoyages_105 ?_
                  refine lv_aload_n hx hb dX7_goVoyages_106 rfl (lv_at hl 2 rfl) ?_
                  refine va_get (D := D) (cl := vwCl) (ci := 6) (v := .ref (ad 15)) (C := RX7) (T := TX7) (N := 34) hx hb hts inX7 hown hK.1 hP 0 (mO h ad ct (u2 (u2 z35_st 0 21 z78_s0) 0 22 z92_s0)) rfl 15 (by decide) hw9 (fun _ h => h) (mF_15 ad (u2 (u2 z35_st 0 21 z78_s0) 0 22 z92_s0)) dX7_goVoyages_107 ?_
                  refine lv_iload_n hx hb dX7_goVoyages_110 rfl (lv_at hl 1 rfl) ?_
                  refine va_iald hx hb hK.1 hP 8 0 (mA_15 h ad ct (u2 (u2 z35_st 0 21 z78_s0) 0 22 z92_s0)) rfl (by first | assumption | exact vin (by omega) (by omega) | omega) dX7_goVoyages_111 ?_
                  obtain ⟨q112, eq112⟩ : ∃ y, y = f_X7_happen (z35_st 15 (Int32.toNatClampNeg z35_1)) (z35_st 16 (Int32.toNatClampNeg z35_1)) (u2 (u2 z35_st 0 21 z78_s0) 0 22 z92_s0) := ⟨_, rfl⟩
                  have hf := kLt hf eq112
                  have g112 := happen_fr (z35_st 15 (Int32.toNatClampNeg z35_1)) (z35_st 16 (Int32.toNatClampNeg z35_1)) (u2 (u2 z35_st 0 21 z78_s0) 0 22 z92_s0)
                  rw [← eq112] at g112
                  have g112a : Int32.toInt (q112 0 16) = Int32.toInt (st 0 16) := by rw [g112.2.1]; exact ha35
                  have g112b : Int32.toInt (q112 0 4) < 6 := by
                    rcases g112.2.2.2 with q | ⟨q0, q⟩ | q
                    · rw [q]; exact hw35
                    · rw [q, hq35.2]; rw [hq35.1] at q0; exact (hcl _ (by rw [clampI (by omega)]; omega) q0).2
                    · rw [q]; decide
                  have g112c : q112 15 = st 15 ∧ q112 16 = st 16 := ⟨(g112.1 15 (by decide)).trans hq35.1, (g112.1 16 (by decide)).trans hq35.2⟩
                  have hM : kC l D ct z yX7_happen wsX7_happen 5 107 [.ref h, .int (z35_st 15 (Int32.toNatClampNeg z35_1)), .int (z35_st 16 (Int32.toNatClampNeg z35_1))] (mW h ad ct (u2 (u2 z35_st 0 21 z78_s0) 0 22 z92_s0)) (none) (mW h ad ct q112) := by rw [eq112]; exact k_X7_happen l D ct z h ad (z35_st 15 (Int32.toNatClampNeg z35_1)) (z35_st 16 (Int32.toNatClampNeg z35_1)) (u2 (u2 z35_st 0 21 z78_s0) 0 22 z92_s0) (why_sail (a := z35_st 15 (Int32.toNatClampNeg z35_1)) (v := z35_st 16 (Int32.toNatClampNeg z35_1)) (st := z35_st) (by rw [← ey66]; assumption)) (fun q => vin (why_call (a := z35_st 15 (Int32.toNatClampNeg z35_1)) (v := z35_st 16 (Int32.toNatClampNeg z35_1)) (st := z35_st) (by rw [← ey66]; assumption) q) hw35)
                  refine kV1 (As := [.int (z35_st 15 (Int32.toNatClampNeg z35_1)), .int (z35_st 16 (Int32.toNatClampNeg z35_1))]) (rest := []) ⟨hx, hb, hml, hown, hts⟩ hM gX7_goVoyages_X7_happen kyX7_happen (by rw [hRf, hRl]; exact ⟨Nat.le_of_ble_eq_true rfl, Nat.le_of_ble_eq_true rfl⟩) hK hP hD hS hA 0 (mO h ad ct (u2 (u2 z35_st 0 21 z78_s0) 0 22 z92_s0)) rfl rfl rfl hl.1 rfl (st1 := []) rfl rfl ⟨Nat.zero_le _, Nat.zero_le _⟩ dX7_goVoyages_112 (fun H locs hP hD hS => ?_)
                  exact hJ115 _ (by first | exact g112a | exact ha35) (by first | exact g112b | exact hw35) (by first | exact g112c | exact hq35) hf _ _ _ hP hD hS (lv_sub hl [1, 2] rfl)
            · intro j92 hJ92 hf
              refine lv_if_le (tgt := 90) hx hb dX7_goVoyages_83 (by decide) (fun c_4 => ?_) (fun c_4 => ?_)
              · have hf := kIt hf c_4
                have t_4 := ti_le c_4
                refine lv_bipush (v := (-6 : Int32)) hx hb dX7_goVoyages_90 (by decide) ?_
                exact hJ92 _  hf _ _ _ hP hD hS (lv_sub hl [0, 1, 2] rfl)
              · have hf := kIf hf c_4
                have t_4 := ti_nle c_4
                refine lv_iload_n hx hb dX7_goVoyages_86 rfl (lv_at hl 0 rfl) ?_
                refine lv_goto (tgt := 92) hx hb dX7_goVoyages_87 (by decide) ?_
                exact hJ92 _  hf _ _ _ hP hD hS (lv_sub hl [0, 1, 2] rfl)
          · intro j78 hJ78 hf
            refine lv_if_le (tgt := 76) hx hb dX7_goVoyages_69 (by decide) (fun c_3 => ?_) (fun c_3 => ?_)
            · have hf := kIt hf c_3
              have t_3 := ti_le c_3
              refine lv_bipush (v := (-6 : Int32)) hx hb dX7_goVoyages_76 (by decide) ?_
              exact hJ78 _  hf _ _ _ hP hD hS (lv_sub hl [0, 1, 2] rfl)
            · have hf := kIf hf c_3
              have t_3 := ti_nle c_3
              refine lv_iload_n hx hb dX7_goVoyages_72 rfl (lv_at hl 1 rfl) ?_
              refine lv_goto (tgt := 78) hx hb dX7_goVoyages_73 (by decide) ?_
              exact hJ78 _  hf _ _ _ hP hD hS (lv_sub hl [0, 1, 2] rfl)
  refine lp35 _ (fun w35_st  H locs ls ha35 hw35 hq35 hP hD hS hl hf => ?_) (60) (0 : Int32) (u2 (u2 (u2 (u2 (u2 (u2 st 0 21 (-6 : Int32)) 0 22 (-6 : Int32)) 0 23 (-6 : Int32)) 0 17 (0 : Int32)) 0 18 (0 : Int32)) 0 19 (0 : Int32))  _ _ _ (by first | assumption | exact vin (by omega) (by omega) | omega) (by first | assumption | exact vin (by omega) (by omega) | omega) rfl hwho (⟨rfl, rfl⟩) hP hD hS (lv_sub hl [0, 1] rfl) hf
  exact kRetV hx hb hr hlk hP hD hS ((congrArg (fun q => mW h ad ct q) hf).symm) hQ dX7_goVoyages_147
theorem kyX7_refusal : kY yX7_refusal cX7_refusal 1 (some .int) wsX7_refusal wsX7_refusal.tail 0 := ⟨rfl, by decide, by decide, by decide +kernel⟩
set_option maxHeartbeats 4000000 in
set_option maxRecDepth 100000 in
theorem k_X7_refusal (l : Launch) (D : va_G) (ct : ClassId × ClassId × ClassId) (z : Nat × Nat) (h : Nat) (ad : Nat → Nat) (st : Nat → Nat → Int32) (hpad : 0 ≤ Int32.toInt (st 0 13) ∧ Int32.toInt (st 0 13) ≤ 60) (hwho : Int32.toInt (st 0 4) < 6) : kC l D ct z yX7_refusal wsX7_refusal 7 151 [.ref h] (mW h ad ct st) (some (.int ((f_X7_refusal st).1))) (mW h ad ct ((f_X7_refusal st).2)) := by
  refine kHead (cc := cX7_refusal) (maxL := 1) (ret := (some .int)) [(0, .ref h)] (by decide) rfl (Nat.le_of_ble_eq_true rfl) rfl ?_
  intro p e s m args below meth c A ls R Q hRf hRl hQ hx hb hr hlk hml hown hts hA hS hK hP hD hl
  have inX7 : ∀ w ∈ wsX70, w ∈ wsX7_refusal := fun w h => (List.mem_cons_of_mem _ (List.mem_append_right _ h))
  have hw1 := hts (Cond.fieldLink RX7 183 "MastPulpitsModel" "badAct" "I") (List.mem_of_getElem? (i := 1) (by decide +kernel))
  have kcm6 : (-6 : Int32).toInt = -6 := by decide
  have kcm5 : (-5 : Int32).toInt = -5 := by decide
  have kcm3 : (-3 : Int32).toInt = -3 := by decide
  have kc0 : (0 : Int32).toInt = 0 := by decide
  have hf : f_X7_refusal st = f_X7_refusal st := rfl
  refine lv_aload_n hx hb dX7_refusal_0 rfl (lv_at hl 0 rfl) ?_
  obtain ⟨q1, eq1⟩ : ∃ y, y = f_X7_keepNow st := ⟨_, rfl⟩
  have hf := kLt hf eq1
  have g1 := keep_fr st
  rw [← eq1] at g1
  have hM : kC l D ct z yX7_keepNow wsX7_keepNow 0 0 [.ref h] (mW h ad ct st) (none) (mW h ad ct q1) := by rw [eq1]; exact k_X7_keepNow l D ct z h ad st
  refine kV1 (As := []) (rest := []) ⟨hx, hb, hml, hown, hts⟩ hM gX7_refusal_X7_keepNow kyX7_keepNow (by rw [hRf, hRl]; exact ⟨Nat.le_of_ble_eq_true rfl, Nat.le_of_ble_eq_true rfl⟩) hK hP hD hS hA 0 (mO h ad ct st) rfl rfl rfl hl.1 rfl (st1 := []) rfl rfl ⟨Nat.zero_le _, Nat.zero_le _⟩ dX7_refusal_1 (fun H locs hP hD hS => ?_)
  refine lv_aload_n hx hb dX7_refusal_4 rfl (lv_at hl 0 rfl) ?_
  obtain ⟨q5, eq5⟩ : ∃ y, y = f_X7_fault q1 := ⟨_, rfl⟩
  have hf := kLt hf eq5
  have g5 := fault_post q1 (by rw [g1 0 (by decide)]; exact hpad)
  rw [← eq5] at g5
  have hM : kC l D ct z yX7_fault wsX7_fault 3 69 [.ref h] (mW h ad ct q1) (some (.int q5.1)) (mW h ad ct q5.2) := by rw [eq5]; exact k_X7_fault l D ct z h ad q1 (by rw [g1 0 (by decide)]; exact hpad)
  refine kV1 (As := []) (rest := []) ⟨hx, hb, hml, hown, hts⟩ hM gX7_refusal_X7_fault kyX7_fault (by rw [hRf, hRl]; exact ⟨Nat.le_of_ble_eq_true rfl, Nat.le_of_ble_eq_true rfl⟩) hK hP hD hS hA 0 (mO h ad ct q1) rfl rfl rfl hl.1 rfl (st1 := [.int q5.1]) rfl rfl ⟨Nat.zero_le _, Nat.zero_le _⟩ dX7_refusal_5 (fun H locs hP hD hS => ?_)
  refine lv_if_lt (tgt := 14) hx hb dX7_refusal_8 (by decide) (fun c_1 => ?_) (fun c_1 => ?_)
  · have hf := kIt hf c_1
    have t_1 := ti_lt c_1
    refine lv_aload_n hx hb dX7_refusal_14 rfl (lv_at hl 0 rfl) ?_
    obtain ⟨q15, eq15⟩ : ∃ y, y = f_X7_goVoyages q5.2 := ⟨_, rfl⟩
    have hf := kLt hf eq15
    have hM : kC l D ct z yX7_goVoyages wsX7_goVoyages 6 129 [.ref h] (mW h ad ct q5.2) (none) (mW h ad ct q15) := by rw [eq15]; exact k_X7_goVoyages l D ct z h ad q5.2 g5.1 (by rw [g5.2.1, g1 0 (by decide)]; exact hwho) g5.2.2.1
    refine kV1 (As := []) (rest := []) ⟨hx, hb, hml, hown, hts⟩ hM gX7_refusal_X7_goVoyages kyX7_goVoyages (by rw [hRf, hRl]; exact ⟨Nat.le_of_ble_eq_true rfl, Nat.le_of_ble_eq_true rfl⟩) hK hP hD hS hA 0 (mO h ad ct q5.2) rfl rfl rfl hl.1 rfl (st1 := []) rfl rfl ⟨Nat.zero_le _, Nat.zero_le _⟩ dX7_refusal_15 (fun H locs hP hD hS => ?_)
    refine lv_aload_n hx hb dX7_refusal_18 rfl (lv_at hl 0 rfl) ?_
    refine va_get (D := D) (cl := vwCl) (ci := 6) (v := .int (q15 0 21)) (C := RX7) (T := TX7) (N := 34) hx hb hts inX7 hown hK.1 hP 0 (mO h ad ct q15) rfl 21 (by decide) hw1 (fun _ h => h) (mF_21 ad q15) dX7_refusal_19 ?_
    refine lv_if_lt (tgt := 30) hx hb dX7_refusal_22 (by decide) (fun c_2 => ?_) (fun c_2 => ?_)
    · have hf := kIt hf c_2
      have t_2 := ti_lt c_2
      refine lv_bipush (v := (-6 : Int32)) hx hb dX7_refusal_30 (by decide) ?_
      exact kRetI hx hb hr hlk hP hD hS (kfst hf) ((congrArg (fun q => mW h ad ct q.2) hf).symm) hQ dX7_refusal_32
    · have hf := kIf hf c_2
      have t_2 := ti_nlt c_2
      refine lv_bipush (v := (-3 : Int32)) hx hb dX7_refusal_25 (by decide) ?_
      refine lv_goto (tgt := 32) hx hb dX7_refusal_27 (by decide) ?_
      exact kRetI hx hb hr hlk hP hD hS (kfst hf) ((congrArg (fun q => mW h ad ct q.2) hf).symm) hQ dX7_refusal_32
  · have hf := kIf hf c_1
    have t_1 := ti_nlt c_1
    refine lv_bipush (v := (-5 : Int32)) hx hb dX7_refusal_11 (by decide) ?_
    exact kRetI hx hb hr hlk hP hD hS (kfst hf) ((congrArg (fun q => mW h ad ct q.2) hf).symm) hQ dX7_refusal_13
theorem kyX7_judge : kY yX7_judge cX7_judge 3 (some .int) wsX7_judge wsX7_judge.tail 1 := ⟨rfl, by decide, by decide, by decide +kernel⟩
set_option maxHeartbeats 4000000 in
set_option maxRecDepth 100000 in
theorem k_X7_judge (l : Launch) (D : va_G) (ct : ClassId × ClassId × ClassId) (z : Nat × Nat) (h : Nat) (ad : Nat → Nat) (x1 : Int32) (st : Nat → Nat → Int32) (hpad : 0 ≤ Int32.toInt (st 0 13) ∧ Int32.toInt (st 0 13) ≤ 60) (hwho : Int32.toInt (st 0 4) < 6) : kC l D ct z yX7_judge wsX7_judge 8 171 [.ref h, .int x1] (mW h ad ct st) (some (.int ((f_X7_judge x1 st).1))) (mW h ad ct ((f_X7_judge x1 st).2)) := by
  refine kHead (cc := cX7_judge) (maxL := 3) (ret := (some .int)) [(0, .ref h), (1, .int x1)] (by decide) rfl (Nat.le_of_ble_eq_true rfl) rfl ?_
  intro p e s m args below meth c A ls R Q hRf hRl hQ hx hb hr hlk hml hown hts hA hS hK hP hD hl
  have inX7 : ∀ w ∈ wsX70, w ∈ wsX7_judge := fun w h => (List.mem_cons_of_mem _ (List.mem_append_right _ h))
  have hw1 := hts (Cond.constantLong RX7 208 (2)) (List.mem_of_getElem? (i := 1) (by decide +kernel))
  have hw2 := hts (Cond.fieldLink RX7 183 "MastPulpitsModel" "badAct" "I") (List.mem_of_getElem? (i := 2) (by decide +kernel))
  have hw3 := hts (Cond.fieldLink RX7 186 "MastPulpitsModel" "badWhy" "I") (List.mem_of_getElem? (i := 3) (by decide +kernel))
  have hw4 := hts (Cond.fieldLink RX7 158 "MastPulpitsModel" "strikes" "I") (List.mem_of_getElem? (i := 4) (by decide +kernel))
  have kcm5 : (-5 : Int32).toInt = -5 := by decide
  have kcm3 : (-3 : Int32).toInt = -3 := by decide
  have kcm2 : (-2 : Int32).toInt = -2 := by decide
  have kc0 : (0 : Int32).toInt = 0 := by decide
  have kc1 : (1 : Int32).toInt = 1 := by decide
  have kl0 : (0 : Int64).toInt = 0 := by decide
  have kl2 : (2 : Int64).toInt = 2 := by decide
  have hf : f_X7_judge x1 st = f_X7_judge x1 st := rfl
  refine lv_iload_n hx hb dX7_judge_0 rfl (lv_at hl 1 rfl) ?_
  refine lv_i2l (v := (Int32.toInt64 x1)) hx hb dX7_judge_1 rfl ?_
  refine lv_lconst (v := (0 : Int64)) hx hb dX7_judge_2 (by decide) ?_
  refine lv_ldc2 (v := (2 : Int64)) hx hb hown hw1 dX7_judge_3 ?_
  have hM : kC l D ct z yX7_in wsX7_in 0 0 [.long (Int32.toInt64 x1), .long (0 : Int64), .long (2 : Int64)] ([]) (some (.int (f_X7_in (Int32.toInt64 x1) (0 : Int64) (2 : Int64)))) ([]) := k_X7_in l D ct z (Int32.toInt64 x1) (0 : Int64) (2 : Int64)
  refine kS0 (As := [.long (Int32.toInt64 x1), .long (0 : Int64), .long (2 : Int64)]) (rest := []) ⟨hx, hb, hml, hown, hts⟩ hM gX7_judge_X7_in kyX7_in (by rw [hRf, hRl]; exact ⟨Nat.le_of_ble_eq_true rfl, Nat.le_of_ble_eq_true rfl⟩) hK hP hD hS hA rfl hl.1 rfl (st1 := [.int (f_X7_in (Int32.toInt64 x1) (0 : Int64) (2 : Int64))]) rfl rfl ⟨Nat.zero_le _, Nat.zero_le _⟩ dX7_judge_6 (fun H locs hP hD hS => ?_)
  refine lv_if_ne (tgt := 15) hx hb dX7_judge_9 (by decide) (fun c_1 => ?_) (fun c_1 => ?_)
  · have hf := kIf hf c_1
    have t_1 := ti_ne c_1; have w_1 := in_nz c_1
    refine lv_aload_n hx hb dX7_judge_15 rfl (lv_at hl 0 rfl) ?_
    refine lv_aload_n hx hb dX7_judge_16 rfl (lv_at hl 0 rfl) ?_
    obtain ⟨q17, eq17⟩ : ∃ y, y = f_X7_refusal st := ⟨_, rfl⟩
    have hf := kLt hf eq17
    have hM : kC l D ct z yX7_refusal wsX7_refusal 7 151 [.ref h] (mW h ad ct st) (some (.int q17.1)) (mW h ad ct q17.2) := by rw [eq17]; exact k_X7_refusal l D ct z h ad st (by first | assumption | exact vin (by omega) (by omega) | omega) (by first | assumption | exact vin (by omega) (by omega) | omega)
    refine kV1 (As := []) (rest := [.ref h]) ⟨hx, hb, hml, hown, hts⟩ hM gX7_judge_X7_refusal kyX7_refusal (by rw [hRf, hRl]; exact ⟨Nat.le_of_ble_eq_true rfl, Nat.le_of_ble_eq_true rfl⟩) hK hP hD hS hA 0 (mO h ad ct st) rfl rfl rfl hl.1 rfl (st1 := [.int q17.1, .ref h]) rfl rfl ⟨Nat.zero_le _, Nat.zero_le _⟩ dX7_judge_17 (fun H locs hP hD hS => ?_)
    obtain ⟨q20, eq20⟩ : ∃ y, y = f_X7_back q17.1 q17.2 := ⟨_, rfl⟩
    have hf := kLt hf eq20
    have hM : kC l D ct z yX7_back wsX7_back 0 0 [.ref h, .int q17.1] (mW h ad ct q17.2) (some (.int q20.1)) (mW h ad ct q20.2) := by rw [eq20]; exact k_X7_back l D ct z h ad q17.1 q17.2
    refine kV1 (As := [.int q17.1]) (rest := []) ⟨hx, hb, hml, hown, hts⟩ hM gX7_judge_X7_back kyX7_back (by rw [hRf, hRl]; exact ⟨Nat.le_of_ble_eq_true rfl, Nat.le_of_ble_eq_true rfl⟩) hK hP hD hS hA 0 (mO h ad ct q17.2) rfl rfl rfl hl.1 rfl (st1 := [.int q20.1]) rfl rfl ⟨Nat.zero_le _, Nat.zero_le _⟩ dX7_judge_20 (fun H locs hP hD hS => ?_)
    refine lv_istore_n (lv' := [(2, .int q20.1), (0, .ref h), (1, .int x1)]) hx hb dX7_judge_23 rfl hl (by decide) rfl (fun ls hl => ?_)
    refine lv_iload_n hx hb dX7_judge_24 rfl (lv_at hl 0 rfl) ?_
    refine lv_bipush (v := (-5 : Int32)) hx hb dX7_judge_25 (by decide) ?_
    refine kJn hf (fun j0 => ∀ (u0 : Unit), f_X7_judge x1 st = j0 () → ∀ (H : Heap) (locs : List Loc) (ls : Array Slot), va_P D vwCl (mW h ad ct q20.2) H → va_D A (mW h ad ct q20.2) → va_S A s.heap H locs → lv_has ls 3 [(2, .int q20.1)] → W p l e R s m args below meth c H locs 0 0 Q (F0 m 41 ls [])) ?_ ?_
    · intro j0 hj0 u0  hf H locs ls hP hD hS hl
      subst hj0
      refine lv_iload_n hx hb dX7_judge_41 rfl (lv_at hl 0 rfl) ?_
      exact kRetI hx hb hr hlk hP hD hS (kfst hf) ((congrArg (fun q => mW h ad ct q.2) hf).symm) hQ dX7_judge_42
    · intro j41 hJ41 hf
      refine lv_icmp_eq (tgt := 41) hx hb dX7_judge_27 (by decide) (fun c_2 => ?_) (fun c_2 => ?_)
      · have hf := kIt hf c_2
        have t_2 := ti_eq c_2
        exact hJ41 ()  hf _ _ _ hP hD hS (lv_sub hl [0] rfl)
      · have hf := kIf hf c_2
        have t_2 := ti_ne c_2
        refine lv_iload_n hx hb dX7_judge_30 rfl (lv_at hl 2 rfl) ?_
        refine lv_iconst (v := (1 : Int32)) hx hb dX7_judge_31 (by decide) ?_
        refine kJn hf (fun j0 => ∀ (u0 : Unit), f_X7_judge x1 st = j0 () → ∀ (H : Heap) (locs : List Loc) (ls : Array Slot), va_P D vwCl (mW h ad ct q20.2) H → va_D A (mW h ad ct q20.2) → va_S A s.heap H locs → lv_has ls 3 [(0, .ref h), (1, .int x1)] → W p l e R s m args below meth c H locs 0 0 Q (F0 m 43 ls [])) ?_ ?_
        · intro j0 hj0 u0  hf H locs ls hP hD hS hl
          subst hj0
          refine lv_iload_n hx hb dX7_judge_43 rfl (lv_at hl 1 rfl) ?_
          refine lv_if_ne (tgt := 54) hx hb dX7_judge_44 (by decide) (fun c_4 => ?_) (fun c_4 => ?_)
          · have hf := kIf hf c_4
            have t_4 := ti_ne c_4
            refine lv_iload_n hx hb dX7_judge_54 rfl (lv_at hl 1 rfl) ?_
            refine lv_iconst (v := (1 : Int32)) hx hb dX7_judge_55 (by decide) ?_
            refine lv_icmp_ne (tgt := 66) hx hb dX7_judge_56 (by decide) (fun c_5 => ?_) (fun c_5 => ?_)
            · have hf := kIf hf c_5
              have t_5 := ti_ne c_5
              refine lv_aload_n hx hb dX7_judge_66 rfl (lv_at hl 0 rfl) ?_
              refine va_get (D := D) (cl := vwCl) (ci := 6) (v := .int (q20.2 0 17)) (C := RX7) (T := TX7) (N := 34) hx hb hts inX7 hown hK.1 hP 0 (mO h ad ct q20.2) rfl 17 (by decide) hw4 (fun _ h => h) (mF_17 ad q20.2) dX7_judge_67 ?_
              exact kRetI hx hb hr hlk hP hD hS (kfst hf) ((congrArg (fun q => mW h ad ct q.2) hf).symm) hQ dX7_judge_70
            · have hf := kIt hf c_5
              have t_5 := ti_eq c_5
              refine lv_aload_n hx hb dX7_judge_59 rfl (lv_at hl 0 rfl) ?_
              refine va_get (D := D) (cl := vwCl) (ci := 6) (v := .int (q20.2 0 22)) (C := RX7) (T := TX7) (N := 34) hx hb hts inX7 hown hK.1 hP 0 (mO h ad ct q20.2) rfl 22 (by decide) hw3 (fun _ h => h) (mF_22 ad q20.2) dX7_judge_60 ?_
              refine lv_goto (tgt := 70) hx hb dX7_judge_63 (by decide) ?_
              exact kRetI hx hb hr hlk hP hD hS (kfst hf) ((congrArg (fun q => mW h ad ct q.2) hf).symm) hQ dX7_judge_70
          · have hf := kIt hf c_4
            have t_4 := ti_eq c_4
            refine lv_aload_n hx hb dX7_judge_47 rfl (lv_at hl 0 rfl) ?_
            refine va_get (D := D) (cl := vwCl) (ci := 6) (v := .int (q20.2 0 21)) (C := RX7) (T := TX7) (N := 34) hx hb hts inX7 hown hK.1 hP 0 (mO h ad ct q20.2) rfl 21 (by decide) hw2 (fun _ h => h) (mF_21 ad q20.2) dX7_judge_48 ?_
            refine lv_goto (tgt := 70) hx hb dX7_judge_51 (by decide) ?_
            exact kRetI hx hb hr hlk hP hD hS (kfst hf) ((congrArg (fun q => mW h ad ct q.2) hf).symm) hQ dX7_judge_70
        · intro j43 hJ43 hf
          refine lv_icmp_le (tgt := 43) hx hb dX7_judge_32 (by decide) (fun c_3 => ?_) (fun c_3 => ?_)
          · have hf := kIt hf c_3
            have t_3 := ti_le c_3
            exact hJ43 ()  hf _ _ _ hP hD hS (lv_sub hl [1, 2] rfl)
          · have hf := kIf hf c_3
            have t_3 := ti_nle c_3
            refine lv_iload_n hx hb dX7_judge_35 rfl (lv_at hl 0 rfl) ?_
            refine lv_bipush (v := (-3 : Int32)) hx hb dX7_judge_36 (by decide) ?_
            refine lv_icmp_ne (tgt := 43) hx hb dX7_judge_38 (by decide) (fun c_6 => ?_) (fun c_6 => ?_)
            · have hf := kIf hf c_6
              have t_6 := ti_ne c_6
              exact hJ43 ()  hf _ _ _ hP hD hS (lv_sub hl [1, 2] rfl)
            · have hf := kIt hf c_6
              have t_6 := ti_eq c_6
              exact hJ41 ()  hf _ _ _ hP hD hS (lv_sub hl [0] rfl)
  · have hf := kIt hf c_1
    have t_1 := ti_eq c_1
    refine lv_bipush (v := (-2 : Int32)) hx hb dX7_judge_12 (by decide) ?_
    exact kRetI hx hb hr hlk hP hD hS (kfst hf) ((congrArg (fun q => mW h ad ct q.2) hf).symm) hQ dX7_judge_14
theorem kyX7_ofShip : kY yX7_ofShip cX7_ofShip 2 (some .int) wsX7_ofShip wsX7_ofShip.tail 1 := ⟨rfl, by decide, by decide, by decide +kernel⟩
set_option maxHeartbeats 4000000 in
set_option maxRecDepth 100000 in
theorem k_X7_ofShip (l : Launch) (D : va_G) (ct : ClassId × ClassId × ClassId) (z : Nat × Nat) (h : Nat) (ad : Nat → Nat) (x1 : Int32) (st : Nat → Nat → Int32)  : kC l D ct z yX7_ofShip wsX7_ofShip 0 0 [.ref h, .int x1] (mW h ad ct st) (some (.int (f_X7_ofShip x1 st))) (mW h ad ct st) := by
  refine kHead (cc := cX7_ofShip) (maxL := 2) (ret := (some .int)) [(0, .ref h), (1, .int x1)] (by decide) rfl (Nat.le_of_ble_eq_true rfl) rfl ?_
  intro p e s m args below meth c A ls R Q hRf hRl hQ hx hb hr hlk hml hown hts hA hS hK hP hD hl
  have inX7 : ∀ w ∈ wsX70, w ∈ wsX7_ofShip := fun w h => (List.mem_cons_of_mem _ (List.mem_append_right _ h))
  have hw1 := hts (Cond.fieldLink RX7 59 "MastPulpitsModel" "place" "I") (List.mem_of_getElem? (i := 1) (by decide +kernel))
  have hw2 := hts (Cond.fieldLink RX7 63 "MastPulpitsModel" "hull" "I") (List.mem_of_getElem? (i := 2) (by decide +kernel))
  have hw3 := hts (Cond.fieldLink RX7 66 "MastPulpitsModel" "who" "I") (List.mem_of_getElem? (i := 3) (by decide +kernel))
  have hw4 := hts (Cond.fieldLink RX7 146 "MastPulpitsModel" "hours" "I") (List.mem_of_getElem? (i := 4) (by decide +kernel))
  have hw5 := hts (Cond.fieldLink RX7 104 "MastPulpitsModel" "mist" "I") (List.mem_of_getElem? (i := 5) (by decide +kernel))
  have hw6 := hts (Cond.fieldLink RX7 143 "MastPulpitsModel" "hour" "I") (List.mem_of_getElem? (i := 6) (by decide +kernel))
  have kcm6 : (-6 : Int32).toInt = -6 := by decide
  have kc0 : (0 : Int32).toInt = 0 := by decide
  have hf : f_X7_ofShip x1 st = f_X7_ofShip x1 st := rfl
  refine lv_iload_n hx hb dX7_ofShip_0 rfl (lv_at hl 1 rfl) ?_
  have kv_1 : (0 : Int32).toInt = 0 := by decide
  refine (Classical.em (x1 = (0 : Int32))).elim (fun c_1 => ?_) (fun c_1 => ?_)
  · have hf := kIt hf c_1
    have t_1 := ti_eq c_1
    refine lv_tableIn (off := 35) (tgt := 36) hx hb dX7_ofShip_1 (by omega) (by omega) (by rw [c_1]; decide) (by decide) ?_
    refine lv_aload_n hx hb dX7_ofShip_36 rfl (lv_at hl 0 rfl) ?_
    refine va_get (D := D) (cl := vwCl) (ci := 6) (v := .int (st 0 1)) (C := RX7) (T := TX7) (N := 34) hx hb hts inX7 hown hK.1 hP 0 (mO h ad ct st) rfl 1 (by decide) hw1 (fun _ h => h) (mF_1 ad st) dX7_ofShip_37 ?_
    exact kRetI hx hb hr hlk hP hD hS hf.symm rfl hQ dX7_ofShip_40
  · have hf := kIf hf c_1
    have t_1 := ti_ne c_1
    have kv_2 : (1 : Int32).toInt = 1 := by decide
    refine (Classical.em (x1 = (1 : Int32))).elim (fun c_2 => ?_) (fun c_2 => ?_)
    · have hf := kIt hf c_2
      have t_2 := ti_eq c_2
      refine lv_tableIn (off := 40) (tgt := 41) hx hb dX7_ofShip_1 (by omega) (by omega) (by rw [c_2]; decide) (by decide) ?_
      refine lv_aload_n hx hb dX7_ofShip_41 rfl (lv_at hl 0 rfl) ?_
      refine va_get (D := D) (cl := vwCl) (ci := 6) (v := .int (st 0 2)) (C := RX7) (T := TX7) (N := 34) hx hb hts inX7 hown hK.1 hP 0 (mO h ad ct st) rfl 2 (by decide) hw2 (fun _ h => h) (mF_2 ad st) dX7_ofShip_42 ?_
      exact kRetI hx hb hr hlk hP hD hS hf.symm rfl hQ dX7_ofShip_45
    · have hf := kIf hf c_2
      have t_2 := ti_ne c_2
      have kv_3 : (2 : Int32).toInt = 2 := by decide
      refine (Classical.em (x1 = (2 : Int32))).elim (fun c_3 => ?_) (fun c_3 => ?_)
      · have hf := kIt hf c_3
        have t_3 := ti_eq c_3
        refine lv_tableIn (off := 45) (tgt := 46) hx hb dX7_ofShip_1 (by omega) (by omega) (by rw [c_3]; decide) (by decide) ?_
        refine lv_aload_n hx hb dX7_ofShip_46 rfl (lv_at hl 0 rfl) ?_
        refine va_get (D := D) (cl := vwCl) (ci := 6) (v := .int (st 0 4)) (C := RX7) (T := TX7) (N := 34) hx hb hts inX7 hown hK.1 hP 0 (mO h ad ct st) rfl 4 (by decide) hw3 (fun _ h => h) (mF_4 ad st) dX7_ofShip_47 ?_
        exact kRetI hx hb hr hlk hP hD hS hf.symm rfl hQ dX7_ofShip_50
      · have hf := kIf hf c_3
        have t_3 := ti_ne c_3
        have kv_4 : (3 : Int32).toInt = 3 := by decide
        refine (Classical.em (x1 = (3 : Int32))).elim (fun c_4 => ?_) (fun c_4 => ?_)
        · have hf := kIt hf c_4
          have t_4 := ti_eq c_4
          refine lv_tableIn (off := 50) (tgt := 51) hx hb dX7_ofShip_1 (by omega) (by omega) (by rw [c_4]; decide) (by decide) ?_
          refine lv_aload_n hx hb dX7_ofShip_51 rfl (lv_at hl 0 rfl) ?_
          refine va_get (D := D) (cl := vwCl) (ci := 6) (v := .int (st 0 4)) (C := RX7) (T := TX7) (N := 34) hx hb hts inX7 hown hK.1 hP 0 (mO h ad ct st) rfl 4 (by decide) hw3 (fun _ h => h) (mF_4 ad st) dX7_ofShip_52 ?_
          refine lv_if_ge (tgt := 63) hx hb dX7_ofShip_55 (by decide) (fun c_5 => ?_) (fun c_5 => ?_)
          · have hf := kIt hf c_5
            have t_5 := ti_le c_5
            refine lv_aload_n hx hb dX7_ofShip_63 rfl (lv_at hl 0 rfl) ?_
            refine va_get (D := D) (cl := vwCl) (ci := 6) (v := .int (st 0 5)) (C := RX7) (T := TX7) (N := 34) hx hb hts inX7 hown hK.1 hP 0 (mO h ad ct st) rfl 5 (by decide) hw4 (fun _ h => h) (mF_5 ad st) dX7_ofShip_64 ?_
            exact kRetI hx hb hr hlk hP hD hS hf.symm rfl hQ dX7_ofShip_67
          · have hf := kIf hf c_5
            have t_5 := ti_nle c_5
            refine lv_bipush (v := (-6 : Int32)) hx hb dX7_ofShip_58 (by decide) ?_
            refine lv_goto (tgt := 67) hx hb dX7_ofShip_60 (by decide) ?_
            exact kRetI hx hb hr hlk hP hD hS hf.symm rfl hQ dX7_ofShip_67
        · have hf := kIf hf c_4
          have t_4 := ti_ne c_4
          have kv_6 : (4 : Int32).toInt = 4 := by decide
          refine (Classical.em (x1 = (4 : Int32))).elim (fun c_6 => ?_) (fun c_6 => ?_)
          · have hf := kIt hf c_6
            have t_6 := ti_eq c_6
            refine lv_tableIn (off := 67) (tgt := 68) hx hb dX7_ofShip_1 (by omega) (by omega) (by rw [c_6]; decide) (by decide) ?_
            refine lv_aload_n hx hb dX7_ofShip_68 rfl (lv_at hl 0 rfl) ?_
            refine va_get (D := D) (cl := vwCl) (ci := 6) (v := .int (st 0 6)) (C := RX7) (T := TX7) (N := 34) hx hb hts inX7 hown hK.1 hP 0 (mO h ad ct st) rfl 6 (by decide) hw5 (fun _ h => h) (mF_6 ad st) dX7_ofShip_69 ?_
            exact kRetI hx hb hr hlk hP hD hS hf.symm rfl hQ dX7_ofShip_72
          · have hf := kIf hf c_6
            have t_6 := ti_ne c_6
            refine lv_tableOut (tgt := 73) hx hb dX7_ofShip_1 (by omega) (by decide) ?_
            refine lv_aload_n hx hb dX7_ofShip_73 rfl (lv_at hl 0 rfl) ?_
            refine va_get (D := D) (cl := vwCl) (ci := 6) (v := .int (st 0 7)) (C := RX7) (T := TX7) (N := 34) hx hb hts inX7 hown hK.1 hP 0 (mO h ad ct st) rfl 7 (by decide) hw6 (fun _ h => h) (mF_7 ad st) dX7_ofShip_74 ?_
            exact kRetI hx hb hr hlk hP hD hS hf.symm rfl hQ dX7_ofShip_77
theorem kyX7_behind : kY yX7_behind cX7_behind 3 (some .int) wsX7_behind wsX7_behind.tail 1 := ⟨rfl, by decide, by decide, by decide +kernel⟩
set_option maxHeartbeats 4000000 in
set_option maxRecDepth 100000 in
theorem k_X7_behind (l : Launch) (D : va_G) (ct : ClassId × ClassId × ClassId) (z : Nat × Nat) (h : Nat) (ad : Nat → Nat) (x1 : Int32) (st : Nat → Nat → Int32) (hpad : 0 ≤ Int32.toInt (st 0 13) ∧ Int32.toInt (st 0 13) ≤ 60) (hwho : Int32.toInt (st 0 4) < 6) : kC l D ct z yX7_behind wsX7_behind 8 171 [.ref h, .int x1] (mW h ad ct st) (some (.int ((f_X7_behind x1 st).1))) (mW h ad ct ((f_X7_behind x1 st).2)) := by
  refine kHead (cc := cX7_behind) (maxL := 3) (ret := (some .int)) [(0, .ref h), (1, .int x1)] (by decide) rfl (Nat.le_of_ble_eq_true rfl) rfl ?_
  intro p e s m args below meth c A ls R Q hRf hRl hQ hx hb hr hlk hml hown hts hA hS hK hP hD hl
  have hw1 := hts (Cond.constantLong RX7 102 (5)) (List.mem_of_getElem? (i := 1) (by decide +kernel))
  have kcm6 : (-6 : Int32).toInt = -6 := by decide
  have kcm2 : (-2 : Int32).toInt = -2 := by decide
  have kc0 : (0 : Int32).toInt = 0 := by decide
  have kl0 : (0 : Int64).toInt = 0 := by decide
  have kl5 : (5 : Int64).toInt = 5 := by decide
  have hf : f_X7_behind x1 st = f_X7_behind x1 st := rfl
  refine lv_iload_n hx hb dX7_behind_0 rfl (lv_at hl 1 rfl) ?_
  refine lv_i2l (v := (Int32.toInt64 x1)) hx hb dX7_behind_1 rfl ?_
  refine lv_lconst (v := (0 : Int64)) hx hb dX7_behind_2 (by decide) ?_
  refine lv_ldc2 (v := (5 : Int64)) hx hb hown hw1 dX7_behind_3 ?_
  have hM : kC l D ct z yX7_in wsX7_in 0 0 [.long (Int32.toInt64 x1), .long (0 : Int64), .long (5 : Int64)] ([]) (some (.int (f_X7_in (Int32.toInt64 x1) (0 : Int64) (5 : Int64)))) ([]) := k_X7_in l D ct z (Int32.toInt64 x1) (0 : Int64) (5 : Int64)
  refine kS0 (As := [.long (Int32.toInt64 x1), .long (0 : Int64), .long (5 : Int64)]) (rest := []) ⟨hx, hb, hml, hown, hts⟩ hM gX7_behind_X7_in kyX7_in (by rw [hRf, hRl]; exact ⟨Nat.le_of_ble_eq_true rfl, Nat.le_of_ble_eq_true rfl⟩) hK hP hD hS hA rfl hl.1 rfl (st1 := [.int (f_X7_in (Int32.toInt64 x1) (0 : Int64) (5 : Int64))]) rfl rfl ⟨Nat.zero_le _, Nat.zero_le _⟩ dX7_behind_6 (fun H locs hP hD hS => ?_)
  refine lv_if_ne (tgt := 15) hx hb dX7_behind_9 (by decide) (fun c_1 => ?_) (fun c_1 => ?_)
  · have hf := kIf hf c_1
    have t_1 := ti_ne c_1; have w_1 := in_nz c_1
    refine lv_aload_n hx hb dX7_behind_15 rfl (lv_at hl 0 rfl) ?_
    obtain ⟨q16, eq16⟩ : ∃ y, y = f_X7_refusal st := ⟨_, rfl⟩
    have hf := kLt hf eq16
    have hM : kC l D ct z yX7_refusal wsX7_refusal 7 151 [.ref h] (mW h ad ct st) (some (.int q16.1)) (mW h ad ct q16.2) := by rw [eq16]; exact k_X7_refusal l D ct z h ad st (by first | assumption | exact vin (by omega) (by omega) | omega) (by first | assumption | exact vin (by omega) (by omega) | omega)
    refine kV1 (As := []) (rest := []) ⟨hx, hb, hml, hown, hts⟩ hM gX7_behind_X7_refusal kyX7_refusal (by rw [hRf, hRl]; exact ⟨Nat.le_of_ble_eq_true rfl, Nat.le_of_ble_eq_true rfl⟩) hK hP hD hS hA 0 (mO h ad ct st) rfl rfl rfl hl.1 rfl (st1 := [.int q16.1]) rfl rfl ⟨Nat.zero_le _, Nat.zero_le _⟩ dX7_behind_16 (fun H locs hP hD hS => ?_)
    refine lv_istore_n (lv' := [(2, .int q16.1), (0, .ref h), (1, .int x1)]) hx hb dX7_behind_19 rfl hl (by decide) rfl (fun ls hl => ?_)
    refine lv_aload_n hx hb dX7_behind_20 rfl (lv_at hl 1 rfl) ?_
    refine lv_iload_n hx hb dX7_behind_21 rfl (lv_at hl 0 rfl) ?_
    refine lv_bipush (v := (-6 : Int32)) hx hb dX7_behind_22 (by decide) ?_
    refine kJn hf (fun j0 => ∀ (z36_s0 : Int32), f_X7_behind x1 st = j0 z36_s0 → ∀ (H : Heap) (locs : List Loc) (ls : Array Slot), va_P D vwCl (mW h ad ct q16.2) H → va_D A (mW h ad ct q16.2) → va_S A s.heap H locs → lv_has ls 3 [] → W p l e R s m args below meth c H locs 0 0 Q (F0 m 36 ls [.int z36_s0, .ref h])) ?_ ?_
    · intro j0 hj0 z36_s0  hf H locs ls hP hD hS hl
      subst hj0
      obtain ⟨q36, eq36⟩ : ∃ y, y = f_X7_back z36_s0 q16.2 := ⟨_, rfl⟩
      have hf := kLt hf eq36
      have hM : kC l D ct z yX7_back wsX7_back 0 0 [.ref h, .int z36_s0] (mW h ad ct q16.2) (some (.int q36.1)) (mW h ad ct q36.2) := by rw [eq36]; exact k_X7_back l D ct z h ad z36_s0 q16.2
      refine kV1 (As := [.int z36_s0]) (rest := []) ⟨hx, hb, hml, hown, hts⟩ hM gX7_behind_X7_back kyX7_back (by rw [hRf, hRl]; exact ⟨Nat.le_of_ble_eq_true rfl, Nat.le_of_ble_eq_true rfl⟩) hK hP hD hS hA 0 (mO h ad ct q16.2) rfl rfl rfl hl.1 rfl (st1 := [.int q36.1]) rfl rfl ⟨Nat.zero_le _, Nat.zero_le _⟩ dX7_behind_36 (fun H locs hP hD hS => ?_)
      exact kRetI hx hb hr hlk hP hD hS (kfst hf) ((congrArg (fun q => mW h ad ct q.2) hf).symm) hQ dX7_behind_39
    · intro j36 hJ36 hf
      refine lv_icmp_eq (tgt := 31) hx hb dX7_behind_24 (by decide) (fun c_2 => ?_) (fun c_2 => ?_)
      · have hf := kIt hf c_2
        have t_2 := ti_eq c_2
        refine lv_aload_n hx hb dX7_behind_31 rfl (lv_at hl 1 rfl) ?_
        refine lv_iload_n hx hb dX7_behind_32 rfl (lv_at hl 2 rfl) ?_
        have hM : kC l D ct z yX7_ofShip wsX7_ofShip 0 0 [.ref h, .int x1] (mW h ad ct q16.2) (some (.int (f_X7_ofShip x1 q16.2))) (mW h ad ct q16.2) := k_X7_ofShip l D ct z h ad x1 q16.2
        refine kV1 (As := [.int x1]) (rest := [.ref h]) ⟨hx, hb, hml, hown, hts⟩ hM gX7_behind_X7_ofShip kyX7_ofShip (by rw [hRf, hRl]; exact ⟨Nat.le_of_ble_eq_true rfl, Nat.le_of_ble_eq_true rfl⟩) hK hP hD hS hA 0 (mO h ad ct q16.2) rfl rfl rfl hl.1 rfl (st1 := [.int (f_X7_ofShip x1 q16.2), .ref h]) rfl rfl ⟨Nat.zero_le _, Nat.zero_le _⟩ dX7_behind_33 (fun H locs hP hD hS => ?_)
        exact hJ36 _  hf _ _ _ hP hD hS (lv_sub hl [] rfl)
      · have hf := kIf hf c_2
        have t_2 := ti_ne c_2
        refine lv_iload_n hx hb dX7_behind_27 rfl (lv_at hl 0 rfl) ?_
        refine lv_goto (tgt := 36) hx hb dX7_behind_28 (by decide) ?_
        exact hJ36 _  hf _ _ _ hP hD hS (lv_sub hl [] rfl)
  · have hf := kIt hf c_1
    have t_1 := ti_eq c_1
    refine lv_bipush (v := (-2 : Int32)) hx hb dX7_behind_12 (by decide) ?_
    exact kRetI hx hb hr hlk hP hD hS (kfst hf) ((congrArg (fun q => mW h ad ct q.2) hf).symm) hQ dX7_behind_14
theorem kyX7_ofSeen : kY yX7_ofSeen cX7_ofSeen 3 (some .int) wsX7_ofSeen wsX7_ofSeen.tail 1 := ⟨rfl, by decide, by decide, by decide +kernel⟩
set_option maxHeartbeats 4000000 in
set_option maxRecDepth 100000 in
theorem k_X7_ofSeen (l : Launch) (D : va_G) (ct : ClassId × ClassId × ClassId) (z : Nat × Nat) (h : Nat) (ad : Nat → Nat) (x1 : Int32) (st : Nat → Nat → Int32) (hwho : Int32.toInt (st 0 4) < 6) : kC l D ct z yX7_ofSeen wsX7_ofSeen 4 87 [.ref h, .int x1] (mW h ad ct st) (some (.int (f_X7_ofSeen x1 st))) (mW h ad ct st) := by
  refine kHead (cc := cX7_ofSeen) (maxL := 3) (ret := (some .int)) [(0, .ref h), (1, .int x1)] (by decide) rfl (Nat.le_of_ble_eq_true rfl) rfl ?_
  intro p e s m args below meth c A ls R Q hRf hRl hQ hx hb hr hlk hml hown hts hA hS hK hP hD hl
  have inX7 : ∀ w ∈ wsX70, w ∈ wsX7_ofSeen := fun w h => (List.mem_cons_of_mem _ (List.mem_append_right _ h))
  have hw1 := hts (Cond.fieldLink RX7 66 "MastPulpitsModel" "who" "I") (List.mem_of_getElem? (i := 1) (by decide +kernel))
  have hw2 := hts (Cond.fieldLink RX7 59 "MastPulpitsModel" "place" "I") (List.mem_of_getElem? (i := 2) (by decide +kernel))
  have kcm6 : (-6 : Int32).toInt = -6 := by decide
  have kc0 : (0 : Int32).toInt = 0 := by decide
  have kc2 : (2 : Int32).toInt = 2 := by decide
  have hf : f_X7_ofSeen x1 st = f_X7_ofSeen x1 st := rfl
  refine lv_aload_n hx hb dX7_ofSeen_0 rfl (lv_at hl 0 rfl) ?_
  refine va_get (D := D) (cl := vwCl) (ci := 6) (v := .int (st 0 4)) (C := RX7) (T := TX7) (N := 34) hx hb hts inX7 hown hK.1 hP 0 (mO h ad ct st) rfl 4 (by decide) hw1 (fun _ h => h) (mF_4 ad st) dX7_ofSeen_1 ?_
  refine lv_if_ge (tgt := 10) hx hb dX7_ofSeen_4 (by decide) (fun c_1 => ?_) (fun c_1 => ?_)
  · have hf := kIt hf c_1
    have t_1 := ti_le c_1
    refine lv_aload_n hx hb dX7_ofSeen_10 rfl (lv_at hl 0 rfl) ?_
    have hM : kC l D ct z yX7_nearest wsX7_nearest 3 65 [.ref h] (mW h ad ct st) (some (.int (f_X7_nearest st))) (mW h ad ct st) := k_X7_nearest l D ct z h ad st (by first | assumption | exact vin (by omega) (by omega) | omega)
    refine kV1 (As := []) (rest := []) ⟨hx, hb, hml, hown, hts⟩ hM gX7_ofSeen_X7_nearest kyX7_nearest (by rw [hRf, hRl]; exact ⟨Nat.le_of_ble_eq_true rfl, Nat.le_of_ble_eq_true rfl⟩) hK hP hD hS hA 0 (mO h ad ct st) rfl rfl rfl hl.1 rfl (st1 := [.int (f_X7_nearest st)]) rfl rfl ⟨Nat.zero_le _, Nat.zero_le _⟩ dX7_ofSeen_11 (fun H locs hP hD hS => ?_)
    refine lv_topi (fun y14 ey14 => ?_)
    have hf := kLt hf ey14
    refine lv_istore_n (lv' := [(2, .int y14), (0, .ref h), (1, .int x1)]) hx hb dX7_ofSeen_14 rfl hl (by decide) rfl (fun ls hl => ?_)
    refine lv_iload_n hx hb dX7_ofSeen_15 rfl (lv_at hl 2 rfl) ?_
    refine lv_if_ne (tgt := 26) hx hb dX7_ofSeen_16 (by decide) (fun c_2 => ?_) (fun c_2 => ?_)
    · have hf := kIf hf c_2
      have t_2 := ti_ne c_2
      refine lv_iload_n hx hb dX7_ofSeen_26 rfl (lv_at hl 2 rfl) ?_
      refine lv_iconst (v := (2 : Int32)) hx hb dX7_ofSeen_27 (by decide) ?_
      refine lv_icmp_ne (tgt := 35) hx hb dX7_ofSeen_28 (by decide) (fun c_3 => ?_) (fun c_3 => ?_)
      · have hf := kIf hf c_3
        have t_3 := ti_ne c_3
        refine lv_iload_n hx hb dX7_ofSeen_35 rfl (lv_at hl 0 rfl) ?_
        refine lv_if_ge (tgt := 44) hx hb dX7_ofSeen_36 (by decide) (fun c_4 => ?_) (fun c_4 => ?_)
        · have hf := kIt hf c_4
          have t_4 := ti_le c_4
          refine lv_iload_n hx hb dX7_ofSeen_44 rfl (lv_at hl 0 rfl) ?_
          refine lv_aload_n hx hb dX7_ofSeen_45 rfl (lv_at hl 1 rfl) ?_
          refine va_get (D := D) (cl := vwCl) (ci := 6) (v := .int (st 0 1)) (C := RX7) (T := TX7) (N := 34) hx hb hts inX7 hown hK.1 hP 0 (mO h ad ct st) rfl 1 (by decide) hw2 (fun _ h => h) (mF_1 ad st) dX7_ofSeen_46 ?_
          have hM : kC l D ct z yX7_far wsX7_far 1 21 [.int y14, .int (st 0 1)] ([]) (some (.int (f_X7_far y14 (st 0 1)))) ([]) := k_X7_far l D ct z y14 (st 0 1)
          refine kS0 (As := [.int y14, .int (st 0 1)]) (rest := []) ⟨hx, hb, hml, hown, hts⟩ hM gX7_ofSeen_X7_far kyX7_far (by rw [hRf, hRl]; exact ⟨Nat.le_of_ble_eq_true rfl, Nat.le_of_ble_eq_true rfl⟩) hK hP hD hS hA rfl hl.1 rfl (st1 := [.int (f_X7_far y14 (st 0 1))]) rfl rfl ⟨Nat.zero_le _, Nat.zero_le _⟩ dX7_ofSeen_49 (fun H locs hP hD hS => ?_)
          exact kRetI hx hb hr hlk hP hD hS hf.symm rfl hQ dX7_ofSeen_52
        · have hf := kIf hf c_4
          have t_4 := ti_nle c_4
          refine lv_bipush (v := (-6 : Int32)) hx hb dX7_ofSeen_39 (by decide) ?_
          refine lv_goto (tgt := 52) hx hb dX7_ofSeen_41 (by decide) ?_
          exact kRetI hx hb hr hlk hP hD hS hf.symm rfl hQ dX7_ofSeen_52
      · have hf := kIt hf c_3
        have t_3 := ti_eq c_3
        refine lv_iload_n hx hb dX7_ofSeen_31 rfl (lv_at hl 0 rfl) ?_
        refine lv_goto (tgt := 52) hx hb dX7_ofSeen_32 (by decide) ?_
        exact kRetI hx hb hr hlk hP hD hS hf.symm rfl hQ dX7_ofSeen_52
    · have hf := kIt hf c_2
      have t_2 := ti_eq c_2
      refine lv_aload_n hx hb dX7_ofSeen_19 rfl (lv_at hl 1 rfl) ?_
      have hM : kC l D ct z yX7_seenMany wsX7_seenMany 3 65 [.ref h] (mW h ad ct st) (some (.int (f_X7_seenMany st))) (mW h ad ct st) := k_X7_seenMany l D ct z h ad st (by first | assumption | exact vin (by omega) (by omega) | omega)
      refine kV1 (As := []) (rest := []) ⟨hx, hb, hml, hown, hts⟩ hM gX7_ofSeen_X7_seenMany kyX7_seenMany (by rw [hRf, hRl]; exact ⟨Nat.le_of_ble_eq_true rfl, Nat.le_of_ble_eq_true rfl⟩) hK hP hD hS hA 0 (mO h ad ct st) rfl rfl rfl hl.1 rfl (st1 := [.int (f_X7_seenMany st)]) rfl rfl ⟨Nat.zero_le _, Nat.zero_le _⟩ dX7_ofSeen_20 (fun H locs hP hD hS => ?_)
      refine lv_goto (tgt := 52) hx hb dX7_ofSeen_23 (by decide) ?_
      exact kRetI hx hb hr hlk hP hD hS hf.symm rfl hQ dX7_ofSeen_52
  · have hf := kIf hf c_1
    have t_1 := ti_nle c_1
    refine lv_bipush (v := (-6 : Int32)) hx hb dX7_ofSeen_7 (by decide) ?_
    exact kRetI hx hb hr hlk hP hD hS hf.symm rfl hQ dX7_ofSeen_9
theorem kyX7_seen : kY yX7_seen cX7_seen 3 (some .int) wsX7_seen wsX7_seen.tail 1 := ⟨rfl, by decide, by decide, by decide +kernel⟩
set_option maxHeartbeats 4000000 in
set_option maxRecDepth 100000 in
theorem k_X7_seen (l : Launch) (D : va_G) (ct : ClassId × ClassId × ClassId) (z : Nat × Nat) (h : Nat) (ad : Nat → Nat) (x1 : Int32) (st : Nat → Nat → Int32) (hpad : 0 ≤ Int32.toInt (st 0 13) ∧ Int32.toInt (st 0 13) ≤ 60) (hwho : Int32.toInt (st 0 4) < 6) : kC l D ct z yX7_seen wsX7_seen 8 171 [.ref h, .int x1] (mW h ad ct st) (some (.int ((f_X7_seen x1 st).1))) (mW h ad ct ((f_X7_seen x1 st).2)) := by
  refine kHead (cc := cX7_seen) (maxL := 3) (ret := (some .int)) [(0, .ref h), (1, .int x1)] (by decide) rfl (Nat.le_of_ble_eq_true rfl) rfl ?_
  intro p e s m args below meth c A ls R Q hRf hRl hQ hx hb hr hlk hml hown hts hA hS hK hP hD hl
  have hw1 := hts (Cond.constantLong RX7 208 (2)) (List.mem_of_getElem? (i := 1) (by decide +kernel))
  have kcm6 : (-6 : Int32).toInt = -6 := by decide
  have kcm2 : (-2 : Int32).toInt = -2 := by decide
  have kc0 : (0 : Int32).toInt = 0 := by decide
  have kl0 : (0 : Int64).toInt = 0 := by decide
  have kl2 : (2 : Int64).toInt = 2 := by decide
  have hf : f_X7_seen x1 st = f_X7_seen x1 st := rfl
  refine lv_iload_n hx hb dX7_seen_0 rfl (lv_at hl 1 rfl) ?_
  refine lv_i2l (v := (Int32.toInt64 x1)) hx hb dX7_seen_1 rfl ?_
  refine lv_lconst (v := (0 : Int64)) hx hb dX7_seen_2 (by decide) ?_
  refine lv_ldc2 (v := (2 : Int64)) hx hb hown hw1 dX7_seen_3 ?_
  have hM : kC l D ct z yX7_in wsX7_in 0 0 [.long (Int32.toInt64 x1), .long (0 : Int64), .long (2 : Int64)] ([]) (some (.int (f_X7_in (Int32.toInt64 x1) (0 : Int64) (2 : Int64)))) ([]) := k_X7_in l D ct z (Int32.toInt64 x1) (0 : Int64) (2 : Int64)
  refine kS0 (As := [.long (Int32.toInt64 x1), .long (0 : Int64), .long (2 : Int64)]) (rest := []) ⟨hx, hb, hml, hown, hts⟩ hM gX7_seen_X7_in kyX7_in (by rw [hRf, hRl]; exact ⟨Nat.le_of_ble_eq_true rfl, Nat.le_of_ble_eq_true rfl⟩) hK hP hD hS hA rfl hl.1 rfl (st1 := [.int (f_X7_in (Int32.toInt64 x1) (0 : Int64) (2 : Int64))]) rfl rfl ⟨Nat.zero_le _, Nat.zero_le _⟩ dX7_seen_6 (fun H locs hP hD hS => ?_)
  refine lv_if_ne (tgt := 15) hx hb dX7_seen_9 (by decide) (fun c_1 => ?_) (fun c_1 => ?_)
  · have hf := kIf hf c_1
    have t_1 := ti_ne c_1; have w_1 := in_nz c_1
    refine lv_aload_n hx hb dX7_seen_15 rfl (lv_at hl 0 rfl) ?_
    obtain ⟨q16, eq16⟩ : ∃ y, y = f_X7_refusal st := ⟨_, rfl⟩
    have hf := kLt hf eq16
    have g16 := refusal_post st hpad hwho
    rw [← eq16] at g16
    have hM : kC l D ct z yX7_refusal wsX7_refusal 7 151 [.ref h] (mW h ad ct st) (some (.int q16.1)) (mW h ad ct q16.2) := by rw [eq16]; exact k_X7_refusal l D ct z h ad st hpad hwho
    refine kV1 (As := []) (rest := []) ⟨hx, hb, hml, hown, hts⟩ hM gX7_seen_X7_refusal kyX7_refusal (by rw [hRf, hRl]; exact ⟨Nat.le_of_ble_eq_true rfl, Nat.le_of_ble_eq_true rfl⟩) hK hP hD hS hA 0 (mO h ad ct st) rfl rfl rfl hl.1 rfl (st1 := [.int q16.1]) rfl rfl ⟨Nat.zero_le _, Nat.zero_le _⟩ dX7_seen_16 (fun H locs hP hD hS => ?_)
    refine lv_istore_n (lv' := [(2, .int q16.1), (0, .ref h), (1, .int x1)]) hx hb dX7_seen_19 rfl hl (by decide) rfl (fun ls hl => ?_)
    refine lv_aload_n hx hb dX7_seen_20 rfl (lv_at hl 1 rfl) ?_
    refine lv_iload_n hx hb dX7_seen_21 rfl (lv_at hl 0 rfl) ?_
    refine lv_bipush (v := (-6 : Int32)) hx hb dX7_seen_22 (by decide) ?_
    refine kJn hf (fun j0 => ∀ (z36_s0 : Int32), f_X7_seen x1 st = j0 z36_s0 → ∀ (H : Heap) (locs : List Loc) (ls : Array Slot), va_P D vwCl (mW h ad ct q16.2) H → va_D A (mW h ad ct q16.2) → va_S A s.heap H locs → lv_has ls 3 [] → W p l e R s m args below meth c H locs 0 0 Q (F0 m 36 ls [.int z36_s0, .ref h])) ?_ ?_
    · intro j0 hj0 z36_s0  hf H locs ls hP hD hS hl
      subst hj0
      obtain ⟨q36, eq36⟩ : ∃ y, y = f_X7_back z36_s0 q16.2 := ⟨_, rfl⟩
      have hf := kLt hf eq36
      have hM : kC l D ct z yX7_back wsX7_back 0 0 [.ref h, .int z36_s0] (mW h ad ct q16.2) (some (.int q36.1)) (mW h ad ct q36.2) := by rw [eq36]; exact k_X7_back l D ct z h ad z36_s0 q16.2
      refine kV1 (As := [.int z36_s0]) (rest := []) ⟨hx, hb, hml, hown, hts⟩ hM gX7_seen_X7_back kyX7_back (by rw [hRf, hRl]; exact ⟨Nat.le_of_ble_eq_true rfl, Nat.le_of_ble_eq_true rfl⟩) hK hP hD hS hA 0 (mO h ad ct q16.2) rfl rfl rfl hl.1 rfl (st1 := [.int q36.1]) rfl rfl ⟨Nat.zero_le _, Nat.zero_le _⟩ dX7_seen_36 (fun H locs hP hD hS => ?_)
      exact kRetI hx hb hr hlk hP hD hS (kfst hf) ((congrArg (fun q => mW h ad ct q.2) hf).symm) hQ dX7_seen_39
    · intro j36 hJ36 hf
      refine lv_icmp_eq (tgt := 31) hx hb dX7_seen_24 (by decide) (fun c_2 => ?_) (fun c_2 => ?_)
      · have hf := kIt hf c_2
        have t_2 := ti_eq c_2
        refine lv_aload_n hx hb dX7_seen_31 rfl (lv_at hl 1 rfl) ?_
        refine lv_iload_n hx hb dX7_seen_32 rfl (lv_at hl 2 rfl) ?_
        have hM : kC l D ct z yX7_ofSeen wsX7_ofSeen 4 87 [.ref h, .int x1] (mW h ad ct q16.2) (some (.int (f_X7_ofSeen x1 q16.2))) (mW h ad ct q16.2) := k_X7_ofSeen l D ct z h ad x1 q16.2 g16
        refine kV1 (As := [.int x1]) (rest := [.ref h]) ⟨hx, hb, hml, hown, hts⟩ hM gX7_seen_X7_ofSeen kyX7_ofSeen (by rw [hRf, hRl]; exact ⟨Nat.le_of_ble_eq_true rfl, Nat.le_of_ble_eq_true rfl⟩) hK hP hD hS hA 0 (mO h ad ct q16.2) rfl rfl rfl hl.1 rfl (st1 := [.int (f_X7_ofSeen x1 q16.2), .ref h]) rfl rfl ⟨Nat.zero_le _, Nat.zero_le _⟩ dX7_seen_33 (fun H locs hP hD hS => ?_)
        exact hJ36 _  hf _ _ _ hP hD hS (lv_sub hl [] rfl)
      · have hf := kIf hf c_2
        have t_2 := ti_ne c_2
        refine lv_iload_n hx hb dX7_seen_27 rfl (lv_at hl 0 rfl) ?_
        refine lv_goto (tgt := 36) hx hb dX7_seen_28 (by decide) ?_
        exact hJ36 _  hf _ _ _ hP hD hS (lv_sub hl [] rfl)
  · have hf := kIt hf c_1
    have t_1 := ti_eq c_1
    refine lv_bipush (v := (-2 : Int32)) hx hb dX7_seen_12 (by decide) ?_
    exact kRetI hx hb hr hlk hP hD hS (kfst hf) ((congrArg (fun q => mW h ad ct q.2) hf).symm) hQ dX7_seen_14
theorem kyX7_silence : kY yX7_silence cX7_silence 3 (some .int) wsX7_silence wsX7_silence.tail 1 := ⟨rfl, by decide, by decide, by decide +kernel⟩
set_option maxHeartbeats 4000000 in
set_option maxRecDepth 100000 in
theorem k_X7_silence (l : Launch) (D : va_G) (ct : ClassId × ClassId × ClassId) (z : Nat × Nat) (h : Nat) (ad : Nat → Nat) (x1 : Int32) (st : Nat → Nat → Int32) (hpad : 0 ≤ Int32.toInt (st 0 13) ∧ Int32.toInt (st 0 13) ≤ 60) (hwho : Int32.toInt (st 0 4) < 6) : kC l D ct z yX7_silence wsX7_silence 8 171 [.ref h, .int x1] (mW h ad ct st) (some (.int ((f_X7_silence x1 st).1))) (mW h ad ct ((f_X7_silence x1 st).2)) := by
  refine kHead (cc := cX7_silence) (maxL := 3) (ret := (some .int)) [(0, .ref h), (1, .int x1)] (by decide) rfl (Nat.le_of_ble_eq_true rfl) rfl ?_
  intro p e s m args below meth c A ls R Q hRf hRl hQ hx hb hr hlk hml hown hts hA hS hK hP hD hl
  have inX7 : ∀ w ∈ wsX70, w ∈ wsX7_silence := fun w h => (List.mem_cons_of_mem _ (List.mem_append_right _ h))
  have hw1 := hts (Cond.fieldLink RX7 189 "MastPulpitsModel" "silentAct" "I") (List.mem_of_getElem? (i := 1) (by decide +kernel))
  have hw2 := hts (Cond.fieldLink RX7 161 "MastPulpitsModel" "calls" "I") (List.mem_of_getElem? (i := 2) (by decide +kernel))
  have kcm6 : (-6 : Int32).toInt = -6 := by decide
  have kcm2 : (-2 : Int32).toInt = -2 := by decide
  have kc0 : (0 : Int32).toInt = 0 := by decide
  have kl0 : (0 : Int64).toInt = 0 := by decide
  have kl1 : (1 : Int64).toInt = 1 := by decide
  have hf : f_X7_silence x1 st = f_X7_silence x1 st := rfl
  refine lv_iload_n hx hb dX7_silence_0 rfl (lv_at hl 1 rfl) ?_
  refine lv_i2l (v := (Int32.toInt64 x1)) hx hb dX7_silence_1 rfl ?_
  refine lv_lconst (v := (0 : Int64)) hx hb dX7_silence_2 (by decide) ?_
  refine lv_lconst (v := (1 : Int64)) hx hb dX7_silence_3 (by decide) ?_
  have hM : kC l D ct z yX7_in wsX7_in 0 0 [.long (Int32.toInt64 x1), .long (0 : Int64), .long (1 : Int64)] ([]) (some (.int (f_X7_in (Int32.toInt64 x1) (0 : Int64) (1 : Int64)))) ([]) := k_X7_in l D ct z (Int32.toInt64 x1) (0 : Int64) (1 : Int64)
  refine kS0 (As := [.long (Int32.toInt64 x1), .long (0 : Int64), .long (1 : Int64)]) (rest := []) ⟨hx, hb, hml, hown, hts⟩ hM gX7_silence_X7_in kyX7_in (by rw [hRf, hRl]; exact ⟨Nat.le_of_ble_eq_true rfl, Nat.le_of_ble_eq_true rfl⟩) hK hP hD hS hA rfl hl.1 rfl (st1 := [.int (f_X7_in (Int32.toInt64 x1) (0 : Int64) (1 : Int64))]) rfl rfl ⟨Nat.zero_le _, Nat.zero_le _⟩ dX7_silence_4 (fun H locs hP hD hS => ?_)
  refine lv_if_ne (tgt := 13) hx hb dX7_silence_7 (by decide) (fun c_1 => ?_) (fun c_1 => ?_)
  · have hf := kIf hf c_1
    have t_1 := ti_ne c_1; have w_1 := in_nz c_1
    refine lv_aload_n hx hb dX7_silence_13 rfl (lv_at hl 0 rfl) ?_
    refine lv_aload_n hx hb dX7_silence_14 rfl (lv_at hl 0 rfl) ?_
    obtain ⟨q15, eq15⟩ : ∃ y, y = f_X7_refusal st := ⟨_, rfl⟩
    have hf := kLt hf eq15
    have hM : kC l D ct z yX7_refusal wsX7_refusal 7 151 [.ref h] (mW h ad ct st) (some (.int q15.1)) (mW h ad ct q15.2) := by rw [eq15]; exact k_X7_refusal l D ct z h ad st (by first | assumption | exact vin (by omega) (by omega) | omega) (by first | assumption | exact vin (by omega) (by omega) | omega)
    refine kV1 (As := []) (rest := [.ref h]) ⟨hx, hb, hml, hown, hts⟩ hM gX7_silence_X7_refusal kyX7_refusal (by rw [hRf, hRl]; exact ⟨Nat.le_of_ble_eq_true rfl, Nat.le_of_ble_eq_true rfl⟩) hK hP hD hS hA 0 (mO h ad ct st) rfl rfl rfl hl.1 rfl (st1 := [.int q15.1, .ref h]) rfl rfl ⟨Nat.zero_le _, Nat.zero_le _⟩ dX7_silence_15 (fun H locs hP hD hS => ?_)
    obtain ⟨q18, eq18⟩ : ∃ y, y = f_X7_back q15.1 q15.2 := ⟨_, rfl⟩
    have hf := kLt hf eq18
    have hM : kC l D ct z yX7_back wsX7_back 0 0 [.ref h, .int q15.1] (mW h ad ct q15.2) (some (.int q18.1)) (mW h ad ct q18.2) := by rw [eq18]; exact k_X7_back l D ct z h ad q15.1 q15.2
    refine kV1 (As := [.int q15.1]) (rest := []) ⟨hx, hb, hml, hown, hts⟩ hM gX7_silence_X7_back kyX7_back (by rw [hRf, hRl]; exact ⟨Nat.le_of_ble_eq_true rfl, Nat.le_of_ble_eq_true rfl⟩) hK hP hD hS hA 0 (mO h ad ct q15.2) rfl rfl rfl hl.1 rfl (st1 := [.int q18.1]) rfl rfl ⟨Nat.zero_le _, Nat.zero_le _⟩ dX7_silence_18 (fun H locs hP hD hS => ?_)
    refine lv_istore_n (lv' := [(2, .int q18.1), (0, .ref h), (1, .int x1)]) hx hb dX7_silence_21 rfl hl (by decide) rfl (fun ls hl => ?_)
    refine lv_iload_n hx hb dX7_silence_22 rfl (lv_at hl 0 rfl) ?_
    refine lv_bipush (v := (-6 : Int32)) hx hb dX7_silence_23 (by decide) ?_
    refine lv_icmp_eq (tgt := 32) hx hb dX7_silence_25 (by decide) (fun c_2 => ?_) (fun c_2 => ?_)
    · have hf := kIt hf c_2
      have t_2 := ti_eq c_2
      refine lv_iload_n hx hb dX7_silence_32 rfl (lv_at hl 2 rfl) ?_
      refine lv_if_ne (tgt := 43) hx hb dX7_silence_33 (by decide) (fun c_3 => ?_) (fun c_3 => ?_)
      · have hf := kIf hf c_3
        have t_3 := ti_ne c_3
        refine lv_aload_n hx hb dX7_silence_43 rfl (lv_at hl 1 rfl) ?_
        refine va_get (D := D) (cl := vwCl) (ci := 6) (v := .int (q18.2 0 18)) (C := RX7) (T := TX7) (N := 34) hx hb hts inX7 hown hK.1 hP 0 (mO h ad ct q18.2) rfl 18 (by decide) hw2 (fun _ h => h) (mF_18 ad q18.2) dX7_silence_44 ?_
        exact kRetI hx hb hr hlk hP hD hS (kfst hf) ((congrArg (fun q => mW h ad ct q.2) hf).symm) hQ dX7_silence_47
      · have hf := kIt hf c_3
        have t_3 := ti_eq c_3
        refine lv_aload_n hx hb dX7_silence_36 rfl (lv_at hl 1 rfl) ?_
        refine va_get (D := D) (cl := vwCl) (ci := 6) (v := .int (q18.2 0 23)) (C := RX7) (T := TX7) (N := 34) hx hb hts inX7 hown hK.1 hP 0 (mO h ad ct q18.2) rfl 23 (by decide) hw1 (fun _ h => h) (mF_23 ad q18.2) dX7_silence_37 ?_
        refine lv_goto (tgt := 47) hx hb dX7_silence_40 (by decide) ?_
        exact kRetI hx hb hr hlk hP hD hS (kfst hf) ((congrArg (fun q => mW h ad ct q.2) hf).symm) hQ dX7_silence_47
    · have hf := kIf hf c_2
      have t_2 := ti_ne c_2
      refine lv_iload_n hx hb dX7_silence_28 rfl (lv_at hl 0 rfl) ?_
      refine lv_goto (tgt := 47) hx hb dX7_silence_29 (by decide) ?_
      exact kRetI hx hb hr hlk hP hD hS (kfst hf) ((congrArg (fun q => mW h ad ct q.2) hf).symm) hQ dX7_silence_47
  · have hf := kIt hf c_1
    have t_1 := ti_eq c_1
    refine lv_bipush (v := (-2 : Int32)) hx hb dX7_silence_10 (by decide) ?_
    exact kRetI hx hb hr hlk hP hD hS (kfst hf) ((congrArg (fun q => mW h ad ct q.2) hf).symm) hQ dX7_silence_12
theorem kyX7_done : kY yX7_done cX7_done 2 (some .int) wsX7_done wsX7_done.tail 0 := ⟨rfl, by decide, by decide, by decide +kernel⟩
set_option maxHeartbeats 4000000 in
set_option maxRecDepth 100000 in
theorem k_X7_done (l : Launch) (D : va_G) (ct : ClassId × ClassId × ClassId) (z : Nat × Nat) (h : Nat) (ad : Nat → Nat) (st : Nat → Nat → Int32) (hpad : 0 ≤ Int32.toInt (st 0 13) ∧ Int32.toInt (st 0 13) ≤ 60) (hwho : Int32.toInt (st 0 4) < 6) : kC l D ct z yX7_done wsX7_done 8 171 [.ref h] (mW h ad ct st) (some (.int ((f_X7_done st).1))) (mW h ad ct ((f_X7_done st).2)) := by
  refine kHead (cc := cX7_done) (maxL := 2) (ret := (some .int)) [(0, .ref h)] (by decide) rfl (Nat.le_of_ble_eq_true rfl) rfl ?_
  intro p e s m args below meth c A ls R Q hRf hRl hQ hx hb hr hlk hml hown hts hA hS hK hP hD hl
  have inX7 : ∀ w ∈ wsX70, w ∈ wsX7_done := fun w h => (List.mem_cons_of_mem _ (List.mem_append_right _ h))
  have hw1 := hts (Cond.fieldLink RX7 111 "MastPulpitsModel" "padMany" "I") (List.mem_of_getElem? (i := 1) (by decide +kernel))
  have hw2 := hts (Cond.fieldLink RX7 114 "MastPulpitsModel" "acts" "I") (List.mem_of_getElem? (i := 2) (by decide +kernel))
  have kcm6 : (-6 : Int32).toInt = -6 := by decide
  have kc0 : (0 : Int32).toInt = 0 := by decide
  have hf : f_X7_done st = f_X7_done st := rfl
  refine lv_aload_n hx hb dX7_done_0 rfl (lv_at hl 0 rfl) ?_
  obtain ⟨q1, eq1⟩ : ∃ y, y = f_X7_refusal st := ⟨_, rfl⟩
  have hf := kLt hf eq1
  have hM : kC l D ct z yX7_refusal wsX7_refusal 7 151 [.ref h] (mW h ad ct st) (some (.int q1.1)) (mW h ad ct q1.2) := by rw [eq1]; exact k_X7_refusal l D ct z h ad st (by first | assumption | exact vin (by omega) (by omega) | omega) (by first | assumption | exact vin (by omega) (by omega) | omega)
  refine kV1 (As := []) (rest := []) ⟨hx, hb, hml, hown, hts⟩ hM gX7_done_X7_refusal kyX7_refusal (by rw [hRf, hRl]; exact ⟨Nat.le_of_ble_eq_true rfl, Nat.le_of_ble_eq_true rfl⟩) hK hP hD hS hA 0 (mO h ad ct st) rfl rfl rfl hl.1 rfl (st1 := [.int q1.1]) rfl rfl ⟨Nat.zero_le _, Nat.zero_le _⟩ dX7_done_1 (fun H locs hP hD hS => ?_)
  refine lv_istore_n (lv' := [(1, .int q1.1), (0, .ref h)]) hx hb dX7_done_4 rfl hl (by decide) rfl (fun ls hl => ?_)
  refine lv_iload_n hx hb dX7_done_5 rfl (lv_at hl 0 rfl) ?_
  refine lv_bipush (v := (-6 : Int32)) hx hb dX7_done_6 (by decide) ?_
  refine lv_icmp_eq (tgt := 17) hx hb dX7_done_8 (by decide) (fun c_1 => ?_) (fun c_1 => ?_)
  · have hf := kIt hf c_1
    have t_1 := ti_eq c_1
    refine lv_aload_n hx hb dX7_done_17 rfl (lv_at hl 1 rfl) ?_
    refine lv_iconst (v := (0 : Int32)) hx hb dX7_done_18 (by decide) ?_
    refine kPut (ci := 6) (C := RX7) (T := TX7) (N := 34) (ty := .int) (v := .int (0 : Int32)) (W1 := mW h ad ct (u2 q1.2 0 13 (0 : Int32))) hx hb hts inX7 tyX7 tyX7_ok nmX7 hown hK hP hD hS 0 (mO h ad ct q1.2) rfl 13 (by decide) hw1 (fun _ h => h) rfl (by decide +kernel) rfl rfl (mLn 13 ad q1.2 (by decide)) (mS_13 h ad ct q1.2 (0 : Int32)) dX7_done_19 (fun H locs hP hD hS => ?_)
    refine lv_aload_n hx hb dX7_done_22 rfl (lv_at hl 1 rfl) ?_
    refine va_get (D := D) (cl := vwCl) (ci := 6) (v := .int (q1.2 0 16)) (C := RX7) (T := TX7) (N := 34) hx hb hts inX7 hown hK.1 hP 0 (mO h ad ct (u2 q1.2 0 13 (0 : Int32))) rfl 16 (by decide) hw2 (fun _ h => h) (mF_16 ad (u2 q1.2 0 13 (0 : Int32))) dX7_done_23 ?_
    exact kRetI hx hb hr hlk hP hD hS (kfst hf) ((congrArg (fun q => mW h ad ct q.2) hf).symm) hQ dX7_done_26
  · have hf := kIf hf c_1
    have t_1 := ti_ne c_1
    refine lv_aload_n hx hb dX7_done_11 rfl (lv_at hl 1 rfl) ?_
    refine lv_iload_n hx hb dX7_done_12 rfl (lv_at hl 0 rfl) ?_
    obtain ⟨q13, eq13⟩ : ∃ y, y = f_X7_back q1.1 q1.2 := ⟨_, rfl⟩
    have hf := kLt hf eq13
    have hM : kC l D ct z yX7_back wsX7_back 0 0 [.ref h, .int q1.1] (mW h ad ct q1.2) (some (.int q13.1)) (mW h ad ct q13.2) := by rw [eq13]; exact k_X7_back l D ct z h ad q1.1 q1.2
    refine kV1 (As := [.int q1.1]) (rest := []) ⟨hx, hb, hml, hown, hts⟩ hM gX7_done_X7_back kyX7_back (by rw [hRf, hRl]; exact ⟨Nat.le_of_ble_eq_true rfl, Nat.le_of_ble_eq_true rfl⟩) hK hP hD hS hA 0 (mO h ad ct q1.2) rfl rfl rfl hl.1 rfl (st1 := [.int q13.1]) rfl rfl ⟨Nat.zero_le _, Nat.zero_le _⟩ dX7_done_13 (fun H locs hP hD hS => ?_)
    exact kRetI hx hb hr hlk hP hD hS (kfst hf) ((congrArg (fun q => mW h ad ct q.2) hf).symm) hQ dX7_done_16
